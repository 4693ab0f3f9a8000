/-! ===== two: the class ===== -/
section CDUEL
variable {fu a F : Nat} {V : Vw} {W N : Int} {L : Nat → List Ln}
theorem ways : stV 4 0 = 0 ∧ stV 4 1 = 1 ∧ stV 4 2 = 3 := by decide
def ownS (i : Nat) : Int32 := stV 4 i
/-- what is filled, up to width w -/
def Fil (V : Vw) (a : Nat) (L : Nat → List Ln) (w : Nat) (M : Mem) : Prop := ∀ i, i < 3 → ∀ x, x < w → rd M (137 + i) x = mS2 V a L x (ownS i) ∧ rd M (140 + i) x = cS2 V a L x (ownS i) ∧ rd M (143 + i) x = eS2 V a L x (ownS i)
theorem cprep_row {w : Nat} {M : Mem} (hfu : 20 ≤ fu) (hV : vC 74 M = wV V a w) (h : Vok (wV V a w) 2 W N) (hw : w ≤ 60) (hF : Fil V a L w M) : ∃ M', lp (b_X1_prepare_77 fu 74 (nI w) (oth V a L w) (tf (wV V a w 157 0 = 0 ∧ ¬ wV V a w 162 9 ≤ 0 ∧ ¬ wV V a w 149 0 ≤ 0 ∧ ¬ wV V a w 149 1 ≤ 0))) fu (0, M) = some M' ∧ vC 74 M' = wV V a w ∧ Fil V a L (w + 1) M' ∧ ∀ k j, ¬ (137 ≤ k ∧ k < 146) → rd M' k j = rd M k j := by
  have hn := h.1.1
  have hh := h.heavy
  refine lp_up 3 (fun i s => ∃ Z, s = (nI i, Z) ∧ vC 74 Z = wV V a w ∧ Fil V a L w Z ∧ (∀ j, j < i → rd Z (137 + j) w = mS2 V a L w (ownS j) ∧ rd Z (140 + j) w = cS2 V a L w (ownS j) ∧ rd Z (143 + j) w = eS2 V a L w (ownS j)) ∧ ∀ k j, ¬ (137 ≤ k ∧ k < 146) → rd Z k j = rd M k j) (fun M' => vC 74 M' = wV V a w ∧ Fil V a L (w + 1) M' ∧ ∀ k j, ¬ (137 ≤ k ∧ k < 146) → rd M' k j = rd M k j) ?_ ?_ fu 0 (0, M) (Nat.zero_le _) (by omega) ⟨M, rfl, hV, hF, fun j hj => absurd hj (Nat.not_lt_zero _), fun _ _ _ => rfl⟩
  · rintro i s hi ⟨Z, rfl, z1, z2, z3, z4⟩
    left
    generalize hO : oth V a L w = o
    generalize hC : tf (wV V a w 157 0 = 0 ∧ ¬ wV V a w 162 9 ≤ 0 ∧ ¬ wV V a w 149 0 ≤ 0 ∧ ¬ wV V a w 149 1 ≤ 0) = c
    have hx := ix_nI (show i < 2 ^ 31 by omega)
    have hb3 := inb_nI hi (by decide : 3 ≤ 2 ^ 31)
    have hbw := inb_nI (show w < 61 by omega) (by decide)
    have hxw := ix_nI (show w < 2 ^ 31 by omega)
    have em : mS2 V a L w (ownS i) = meanS (wV V a w) 2 0 o (ownS i) o := by unfold mS2; rw [hO]
    have ec : cS2 V a L w (ownS i) = if c = 0 then 0 else if ownS i = 3 then chS (wV V a w) 0 1 (o = 1) else 0 := by unfold cS2; rw [hC, hO]
    have ee : eS2 V a L w (ownS i) = if c = 0 then 0 else if o = 2 then chS (wV V a w) 0 0 (ownS i = 1) else 0 := by unfold eS2; rw [hC, hO]
    have fin : ∀ (Z1 : Mem), vC 74 Z1 = wV V a w → (∀ k j, ¬ (k = 137 + i ∧ j = w) → ¬ (k = 140 + i ∧ j = w) → rd Z1 k j = rd Z k j) → rd Z1 (137 + i) w = mS2 V a L w (ownS i) → rd Z1 (140 + i) w = cS2 V a L w (ownS i) → ∃ Z2, j_X1_prepare_195i fu 74 Z1 (nI w) o c (nI i) (143 + i) (nI w) (eS2 V a L w (ownS i)) = some (.inl (nI (i + 1), Z2)) ∧ vC 74 Z2 = wV V a w ∧ Fil V a L w Z2 ∧ (∀ j, j < i + 1 → rd Z2 (137 + j) w = mS2 V a L w (ownS j) ∧ rd Z2 (140 + j) w = cS2 V a L w (ownS j) ∧ rd Z2 (143 + j) w = eS2 V a L w (ownS j)) ∧ ∀ k j, ¬ (137 ≤ k ∧ k < 146) → rd Z2 k j = rd M k j := by
      intro Z1 v1 r1 r2 r3
      refine ⟨wr Z1 (143 + i) w (eS2 V a L w (ownS i)), ?_, ?_, fun j hj x hx => ?_, fun j hj => ?_, fun k j q => ?_⟩
      · unfold j_X1_prepare_195i
        rw [chk_is hbw, hxw, bnd_e, bnd_e, nI_1]
      · rw [w_out (by omega)]; exact v1
      · have := z2 j hj x hx
        rw [wr_sp (by omega), wr_sp (by omega), wr_sp (by omega), r1 _ _ (by omega) (by omega), r1 _ _ (by omega) (by omega), r1 _ _ (by omega) (by omega)]
        exact this
      · by_cases y : j = i
        · subst y
          refine ⟨?_, ?_, ?_⟩
          · rw [wr_sp (by omega)]; exact r2
          · rw [wr_sp (by omega)]; exact r3
          · rw [rd_we, if_pos ⟨rfl, rfl⟩]
        · have := z3 j (by omega)
          rw [wr_sp (by omega), wr_sp (by omega), wr_sp (by omega), r1 _ _ (by omega) (by omega), r1 _ _ (by omega) (by omega), r1 _ _ (by omega) (by omega)]
          exact this
      · rw [wr_sp (by omega), r1 _ _ (by omega) (by omega)]; exact z4 k j q
    have lose : ∀ (Z1 : Mem), vC 74 Z1 = wV V a w → (∀ k j, ¬ (k = 137 + i ∧ j = w) → rd Z1 k j = rd Z k j) → rd Z1 (137 + i) w = mS2 V a L w (ownS i) → ∃ Z2, j_X1_prepare_154i fu 74 Z1 (nI w) o c (nI i) (ownS i) (140 + i) (nI w) (cS2 V a L w (ownS i)) = some (.inl (nI (i + 1), Z2)) ∧ vC 74 Z2 = wV V a w ∧ Fil V a L w Z2 ∧ (∀ j, j < i + 1 → rd Z2 (137 + j) w = mS2 V a L w (ownS j) ∧ rd Z2 (140 + j) w = cS2 V a L w (ownS j) ∧ rd Z2 (143 + j) w = eS2 V a L w (ownS j)) ∧ ∀ k j, ¬ (137 ≤ k ∧ k < 146) → rd Z2 k j = rd M k j := by
      intro Z1 v1 r1 r2
      generalize hZ : wr Z1 (140 + i) w (cS2 V a L w (ownS i)) = Y
      have y1 : vC 74 Y = wV V a w := by rw [← hZ, w_out (by omega)]; exact v1
      have y2 : ∀ k j, ¬ (k = 137 + i ∧ j = w) → ¬ (k = 140 + i ∧ j = w) → rd Y k j = rd Z k j := fun k j q1 q2 => by rw [← hZ, wr_sp q2]; exact r1 k j q1
      have y3 : rd Y (137 + i) w = mS2 V a L w (ownS i) := by rw [← hZ, wr_sp (by omega)]; exact r2
      have y4 : rd Y (140 + i) w = cS2 V a L w (ownS i) := by rw [← hZ, rd_we, if_pos ⟨rfl, rfl⟩]
      have fn := fin Y y1 y2 y3 y4
      unfold j_X1_prepare_154i
      rw [chk_is hbw, hxw, bnd_e, hZ, chk_is hb3, hx]
      rw [ee] at fn
      by_cases c0 : c = 0
      · rw [if_pos c0] at fn ⊢
        unfold j_X1_prepare_194i
        exact fn
      · rw [if_neg c0] at fn ⊢
        by_cases o2 : o = 2
        · rw [if_pos o2] at fn ⊢
          unfold j_X1_prepare_188i
          have ch : ∀ x : Int32, m_X0_chance 74 Y 0 0 x = some (chS (wV V a w) 0 0 (x ≠ 0)) := fun x => cch_is (b := 0) (o := 0) y1 (by decide) (by decide) (hh 0 (by decide)) x
          by_cases o1 : ownS i = 1
          · rw [if_pos o1, ch, some_bind, chS_eq (p := (1 : Int32) ≠ 0) (q := ownS i = 1) (by rw [o1]; decide)]; exact fn
          · rw [if_neg o1, ch, some_bind, chS_eq (p := (0 : Int32) ≠ 0) (q := ownS i = 1) ⟨fun z => absurd rfl z, fun z => absurd z o1⟩]; exact fn
        · rw [if_neg o2] at fn ⊢
          unfold j_X1_prepare_194i
          exact fn
    generalize hZ1 : wr Z (137 + i) w (mS2 V a L w (ownS i)) = Y
    have y1 : vC 74 Y = wV V a w := by rw [← hZ1, w_out (by omega)]; exact z1
    have y2 : ∀ k j, ¬ (k = 137 + i ∧ j = w) → rd Y k j = rd Z k j := fun k j q1 => by rw [← hZ1, wr_sp q1]
    have y3 : rd Y (137 + i) w = mS2 V a L w (ownS i) := by rw [← hZ1, rd_we, if_pos ⟨rfl, rfl⟩]
    obtain ⟨Z2, l1, l2, l3, l4, l5⟩ := lose Y y1 y2 y3
    refine ⟨_, ?_, Z2, rfl, l2, l3, l4, l5⟩
    rw [ec] at l1
    unfold b_X1_prepare_77
    rw [un2_is, if_neg (show ¬ Int32.ofNat (stN 4) ≤ nI i from nI_ge (b := 3) hi (by decide)), chk_is hb3, hx, bnd_e]
    rw [show m_X0_mean 74 Z 0 o (stV 4 i) o = some (mS2 V a L w (ownS i)) by rw [em]; exact cmean_is (f := 0) (n := 2) z1 hn (by decide) (by decide) (by decide) hh o (stV 4 i) o]
    rw [some_bind, chk_is hbw, hxw, bnd_e, hZ1]
    by_cases c0 : c = 0
    · rw [if_pos c0] at l1 ⊢
      unfold j_X1_prepare_153i
      exact l1
    · rw [if_neg c0] at l1 ⊢
      by_cases o3 : stV 4 i = 3
      · rw [if_pos (show ownS i = 3 from o3)] at l1
        rw [if_pos o3]
        unfold j_X1_prepare_147i
        have ch : ∀ x : Int32, m_X0_chance 74 Y 0 1 x = some (chS (wV V a w) 0 1 (x ≠ 0)) := fun x => cch_is (b := 0) (o := 1) y1 (by decide) (by decide) (hh 0 (by decide)) x
        by_cases o1 : o = 1
        · rw [if_pos o1, ch, some_bind, chS_eq (p := (1 : Int32) ≠ 0) (q := o = 1) (by rw [o1]; decide)]; exact l1
        · rw [if_neg o1, ch, some_bind, chS_eq (p := (0 : Int32) ≠ 0) (q := o = 1) ⟨fun z => absurd rfl z, fun z => absurd z o1⟩]; exact l1
      · rw [if_neg (show ¬ ownS i = 3 from o3)] at l1
        rw [if_neg o3]
        unfold j_X1_prepare_153i
        exact l1
  · rintro s ⟨Z, rfl, z1, z2, z3, z4⟩
    refine ⟨Z, ?_, z1, fun i hi x hx => ?_, z4⟩
    · unfold b_X1_prepare_77
      rw [un2_is, if_pos (show Int32.ofNat (stN 4) ≤ nI 3 from nI_le (Nat.le_refl _) (by decide))]
    · by_cases y : x = w
      · rw [y]; exact z3 i hi
      · exact z2 i hi x (by omega)
end CDUEL
