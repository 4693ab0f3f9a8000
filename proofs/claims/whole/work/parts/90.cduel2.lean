section CDUEL2
variable {fu a F : Nat} {V : Vw} {W N : Int} {L : Nat → List Ln}
theorem Fil.fr {M M' : Mem} {w : Nat} (h : Fil V a L w M) (hf : ∀ k j, 137 ≤ k → k < 146 → rd M' k j = rd M k j) : Fil V a L w M' := fun i hi x hx => by
  rw [hf _ _ (by omega) (by omega), hf _ _ (by omega) (by omega), hf _ _ (by omega) (by omega)]
  exact h i hi x hx
theorem cprepare {M : Mem} {V0 : Vw} (hfu : 500 ≤ fu) (hV : vC 74 M = V0) (h0 : Vok V0 2 W N) (hW : W ≤ 100000) (ha : V0 149 0 + V0 149 1 = nI a) (ha6 : a ≤ 60) (hL : LawsC M 74 L) (hO : LawsOk L) : ∃ M', m_X1_prepare fu 74 M (nI a) = some M' ∧ Fil (vs V0 157 1 1) a L (a + 1) M' ∧ rd M' 130 6 = nI a ∧ rd M' 130 7 = V0 162 9 := by
  generalize hVV : vs V0 157 1 1 = V
  have hok : Vok V 2 W N := by rw [← hVV]; exact h0.setWall (Or.inr rfl)
  have ha2 : V 149 0 + V 149 1 = nI a := by rw [← hVV, vs_nk (by decide), vs_nk (by decide)]; exact ha
  have h69 : V 162 9 = V0 162 9 := by rw [← hVV, vs_nk (by decide)]
  generalize hX : wr (wr (wr M 130 6 (nI a)) 130 7 (V0 162 9)) (74 + 18 + 1) 0 1 = X
  have x6 : rd X 130 6 = nI a := by rw [← hX, wr_sp (by omega), wr_sp (by omega), rd_we, if_pos ⟨rfl, rfl⟩]
  have x7 : rd X 130 7 = V0 162 9 := by rw [← hX, wr_sp (by omega), rd_we, if_pos ⟨rfl, rfl⟩]
  have xv : vC 74 X = V := by rw [← hX, w_stake (by decide) (by decide), w_out (by omega), w_out (by omega), hV, ← hVV]
  have xl : LawsC X 74 L := LawsC_eq (fun k j q1 q2 => by rw [← hX, wr_sp (by omega), wr_sp (by omega), wr_sp (by omega)]) hL
  obtain ⟨M', e, r⟩ := lp_up (body := b_X1_prepare_27 fu 74) (a + 1) (fun w s => ∃ Z, s = (nI w, Z) ∧ vs (vs (vC 74 Z) 149 0 0) 149 1 0 = vs (vs V 149 0 0) 149 1 0 ∧ LawsC Z 74 L ∧ Fil V a L w Z ∧ rd Z 130 6 = nI a ∧ rd Z 130 7 = V0 162 9) (fun M' => Fil V a L (a + 1) M' ∧ rd M' 130 6 = nI a ∧ rd M' 130 7 = V0 162 9) (by
    rintro w s hw ⟨Z, rfl, z1, z2, z3, z4, z5⟩
    left
    have hokw := hok.two ha2 ha6 (show w ≤ a by omega) hW
    generalize hY : wr (wr Z (74 + 8 + 0) 0 (nI w)) (74 + 8 + 1) 0 (nI (a - w)) = Y
    have yv : vC 74 Y = wV V a w := by
      rw [← hY, w_land (by decide) (by decide) (by decide), w_land (by decide) (by decide) (by decide)]
      exact wV_2 V _ _ _ 0 0 z1
    have yl : LawsC Y 74 L := LawsC_eq (fun k j q1 q2 => by rw [← hY, wr_sp (by omega), wr_sp (by omega)]) z2
    obtain ⟨A, a1, a2⟩ := cdoes_is (f := 1) hfu yv hokw hW yl hO (by decide)
    have av : vC 74 A = wV V a w := a2.vC.trans yv
    have al : LawsC A 74 L := LawsC_eq (fun k j q1 q2 => a2.1 _ _ (by omega)) yl
    have aF : Fil V a L w A := (z3.fr (fun k j q1 q2 => by rw [← hY, wr_sp (by omega), wr_sp (by omega)])).fr (fun k j q1 q2 => a2.1 _ _ (by omega))
    obtain ⟨B, b1, b2, b3, b4⟩ := cprep_row (fu := fu) (a := a) (V := V) (L := L) (by omega) av hokw (by omega) aF
    refine ⟨(nI (w + 1), B), ?_, B, rfl, ?_, ?_, b3, ?_, ?_⟩
    · unfold b_X1_prepare_27
      rw [un2_is, z4, if_neg (nI_nlt (by omega) (by omega)), ix_0, ix_1, bnd_e, wr_sp (by omega), z4, pk_sub (by omega), bnd_e, hY, show m_X4_does fu 74 Y 1 = some (oth V a L w, A) from a1, some_bind, un2_is, show m_X0_canMove 74 A 0 0 1 = some (tf (wV V a w 157 0 = 0 ∧ ¬ wV V a w 162 9 ≤ 0 ∧ ¬ wV V a w 149 0 ≤ 0 ∧ ¬ wV V a w 149 1 ≤ 0)) from ccan_is (b := 0) (f := 0) (o := 1) av (by decide) (by decide) (by decide), some_bind, b1, some_bind, un1_is, bnd_e, nI_1]
    · rw [b2]
      unfold wV
      funext k j
      simp only [vs]; grind
    · exact LawsC_eq (fun k j q1 q2 => b4 _ _ (by omega)) al
    · rw [b4 _ _ (by omega), a2.1 _ _ (by omega), ← hY, wr_sp (by omega), wr_sp (by omega)]; exact z4
    · rw [b4 _ _ (by omega), a2.1 _ _ (by omega), ← hY, wr_sp (by omega), wr_sp (by omega)]; exact z5) (by
    rintro s ⟨Z, rfl, z1, z2, z3, z4, z5⟩
    refine ⟨Z, ?_, z3, z4, z5⟩
    unfold b_X1_prepare_27
    rw [un2_is, z4, if_pos (nI_lt (by omega) (by omega))]) fu 0 (0, X) (Nat.zero_le _) (by omega) ⟨X, rfl, by rw [xv], xl, fun i hi x hx => absurd hx (Nat.not_lt_zero _), x6, x7⟩
  refine ⟨M', ?_, r⟩
  unfold m_X1_prepare
  rw [bnd_e, show rd (wr M 130 6 (nI a)) (74 + 1) (ix 9) = V0 162 9 by rw [wr_sp (by omega), ix_9]; exact c_set hV (by decide), bnd_e, ix_1, ix_0, bnd_e, hX, e, some_bind, un1_is]
theorem mn_is {x y : Nat} (hx : x < 2 ^ 31) (hy : y < 2 ^ 31) : (if nI x < nI y then nI x else nI y) = nI (min y x) := by
  by_cases c : x < y
  · rw [if_pos (nI_lt c hy), Nat.min_eq_right (by omega)]
  · rw [if_neg (nI_nlt (by omega) hx), Nat.min_eq_left (by omega)]
theorem cnext_is {M : Mem} {i w : Nat} {l : Nat → Int64} (hi : i < 3) (hw : w ≤ a) (ha6 : a ≤ 60) (hF : F ≤ 5) (h6 : rd M 130 6 = nI a) (h7 : rd M 130 7 = nI F) (hfil : Fil V a L (a + 1) M) (hl : ∀ x, x ≤ a → rdl M 131 x = l x) : m_X1_comesNext M (nI i) (nI w) = some (nxS F a w (cS2 V a L w (ownS i)) (eS2 V a L w (ownS i)) l) := by
  obtain ⟨f1, f2, f3⟩ := hfil i hi w (by omega)
  have g1 : min F (a - w) ≤ a - w := Nat.min_le_right _ _
  have g2 : min F w ≤ w := Nat.min_le_right _ _
  unfold m_X1_comesNext
  rw [chk_is (inb_nI hi (by decide)), chk_is (inb_nI (by omega) (by decide)), ix_nI (by omega), ix_nI (by omega), f2, f3, h6, h7, pk_sub hw, bnd_e, bnd_e, mn_is (by omega) (by omega), bnd_e, mn_is (by omega) (by omega), bnd_e, nI_add, pk_sub (by omega), pk_sub (by omega), chk_is (inb_nI (by omega) (by decide)), chk_is (inb_nI (by omega) (by decide)), chk_is (inb_nI (by omega) (by decide)), ix_nI (by omega), ix_nI (by omega), ix_nI (by omega), bnd_e, hl _ (by omega), hl _ (by omega), hl _ (by omega), hl _ hw, cfl_is (by decide) (by decide), some_bind]
  rfl
noncomputable def acS (V : Vw) (a F : Nat) (L : Nat → List Ln) (p : Int32) (l : Nat → Int64) (w : Nat) : Nat → Int64 × Int32
  | 0 => (0, 0)
  | 1 => (fdS V a F L p l w (ownS 0), ownS 0)
  | i + 2 => pkS (acS V a F L p l w (i + 1)) (fdS V a F L p l w (ownS (i + 1))) (ownS (i + 1))
theorem ac_b3 (V : Vw) (a F : Nat) (L : Nat → List Ln) (p : Int32) (l : Nat → Int64) (w : Nat) : acS V a F L p l w 3 = b3S V a F L p l w := by
  show pkS (pkS (fdS V a F L p l w (ownS 0), ownS 0) (fdS V a F L p l w (ownS 1)) (ownS 1)) (fdS V a F L p l w (ownS 2)) (ownS 2) = _
  rw [show ownS 0 = 0 from ways.1, show ownS 1 = 1 from ways.2.1, show ownS 2 = 3 from ways.2.2]
  rfl
theorem cchoose_is {M : Mem} {w : Nat} {p : Int32} {l : Nat → Int64} (hfu : 20 ≤ fu) (hw : w ≤ a) (ha6 : a ≤ 60) (hF : F ≤ 5) (h6 : rd M 130 6 = nI a) (h7 : rd M 130 7 = nI F) (hfil : Fil V a L (a + 1) M) (hl : ∀ x, x ≤ a → rdl M 131 x = l x) : ∃ M', m_X1_choose fu M (nI w) p = some M' ∧ rdl M' 133 w = (b3S V a F L p l w).1 ∧ rd M' 132 w = (b3S V a F L p l w).2 ∧ (∀ k j, ¬ (k = 132 ∧ j = w) → rd M' k j = rd M k j) ∧ ∀ k j, ¬ (k = 133 ∧ j = w) → rdl M' k j = rdl M k j := by
  obtain ⟨M', e, r⟩ := lp_up (body := b_X1_choose_2 fu (nI w) p) 3 (fun i s => ∃ Z, s = (nI i, Z) ∧ (i ≠ 0 → rdl Z 133 w = (acS V a F L p l w i).1 ∧ rd Z 132 w = (acS V a F L p l w i).2) ∧ (∀ k j, ¬ (k = 132 ∧ j = w) → rd Z k j = rd M k j) ∧ ∀ k j, ¬ (k = 133 ∧ j = w) → rdl Z k j = rdl M k j) (fun M' => rdl M' 133 w = (b3S V a F L p l w).1 ∧ rd M' 132 w = (b3S V a F L p l w).2 ∧ (∀ k j, ¬ (k = 132 ∧ j = w) → rd M' k j = rd M k j) ∧ ∀ k j, ¬ (k = 133 ∧ j = w) → rdl M' k j = rdl M k j) (by
    rintro i s hi ⟨Z, rfl, z1, z2, z3⟩
    left
    have zf : Fil V a L (a + 1) Z := hfil.fr (fun k j q1 q2 => z2 _ _ (by omega))
    have cn := cnext_is (M := Z) (l := l) hi hw ha6 hF (by rw [z2 _ _ (by omega)]; exact h6) (by rw [z2 _ _ (by omega)]; exact h7) zf (fun x hx => by rw [z3 _ _ (by omega)]; exact hl x hx)
    obtain ⟨f1, -, -⟩ := zf i hi w (by omega)
    have hbw := inb_nI (show w < 61 by omega) (by decide : 61 ≤ 2 ^ 31)
    have hb3 := inb_nI hi (by decide : 3 ≤ 2 ^ 31)
    have hxw := ix_nI (show w < 2 ^ 31 by omega)
    have hx := ix_nI (show i < 2 ^ 31 by omega)
    have set : j_X1_choose_57i fu Z (nI w) p (nI i) (fdS V a F L p l w (ownS i)) = some (.inl (nI (i + 1), wr (wrl Z 133 w (fdS V a F L p l w (ownS i))) 132 w (ownS i))) := by
      unfold j_X1_choose_57i
      rw [chk_is hbw, hxw, bnd_e, chk_is hb3, hx, bnd_e, bnd_e, nI_1]; rfl
    have pre : b_X1_choose_2 fu (nI w) p (nI i, Z) = if nI i = 0 then j_X1_choose_57i fu Z (nI w) p (nI i) (fdS V a F L p l w (ownS i)) else if lg_cmp (fdS V a F L p l w (ownS i)) (rdl Z 133 w) ≤ 0 then some (.inl (nI (i + 1), Z)) else j_X1_choose_57i fu Z (nI w) p (nI i) (fdS V a F L p l w (ownS i)) := by
      unfold b_X1_choose_2
      rw [un2_is, if_neg (show ¬ Int32.ofNat (stN 4) ≤ nI i from nI_ge (b := 3) hi (by decide)), chk_is hb3, chk_is hbw, cn, some_bind, cfl_is (by decide) (by decide), some_bind, hx, hxw, f1, bnd_e, bnd_e, nI_1]
      rfl
    have setd : ∃ s', j_X1_choose_57i fu Z (nI w) p (nI i) (fdS V a F L p l w (ownS i)) = some (.inl s') ∧ ∃ Z2, s' = (nI (i + 1), Z2) ∧ (rdl Z2 133 w = fdS V a F L p l w (ownS i) ∧ rd Z2 132 w = ownS i) ∧ (∀ k j, ¬ (k = 132 ∧ j = w) → rd Z2 k j = rd M k j) ∧ ∀ k j, ¬ (k = 133 ∧ j = w) → rdl Z2 k j = rdl M k j := by
      refine ⟨_, set, _, rfl, ⟨?_, ?_⟩, fun k j q => ?_, fun k j q => ?_⟩
      · rw [rdl_wr, rdl_wrl, if_pos ⟨rfl, rfl⟩]
      · rw [rd_we, if_pos ⟨rfl, rfl⟩]
      · rw [wr_sp q, rd_wrl]; exact z2 k j q
      · rw [rdl_wr, rdl_wrl, if_neg q]; exact z3 k j q
    rw [pre]
    by_cases i0 : i = 0
    · subst i0
      rw [if_pos (show nI 0 = 0 from rfl)]
      obtain ⟨s', e1, Z2, e2, e3, e4, e5⟩ := setd
      exact ⟨s', e1, Z2, e2, fun _ => e3, e4, e5⟩
    · rw [if_neg (show ¬ nI i = 0 from fun z => i0 (nI_inj (a := i) (b := 0) (by omega) (by decide) z))]
      obtain ⟨y1, y2⟩ := z1 i0
      obtain ⟨i', rfl⟩ : ∃ i', i = i' + 1 := ⟨i - 1, by omega⟩
      have acd : acS V a F L p l w (i' + 1 + 1) = pkS (acS V a F L p l w (i' + 1)) (fdS V a F L p l w (ownS (i' + 1))) (ownS (i' + 1)) := rfl
      rw [y1]
      unfold pkS at acd
      by_cases g : lg_cmp (fdS V a F L p l w (ownS (i' + 1))) (acS V a F L p l w (i' + 1)).1 ≤ 0
      · rw [if_pos g] at acd ⊢
        exact ⟨_, rfl, Z, rfl, fun _ => by rw [acd]; exact ⟨y1, y2⟩, z2, z3⟩
      · rw [if_neg g] at acd ⊢
        obtain ⟨s', e1, Z2, e2, e3, e4, e5⟩ := setd
        exact ⟨s', e1, Z2, e2, fun _ => by rw [acd]; exact e3, e4, e5⟩) (by
    rintro s ⟨Z, rfl, z1, z2, z3⟩
    refine ⟨Z, ?_, ?_, ?_, z2, z3⟩
    · unfold b_X1_choose_2
      rw [un2_is, if_pos (show Int32.ofNat (stN 4) ≤ nI 3 from nI_le (Nat.le_refl _) (by decide))]
    · rw [(z1 (by decide)).1, ac_b3]
    · rw [(z1 (by decide)).2, ac_b3]) fu 0 (0, M) (Nat.zero_le _) (by omega) ⟨M, rfl, fun z => absurd rfl z, fun _ _ _ => rfl, fun _ _ _ => rfl⟩
  refine ⟨M', ?_, r⟩
  unfold m_X1_choose
  rw [e, some_bind, un1_is]
end CDUEL2
