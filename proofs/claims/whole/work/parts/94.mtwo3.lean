section MTWO3
variable {fu a F : Nat} {V : Vw} {W N : Int} {L : Nat → List Ln}
theorem m33 {Z X : Mem} {w i : Nat} {p oo c0 h1 h0 : Int32} (hi : i < 4) (i2 : i ≠ 2) (hX : wr (wr Z 176 0 (nI i)) 176 1 oo = X) (can : m_X6_canMove X 0 = some c0) (ch1 : m_X6_chanceOf X 0 1 oo = some h1) (ch0 : m_X6_chanceOf X 0 0 (nI i) = some h0) :
    b_X6_findsTwo_33 fu p (nI a) (nI w) oo (nI i, Z) = j_X6_findsTwo_119i fu X p (nI a) (nI w) oo (nI i) (if c0 = 0 then 0 else if nI i = 3 then h1 else 0) (if c0 = 0 then 0 else if oo = 2 then h0 else 0) := by
  have low : ∀ t : Int32, j_X6_findsTwo_94i fu X p (nI a) (nI w) oo (nI i) c0 t = j_X6_findsTwo_119i fu X p (nI a) (nI w) oo (nI i) t (if c0 = 0 then 0 else if oo = 2 then h0 else 0) := by
    intro t
    unfold j_X6_findsTwo_94i j_X6_findsTwo_118i
    rw [ch0, some_bind]
    by_cases o2 : oo = 2
    · rw [if_pos o2, if_pos o2]
      by_cases c : c0 = 0
      · rw [if_pos c, if_pos c]
      · rw [if_neg c, if_neg c]
    · rw [if_neg o2, if_neg o2, ite_self]
  unfold b_X6_findsTwo_33
  rw [un2_is, if_neg (show ¬ (4 : Int32) ≤ nI i from nI_ge (b := 4) hi (by decide)), if_neg (show ¬ nI i = 2 from fun y => i2 (nI_inj (a := i) (b := 2) (by omega) (by decide) y)), ix_0, ix_1, bnd_e, bnd_e, hX, can, some_bind]
  unfold j_X6_findsTwo_93i
  rw [ch1, some_bind, low, low]
  by_cases i3 : nI i = 3
  · rw [if_pos i3, if_pos i3]
    by_cases c : c0 = 0
    · rw [if_pos c, if_pos c, if_pos c]
    · rw [if_neg c, if_neg c, if_neg c]
  · rw [if_neg i3, if_neg i3, ite_self]
theorem mrow_is {w : Nat} {p : Int32} {M : Mem} {l : Nat → Int64} (hfu : 20 ≤ fu) (hV : vM M = wV V a w) (h : Vok (wV V a w) 2 W N) (hW : W ≤ 100000) (hw : w ≤ a) (ha6 : a ≤ 60) (hF : F ≤ 5) (h9 : V 162 9 = nI F) (hl : ∀ x, x ≤ a → rdl M 177 x = l x) : ∃ M', lp (b_X6_findsTwo_33 fu p (nI a) (nI w) (oth V a L w)) fu (0, M) = some M' ∧ rdl M' 178 w = (b3F (fdS V a F L p l w)).1 ∧ rd M' 179 w = (b3F (fdS V a F L p l w)).2 ∧ (∀ k j, k ≠ 176 → ¬ (k = 179 ∧ j = w) → rd M' k j = rd M k j) ∧ ∀ k j, ¬ (k = 178 ∧ j = w) → rdl M' k j = rdl M k j := by
  have hn := h.1.1
  have hh := h.heavy
  have hd := h.2.2.2.2.1
  refine mrowF hfu (fun i Z hi z2 z3 => ?_)
  generalize hX : wr (wr Z 176 0 (nI i)) 176 1 (oth V a L w) = X
  have x0 : rd X 176 0 = nI i := by rw [← hX, wr_sp (by omega), rd_we, if_pos ⟨rfl, rfl⟩]
  have x1 : rd X 176 1 = oth V a L w := by rw [← hX, rd_we, if_pos ⟨rfl, rfl⟩]
  have xr : ∀ k j, k ≠ 176 → rd X k j = rd Z k j := fun k j q => by rw [← hX, wr_sp (by omega), wr_sp (by omega)]
  have xl : ∀ k j, rdl X k j = rdl Z k j := fun k j => by rw [← hX]; rfl
  have xv : vM X = wV V a w := (vM_eqs (fun k j q => by rw [xr _ _ (by unfold keepW at q; omega), z2 _ _ (by unfold keepW at q; omega) (by unfold keepW at q; omega)])).trans hV
  have x9 : rd X 162 9 = nI F := by
    rw [m_at xv (k := 162) (by decide) (by decide) (by decide)]
    unfold wV
    rw [vs_nk (by decide), vs_nk (by decide)]; exact h9
  refine ⟨X, xr, xl, ?_⟩
  have val : m_X6_valueOf X 0 = some (mS2 V a L w (nI i)) := by
    have t := mval_is (f := 0) (n := 2) xv h hW (by decide) (by rw [x0]; rcases hi with rfl | rfl | rfl <;> simp [nI3])
    rw [show lfN 2 0 = 1 by decide, show rtN 2 0 = 1 by decide, x0, x1] at t
    unfold mS2
    exact t
  have can : m_X6_canMove X 0 = some (tf (wV V a w 157 0 = 0 ∧ ¬ wV V a w 162 9 ≤ 0 ∧ ¬ wV V a w 149 0 ≤ 0 ∧ ¬ wV V a w 149 1 ≤ 0)) := mcan_is (b := 0) (n := 2) xv hn (by decide) (by decide)
  have ch1 : m_X6_chanceOf X 0 1 (oth V a L w) = some (chS (wV V a w) 0 1 (oth V a L w = 1)) := mch_is (b := 0) (o := 1) xv (by decide) (by decide) (hh 0 (by decide)) (hd 1 (by decide)) _
  have ch0 : m_X6_chanceOf X 0 0 (nI i) = some (chS (wV V a w) 0 0 (nI i = 1)) := mch_is (b := 0) (o := 0) xv (by decide) (by decide) (hh 0 (by decide)) (hd 0 (by decide)) _
  have nx := mnext_is (M := X) (w := w) (c := cS2 V a L w (nI i)) (e := eS2 V a L w (nI i)) (l := l) x9 hw ha6 hF (cS_bd h) (eS_bd h) (fun x hx => by rw [xl, z3 _ _ (by omega)]; exact hl x hx)
  rw [m33 (by omega) (by omega) hX can ch1 ch0]
  have ec : (if tf (wV V a w 157 0 = 0 ∧ ¬ wV V a w 162 9 ≤ 0 ∧ ¬ wV V a w 149 0 ≤ 0 ∧ ¬ wV V a w 149 1 ≤ 0) = 0 then 0 else if nI i = 3 then chS (wV V a w) 0 1 (oth V a L w = 1) else 0) = cS2 V a L w (nI i) := by unfold cS2; rfl
  have ee : (if tf (wV V a w 157 0 = 0 ∧ ¬ wV V a w 162 9 ≤ 0 ∧ ¬ wV V a w 149 0 ≤ 0 ∧ ¬ wV V a w 149 1 ≤ 0) = 0 then 0 else if oth V a L w = 2 then chS (wV V a w) 0 0 (nI i = 1) else 0) = eS2 V a L w (nI i) := by unfold eS2; rfl
  rw [ec, ee]
  exact m119 (by omega) val nx (by unfold fdS; rfl)
end MTWO3
