section MTWO4
variable {fu a F : Nat} {V : Vw} {W N : Int} {L : Nat → List Ln}
theorem mfinds_is {M : Mem} {p : Int32} {l : Nat → Int64} (hfu : 500 ≤ fu) (hV : vs (vs (vM M) 149 0 0) 149 1 0 = vs (vs V 149 0 0) 149 1 0) (hok : Vok V 2 W N) (hW : W ≤ 100000) (ha : V 149 0 + V 149 1 = nI a) (ha6 : a ≤ 60) (hF : F ≤ 5) (h9 : V 162 9 = nI F) (hL : LawsM M L) (hO : LawsOk L) (hl : ∀ x, x ≤ a → rdl M 177 x = l x) : ∃ M', m_X6_findsTwo fu M p (nI a) = some M' ∧ vs (vs (vM M') 149 0 0) 149 1 0 = vs (vs V 149 0 0) 149 1 0 ∧ LawsM M' L ∧ ∀ x, x ≤ a → rdl M' 177 x = (b3F (fdS V a F L p l x)).1 ∧ rd M' 179 x = (b3F (fdS V a F L p l x)).2 := by
  obtain ⟨A, a1, a2, a3, a4⟩ := lp_up (body := b_X6_findsTwo_2 fu p (nI a)) (a + 1) (fun w s => ∃ Z, s = (nI w, Z) ∧ vs (vs (vM Z) 149 0 0) 149 1 0 = vs (vs V 149 0 0) 149 1 0 ∧ LawsM Z L ∧ (∀ x, x ≤ a → rdl Z 177 x = l x) ∧ ∀ x, x < w → rdl Z 178 x = (b3F (fdS V a F L p l x)).1 ∧ rd Z 179 x = (b3F (fdS V a F L p l x)).2) (fun Z => vs (vs (vM Z) 149 0 0) 149 1 0 = vs (vs V 149 0 0) 149 1 0 ∧ LawsM Z L ∧ ∀ x, x ≤ a → rdl Z 178 x = (b3F (fdS V a F L p l x)).1 ∧ rd Z 179 x = (b3F (fdS V a F L p l x)).2) (by
    rintro w s hw ⟨Z, rfl, z1, z2, z3, z4⟩
    left
    have hokw := hok.two ha ha6 (show w ≤ a by omega) hW
    generalize hY : wr (wr Z 149 0 (nI w)) 149 1 (nI (a - w)) = Y
    have yv : vM Y = wV V a w := by
      rw [← hY, vM_wr (by omega), vM_wr (by omega)]
      exact wV_2 V _ _ _ 0 0 z1
    have yl : LawsM Y L := LawsM_eq (fun k j q1 q2 => by rw [← hY, wr_sp (by omega), wr_sp (by omega)]) z2
    obtain ⟨B, b1, b2⟩ := mdoes_is (f := 1) hfu yv hokw hW yl hO (by decide)
    have bl := fr_m_X6_doingOf b1
    have brl : ∀ k j, rdl B k j = rdl Z k j := fun k j => by rw [bl.2 _ _ (fun z => z.elim), ← hY]; rfl
    have bv : vM B = wV V a w := (vM_eqs (fun k j q => b2 _ _ (by unfold keepW at q; omega) (by unfold keepW at q; omega))).trans yv
    obtain ⟨C, c1, c2, c3, c4, c5⟩ := mrow_is (fu := fu) (p := p) (l := l) (by omega) bv hokw hW (show w ≤ a by omega) ha6 hF h9 (fun x hx => by rw [brl]; exact z3 x hx)
    refine ⟨(nI (w + 1), C), ?_, C, rfl, ?_, LawsM_eq (fun k j q1 q2 => by rw [c4 _ _ (by omega) (by omega)]; exact b2 _ _ (by omega) (by omega)) yl, fun x hx => by rw [c5 _ _ (by omega), brl]; exact z3 x hx, fun x hx => ?_⟩
    · unfold b_X6_findsTwo_2
      rw [un2_is, if_neg (nI_nlt (by omega) (by omega)), ix_0, ix_1, bnd_e, pk_sub (by omega), bnd_e, hY, show m_X6_doingOf fu Y 1 = some (oth V a L w, B) from b1, some_bind, un2_is, c1, some_bind, un1_is, bnd_e, nI_1]
    · rw [(vM_eqs (fun k j q => c4 _ _ (by unfold keepW at q; omega) (by unfold keepW at q; omega))), bv]
      unfold wV
      funext k j
      simp only [vs]; grind
    · by_cases y : x = w
      · rw [y]; exact ⟨c2, c3⟩
      · rw [c5 _ _ (by omega), brl, c4 _ _ (by omega) (by omega), b2 _ _ (by omega) (by omega), ← hY, wr_sp (by omega), wr_sp (by omega)]
        exact z4 x (by omega)) (by
    rintro s ⟨Z, rfl, z1, z2, z3, z4⟩
    refine ⟨Z, ?_, z1, z2, fun x hx => z4 x (by omega)⟩
    unfold b_X6_findsTwo_2
    rw [un2_is, if_pos (nI_lt (by omega) (by omega))]) fu 0 (0, M) (Nat.zero_le _) (by omega) ⟨M, rfl, hV, hL, hl, fun x hx => absurd hx (Nat.not_lt_zero _)⟩
  obtain ⟨B, b1, b2, b3, b4⟩ := lp_up (body := b_X6_findsTwo_204 fu (nI a)) (a + 1) (fun w s => ∃ Z, s = (nI w, Z) ∧ (∀ k j, rd Z k j = rd A k j) ∧ (∀ x, x ≤ a → rdl Z 178 x = rdl A 178 x) ∧ ∀ x, x < w → rdl Z 177 x = rdl A 178 x) (fun Z => (∀ k j, rd Z k j = rd A k j) ∧ (∀ x, x ≤ a → rdl Z 178 x = rdl A 178 x) ∧ ∀ x, x ≤ a → rdl Z 177 x = rdl A 178 x) (by
    rintro w s hw ⟨Z, rfl, z1, z2, z3⟩
    left
    refine ⟨(nI (w + 1), wrl Z 177 w (rdl Z 178 w)), ?_, _, rfl, fun k j => by rw [rd_wrl]; exact z1 k j, fun x hx => by rw [rdl_wrl, if_neg (by omega)]; exact z2 x hx, fun x hx => ?_⟩
    · unfold b_X6_findsTwo_204
      rw [un2_is, if_neg (nI_nlt (by omega) (by omega)), chk_is (inb_nI (by omega) (by decide)), ix_nI (by omega), bnd_e, bnd_e, nI_1]
    · rw [rdl_wrl]
      by_cases y : x = w
      · rw [if_pos ⟨rfl, y⟩, y]; exact z2 w (by omega)
      · rw [if_neg (fun t => y t.2)]; exact z3 x (by omega)) (by
    rintro s ⟨Z, rfl, z1, z2, z3⟩
    refine ⟨Z, ?_, z1, z2, fun x hx => z3 x (by omega)⟩
    unfold b_X6_findsTwo_204
    rw [un2_is, if_pos (nI_lt (by omega) (by omega))]) fu 0 (0, A) (Nat.zero_le _) (by omega) ⟨A, rfl, fun _ _ => rfl, fun _ _ => rfl, fun x hx => absurd hx (Nat.not_lt_zero _)⟩
  refine ⟨B, ?_, ?_, LawsM_eq (fun k j _ _ => b2 k j) a3, fun x hx => ⟨by rw [b4 x hx]; exact (a4 x hx).1, by rw [b2]; exact (a4 x hx).2⟩⟩
  · unfold m_X6_findsTwo
    rw [a1, some_bind, un1_is, b1, some_bind, un1_is]
  · rw [vM_eqs (fun k j _ => b2 k j)]; exact a2
theorem mplay_is {M : Mem} {k : Nat} {p : Int32} {body : Int32 × Mem → Option ((Int32 × Mem) ⊕ Mem)} (hb1 : ∀ i Z, i < k → body (nI i, Z) = (m_X6_findsTwo fu Z p (nI a)).bind fun Y => some (.inl (nI (i + 1), Y))) (hb2 : ∀ Z, body (nI k, Z) = some (.inr Z)) (hfu : 500 ≤ fu) (hV : vM M = V) (hok : Vok V 2 W N) (hW : W ≤ 100000) (ha : V 149 0 + V 149 1 = nI a) (ha6 : a ≤ 60) (hF : F ≤ 5) (h9 : V 162 9 = nI F) (hL : LawsM M L) (hO : LawsOk L) (hk : k ≤ 40) (hl : ∀ x, x ≤ a → rdl M 177 x = 0) : ∃ M', lp body fu (0, M) = some M' ∧ vs (vs (vM M') 149 0 0) 149 1 0 = vs (vs V 149 0 0) 149 1 0 ∧ ∀ x, x ≤ a → rdl M' 177 x = latS V a F L p k x ∧ (1 ≤ k → rd M' 179 x = (b3S V a F L p (latS V a F L p (k - 1)) x).2) := by
  refine lp_up k (fun i s => ∃ Z, s = (nI i, Z) ∧ vs (vs (vM Z) 149 0 0) 149 1 0 = vs (vs V 149 0 0) 149 1 0 ∧ LawsM Z L ∧ ∀ x, x ≤ a → rdl Z 177 x = latS V a F L p i x ∧ (1 ≤ i → rd Z 179 x = (b3S V a F L p (latS V a F L p (i - 1)) x).2)) (fun M' => vs (vs (vM M') 149 0 0) 149 1 0 = vs (vs V 149 0 0) 149 1 0 ∧ ∀ x, x ≤ a → rdl M' 177 x = latS V a F L p k x ∧ (1 ≤ k → rd M' 179 x = (b3S V a F L p (latS V a F L p (k - 1)) x).2)) ?_ ?_ fu 0 (0, M) (Nat.zero_le _) (by omega) ⟨M, rfl, by rw [hV], hL, fun x hx => ⟨hl x hx, fun z => absurd z (by decide)⟩⟩
  · rintro i s hi ⟨Z, rfl, z1, z2, z3⟩
    left
    obtain ⟨Y, y1, y2, y3, y4⟩ := mfinds_is (fu := fu) (p := p) hfu z1 hok hW ha ha6 hF h9 z2 hO (fun x hx => (z3 x hx).1)
    refine ⟨_, by rw [hb1 i Z hi, y1, some_bind], Y, rfl, y2, y3, fun x hx => ⟨?_, fun _ => ?_⟩⟩
    · rw [(y4 x hx).1, lat_s p i x hx, b3F_is]
    · rw [(y4 x hx).2, Nat.add_sub_cancel, b3F_is]
  · rintro s ⟨Z, rfl, z1, z2, z3⟩
    exact ⟨Z, hb2 Z, z1, z3⟩
end MTWO4
theorem op_two {fu c : Nat} {M : Mem} (hf : 5000 ≤ fu) (hc : c ≤ 512) (h : Inv c M) (k p w o : Int32) : ∃ r M1 M2, m_X5_two fu M k p w o = some (r, M1) ∧ m_X6_two fu M1 k p w o = some (r, M2) ∧ Inv (c + 1) M2 := by
  obtain ⟨n, L, h1, h2, h3, h4, h5, h6, h7, h8⟩ := id h
  have hwI : wI c ≤ 100000 := wI_le hc
  have h10 := h2.1.2.2
  generalize hV : vC 0 M = V at *
  have k0 : rd M 0 0 = nI n := (c_n hV).trans h2.1.1
  have km : rd M 148 2 = nI n := (m_n h1).trans h2.1.1
  have aw : m_X4_allWidths fu 0 M = some (smI (fun f => V 149 f) n) := by
    unfold m_X4_allWidths
    rw [show (0 : Int32) = nI 0 from rfl, cadded_is (by omega) k0 h10 (by decide)]
    show some _ = some _
    congr 1
    exact smI_cong (fun i hi => c_wide hV (by omega))
  have r0 : rd (wr M 148 0 0) 149 0 = V 149 0 := by rw [rd_t0 (by omega)]; exact m_at h1 (k := 149) (by decide) (by decide) (by decide)
  have r1 : rd (wr M 148 0 0) 149 1 = V 149 1 := by rw [rd_t0 (by omega)]; exact m_at h1 (k := 149) (by decide) (by decide) (by decide)
  have r2 : rd (wr M 148 0 0) 148 2 = nI n := by rw [rd_t0 (by omega)]; exact km
  by_cases n2 : n = 2
  · subst n2
    have s2 : smI (fun f => V 149 f) 2 = V 149 0 + V 149 1 := by show 0 + V 149 0 + V 149 1 = _; grind
    rw [s2] at aw
    by_cases q : ¬ 60 < V 149 0 + V 149 1 ∧ (¬ k < 1 ∧ ¬ 40 < k) ∧ (¬ p < 0 ∧ ¬ 999 < p) ∧ (¬ w < 0 ∧ ¬ V 149 0 + V 149 1 < w) ∧ (¬ o < 0 ∧ ¬ 1 < o)
    · obtain ⟨q1, q2, q3, q4, q5⟩ := q
      have b0 := h2.2.1 0 (by decide)
      have b1 := h2.2.1 1 (by decide)
      have c0 := V_le h2 (show (0 : Nat) < 10 by decide)
      have c1 := V_le h2 (show (1 : Nat) < 10 by decide)
      obtain ⟨a, ha6, ha⟩ := nI_of_le (x := V 149 0 + V 149 1) (m := 60) (I_le.mpr (by rw [tI_0, I_add (by omega) (by omega)]; omega)) (by have e : nI 60 = 60 := rfl; grind) (by decide)
      rw [ha] at aw q1 q4
      obtain ⟨K, hK, rfl⟩ := arg_nI (a := k) (n := 41) (by grind) (by have e : nI 41 = 41 := rfl; grind) (by decide)
      have hK1 : 1 ≤ K := by
        by_cases z : K = 0
        · subst z; exact absurd (show nI 0 < 1 by decide) q2.1
        · omega
      obtain ⟨w', hw, rfl⟩ := arg_nI (a := w) (n := a + 1) q4.1 (by rw [← nI_1]; have := q4.2; have e : ¬ nI a + 1 ≤ w ↔ ¬ nI (a + 1) ≤ w := by rw [nI_1]
                                                                    rw [nI_1]; intro z
                                                                    have z1 := I_le.mp z
                                                                    have z2 := mt I_lt.mpr this
                                                                    rw [nI_toInt (by omega)] at z1 z2
                                                                    omega) (by omega)
      have hwa : w' ≤ a := by omega
      have f9 := h2.2.2.2.2.2.2.2.2.2.1
      obtain ⟨F, hF5, hF⟩ := nI_of_le (x := V 162 9) (m := 5) f9.1 f9.2 (by decide)
      -- the class
      obtain ⟨C, e1, e2, e3, e4⟩ := ccopy_is (fu := fu) (P := 74) (R := 0) (by omega) (by omega) h4
      obtain ⟨P, p1, p2, p3, p4⟩ := cprepare (fu := fu) (M := C) (V0 := V) (a := a) (by omega) (e2.trans hV) h2 hwI ha ha6 e3 h6
      rw [hF] at p4
      obtain ⟨Y, y1, y2⟩ := cplay_is (fu := fu) (M := P) (k := K) (p := p) (by omega) ha6 hF5 (by omega) p3 p4 p2
      generalize hVV : vs V 157 1 1 = V2 at *
      have cls : m_X5_two fu M (nI K) p (nI w') o = if o = 0 then some (latS V2 a F L p K w', Y) else some ((b3S V2 a F L p (latS V2 a F L p (K - 1)) w').2.toInt64, Y) := by
        unfold m_X5_two
        rw [aw, some_bind, k0, if_pos (show nI 2 = 2 from rfl), if_neg q1, if_neg q4.1, if_pos (nI_le hwa (by omega)), if_neg q2.1, if_neg q2.2, if_neg q3.1, if_neg (by grind), if_neg q5.1, if_pos (by grind), e1, some_bind, p1, some_bind, y1, some_bind, chk_is (inb_nI (by omega) (by decide)), ix_nI (by omega), (y2 w' hwa).1, chk_is (inb_nI (by omega) (by decide)), (y2 w' hwa).2 hK1]
      have cl : ∃ r, m_X5_two fu M (nI K) p (nI w') o = some (r, Y) ∧ r = if o = 0 then latS V2 a F L p K w' else (b3S V2 a F L p (latS V2 a F L p (K - 1)) w').2.toInt64 := by
        rw [cls]
        by_cases z : o = 0
        · rw [if_pos z, if_pos z]; exact ⟨_, rfl, rfl⟩
        · rw [if_neg z, if_neg z]; exact ⟨_, rfl, rfl⟩
      obtain ⟨r, cl1, cl2⟩ := cl
      have g1 := fr_m_X5_two cl1
      have yr : ∀ k j, k < 74 ∨ 146 ≤ k → rd Y k j = rd M k j := fun k j z => g1.1 _ _ (by unfold w_X5_two; omega)
      -- the model
      have ym : vM Y = V := (vM_eqs (fun k j z => yr _ _ (by unfold keepW at z; omega))).trans h1
      generalize hX : wr (wr Y 148 0 0) 157 1 1 = X
      have xv : vM X = V2 := by rw [← hX, vM_wr (by omega), vM_t0, ym, ← hVV]
      have xL : LawsM X L := LawsM_eq (fun k j z1 z2 => by rw [← hX, wr_sp (by omega), wr_sp (by omega)]; exact yr _ _ (by omega)) h5
      have ok2 : Vok V2 2 (wI c) 9999 := by rw [← hVV]; exact h2.setWall (Or.inr rfl)
      have ha2 : V2 149 0 + V2 149 1 = nI a := by rw [← hVV, vs_nk (by decide), vs_nk (by decide)]; exact ha
      have hF2 : V2 162 9 = nI F := by rw [← hVV, vs_nk (by decide)]; exact hF
      obtain ⟨A, a1, a2, a3⟩ := lp_up (body := b_X6_two_110 fu (nI K) p (nI w') o (nI a) (V 149 0) (V 157 1)) (a + 1) (fun i s => ∃ Z, s = (nI i, Z) ∧ (∀ k j, rd Z k j = rd X k j) ∧ ∀ x, x < i → rdl Z 177 x = 0) (fun Z => (∀ k j, rd Z k j = rd X k j) ∧ ∀ x, x ≤ a → rdl Z 177 x = 0) (by
        rintro i s hi ⟨Z, rfl, z1, z2⟩
        left
        refine ⟨(nI (i + 1), wrl Z 177 i 0), ?_, _, rfl, fun k j => by rw [rd_wrl]; exact z1 k j, fun x hx => ?_⟩
        · unfold b_X6_two_110
          rw [un2_is, if_neg (nI_nlt (by omega) (by omega)), chk_is (inb_nI (by omega) (by decide)), ix_nI (by omega), bnd_e, bnd_e, nI_1]
        · rw [rdl_wrl]
          by_cases y : x = i
          · rw [if_pos ⟨rfl, y⟩]
          · rw [if_neg (fun t => y t.2)]; exact z2 x (by omega)) (by
        rintro s ⟨Z, rfl, z1, z2⟩
        refine ⟨Z, ?_, z1, fun x hx => z2 x (by omega)⟩
        unfold b_X6_two_110
        rw [un2_is, if_pos (nI_lt (by omega) (by omega))]) fu 0 (0, X) (Nat.zero_le _) (by omega) ⟨X, rfl, fun _ _ => rfl, fun x hx => absurd hx (Nat.not_lt_zero _)⟩
      obtain ⟨B, bb1, bb2, bb3⟩ := mplay_is (fu := fu) (M := A) (k := K) (p := p) (body := b_X6_two_134 fu (nI K) p (nI w') o (nI a) (V 149 0) (V 157 1)) (fun i Z hi => by unfold b_X6_two_134; rw [un2_is, if_neg (nI_ge hi (by omega))]; simp only [bnd_is, nI_1]) (fun Z => by unfold b_X6_two_134; rw [un2_is, if_pos (nI_le (Nat.le_refl _) (by omega))]) (by omega) ((vM_eqs (fun k j _ => a2 k j)).trans xv) ok2 hwI ha2 ha6 hF5 hF2 (LawsM_eq (fun k j _ _ => a2 k j) xL) h6 (by omega) a3
      generalize hE : wr (wr (wr B 157 1 (V 157 1)) 149 0 (V 149 0)) 149 1 (nI a - V 149 0) = E
      have y0 : rd (wr Y 148 0 0) 149 0 = V 149 0 := by rw [rd_t0 (by omega)]; exact m_at ym (k := 149) (by decide) (by decide) (by decide)
      have y1' : rd (wr Y 148 0 0) 149 1 = V 149 1 := by rw [rd_t0 (by omega)]; exact m_at ym (k := 149) (by decide) (by decide) (by decide)
      have y2' : rd (wr Y 148 0 0) 148 2 = nI 2 := by rw [rd_t0 (by omega), m_n ym]; exact h2.1.1
      have y5 : rd (wr Y 148 0 0) 157 1 = V 157 1 := by rw [rd_t0 (by omega)]; exact m_at ym (k := 157) (by decide) (by decide) (by decide)
      have el : ∀ x, rdl E 177 x = rdl B 177 x := fun x => by rw [← hE]; rfl
      have er : rd E 179 w' = rd B 179 w' := by rw [← hE, wr_sp (by omega), wr_sp (by omega), wr_sp (by omega)]
      have mdl : m_X6_two fu Y (nI K) p (nI w') o = some (r, E) := by
        unfold m_X6_two
        rw [bnd_e, ix_0, ix_1, y0, y1', y2', y5, ha, bnd_e, if_pos (show nI 2 = 2 from rfl), if_neg q1, isIn_is, some_bind, if_neg (by rw [tf_0]; exact fun z => z q2), isIn_is, some_bind, if_neg (by rw [tf_0]; exact fun z => z q3), isIn_is, some_bind, if_neg (by rw [tf_0]; exact fun z => z q4), isIn_is, some_bind, if_neg (by rw [tf_0]; exact fun z => z q5), bnd_e, bnd_e, bnd_e, hX, a1, some_bind, un1_is, bb1, some_bind, un1_is, bnd_e, bnd_e, bnd_e, hE, chk_is (inb_nI (by omega) (by decide)), ix_nI (by omega), el, (bb3 w' hwa).1, chk_is (inb_nI (by omega) (by decide)), er, (bb3 w' hwa).2 hK1, cl2]
        by_cases z : o = 0
        · rw [if_pos z, if_pos z]
        · rw [if_neg z, if_neg z]
      have g2 := fr_m_X6_two mdl
      refine ⟨r, Y, E, cl1, mdl, ?_⟩
      have ev : vM E = V := by
        rw [← hE, vM_wr (by omega), vM_wr (by omega), vM_wr (by omega)]
        have e : nI a - V 149 0 = V 149 1 := by rw [← ha]; grind
        rw [e]
        funext x y
        have qq := congrFun (congrFun bb2 x) y
        rw [← hVV] at qq
        simp only [vs] at qq ⊢
        grind
      have eC : vC 0 E = V := by
        rw [vC_eqs (R := 0) (M := M) (M' := E) (fun k j z => (g2.1 _ _ (by unfold w_X6_two; omega)).trans (yr _ _ (by omega))) (fun j => (g2.2 _ _ (by unfold v_X6_two; omega)).trans (g1.2 _ _ (by unfold v_X5_two; omega)))]
        exact hV
      exact (h.keep (eC.trans hV.symm) (ev.trans h1.symm) (fun k j z => (g2.2 _ _ (by unfold v_X6_two; omega)).trans (g1.2 _ _ (by unfold v_X5_two; omega))) (fun k j z => (g2.1 _ _ (by unfold keepL at z; unfold w_X6_two; omega)).trans (yr _ _ (by unfold keepL at z; omega))) (fun k j z => (g2.1 _ _ (by unfold keepX at z; unfold w_X6_two; omega)).trans (yr _ _ (by unfold keepX at z; omega))) (fun k j z => (g2.1 _ _ (by unfold keepG at z; unfold w_X6_two; omega)).trans (yr _ _ (by unfold keepG at z; omega)))).mono (Nat.le_succ c)
    · refine ⟨-1, M, wr M 148 0 0, ?_, ?_, h.t0⟩
      · unfold m_X5_two
        rw [aw, some_bind, k0, if_pos (show nI 2 = 2 from rfl)]
        by_cases a1 : 60 < V 149 0 + V 149 1
        · rw [if_pos a1]
        rw [if_neg a1]
        by_cases a2 : w < 0
        · rw [if_pos a2]
        rw [if_neg a2]
        by_cases a3 : w ≤ V 149 0 + V 149 1
        · rw [if_pos a3]
          by_cases a4 : k < 1
          · rw [if_pos a4]
          rw [if_neg a4]
          by_cases a5 : 40 < k
          · rw [if_pos a5]
          rw [if_neg a5]
          by_cases a6 : p < 0
          · rw [if_pos a6]
          rw [if_neg a6]
          by_cases a7 : 1000 ≤ p
          · rw [if_pos a7]
          rw [if_neg a7]
          by_cases a8 : o < 0
          · rw [if_pos a8]
          rw [if_neg a8, if_neg]
          intro a9
          exact q ⟨a1, ⟨a4, a5⟩, ⟨a6, by grind⟩, ⟨a2, by grind⟩, a8, by grind⟩
        · rw [if_neg a3]
      · unfold m_X6_two
        rw [bnd_e, ix_0, ix_1, r0, r1, r2, bnd_e, if_pos (show nI 2 = 2 from rfl)]
        by_cases a1 : 60 < V 149 0 + V 149 1
        · rw [if_pos a1]
        rw [if_neg a1, isIn_is, some_bind]
        by_cases a2 : ¬ k < 1 ∧ ¬ 40 < k
        · rw [if_neg (by rw [tf_0]; exact fun z => z a2), isIn_is, some_bind]
          by_cases a3 : ¬ p < 0 ∧ ¬ 999 < p
          · rw [if_neg (by rw [tf_0]; exact fun z => z a3), isIn_is, some_bind]
            by_cases a4 : ¬ w < 0 ∧ ¬ V 149 0 + V 149 1 < w
            · rw [if_neg (by rw [tf_0]; exact fun z => z a4), isIn_is, some_bind, if_pos]
              rw [tf_0]
              exact fun a5 => q ⟨a1, a2, a3, a4, a5⟩
            · rw [if_pos (by rw [tf_0]; exact a4)]
          · rw [if_pos (by rw [tf_0]; exact a3)]
        · rw [if_pos (by rw [tf_0]; exact a2)]
  · have nn : ¬ nI n = 2 := fun z => n2 (nI_inj (a := n) (b := 2) (by omega) (by decide) z)
    refine ⟨-1, M, wr M 148 0 0, ?_, ?_, h.t0⟩
    · unfold m_X5_two
      rw [aw, some_bind, k0, if_neg nn]
    · unfold m_X6_two
      rw [bnd_e, bnd_e, r2, if_neg nn]
