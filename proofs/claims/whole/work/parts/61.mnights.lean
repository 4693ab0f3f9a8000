/-! ===== nights: the model ===== -/
section MNIGHT
variable {fu n : Nat} {M : Mem} {V : Vw} {W N : Int} {L : Nat → List Ln} {D lo : Nat → Int32}
theorem mn1 (hfu : 500 ≤ fu) (hV : vM M = V) (h : Vok V n W N) (hW : W ≤ 100000) (hL : LawsM M L) (hO : LawsOk L) : ∃ M', lp (b_X6_goesBy_2 fu) fu (0, M) = some M' ∧ vM M' = V ∧ ∀ j, j < n → rd M' 174 j = doesS V n L j ∧ rd M' 175 j = 0 := by
  have h10 := h.1.2.2
  refine lp_up n (fun i s => ∃ M1, s = (nI i, M1) ∧ vM M1 = V ∧ LawsM M1 L ∧ ∀ j, j < i → rd M1 174 j = doesS V n L j ∧ rd M1 175 j = 0) (fun M' => vM M' = V ∧ ∀ j, j < n → rd M' 174 j = doesS V n L j ∧ rd M' 175 j = 0) ?_ ?_ fu 0 (0, M) (Nat.zero_le _) (by omega) ⟨M, rfl, hV, hL, fun j hj => absurd hj (Nat.not_lt_zero _)⟩
  · rintro i s hi ⟨M1, rfl, q1, q2, q3⟩
    left
    obtain ⟨M2, e1, e2⟩ := mdoes_is hfu q1 h hW q2 hO hi
    have ev : vM M2 = V := (vM_eqs (fun k j q => e2 k j (by unfold keepW at q; omega) (by unfold keepW at q; omega))).trans q1
    refine ⟨(nI (i + 1), wr (wr M2 174 i (doesS V n L i)) 175 i 0), ?_, _, rfl, ?_, ?_, fun j hj => ?_⟩
    · unfold b_X6_goesBy_2
      rw [un2_is, (m_n q1).trans h.1.1, if_neg (nI_ge hi (by omega)), e1, some_bind, un2_is, chk_is (inb_nI (by omega : i < 10) (by decide)), ix_nI (by omega), bnd_e, bnd_e, bnd_e, nI_1]
    · rw [vM_out (by omega), vM_out (by omega)]; exact ev
    · exact LawsM_eq (fun k j h1 h2 => by rw [rd_we, if_neg (by omega), rd_we, if_neg (by omega)]; exact e2 _ _ (by omega) (by omega)) q2
    · have c4 : rd (wr (wr M2 174 i (doesS V n L i)) 175 i 0) 174 j = if j = i then doesS V n L i else rd M1 174 j := by
        rw [rd_we, if_neg (by omega), rd_we]
        by_cases z : j = i
        · rw [if_pos ⟨rfl, z⟩, if_pos z]
        · rw [if_neg (fun y => z y.2), if_neg z]; exact e2 _ _ (by omega) (by omega)
      have c5 : rd (wr (wr M2 174 i (doesS V n L i)) 175 i 0) 175 j = if j = i then 0 else rd M1 175 j := by
        rw [rd_we]
        by_cases z : j = i
        · rw [if_pos ⟨rfl, z⟩, if_pos z]
        · rw [if_neg (fun y => z y.2), if_neg z, rd_we, if_neg (by omega)]; exact e2 _ _ (by omega) (by omega)
      rw [c4, c5]
      by_cases z : j = i
      · rw [if_pos z, if_pos z, z]; exact ⟨rfl, rfl⟩
      · rw [if_neg z, if_neg z]; exact q3 j (by omega)
  · rintro s ⟨M1, rfl, q1, q2, q3⟩
    refine ⟨M1, ?_, q1, q3⟩
    unfold b_X6_goesBy_2
    rw [un2_is, (m_n q1).trans h.1.1, if_pos (nI_le (Nat.le_refl _) (by omega))]
theorem mn2 (hfu : 500 ≤ fu) (hV : vM M = V) (h : Vok V n W N) (hW : W ≤ 100000) (hD : ∀ j, j < n → rd M 174 j = D j ∧ rd M 175 j = 0) : ∃ M', lp (b_X6_goesBy_36 fu) fu (0, M) = some M' ∧ vM M' = (crS V D n n).1 ∧ ∀ j, j < n → rd M' 174 j = D j ∧ rd M' 175 j = (crS V D n n).2 j := by
  have h10 := h.1.2.2
  refine lp_up n (fun i s => ∃ M1, s = (nI i, M1) ∧ vM M1 = (crS V D n i).1 ∧ ∀ j, j < n → rd M1 174 j = D j ∧ rd M1 175 j = (crS V D n i).2 j) (fun M' => vM M' = (crS V D n n).1 ∧ ∀ j, j < n → rd M' 174 j = D j ∧ rd M' 175 j = (crS V D n n).2 j) ?_ ?_ fu 0 (0, M) (Nat.zero_le _) (by omega) ⟨M, rfl, hV, hD⟩
  · rintro i s hi ⟨M1, rfl, q1, q2⟩
    left
    have ok := crS_ok (D := D) h hW i (by omega)
    have hl := lfN_lt hi
    have hr := rtN_lt hi
    have hb := inb_nI (by omega : i < 10) (by decide : 10 ≤ 2 ^ 31)
    have hx := ix_nI (by omega : i < 2 ^ 31)
    have hn1 : rd M1 148 2 = nI n := (m_n q1).trans ok.1.1
    have run : ∀ b o, b < 10 → o < n → i ≠ o → ∃ M2, m_X6_moves M1 (nI i) (nI b) (nI o) = some M2 ∧ vM M2 = (creepS (crS V D n i).1 D i b o).1 ∧ ∀ j, j < n → rd M2 174 j = D j ∧ rd M2 175 j = if (creepS (crS V D n i).1 D i b o).2 = true ∧ j = o then 1 else (crS V D n i).2 j := by
      intro b o hb ho hio
      obtain ⟨M2, e1, e2, e3, e4⟩ := mcreep_is (D := D) q1 (by omega : i < 10) hb (by omega : o < 10) hio (q2 o ho).1 (ok.2.2.2.2.1 o (by omega)) (ok.2.2.2.2.2.1 b hb)
      exact ⟨M2, e1, e2, fun j hj => ⟨by rw [e4]; exact (q2 j hj).1, by rw [e3, (q2 j hj).2]⟩⟩
    have pre : b_X6_goesBy_36 fu (nI i, M1) = if D i = 2 then ((m_X6_leftOf M1 (nI i)).bind fun r_29 => (m_X6_leftOf M1 (nI i)).bind fun r_31 => (m_X6_moves M1 (nI i) r_29 r_31).bind fun M_33 => j_X6_goesBy_69i fu M_33 (nI i)) else j_X6_goesBy_69i fu M1 (nI i) := by
      unfold b_X6_goesBy_36
      rw [un2_is, hn1, if_neg (nI_ge hi (by omega)), chk_is hb, hx, (q2 i hi).1]
    rw [pre, crS_s]
    by_cases a : D i = 2
    · obtain ⟨M2, e1, e2, e3⟩ := run (lfN n i) (lfN n i) (by omega) hl (lf_ne hi h.1.2.1)
      rw [if_pos a, if_pos a, mleft_is hn1 hi h10, some_bind, some_bind, e1, some_bind]
      refine ⟨(nI (i + 1), M2), ?_, M2, rfl, e2, e3⟩
      unfold j_X6_goesBy_69i
      rw [chk_is hb, hx, (e3 i hi).1, if_neg (by rw [a]; decide), bnd_e, nI_1]
    · rw [if_neg a, if_neg a]
      unfold j_X6_goesBy_69i
      rw [chk_is hb, hx, (q2 i hi).1]
      by_cases b : D i = 3
      · obtain ⟨M2, e1, e2, e3⟩ := run i (rtN n i) (by omega) hr (rt_ne hi h.1.2.1)
        rw [if_pos b, if_pos b, mright_is hn1 hi h10, some_bind, e1, some_bind, bnd_e, nI_1]
        exact ⟨_, rfl, M2, rfl, e2, e3⟩
      · rw [if_neg b, if_neg b, bnd_e, nI_1]
        exact ⟨_, rfl, M1, rfl, q1, q2⟩
  · rintro s ⟨M1, rfl, q1, q2⟩
    refine ⟨M1, ?_, q1, q2⟩
    unfold b_X6_goesBy_36
    rw [un2_is, (m_n q1).trans (crS_ok (D := D) h hW n (Nat.le_refl _)).1.1, if_pos (nI_le (Nat.le_refl _) (by omega))]
theorem mn3 (hfu : 500 ≤ fu) (hV : vM M = V) (h : Vok V n W N) (hD : ∀ j, j < n → rd M 174 j = D j ∧ rd M 175 j = lo j) : ∃ M', lp (b_X6_goesBy_98 fu) fu (0, M) = some M' ∧ vM M' = stS V D lo n := by
  have h10 := h.1.2.2
  refine lp_up n (fun i s => ∃ M1, s = (nI i, M1) ∧ vM M1 = stS V D lo i ∧ ∀ j, j < n → rd M1 174 j = D j ∧ rd M1 175 j = lo j) (fun M' => vM M' = stS V D lo n) ?_ ?_ fu 0 (0, M) (Nat.zero_le _) (by omega) ⟨M, rfl, hV, hD⟩
  · rintro i s hi ⟨M1, rfl, q1, q2⟩
    left
    have ok := stS_ok (D := D) (lo := lo) h i
    obtain ⟨M2, e1, e2, e3, e4⟩ := msettle_is (fu := fu) q1 ok hi (q2 i hi).1 (q2 i hi).2
    exact ⟨_, e1, M2, rfl, e2, fun j hj => by rw [e3, e4]; exact q2 j hj⟩
  · rintro s ⟨M1, rfl, q1, q2⟩
    refine ⟨M1, ?_, q1⟩
    unfold b_X6_goesBy_98
    rw [un2_is, (m_n q1).trans (stS_ok (D := D) (lo := lo) h n).1.1, if_pos (nI_le (Nat.le_refl _) (by omega))]
theorem mgoes_is (hfu : 500 ≤ fu) (hV : vM M = V) (h : Vok V n W N) (hW : W ≤ 100000) (hL : LawsM M L) (hO : LawsOk L) : ∃ M', m_X6_goesBy fu M = some M' ∧ vM M' = nightS V n L ∧ LawsM M' L := by
  obtain ⟨M1, a1, a2, a3⟩ := mn1 hfu hV h hW hL hO
  obtain ⟨M2, b1, b2, b3⟩ := mn2 hfu a2 h hW a3
  obtain ⟨M3, c1, c2⟩ := mn3 hfu b2 (crS_ok h hW n (Nat.le_refl _)) b3
  have e : m_X6_goesBy fu M = some (wr M3 148 3 (rd M3 148 3 + 1)) := by
    unfold m_X6_goesBy
    rw [a1, some_bind, un1_is, b1, some_bind, un1_is, c1, some_bind, un1_is, bnd_e]
  have fr := fr_m_X6_goesBy e
  refine ⟨_, e, ?_, LawsM_eq (fun k j h1 h2 => fr.1 _ _ (by unfold w_X6_goesBy; omega)) hL⟩
  rw [vM_wr (by omega), c2, m_ni c2]; rfl
theorem mpass_is {body : Int32 × Mem → Option ((Int32 × Mem) ⊕ Mem)} {c : Nat} (hb1 : ∀ i M1, i < c → body (nI i, M1) = (m_X6_goesBy fu M1).bind fun M2 => some (.inl (nI (i + 1), M2))) (hb2 : ∀ M1, body (nI c, M1) = some (.inr M1)) (hfu : 500 ≤ fu) (hV : vM M = V) (h : Vok V n W N) (hW : W ≤ 100000) (hN : N ≤ 20000) (hL : LawsM M L) (hO : LawsOk L) (hc : c ≤ 99) : ∃ M', lp body fu (0, M) = some M' ∧ vM M' = nightsS V n L c ∧ LawsM M' L ∧ Fr w_X6_goesBy v_X6_goesBy M M' := by
  refine lp_up c (fun i s => ∃ M1, s = (nI i, M1) ∧ vM M1 = nightsS V n L i ∧ LawsM M1 L ∧ Fr w_X6_goesBy v_X6_goesBy M M1) (fun M' => vM M' = nightsS V n L c ∧ LawsM M' L ∧ Fr w_X6_goesBy v_X6_goesBy M M') ?_ ?_ fu 0 (0, M) (Nat.zero_le _) (by omega) ⟨M, rfl, hV, hL, Fr.rf⟩
  · rintro i s hi ⟨M1, rfl, q1, q2, q3⟩
    left
    obtain ⟨M2, e1, e2, e3⟩ := mgoes_is hfu q1 (nights_ok h hW hN i (by omega)) hW q2 hO
    exact ⟨_, by rw [hb1 i M1 hi, e1, some_bind], M2, rfl, e2, e3, q3.tr (fr_m_X6_goesBy e1)⟩
  · rintro s ⟨M1, rfl, q⟩
    exact ⟨M1, hb2 M1, q⟩
end MNIGHT
