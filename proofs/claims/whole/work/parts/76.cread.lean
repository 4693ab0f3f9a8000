/-! ===== the class reads a text ===== -/
def Cd (M : Mem) (xs : List Int32) : Prop := rd M 111 1 = nI xs.length ∧ ∀ i, i < xs.length → rd M 112 i = xs.getD i 0
theorem crank (M : Mem) (x : Int32) : m_X3_rankOf M x = some (nI (rkN x)) := by
  by_cases h1 : x = 42
  · subst h1; rfl
  by_cases h2 : x = 43
  · subst h2; rfl
  by_cases h3 : x = 45
  · subst h3; rfl
  by_cases h4 : x = 47
  · subst h4; rfl
  by_cases h5 : x = 60
  · subst h5; rfl
  by_cases h6 : x = 61
  · subst h6; rfl
  by_cases h7 : x = 62
  · subst h7; rfl
  by_cases h8 : x = 202
  · subst h8; rfl
  by_cases h9 : x = 203
  · subst h9; rfl
  by_cases h10 : x = 204
  · subst h10; rfl
  unfold m_X3_rankOf rkN
  simp only [if_neg h1, if_neg h2, if_neg h3, if_neg h4, if_neg h5, if_neg h6, if_neg h7, if_neg h8, if_neg h9, if_neg h10]
  rfl
theorem enc_opc (x : Int32) (h : 0 < rkN x) : encO (opc x, 0) = 10100 + x := by
  by_cases h1 : x = 42
  · subst h1; decide
  by_cases h2 : x = 43
  · subst h2; decide
  by_cases h3 : x = 45
  · subst h3; decide
  by_cases h4 : x = 47
  · subst h4; decide
  by_cases h5 : x = 60
  · subst h5; decide
  by_cases h6 : x = 61
  · subst h6; decide
  by_cases h7 : x = 62
  · subst h7; decide
  by_cases h8 : x = 202
  · subst h8; decide
  by_cases h9 : x = 203
  · subst h9; decide
  by_cases h10 : x = 204
  · subst h10; decide
  unfold rkN at h
  simp only [if_neg h1, if_neg h2, if_neg h3, if_neg h4, if_neg h5, if_neg h6, if_neg h7, if_neg h8, if_neg h9, if_neg h10] at h
  omega
theorem rk_le (x : Int32) : rkN x ≤ 6 := by
  unfold rkN
  repeat' split
  all_goals omega
def Fe (M M' : Mem) : Prop := ∀ k j, k ≠ 112 → ¬ (k = 111 ∧ (j = 1 ∨ j = 15 ∨ j = 16)) → rd M' k j = rd M k j
theorem cemit {M : Mem} {xs : List Int32} {x : Int32} (h : Cd M xs) (hl : xs.length < 400) : ∃ M', m_X3_emit M x = some M' ∧ Cd M' (xs ++ [x]) ∧ ∀ k j, k ≠ 112 → ¬ (k = 111 ∧ j = 1) → rd M' k j = rd M k j := by
  refine ⟨wr (wr M 112 xs.length x) 111 1 (nI (xs.length + 1)), ?_, ⟨?_, fun i hi => ?_⟩, fun k j h1 h2 => ?_⟩
  · unfold m_X3_emit
    rw [h.1, if_neg (show ¬ Int32.ofNat 400 ≤ nI xs.length from nI_ge hl (by decide)), chk_is (inb_nI hl (by decide)), ix_nI (by omega), bnd_e, wr_sp (by omega), h.1, nI_1, bnd_e]
  · rw [rd_we, if_pos ⟨rfl, rfl⟩, List.length_append]; rfl
  · rw [wr_sp (by omega), rd_we]
    rw [List.length_append] at hi
    have hi' : i < xs.length + 1 := hi
    by_cases z : i = xs.length
    · rw [if_pos ⟨rfl, z⟩, z]; simp
    · rw [if_neg (fun y => z y.2), h.2 i (by omega), getD_app1 (by omega)]
  · rw [wr_sp h2, wr_sp (fun z => h1 z.1)]
theorem opn_c (x : Int32) (l : List Int32) : opn (x :: l) = (if x = 204 ∨ x = 40 then 1 else 0) + opn l := rfl
theorem cset_is {F r : Nat} (hr : 0 < r) (hr6 : r ≤ 6) : ∀ (σ : List Int32) (M : Mem) (xs : List Int32), Cd M xs → rd M 111 15 = nI σ.length → stk (rd M 114) σ → rd M 111 16 = nI (opn σ) → xs.length + σ.length ≤ 400 → ∀ fu, σ.length < fu →
    ∃ M', lp (b_X3_settleSigns_0 F (nI r)) fu M = some M' ∧ Cd M' (xs ++ (stl r σ).1.map encO) ∧ rd M' 111 15 = nI (stl r σ).2.length ∧ stk (rd M' 114) (stl r σ).2 ∧ rd M' 111 16 = nI (opn (stl r σ).2) ∧ Fe M M'
  | [], M, xs, hc, h15, hst, h16, hz, 0, hf => absurd hf (Nat.not_lt_zero _)
  | [], M, xs, hc, h15, hst, h16, hz, fu + 1, hf => by
    refine ⟨M, lp_inr ?_, ?_, h15, hst, h16, fun _ _ _ _ => rfl⟩
    · unfold b_X3_settleSigns_0
      rw [un1_is, h15, if_pos (show nI ([] : List Int32).length ≤ 0 by decide)]
    · show Cd M (xs ++ []); rw [List.append_nil]; exact hc
  | x :: l, M, xs, hc, h15, hst, h16, hz, 0, hf => absurd hf (Nat.not_lt_zero _)
  | x :: l, M, xs, hc, h15, hst, h16, hz, fu + 1, hf => by
    have hl : l.length + 1 ≤ 400 := by have : (x :: l).length = l.length + 1 := rfl; omega
    have h15' : rd M 111 15 = nI (l.length + 1) := h15
    have hx : rd M 114 l.length = x := hst.1
    have pre : b_X3_settleSigns_0 F (nI r) M = if nI (rkN x) < nI r then some (.inr M) else (m_X3_emit (wr M 111 15 (nI l.length)) (10100 + x)).bind fun M_10 => chk (inb (rd M_10 111 15) 400) <| if (rd M_10 114 (ix (rd M_10 111 15))) = 204 then (bnd (wr M_10 111 16 ((rd M_10 111 16) - 1)) fun M_13 => some (.inl M_13)) else some (.inl M_10) := by
      unfold b_X3_settleSigns_0
      rw [un1_is, h15', if_neg (show ¬ nI (l.length + 1) ≤ 0 from nI_ge (a := 0) (by omega) (by omega)), nI_s1, chk_is (inb_nI (by omega) (by decide)), ix_nI (by omega), hx, crank, some_bind, bnd_e]
      rw [show rd (wr M 111 15 (nI l.length)) 111 15 = nI l.length by rw [rd_we, if_pos ⟨rfl, rfl⟩], chk_is (inb_nI (by omega) (by decide)), ix_nI (by omega), show rd (wr M 111 15 (nI l.length)) 114 l.length = x by rw [wr_sp (by omega)]; exact hx]
    have rx := rk_le x
    rw [stl_c]
    by_cases c : rkN x < r
    · rw [if_pos c]
      refine ⟨M, lp_inr ?_, ?_, h15, hst, h16, fun _ _ _ _ => rfl⟩
      · rw [pre, if_pos (nI_lt c (by omega))]
      · show Cd M (xs ++ []); rw [List.append_nil]; exact hc
    · rw [if_neg c]
      have hc1 : Cd (wr M 111 15 (nI l.length)) xs := ⟨by rw [wr_sp (by omega)]; exact hc.1, fun i hi => by rw [wr_sp (by omega)]; exact hc.2 i hi⟩
      have hxs : xs.length + (l.length + 1) ≤ 400 := hz
      obtain ⟨M1, e1, e2, e3⟩ := cemit (x := 10100 + x) hc1 (by omega)
      have a15 : rd M1 111 15 = nI l.length := by rw [e3 _ _ (by decide) (by decide), rd_we, if_pos ⟨rfl, rfl⟩]
      have a16 : rd M1 111 16 = nI (opn (x :: l)) := by rw [e3 _ _ (by decide) (by decide), wr_sp (by omega)]; exact h16
      have a114 : ∀ j, rd M1 114 j = rd M 114 j := fun j => by rw [e3 _ _ (by decide) (by omega), wr_sp (by omega)]
      have ast : stk (rd M1 114) l := by
        refine stk_fr (fun j _ => a114 j) hst.2
      have enc : xs ++ [10100 + x] = xs ++ [encO (opc x, 0)] := by rw [enc_opc x (by omega)]
      rw [enc] at e2
      have app : ∀ L : List Op, xs ++ ((opc x, 0) :: L).map encO = (xs ++ [encO (opc x, 0)]) ++ L.map encO := fun L => by simp
      have len1 : (xs ++ [encO (opc x, 0)]).length + l.length ≤ 400 := by rw [List.length_append]; show xs.length + 1 + l.length ≤ 400; omega
      have step : ∃ M2, b_X3_settleSigns_0 F (nI r) M = some (.inl M2) ∧ Cd M2 (xs ++ [encO (opc x, 0)]) ∧ rd M2 111 15 = nI l.length ∧ stk (rd M2 114) l ∧ rd M2 111 16 = nI (opn l) ∧ Fe M M2 := by
        rw [pre, if_neg (nI_nlt (by omega) (by omega)), e1, some_bind, a15, chk_is (inb_nI (by omega) (by decide)), ix_nI (by omega), a114, hx]
        by_cases y : x = 204
        · rw [if_pos y, bnd_e, a16]
          refine ⟨_, rfl, ⟨by rw [wr_sp (by omega)]; exact e2.1, fun i hi => by rw [wr_sp (by omega)]; exact e2.2 i hi⟩, by rw [wr_sp (by omega)]; exact a15, stk_fr (fun j _ => wr_sp (by omega)) ast, ?_, fun k j q1 q2 => ?_⟩
          · rw [rd_we, if_pos ⟨rfl, rfl⟩, opn_c, if_pos (Or.inl y), Nat.add_comm, nI_s1]
          · rw [wr_sp (by omega), e3 _ _ q1 (by omega), wr_sp (by omega)]
        · rw [if_neg y]
          have y40 : x ≠ 40 := fun z => by
            have : rkN 40 = 0 := by decide
            rw [z, this] at c
            omega
          refine ⟨_, rfl, e2, a15, ast, ?_, fun k j q1 q2 => ?_⟩
          · rw [a16, opn_c, if_neg (fun z => by rcases z with z | z; exact y z; exact y40 z), Nat.zero_add]
          · rw [e3 _ _ q1 (by omega), wr_sp (by omega)]
      obtain ⟨M2, s1, s2, s3, s4, s5, s6⟩ := step
      obtain ⟨M3, t1, t2, t3, t4, t5, t6⟩ := cset_is hr hr6 l M2 _ s2 s3 s4 s5 len1 fu (by have : (x :: l).length = l.length + 1 := rfl; omega)
      refine ⟨M3, (lp_inl s1).trans t1, ?_, t3, t4, t5, fun k j q1 q2 => (t6 k j q1 q2).trans (s6 k j q1 q2)⟩
      show Cd M3 (xs ++ ((opc x, 0) :: (stl r l).1).map encO)
      rw [app]; exact t2
/-- signs that wait, all of them -/
def sgL (pr su cm : Int32) (lg : List Int32) : List Int32 := pl pr ++ (pl su ++ (pl cm ++ lg))
def CB (M : Mem) (s : PS) : Prop :=
  match s with
  | (nx, d, (pr, su, cm), lg, cur, dn) =>
    rd M 111 11 = nI nx ∧ rd M 111 2 = nI (dn.length + (if nx = 0 then 0 else 1)) ∧ Cd M (encL dn ++ cur.map encO) ∧ (2 ≤ nx → rd M 111 12 = d) ∧ (4 ≤ nx → nx ≤ 6 → rd M 111 13 = if cm = 0 then 0 else 1) ∧
    rd M 111 15 = nI (sgL pr su cm lg).length ∧ stk (rd M 114) (sgL pr su cm lg) ∧ rd M 111 16 = nI (opn lg)
theorem opn_app : ∀ (a c : List Int32), opn (a ++ c) = opn a + opn c
  | [], c => (Nat.zero_add _).symm
  | x :: a, c => by
    show (if x = 204 ∨ x = 40 then 1 else 0) + opn (a ++ c) = (if x = 204 ∨ x = 40 then 1 else 0) + opn a + opn c
    rw [opn_app a c]; omega
theorem opn_pl {x : Int32} (h : x ≠ 204 ∧ x ≠ 40) : opn (pl x) = 0 := by
  unfold pl
  split
  · rfl
  · show (if x = 204 ∨ x = 40 then 1 else 0) + 0 = 0
    rw [if_neg (fun z => by rcases z with z | z; exact h.1 z; exact h.2 z)]
theorem opn_sg {pr su cm : Int32} {lg : List Int32} (h : sgOk pr su cm) : opn (sgL pr su cm lg) = opn lg := by
  unfold sgL
  rw [opn_app, opn_app, opn_app, opn_pl, opn_pl, opn_pl]
  · omega
  · rcases h.2.2 with rfl | rfl | rfl | rfl <;> decide
  · rcases h.2.1 with rfl | rfl | rfl <;> decide
  · rcases h.1 with rfl | rfl | rfl <;> decide
theorem stl_pl_no {r : Nat} {x : Int32} {l : List Int32} (h : rkN x < r) (hl : rkh l < r) (hr : 0 < r) : stl r (pl x ++ l) = ([], pl x ++ l) := by
  have b : stl r l = ([], l) := by
    cases l with
    | nil => rfl
    | cons y l => rw [stl_c, if_pos (show rkN y < r from hl)]
  unfold pl
  split
  · exact b
  · show stl r (x :: l) = _
    rw [stl_c, if_pos h]; rfl
theorem stl_pl_yes {r : Nat} {x : Int32} {l : List Int32} (h : x ≠ 0 → r ≤ rkN x) : stl r (pl x ++ l) = (ol x ++ (stl r l).1, (stl r l).2) := by
  unfold pl ol
  split
  · rfl
  · next y =>
    show stl r (x :: l) = _
    rw [stl_c, if_neg (by have := h y; omega)]; rfl
theorem rkh_lg {lg : List Int32} {t : List Nat} (h : FitC lg t) : rkh lg < 4 := by
  cases lg with
  | nil => decide
  | cons x l =>
    rcases h with ⟨rfl, -⟩ | ⟨rfl, -⟩ | ⟨rfl, -⟩ | ⟨rfl, -⟩
    · exact (show rkN 204 < 4 by decide)
    · exact (show rkN 40 < 4 by decide)
    · exact (show rkN 203 < 4 by decide)
    · exact (show rkN 202 < 4 by decide)
theorem rkh_pl {x : Int32} {l : List Int32} {r : Nat} (h : rkN x < r) (hl : rkh l < r) : rkh (pl x ++ l) < r := by
  unfold pl
  split
  · exact hl
  · exact h
/-- what the three kinds of operators settle -/
theorem sg_rk {pr su cm : Int32} (h : sgOk pr su cm) : (pr ≠ 0 → rkN pr = 6) ∧ (su ≠ 0 → rkN su = 5) ∧ (cm ≠ 0 → rkN cm = 4) ∧ rkN pr ≤ 6 ∧ rkN su < 6 ∧ rkN cm < 5 := by
  obtain ⟨a, c, d⟩ := h
  refine ⟨fun n => ?_, fun n => ?_, fun n => ?_, rk_le _, ?_, ?_⟩
  · rcases a with e | rfl | rfl
    · exact absurd e n
    · decide
    · decide
  · rcases c with e | rfl | rfl
    · exact absurd e n
    · decide
    · decide
  · rcases d with e | rfl | rfl | rfl
    · exact absurd e n
    · decide
    · decide
    · decide
  · rcases c with rfl | rfl | rfl <;> decide
  · rcases d with rfl | rfl | rfl | rfl <;> decide
theorem set6 {pr su cm : Int32} {lg : List Int32} {t : List Nat} (h : sgOk pr su cm) (f : FitC lg t) : stl 6 (sgL pr su cm lg) = (ol pr, sgL 0 su cm lg) := by
  obtain ⟨q1, q2, q3, q4, q5, q6⟩ := sg_rk h
  have r := rkh_lg f
  unfold sgL
  rw [stl_pl_yes (fun n => by have := q1 n; omega), stl_pl_no (by omega) (rkh_pl (by omega) (by omega)) (by decide), List.append_nil]
  rfl
theorem set5 {pr su cm : Int32} {lg : List Int32} {t : List Nat} (h : sgOk pr su cm) (f : FitC lg t) : stl 5 (sgL pr su cm lg) = (ol pr ++ ol su, sgL 0 0 cm lg) := by
  obtain ⟨q1, q2, q3, q4, q5, q6⟩ := sg_rk h
  have r := rkh_lg f
  unfold sgL
  rw [stl_pl_yes (fun n => by have := q1 n; omega), stl_pl_yes (fun n => by have := q2 n; omega), stl_pl_no (by omega) (by omega) (by decide), List.append_nil]
  rfl
theorem set4 {pr su cm : Int32} {lg : List Int32} {t : List Nat} {r : Nat} (hr : r ≤ 4) (h : sgOk pr su cm) (f : FitC lg t) : stl r (sgL pr su cm lg) = (ol pr ++ (ol su ++ (ol cm ++ (stl r lg).1)), (stl r lg).2) := by
  obtain ⟨q1, q2, q3, q4, q5, q6⟩ := sg_rk h
  unfold sgL
  rw [stl_pl_yes (fun n => by have := q1 n; omega), stl_pl_yes (fun n => by have := q2 n; omega), stl_pl_yes (fun n => by have := q3 n; omega)]
theorem stl4 {lg : List Int32} {t : List Nat} (f : FitC lg t) : stl 4 lg = ([], lg) := by
  have r := rkh_lg f
  cases lg with
  | nil => rfl
  | cons x l => rw [stl_c, if_pos (show rkN x < 4 from r)]
