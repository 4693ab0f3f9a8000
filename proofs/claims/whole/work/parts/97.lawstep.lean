/-! ===== the law's loop: every call agrees ===== -/
theorem WB.fr {w v : Nat → Nat → Prop} {M M' : Mem} (h : WB M) (f : Fr w v M M') (q : ∀ j, ¬ w 161 j ∧ ¬ w 181 j) (q2 : ¬ w 148 51) : WB M' := WB_eq h (fun j => f.1 _ _ (q j).1) (f.1 _ _ q2) (fun j => f.1 _ _ (q j).2)
theorem WB_vm {c c' : Nat} {M M1 M2 : Mem} {w1 v1 w2 v2 : Nat → Nat → Prop} (h : Inv c M) (h2 : Inv c' M2) (hw : WB M) (f1 : Fr w1 v1 M M1) (f2 : Fr w2 v2 M1 M2) (q1 : ∀ k j, w1 k j → 37 ≤ k ∧ k < 146) (r1 : ∀ k j, v1 k j → k ≠ 36) (q2 : ∀ k j, w2 k j → (k = 148 ∧ j ≠ 51) ∨ (149 ≤ k ∧ k ≤ 180)) (r2 : ∀ k j, v2 k j → False) : WB M2 := by
  obtain ⟨n, L, a1, -⟩ := h
  obtain ⟨n2, L2, a2, -⟩ := h2
  have k1 : ∀ k j, ¬ (37 ≤ k ∧ k < 146) → rd M1 k j = rd M k j := fun k j z => f1.1 _ _ (fun y => z (q1 k j y))
  have k2 : ∀ k j, ¬ ((k = 148 ∧ j ≠ 51) ∨ (149 ≤ k ∧ k ≤ 180)) → rd M2 k j = rd M1 k j := fun k j z => f2.1 _ _ (fun y => z (q2 k j y))
  have eC : vC 0 M2 = vC 0 M := vC_eqs (fun k j z => (k2 _ _ (by omega)).trans (k1 _ _ (by omega))) (fun j => (f2.2 _ _ (fun y => r2 _ _ y)).trans (f1.2 _ _ (fun y => r1 _ _ y rfl)))
  have e : vM M2 = vM M := by rw [a2, eC, a1]
  refine ⟨fun f hf => ?_, fun z f hf => ?_⟩
  · have t := congrFun (congrFun e 161) f
    rw [vM_if, vM_if, if_pos (by omega), if_pos (by omega)] at t
    rw [t]; exact hw.1 f hf
  · rw [k2 _ _ (by omega), k1 _ _ (by omega)] at z ⊢
    exact hw.2 z f hf
theorem WB_ring {fu : Nat} {M M2 : Mem} {a r : Int32} (hfu : 20 ≤ fu) (hw : WB M) (e : m_X6_ring fu M a = some (r, M2)) : WB M2 := by
  have fr := fr_m_X6_ring e
  refine ⟨fun f hf => ?_, fun z f hf => by rw [fr.1 _ _ (by unfold w_X6_ring; omega)] at z ⊢; exact hw.2 z f hf⟩
  unfold m_X6_ring at e
  rw [bnd_e, isIn_is, some_bind] at e
  by_cases q : tf (¬ a < 2 ∧ ¬ 10 < a) = 0
  · rw [if_pos q] at e
    have e2 := congrArg Prod.snd (Option.some.inj e)
    have e3 : wr M 148 0 0 = M2 := e2
    rw [← e3, wr_sp (by omega)]; exact hw.1 f hf
  · rw [if_neg q, bnd_e] at e
    obtain ⟨M', e4, e5⟩ := mring_is (fu := fu) (M := wr (wr M 148 0 0) 148 2 a) hfu
    rw [e4, some_bind, un1_is] at e
    have e6 : M' = M2 := congrArg Prod.snd (Option.some.inj e)
    have t := congrFun (congrFun e5 161) f
    rw [vM_if, if_pos (by omega)] at t
    have b : begV (vM (wr (wr M 148 0 0) 148 2 a)) 10 161 f = -1 := by
      unfold begV
      rw [if_pos ⟨by decide, by decide, hf⟩]
      unfold iniV
      rw [if_neg (by decide), if_neg (by decide), if_neg (by decide), if_pos (by decide)]
    rw [b] at t
    rw [← e6, t]; decide
theorem vM_n2 {c : Nat} {M M1 : Mem} {w v : Nat → Nat → Prop} (h : Inv c M) (f : Fr w v M M1) (q : ∀ k j, w k j → k < 146) : ∃ n, n ≤ 10 ∧ rd M1 148 2 = nI n := by
  obtain ⟨n, L, a1, a2, -⟩ := h
  exact ⟨n, a2.1.2.2, by rw [f.1 _ _ (fun z => by have := q _ _ z; omega)]; exact (m_n a1).trans a2.1.1⟩
theorem WB_was {M M2 : Mem} {a x r : Int32} (hw : WB M) (e : m_X6_was M a x = some (r, M2)) (hn : ∃ n, n ≤ 10 ∧ rd M 148 2 = nI n) : WB M2 := by
  have fr := fr_m_X6_was e
  refine ⟨fun f hf => ?_, fun z f hf => by rw [fr.1 _ _ (by unfold w_X6_was; omega)] at z ⊢; exact hw.2 z f hf⟩
  obtain ⟨n, h10, hn⟩ := hn
  unfold m_X6_was at e
  rw [bnd_e, isFarm_is, some_bind, rd_t0 (by omega), hn] at e
  by_cases q : ¬ a < 0 ∧ ¬ nI n ≤ a
  · rw [if_neg (by rw [tf_0]; exact fun z => z q), isIn_is, some_bind] at e
    by_cases q2 : ¬ x < -1 ∧ ¬ 60 < x
    · obtain ⟨g, hg, rfl⟩ := arg_nI (a := a) (n := n) q.1 q.2 (by omega)
      rw [if_neg (by rw [tf_0]; exact fun z => z q2), chk_is (inb_nI (by omega) (by decide)), ix_nI (by omega), bnd_e] at e
      have e3 : wr (wr M 148 0 0) 161 g x = M2 := congrArg Prod.snd (Option.some.inj e)
      rw [← e3, rd_we]
      by_cases y : 161 = 161 ∧ f = g
      · rw [if_pos y]; exact ⟨by grind, by grind⟩
      · rw [if_neg y, wr_sp (by omega)]; exact hw.1 f hf
    · rw [if_pos (by rw [tf_0]; exact q2)] at e
      have e3 : wr M 148 0 0 = M2 := congrArg Prod.snd (Option.some.inj e)
      rw [← e3, wr_sp (by omega)]; exact hw.1 f hf
  · rw [if_pos (by rw [tf_0]; exact q)] at e
    have e3 : wr M 148 0 0 = M2 := congrArg Prod.snd (Option.some.inj e)
    rw [← e3, wr_sp (by omega)]; exact hw.1 f hf
theorem inb_p {c L k : Nat} (h : 6 * c + k < L) (hL : L ≤ 3072) : inb (nI (6 * c) + nI k) L = true := by rw [nI_add]; exact inb_nI h (by omega)
theorem law_step {fu L c : Nat} {xs : Nat → Int32} {M : Mem} (hfu : 5000 ≤ fu) (hL : L ≤ 3072) (h : Inv c M) (hw : WB M) (hi : 6 * c + 6 ≤ L) : ∃ M', b_L_law_18 fu L xs (nI (6 * c), M) = some (.inl (nI (6 * (c + 1)), M')) ∧ Inv (c + 1) M' ∧ WB M' := by
  have hc : c ≤ 512 := by omega
  have hb0 := inb_nI (show 6 * c < L by omega) (by omega)
  have hb1 : inb (nI (6 * c) + 1) L = true := inb_p (k := 1) (by omega) hL
  have hb2 : inb (nI (6 * c) + 2) L = true := inb_p (k := 2) (by omega) hL
  have hb3 : inb (nI (6 * c) + 3) L = true := inb_p (k := 3) (by omega) hL
  have hb4 : inb (nI (6 * c) + 4) L = true := inb_p (k := 4) (by omega) hL
  have hb5 : inb (nI (6 * c) + 5) L = true := inb_p (k := 5) (by omega) hL
  have s6 : nI (6 * c) + 6 = nI (6 * (c + 1)) := by rw [show (6 : Int32) = nI 6 from rfl, nI_add]; congr 1
  have e0 : Int32.ofNat L - 6 = nI (L - 6) := by show nI L - nI 6 = _; rw [pk_sub (by omega)]
  unfold b_L_law_18
  rw [un2_is, e0, if_neg (nI_nlt (by omega) (by omega)), chk_is hb0, bnd_e]
  generalize xs (ix (nI (6 * c))) &&& 31 = v
  by_cases n0 : v = 0
  · obtain ⟨r, M1, M2, e1, e2, e3⟩ := op_state h (xs (ix (nI (6 * c) + 1)))
    refine ⟨M2, by rw [if_pos n0, chk_is hb1, e1, some_bind, un2_is, e2, some_bind, un2_is, if_pos rfl, bnd_e, s6], e3, ?_⟩
    exact (hw.fr (fr_m_X5_state e1) (fun j => by unfold w_X5_state; omega) (by unfold w_X5_state; omega)).fr (fr_m_X6_state e2) (fun j => by unfold w_X6_state; omega) (by unfold w_X6_state; omega)
  rw [if_neg n0]
  by_cases n1 : v = 1
  · obtain ⟨r, M1, M2, e1, e2, e3⟩ := op_ring (fu := fu) (by omega) h (xs (ix (nI (6 * c) + 1)))
    refine ⟨M2, by rw [if_pos n1, chk_is hb1, e1, some_bind, un2_is, e2, some_bind, un2_is, if_pos rfl, bnd_e, s6], e3, ?_⟩
    exact WB_ring (by omega) (hw.fr (fr_m_X5_ring e1) (fun j => by unfold w_X5_ring; omega) (by unfold w_X5_ring; omega)) e2
  rw [if_neg n1]
  by_cases n2 : v = 2
  · obtain ⟨r, M1, M2, e1, e2, e3⟩ := op_farm h (xs (ix (nI (6 * c) + 1))) (xs (ix (nI (6 * c) + 2))) (xs (ix (nI (6 * c) + 3)))
    refine ⟨M2, by rw [if_pos n2, chk_is hb1, chk_is hb2, chk_is hb3, e1, some_bind, un2_is, e2, some_bind, un2_is, if_pos rfl, bnd_e, s6], e3, ?_⟩
    exact (hw.fr (fr_m_X5_farm e1) (fun j => by unfold w_X5_farm; omega) (by unfold w_X5_farm; omega)).fr (fr_m_X6_farm e2) (fun j => by unfold w_X6_farm; omega) (by unfold w_X6_farm; omega)
  rw [if_neg n2]
  by_cases n3 : v = 3
  · obtain ⟨r, M1, M2, e1, e2, e3⟩ := op_border h (xs (ix (nI (6 * c) + 1))) (xs (ix (nI (6 * c) + 2))) (xs (ix (nI (6 * c) + 3)))
    refine ⟨M2, by rw [if_pos n3, chk_is hb1, chk_is hb2, chk_is hb3, e1, some_bind, un2_is, e2, some_bind, un2_is, if_pos rfl, bnd_e, s6], e3, ?_⟩
    exact (hw.fr (fr_m_X5_border e1) (fun j => by unfold w_X5_border; omega) (by unfold w_X5_border; omega)).fr (fr_m_X6_border e2) (fun j => by unfold w_X6_border; omega) (by unfold w_X6_border; omega)
  rw [if_neg n3]
  by_cases n4 : v = 4
  · obtain ⟨r, M1, M2, e1, e2, e3⟩ := op_set h (xs (ix (nI (6 * c) + 1))) (xs (ix (nI (6 * c) + 2)))
    refine ⟨M2, by rw [if_pos n4, chk_is hb1, chk_is hb2, e1, some_bind, un2_is, e2, some_bind, un2_is, if_pos rfl, bnd_e, s6], e3, ?_⟩
    exact (hw.fr (fr_m_X5_set e1) (fun j => by unfold w_X5_set; omega) (by unfold w_X5_set; omega)).fr (fr_m_X6_set e2) (fun j => by unfold w_X6_set; omega) (by unfold w_X6_set; omega)
  rw [if_neg n4]
  by_cases n5 : v = 5
  · obtain ⟨r, M2, e1, e2, e3⟩ := op_worth h (xs (ix (nI (6 * c) + 1)))
    refine ⟨M2, by rw [if_pos n5, chk_is hb1, e1, some_bind, e2, some_bind, un2_is, if_pos rfl, bnd_e, s6], e3, ?_⟩
    exact hw.fr (fr_m_X6_worth e2) (fun j => by unfold w_X6_worth; omega) (by unfold w_X6_worth; omega)
  rw [if_neg n5]
  by_cases n6 : v = 6
  · obtain ⟨r, M1, M2, e1, e2, e3⟩ := op_feed (fu := fu) (by omega) h (xs (ix (nI (6 * c) + 1))) (xs (ix (nI (6 * c) + 2))) (xs (ix (nI (6 * c) + 3))) (xs (ix (nI (6 * c) + 4))) (xs (ix (nI (6 * c) + 5)))
    refine ⟨M2, by rw [if_pos n6, chk_is hb1, chk_is hb2, chk_is hb3, chk_is hb4, chk_is hb5, e1, some_bind, un2_is, e2, some_bind, un2_is, if_pos rfl, bnd_e, s6], e3, ?_⟩
    exact (hw.fr (fr_m_X5_feed e1) (fun j => by unfold w_X5_feed; omega) (by unfold w_X5_feed; omega)).fr (fr_m_X6_feed e2) (fun j => by unfold w_X6_feed; omega) (by unfold w_X6_feed; omega)
  rw [if_neg n6]
  by_cases n7 : v = 7
  · obtain ⟨r, M1, M2, e1, e2, e3⟩ := op_end h (xs (ix (nI (6 * c) + 1)))
    refine ⟨M2, by rw [if_pos n7, chk_is hb1, e1, some_bind, un2_is, e2, some_bind, un2_is, if_pos rfl, bnd_e, s6], e3, ?_⟩
    exact (hw.fr (fr_m_X5_end e1) (fun j => by unfold w_X5_end; omega) (by unfold w_X5_end; omega)).fr (fr_m_X6_end e2) (fun j => by unfold w_X6_end; omega) (by unfold w_X6_end; omega)
  rw [if_neg n7]
  by_cases n8 : v = 8
  · obtain ⟨r, M1, M2, e1, e2, e3⟩ := op_text (fu := fu) (by omega) h (xs (ix (nI (6 * c) + 1)))
    refine ⟨M2, by rw [if_pos n8, chk_is hb1, e1, some_bind, un2_is, e2, some_bind, un2_is, if_pos rfl, bnd_e, s6], e3, ?_⟩
    exact (hw.fr (fr_m_X5_text e1) (fun j => by unfold w_X5_text; omega) (by unfold w_X5_text; omega)).fr (fr_m_X6_text e2) (fun j => by unfold w_X6_text; omega) (by unfold w_X6_text; omega)
  rw [if_neg n8]
  by_cases n9 : v = 9
  · obtain ⟨r, M2, e1, e2, e3⟩ := op_fault h (xs (ix (nI (6 * c) + 1)))
    refine ⟨M2, by rw [if_pos n9, chk_is hb1, e1, some_bind, e2, some_bind, un2_is, if_pos rfl, bnd_e, s6], e3, ?_⟩
    exact hw.fr (fr_m_X6_fault e2) (fun j => by unfold w_X6_fault; omega) (by unfold w_X6_fault; omega)
  rw [if_neg n9]
  by_cases n10 : v = 10
  · obtain ⟨r, M1, M2, e1, e2, e3⟩ := op_of (fu := fu) (by omega) (by omega) h (xs (ix (nI (6 * c) + 1))) (xs (ix (nI (6 * c) + 2)))
    refine ⟨M2, by rw [if_pos n10, chk_is hb1, chk_is hb2, e1, some_bind, un2_is, e2, some_bind, un2_is, if_pos rfl, bnd_e, s6], e3, ?_⟩
    exact (hw.fr (fr_m_X5_of e1) (fun j => by unfold w_X5_of; omega) (by unfold w_X5_of; omega)).fr (fr_m_X6_of e2) (fun j => by unfold w_X6_of; omega) (by unfold w_X6_of; omega)
  rw [if_neg n10]
  by_cases n11 : v = 11
  · obtain ⟨r, M2, e1, e2, e3⟩ := op_stake h (xs (ix (nI (6 * c) + 1))) (xs (ix (nI (6 * c) + 2)))
    refine ⟨M2, by rw [if_pos n11, chk_is hb1, chk_is hb2, e1, some_bind, e2, some_bind, un2_is, if_pos rfl, bnd_e, s6], e3, ?_⟩
    exact hw.fr (fr_m_X6_stake e2) (fun j => by unfold w_X6_stake; omega) (by unfold w_X6_stake; omega)
  rw [if_neg n11]
  by_cases n12 : v = 12
  · obtain ⟨r, M1, M2, e1, e2, e3⟩ := op_nights (fu := fu) (by omega) (by omega) h (xs (ix (nI (6 * c) + 1)))
    refine ⟨M2, by rw [if_pos n12, chk_is hb1, e1, some_bind, un2_is, e2, some_bind, un2_is, if_pos rfl, bnd_e, s6], e3, ?_⟩
    exact (hw.fr (fr_m_X5_nights e1) (fun j => by unfold w_X5_nights; omega) (by unfold w_X5_nights; omega)).fr (fr_m_X6_nights e2) (fun j => by unfold w_X6_nights; omega) (by unfold w_X6_nights; omega)
  rw [if_neg n12]
  by_cases n13 : v = 13
  · obtain ⟨r, M2, e1, e2, e3⟩ := op_value (fu := fu) (by omega) (by omega) h (xs (ix (nI (6 * c) + 1))) (xs (ix (nI (6 * c) + 2)))
    refine ⟨M2, by rw [if_pos n13, chk_is hb1, chk_is hb2, e1, some_bind, e2, some_bind, un2_is, if_pos rfl, bnd_e, s6], e3, ?_⟩
    exact hw.fr (fr_m_X6_value e2) (fun j => by unfold w_X6_value; omega) (by unfold w_X6_value; omega)
  rw [if_neg n13]
  by_cases n14 : v = 14
  · obtain ⟨r, M2, e1, e2, e3⟩ := op_reply (fu := fu) (by omega) (by omega) h (xs (ix (nI (6 * c) + 1))) (xs (ix (nI (6 * c) + 2)))
    refine ⟨M2, by rw [if_pos n14, chk_is hb1, chk_is hb2, e1, some_bind, e2, some_bind, un2_is, if_pos rfl, bnd_e, s6], e3, ?_⟩
    exact hw.fr (fr_m_X6_reply e2) (fun j => by unfold w_X6_reply; omega) (by unfold w_X6_reply; omega)
  rw [if_neg n14]
  by_cases n15 : v = 15
  · obtain ⟨r, M1, M2, e1, e2, e3⟩ := op_rests (fu := fu) (by omega) (by omega) h (xs (ix (nI (6 * c) + 1)))
    refine ⟨M2, by rw [if_pos n15, chk_is hb1, e1, some_bind, un2_is, e2, some_bind, un2_is, if_pos rfl, bnd_e, s6], e3, ?_⟩
    exact (hw.fr (fr_m_X5_rests e1) (fun j => by unfold w_X5_rests; omega) (by unfold w_X5_rests; omega)).fr (fr_m_X6_rests e2) (fun j => by unfold w_X6_rests; omega) (by unfold w_X6_rests; omega)
  rw [if_neg n15]
  by_cases n16 : v = 16
  · obtain ⟨r, M1, M2, e1, e2, e3⟩ := op_still (fu := fu) (by omega) (by omega) h 
    refine ⟨M2, by rw [if_pos n16, e1, some_bind, un2_is, e2, some_bind, un2_is, if_pos rfl, bnd_e, s6], e3, ?_⟩
    exact (hw.fr (fr_m_X5_still e1) (fun j => by unfold w_X5_still; omega) (by unfold w_X5_still; omega)).fr (fr_m_X6_still e2) (fun j => by unfold w_X6_still; omega) (by unfold w_X6_still; omega)
  rw [if_neg n16]
  by_cases n17 : v = 17
  · obtain ⟨r, M1, M2, e1, e2, e3⟩ := op_walls (fu := fu) (by omega) (by omega) h (xs (ix (nI (6 * c) + 1))) (xs (ix (nI (6 * c) + 2)))
    refine ⟨M2, by rw [if_pos n17, chk_is hb1, chk_is hb2, e1, some_bind, un2_is, e2, some_bind, un2_is, if_pos rfl, bnd_e, s6], e3, ?_⟩
    exact (hw.fr (fr_m_X5_walls e1) (fun j => by unfold w_X5_walls; omega) (by unfold w_X5_walls; omega)).fr (fr_m_X6_walls e2) (fun j => by unfold w_X6_walls; omega) (by unfold w_X6_walls; omega)
  rw [if_neg n17]
  by_cases n18 : v = 18
  · obtain ⟨r, M2, e1, e2, e3⟩ := op_pact (fu := fu) (by omega) (by omega) h (xs (ix (nI (6 * c) + 1))) (xs (ix (nI (6 * c) + 2)))
    refine ⟨M2, by rw [if_pos n18, chk_is hb1, chk_is hb2, e1, some_bind, e2, some_bind, un2_is, if_pos rfl, bnd_e, s6], e3, ?_⟩
    exact hw.fr (fr_m_X6_pact e2) (fun j => by unfold w_X6_pact; omega) (by unfold w_X6_pact; omega)
  rw [if_neg n18]
  by_cases n19 : v = 19
  · obtain ⟨r, M1, M2, e1, e2, e3⟩ := op_two (fu := fu) (by omega) (by omega) h (xs (ix (nI (6 * c) + 1))) (xs (ix (nI (6 * c) + 2))) (xs (ix (nI (6 * c) + 3))) (xs (ix (nI (6 * c) + 4)))
    refine ⟨M2, by rw [if_pos n19, chk_is hb1, chk_is hb2, chk_is hb3, chk_is hb4, e1, some_bind, un2_is, e2, some_bind, un2_is, if_pos ((lg_eq _ _).mpr rfl), bnd_e, s6], e3, ?_⟩
    exact (hw.fr (fr_m_X5_two e1) (fun j => by unfold w_X5_two; omega) (by unfold w_X5_two; omega)).fr (fr_m_X6_two e2) (fun j => by unfold w_X6_two; omega) (by unfold w_X6_two; omega)
  rw [if_neg n19]
  by_cases n20 : v = 20
  · obtain ⟨r, M1, M2, e1, e2, e3⟩ := op_was h (xs (ix (nI (6 * c) + 1))) (xs (ix (nI (6 * c) + 2)))
    refine ⟨M2, by rw [if_pos n20, chk_is hb1, chk_is hb2, e1, some_bind, un2_is, e2, some_bind, un2_is, if_pos rfl, bnd_e, s6], e3, ?_⟩
    exact WB_was (hw.fr (fr_m_X5_was e1) (fun j => by unfold w_X5_was; omega) (by unfold w_X5_was; omega)) e2 (vM_n2 h (fr_m_X5_was e1) (fun k j q => by unfold w_X5_was at q; omega))
  rw [if_neg n20]
  by_cases n21 : v = 21
  · obtain ⟨r, M2, e1, e2, e3⟩ := op_judged (fu := fu) (by omega) (by omega) h hw 
    refine ⟨M2, by rw [if_pos n21, e1, some_bind, e2, some_bind, un2_is, if_pos rfl, bnd_e, s6], e3, ?_⟩
    exact hw.fr (fr_m_X6_judged e2) (fun j => by unfold w_X6_judged; omega) (by unfold w_X6_judged; omega)
  rw [if_neg n21]
  by_cases n22 : v = 22
  · obtain ⟨r, M1, M2, e1, e2, e3⟩ := op_feet (fu := fu) (by omega) (by omega) h (xs (ix (nI (6 * c) + 1)))
    refine ⟨M2, by rw [if_pos n22, chk_is hb1, e1, some_bind, un2_is, e2, some_bind, un2_is, if_pos rfl, bnd_e, s6], e3, ?_⟩
    exact WB_vm h e3 hw (fr_m_X5_feet e1) (fr_m_X6_feet e2) (fun k j q => by unfold w_X5_feet at q; omega) (fun k j q => by unfold v_X5_feet at q; omega) (fun k j q => by unfold w_X6_feet at q; omega) (fun k j q => q.elim)
  rw [if_neg n22]
  by_cases n23 : v = 23
  · obtain ⟨r, M1, M2, e1, e2, e3⟩ := op_thought (fu := fu) (by omega) (by omega) h (xs (ix (nI (6 * c) + 1))) (xs (ix (nI (6 * c) + 2)))
    refine ⟨M2, by rw [if_pos n23, chk_is hb1, chk_is hb2, e1, some_bind, un2_is, e2, some_bind, un2_is, if_pos rfl, bnd_e, s6], e3, ?_⟩
    exact WB_vm h e3 hw (fr_m_X5_thought e1) (fr_m_X6_thought e2) (fun k j q => by unfold w_X5_thought at q; omega) (fun k j q => by unfold v_X5_thought at q; omega) (fun k j q => by unfold w_X6_thought at q; omega) (fun k j q => q.elim)
  rw [if_neg n23]
  by_cases n24 : v = 24
  · rw [if_pos n24, chk_is hb1]
    have im : ∀ t : Int32, (t = 0 ∨ t = 1) → (if xs (ix (nI (6 * c) + 1)) = 0 then (0 : Int32) else 1) = t → ∃ M2, j_L_law_899i fu L xs M (nI (6 * c)) t = some (.inl (nI (6 * (c + 1)), M2)) ∧ Inv (c + 1) M2 ∧ WB M2 := by
      intro t ht et
      obtain ⟨r, M1, M2, e1, e2, e3, e4⟩ := op_image (fu := fu) (by omega) h hw t ht
      refine ⟨M2, ?_, e3, e4⟩
      unfold j_L_law_899i j_L_law_916i
      rw [e1, some_bind, un2_is, chk_is hb1]
      by_cases z : xs (ix (nI (6 * c) + 1)) = 0
      · rw [if_pos z] at et ⊢
        rw [← et] at e2
        rw [e2, some_bind, un2_is, if_pos rfl, bnd_e, s6]
      · rw [if_neg z] at et ⊢
        rw [← et] at e2
        rw [e2, some_bind, un2_is, if_pos rfl, bnd_e, s6]
    by_cases z : xs (ix (nI (6 * c) + 1)) = 0
    · rw [if_pos z]; exact im 0 (Or.inl rfl) (if_pos z)
    · rw [if_neg z]; exact im 1 (Or.inr rfl) (if_neg z)
  rw [if_neg n24]
  by_cases n25 : v = 25
  · obtain ⟨r, M2, e1, e2, e3⟩ := op_look (fu := fu) (by omega) h (xs (ix (nI (6 * c) + 1)))
    refine ⟨M2, by rw [if_pos n25, chk_is hb1, e1, some_bind, e2, some_bind, un2_is, if_pos rfl, bnd_e, s6], e3, ?_⟩
    exact hw.fr (fr_m_X6_look e2) (fun j => by unfold w_X6_look; omega) (by unfold w_X6_look; omega)
  rw [if_neg n25]
  refine ⟨M, by rw [bnd_e, s6], h.mono (Nat.le_succ c), hw⟩
theorem law_end {fu L c : Nat} {xs : Nat → Int32} {M : Mem} (hL : L ≤ 3072) (hc : 6 * c ≤ L) (hi : L < 6 * c + 6) : b_L_law_18 fu L xs (nI (6 * c), M) = some (.inr M) := by
  unfold b_L_law_18
  have e : (Int32.ofNat L - 6).toInt = (L : Int) - 6 := pk_sub_toInt (a := L) (b := 6) (by omega) (by decide)
  rw [un2_is, if_pos (I_lt.mpr (by rw [e, nI_toInt (by omega)]; omega))]
theorem law_all {fu L : Nat} {xs : Nat → Int32} {M : Mem} (hfu : 5000 ≤ fu) (hL : L ≤ 3072) (h : Inv 0 M) (hw : WB M) : ∃ M', lp (b_L_law_18 fu L xs) fu (0, M) = some M' := by
  obtain ⟨x, e, -⟩ := lp_up (body := b_L_law_18 fu L xs) (L / 6) (fun c s => ∃ Z, s = (nI (6 * c), Z) ∧ Inv c Z ∧ WB Z) (fun _ => True) (by
    rintro c s hc ⟨Z, rfl, z1, z2⟩
    left
    obtain ⟨Y, y1, y2, y3⟩ := law_step (xs := xs) hfu hL z1 z2 (by omega)
    exact ⟨_, y1, Y, rfl, y2, y3⟩) (by
    rintro s ⟨Z, rfl, z1, z2⟩
    exact ⟨Z, law_end hL (by omega) (by omega), trivial⟩) fu 0 (0, M) (Nat.zero_le _) (by omega) ⟨M, rfl, h, hw⟩
  exact ⟨x, e⟩
