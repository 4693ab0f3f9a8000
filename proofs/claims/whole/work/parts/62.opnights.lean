/-! ===== nights, of ===== -/
theorem PBg {c : Nat} {M : Mem} {V : Vw} {n : Nat} {W : Int} (hP : PB 0 M V) (h : Vok V n W 9999) (g : Nat) (hg : g < 10) : -100000000000 ≤ (rdl M (0 + 36) g).toInt ∧ (rdl M (0 + 36) g).toInt ≤ 100000000000 := by
  have := hP g hg
  have := h.2.2.2.2.2.2.2.2.2.2.2
  have := h.2.2.2.2.2.2.2.2.2.2.1
  omega
theorem op_nights {fu c : Nat} {M : Mem} (hf : 5000 ≤ fu) (hc : c ≤ 512) (h : Inv c M) (a : Int32) : ∃ r M1 M2, m_X5_nights fu M a = some (r, M1) ∧ m_X6_nights fu M1 a = some (r, M2) ∧ Inv (c + 1) M2 := by
  obtain ⟨n, L, h1, h2, h3, h4, h5, h6, h7, h8⟩ := id h
  have hwI : wI c ≤ 31320 := by unfold wI; omega
  have k1 : rd M 0 2 = rd M 148 3 := (c_ni h1.symm).trans (m_ni rfl).symm
  have k2 : rd M 0 3 = rd M 148 4 := (c_mo h1.symm).trans (m_mo rfl).symm
  have t3 : rd (wr M 148 0 0) 148 3 = rd M 148 3 := rd_t0 (by omega)
  have N0 := h2.2.2.2.2.2.2.2.2.2.2.1
  have N9 := h2.2.2.2.2.2.2.2.2.2.2.2
  have kv : rd M 0 2 = vC 0 M 148 3 := rfl
  by_cases q : (¬ a < 1 ∧ ¬ 99 < a) ∧ rd M 0 2 + a ≤ 9999
  · obtain ⟨m, hm, rfl⟩ := arg_nI (a := a) (n := 100) (by grind) (by have e : nI 100 = 100 := rfl; grind) (by decide)
    obtain ⟨M1, a1, a2, a3, a4⟩ := cpass_is (c := m) (by omega : 500 ≤ fu) (rfl : vC 0 M = vC 0 M) h2 hwI (by omega) h4 h6 (by omega) (PBg (c := c) h3 h2)
    have g1 := fr_m_X4_pass a1
    have eM1 : vM M1 = vM M := vM_fr g1 (fun k j z => by unfold w_X4_pass at z; omega)
    have hm1 : vM (wr M1 148 0 0) = vC 0 M := by rw [vM_t0, eM1, h1]
    have hL1 : LawsM (wr M1 148 0 0) L := LawsM_eq (fun k j z1 z2 => by rw [rd_t0 (by omega)]; exact g1.1 _ _ (by unfold w_X4_pass; omega)) h5
    obtain ⟨M2, b1, b2, b3, b4⟩ := mpass_is (body := b_X6_nights_37 fu (nI m) (rd M 148 4)) (c := m) (fun i M1 hi => by unfold b_X6_nights_37; rw [un2_is, if_neg (nI_ge hi (by omega))]; simp only [bnd_is, nI_1]) (fun M1 => by unfold b_X6_nights_37; rw [un2_is, if_pos (nI_le (Nat.le_refl _) (by omega))]) (by omega : 500 ≤ fu) hm1 h2 (by omega) (by omega) hL1 h6 (by omega)
    have r3 : rd (wr M1 148 0 0) 148 3 = rd M 0 2 := (m_ni hm1)
    have r4 : rd (wr M1 148 0 0) 148 4 = rd M 148 4 := (m_mo hm1).trans k2
    have e1 : m_X5_nights fu M (nI m) = some (nightsS (vC 0 M) n L m 148 4 - rd M 148 4, M1) := by
      unfold m_X5_nights
      rw [if_neg q.1.1, if_neg q.1.2, if_pos q.2, bnd_e, a1, some_bind, c_mo a2, k2]
    have e2 : m_X6_nights fu M1 (nI m) = some (nightsS (vC 0 M) n L m 148 4 - rd M 148 4, M2) := by
      unfold m_X6_nights
      rw [bnd_e, isIn_is, some_bind, if_neg (by rw [tf_0]; exact fun z => z q.1), r3, if_pos q.2, bnd_e, r4, b1, some_bind, un1_is, m_mo b2]
    refine ⟨_, M1, M2, e1, e2, ?_⟩
    have g2 := fr_m_X6_nights e2
    have eC : vC 0 M2 = nightsS (vC 0 M) n L m := by
      rw [vC_fr g2 (fun k j z => by unfold w_X6_nights at z; omega) (fun k j z => z.elim)]; exact a2
    have kI : ∀ k j, ¬ w_X4_pass 0 k j → ¬ w_X6_nights k j → rd M2 k j = rd M k j := fun k j z1 z2 => (g2.1 k j z2).trans (g1.1 k j z1)
    have n3 : vC 0 M2 148 3 = vC 0 M 148 3 + nI m := by rw [eC, nights_3]
    have nI3 : (vC 0 M 148 3 + nI m).toInt = (vC 0 M 148 3).toInt + m := by rw [I_add (by rw [nI_toInt (by omega)]; omega) (by rw [nI_toInt (by omega)]; omega), nI_toInt (by omega)]
    have q9 : (vC 0 M 148 3).toInt + m ≤ 9999 := by
      have := I_le.mp q.2
      rw [kv, nI3] at this
      exact this
    refine h.upd (Nat.le_succ c) (fun e => by rw [eC, b2]) (fun n' hn' => ⟨n, ?_⟩) (fun _ f hf => ?_) (fun k j z => (g2.2 _ _ (fun y => y.elim)).trans (g1.2 _ _ (fun y => by unfold v_X4_pass at y; omega))) (fun k j z => kI k j (by unfold keepL at z; unfold w_X4_pass; omega) (by unfold keepL at z; unfold w_X6_nights; omega)) (fun k j z => kI k j (by unfold keepX at z; unfold w_X4_pass; omega) (by unfold keepX at z; unfold w_X6_nights; omega)) (fun k j z => kI k j (by unfold keepG at z; unfold w_X4_pass; omega) (by unfold keepG at z; unfold w_X6_nights; omega))
    · have ok := nights_ok (L := L) h2 (by omega) (by omega) m (by omega)
      obtain ⟨o1, o2, o3, o4, o5, o6, o7, o8, o9, o10, o11, o12⟩ := ok
      rw [eC]
      refine ⟨o1, o2, Int.le_trans o3 (by rw [wI_s]; omega), o4, o5, o6, o7, o8, o9, o10, o11, ?_⟩
      rw [nights_3, nI3]; exact q9
    · have p0 := h3 f hf
      have p1 := a4 f hf
      have p2 : rdl M2 (0 + 36) f = rdl M1 (0 + 36) f := g2.2 _ _ (fun y => y.elim)
      rw [p2, n3, nI3]
      omega
  · refine ⟨-1, M, wr M 148 0 0, ?_, ?_, h.t0⟩
    · unfold m_X5_nights
      by_cases q1 : a < 1
      · rw [if_pos q1]
      · by_cases q2 : 99 < a
        · rw [if_neg q1, if_pos q2]
        · rw [if_neg q1, if_neg q2, if_neg (fun z => q ⟨⟨q1, q2⟩, z⟩)]
    · unfold m_X6_nights
      rw [bnd_e, isIn_is, some_bind, t3, ← k1]
      by_cases q1 : ¬ a < 1 ∧ ¬ 99 < a
      · rw [if_neg (by rw [tf_0]; exact fun z => z q1), if_neg (fun z => q ⟨q1, z⟩)]
      · rw [if_pos (by rw [tf_0]; exact q1)]
theorem op_of {fu c : Nat} {M : Mem} (hf : 5000 ≤ fu) (hc : c ≤ 512) (h : Inv c M) (a b : Int32) : ∃ r M1 M2, m_X5_of fu M a b = some (r, M1) ∧ m_X6_of fu M1 a b = some (r, M2) ∧ Inv (c + 1) M2 := by
  obtain ⟨n, L, h1, h2, h3, h4, h5, h6, h7, h8⟩ := id h
  have hwI : wI c ≤ 100000 := wI_le hc
  have hV : vC 0 M = vM M := h1.symm
  have k0 : rd M 0 0 = nI n := h2.1.1
  have h10 := h2.1.2.2
  have km : rd M 148 2 = nI n := by rw [m_n h1]; exact h2.1.1
  by_cases q : ¬ a < 0 ∧ ¬ nI n ≤ a
  · obtain ⟨f, hfn, rfl⟩ := arg_nI (a := a) (n := n) q.1 q.2 (by omega)
    have hx := ix_nI (show f < 2 ^ 31 by omega)
    have hb := inb_nI (show f < 10 by omega) (by decide : 10 ≤ 2 ^ 31)
    have A : ∀ b : Int32, m_X5_of fu M (nI f) b = if b < 0 then some ((-100000000), M) else if b ≤ 8 then (if b = 4 then (m_X4_purseAsInt 0 M (nI f)).bind (fun r_8 => some (r_8, M)) else if b = 8 then (m_X4_does fu 0 M (nI f)).bind (un2 fun r_11 M_12 => some (r_11, M_12)) else chk (inb (nI f) 10) (chk (inb b 9) (some (rd M (0 + 8 + ix (nI f)) (ix b), M)))) else some ((-100000000), M) := by
      intro b
      unfold m_X5_of
      rw [has_is, some_bind, k0, if_neg (by rw [tf_0]; exact fun z => z q)]
    have low : ∀ k : Nat, k < 8 → k ≠ 4 → m_X5_of fu M (nI f) (nI k) = some (vC 0 M (149 + k) f, M) := by
      intro k hk k4
      rw [A, if_neg (nI_pos (by omega)), if_pos (by rw [show (8 : Int32) = nI 8 from rfl]; exact nI_le (by omega) (by decide)), if_neg (by rw [show (4 : Int32) = nI 4 from rfl]; exact fun z => k4 (nI_inj (by omega) (by decide) z)), if_neg (by rw [show (8 : Int32) = nI 8 from rfl]; exact fun z => by have := nI_inj (by omega) (by decide) z; omega), chk_is hb, chk_is (inb_nI (by omega) (by decide)), hx, ix_nI (by omega)]
      have : rd M (0 + 8 + f) k = vC 0 M (149 + k) f := by
        unfold vC
        rw [if_neg (by omega), if_pos (by omega), if_neg (by omega), if_pos (by omega)]
        rw [Nat.add_sub_cancel_left]
      rw [this]
    have lm : ∀ k : Nat, k < 8 → rd (wr M 148 0 0) (149 + k) f = vC 0 M (149 + k) f := by
      intro k hk
      rw [rd_t0 (by omega), ← h1]
      exact m_at rfl (by omega) (by omega) (by omega)
    suffices H : (∃ r, m_X5_of fu M (nI f) b = some (r, M) ∧ m_X6_of fu M (nI f) b = some (r, wr M 148 0 0)) ∨ b = 8 by
      rcases H with ⟨r, q1, q2⟩ | rfl
      · exact ⟨r, _, _, q1, q2, h.t0⟩
      · obtain ⟨M1, e1, e2⟩ := cdoes_is (by omega : 500 ≤ fu) (rfl : vC 0 M = vC 0 M) h2 hwI h4 h6 hfn
        have e3 : m_X5_of fu M (nI f) 8 = some (doesS (vC 0 M) n L f, M1) := by
          rw [A, if_neg (by decide), if_pos (by decide), if_neg (by decide), if_pos rfl, e1, some_bind, un2_is]
        have g1 : Fr (fun k j => k = 7) (fun _ _ => False) M M1 := ⟨fun k j z => e2.1 _ _ (by omega), fun k j _ => e2.2 _ _⟩
        have hm1 : vM (wr M1 148 0 0) = vC 0 M := by rw [vM_t0, vM_fr g1 (fun k j z => by omega), h1]
        have hL1 : LawsM (wr M1 148 0 0) L := LawsM_eq (fun k j z1 z2 => by rw [rd_t0 (by omega)]; exact g1.1 _ _ (by omega)) h5
        obtain ⟨M2, e4, e5⟩ := mdoes_is (by omega : 500 ≤ fu) hm1 h2 hwI hL1 h6 hfn
        have e6 : m_X6_of fu M1 (nI f) 8 = some (doesS (vC 0 M) n L f, M2) := by
          unfold m_X6_of
          rw [bnd_e, isFarm_is, some_bind, (m_n hm1).trans h2.1.1, if_neg (by rw [tf_0]; exact fun z => z q)]
          rw [if_neg (by decide), if_neg (by decide), if_neg (by decide), if_neg (by decide), if_neg (by decide), if_neg (by decide), if_neg (by decide), if_neg (by decide), if_pos rfl, e4, some_bind, un2_is]
        have g2 := fr_m_X6_of e6
        exact ⟨_, M1, M2, e3, e6, (h.fr2 g1 g2 (fun k j z => by unfold keepI keepL keepX keepG keepV keepW; omega) (fun k j z => z.elim) (fun k j z => by unfold w_X6_of at z; unfold keepI keepL keepX keepG keepV keepW; omega) (fun k j z => z.elim)).mono (Nat.le_succ c)⟩
    have B : m_X6_of fu M (nI f) b = (if b = 0 then some (rd (wr M 148 0 0) 149 f, wr M 148 0 0) else if b = 1 then some (rd (wr M 148 0 0) 150 f, wr M 148 0 0) else if b = 2 then some (rd (wr M 148 0 0) 151 f, wr M 148 0 0) else if b = 3 then some (rd (wr M 148 0 0) 152 f, wr M 148 0 0) else if b = 4 then some (rd (wr M 148 0 0) 153 f, wr M 148 0 0) else if b = 5 then some (rd (wr M 148 0 0) 154 f, wr M 148 0 0) else if b = 6 then some (rd (wr M 148 0 0) 155 f, wr M 148 0 0) else if b = 7 then some (rd (wr M 148 0 0) 156 f, wr M 148 0 0) else if b = 8 then (m_X6_doingOf fu (wr M 148 0 0) (nI f)).bind (un2 fun r_16 M_17 => some (r_16, M_17)) else some ((-100000000), wr M 148 0 0)) := by
      unfold m_X6_of
      rw [bnd_e, isFarm_is, some_bind, rd_t0 (by omega), km, if_neg (by rw [tf_0]; exact fun z => z q)]
      simp only [chk_is hb, hx]
    by_cases b0 : b = 0
    · subst b0; left; exact ⟨_, low 0 (by decide) (by decide), by rw [B, if_pos rfl]; exact congrArg some (Prod.ext (lm 0 (by decide)) rfl)⟩
    by_cases b1 : b = 1
    · subst b1; left; exact ⟨_, low 1 (by decide) (by decide), by rw [B, if_neg b0, if_pos rfl]; exact congrArg some (Prod.ext (lm 1 (by decide)) rfl)⟩
    by_cases b2 : b = 2
    · subst b2; left; exact ⟨_, low 2 (by decide) (by decide), by rw [B, if_neg b0, if_neg b1, if_pos rfl]; exact congrArg some (Prod.ext (lm 2 (by decide)) rfl)⟩
    by_cases b3 : b = 3
    · subst b3; left; exact ⟨_, low 3 (by decide) (by decide), by rw [B, if_neg b0, if_neg b1, if_neg b2, if_pos rfl]; exact congrArg some (Prod.ext (lm 3 (by decide)) rfl)⟩
    by_cases b4 : b = 4
    · subst b4; left
      refine ⟨vC 0 M 153 f, ?_, by rw [B, if_neg b0, if_neg b1, if_neg b2, if_neg b3, if_pos rfl]; exact congrArg some (Prod.ext (lm 4 (by decide)) rfl)⟩
      rw [A, if_neg (by decide), if_pos (by decide), if_pos rfl]
      unfold m_X4_purseAsInt
      rw [chk_is hb, hx, some_bind, c_pur rfl (by omega)]
    by_cases b5 : b = 5
    · subst b5; left; exact ⟨_, low 5 (by decide) (by decide), by rw [B, if_neg b0, if_neg b1, if_neg b2, if_neg b3, if_neg b4, if_pos rfl]; exact congrArg some (Prod.ext (lm 5 (by decide)) rfl)⟩
    by_cases b6 : b = 6
    · subst b6; left; exact ⟨_, low 6 (by decide) (by decide), by rw [B, if_neg b0, if_neg b1, if_neg b2, if_neg b3, if_neg b4, if_neg b5, if_pos rfl]; exact congrArg some (Prod.ext (lm 6 (by decide)) rfl)⟩
    by_cases b7 : b = 7
    · subst b7; left; exact ⟨_, low 7 (by decide) (by decide), by rw [B, if_neg b0, if_neg b1, if_neg b2, if_neg b3, if_neg b4, if_neg b5, if_neg b6, if_pos rfl]; exact congrArg some (Prod.ext (lm 7 (by decide)) rfl)⟩
    by_cases b8 : b = 8
    · right; exact b8
    left
    refine ⟨-100000000, ?_, by rw [B, if_neg b0, if_neg b1, if_neg b2, if_neg b3, if_neg b4, if_neg b5, if_neg b6, if_neg b7, if_neg b8]⟩
    rw [A]
    by_cases c0 : b < 0
    · rw [if_pos c0]
    · rw [if_neg c0, if_neg]
      intro c8
      obtain ⟨k, hk, rfl⟩ := arg_nI (a := b) (n := 9) c0 (by have e : nI 9 = 9 := rfl; grind) (by decide)
      rcases (by omega : k = 0 ∨ k = 1 ∨ k = 2 ∨ k = 3 ∨ k = 4 ∨ k = 5 ∨ k = 6 ∨ k = 7 ∨ k = 8) with rfl | rfl | rfl | rfl | rfl | rfl | rfl | rfl | rfl
      · exact b0 rfl
      · exact b1 rfl
      · exact b2 rfl
      · exact b3 rfl
      · exact b4 rfl
      · exact b5 rfl
      · exact b6 rfl
      · exact b7 rfl
      · exact b8 rfl
  · refine ⟨-100000000, M, wr M 148 0 0, ?_, ?_, h.t0⟩
    · unfold m_X5_of
      rw [has_is, some_bind, k0, if_pos (by rw [tf_0]; exact q)]
    · unfold m_X6_of
      rw [bnd_e, isFarm_is, some_bind, rd_t0 (by omega), km, if_pos (by rw [tf_0]; exact q)]
