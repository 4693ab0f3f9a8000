/-! ===== feet ===== -/
def ftV (V : Vw) (n : Nat) (L : Nat → List Ln) (d i : Nat) : Vw := nightsS (vs V 162 9 (nI i)) n L d
def ftS (V : Vw) (n : Nat) (L : Nat → List Ln) (d i : Nat) : Int32 := smI (fun f => ftV V n L d i 153 f) n - smI (fun f => V 153 f) n
/-- the best, and what it brings, of the first i + 1 -/
def ftB (V : Vw) (n : Nat) (L : Nat → List Ln) (d : Nat) : Nat → Int32 × Int32
  | 0 => (0, ftS V n L d 0)
  | i + 1 => if (ftB V n L d i).2 < ftS V n L d (i + 1) then (nI (i + 1), ftS V n L d (i + 1)) else ftB V n L d i
theorem ftB_s (V : Vw) (n : Nat) (L : Nat → List Ln) (d i : Nat) : ftB V n L d (i + 1) = if (ftB V n L d i).2 < ftS V n L d (i + 1) then (nI (i + 1), ftS V n L d (i + 1)) else ftB V n L d i := rfl
theorem op_feet {fu c : Nat} {M : Mem} (hf : 5000 ≤ fu) (hc : c ≤ 512) (h : Inv c M) (a : Int32) : ∃ r M1 M2, m_X5_feet fu M a = some (r, M1) ∧ m_X6_feet fu M1 a = some (r, M2) ∧ Inv (c + 1) M2 := by
  obtain ⟨n, L, h1, h2, h3, h4, h5, h6, h7, h8⟩ := id h
  have hwI : wI c ≤ 31320 := by unfold wI; omega
  have h10 := h2.1.2.2
  by_cases q : ¬ a < 1 ∧ ¬ 60 < a
  · obtain ⟨d, hd, rfl⟩ := arg_nI (a := a) (n := 61) (by grind) (by have e : nI 61 = 61 := rfl; grind) (by decide)
    generalize hV : vC 0 M = V at *
    have st5 : stV 2 (ix 9) = nI 5 := by decide
    -- one round of the class
    have one : ∀ i P, i < 6 → vC 0 P = V → LawsC P 0 L → (∀ g, g < 10 → rdl P 36 g = rdl M 36 g) → (∀ k j, k < 74 ∨ 110 < k → rd P k j = rd M k j) → (∀ k j, k ≠ 110 → rdl P k j = rdl M k j) →
        ∃ P1 S, (∀ β (F : Mem → Int64 → Option β), ((m_X4_copy fu 74 0 P).bind fun M_5 => bnd (wr M_5 (74 + 1) (ix 9) (nI i)) fun M_6 => (m_X4_pass fu 74 M_6 (nI d)).bind fun M_9 => (m_X4_allPurses fu 74 M_9).bind fun r_11 => F M_9 r_11) = F P1 S) ∧
          S.toInt = (smL (fun f => rdl M 36 f) n).toInt + (ftS V n L d i).toInt ∧ vC 0 P1 = V ∧ LawsC P1 0 L ∧ (∀ g, g < 10 → rdl P1 36 g = rdl M 36 g) ∧ (∀ k j, k < 74 ∨ 110 < k → rd P1 k j = rd M k j) ∧ (∀ k j, k ≠ 110 → rdl P1 k j = rdl M k j) := by
      intro i P hi pv pl pp pr prl
      obtain ⟨C, c1, c2, c3, c4⟩ := ccopy_is (fu := fu) (P := 74) (R := 0) (by omega) (by omega) pl
      have g0 := fr_m_X4_copy c1
      have v2 : vC 74 (wr C (74 + 1) 9 (nI i)) = vs V 162 9 (nI i) := by rw [w_set (by decide), c2, pv]
      have ok2 : Vok (vs V 162 9 (nI i)) n (wI c) 9999 := h2.ft ⟨nI_pos' (by omega), by rw [show (5 : Int32) = nI 5 from rfl]; exact nI_le (by omega) (by decide)⟩
      have l2 : LawsC (wr C (74 + 1) 9 (nI i)) 74 L := LawsC_eq (fun k j z1 z2 => by rw [rd_we, if_neg (by omega)]) c3
      have cp : ∀ g, g < 10 → rdl (wr C (74 + 1) 9 (nI i)) (74 + 36) g = rdl M 36 g := fun g hg => by rw [rdl_wr, c4 g hg, pp g hg]
      have hp : ∀ g, g < 10 → -100000000000 ≤ (rdl (wr C (74 + 1) 9 (nI i)) (74 + 36) g).toInt ∧ (rdl (wr C (74 + 1) 9 (nI i)) (74 + 36) g).toInt ≤ 100000000000 := fun g hg => by rw [cp g hg]; exact PBg (c := c) h3 h2 g hg
      obtain ⟨M1, a1, a2, a3, a4, a5, a6, a7⟩ := cpassD_is (d := d) (by omega : 500 ≤ fu) v2 ok2 hwI l2 h6 (by omega) hp
      have e0 : ∀ k j, k < 74 ∨ 110 < k → rd M1 k j = rd P k j := fun k j z => by
        rw [a3 k j z, rd_we, if_neg (by omega)]; exact g0.1 _ _ (by unfold w_X4_copy; omega)
      have l0 : ∀ k j, k ≠ 110 → rdl M1 k j = rdl P k j := fun k j z => by
        rw [a4 k j z, rdl_wr]; exact g0.2 _ _ (by unfold v_X4_copy; omega)
      have g1 : Fr (fun k j => 74 ≤ k ∧ k ≤ 110) (fun k _ => k = 110) P M1 := ⟨fun k j z => e0 k j (by omega), fun k j z => l0 k j z⟩
      refine ⟨M1, smL (fun f => rdl M1 110 f) n, fun β F => ?_, ?_, (vC_fr g1 (fun k j z => by omega) (fun k j z => by omega)).trans pv, LawsC_eq (fun k j z1 z2 => e0 _ _ (by omega)) pl, fun g hg => (l0 _ _ (by decide)).trans (pp g hg), fun k j z => (e0 k j z).trans (pr k j z), fun k j z => (l0 k j z).trans (prl k j z)⟩
      · rw [c1, some_bind, ix_9, bnd_e, a1, some_bind, a5, some_bind]
      · have s1 : (smL (fun f => rdl M1 110 f) n).toInt32 = smI (fun f => ftV V n L d i 153 f) n := by
          rw [smL_32]; exact smI_cong (fun x hx => c_pur a2 (by omega))
        have s2 : (smL (fun f => rdl M 36 f) n).toInt32 = smI (fun f => V 153 f) n := by
          rw [smL_32]; exact smI_cong (fun x hx => c_pur hV (by omega))
        have z1 := smL_int (f := fun f => rdl M1 110 f) h10 a6 n (Nat.le_refl _)
        have z2 := smL_int (f := fun f => rdl M 36 f) h10 (fun x hx => by have := PBg (c := c) h3 h2 x (by omega); rw [show 0 + 36 = 36 from rfl] at this; omega) n (Nat.le_refl _)
        have z3 := smZ_diff (f := fun x => (rdl M1 110 x).toInt) (g := fun x => (rdl M 36 x).toInt) (D := 186040800) (n := n) (fun x hx => by
          have := a7 x hx
          rw [show (110 : Nat) = 74 + 36 from rfl] at this
          rw [cp x (by omega)] at this
          exact this)
        unfold ftS
        rw [← s1, ← s2, ← Int64.toInt32_sub]
        have z4 : (smL (fun f => rdl M1 110 f) n - smL (fun f => rdl M 36 f) n).toInt = (smL (fun f => rdl M1 110 f) n).toInt - (smL (fun f => rdl M 36 f) n).toInt := by
          rw [Int64.toInt_sub]; exact Int.bmod_eq_of_le (by omega) (by omega)
        have z5 : (smL (fun f => rdl M1 110 f) n - smL (fun f => rdl M 36 f) n).toInt32.toInt = (smL (fun f => rdl M1 110 f) n).toInt - (smL (fun f => rdl M 36 f) n).toInt := by
          rw [Int64.toInt_toInt32, z4, z1.1, z2.1]; exact Int.bmod_eq_of_le (by omega) (by omega)
        rw [z5]; omega
    -- the class
    have cls : ∃ P, m_X5_feet fu M (nI d) = some ((ftB V n L d 5).1, P) ∧ (∀ k j, k < 74 ∨ 110 < k → rd P k j = rd M k j) ∧ (∀ k j, k ≠ 110 → rdl P k j = rdl M k j) := by
      obtain ⟨P0, S0, f0, t0, u1, u2, u3, u4, u5⟩ := one 0 M (by decide) hV h4 (fun _ _ => rfl) (fun _ _ _ => rfl) (fun _ _ _ => rfl)
      have b0 : b_X5_feet_20 fu (nI d) (0, 0, 0, M) = some (.inl (0, S0, nI 1, P0)) := by
        unfold b_X5_feet_20
        rw [un4_is, st5, if_neg (by decide), show (0 : Int32) = nI 0 from rfl, f0, if_pos rfl, bnd_e, nI_1]
      obtain ⟨x, e, P, rfl, r1, r2⟩ := lp_up (body := b_X5_feet_20 fu (nI d)) 5 (fun i s => ∃ P S, s = ((ftB V n L d i).1, S, nI (i + 1), P) ∧ S.toInt = (smL (fun f => rdl M 36 f) n).toInt + (ftB V n L d i).2.toInt ∧ vC 0 P = V ∧ LawsC P 0 L ∧ (∀ g, g < 10 → rdl P 36 g = rdl M 36 g) ∧ (∀ k j, k < 74 ∨ 110 < k → rd P k j = rd M k j) ∧ (∀ k j, k ≠ 110 → rdl P k j = rdl M k j)) (fun x => ∃ P, x = ((ftB V n L d 5).1, P) ∧ (∀ k j, k < 74 ∨ 110 < k → rd P k j = rd M k j) ∧ (∀ k j, k ≠ 110 → rdl P k j = rdl M k j)) (by
        rintro i s hi ⟨P, S, rfl, w1, w2, w3, w4, w5, w6⟩
        left
        obtain ⟨P1, S1, f1, t1, u1, u2, u3, u4, u5⟩ := one (i + 1) P (by omega) w2 w3 w4 w5 w6
        have nz : ¬ nI (i + 1) = 0 := fun z => by have := nI_inj (by omega) (by decide) (z.trans (show (0 : Int32) = nI 0 from rfl)); omega
        unfold b_X5_feet_20
        rw [un4_is, st5, if_neg (nI_nlt (by omega) (by omega)), f1, if_neg nz, ftB_s]
        by_cases g : lg_cmp S1 S ≤ 0
        · have q0 : ¬ (ftB V n L d i).2 < ftS V n L d (i + 1) := by
            have := lg_le.mp g
            intro z
            have := I_lt.mp z
            omega
          rw [if_pos g, if_neg q0, bnd_e, nI_1]
          exact ⟨_, rfl, P1, S, rfl, w1, u1, u2, u3, u4, u5⟩
        · have q0 : (ftB V n L d i).2 < ftS V n L d (i + 1) := by
            have := mt lg_le.mpr g
            exact I_lt.mpr (by omega)
          rw [if_neg g, if_pos q0, bnd_e, nI_1]
          exact ⟨_, rfl, P1, S1, rfl, t1, u1, u2, u3, u4, u5⟩) (by
        rintro s ⟨P, S, rfl, w1, w2, w3, w4, w5, w6⟩
        refine ⟨((ftB V n L d 5).1, P), ?_, P, rfl, w5, w6⟩
        unfold b_X5_feet_20
        rw [un4_is, st5, if_pos (nI_lt (by decide) (by decide))]) (fu - 1) 0 (0, S0, nI 1, P0) (Nat.zero_le _) (by omega) ⟨P0, S0, rfl, t0, u1, u2, u3, u4, u5⟩
      refine ⟨P, ?_, r1, r2⟩
      unfold m_X5_feet
      rw [if_neg q.1, if_pos (by grind), show fu = (fu - 1) + 1 by omega, lp_inl (by rw [show fu - 1 + 1 = fu by omega]; exact b0), show fu - 1 + 1 = fu by omega, e, some_bind, un2_is]
    obtain ⟨M1, e1, e0, l0⟩ := cls
    have g1 : Fr (fun k j => 74 ≤ k ∧ k ≤ 110) (fun k _ => k = 110) M M1 := ⟨fun k j z => e0 k j (by omega), fun k j z => l0 k j z⟩
    have v1 : vC 0 M1 = V := (vC_fr g1 (fun k j z => by omega) (fun k j z => by omega)).trans hV
    have m1 : vM M1 = V := (vM_fr g1 (fun k j z => by omega)).trans h1
    have m2 : vM (wr M1 148 0 0) = V := (vM_t0 M1).trans m1
    have hL1 : LawsM (wr M1 148 0 0) L := LawsM_eq (fun k j z1 z2 => by rw [rd_t0 (by omega)]; exact e0 _ _ (by omega)) h5
    have think : ∀ i P, i < 6 → vM P = V → LawsM P L → ∃ P1, m_X6_thinks fu P (nI d) (nI i) 0 = some (ftS V n L d i, P1) ∧ vM P1 = V ∧ LawsM P1 L := by
      intro i P hi pv pl
      obtain ⟨P1, b1, b2, b3⟩ := mthink_is (d := d) (ft := nI i) (w := 0) (by omega : 500 ≤ fu) pv h2 (by omega) (by omega) pl h6 (by omega) ⟨nI_pos' (by omega), by rw [show (5 : Int32) = nI 5 from rfl]; exact nI_le (by omega) (by decide)⟩
      exact ⟨P1, b1, b2, b3⟩
    obtain ⟨P0, k1, k2, k3⟩ := think 0 _ (by decide) m2 hL1
    obtain ⟨x, e, P, rfl, r1⟩ := lp_up (body := b_X6_feet_31 fu (nI d)) 5 (fun i s => ∃ P, s = ((ftB V n L d i).1, (ftB V n L d i).2, nI (i + 1), P) ∧ vM P = V ∧ LawsM P L) (fun x => ∃ P, x = ((ftB V n L d 5).1, P) ∧ vM P = V) (by
      rintro i s hi ⟨P, rfl, w1, w2⟩
      left
      obtain ⟨P1, f1, f2, f3⟩ := think (i + 1) P (by omega) w1 w2
      unfold b_X6_feet_31
      rw [un4_is, show (5 : Int32) = nI 5 from rfl, if_neg (nI_nlt (by omega) (by omega)), f1, some_bind, un2_is, ftB_s]
      by_cases g : (ftB V n L d i).2 < ftS V n L d (i + 1)
      · rw [if_pos g, if_pos g, bnd_e, nI_1]
        exact ⟨_, rfl, P1, rfl, f2, f3⟩
      · rw [if_neg g, if_neg g, bnd_e, nI_1]
        exact ⟨_, rfl, P1, rfl, f2, f3⟩) (by
      rintro s ⟨P, rfl, w1, w2⟩
      refine ⟨((ftB V n L d 5).1, P), ?_, P, rfl, w1⟩
      unfold b_X6_feet_31
      rw [un4_is, if_pos (show (5 : Int32) < nI (5 + 1) from nI_lt (by decide) (by decide))]) fu 0 (0, ftS V n L d 0, 1, P0) (Nat.zero_le _) (by omega) ⟨P0, rfl, k2, k3⟩
    have e2 : m_X6_feet fu M1 (nI d) = some ((ftB V n L d 5).1, P) := by
      unfold m_X6_feet
      rw [bnd_e, isIn_is, some_bind, if_neg (by rw [tf_0]; exact fun z => z q), show m_X6_thinks fu (wr M1 148 0 0) (nI d) 0 0 = some (ftS V n L d 0, P0) from k1, some_bind, un2_is, e, some_bind, un2_is]
    have g2 := fr_m_X6_feet e2
    refine ⟨_, M1, P, e1, e2, ?_⟩
    have eC : vC 0 P = V := (vC_fr g2 (fun k j z => by unfold w_X6_feet at z; omega) (fun k j z => z.elim)).trans v1
    exact (h.keep (eC.trans hV.symm) (r1.trans h1.symm) (fun k j z => (g2.2 _ _ (fun y => y.elim)).trans (l0 _ _ (by omega))) (fun k j z => (g2.1 _ _ (by unfold keepL at z; unfold w_X6_feet; omega)).trans (e0 _ _ (by unfold keepL at z; omega))) (fun k j z => (g2.1 _ _ (by unfold keepX at z; unfold w_X6_feet; omega)).trans (e0 _ _ (by unfold keepX at z; omega))) (fun k j z => (g2.1 _ _ (by unfold keepG at z; unfold w_X6_feet; omega)).trans (e0 _ _ (by unfold keepG at z; omega)))).mono (Nat.le_succ c)
  · refine ⟨-1, M, wr M 148 0 0, ?_, ?_, h.t0⟩
    · unfold m_X5_feet
      by_cases q1 : a < 1
      · rw [if_pos q1]
      · rw [if_neg q1, if_neg (by grind)]
    · unfold m_X6_feet
      rw [bnd_e, isIn_is, some_bind, if_pos (by rw [tf_0]; exact q)]
