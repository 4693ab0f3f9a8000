/-! ===== a ring copied into another ===== -/
theorem rd_cp (M : Mem) (k1 k2 a b : Nat) (n : Int32) : rd (cpM M k1 0 k2 0 n) a b = if a = k2 ∧ b < ix n then rd M k1 b else rd M a b := by
  show (if a = k2 ∧ ix 0 ≤ b ∧ b < ix 0 + ix n then M.1 k1 (ix 0 + (b - ix 0)) else M.1 a b) = _
  rw [ix_0]
  simp [rd]
theorem rdl_cp (M : Mem) (k1 k2 a b : Nat) (n : Int32) : rdl (cpM M k1 0 k2 0 n) a b = rdl M a b := rfl
theorem rd_cpl (M : Mem) (k1 k2 a b : Nat) (n : Int32) : rd (cpML M k1 0 k2 0 n) a b = rd M a b := rfl
theorem rdl_cpl (M : Mem) (k1 k2 a b : Nat) (n : Int32) : rdl (cpML M k1 0 k2 0 n) a b = if a = k2 ∧ b < ix n then rdl M k1 b else rdl M a b := by
  show (if a = k2 ∧ ix 0 ≤ b ∧ b < ix 0 + ix n then M.2 k1 (ix 0 + (b - ix 0)) else M.2 a b) = _
  rw [ix_0]
  simp [rdl]
theorem cpOk_nI {n a b : Nat} (h1 : n ≤ a) (h2 : n ≤ b) (ha : a < 2 ^ 31) : cpOk 0 0 (nI n) a b = true := by
  have := nI_pos (n := n) (by omega)
  have := ix_nI (n := n) (by omega)
  simp [cpOk, *, ix_0]
theorem ctake_is {l k n : Nat} {M : Mem} (hn : n ≤ 400) : m_X2_take l k M (nI n) = some (wr (cpM M k 0 (l + 4) 0 (nI n)) l 1 (nI n)) := by
  unfold m_X2_take
  rw [chk_is (cpOk_nI hn hn (by decide))]; rfl
/-- the cells of a ring's lands and stakes -/
def inLS (R k : Nat) : Prop := R + 8 ≤ k ∧ k < R + 28
theorem ccopy1_is {fu P R : Nat} {M : Mem} (hfu : 20 ≤ fu) (hPR : P + 37 ≤ R ∨ R + 37 ≤ P) : ∃ M', lp (b_X4_copy_64 fu P R) fu (0, M) = some M' ∧ (∀ f, f < 10 → (∀ p, p < 9 → rd M' (P + 8 + f) p = rd M (R + 8 + f) p) ∧ ∀ p, p < 4 → rd M' (P + 18 + f) p = rd M (R + 18 + f) p) ∧ (∀ k j, ¬ inLS P k → rd M' k j = rd M k j) ∧ ∀ k j, rdl M' k j = rdl M k j :=
  lp_up (body := b_X4_copy_64 fu P R) 10 (fun i s => s.1 = nI i ∧ (∀ f, f < i → (∀ p, p < 9 → rd s.2 (P + 8 + f) p = rd M (R + 8 + f) p) ∧ ∀ p, p < 4 → rd s.2 (P + 18 + f) p = rd M (R + 18 + f) p) ∧ (∀ k j, ¬ inLS P k → rd s.2 k j = rd M k j) ∧ ∀ k j, rdl s.2 k j = rdl M k j) (fun M' => (∀ f, f < 10 → (∀ p, p < 9 → rd M' (P + 8 + f) p = rd M (R + 8 + f) p) ∧ ∀ p, p < 4 → rd M' (P + 18 + f) p = rd M (R + 18 + f) p) ∧ (∀ k j, ¬ inLS P k → rd M' k j = rd M k j) ∧ ∀ k j, rdl M' k j = rdl M k j)
    (fun i s hi hs => by
      obtain ⟨s1, s2⟩ := s
      obtain ⟨e1, e2, e3, e4⟩ := hs
      dsimp only at e1 e2 e3 e4
      subst e1
      left
      unfold b_X4_copy_64
      simp only [un2_is, if_neg (show ¬ (10 : Int32) ≤ nI i from nI_ge (b := 10) hi (by decide)), inb_nI hi (by decide), chk_t, bnd_is, ix_nI (show i < 2 ^ 31 by omega), show cpOk 0 0 9 9 9 = true from rfl, show cpOk 0 0 4 4 4 = true from rfl, nI_1]
      refine ⟨_, rfl, rfl, ?_, ?_, ?_⟩
      · intro f hf
        refine ⟨fun p hp => ?_, fun p hp => ?_⟩
        · rw [rd_cp, if_neg (by omega), rd_cp]
          by_cases q : f = i
          · subst q
            rw [if_pos ⟨rfl, hp⟩]
            exact e3 _ _ (by unfold inLS; omega)
          · rw [if_neg (by omega)]; exact (e2 f (by omega)).1 p hp
        · rw [rd_cp]
          by_cases q : f = i
          · subst q
            rw [if_pos ⟨rfl, hp⟩, rd_cp, if_neg (by omega)]
            exact e3 _ _ (by unfold inLS; omega)
          · rw [if_neg (by omega), rd_cp, if_neg (by omega)]; exact (e2 f (by omega)).2 p hp
      · intro k j hk
        have hk' : ¬ (P + 8 ≤ k ∧ k < P + 28) := hk
        rw [rd_cp, if_neg (by omega), rd_cp, if_neg (by omega)]; exact e3 k j hk
      · intro k j; rw [rdl_cp, rdl_cp]; exact e4 k j)
    (fun s hs => by
      obtain ⟨s1, s2⟩ := s
      obtain ⟨e1, e2⟩ := hs
      dsimp only at e1 e2
      subst e1
      exact ⟨s2, by unfold b_X4_copy_64; rw [un2_is, if_pos (show (10 : Int32) ≤ nI 10 from by decide)], e2⟩)
    fu 0 (0, M) (by omega) (by omega) ⟨rfl, fun f hf => absurd hf (Nat.not_lt_zero _), fun _ _ _ => rfl, fun _ _ => rfl⟩
theorem ccopy2_is {fu P R : Nat} {M : Mem} {L : Nat → List Ln} (hfu : 20 ≤ fu) (hPR : P + 37 ≤ R ∨ R + 37 ≤ P) (hL : LawsC M R L) : ∃ M', lp (b_X4_copy_115 fu P R) fu (0, M) = some M' ∧ LawsC M' P L ∧ (∀ k j, ¬ (P + 28 ≤ k ∧ k < P + 36) → rd M' k j = rd M k j) ∧ ∀ k j, rdl M' k j = rdl M k j := by
  refine lp_up (body := b_X4_copy_115 fu P R) 4 (fun i s => s.1 = nI i ∧ (∀ k, k < i → LawC (rd s.2 (P + 28 + k) 1) (rd s.2 (P + 32 + k)) (L k)) ∧ (∀ k j, ¬ (P + 28 ≤ k ∧ k < P + 36) → rd s.2 k j = rd M k j) ∧ ∀ k j, rdl s.2 k j = rdl M k j) (fun M' => LawsC M' P L ∧ (∀ k j, ¬ (P + 28 ≤ k ∧ k < P + 36) → rd M' k j = rd M k j) ∧ ∀ k j, rdl M' k j = rdl M k j)
    (fun i s hi hs => by
      obtain ⟨s1, s2⟩ := s
      obtain ⟨e1, e2, e3, e4⟩ := hs
      dsimp only at e1 e2 e3 e4
      subst e1
      left
      obtain ⟨l1, l2, l3⟩ := hL i hi
      have hlen : rd s2 (R + 28 + i) 1 = nI (encL (L i)).length := (e3 _ _ (by omega)).trans l1
      have hx := ix_nI (show (encL (L i)).length < 2 ^ 31 by omega)
      unfold b_X4_copy_115
      simp only [un2_is, if_neg (show ¬ (4 : Int32) ≤ nI i from nI_ge (b := 4) hi (by decide)), inb_nI hi (by decide), chk_t, bnd_is, ix_nI (show i < 2 ^ 31 by omega), hlen, ctake_is l2, some_bind, nI_1]
      refine ⟨_, rfl, rfl, ?_, ?_, ?_⟩
      · intro k hk
        by_cases q : k = i
        · subst q
          refine ⟨by rw [rd_wr, if_pos ⟨rfl, rfl⟩], l2, fun j hj => ?_⟩
          rw [rd_wr, if_neg (by omega), rd_cp, if_pos ⟨by omega, by rw [hx]; exact hj⟩, e3 _ _ (by omega)]
          rw [show R + 28 + k + 4 = R + 32 + k by omega]; exact l3 j hj
        · obtain ⟨m1, m2, m3⟩ := e2 k (by omega)
          refine ⟨by rw [rd_wr, if_neg (by omega), rd_cp, if_neg (by omega)]; exact m1, m2, fun j hj => ?_⟩
          rw [rd_wr, if_neg (by omega), rd_cp, if_neg (by omega)]; exact m3 j hj
      · intro k j hk
        rw [rd_wr, if_neg (by omega), rd_cp, if_neg (by omega)]; exact e3 k j hk
      · intro k j; exact e4 k j)
    (fun s hs => by
      obtain ⟨s1, s2⟩ := s
      obtain ⟨e1, e2⟩ := hs
      dsimp only at e1 e2
      subst e1
      exact ⟨s2, by unfold b_X4_copy_115; rw [un2_is, if_pos (show (4 : Int32) ≤ nI 4 from by decide)], e2⟩)
    fu 0 (0, M) (by omega) (by omega) ⟨rfl, fun f hf => absurd hf (Nat.not_lt_zero _), fun _ _ _ => rfl, fun _ _ => rfl⟩
theorem ccopy_is {fu P R : Nat} {M : Mem} {L : Nat → List Ln} (hfu : 20 ≤ fu) (hPR : P + 37 ≤ R ∨ R + 37 ≤ P) (hL : LawsC M R L) : ∃ M', m_X4_copy fu P R M = some M' ∧ vC P M' = vC R M ∧ LawsC M' P L ∧ ∀ j, j < 10 → rdl M' (P + 36) j = rdl M (R + 36) j := by
  have hM5 : ∃ M5, M5 = cpML (cpM (wr (wr (wr (wr M P 0 (rd M R 0)) P 1 (rd M R 1)) P 2 (rd M R 2)) P 3 (rd M R 3)) (R + 1) 0 (P + 1) 0 10) (R + 36) 0 (P + 36) 0 10 := ⟨_, rfl⟩
  obtain ⟨M5, hM5⟩ := hM5
  have a0 : rd M5 P 0 = rd M R 0 := by rw [hM5, rd_cpl, rd_cp, if_neg (by omega)]; simp [rd_wr]
  have a1 : rd M5 P 1 = rd M R 1 := by rw [hM5, rd_cpl, rd_cp, if_neg (by omega)]; simp [rd_wr]
  have a2 : rd M5 P 2 = rd M R 2 := by rw [hM5, rd_cpl, rd_cp, if_neg (by omega)]; simp [rd_wr]
  have a3 : rd M5 P 3 = rd M R 3 := by rw [hM5, rd_cpl, rd_cp, if_neg (by omega)]; simp [rd_wr]
  have out : ∀ k j, k ≠ P → k ≠ P + 1 → rd M5 k j = rd M k j := by
    intro k j h1 h2
    rw [hM5, rd_cpl, rd_cp, if_neg (by omega), rd_wr, if_neg (by omega), rd_wr, if_neg (by omega), rd_wr, if_neg (by omega), rd_wr, if_neg (by omega)]
  have at1 : ∀ j, j < 10 → rd M5 (P + 1) j = rd M (R + 1) j := by
    intro j hj
    rw [hM5, rd_cpl, rd_cp, if_pos ⟨rfl, hj⟩, rd_wr, if_neg (by omega), rd_wr, if_neg (by omega), rd_wr, if_neg (by omega), rd_wr, if_neg (by omega)]
  have atl : ∀ j, j < 10 → rdl M5 (P + 36) j = rdl M (R + 36) j := by
    intro j hj
    rw [hM5, rdl_cpl, if_pos ⟨rfl, hj⟩]; rfl
  obtain ⟨M6, b1, b2, b3, b4⟩ := ccopy1_is (M := M5) hfu hPR
  obtain ⟨M7, c1, c2, c3, c4⟩ := ccopy2_is (M := M6) hfu hPR (LawsC_eq (fun k j h1 h2 => by rw [b3 k j (by unfold inLS; omega)]; exact out k j (by omega) (by omega)) hL)
  refine ⟨M7, ?_, ?_, c2, fun j hj => by rw [c4, b4]; exact atl j hj⟩
  · unfold m_X4_copy
    have w1 : ∀ x, rd (wr M P 0 x) R 1 = rd M R 1 := fun x => by rw [rd_wr, if_neg (by omega)]
    have w2 : ∀ x y, rd (wr (wr M P 0 x) P 1 y) R 2 = rd M R 2 := fun x y => by rw [rd_wr, if_neg (by omega), rd_wr, if_neg (by omega)]
    have w3 : ∀ x y z, rd (wr (wr (wr M P 0 x) P 1 y) P 2 z) R 3 = rd M R 3 := fun x y z => by rw [rd_wr, if_neg (by omega), rd_wr, if_neg (by omega), rd_wr, if_neg (by omega)]
    simp only [bnd_is, w1, w2, w3, show cpOk 0 0 10 10 10 = true from rfl, chk_t]
    rw [← hM5, b1, some_bind, un1_is, c1]; rfl
  · have key : ∀ k j, ¬ (P + 28 ≤ k ∧ k < P + 36) → rd M7 k j = rd M6 k j := c3
    funext a b
    unfold vC
    have e0 : rd M7 P 0 = rd M R 0 := by rw [c3 _ _ (by omega), b3 _ _ (by unfold inLS; omega), a0]
    have e1 : rd M7 P 1 = rd M R 1 := by rw [c3 _ _ (by omega), b3 _ _ (by unfold inLS; omega), a1]
    have e2 : rd M7 P 2 = rd M R 2 := by rw [c3 _ _ (by omega), b3 _ _ (by unfold inLS; omega), a2]
    have e3 : rd M7 P 3 = rd M R 3 := by rw [c3 _ _ (by omega), b3 _ _ (by unfold inLS; omega), a3]
    rw [e0, e1, e2, e3]
    by_cases ha : 149 ≤ a ∧ a ≤ 162 ∧ b < 10
    · rw [if_pos ha, if_pos ha]
      have f1 : rd M7 (P + 1) b = rd M (R + 1) b := by rw [c3 _ _ (by omega), b3 _ _ (by unfold inLS; omega), at1 b ha.2.2]
      have f2 : rdl M7 (P + 36) b = rdl M (R + 36) b := by rw [c4, b4]; exact atl b ha.2.2
      have f3 : ∀ p, p < 9 → rd M7 (P + 8 + b) p = rd M (R + 8 + b) p := fun p hp => by rw [c3 _ _ (by omega), (b2 b ha.2.2).1 p hp]; exact out _ _ (by omega) (by omega)
      have f4 : ∀ p, p < 4 → rd M7 (P + 18 + b) p = rd M (R + 18 + b) p := fun p hp => by rw [c3 _ _ (by omega), (b2 b ha.2.2).2 p hp]; exact out _ _ (by omega) (by omega)
      rw [f1, f2, f3 8 (by omega)]
      by_cases q1 : a ≤ 156
      · rw [if_pos q1, if_pos q1, f3 (a - 149) (by omega)]
      · rw [if_neg q1, if_neg q1]
        by_cases q2 : a ≤ 160
        · rw [if_pos q2, if_pos q2, f4 (a - 157) (by omega)]
        · rw [if_neg q2, if_neg q2]
    · rw [if_neg ha, if_neg ha]
