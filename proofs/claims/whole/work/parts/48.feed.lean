/-! ===== feed ===== -/
def shB (i : Nat) : Int32 := 24 - 8 * nI i
def byteC (x : Int32) (i : Nat) : Int32 := ushr x (shB i) &&& 255
theorem byteC_nn (x : Int32) (i : Nat) : 0 ≤ byteC x i := by
  unfold byteC
  rw [pk_and _ 8 (by decide)]
  exact nI_pos' (by have := Nat.mod_lt (ushr x (shB i)).toBitVec.toNat (show 0 < 2 ^ 8 by decide); omega)
theorem toInt_toNat (x : Int32) : x.toInt = (x.toBitVec.toNat : Int) ∨ x.toInt = (x.toBitVec.toNat : Int) - 4294967296 := by
  have h : x.toInt = x.toBitVec.toInt := rfl
  rw [h, BitVec.toInt_eq_toNat_cond]
  split <;> omega
theorem shr_byte (x : Int32) : ∀ i, i < 4 → ishr x (shB i) &&& 255 = byteC x i := by
  intro i hi
  unfold byteC
  rw [pk_and _ 8 (by decide), pk_and _ 8 (by decide)]
  congr 1
  have hx := x.toBitVec.isLt
  have go : ∀ (k : Nat) (s : Int32), k ≤ 24 → ((s &&& 31).toBitVec.smod 32).toNat = k → ((s.toUInt32 &&& Int32.toUInt32 31).toBitVec % 32).toNat = k → (2 ^ k = 1 ∨ 2 ^ k = 256 ∨ 2 ^ k = 65536 ∨ 2 ^ k = 16777216) → (ishr x s).toBitVec.toNat % 2 ^ 8 = (ushr x s).toBitVec.toNat % 2 ^ 8 := by
    intro k s hk h1 h2 h3
    have e1 : (ishr x s).toInt = x.toInt >>> k := pk_shr x _ k h1
    have e2 : (ushr x s).toBitVec.toNat = x.toBitVec.toNat / 2 ^ k := pk_ushr x s k h2
    rw [e2]
    rw [Int.shiftRight_eq_div_pow] at e1
    have a1 := toInt_toNat (ishr x s)
    have a2 := toInt_toNat x
    generalize (ishr x s).toBitVec.toNat = A at *
    generalize (ishr x s).toInt = B at *
    generalize x.toBitVec.toNat = C at *
    generalize x.toInt = D at *
    rcases h3 with h3 | h3 | h3 | h3 <;> rw [h3] at e1 ⊢ <;> omega
  rcases (by omega : i = 0 ∨ i = 1 ∨ i = 2 ∨ i = 3) with rfl | rfl | rfl | rfl
  · exact go 24 _ (by decide) (by decide) (by decide) (by decide)
  · exact go 16 _ (by decide) (by decide) (by decide) (by decide)
  · exact go 8 _ (by decide) (by decide) (by decide) (by decide)
  · exact go 0 _ (by decide) (by decide) (by decide) (by decide)
theorem cput_is {fu t : Nat} {M : Mem} {x : Int32} (hf : 20 ≤ fu) (ht : rd M 146 7 = nI t) (h4 : t + 4 ≤ 400) : ∃ M', m_X5_putBytes fu M x = some M' ∧ rd M' 146 7 = nI (t + 4) ∧ ∀ j, rd M' 147 j = if t ≤ j ∧ j < t + 4 then byteC x (j - t) else rd M 147 j := by
  obtain ⟨y, hy, hp⟩ := lp_up (body := b_X5_putBytes_3 fu x) 4 (fun i s => s.1 = shB i ∧ rd s.2 146 7 = nI (t + i) ∧ ∀ j, rd s.2 147 j = if t ≤ j ∧ j < t + i then byteC x (j - t) else rd M 147 j) (fun M' => rd M' 146 7 = nI (t + 4) ∧ ∀ j, rd M' 147 j = if t ≤ j ∧ j < t + 4 then byteC x (j - t) else rd M 147 j)
    (fun i s hi hs => by
      obtain ⟨s1, s2⟩ := s
      obtain ⟨e1, e2, e3⟩ := hs
      dsimp only at e1 e2 e3
      subst e1
      left
      have h0 : ¬ shB i < 0 := by rcases (by omega : i = 0 ∨ i = 1 ∨ i = 2 ∨ i = 3) with rfl | rfl | rfl | rfl <;> decide
      have h1 : shB i + -8 = shB (i + 1) := by rcases (by omega : i = 0 ∨ i = 1 ∨ i = 2 ∨ i = 3) with rfl | rfl | rfl | rfl <;> decide
      have h2 : ¬ (400 : Int32) ≤ nI (t + i) := nI_ge (b := 400) (by omega) (by decide)
      simp only [b_X5_putBytes_3, un2_is, if_neg h0, e2, if_neg h2, inb_nI (show t + i < 400 by omega) (by decide), chk_t, bnd_is, ix_nI (show t + i < 2 ^ 31 by omega), h1]
      refine ⟨_, rfl, rfl, ?_, fun j => ?_⟩
      · show rd (wr (wr s2 147 (t + i) (ushr x (shB i) &&& 255)) 146 7 _) 146 7 = _
        rw [rd_wr, if_pos ⟨rfl, rfl⟩, rd_wr, if_neg (by omega), e2, nI_1]; rfl
      · show rd (wr (wr s2 147 (t + i) (ushr x (shB i) &&& 255)) 146 7 _) 147 j = _
        rw [rd_wr, if_neg (by omega), rd_wr, e3]
        by_cases q : j = t + i
        · subst q
          rw [if_pos ⟨rfl, rfl⟩, if_pos (by omega), Nat.add_sub_cancel_left]; rfl
        · rw [if_neg (fun z => q z.2)]
          by_cases q2 : t ≤ j ∧ j < t + i
          · rw [if_pos q2, if_pos (by omega)]
          · rw [if_neg q2, if_neg (by omega)])
    (fun s hs => by
      obtain ⟨s1, s2⟩ := s
      obtain ⟨e1, e2, e3⟩ := hs
      dsimp only at e1 e2 e3
      subst e1
      exact ⟨s2, by simp only [b_X5_putBytes_3, un2_is]; rw [if_pos (by decide)], e2, e3⟩)
    fu 0 (24, M) (by omega) (by omega) ⟨show (24 : Int32) = shB 0 from by decide, ht, fun j => by rw [if_neg (by omega)]⟩
  exact ⟨y, by unfold m_X5_putBytes; rw [hy]; rfl, hp⟩
theorem mput_is {fu t : Nat} {M : Mem} {x : Int32} (hf : 20 ≤ fu) (ht : rd M 148 20 = nI t) (h4 : t + 4 ≤ 400) : ∃ M', m_X6_puts fu M x = some M' ∧ rd M' 148 20 = nI (t + 4) ∧ ∀ j, rd M' 163 j = if t ≤ j ∧ j < t + 4 then byteC x (j - t) else rd M 163 j := by
  obtain ⟨y, hy, hp⟩ := lp_up (body := b_X6_puts_3 fu x) 4 (fun i s => s.1 = shB i ∧ rd s.2 148 20 = nI (t + i) ∧ ∀ j, rd s.2 163 j = if t ≤ j ∧ j < t + i then byteC x (j - t) else rd M 163 j) (fun M' => rd M' 148 20 = nI (t + 4) ∧ ∀ j, rd M' 163 j = if t ≤ j ∧ j < t + 4 then byteC x (j - t) else rd M 163 j)
    (fun i s hi hs => by
      obtain ⟨s1, s2⟩ := s
      obtain ⟨e1, e2, e3⟩ := hs
      dsimp only at e1 e2 e3
      subst e1
      left
      have h0 : ¬ shB i < 0 := by rcases (by omega : i = 0 ∨ i = 1 ∨ i = 2 ∨ i = 3) with rfl | rfl | rfl | rfl <;> decide
      have h1 : shB i + -8 = shB (i + 1) := by rcases (by omega : i = 0 ∨ i = 1 ∨ i = 2 ∨ i = 3) with rfl | rfl | rfl | rfl <;> decide
      simp only [b_X6_puts_3, un2_is, if_neg h0, e2, inb_nI (show t + i < 400 by omega) (by decide), chk_t, bnd_is, ix_nI (show t + i < 2 ^ 31 by omega), h1, shr_byte x i hi]
      refine ⟨_, rfl, rfl, ?_, fun j => ?_⟩
      · show rd (wr (wr s2 163 (t + i) (byteC x i)) 148 20 _) 148 20 = _
        rw [rd_wr, if_pos ⟨rfl, rfl⟩, rd_wr, if_neg (by omega), e2, nI_1]; rfl
      · show rd (wr (wr s2 163 (t + i) (byteC x i)) 148 20 _) 163 j = _
        rw [rd_wr, if_neg (by omega), rd_wr, e3]
        by_cases q : j = t + i
        · subst q
          rw [if_pos ⟨rfl, rfl⟩, if_pos (by omega), Nat.add_sub_cancel_left]
        · rw [if_neg (fun z => q z.2)]
          by_cases q2 : t ≤ j ∧ j < t + i
          · rw [if_pos q2, if_pos (by omega)]
          · rw [if_neg q2, if_neg (by omega)])
    (fun s hs => by
      obtain ⟨s1, s2⟩ := s
      obtain ⟨e1, e2, e3⟩ := hs
      dsimp only at e1 e2 e3
      subst e1
      exact ⟨s2, by simp only [b_X6_puts_3, un2_is]; rw [if_pos (by decide)], e2, e3⟩)
    fu 0 (24, M) (by omega) (by omega) ⟨show (24 : Int32) = shB 0 from by decide, ht, fun j => by rw [if_neg (by omega)]⟩
  exact ⟨y, by unfold m_X6_puts; rw [hy]; rfl, hp⟩
theorem op_feed {fu c : Nat} {M : Mem} (hf : 20 ≤ fu) (h : Inv c M) (a b d e x : Int32) : ∃ r M1 M2, m_X5_feed fu M a b d e x = some (r, M1) ∧ m_X6_feed fu M1 a b d e x = some (r, M2) ∧ Inv (c + 1) M2 := by
  obtain ⟨n, L, h1, h2, h3, h4, h5, h6, ⟨⟨t, t1, t2, t3, t4⟩, f1, f2, wd⟩, h8⟩ := id h
  have e20 : (nI t + 20 : Int32) = nI (t + 20) := nI_add t 20
  by_cases q : t + 20 ≤ 400
  · obtain ⟨C1, c1, n1, k1⟩ := cput_is (x := a) hf t2 (by omega)
    obtain ⟨C2, c2, n2, k2⟩ := cput_is (x := b) hf n1 (by omega)
    obtain ⟨C3, c3, n3, k3⟩ := cput_is (x := d) hf n2 (by omega)
    obtain ⟨C4, c4, n4, k4⟩ := cput_is (x := e) hf n3 (by omega)
    obtain ⟨C5, c5, n5, k5⟩ := cput_is (x := x) hf n4 (by omega)
    have s1 : m_X5_feed fu M a b d e x = some (nI (t + 20), C5) := by
      unfold m_X5_feed
      rw [t2, e20, if_pos (show nI (t + 20) ≤ 400 from nI_le (b := 400) q (by decide)), c1, some_bind, c2, some_bind, c3, some_bind, c4, some_bind, c5, some_bind, n5]
    have g1 := fr_m_X5_feed s1
    have t3' : rd (wr C5 148 0 0) 148 20 = nI t := by rw [rd_t0 (by omega), g1.1 _ _ (by unfold w_X5_feed; omega)]; exact t3
    obtain ⟨D1, d1, m1, l1⟩ := mput_is (x := a) hf t3' (by omega)
    obtain ⟨D2, d2, m2, l2⟩ := mput_is (x := b) hf m1 (by omega)
    obtain ⟨D3, d3, m3, l3⟩ := mput_is (x := d) hf m2 (by omega)
    obtain ⟨D4, d4, m4, l4⟩ := mput_is (x := e) hf m3 (by omega)
    obtain ⟨D5, d5, m5, l5⟩ := mput_is (x := x) hf m4 (by omega)
    have s2 : m_X6_feed fu C5 a b d e x = some (nI (t + 20), D5) := by
      unfold m_X6_feed
      rw [bnd_is, t3', if_pos (show nI t ≤ 380 from nI_le (b := 380) (by omega) (by decide)), d1, some_bind, d2, some_bind, d3, some_bind, d4, some_bind, d5, some_bind, m5]
    have g2 := fr_m_X6_feed s2
    have kI : ∀ k j, ¬ w_X5_feed k j → ¬ w_X6_feed k j → rd D5 k j = rd M k j := fun k j z1 z2 => (g2.1 k j z2).trans (g1.1 k j z1)
    have kL : ∀ k j, rdl D5 k j = rdl M k j := fun k j => (g2.2 k j (fun z => z.elim)).trans (g1.2 k j (fun z => z.elim))
    refine ⟨_, _, _, s1, s2, Inv.mono (c := c) ⟨n, L, ?_⟩ (Nat.le_succ c)⟩
    have eC : vC 0 D5 = vC 0 M := vC_eqs (fun k j z => kI k j (by unfold w_X5_feed; omega) (by unfold w_X6_feed; omega)) (fun j => kL _ _)
    have eM : vM D5 = vM M := vM_eqs (fun k j z => kI k j (by unfold keepW at z; unfold w_X5_feed; omega) (by unfold keepW at z; unfold w_X6_feed; omega))
    have e147 : ∀ j, j < t + 20 → rd D5 147 j = rd D5 163 j ∧ 0 ≤ rd D5 163 j := by
      intro j hj
      have w147 : rd D5 147 j = rd C5 147 j := g2.1 _ _ (by unfold w_X6_feed; omega)
      have b0 : rd (wr C5 148 0 0) 163 j = rd M 163 j := by rw [rd_t0 (by omega), g1.1 _ _ (by unfold w_X5_feed; omega)]
      have b1 := t4 j
      rw [w147, k5, k4, k3, k2, k1, l5, l4, l3, l2, l1, b0]
      have y1 := byteC_nn a (j - t)
      have y2 := byteC_nn b (j - (t + 4))
      have y3 := byteC_nn d (j - (t + 4 + 4))
      have y4 := byteC_nn e (j - (t + 4 + 4 + 4))
      have y5 := byteC_nn x (j - (t + 4 + 4 + 4 + 4))
      by_cases z5 : t + 4 + 4 + 4 + 4 ≤ j ∧ j < t + 4 + 4 + 4 + 4 + 4
      · simp only [if_pos z5]; exact ⟨trivial, y5⟩
      simp only [if_neg z5]
      by_cases z4 : t + 4 + 4 + 4 ≤ j ∧ j < t + 4 + 4 + 4 + 4
      · simp only [if_pos z4]; exact ⟨trivial, y4⟩
      simp only [if_neg z4]
      by_cases z3 : t + 4 + 4 ≤ j ∧ j < t + 4 + 4 + 4
      · simp only [if_pos z3]; exact ⟨trivial, y3⟩
      simp only [if_neg z3]
      by_cases z2 : t + 4 ≤ j ∧ j < t + 4 + 4
      · simp only [if_pos z2]; exact ⟨trivial, y2⟩
      simp only [if_neg z2]
      by_cases z1 : t ≤ j ∧ j < t + 4
      · simp only [if_pos z1]; exact ⟨trivial, y1⟩
      simp only [if_neg z1]
      exact b1 (by omega)
    refine ⟨by rw [eC, eM]; exact h1, by rw [eC]; exact h2, by rw [eC]; exact PB_eq (fun j => kL _ _) h3, LawsC_eq (fun k j z1 z2 => kI k j (by unfold w_X5_feed; omega) (by unfold w_X6_feed; omega)) h4, LawsM_eq (fun k j z1 z2 => kI k j (by unfold w_X5_feed; omega) (by unfold w_X6_feed; omega)) h5, h6, ⟨⟨t + 20, q, ?_, m5, e147⟩, ?_, ?_, fun i hi => ?_⟩, Img_eq (fun k j z => kI k j (by unfold keepG at z; unfold w_X5_feed; omega) (by unfold keepG at z; unfold w_X6_feed; omega)) (fun k j _ => kL _ _) h8⟩
    · rw [g2.1 _ _ (by unfold w_X6_feed; omega), n5]
    · rw [kI 146 8 (by unfold w_X5_feed; omega) (by unfold w_X6_feed; omega), kI 148 38 (by unfold w_X5_feed; omega) (by unfold w_X6_feed; omega)]; exact f1
    · rw [kI 146 9 (by unfold w_X5_feed; omega) (by unfold w_X6_feed; omega), kI 148 39 (by unfold w_X5_feed; omega) (by unfold w_X6_feed; omega)]; exact f2
    · rw [kI 164 i (by unfold w_X5_feed; omega) (by unfold w_X6_feed; omega)]; exact wd i hi
  · refine ⟨-1, M, wr M 148 0 0, ?_, ?_, h.t0⟩
    · unfold m_X5_feed
      rw [t2, e20, if_neg (show ¬ nI (t + 20) ≤ 400 from nI_ge (a := 400) (by omega) (by omega))]
    · unfold m_X6_feed
      rw [bnd_is, rd_t0 (by omega), t3, if_neg (show ¬ nI t ≤ 380 from nI_ge (a := 380) (by omega) (by omega))]
