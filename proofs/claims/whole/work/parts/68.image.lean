/-! ===== image ===== -/
def tkN (q : Nat) : Nat := if q < 4 then 165 else if q < 196 then 166 + (q - 4) % 3 else 169 + (q - 196) % 2
def tjN (q : Nat) : Nat := if q < 4 then q else if q < 196 then (q - 4) / 3 else (q - 196) / 2
def tqN (k j : Nat) : Nat := if k = 165 then j else if k ≤ 168 then 4 + 3 * j + (k - 166) else 196 + 2 * j + (k - 169)
def inT (k j : Nat) : Prop := (k = 165 ∧ j < 4) ∨ (166 ≤ k ∧ k ≤ 168 ∧ j < 64) ∨ (169 ≤ k ∧ k ≤ 170 ∧ j < 1600)
theorem tq_is {k j : Nat} (h : inT k j) : tqN k j < 3396 ∧ tkN (tqN k j) = k ∧ tjN (tqN k j) = j := by
  unfold inT at h
  unfold tqN tkN tjN
  by_cases a : k = 165
  · simp only [if_pos a]
    rw [if_pos (by omega), if_pos (by omega)]; omega
  · by_cases b : k ≤ 168
    · simp only [if_neg a, if_pos b]
      rw [if_neg (by omega), if_pos (by omega), if_neg (by omega), if_pos (by omega)]; omega
    · simp only [if_neg a, if_neg b]
      rw [if_neg (by omega), if_neg (by omega), if_neg (by omega), if_neg (by omega)]; omega
theorem tp_in {p : Nat} (hp : p < 3396) : inT (tkN p) (tjN p) := by
  unfold inT tkN tjN
  by_cases a : p < 4
  · exact Or.inl ⟨by rw [if_pos a], by rw [if_pos a]; exact a⟩
  · by_cases b : p < 196
    · simp only [if_neg a, if_pos b]; omega
    · simp only [if_neg a, if_neg b]; omega
theorem tp_ne {p q : Nat} (hp : p < 3396) (h : q < p) : ¬ (tkN q = tkN p ∧ tjN q = tjN p) := by
  unfold tkN tjN
  by_cases a : p < 4
  · have c : q < 4 := by omega
    simp only [if_pos a, if_pos c]; omega
  · by_cases b : p < 196
    · have d : q < 196 := by omega
      by_cases c : q < 4
      · simp only [if_neg a, if_pos b, if_pos c]; omega
      · simp only [if_neg a, if_pos b, if_neg c, if_pos d]; omega
    · by_cases c : q < 4
      · simp only [if_neg a, if_neg b, if_pos c]; omega
      · by_cases d : q < 196
        · simp only [if_neg a, if_neg b, if_neg c, if_pos d]; omega
        · simp only [if_neg a, if_neg b, if_neg c, if_neg d]; omega
def KStep (P : Nat → Mem → Prop) : Prop := ∀ p M, p < 3396 → P p M → ∃ M', P (p + 1) M' ∧ ∀ {β : Type} (F : Mem → Option β), (m_X6_keptText M (rd M (tkN p) (tjN p))).bind (un2 fun r M1 => bnd (wr M1 (tkN p) (tjN p) r) F) = F M'
theorem KStep.at {P : Nat → Mem → Prop} (h : KStep P) {p k j : Nat} {M : Mem} (hq : P p M) (hj : inT k j) (hp : tqN k j = p) : ∃ M', P (p + 1) M' ∧ ∀ {β : Type} (F : Mem → Option β), (m_X6_keptText M (rd M k j)).bind (un2 fun r M1 => bnd (wr M1 k j r) F) = F M' := by
  obtain ⟨a, b, c⟩ := tq_is hj
  subst hp
  have := h _ M a hq
  rw [b, c] at this
  exact this
theorem kept_is {P : Nat → Mem → Prop} {fu : Nat} {M : Mem} (hfu : 2000 ≤ fu) (h : KStep P) (h0 : P 0 (wr M 148 54 0)) : ∃ M', j_X6_image_90 fu M = some (1, M') ∧ P 3396 M' := by
  obtain ⟨A, ea, pa⟩ := lp_up (body := b_X6_image_97 fu) 4 (fun i s => ∃ M1, s = (nI i, M1) ∧ P i M1) (fun M' => P 4 M') (by
    rintro i s hi ⟨N0, rfl, q0⟩
    left
    obtain ⟨N1, r1, f1⟩ := h.at (k := 165) (j := i) q0 (Or.inl ⟨rfl, hi⟩) rfl
    refine ⟨(nI (i + 1), N1), ?_, N1, rfl, r1⟩
    unfold b_X6_image_97
    rw [un2_is, if_neg (show ¬ (4 : Int32) ≤ nI i from nI_ge hi (by decide)), chk_is (inb_nI (by omega : i < 5) (by decide)), ix_nI (by omega), f1, bnd_e, nI_1]) (by
    rintro s ⟨N0, rfl, q0⟩
    refine ⟨N0, ?_, q0⟩
    unfold b_X6_image_97
    rw [un2_is, if_pos (show (4 : Int32) ≤ nI 4 from nI_le (Nat.le_refl _) (by decide))]) fu 0 (0, wr M 148 54 0) (Nat.zero_le _) (by omega) ⟨_, rfl, h0⟩
  obtain ⟨B, eb, pb⟩ := lp_up (body := b_X6_image_126 fu) 64 (fun i s => ∃ M1, s = (nI i, M1) ∧ P (4 + 3 * i) M1) (fun M' => P 196 M') (by
    rintro i s hi ⟨N0, rfl, q0⟩
    left
    obtain ⟨N1, r1, f1⟩ := h.at (k := 166) (j := i) q0 (Or.inr (Or.inl ⟨by decide, by decide, hi⟩)) rfl
    obtain ⟨N2, r2, f2⟩ := h.at (k := 167) (j := i) r1 (Or.inr (Or.inl ⟨by decide, by decide, hi⟩)) rfl
    obtain ⟨N3, r3, f3⟩ := h.at (k := 168) (j := i) r2 (Or.inr (Or.inl ⟨by decide, by decide, hi⟩)) rfl
    refine ⟨(nI (i + 1), N3), ?_, N3, rfl, ?_⟩
    · unfold b_X6_image_126
      rw [un2_is, if_neg (show ¬ (64 : Int32) ≤ nI i from nI_ge hi (by decide)), chk_is (inb_nI (by omega : i < 80) (by decide)), ix_nI (by omega), f1, f2, f3, bnd_e, nI_1]
    · rw [show 4 + 3 * (i + 1) = 4 + 3 * i + 1 + 1 + 1 by omega]; exact r3) (by
    rintro s ⟨N0, rfl, q0⟩
    refine ⟨N0, ?_, q0⟩
    unfold b_X6_image_126
    rw [un2_is, if_pos (show (64 : Int32) ≤ nI 64 from nI_le (Nat.le_refl _) (by decide))]) fu 0 (0, A) (Nat.zero_le _) (by omega) ⟨_, rfl, pa⟩
  obtain ⟨C, ec, pc⟩ := lp_up (body := b_X6_image_188 fu) 1600 (fun i s => ∃ M1, s = (nI i, M1) ∧ P (196 + 2 * i) M1) (fun M' => P 3396 M') (by
    rintro i s hi ⟨N0, rfl, q0⟩
    left
    obtain ⟨N1, r1, f1⟩ := h.at (k := 169) (j := i) q0 (Or.inr (Or.inr ⟨by decide, by decide, hi⟩)) rfl
    obtain ⟨N2, r2, f2⟩ := h.at (k := 170) (j := i) r1 (Or.inr (Or.inr ⟨by decide, by decide, hi⟩)) rfl
    refine ⟨(nI (i + 1), N2), ?_, N2, rfl, ?_⟩
    · unfold b_X6_image_188
      rw [un2_is, if_neg (show ¬ (1600 : Int32) ≤ nI i from nI_ge hi (by decide)), chk_is (inb_nI (by omega : i < 2000) (by decide)), ix_nI (by omega), f1, f2, bnd_e, nI_1]
    · rw [show 196 + 2 * (i + 1) = 196 + 2 * i + 1 + 1 by omega]; exact r2) (by
    rintro s ⟨N0, rfl, q0⟩
    refine ⟨N0, ?_, q0⟩
    unfold b_X6_image_188
    rw [un2_is, if_pos (show (1600 : Int32) ≤ nI 1600 from nI_le (Nat.le_refl _) (by decide))]) fu 0 (0, B) (Nat.zero_le _) (by omega) ⟨_, rfl, pb⟩
  refine ⟨C, ?_, pc⟩
  unfold j_X6_image_90
  rw [bnd_e, ea, some_bind, un1_is, eb, some_bind, un1_is, ec, some_bind, un1_is]
def KS (M0 : Mem) (p : Nat) (M : Mem) : Prop := rd M 148 48 = 1 ∧ rd M 148 54 = nI p ∧ (∀ k j, k ≠ 182 → ¬ (k = 148 ∧ j = 54) → rd M k j = rd M0 k j) ∧ (∀ q, q < p → rd M 182 q = rd M0 (tkN q) (tjN q)) ∧ ∀ k j, rdl M k j = rdl M0 k j
def KR (M0 : Mem) (p : Nat) (M : Mem) : Prop := rd M 148 48 = 0 ∧ rd M 148 54 = nI p ∧ (∀ k j, ¬ (165 ≤ k ∧ k ≤ 170) → ¬ (k = 148 ∧ j = 54) → rd M k j = rd M0 k j) ∧ (∀ q, q < p → rd M (tkN q) (tjN q) = rd M0 182 q) ∧ ∀ k j, rdl M k j = rdl M0 k j
theorem KS_step (M0 : Mem) : KStep (KS M0) := by
  intro p M hp h
  have z := tp_in hp
  obtain ⟨a, b, d, e, g⟩ := h
  generalize hK : tkN p = K at *
  generalize hJ : tjN p = J at *
  unfold inT at z
  have r49 : rd (wr M 148 54 (nI (p + 1))) 148 54 = nI (p + 1) := by rw [rd_we, if_pos ⟨rfl, rfl⟩]
  have r48 : rd (wr M 148 54 (nI (p + 1))) 148 48 = 1 := by rw [rd_we, if_neg (by omega)]; exact a
  refine ⟨wr (wr (wr M 148 54 (nI (p + 1))) 182 p (rd M K J)) K J (rd M K J), ⟨?_, ?_, fun k j q1 q2 => ?_, fun q hq => ?_, g⟩, fun F => ?_⟩
  · rw [rd_we, if_neg (by omega), rd_we, if_neg (by omega), rd_we, if_neg (by omega)]; exact a
  · rw [rd_we, if_neg (by omega), rd_we, if_neg (by omega), rd_we, if_pos ⟨rfl, rfl⟩]
  · rw [rd_we]
    by_cases y : k = K ∧ j = J
    · rw [if_pos y, y.1, y.2]; exact d K J (by omega) (by omega)
    · rw [if_neg y, rd_we, if_neg (by omega), rd_we, if_neg (by omega)]; exact d k j q1 q2
  · rw [rd_we, if_neg (by omega), rd_we]
    by_cases y : q = p
    · rw [if_pos ⟨rfl, y⟩, y, hK, hJ]; exact d K J (by omega) (by omega)
    · rw [if_neg (fun x => y x.2), rd_we, if_neg (by omega)]; exact e q (by omega)
  · unfold m_X6_keptText
    rw [b, nI_1, bnd_e, r48, if_neg (by decide), r49, nI_s1, chk_is (inb_nI (by omega) (by decide)), bnd_e, ix_nI (by omega), some_bind, un2_is, bnd_e]
theorem KR_step (M0 : Mem) : KStep (KR M0) := by
  intro p M hp h
  have z := tp_in hp
  have ne := fun q => tp_ne (q := q) hp
  obtain ⟨a, b, d, e, g⟩ := h
  generalize hK : tkN p = K at *
  generalize hJ : tjN p = J at *
  unfold inT at z
  have r49 : rd (wr M 148 54 (nI (p + 1))) 148 54 = nI (p + 1) := by rw [rd_we, if_pos ⟨rfl, rfl⟩]
  have r48 : rd (wr M 148 54 (nI (p + 1))) 148 48 = 0 := by rw [rd_we, if_neg (by omega)]; exact a
  refine ⟨wr (wr M 148 54 (nI (p + 1))) K J (rd M 182 p), ⟨?_, ?_, fun k j q1 q2 => ?_, fun q hq => ?_, g⟩, fun F => ?_⟩
  · rw [rd_we, if_neg (by omega), rd_we, if_neg (by omega)]; exact a
  · rw [rd_we, if_neg (by omega), rd_we, if_pos ⟨rfl, rfl⟩]
  · rw [rd_we, if_neg (by omega), rd_we, if_neg (by omega)]; exact d k j q1 q2
  · rw [rd_we]
    by_cases y : q = p
    · rw [if_pos (by rw [y]; exact ⟨hK, hJ⟩), y]; exact d 182 p (by omega) (by omega)
    · have z2 := tp_in (p := q) (by omega)
      unfold inT at z2
      rw [if_neg (ne q (by omega)), rd_we, if_neg (by omega)]; exact e q (by omega)
  · unfold m_X6_keptText
    rw [b, nI_1, bnd_e, r48, if_pos rfl, r49, nI_s1, chk_is (inb_nI (by omega) (by decide)), ix_nI (by omega), rd_we (k := 148), if_neg (by omega), some_bind, un2_is, bnd_e]
theorem LawM.cong {many many' : Int32} {doing frm to op arg doing' frm' to' op' arg' : Nat → Int32} {ls : List Ln} (h : LawM many doing frm to op arg ls) (e0 : many' = many) (e1 : ∀ l, l < 16 → doing' l = doing l ∧ frm' l = frm l ∧ to' l = to l) (e2 : ∀ i, i < 400 → op' i = op i ∧ arg' i = arg i) : LawM many' doing' frm' to' op' arg' ls := by
  obtain ⟨a, b, c⟩ := h
  refine ⟨e0.trans a, b, fun l hl => ?_⟩
  obtain ⟨d, x, hx, f, t, o⟩ := c l hl
  obtain ⟨q1, q2, q3⟩ := e1 l (by omega)
  exact ⟨q1.trans d, x, hx, q2.trans f, q3.trans t, fun i hi => by
    obtain ⟨q4, q5⟩ := e2 (x + i) (by omega)
    exact ⟨q4.trans (o i hi).1, q5.trans (o i hi).2⟩⟩
theorem LawsI_save {M0 M : Mem} {L : Nat → List Ln} (h : KS M0 3396 M) (hL : LawsM M0 L) : LawsI M L := by
  have g : ∀ k j, inT k j → rd M 182 (tqN k j) = rd M0 k j := fun k j z => by
    obtain ⟨a, b, c⟩ := tq_is z
    have := h.2.2.2.1 _ a
    rw [b, c] at this
    exact this
  intro k hk
  refine (hL k hk).cong (g 165 k (Or.inl ⟨rfl, hk⟩)) (fun l hl => ⟨g 166 (16 * k + l) (Or.inr (Or.inl ⟨by decide, by decide, by omega⟩)), ?_, ?_⟩) (fun i hi => ⟨g 169 (400 * k + i) (Or.inr (Or.inr ⟨by decide, by decide, by omega⟩)), ?_⟩)
  · have := g 167 (16 * k + l) (Or.inr (Or.inl ⟨by decide, by decide, by omega⟩))
    rw [show tqN 167 (16 * k + l) = 5 + 3 * (16 * k + l) by unfold tqN; rw [if_neg (by decide), if_pos (by decide)]; omega] at this
    exact this
  · have := g 168 (16 * k + l) (Or.inr (Or.inl ⟨by decide, by decide, by omega⟩))
    rw [show tqN 168 (16 * k + l) = 6 + 3 * (16 * k + l) by unfold tqN; rw [if_neg (by decide), if_pos (by decide)]; omega] at this
    exact this
  · have := g 170 (400 * k + i) (Or.inr (Or.inr ⟨by decide, by decide, by omega⟩))
    rw [show tqN 170 (400 * k + i) = 197 + 2 * (400 * k + i) by unfold tqN; rw [if_neg (by decide), if_neg (by decide)]; omega] at this
    exact this
theorem LawsM_back {M0 M : Mem} {L : Nat → List Ln} (h : KR M0 3396 M) (hL : LawsI M0 L) : LawsM M L := by
  have g : ∀ k j, inT k j → rd M k j = rd M0 182 (tqN k j) := fun k j z => by
    obtain ⟨a, b, c⟩ := tq_is z
    have := h.2.2.2.1 _ a
    rw [b, c] at this
    exact this
  intro k hk
  refine (hL k hk).cong (g 165 k (Or.inl ⟨rfl, hk⟩)) (fun l hl => ⟨g 166 (16 * k + l) (Or.inr (Or.inl ⟨by decide, by decide, by omega⟩)), ?_, ?_⟩) (fun i hi => ⟨g 169 (400 * k + i) (Or.inr (Or.inr ⟨by decide, by decide, by omega⟩)), ?_⟩)
  · have := g 167 (16 * k + l) (Or.inr (Or.inl ⟨by decide, by decide, by omega⟩))
    rw [show tqN 167 (16 * k + l) = 5 + 3 * (16 * k + l) by unfold tqN; rw [if_neg (by decide), if_pos (by decide)]; omega] at this
    exact this
  · have := g 168 (16 * k + l) (Or.inr (Or.inl ⟨by decide, by decide, by omega⟩))
    rw [show tqN 168 (16 * k + l) = 6 + 3 * (16 * k + l) by unfold tqN; rw [if_neg (by decide), if_pos (by decide)]; omega] at this
    exact this
  · have := g 170 (400 * k + i) (Or.inr (Or.inr ⟨by decide, by decide, by omega⟩))
    rw [show tqN 170 (400 * k + i) = 197 + 2 * (400 * k + i) by unfold tqN; rw [if_neg (by decide), if_neg (by decide)]; omega] at this
    exact this
theorem vI_A (M : Mem) : vI M = vA 181 M := by
  funext k j
  unfold vI vA qN
  by_cases a : k = 148
  · simp only [if_pos a]
    by_cases b : 1 ≤ j ∧ j ≤ 4
    · rw [if_pos b, if_pos (Or.inl ⟨a, b⟩)]
    · rw [if_neg b, if_neg (by omega)]
  · simp only [if_neg a]
    by_cases b : 149 ≤ k ∧ k ≤ 162 ∧ j < 10
    · rw [if_pos b, if_pos (Or.inr b)]
      by_cases c : k = 162
      · simp only [if_pos c]
      · simp only [if_neg c]
    · rw [if_neg b, if_neg (by omega)]
/-- 160 places taken over -/
theorem cp160_is {body : Int32 × Mem → Option ((Int32 × Mem) ⊕ Mem)} {fu A B : Nat} {M : Mem} (hfu : 2000 ≤ fu) (hAB : A ≠ B) (h1 : ∀ i M1, i < 160 → body (nI i, M1) = some (.inl (nI (i + 1), wr M1 A i (rd M1 B i)))) (h2 : ∀ M1, body (nI 160, M1) = some (.inr M1)) : ∃ M', lp body fu (0, M) = some M' ∧ (∀ j, j < 160 → rd M' A j = rd M B j) ∧ (∀ k j, k ≠ A → rd M' k j = rd M k j) ∧ ∀ k j, rdl M' k j = rdl M k j := by
  refine lp_up 160 (fun i s => ∃ M1, s = (nI i, M1) ∧ (∀ j, j < i → rd M1 A j = rd M B j) ∧ (∀ k j, k ≠ A → rd M1 k j = rd M k j) ∧ ∀ k j, rdl M1 k j = rdl M k j) (fun M' => (∀ j, j < 160 → rd M' A j = rd M B j) ∧ (∀ k j, k ≠ A → rd M' k j = rd M k j) ∧ ∀ k j, rdl M' k j = rdl M k j) ?_ ?_ fu 0 (0, M) (Nat.zero_le _) (by omega) ⟨M, rfl, fun j hj => absurd hj (Nat.not_lt_zero _), fun _ _ _ => rfl, fun _ _ => rfl⟩
  · rintro i s hi ⟨M1, rfl, q1, q2, q3⟩
    left
    refine ⟨_, h1 i M1 hi, _, rfl, fun j hj => ?_, fun k j z => by rw [rd_we, if_neg (fun y => z y.1)]; exact q2 k j z, q3⟩
    rw [rd_we]
    by_cases z : j = i
    · rw [if_pos ⟨rfl, z⟩, z]; exact q2 _ _ (fun y => hAB y.symm)
    · rw [if_neg (fun y => z y.2)]; exact q1 j (by omega)
  · rintro s ⟨M1, rfl, q⟩
    exact ⟨M1, h2 M1, q⟩
