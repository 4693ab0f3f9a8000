/-! ===== the model finds the next token ===== -/
theorem m_le (M : Mem) (x : Int32) : m_X6_isLetter M x = some (if isLe x = true then 1 else 0) := by
  unfold m_X6_isLetter j_X6_isLetter_24 isLe
  rw [isIn_is, some_bind, isIn_is, some_bind]
  simp only [decide_eq_true_iff, tf_0]
  grind
theorem m_di (M : Mem) (x : Int32) : m_X6_isDigit M x = some (if isDi x = true then 1 else 0) := by
  unfold m_X6_isDigit isDi
  rw [isIn_is, some_bind]
  simp only [decide_eq_true_iff]
  by_cases h : ¬ x < 48 ∧ ¬ 57 < x
  · rw [tf_t h, chk_is (by decide), if_pos (by grind)]
  · rw [tf_f h, chk_is (by decide), if_neg (by grind)]
theorem m_si (M : Mem) (x : Int32) : m_X6_isMarkSign M x = some (if isSi x = true then 1 else 0) := by
  unfold m_X6_isMarkSign j_X6_isMarkSign_60 isSi
  simp only [decide_eq_true_iff]
  have a : (40 ≤ x ∧ x ≤ 43) ↔ (x = 40 ∨ x = 41 ∨ x = 42 ∨ x = 43) := by
    constructor
    · rintro ⟨q1, q2⟩
      have r1 := I_le.mp q1
      have r2 := I_le.mp q2
      rw [show (40 : Int32).toInt = 40 from rfl] at r1
      rw [show (43 : Int32).toInt = 43 from rfl] at r2
      rcases (by omega : x.toInt = 40 ∨ x.toInt = 41 ∨ x.toInt = 42 ∨ x.toInt = 43) with e | e | e | e
      · exact Or.inl (I_eq.mpr e)
      · exact Or.inr (Or.inl (I_eq.mpr e))
      · exact Or.inr (Or.inr (Or.inl (I_eq.mpr e)))
      · exact Or.inr (Or.inr (Or.inr (I_eq.mpr e)))
    · rintro (rfl | rfl | rfl | rfl) <;> decide
  have c : (59 ≤ x ∧ x ≤ 62) ↔ (x = 59 ∨ x = 60 ∨ x = 61 ∨ x = 62) := by
    constructor
    · rintro ⟨q1, q2⟩
      have r1 := I_le.mp q1
      have r2 := I_le.mp q2
      rw [show (59 : Int32).toInt = 59 from rfl] at r1
      rw [show (62 : Int32).toInt = 62 from rfl] at r2
      rcases (by omega : x.toInt = 59 ∨ x.toInt = 60 ∨ x.toInt = 61 ∨ x.toInt = 62) with e | e | e | e
      · exact Or.inl (I_eq.mpr e)
      · exact Or.inr (Or.inl (I_eq.mpr e))
      · exact Or.inr (Or.inr (Or.inl (I_eq.mpr e)))
      · exact Or.inr (Or.inr (Or.inr (I_eq.mpr e)))
    · rintro (rfl | rfl | rfl | rfl) <;> decide
  simp only [a, c]
  split
  · next h => rw [if_pos (by simp [h])]
  split
  · next h => rw [if_pos (by simp [h])]
  split
  · next h => rw [if_pos (by simp [h])]
  split
  · next h => rw [if_pos (by simp [h])]
  split
  · next h => rw [if_pos (by simp [h])]
  split
  · next h => rw [if_pos (by simp [h])]
  split
  · next h => rw [if_pos (by simp [h])]
  split
  · next h => rw [if_pos (by simp [h])]
  split
  · next h => rw [if_pos (by simp [h])]
  split
  · next h => rw [if_pos (by simp [h])]
  next h1 h2 h3 h4 h5 h6 h7 h8 h9 h10 => rw [if_neg (by simp [*])]
theorem kw_mw : ∀ i, i < 98 → mwL.getD (i + 1) 0 = kwC i := by decide +kernel
theorem mw_sp : ∀ w, w < 21 → mwL.getD (kwSt w) 0 = 32 := by decide +kernel
/-- a word, as the model's token tells it -/
def mTok (k v : Int32) : Int32 × Int32 := if k = 0 then (0, v) else if k = 1 then (3, v) else if k = 2 then (1, v) else if 200 ≤ k then (2, k - 200) else (4, k)
section MLEX
variable {fu len p f s : Nat} {M : Mem} {b : Nat → Int32}
theorem mraw_is (h20 : rd M 148 20 = nI len) (hb : ∀ i, i < len → rd M 163 i = b i) (hl : len ≤ 400) {q : Nat} (hq : q ≤ 400) : m_X6_raw M (nI q) = some (if q < len then b q else -1) := by
  unfold m_X6_raw
  rw [h20]
  by_cases z : q < len
  · rw [if_neg (nI_ge z (by omega)), if_pos z, chk_is (inb_nI (by omega) (by decide)), ix_nI (by omega), hb q z]
  · rw [if_pos (nI_le (by omega) (by omega)), if_neg z]
theorem mw_at (hw : ∀ i, i < 99 → rd M 164 i = mwL.getD i 0) {i : Nat} (hi : i < 98) : rd M 164 (i + 1) = kwC i := by rw [hw _ (by omega), kw_mw i hi]
/-- one word of the model's row -/
theorem mword1 {w : Nat} {s3 : Int32} (hfu : 1000 ≤ fu) (hw20 : w < 20) (hb : ∀ i, i < len → rd M 163 i = b i) (hw : ∀ i, i < 99 → rd M 164 i = mwL.getD i 0) (hl : len ≤ 400) (hfs : f < s) (hs : s ≤ len) (hle : ∀ i, f ≤ i → i < s → isLe (b i) = true) : ∃ m : Nat, lp (b_X6_wordAt_19 fu M (nI f) (nI s) s3 (nI (kwSt w))) fu 0 = some (nI m) ∧ f + m ≤ s ∧ kwSt w + m < kwSt (w + 1) ∧ (kwHit b f s w = true ↔ f + m = s ∧ kwSt w + m + 1 = kwSt (w + 1)) := by
  have kb := kw_st w hw20
  have nb : ∀ i, f ≤ i → i < s → b i ≠ 32 := fun i h1 h2 e => by
    have := hle i h1 h2
    rw [e] at this
    exact absurd this (by unfold isLe; decide)
  obtain ⟨x, e, m, rfl, q1, q2, q3, q4⟩ := lp_up (body := b_X6_wordAt_19 fu M (nI f) (nI s) s3 (nI (kwSt w))) (s - f) (fun i c => c = nI i ∧ kwSt w + i < kwSt (w + 1) ∧ ∀ j, j < i → b (f + j) = kwC (kwSt w + j)) (fun x => ∃ m, x = nI m ∧ f + m ≤ s ∧ kwSt w + m < kwSt (w + 1) ∧ (∀ j, j < m → b (f + j) = kwC (kwSt w + j)) ∧ (f + m = s ∨ b (f + m) ≠ kwC (kwSt w + m))) (by
    rintro i c hi ⟨rfl, r1, r2⟩
    unfold b_X6_wordAt_19
    have e1 : nI (kwSt w) + 1 + nI i = nI (kwSt w + i + 1) := by rw [nI_1, nI_add]; congr 1; omega
    rw [un1_is, nI_add, if_neg (nI_ge (by omega) (by omega)), e1, chk_is (inb_nI (by omega) (by decide)), chk_is (inb_nI (by omega) (by decide)), ix_nI (by omega), ix_nI (by omega), hb _ (by omega), mw_at hw (by omega), bnd_e, nI_1]
    by_cases z : kwC (kwSt w + i) = b (f + i)
    · left
      rw [if_pos z]
      refine ⟨_, rfl, rfl, ?_, fun j hj => ?_⟩
      · have : kwSt w + i + 1 ≠ kwSt (w + 1) := fun y => by
          have := (kw_sp w hw20 (kwSt w + i) (by omega) (by omega) r1).mpr y
          exact nb (f + i) (by omega) (by omega) (z.symm.trans this)
        omega
      · by_cases y : j = i
        · rw [y]; exact z.symm
        · exact r2 j (by omega)
    · right
      rw [if_neg z]
      exact ⟨_, rfl, i, rfl, by omega, r1, r2, Or.inr (fun y => z y.symm)⟩) (by
    rintro c ⟨rfl, r1, r2⟩
    refine ⟨nI (s - f), ?_, s - f, rfl, by omega, r1, r2, Or.inl (by omega)⟩
    unfold b_X6_wordAt_19
    rw [un1_is, nI_add, if_pos (nI_le (by omega) (by omega))]) fu 0 0 (Nat.zero_le _) (by omega) ⟨rfl, by omega, fun j hj => absurd hj (Nat.not_lt_zero _)⟩
  refine ⟨m, e, q1, q2, ?_⟩
  unfold kwHit
  rw [decide_eq_true_iff]
  constructor
  · rintro ⟨h1, h2⟩
    have : f + m = s := by
      rcases q4 with y | y
      · exact y
      · by_cases t : m < s - f
        · exact absurd (h2 m t) y
        · omega
    omega
  · rintro ⟨h1, h2⟩
    exact ⟨by omega, fun j hj => q3 j (by omega)⟩
theorem mkw_is (hfu : 1000 ≤ fu) (hb : ∀ i, i < len → rd M 163 i = b i) (hw : ∀ i, i < 99 → rd M 164 i = mwL.getD i 0) (hl : len ≤ 400) (hfs : f < s) (hs : s ≤ len) (hle : ∀ i, f ≤ i → i < s → isLe (b i) = true) : m_X6_wordAt fu M (nI f) (nI s) = some (kwAt b f s) := by
  have k20 : kwSt 20 = 98 := rfl
  obtain ⟨x, e, hp⟩ := lp_up (body := b_X6_wordAt_5 fu M (nI f) (nI s)) 20 (fun w c => c = (nI w - 1, nI (kwSt w)) ∧ kwAt b f s = kwFrom b f s (20 - w) w) (fun x => x = .inl (kwAt b f s) ∨ (kwAt b f s = -1 ∧ x = .inr ())) (by
    rintro w c hw20 ⟨rfl, r1⟩
    have kb := kw_st w hw20
    obtain ⟨m, m1, m2, m3, m4⟩ := mword1 (w := w) (s3 := nI w) hfu hw20 hb hw hl hfs hs hle
    have nxt : ¬ kwHit b f s w = true → j_X6_wordAt_87i fu M (nI f) (nI s) (nI w) (nI (kwSt w)) = some (.inl (nI (w + 1) - 1, nI (kwSt (w + 1)))) ∧ kwAt b f s = kwFrom b f s (20 - (w + 1)) (w + 1) := by
      intro t
      refine ⟨?_, by rw [r1, show 20 - w = (20 - (w + 1)) + 1 by omega, kwFrom_s, if_neg t]⟩
      obtain ⟨x, ex, rfl⟩ := lp_up (body := b_X6_wordAt_93 fu M (nI f) (nI s) (nI w)) (kwSt (w + 1) - kwSt w - 1) (fun i c => c = nI (kwSt w + 1 + i)) (fun x => x = nI (kwSt (w + 1))) (by
        rintro i c hi rfl
        left
        have : rd M 164 (kwSt w + 1 + i) = kwC (kwSt w + i) := by rw [show kwSt w + 1 + i = kwSt w + i + 1 by omega]; exact mw_at hw (by omega)
        refine ⟨_, ?_, rfl⟩
        unfold b_X6_wordAt_93
        rw [un1_is, chk_is (inb_nI (by omega) (by decide)), ix_nI (by omega), this, if_neg (fun y => by have := (kw_sp w hw20 (kwSt w + i) (by omega) (by omega) (by omega)).mp y; omega), bnd_e, nI_1]
        rfl) (by
        rintro c rfl
        refine ⟨_, ?_, rfl⟩
        unfold b_X6_wordAt_93
        rw [show kwSt w + 1 + (kwSt (w + 1) - kwSt w - 1) = kwSt (w + 1) by omega, un1_is, chk_is (inb_nI (by omega) (by decide)), ix_nI (by omega), hw _ (by omega), mw_sp (w + 1) (by omega), if_pos rfl]) fu 0 (nI (kwSt w + 1)) (Nat.zero_le _) (by omega) rfl
      unfold j_X6_wordAt_87i
      rw [bnd_e, nI_1, ex, some_bind, un1_is, nI_s1]
    unfold b_X6_wordAt_5
    have e0 : nI w - 1 + 1 = nI w := by grind
    have e1 : nI (kwSt w) + 1 + nI m = nI (kwSt w + m + 1) := by rw [nI_1, nI_add]; congr 1; omega
    rw [un2_is, if_neg (show ¬ (98 : Int32) ≤ nI (kwSt w) from nI_ge (a := kwSt w) (b := 98) (by omega) (by decide)), e0, bnd_e, m1, some_bind, un1_is, nI_add, e1]
    by_cases y : nI (f + m) = nI s
    · have y' := nI_inj (by omega) (by omega) y
      rw [if_pos y, chk_is (inb_nI (by omega) (by decide)), ix_nI (by omega), mw_at hw (by omega)]
      have sp := kw_sp w hw20 (kwSt w + m) (by omega) (by omega) m3
      by_cases t : kwHit b f s w = true
      · right
        rw [if_pos (sp.mpr (m4.mp t).2)]
        exact ⟨_, rfl, Or.inl (by rw [r1, show 20 - w = (20 - (w + 1)) + 1 by omega, kwFrom_s, if_pos t])⟩
      · left
        rw [if_neg (fun z => t (m4.mpr ⟨y', sp.mp z⟩)), (nxt t).1]
        exact ⟨_, rfl, rfl, (nxt t).2⟩
    · have t : ¬ kwHit b f s w = true := fun z => y (by rw [(m4.mp z).1])
      left
      rw [if_neg y, (nxt t).1]
      exact ⟨_, rfl, rfl, (nxt t).2⟩) (by
    rintro c ⟨rfl, r1⟩
    refine ⟨.inr (), ?_, Or.inr ⟨r1, rfl⟩⟩
    unfold b_X6_wordAt_5
    rw [un2_is, if_pos (show (98 : Int32) ≤ nI (kwSt 20) from nI_le (by decide) (by decide))]) fu 0 ((-1), 0) (Nat.zero_le _) (by omega) ⟨by decide, rfl⟩
  unfold m_X6_wordAt
  rw [e, some_bind]
  rcases hp with rfl | ⟨z, rfl⟩
  · rw [unS_inl, un1_is]
  · rw [unS_inr, un0_is, z]
end MLEX
