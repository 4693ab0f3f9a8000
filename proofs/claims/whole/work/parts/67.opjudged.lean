/-! ===== judged: the fewest feet ===== -/
def fw1 (a r : Int32) : Int32 := if r = -1 then a else if a = -1 then r else if a ≤ r then a else r
def fwT (T : Int32 → Int32) (y0 : Int32) : Nat → Int32
  | 0 => -1
  | i + 1 => fw1 (fwT T y0 i) (T (y0 + nI i))
theorem fwT_s (T : Int32 → Int32) (y0 : Int32) (i : Nat) : fwT T y0 (i + 1) = fw1 (fwT T y0 i) (T (y0 + nI i)) := rfl
theorem fwT_is (T : Int32 → Int32) (y0 : Int32) : ∀ m, (fwT T y0 m = -1 ∧ ∀ i, i < m → T (y0 + nI i) = -1) ∨ (fwT T y0 m ≠ -1 ∧ (∃ i, i < m ∧ T (y0 + nI i) = fwT T y0 m) ∧ ∀ i, i < m → T (y0 + nI i) ≠ -1 → fwT T y0 m ≤ T (y0 + nI i))
  | 0 => Or.inl ⟨rfl, fun i hi => absurd hi (Nat.not_lt_zero _)⟩
  | m + 1 => by
    have ih := fwT_is T y0 m
    rw [fwT_s]
    generalize hr : T (y0 + nI m) = r at *
    generalize ha : fwT T y0 m = a at *
    unfold fw1
    by_cases r1 : r = -1
    · rw [if_pos r1]
      rcases ih with ⟨p, q⟩ | ⟨p, ⟨i, hi, q⟩, s⟩
      · exact Or.inl ⟨p, fun i hi => by
          by_cases z : i = m
          · rw [z, hr]; exact r1
          · exact q i (by omega)⟩
      · exact Or.inr ⟨p, ⟨i, by omega, q⟩, fun i hi w => by
          by_cases z : i = m
          · rw [z, hr] at w; exact absurd r1 w
          · exact s i (by omega) w⟩
    · rw [if_neg r1]
      rcases ih with ⟨p, q⟩ | ⟨p, ⟨i, hi, q⟩, s⟩
      · rw [if_pos p]
        exact Or.inr ⟨r1, ⟨m, by omega, hr⟩, fun i hi w => by
          by_cases z : i = m
          · rw [z, hr]; exact Int32.le_refl _
          · exact absurd (q i (by omega)) w⟩
      · rw [if_neg p]
        by_cases l : a ≤ r
        · rw [if_pos l]
          exact Or.inr ⟨p, ⟨i, by omega, q⟩, fun i hi w => by
            by_cases z : i = m
            · rw [z, hr]; exact l
            · exact s i (by omega) w⟩
        · rw [if_neg l]
          exact Or.inr ⟨r1, ⟨m, by omega, hr⟩, fun i hi w => by
            by_cases z : i = m
            · rw [z, hr]; exact Int32.le_refl _
            · have := s i (by omega) w
              grind⟩
/-- two ways to number the same -/
theorem fwT_eq {T U : Int32 → Int32} {y0 : Int32} {m : Nat} (h1 : ∀ i, i < m → T (y0 + nI i) ≠ -1 → ∃ j, j < m ∧ U (y0 + nI j) = T (y0 + nI i)) (h2 : ∀ i, i < m → U (y0 + nI i) ≠ -1 → ∃ j, j < m ∧ T (y0 + nI j) = U (y0 + nI i)) : fwT T y0 m = fwT U y0 m := by
  rcases fwT_is T y0 m with ⟨p, q⟩ | ⟨p, ⟨i, hi, q⟩, s⟩ <;> rcases fwT_is U y0 m with ⟨p2, q2⟩ | ⟨p2, ⟨i2, hi2, qq⟩, s2⟩
  · rw [p, p2]
  · obtain ⟨j, hj, e⟩ := h2 i2 hi2 (by rw [qq]; exact p2)
    rw [q j hj, qq] at e
    exact absurd e.symm p2
  · obtain ⟨j, hj, e⟩ := h1 i hi (by rw [q]; exact p)
    rw [q2 j hj, q] at e
    exact absurd e.symm p
  · obtain ⟨j, hj, e⟩ := h1 i hi (by rw [q]; exact p)
    obtain ⟨j2, hj2, e2⟩ := h2 i2 hi2 (by rw [qq]; exact p2)
    have a := s2 j hj (by rw [e, q]; exact p)
    have b := s j2 hj2 (by rw [e2, qq]; exact p2)
    rw [e, q] at a
    rw [e2, qq] at b
    exact Int32.le_antisymm b a
section OPJ
variable {V : Vw} {n : Nat} {W N : Int}
theorem dl_bd (h : Vok V n W N) (hW : W ≤ 100000) (hw : ∀ f, f < 10 → -1 ≤ V 161 f ∧ V 161 f ≤ 60) {f : Nat} (hf : f < 10) : -60 ≤ (dlS V f).toInt ∧ (dlS V f).toInt ≤ 100001 := by
  have a := h.2.1 f hf
  have b := V_le h hf
  have c := I_le.mp (hw f hf).1
  have d := I_le.mp (hw f hf).2
  rw [tI_m1] at c
  rw [tI_60] at d
  unfold dlS
  rw [I_sub (by omega) (by omega)]; omega
theorem wy_bd (h : Vok V n W N) (hW : W ≤ 100000) (hw : ∀ f, f < 10 → -1 ≤ V 161 f ∧ V 161 f ≤ 60) {y : Int32} (hy : -200000 ≤ y.toInt ∧ y.toInt ≤ 200000) : ∀ b : Nat, b < 10 → -200000 - 60 * (b : Int) ≤ (wyS V y b).toInt ∧ (wyS V y b).toInt ≤ 200000 + 100001 * (b : Int)
  | 0, _ => by
    have e : wyS V y 0 = y := rfl
    rw [e]; omega
  | b + 1, hb => by
    have ih := wy_bd h hW hw hy b (by omega)
    have d := dl_bd h hW hw hb
    rw [wyS_s, I_add (by omega) (by omega)]; omega
theorem in_rng {k : Nat} (hk : k ≤ 5) {x : Int32} (h0 : -(k : Int) ≤ x.toInt) (h1 : x.toInt ≤ k) : ∃ j, j < 2 * k + 1 ∧ -nI k + nI j = x := by
  refine ⟨(x.toInt + k).toNat, by omega, ?_⟩
  apply I_eq.mpr
  have e1 : (-nI k).toInt = -(k : Int) := by
    rw [show -nI k = 0 - nI k by grind, I_sub (by rw [tI_0, nI_toInt (by omega)]; omega) (by rw [tI_0, nI_toInt (by omega)]; omega), tI_0, nI_toInt (by omega)]; omega
  have e2 : (nI (x.toInt + k).toNat).toInt = x.toInt + k := by rw [nI_toInt (by omega)]; omega
  rw [I_add (by rw [e1, e2]; omega) (by rw [e1, e2]; omega), e1, e2]; omega
theorem rng_in {k j : Nat} (hk : k ≤ 5) (hj : j < 2 * k + 1) : -(k : Int) ≤ (-nI k + nI j).toInt ∧ (-nI k + nI j).toInt ≤ k := by
  have e1 : (-nI k).toInt = -(k : Int) := by
    rw [show -nI k = 0 - nI k by grind, I_sub (by rw [tI_0, nI_toInt (by omega)]; omega) (by rw [tI_0, nI_toInt (by omega)]; omega), tI_0, nI_toInt (by omega)]; omega
  have e2 : (nI j).toInt = j := nI_toInt (by omega)
  rw [I_add (by rw [e1, e2]; omega) (by rw [e1, e2]; omega), e1, e2]; omega
/-- a border that may have moved so, moved at most FEET -/
theorem ok_bd {k : Nat} (hk : V 162 9 = nI k) (hk5 : k ≤ 5) {y : Int32} {b : Nat} (ho : okM V y b = true) (hb : -2000000 ≤ (wyS V y b).toInt ∧ (wyS V y b).toInt ≤ 2000000) : -(k : Int) ≤ (wyS V y b).toInt ∧ (wyS V y b).toInt ≤ k := by
  unfold okM at ho
  rw [decide_eq_true_iff] at ho
  have h1 : abI (wyS V y b) ≤ nI k := by
    by_cases e : V 157 b = 1
    · rw [if_pos e] at ho
      exact Int32.le_trans ho (nI_pos' (by omega))
    · rw [if_neg e, hk] at ho; exact ho
  have h2 := I_le.mp h1
  rw [nI_toInt (by omega)] at h2
  unfold abI at h2
  by_cases q : 0 ≤ wyS V y b
  · rw [if_pos q] at h2
    have := I_le.mp q
    rw [tI_0] at this
    omega
  · rw [if_neg q] at h2
    have q1 := mt I_le.mpr q
    rw [tI_0] at q1
    have e : (-wyS V y b).toInt = -(wyS V y b).toInt := by
      rw [show -wyS V y b = 0 - wyS V y b by grind, I_sub (by rw [tI_0]; omega) (by rw [tI_0]; omega), tI_0]; omega
    rw [e] at h2
    omega
theorem fm_ne {y : Int32} (h : fmS V n y ≠ -1) : allN (okM V y) n = true ∧ y - wyS V y (n - 1) = dlS V 0 := by
  unfold fmS at h
  by_cases q : allN (okM V y) n = true ∧ y - wyS V y (n - 1) = dlS V 0
  · exact q
  · rw [if_neg q] at h; exact absurd rfl h
theorem judge_eq (h : Vok V n W N) (hW : W ≤ 100000) (hw : ∀ f, f < 10 → -1 ≤ V 161 f ∧ V 161 f ≤ 60) {k : Nat} (hk : V 162 9 = nI k) (hk5 : k ≤ 5) : fwT (fmS V n) (-nI k) (2 * k + 1) = fwT (fun z => fmS V n (z + dlS V 0)) (-nI k) (2 * k + 1) := by
  have h10 := h.1.2.2
  have h2 := h.1.2.1
  refine fwT_eq (fun i hi q => ?_) (fun i hi q => ?_)
  · generalize hy : -nI k + nI i = y at *
    have r := rng_in hk5 hi
    rw [hy] at r
    obtain ⟨o1, o2⟩ := fm_ne q
    have b1 := wy_bd h hW hw (y := y) (by omega) (n - 1) (by omega)
    obtain ⟨j, hj, e⟩ := in_rng hk5 (ok_bd hk hk5 (allN_t.mp o1 (n - 1) (by omega)) (by omega)).1 (ok_bd hk hk5 (allN_t.mp o1 (n - 1) (by omega)) (by omega)).2
    refine ⟨j, hj, ?_⟩
    show fmS V n (-nI k + nI j + dlS V 0) = fmS V n y
    rw [e, ← o2]
    congr 1
    grind
  · have q' : fmS V n (-nI k + nI i + dlS V 0) ≠ -1 := q
    have r := rng_in hk5 hi
    generalize hz : -nI k + nI i = z at *
    have d := dl_bd h hW hw (f := 0) (by decide)
    have ey : (z + dlS V 0).toInt = z.toInt + (dlS V 0).toInt := I_add (by omega) (by omega)
    obtain ⟨o1, o2⟩ := fm_ne q'
    have b1 := wy_bd h hW hw (y := z + dlS V 0) (by omega) 0 (by omega)
    have ob := ok_bd hk hk5 (allN_t.mp o1 0 (by omega)) (by omega)
    obtain ⟨j, hj, e⟩ := in_rng hk5 ob.1 ob.2
    refine ⟨j, hj, ?_⟩
    rw [e]
    rfl
end OPJ
theorem op_judged {fu c : Nat} {M : Mem} (hf : 5000 ≤ fu) (hc : c ≤ 512) (h : Inv c M) (hw : WB M) : ∃ r M2, m_X5_judged fu M = some r ∧ m_X6_judged fu M = some (r, M2) ∧ Inv (c + 1) M2 := by
  obtain ⟨n, L, h1, h2, -⟩ := id h
  have hwI : wI c ≤ 100000 := wI_le hc
  have h10 := h2.1.2.2
  generalize hV : vC 0 M = V at *
  have hv1 : vM (wr M 148 0 0) = V := (vM_t0 M).trans h1
  have hb : ∀ f, f < 10 → -1 ≤ V 161 f ∧ V 161 f ≤ 60 := fun f hf => by rw [← m_at h1 (k := 161) (by decide) (by decide) hf]; exact hw.1 f hf
  have f9 := h2.2.2.2.2.2.2.2.2.2.1
  obtain ⟨k, hk5, hk⟩ := nI_of_le (x := V 162 9) (m := 5) f9.1 f9.2 (by decide)
  suffices H : ∃ r, m_X5_judged fu M = some r ∧ m_X6_judged fu M = some (r, wr M 148 0 0) by
    obtain ⟨r, q1, q2⟩ := H
    exact ⟨r, _, q1, q2, h.t0⟩
  -- all told?
  have tc : m_X4_allWereTold fu 0 M = some (if allN (fun f => decide (V 161 f ≠ -1)) n = true then 1 else 0) := by
    obtain ⟨x, e, hp⟩ := lp_up (body := b_X4_allWereTold_2 fu 0 M) n (fun f s => allN (fun f => decide (V 161 f ≠ -1)) f = true ∧ s = nI f) (fun x => (allN (fun f => decide (V 161 f ≠ -1)) n = true ∧ x = .inr ()) ∨ (allN (fun f => decide (V 161 f ≠ -1)) n = false ∧ x = .inl ())) (by
      rintro f s hf ⟨q1, rfl⟩
      unfold b_X4_allWereTold_2
      rw [un1_is, (c_n hV).trans h2.1.1, if_neg (nI_ge hf (by omega)), chk_is (inb_nI (by omega) (by decide)), ix_nI (by omega), ix_8, c_was hV (by omega), bnd_e, nI_1]
      by_cases z : V 161 f = -1
      · right
        rw [if_pos z]
        exact ⟨_, rfl, Or.inr ⟨allN_f hf (by simp [z]), rfl⟩⟩
      · left
        rw [if_neg z]
        exact ⟨_, rfl, by rw [allN_s, q1]; simp [z], rfl⟩) (by
      rintro s ⟨q1, rfl⟩
      refine ⟨.inr (), ?_, Or.inl ⟨q1, rfl⟩⟩
      unfold b_X4_allWereTold_2
      rw [un1_is, (c_n hV).trans h2.1.1, if_pos (nI_le (Nat.le_refl _) (by omega))]) fu 0 0 (Nat.zero_le _) (by omega) ⟨rfl, rfl⟩
    unfold m_X4_allWereTold
    rw [e, some_bind]
    rcases hp with ⟨p, rfl⟩ | ⟨p, rfl⟩
    · rw [unS_inr, un0_is, if_pos p]
    · rw [unS_inl, un0_is, if_neg (by rw [p]; exact Bool.false_ne_true)]
  obtain ⟨x, em, hp⟩ := lp_up (body := b_X6_judged_7 fu (wr M 148 0 0)) n (fun f s => allN (fun f => decide (V 161 f ≠ -1)) f = true ∧ s = nI f) (fun x => (allN (fun f => decide (V 161 f ≠ -1)) n = true ∧ x = .inr ()) ∨ (allN (fun f => decide (V 161 f ≠ -1)) n = false ∧ x = .inl ())) (by
    rintro f s hf ⟨q1, rfl⟩
    unfold b_X6_judged_7
    rw [un1_is, (m_n hv1).trans h2.1.1, if_neg (nI_ge hf (by omega)), chk_is (inb_nI (by omega) (by decide)), ix_nI (by omega), m_at hv1 (k := 161) (by decide) (by decide) (by omega), bnd_e, nI_1]
    by_cases z : V 161 f = -1
    · right
      rw [if_pos z]
      exact ⟨_, rfl, Or.inr ⟨allN_f hf (by simp [z]), rfl⟩⟩
    · left
      rw [if_neg z]
      exact ⟨_, rfl, by rw [allN_s, q1]; simp [z], rfl⟩) (by
    rintro s ⟨q1, rfl⟩
    refine ⟨.inr (), ?_, Or.inl ⟨q1, rfl⟩⟩
    unfold b_X6_judged_7
    rw [un1_is, (m_n hv1).trans h2.1.1, if_pos (nI_le (Nat.le_refl _) (by omega))]) fu 0 0 (Nat.zero_le _) (by omega) ⟨rfl, rfl⟩
  unfold m_X5_judged m_X6_judged
  rw [tc, some_bind, bnd_e, bnd_e, em, some_bind]
  rcases hp with ⟨p, rfl⟩ | ⟨p, rfl⟩
  · rw [if_pos p, if_neg (by decide), unS_inr, un0_is, ix_9, c_set hV (by decide), m_at hv1 (k := 162) (by decide) (by decide) (by decide), hk, bnd_e]
    have sh : ∀ i, -nI k + nI i + 1 = -nI k + nI (i + 1) := fun i => by rw [← nI_1]; grind
    have lo : ∀ i, i < 2 * k + 1 → ¬ nI k < -nI k + nI i := fun i hi z => by
      have := I_lt.mp z
      have r := rng_in hk5 hi
      rw [nI_toInt (by omega)] at this
      omega
    have hi' : nI k < -nI k + nI (2 * k + 1) := by
      have e0 : nI (2 * k + 1) = nI k + nI (k + 1) := by rw [nI_add]; congr 1; omega
      have : -nI k + nI (2 * k + 1) = nI (k + 1) := by rw [e0]; grind
      rw [this]; exact nI_lt (by omega) (by omega)
    have ec := lp_fn (body := b_X5_judged_26 fu M) (2 * k + 1) (fun i => (fwT (fmS V n) (-nI k) i, -nI k + nI i)) (fwT (fmS V n) (-nI k) (2 * k + 1)) (fun i hi => by
      unfold b_X5_judged_26
      rw [un2_is, ix_9, c_set hV (by decide), hk, if_neg (lo i hi), cfirst_is (by omega) hV h2, some_bind, bnd_e, bnd_e, sh, fwT_s]
      unfold fw1
      split
      · rfl
      · split
        · rfl
        · split <;> rfl) (by
      unfold b_X5_judged_26
      rw [un2_is, ix_9, c_set hV (by decide), hk, if_pos hi']) fu (by omega)
    have em2 := lp_fn (body := b_X6_judged_44 fu (wr M 148 0 0)) (2 * k + 1) (fun i => (fwT (fun z => fmS V n (z + dlS V 0)) (-nI k) i, -nI k + nI i)) (fwT (fun z => fmS V n (z + dlS V 0)) (-nI k) (2 * k + 1)) (fun i hi => by
      unfold b_X6_judged_44
      rw [un2_is, ix_9, m_at hv1 (k := 162) (by decide) (by decide) (by decide), hk, if_neg (lo i hi), mfirst_is (by omega) hv1 h2, some_bind, bnd_e, bnd_e, sh, fwT_s]
      unfold fw1
      split
      · rfl
      · split
        · rfl
        · split <;> rfl) (by
      unfold b_X6_judged_44
      rw [un2_is, ix_9, m_at hv1 (k := 162) (by decide) (by decide) (by decide), hk, if_pos hi']) fu (by omega)
    have z0 : -nI k + nI 0 = -nI k := by show -nI k + 0 = -nI k; grind
    rw [show (fwT (fmS V n) (-nI k) 0, -nI k + nI 0) = ((-1 : Int32), -nI k) by rw [z0]; rfl] at ec
    rw [show (fwT (fun z => fmS V n (z + dlS V 0)) (-nI k) 0, -nI k + nI 0) = ((-1 : Int32), -nI k) by rw [z0]; rfl] at em2
    rw [ec, em2, some_bind, some_bind, un1_is, un1_is, judge_eq h2 hwI hb hk hk5]
    exact ⟨_, rfl, rfl⟩
  · rw [show (if allN (fun f => decide (V 161 f ≠ -1)) n = true then (1 : Int32) else 0) = 0 from if_neg (by rw [p]; exact Bool.false_ne_true), if_pos rfl, unS_inl, un0_is]
    exact ⟨_, rfl, rfl⟩
