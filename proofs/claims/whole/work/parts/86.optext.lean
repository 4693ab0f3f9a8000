/-! ===== text ===== -/
theorem LawC_of {len : Int32} {code : Nat → Int32} {ls : List Ln} (h1 : len = nI (encL ls).length) (h2 : (encL ls).length ≤ 400) (h3 : ∀ i, i < (encL ls).length → code i = (encL ls).getD i 0) : LawC len code ls := ⟨h1, h2, h3⟩
/-- rows taken over, from b on to a on -/
theorem cpl_is {fu k n : Nat} {M : Mem} (hfu : 1000 ≤ fu) (hk : k < 4) (hn : n ≤ 16) : ∃ M', lp (b_X6_text_95 fu (nI k) (nI n)) fu (0, M) = some M' ∧ (∀ c j, 166 ≤ c → c ≤ 168 → j < n → rd M' c (16 * k + j) = rd M c (64 + j)) ∧ (∀ c j, ¬ (166 ≤ c ∧ c ≤ 168 ∧ 16 * k ≤ j ∧ j < 16 * k + n) → rd M' c j = rd M c j) ∧ ∀ c j, rdl M' c j = rdl M c j := by
  refine lp_up n (fun i s => ∃ Z, s = (nI i, Z) ∧ (∀ c j, 166 ≤ c → c ≤ 168 → j < i → rd Z c (16 * k + j) = rd M c (64 + j)) ∧ (∀ c j, ¬ (166 ≤ c ∧ c ≤ 168 ∧ 16 * k ≤ j ∧ j < 16 * k + i) → rd Z c j = rd M c j) ∧ ∀ c j, rdl Z c j = rdl M c j) (fun M' => (∀ c j, 166 ≤ c → c ≤ 168 → j < n → rd M' c (16 * k + j) = rd M c (64 + j)) ∧ (∀ c j, ¬ (166 ≤ c ∧ c ≤ 168 ∧ 16 * k ≤ j ∧ j < 16 * k + n) → rd M' c j = rd M c j) ∧ ∀ c j, rdl M' c j = rdl M c j) ?_ ?_ fu 0 (0, M) (Nat.zero_le _) (by omega) ⟨M, rfl, fun c j _ _ h => absurd h (Nat.not_lt_zero _), fun _ _ _ => rfl, fun _ _ => rfl⟩
  · rintro i s hi ⟨Z, rfl, q1, q2, q3⟩
    left
    have e1 : (64 : Int32) + nI i = nI (64 + i) := by rw [show (64 : Int32) = nI 64 from rfl, nI_add]
    have e2 : (16 : Int32) * nI k + nI i = nI (16 * k + i) := by rw [show (16 : Int32) = nI 16 from rfl, pk_mul, nI_add]
    have s6 : ∀ c, 166 ≤ c → c ≤ 168 → rd Z c (64 + i) = rd M c (64 + i) := fun c _ _ => q2 c _ (by omega)
    refine ⟨(nI (i + 1), wr (wr (wr Z 166 (16 * k + i) (rd M 166 (64 + i))) 167 (16 * k + i) (rd M 167 (64 + i))) 168 (16 * k + i) (rd M 168 (64 + i))), ?_, _, rfl, fun c j c1 c2 hj => ?_, fun c j hj => ?_, q3⟩
    · unfold b_X6_text_95
      rw [un2_is, if_neg (nI_ge hi (by omega)), e1, e2, chk_is (inb_nI (by omega) (by decide)), chk_is (inb_nI (by omega) (by decide)), ix_nI (by omega), ix_nI (by omega), bnd_e, bnd_e, bnd_e, bnd_e, nI_1, s6 166 (by decide) (by decide), wr_sp (by omega), s6 167 (by decide) (by decide), wr_sp (by omega), wr_sp (by omega), s6 168 (by decide) (by decide)]
    · by_cases z : j = i
      · rw [z]
        rcases (by omega : c = 166 ∨ c = 167 ∨ c = 168) with e | e | e
        · rw [e, wr_sp (by omega), wr_sp (by omega), rd_we, if_pos ⟨rfl, rfl⟩]
        · rw [e, wr_sp (by omega), rd_we, if_pos ⟨rfl, rfl⟩]
        · rw [e, rd_we, if_pos ⟨rfl, rfl⟩]
      · rw [wr_sp (by omega), wr_sp (by omega), wr_sp (by omega)]; exact q1 c j c1 c2 (by omega)
    · rw [wr_sp (by omega), wr_sp (by omega), wr_sp (by omega)]; exact q2 c j (by omega)
  · rintro s ⟨Z, rfl, q⟩
    refine ⟨Z, ?_, q⟩
    unfold b_X6_text_95
    rw [un2_is, if_pos (nI_le (Nat.le_refl _) (by omega))]
theorem cpo_is {fu k n : Nat} {s3 : Int32} {M : Mem} (hfu : 1000 ≤ fu) (hk : k < 4) (hn : n ≤ 400) (h32 : rd M 148 32 = nI n) : ∃ M', lp (b_X6_text_176 fu (nI k) s3) fu (0, M) = some M' ∧ (∀ c j, 169 ≤ c → c ≤ 170 → j < n → rd M' c (400 * k + j) = rd M c (1600 + j)) ∧ (∀ c j, ¬ (169 ≤ c ∧ c ≤ 170 ∧ 400 * k ≤ j ∧ j < 400 * k + n) → rd M' c j = rd M c j) ∧ ∀ c j, rdl M' c j = rdl M c j := by
  refine lp_up n (fun i s => ∃ Z, s = (nI i, Z) ∧ (∀ c j, 169 ≤ c → c ≤ 170 → j < i → rd Z c (400 * k + j) = rd M c (1600 + j)) ∧ (∀ c j, ¬ (169 ≤ c ∧ c ≤ 170 ∧ 400 * k ≤ j ∧ j < 400 * k + i) → rd Z c j = rd M c j) ∧ ∀ c j, rdl Z c j = rdl M c j) (fun M' => (∀ c j, 169 ≤ c → c ≤ 170 → j < n → rd M' c (400 * k + j) = rd M c (1600 + j)) ∧ (∀ c j, ¬ (169 ≤ c ∧ c ≤ 170 ∧ 400 * k ≤ j ∧ j < 400 * k + n) → rd M' c j = rd M c j) ∧ ∀ c j, rdl M' c j = rdl M c j) ?_ ?_ fu 0 (0, M) (Nat.zero_le _) (by omega) ⟨M, rfl, fun c j _ _ h => absurd h (Nat.not_lt_zero _), fun _ _ _ => rfl, fun _ _ => rfl⟩
  · rintro i s hi ⟨Z, rfl, q1, q2, q3⟩
    left
    have e1 : (1600 : Int32) + nI i = nI (1600 + i) := by rw [show (1600 : Int32) = nI 1600 from rfl, nI_add]
    have e2 : (400 : Int32) * nI k + nI i = nI (400 * k + i) := by rw [show (400 : Int32) = nI 400 from rfl, pk_mul, nI_add]
    have s6 : ∀ c, 169 ≤ c → c ≤ 170 → rd Z c (1600 + i) = rd M c (1600 + i) := fun c _ _ => q2 c _ (by omega)
    refine ⟨(nI (i + 1), wr (wr Z 169 (400 * k + i) (rd M 169 (1600 + i))) 170 (400 * k + i) (rd M 170 (1600 + i))), ?_, _, rfl, fun c j c1 c2 hj => ?_, fun c j hj => ?_, q3⟩
    · unfold b_X6_text_176
      rw [un2_is, q2 148 32 (by omega), h32, if_neg (nI_ge hi (by omega)), e1, e2, chk_is (inb_nI (by omega) (by decide)), chk_is (inb_nI (by omega) (by decide)), ix_nI (by omega), ix_nI (by omega), bnd_e, bnd_e, bnd_e, nI_1, s6 169 (by decide) (by decide), wr_sp (by omega), s6 170 (by decide) (by decide)]
    · by_cases z : j = i
      · rw [z]
        rcases (by omega : c = 169 ∨ c = 170) with e | e
        · rw [e, wr_sp (by omega), rd_we, if_pos ⟨rfl, rfl⟩]
        · rw [e, rd_we, if_pos ⟨rfl, rfl⟩]
      · rw [wr_sp (by omega), wr_sp (by omega)]; exact q1 c j c1 c2 (by omega)
    · rw [wr_sp (by omega), wr_sp (by omega)]; exact q2 c j (by omega)
  · rintro s ⟨Z, rfl, q⟩
    refine ⟨Z, ?_, q⟩
    unfold b_X6_text_176
    rw [un2_is, q.2.1 148 32 (by omega), h32, if_pos (nI_le (Nat.le_refl _) (by omega))]
theorem pre_le {dn : List Ln} {l : Nat} (h : l < dn.length) : pre dn l + (dn.getD l (0, [])).2.length ≤ (flt dn).length := by
  have : (flt (dn.take (l + 1))).length = pre dn l + (dn.getD l (0, [])).2.length := by
    unfold pre flt
    rw [List.take_succ_eq_append_getElem h, List.flatMap_append, List.length_append]
    simp [List.getD_eq_getElem?_getD, h]
  have e : flt dn = flt (dn.take (l + 1)) ++ flt (dn.drop (l + 1)) := by
    unfold flt; rw [← List.flatMap_append, List.take_append_drop]
  rw [e, List.length_append]; omega
theorem pre_at {dn : List Ln} {l i : Nat} (h : l < dn.length) (hi : i < (dn.getD l (0, [])).2.length) : (flt dn).getD (pre dn l + i) (0, 0) = (dn.getD l (0, [])).2.getD i (0, 0) := by
  have e : flt dn = flt (dn.take l) ++ ((dn.getD l (0, [])).2 ++ flt (dn.drop (l + 1))) := by
    have : dn = dn.take l ++ (dn.getD l (0, []) :: dn.drop (l + 1)) := by
      have g : dn.getD l (0, []) = dn[l] := by simp [List.getD_eq_getElem?_getD, h]
      rw [g, ← List.drop_eq_getElem_cons h, List.take_append_drop]
    conv => lhs; rw [this]
    unfold flt
    rw [List.flatMap_append, List.flatMap_cons]
  rw [e, show pre dn l + i = (flt (dn.take l)).length + i from rfl, getD_app2, getD_app1 hi]
