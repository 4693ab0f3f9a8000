/-! ===== calls that set or tell: state, ring, farm, border, set, worth, feed, end, fault, stake, was, look ===== -/
theorem Inv.upd {c c' : Nat} {M M' : Mem} (h : Inv c M) (hcc : c ≤ c') (hE : vM M = vC 0 M → vM M' = vC 0 M') (hV : ∀ n, Vok (vC 0 M) n (wI c) 9999 → ∃ n', Vok (vC 0 M') n' (wI c') 9999) (hP : PB 0 M (vC 0 M) → PB 0 M' (vC 0 M')) (h73 : EqL (fun k => k = 73) M M') (hL : Eqs keepL M M') (hX : Eqs keepX M M') (hG : Eqs keepG M M') : Inv c' M' := by
  obtain ⟨n, L, h1, h2, h3, h4, h5, h6, h7, h8⟩ := h.mono hcc
  obtain ⟨n0, L0, _, k2, _⟩ := h
  obtain ⟨n', hn'⟩ := hV n0 k2
  exact ⟨n', L, hE h1, hn', hP h3, LawsC_eq (fun k j q1 q2 => hL _ _ (Or.inl ⟨by omega, by omega⟩)) h4, LawsM_eq (fun k j q1 q2 => hL _ _ (Or.inr ⟨q1, q2⟩)) h5, h6, Misc_eq hX h7, Img_eq hG h73 h8⟩
theorem PB_up {R : Nat} {M M' : Mem} (hl : ∀ j, rdl M' (R + 36) j = rdl M (R + 36) j) (hn : vC R M' 148 3 = vC R M 148 3) (h : PB R M (vC R M)) : PB R M' (vC R M') := fun f hf => by rw [hl, hn]; exact h f hf
/-- the model's first row: told -/
theorem Fr_t0 {M : Mem} : Fr (fun k j => k = 148 ∧ j = 0) (fun _ _ => False) M (wr M 148 0 0) := Fr.wr ⟨rfl, rfl⟩
theorem vM_t0 (M : Mem) : vM (wr M 148 0 0) = vM M := vM_out (by omega)
theorem rd_t0 {M : Mem} {k j : Nat} (h : k = 148 → j ≠ 0) : rd (wr M 148 0 0) k j = rd M k j := by rw [rd_wr, if_neg (fun q => h q.1 q.2)]
theorem op_state {c : Nat} {M : Mem} (h : Inv c M) (a : Int32) : ∃ r M1 M2, m_X5_state M a = some (r, M1) ∧ m_X6_state M1 a = some (r, M2) ∧ Inv (c + 1) M2 := by
  obtain ⟨n, L, h1, h2, -⟩ := id h
  have e : vM M 148 1 = vC 0 M 148 1 := by rw [h1]
  have f1 : m_X5_state M a = some (rd M 0 1, wr M 0 1 a) := rfl
  have f2 : m_X6_state (wr M 0 1 a) a = some (rd M 0 1, wr (wr (wr M 0 1 a) 148 0 0) 148 1 a) := by
    unfold m_X6_state
    simp only [bnd_is, rd_wr]
    have : rd M 148 1 = rd M 0 1 := e
    simp [this]
  refine ⟨_, _, _, f1, f2, ?_⟩
  have hC : vC 0 (wr (wr (wr M 0 1 a) 148 0 0) 148 1 a) = vs (vC 0 M) 148 1 a := by
    rw [w_out (R := 0) (k := 148) (j := 1) (by omega), w_out (R := 0) (k := 148) (j := 0) (by omega), w_dr]
  have hM : vM (wr (wr (wr M 0 1 a) 148 0 0) 148 1 a) = vs (vM M) 148 1 a := by
    rw [vM_wr (by omega), vM_out (by omega), vM_out (by omega)]
  refine h.upd (Nat.le_succ c) (fun q => by rw [hC, hM, q]) (fun n q => ⟨n, ?_⟩) (PB_up (fun _ => rfl) (by rw [hC]; rfl)) (fun _ _ _ => rfl) ?_ ?_ ?_
  · rw [hC]
    obtain ⟨a1, b, d, e⟩ := q
    exact ⟨a1, b, Int.le_trans (Int.le_of_eq (tot_same fun f _ => rfl)) (Int.le_trans d (by unfold wI; omega)), e⟩
  all_goals (intro k j q; simp only [rd_wr, keepL, keepX, keepG] at *; grind)
/-! sums over the farms -/
def smI (f : Nat → Int32) : Nat → Int32
  | 0 => 0
  | n + 1 => smI f n + f n
theorem smI_cong {f h : Nat → Int32} : ∀ {n : Nat}, (∀ i, i < n → f i = h i) → smI f n = smI h n
  | 0, _ => rfl
  | n + 1, e => by unfold smI; rw [smI_cong (fun i hi => e i (by omega)), e n (by omega)]
theorem cadded_is {fu R n p : Nat} {M : Mem} (hf : 20 ≤ fu) (hn : rd M R 0 = nI n) (h10 : n ≤ 10) (hp : p < 9) : m_X4_added fu R M (nI p) = some (smI (fun f => rd M (R + 8 + f) p) n) := by
  have := lp_fn (body := b_X4_added_4 fu R M (nI p)) n (fun i => (smI (fun f => rd M (R + 8 + f) p) i, nI i)) (smI (fun f => rd M (R + 8 + f) p) n) (fun i hi => by
    simp only [b_X4_added_4, un2_is, hn, if_neg (nI_ge hi (by omega : n < 2 ^ 31)), inb_nI (show i < 10 by omega) (by decide), inb_nI hp (by decide), chk_t, bnd_is, ix_nI (show i < 2 ^ 31 by omega), ix_nI (show p < 2 ^ 31 by omega), nI_1]
    rfl) (by simp only [b_X4_added_4, un2_is, hn]; rw [if_pos (nI_le (Nat.le_refl _) (by omega))]) fu (by omega)
  unfold m_X4_added
  rw [show ((0 : Int32), (0 : Int32)) = (smI (fun f => rd M (R + 8 + f) p) 0, nI 0) from rfl, this]
  rfl
theorem ceaten_is {fu R n : Nat} {M : Mem} (hf : 20 ≤ fu) (hn : rd M R 0 = nI n) (h10 : n ≤ 10) : m_X4_countEaten fu R M = some (smI (fun f => if rd M (R + 8 + f) 7 = -1 then 0 else 1) n) := by
  have := lp_fn (body := b_X4_countEaten_4 fu R M) n (fun i => (smI (fun f => if rd M (R + 8 + f) 7 = -1 then 0 else 1) i, nI i)) (smI (fun f => if rd M (R + 8 + f) 7 = -1 then 0 else 1) n) (fun i hi => by
    simp only [b_X4_countEaten_4, un2_is, hn, if_neg (nI_ge hi (by omega : n < 2 ^ 31)), inb_nI (show i < 10 by omega) (by decide), chk_t, bnd_is, ix_nI (show i < 2 ^ 31 by omega), ix_7, nI_1]
    by_cases q : rd M (R + 8 + i) 7 = -1
    · rw [if_pos q]; simp [smI, q]
    · rw [if_neg q]; simp [smI, q]) (by simp only [b_X4_countEaten_4, un2_is, hn]; rw [if_pos (nI_le (Nat.le_refl _) (by omega))]) fu (by omega)
  unfold m_X4_countEaten
  rw [show ((0 : Int32), (0 : Int32)) = (smI (fun f => if rd M (R + 8 + f) 7 = -1 then 0 else 1) 0, nI 0) from rfl, this]
  rfl
theorem meaten_is {fu n : Nat} {M : Mem} (hf : 20 ≤ fu) (hn : rd M 148 2 = nI n) (h10 : n ≤ 10) : m_X6_eatenAll fu M = some (smI (fun f => if rd M 156 f = -1 then 0 else 1) n) := by
  have := lp_fn (body := b_X6_eatenAll_4 fu M) n (fun i => (smI (fun f => if rd M 156 f = -1 then 0 else 1) i, nI i)) (smI (fun f => if rd M 156 f = -1 then 0 else 1) n) (fun i hi => by
    simp only [b_X6_eatenAll_4, un2_is, hn, if_neg (nI_ge hi (by omega : n < 2 ^ 31)), inb_nI (show i < 10 by omega) (by decide), chk_t, bnd_is, ix_nI (show i < 2 ^ 31 by omega), nI_1]
    by_cases q : rd M 156 i = -1
    · rw [if_pos q]; simp [smI, q]
    · rw [if_neg q]; simp [smI, q]) (by simp only [b_X6_eatenAll_4, un2_is, hn]; rw [if_pos (nI_le (Nat.le_refl _) (by omega))]) fu (by omega)
  unfold m_X6_eatenAll
  rw [show ((0 : Int32), (0 : Int32)) = (smI (fun f => if rd M 156 f = -1 then 0 else 1) 0, nI 0) from rfl, this]
  rfl
theorem mlook_is {fu n : Nat} {M : Mem} (hf : 20 ≤ fu) (hn : rd M 148 2 = nI n) (h10 : n ≤ 10) : lp (b_X6_look_77 fu M) fu (0, 0) = some (smI (fun f => rd M 149 f) n) :=
  lp_fn (body := b_X6_look_77 fu M) n (fun i => (smI (fun f => rd M 149 f) i, nI i)) (smI (fun f => rd M 149 f) n) (fun i hi => by
    simp only [b_X6_look_77, un2_is, hn, if_neg (nI_ge hi (by omega : n < 2 ^ 31)), inb_nI (show i < 10 by omega) (by decide), chk_t, bnd_is, ix_nI (show i < 2 ^ 31 by omega), nI_1]
    rfl) (by simp only [b_X6_look_77, un2_is, hn]; rw [if_pos (nI_le (Nat.le_refl _) (by omega))]) fu (by omega)
theorem mcaught_is {fu n : Nat} {M : Mem} (hf : 20 ≤ fu) (hn : rd M 148 2 = nI n) (h10 : n ≤ 10) : m_X6_caughtAll fu M = some (smI (fun f => rd M 155 f) n) := by
  have := lp_fn (body := b_X6_caughtAll_4 fu M) n (fun i => (smI (fun f => rd M 155 f) i, nI i)) (smI (fun f => rd M 155 f) n) (fun i hi => by
    simp only [b_X6_caughtAll_4, un2_is, hn, if_neg (nI_ge hi (by omega : n < 2 ^ 31)), inb_nI (show i < 10 by omega) (by decide), chk_t, bnd_is, ix_nI (show i < 2 ^ 31 by omega), nI_1]
    rfl) (by simp only [b_X6_caughtAll_4, un2_is, hn]; rw [if_pos (nI_le (Nat.le_refl _) (by omega))]) fu (by omega)
  unfold m_X6_caughtAll
  rw [show ((0 : Int32), (0 : Int32)) = (smI (fun f => rd M 155 f) 0, nI 0) from rfl, this]
  rfl
theorem mpurses_is {fu n : Nat} {M : Mem} (hf : 20 ≤ fu) (hn : rd M 148 2 = nI n) (h10 : n ≤ 10) : m_X6_purses fu M = some (smI (fun f => rd M 153 f) n) := by
  have := lp_fn (body := b_X6_purses_4 fu M) n (fun i => (smI (fun f => rd M 153 f) i, nI i)) (smI (fun f => rd M 153 f) n) (fun i hi => by
    simp only [b_X6_purses_4, un2_is, hn, if_neg (nI_ge hi (by omega : n < 2 ^ 31)), inb_nI (show i < 10 by omega) (by decide), chk_t, bnd_is, ix_nI (show i < 2 ^ 31 by omega), nI_1]
    rfl) (by simp only [b_X6_purses_4, un2_is, hn]; rw [if_pos (nI_le (Nat.le_refl _) (by omega))]) fu (by omega)
  unfold m_X6_purses
  rw [show ((0 : Int32), (0 : Int32)) = (smI (fun f => rd M 153 f) 0, nI 0) from rfl, this]
  rfl
/-- the class only tells, the model writes its first row alone -/
theorem Inv.t0 {c : Nat} {M : Mem} (h : Inv c M) : Inv (c + 1) (wr M 148 0 0) :=
  (h.fr2 Fr.rf Fr_t0 (w1 := fun _ _ => False) (v1 := fun _ _ => False) (fun _ _ q => q.elim) (fun _ _ q => q.elim) (fun k j q => by obtain ⟨rfl, rfl⟩ := q; unfold keepI keepL keepX keepG keepV keepW; omega) (fun _ _ q => q.elim)).mono (Nat.le_succ c)
theorem op_look {fu c : Nat} {M : Mem} (hf : 20 ≤ fu) (h : Inv c M) (a : Int32) : ∃ r M2, m_X5_look fu M a = some r ∧ m_X6_look fu M a = some (r, M2) ∧ Inv (c + 1) M2 := by
  obtain ⟨n, L, h1, h2, -⟩ := id h
  have hV : vC 0 M = vM M := h1.symm
  have hn : vM M 148 2 = nI n := by rw [h1]; exact h2.1.1
  have h10 : n ≤ 10 := h2.1.2.2
  have hc0 : rd M 0 0 = nI n := (c_n hV).trans hn
  have hm0 : rd (wr M 148 0 0) 148 2 = nI n := by rw [rd_t0 (by omega)]; exact hn
  have e1 : m_X4_allWidths fu 0 M = some (smI (fun f => rd M 149 f) n) := by
    unfold m_X4_allWidths
    rw [show (0 : Int32) = nI 0 from rfl, cadded_is hf hc0 h10 (by omega)]
    show some _ = some _
    congr 1
    exact smI_cong (fun i hi => (c_wide hV (by omega)).trans (m_at rfl (by decide) (by decide) (by omega)).symm)
  have e2 : m_X4_countEaten fu 0 M = some (smI (fun f => if rd M 156 f = -1 then 0 else 1) n) := by
    rw [ceaten_is hf hc0 h10]
    congr 1
    exact smI_cong (fun i hi => by rw [(c_eat hV (by omega : i < 10)).trans (m_at rfl (by decide) (by decide) (by omega)).symm])
  have e3 : m_X6_eatenAll fu (wr M 148 0 0) = some (smI (fun f => if rd M 156 f = -1 then 0 else 1) n) := by
    rw [meaten_is hf hm0 h10]
    congr 1
  have e4 : lp (b_X6_look_77 fu (wr M 148 0 0)) fu (0, 0) = some (smI (fun f => rd M 149 f) n) := by
    rw [mlook_is hf hm0 h10]
    congr 1
  have k0 : rd M 0 0 = rd M 148 2 := (c_n hV).trans (m_n rfl).symm
  have k1 : rd M 0 2 = rd M 148 3 := (c_ni hV).trans (m_ni rfl).symm
  have k2 : rd M 0 3 = rd M 148 4 := (c_mo hV).trans (m_mo rfl).symm
  have k3 : ∀ j, j < 10 → rd M (0 + 1) j = rd M 162 j := fun j hj => (c_set hV hj).trans (m_at rfl (by decide) (by decide) hj).symm
  have t2 : rd (wr M 148 0 0) 148 2 = rd M 148 2 := rd_t0 (by omega)
  have t3 : rd (wr M 148 0 0) 148 3 = rd M 148 3 := rd_t0 (by omega)
  have t4 : rd (wr M 148 0 0) 148 4 = rd M 148 4 := rd_t0 (by omega)
  have t5 : ∀ j, rd (wr M 148 0 0) 162 j = rd M 162 j := fun j => rd_t0 (by omega)
  suffices H : ∃ r, m_X5_look fu M a = some r ∧ m_X6_look fu M a = some (r, wr M 148 0 0) by
    obtain ⟨r, q1, q2⟩ := H
    exact ⟨r, _, q1, q2, h.t0⟩
  by_cases h19 : ¬ a < 10 ∧ ¬ 19 < a
  · obtain ⟨j, hj, rfl⟩ : ∃ j, j < 10 ∧ a = nI (10 + j) := by
      obtain ⟨f, q1, q2⟩ := arg_nI (a := a) (n := 20) (by grind) (by have : nI 20 = 20 := rfl; grind) (by decide)
      have : ¬ f < 10 := fun z => h19.1 (by rw [q2]; exact nI_lt (a := f) (b := 10) z (by decide))
      exact ⟨f - 10, by omega, by rw [q2]; congr 1; omega⟩
    refine ⟨rd M 162 j, ?_, ?_⟩
    · have hs : nI (10 + j) - 10 = nI j := by rw [show (10 : Int32) = nI 10 from rfl, pk_sub (by omega)]; congr 1; omega
      rcases (by omega : j = 0 ∨ j = 1 ∨ j = 2 ∨ j = 3 ∨ j = 4 ∨ j = 5 ∨ j = 6 ∨ j = 7 ∨ j = 8 ∨ j = 9) with rfl | rfl | rfl | rfl | rfl | rfl | rfl | rfl | rfl | rfl <;> (rw [← k3 _ (by decide)]; rfl)
    · have hs : nI (10 + j) - 10 = nI j := by rw [show (10 : Int32) = nI 10 from rfl, pk_sub (by omega)]; congr 1; omega
      rcases (by omega : j = 0 ∨ j = 1 ∨ j = 2 ∨ j = 3 ∨ j = 4 ∨ j = 5 ∨ j = 6 ∨ j = 7 ∨ j = 8 ∨ j = 9) with rfl | rfl | rfl | rfl | rfl | rfl | rfl | rfl | rfl | rfl <;> rfl
  · have hA : m_X5_look fu M a = j_X5_look_25 fu M a := by
      unfold m_X5_look
      by_cases q : a < 10
      · rw [if_pos q]
      · rw [if_neg q, if_pos (by grind)]
    rw [hA]
    unfold j_X5_look_25 m_X6_look
    simp only [bnd_is, isIn_is, some_bind, tf_0, e1, e2, e3, e4, un1_is, k0, k1, k2, t2, t3, t4]
    rw [if_pos h19]
    by_cases a0 : a = 0
    · subst a0; exact ⟨_, rfl, rfl⟩
    by_cases a1 : a = 1
    · subst a1; exact ⟨_, rfl, rfl⟩
    by_cases a2 : a = 2
    · subst a2; exact ⟨_, rfl, rfl⟩
    by_cases a3 : a = 3
    · subst a3; exact ⟨_, rfl, rfl⟩
    by_cases a4 : a = 4
    · subst a4; exact ⟨_, rfl, rfl⟩
    refine ⟨-1, ?_, ?_⟩ <;> simp [a0, a1, a2, a3, a4]
/-! end, fault, worth, stake -/
theorem op_fault {c : Nat} {M : Mem} (h : Inv c M) (a : Int32) : ∃ r M2, m_X5_fault M a = some r ∧ m_X6_fault M a = some (r, M2) ∧ Inv (c + 1) M2 := by
  obtain ⟨n, L, -, -, -, -, -, -, ⟨-, f1, f2, -⟩, -⟩ := id h
  suffices H : ∃ r, m_X5_fault M a = some r ∧ m_X6_fault M a = some (r, wr M 148 0 0) by
    obtain ⟨r, q1, q2⟩ := H
    exact ⟨r, _, q1, q2, h.t0⟩
  unfold m_X5_fault m_X6_fault
  simp only [bnd_is, rd_t0 (M := M) (k := 148) (j := 38) (by omega), rd_t0 (M := M) (k := 148) (j := 39) (by omega), f1, f2]
  by_cases a0 : a = 0
  · subst a0; exact ⟨_, rfl, rfl⟩
  by_cases a1 : a = 1
  · subst a1; exact ⟨_, rfl, rfl⟩
  exact ⟨-1, by simp [a0, a1], by simp [a0, a1]⟩
theorem op_worth {c : Nat} {M : Mem} (h : Inv c M) (a : Int32) : ∃ r M2, m_X5_worth M a = some r ∧ m_X6_worth M a = some (r, M2) ∧ Inv (c + 1) M2 := by
  obtain ⟨n, L, h1, h2, -⟩ := id h
  suffices H : ∃ r, m_X5_worth M a = some r ∧ m_X6_worth M a = some (r, wr M 148 0 0) by
    obtain ⟨r, q1, q2⟩ := H
    exact ⟨r, _, q1, q2, h.t0⟩
  unfold m_X5_worth m_X6_worth j_X5_worth_11
  simp only [bnd_is, isIn_is, some_bind, tf_0, cworth_is rfl]
  by_cases q : ¬ a < 0 ∧ ¬ 600 < a
  · refine ⟨worthS (vC 0 M) a, ?_, ?_⟩
    · rw [if_neg q.1, if_pos (by grind)]
    · rw [if_neg (fun z => z q), mworth_is (V := vC 0 M) (by rw [vM_t0, h1]) (by grind)]; rfl
  · refine ⟨-1, ?_, ?_⟩
    · by_cases q1 : a < 0
      · rw [if_pos q1]
      · rw [if_neg q1, if_neg (by grind)]
    · rw [if_pos q]
theorem op_stake {c : Nat} {M : Mem} (h : Inv c M) (a b : Int32) : ∃ r M2, m_X5_stake M a b = some r ∧ m_X6_stake M a b = some (r, M2) ∧ Inv (c + 1) M2 := by
  obtain ⟨n, L, h1, h2, -⟩ := id h
  have hV : vC 0 M = vM M := h1.symm
  have hn : vM M 148 2 = nI n := by rw [h1]; exact h2.1.1
  have h10 : n ≤ 10 := h2.1.2.2
  have hc0 : rd M 0 0 = nI n := (c_n hV).trans hn
  have hm0 : rd (wr M 148 0 0) 148 2 = nI n := by rw [rd_t0 (by omega)]; exact hn
  suffices H : ∃ r, m_X5_stake M a b = some r ∧ m_X6_stake M a b = some (r, wr M 148 0 0) by
    obtain ⟨r, q1, q2⟩ := H
    exact ⟨r, _, q1, q2, h.t0⟩
  unfold m_X5_stake m_X6_stake
  simp only [bnd_is, has_is, isFarm_is, some_bind, tf_0, hc0, hm0]
  by_cases q : ¬ a < 0 ∧ ¬ nI n ≤ a
  · obtain ⟨f, hf, rfl⟩ := arg_nI q.1 q.2 (by omega)
    simp only [if_neg (fun z : ¬ (¬ nI f < 0 ∧ ¬ nI n ≤ nI f) => z q), inb_nI (show f < 10 by omega) (by decide), chk_t, ix_nI (show f < 2 ^ 31 by omega)]
    have w0 := c_wall hV (show f < 10 by omega)
    have w1 := c_heavy hV (show f < 10 by omega)
    have w2 := c_push hV (show f < 10 by omega)
    have w3 := c_by hV (show f < 10 by omega)
    have tt : ∀ k, 149 ≤ k → k ≤ 162 → rd (wr M 148 0 0) k f = vM M k f := fun k g1 g2 => by rw [rd_t0 (by omega), m_at rfl g1 g2 (by omega)]
    simp only [tt 157 (by decide) (by decide), tt 158 (by decide) (by decide), tt 159 (by decide) (by decide), tt 160 (by decide) (by decide)]
    by_cases b0 : b = 0
    · subst b0; exact ⟨_, by simp only [show inb 0 4 = true from rfl, chk_t, ix_0, w0]; rfl, rfl⟩
    by_cases b1 : b = 1
    · subst b1; exact ⟨_, by simp only [show inb 1 4 = true from rfl, chk_t, ix_1, w1]; rfl, rfl⟩
    by_cases b2 : b = 2
    · subst b2; exact ⟨_, by simp only [show inb 2 4 = true from rfl, chk_t, ix_2, w2]; rfl, rfl⟩
    by_cases b3 : b = 3
    · subst b3; exact ⟨_, by simp only [show inb 3 4 = true from rfl, chk_t, ix_3, w3]; rfl, rfl⟩
    refine ⟨-2, ?_, by simp [b0, b1, b2, b3]⟩
    by_cases q1 : b < 0
    · rw [if_pos q1]
    · rw [if_neg q1, if_neg (by grind)]
  · exact ⟨-2, by rw [if_pos q], by rw [if_pos q]⟩
theorem op_end {c : Nat} {M : Mem} (h : Inv c M) (a : Int32) : ∃ r M1 M2, m_X5_end M a = some (r, M1) ∧ m_X6_end M1 a = some (r, M2) ∧ Inv (c + 1) M2 := by
  obtain ⟨n, L, h1, h2, h3, h4, h5, h6, ⟨⟨t, t1, t2, t3, t4⟩, f1, f2, wd⟩, h8⟩ := id h
  by_cases q : ¬ a < 0 ∧ ¬ nI t < a
  · obtain ⟨k, hk, rfl⟩ : ∃ k, k ≤ t ∧ a = nI k := by
      have q2 : ¬ nI (t + 1) ≤ a := by rw [← nI_1]; have : nI t ≤ 400 := nI_le (b := 400) t1 (by decide); grind
      obtain ⟨f, g1, g2⟩ := arg_nI q.1 q2 (by omega)
      exact ⟨f, by omega, g2⟩
    refine ⟨1, wr M 146 7 (nI k), wr (wr (wr M 146 7 (nI k)) 148 0 0) 148 20 (nI k), ?_, ?_, ?_⟩
    · unfold m_X5_end
      rw [if_neg q.1, t2, if_pos (nI_le hk (by omega))]; rfl
    · unfold m_X6_end
      simp only [bnd_is, isIn_is, some_bind, tf_0]
      rw [rd_t0 (by omega), show rd (wr M 146 7 (nI k)) 148 20 = nI t from t3, if_neg (fun z => z q)]
    · have f : Fr (fun k j => k = 146 ∧ j = 7 ∨ k = 148 ∧ j = 0 ∨ k = 148 ∧ j = 20) (fun _ _ => False) M (wr (wr (wr M 146 7 (nI k)) 148 0 0) 148 20 (nI k)) := ((Fr.wr (Or.inl ⟨rfl, rfl⟩)).tr (Fr.wr (Or.inr (Or.inl ⟨rfl, rfl⟩)))).tr (Fr.wr (Or.inr (Or.inr ⟨rfl, rfl⟩)))
      generalize hM : wr (wr (wr M 146 7 (nI k)) 148 0 0) 148 20 (nI k) = M' at f
      have eC : vC 0 M' = vC 0 M := vC_fr f (fun k j => by omega) (fun _ _ z => z.elim)
      have eM : vM M' = vM M := vM_fr f (fun k j => by omega)
      have e7 : rd M' 146 7 = nI k := by rw [← hM]; simp [rd_wr]
      have e20 : rd M' 148 20 = nI k := by rw [← hM]; simp [rd_wr]
      refine Inv.mono (c := c) ⟨n, L, by rw [eC, eM]; exact h1, by rw [eC]; exact h2, by rw [eC]; exact PB_eq (fun j => f.2 _ _ id) h3, LawsC_eq (fun k j g1 g2 => f.1 _ _ (by omega)) h4, LawsM_eq (fun k j g1 g2 => f.1 _ _ (by omega)) h5, h6, ⟨⟨k, by omega, e7, e20, fun i hi => by rw [f.1 147 i (by omega), f.1 163 i (by omega)]; exact t4 i (by omega)⟩, ?_, ?_, fun i hi => by rw [f.1 164 i (by omega)]; exact wd i hi⟩, Img_eq (f.eqs (fun k j z => by unfold keepG; omega)) (f.eql (fun _ _ z => z.elim)) h8⟩ (Nat.le_succ c)
      · rw [f.1 146 8 (by omega), f.1 148 38 (by omega)]; exact f1
      · rw [f.1 146 9 (by omega), f.1 148 39 (by omega)]; exact f2
  · refine ⟨0, M, wr M 148 0 0, ?_, ?_, h.t0⟩
    · unfold m_X5_end
      by_cases q1 : a < 0
      · rw [if_pos q1]
      · rw [if_neg q1, t2, if_neg (fun z => q ⟨q1, by grind⟩)]
    · unfold m_X6_end
      simp only [bnd_is, isIn_is, some_bind, tf_0]
      rw [rd_t0 (by omega), t3, if_pos q]
