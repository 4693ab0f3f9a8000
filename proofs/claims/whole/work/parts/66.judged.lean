/-! ===== judged ===== -/
def abI (x : Int32) : Int32 := if 0 ≤ x then x else -x
def dlS (V : Vw) (f : Nat) : Int32 := V 149 f - V 161 f
/-- how far border b moved, if the first one moved y -/
def wyS (V : Vw) (y : Int32) : Nat → Int32
  | 0 => y
  | b + 1 => wyS V y b + dlS V (b + 1)
theorem wyS_s (V : Vw) (y : Int32) (b : Nat) : wyS V y (b + 1) = wyS V y b + dlS V (b + 1) := rfl
noncomputable def okM (V : Vw) (y : Int32) (b : Nat) : Bool := decide (abI (wyS V y b) ≤ if V 157 b = 1 then 0 else V 162 9)
noncomputable def fmS (V : Vw) (n : Nat) (y : Int32) : Int32 := if allN (okM V y) n = true ∧ y - wyS V y (n - 1) = dlS V 0 then smI (fun b => abI (wyS V y b)) n else -1
def WB (M : Mem) : Prop := (∀ f, f < 10 → -1 ≤ rd M 161 f ∧ rd M 161 f ≤ 60) ∧ (rd M 148 51 = 1 → ∀ f, f < 10 → -1 ≤ rd M 181 (4 + 14 * f + 13) ∧ rd M 181 (4 + 14 * f + 13) ≤ 60)
section JUDGE
variable {fu R n : Nat} {M : Mem} {V : Vw} {W N : Int}
theorem allN_s (p : Nat → Bool) (n : Nat) : allN p (n + 1) = (allN p n && p n) := rfl
theorem cfirst_is (hfu : 20 ≤ fu) (hV : vC R M = V) (h : Vok V n W N) (y : Int32) : m_X4_feetIfFirstMoved fu R M y = some (fmS V n y) := by
  have h10 := h.1.2.2
  have h2 := h.1.2.1
  have f9 := h.2.2.2.2.2.2.2.2.2.1
  have hwy : ∀ b, b < n → (if b = 0 then y else wyS V y (b - 1) + (V 149 b - V 161 b)) = wyS V y b := fun b _ => by
    cases b with
    | zero => rfl
    | succ b => rw [if_neg (by omega), Nat.add_sub_cancel]; rfl
  have body : ∀ b, b < n → b_X4_feetIfFirstMoved_7 fu R M y (smI (fun b => abI (wyS V y b)) b, (if b = 0 then y else wyS V y (b - 1)), nI b) = some (if okM V y b = true then .inl (smI (fun b => abI (wyS V y b)) (b + 1), wyS V y b, nI (b + 1)) else .inr (.inl ())) := by
    intro b hb
    have hx := ix_nI (show b < 2 ^ 31 by omega)
    have hbb := inb_nI (show b < 10 by omega) (by decide : 10 ≤ 2 ^ 31)
    have core : j_X4_feetIfFirstMoved_44i fu R M y (smI (fun b => abI (wyS V y b)) b) (wyS V y b) (nI b) = some (if okM V y b = true then .inl (smI (fun b => abI (wyS V y b)) (b + 1), wyS V y b, nI (b + 1)) else .inr (.inl ())) := by
      unfold j_X4_feetIfFirstMoved_44i
      have ea : (if 0 ≤ wyS V y b then wyS V y b else 0 - wyS V y b) = abI (wyS V y b) := by
        unfold abI
        split
        · rfl
        · grind
      rw [ea, bnd_e, ix_9, c_set hV (by decide), chk_is hbb, hx, ix_0, c_wall hV (by omega), nI_1]
      have hwl := h.2.2.2.2.2.1 b (by omega)
      have ok : okM V y b = true ↔ abI (wyS V y b) ≤ if V 157 b = 1 then 0 else V 162 9 := by unfold okM; rw [decide_eq_true_iff]
      have es : smI (fun b => abI (wyS V y b)) (b + 1) = smI (fun b => abI (wyS V y b)) b + abI (wyS V y b) := rfl
      by_cases a : V 162 9 < abI (wyS V y b)
      · rw [if_pos a, if_neg]
        intro z
        have := ok.mp z
        rcases hwl with e | e
        · rw [if_neg (by rw [e]; decide)] at this; grind
        · rw [if_pos e] at this; grind
      · rw [if_neg a]
        by_cases c : abI (wyS V y b) ≤ 0
        · rw [if_pos c, if_pos (ok.mpr (by split <;> grind)), es]; rfl
        · rw [if_neg c]
          rcases hwl with e | e
          · rw [if_pos e, if_pos (ok.mpr (by rw [if_neg (by rw [e]; decide)]; grind)), es]; rfl
          · rw [if_neg (by rw [e]; decide), if_neg]
            intro z
            have := ok.mp z
            rw [if_pos e] at this
            exact c this
    unfold b_X4_feetIfFirstMoved_7
    rw [un3_is, (c_n hV).trans h.1.1, if_neg (nI_ge hb (by omega))]
    by_cases b0 : b = 0
    · subst b0
      rw [if_pos (by decide), if_pos rfl]; exact core
    · rw [if_neg (by intro z; have := (nI_leI (by omega) (by decide)).mp (show nI b ≤ nI 0 from z); omega), if_neg b0, chk_is hbb, hx, ix_0, ix_8, c_wide hV (by omega), c_was hV (by omega), bnd_e]
      have := hwy b hb
      rw [if_neg b0] at this
      rw [this]; exact core
  obtain ⟨x, e, hp⟩ := lp_up (body := b_X4_feetIfFirstMoved_7 fu R M y) n (fun b s => allN (okM V y) b = true ∧ s = (smI (fun b => abI (wyS V y b)) b, (if b = 0 then y else wyS V y (b - 1)), nI b)) (fun x => (allN (okM V y) n = true ∧ x = .inr (smI (fun b => abI (wyS V y b)) n, wyS V y (n - 1))) ∨ (allN (okM V y) n = false ∧ x = .inl ())) (by
    rintro b s hb ⟨q1, rfl⟩
    rw [body b hb]
    by_cases z : okM V y b = true
    · left
      rw [if_pos z]
      refine ⟨_, rfl, by rw [allN_s, q1, z]; rfl, ?_⟩
      rw [if_neg (by omega), Nat.add_sub_cancel]
    · right
      rw [if_neg z]
      exact ⟨_, rfl, Or.inr ⟨allN_f hb (by simpa using z), rfl⟩⟩) (by
    rintro s ⟨q1, rfl⟩
    refine ⟨.inr (smI (fun b => abI (wyS V y b)) n, wyS V y (n - 1)), ?_, Or.inl ⟨q1, rfl⟩⟩
    unfold b_X4_feetIfFirstMoved_7
    rw [un3_is, (c_n hV).trans h.1.1, if_pos (nI_le (Nat.le_refl _) (by omega)), if_neg (by omega)]) fu 0 (0, y, 0) (Nat.zero_le _) (by omega) ⟨rfl, rfl⟩
  unfold m_X4_feetIfFirstMoved fmS
  rw [e, some_bind]
  rcases hp with ⟨p1, rfl⟩ | ⟨p1, rfl⟩
  · rw [unS_inr, un2_is, ix_0, ix_8, c_wide hV (by decide), c_was hV (by decide)]
    by_cases z : y - wyS V y (n - 1) = dlS V 0
    · rw [if_pos (show y - wyS V y (n - 1) = V 149 0 - V 161 0 from z), if_pos ⟨p1, z⟩]
    · rw [if_neg (show ¬ y - wyS V y (n - 1) = V 149 0 - V 161 0 from z), if_neg (fun w => z w.2)]
  · rw [unS_inl, un0_is, if_neg (fun w => by rw [p1] at w; exact Bool.false_ne_true w.1)]
theorem mfirst_is (hfu : 20 ≤ fu) (hV : vM M = V) (h : Vok V n W N) (z : Int32) : m_X6_feetBy fu M z = some (fmS V n (z + dlS V 0)) := by
  have h10 := h.1.2.2
  have h2 := h.1.2.1
  generalize hy : z + dlS V 0 = y
  have body : ∀ b, b < n → b_X6_feetBy_7 fu M z ((if b = 0 then z else wyS V y (b - 1)), smI (fun b => abI (wyS V y b)) b, nI b) = some (if okM V y b = true then .inl (wyS V y b, smI (fun b => abI (wyS V y b)) (b + 1), nI (b + 1)) else .inr (.inl ())) := by
    intro b hb
    have hx := ix_nI (show b < 2 ^ 31 by omega)
    have hbb := inb_nI (show b < 10 by omega) (by decide : 10 ≤ 2 ^ 31)
    have ok : okM V y b = true ↔ abI (wyS V y b) ≤ if V 157 b = 1 then 0 else V 162 9 := by unfold okM; rw [decide_eq_true_iff]
    have es : smI (fun b => abI (wyS V y b)) (b + 1) = smI (fun b => abI (wyS V y b)) b + abI (wyS V y b) := rfl
    have hw : (if b = 0 then z else wyS V y (b - 1)) + V 149 b - V 161 b = wyS V y b := by
      cases b with
      | zero => rw [if_pos rfl]; show _ = y; rw [← hy]; unfold dlS; grind
      | succ b => rw [if_neg (by omega), Nat.add_sub_cancel, wyS_s]; unfold dlS; grind
    unfold b_X6_feetBy_7
    rw [un3_is, (m_n hV).trans h.1.1, if_neg (nI_ge hb (by omega)), chk_is hbb, hx, m_at hV (k := 149) (by decide) (by decide) (by omega), m_at hV (k := 161) (by decide) (by decide) (by omega), m_at hV (k := 157) (by decide) (by decide) (by omega), ix_9, m_at hV (k := 162) (by decide) (by decide) (by decide), hw, bnd_e, size_is, some_bind]
    have sz : (if 0 ≤ wyS V y b then wyS V y b else -wyS V y b) = abI (wyS V y b) := rfl
    have core : ∀ t1 : Int32, j_X6_feetBy_61i fu M z (wyS V y b) (smI (fun b => abI (wyS V y b)) b) (nI b) (abI (wyS V y b)) t1 = some (if abI (wyS V y b) ≤ t1 then .inl (wyS V y b, smI (fun b => abI (wyS V y b)) (b + 1), nI (b + 1)) else .inr (.inl ())) := by
      intro t1
      unfold j_X6_feetBy_61i
      rw [size_is, some_bind, bnd_e, bnd_e, nI_1, sz, es]
      by_cases q : abI (wyS V y b) ≤ t1
      · rw [if_pos q, if_pos q]
      · rw [if_neg q, if_neg q]
    rw [sz]
    by_cases e : V 157 b = 1
    · rw [if_pos e, core]
      by_cases q : abI (wyS V y b) ≤ 0
      · rw [if_pos q, if_pos (ok.mpr (by rw [if_pos e]; exact q))]
      · rw [if_neg q, if_neg (fun w => q (by have := ok.mp w; rw [if_pos e] at this; exact this))]
    · rw [if_neg e, core]
      by_cases q : abI (wyS V y b) ≤ V 162 9
      · rw [if_pos q, if_pos (ok.mpr (by rw [if_neg e]; exact q))]
      · rw [if_neg q, if_neg (fun w => q (by have := ok.mp w; rw [if_neg e] at this; exact this))]
  obtain ⟨x, e, hp⟩ := lp_up (body := b_X6_feetBy_7 fu M z) n (fun b s => allN (okM V y) b = true ∧ s = ((if b = 0 then z else wyS V y (b - 1)), smI (fun b => abI (wyS V y b)) b, nI b)) (fun x => (allN (okM V y) n = true ∧ x = .inr (wyS V y (n - 1), smI (fun b => abI (wyS V y b)) n)) ∨ (allN (okM V y) n = false ∧ x = .inl ())) (by
    rintro b s hb ⟨q1, rfl⟩
    rw [body b hb]
    by_cases z : okM V y b = true
    · left
      rw [if_pos z]
      refine ⟨_, rfl, by rw [allN_s, q1, z]; rfl, ?_⟩
      rw [if_neg (by omega), Nat.add_sub_cancel]
    · right
      rw [if_neg z]
      exact ⟨_, rfl, Or.inr ⟨allN_f hb (by simpa using z), rfl⟩⟩) (by
    rintro s ⟨q1, rfl⟩
    refine ⟨.inr (wyS V y (n - 1), smI (fun b => abI (wyS V y b)) n), ?_, Or.inl ⟨q1, rfl⟩⟩
    unfold b_X6_feetBy_7
    rw [un3_is, (m_n hV).trans h.1.1, if_pos (nI_le (Nat.le_refl _) (by omega)), if_neg (by omega)]) fu 0 (z, 0, 0) (Nat.zero_le _) (by omega) ⟨rfl, rfl⟩
  unfold m_X6_feetBy fmS
  rw [e, some_bind]
  rcases hp with ⟨p1, rfl⟩ | ⟨p1, rfl⟩
  · rw [unS_inr, un2_is]
    by_cases w : wyS V y (n - 1) = z
    · rw [if_pos w, if_pos ⟨p1, by rw [w, ← hy]; grind⟩]
    · rw [if_neg w, if_neg (fun q => w (by have := q.2; rw [← hy] at this ⊢; grind))]
  · rw [unS_inl, un0_is, if_neg (fun w => by rw [p1] at w; exact Bool.false_ne_true w.1)]
end JUDGE
