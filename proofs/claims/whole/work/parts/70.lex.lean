/-! ===== tokens of a text ===== -/
def skP (P : Int32 → Bool) (b : Nat → Int32) (len : Nat) : Nat → Nat → Nat
  | 0, p => p
  | n + 1, p => if p < len ∧ P (b p) = true then skP P b len n (p + 1) else p
def skN (P : Int32 → Bool) (b : Nat → Int32) (len p : Nat) : Nat := skP P b len (len - p) p
theorem skN_u (P : Int32 → Bool) (b : Nat → Int32) (len p : Nat) : skN P b len p = if p < len ∧ P (b p) = true then skN P b len (p + 1) else p := by
  unfold skN
  by_cases h : p < len
  · rw [show len - p = (len - (p + 1)) + 1 by omega]; rfl
  · rw [show len - p = 0 by omega, if_neg (fun q => h q.1)]; rfl
theorem skP_b (P : Int32 → Bool) (b : Nat → Int32) (len : Nat) : ∀ n p, p ≤ len → p ≤ skP P b len n p ∧ skP P b len n p ≤ len
  | 0, p, h => ⟨Nat.le_refl _, h⟩
  | n + 1, p, h => by
    unfold skP
    by_cases q : p < len ∧ P (b p) = true
    · rw [if_pos q]; have := skP_b P b len n (p + 1) (by omega); omega
    · rw [if_neg q]; omega
theorem skN_b (P : Int32 → Bool) (b : Nat → Int32) {len p : Nat} (h : p ≤ len) : p ≤ skN P b len p ∧ skN P b len p ≤ len := skP_b P b len _ p h
theorem skP_all (P : Int32 → Bool) (b : Nat → Int32) (len : Nat) : ∀ n p i, p ≤ i → i < skP P b len n p → P (b i) = true
  | 0, p, i, h1, h2 => by unfold skP at h2; omega
  | n + 1, p, i, h1, h2 => by
    unfold skP at h2
    by_cases q : p < len ∧ P (b p) = true
    · rw [if_pos q] at h2
      by_cases e : i = p
      · rw [e]; exact q.2
      · exact skP_all P b len n (p + 1) i (by omega) h2
    · rw [if_neg q] at h2; omega
theorem skN_all {P : Int32 → Bool} {b : Nat → Int32} {len p i : Nat} (h1 : p ≤ i) (h2 : i < skN P b len p) : P (b i) = true := skP_all P b len _ p i h1 h2
noncomputable def isBl (x : Int32) : Bool := decide (x = 32 ∨ x = 10)
noncomputable def isLe (x : Int32) : Bool := decide ((97 ≤ x ∧ x ≤ 122) ∨ (65 ≤ x ∧ x ≤ 90))
noncomputable def isDi (x : Int32) : Bool := decide (48 ≤ x ∧ x ≤ 57)
noncomputable def isSi (x : Int32) : Bool := decide ((40 ≤ x ∧ x ≤ 43) ∨ x = 45 ∨ x = 47 ∨ (59 ≤ x ∧ x ≤ 62))
def nvS (b : Nat → Int32) (f : Nat) : Nat → Int32
  | 0 => 0
  | i + 1 => 10 * nvS b f i + b (f + i) - 48
/-- the first of the words w .. 19 that stands from f up to s -/
def kwSt : Nat → Nat := fun w => [0, 3, 8, 11, 15, 19, 24, 30, 36, 41, 46, 52, 56, 60, 65, 70, 75, 80, 86, 92, 98].getD w 0
noncomputable def kwHit (b : Nat → Int32) (f s w : Nat) : Bool := decide (s - f = kwSt (w + 1) - kwSt w - 1 ∧ ∀ j, j < s - f → b (f + j) = kwC (kwSt w + j))
noncomputable def kwFrom (b : Nat → Int32) (f s : Nat) : Nat → Nat → Int32
  | 0, _ => -1
  | n + 1, w => if kwHit b f s w = true then nI w else kwFrom b f s n (w + 1)
noncomputable def kwAt (b : Nat → Int32) (f s : Nat) : Int32 := kwFrom b f s 20 0
section TOK
variable (b : Nat → Int32) (len p : Nat)
noncomputable def tF : Nat := skN isBl b len p
noncomputable def tS : Nat := if len ≤ tF b len p then tF b len p else if isLe (b (tF b len p)) = true then skN isLe b len (tF b len p) else if isDi (b (tF b len p)) = true then skN isDi b len (tF b len p) else tF b len p + 1
noncomputable def tK : Int32 := if len ≤ tF b len p then 0 else if isLe (b (tF b len p)) = true then (if kwAt b (tF b len p) (tS b len p) = -1 then 2 else 200 + kwAt b (tF b len p) (tS b len p)) else if isDi (b (tF b len p)) = true then (if tS b len p - tF b len p ≤ 4 then 1 else 2) else (if isSi (b (tF b len p)) = true then b (tF b len p) else 2)
noncomputable def tV : Int32 := nvS b (tF b len p) (tS b len p - tF b len p)
end TOK
theorem kwFrom_is (b : Nat → Int32) (f s : Nat) : ∀ n w, n + w = 20 → kwFrom b f s n w = -1 ∨ ∃ v, w ≤ v ∧ v < 20 ∧ kwFrom b f s n w = nI v
  | 0, w, _ => Or.inl rfl
  | n + 1, w, h => by
    unfold kwFrom
    by_cases q : kwHit b f s w = true
    · rw [if_pos q]; exact Or.inr ⟨w, Nat.le_refl _, by omega, rfl⟩
    · rw [if_neg q]
      rcases kwFrom_is b f s n (w + 1) (by omega) with e | ⟨v, h1, h2, e⟩
      · exact Or.inl e
      · exact Or.inr ⟨v, by omega, h2, e⟩
theorem nI_n1 {n : Nat} (h : n < 2 ^ 31) : nI n ≠ -1 := fun e => by
  have := congrArg Int32.toInt e
  rw [nI_toInt h, tI_m1] at this
  omega
theorem tF_b (b : Nat → Int32) {len p : Nat} (h : p ≤ len) : p ≤ tF b len p ∧ tF b len p ≤ len := skN_b isBl b h
theorem tS_b (b : Nat → Int32) {len p : Nat} (h : p ≤ len) : tF b len p ≤ tS b len p ∧ tS b len p ≤ len ∧ (tF b len p < len → tF b len p < tS b len p) := by
  have f := tF_b b h
  unfold tS
  generalize tF b len p = F at *
  by_cases a : len ≤ F
  · rw [if_pos a]; omega
  · rw [if_neg a]
    by_cases q : isLe (b F) = true
    · rw [if_pos q, skN_u, if_pos ⟨by omega, q⟩]
      have := skN_b isLe b (len := len) (p := F + 1) (by omega)
      omega
    · rw [if_neg q]
      by_cases r : isDi (b F) = true
      · rw [if_pos r, skN_u, if_pos ⟨by omega, r⟩]
        have := skN_b isDi b (len := len) (p := F + 1) (by omega)
        omega
      · rw [if_neg r]; omega
theorem tK_0 {b : Nat → Int32} {len p : Nat} (h0 : ∀ i, i < len → 0 ≤ b i) (h : p ≤ len) : tK b len p = 0 ↔ tF b len p = len := by
  have f := tF_b b h
  unfold tK
  constructor
  · intro q
    by_cases a : len ≤ tF b len p
    · omega
    · exfalso
      rw [if_neg a] at q
      by_cases l : isLe (b (tF b len p)) = true
      · rw [if_pos l] at q
        by_cases k : kwAt b (tF b len p) (tS b len p) = -1
        · rw [if_pos k] at q; exact absurd q (by decide)
        · rw [if_neg k] at q
          rcases kwFrom_is b (tF b len p) (tS b len p) 20 0 rfl with e | ⟨v, h1, h2, e⟩
          · exact k e
          · have e' : kwAt b (tF b len p) (tS b len p) = nI v := e
            rw [e', show (200 : Int32) = nI 200 from rfl, nI_add] at q
            have := nI_inj (by omega) (by decide) (q.trans (show (0 : Int32) = nI 0 from rfl))
            omega
      · rw [if_neg l] at q
        by_cases d : isDi (b (tF b len p)) = true
        · rw [if_pos d] at q
          by_cases k : tS b len p - tF b len p ≤ 4
          · rw [if_pos k] at q; exact absurd q (by decide)
          · rw [if_neg k] at q; exact absurd q (by decide)
        · rw [if_neg d] at q
          by_cases k : isSi (b (tF b len p)) = true
          · rw [if_pos k] at q
            rw [q] at k
            exact absurd k (by unfold isSi; decide)
          · rw [if_neg k] at q; exact absurd q (by decide)
  · intro q; rw [if_pos (by omega)]
/-- what kinds there are -/
theorem tK_is {b : Nat → Int32} {len p : Nat} : tK b len p = 0 ∨ tK b len p = 1 ∨ tK b len p = 2 ∨ (∃ w, w < 20 ∧ tK b len p = nI (200 + w)) ∨ (isSi (tK b len p) = true) := by
  unfold tK
  split
  · exact Or.inl rfl
  · split
    · split
      · exact Or.inr (Or.inr (Or.inl rfl))
      · next k =>
        rcases kwFrom_is b (tF b len p) (tS b len p) 20 0 rfl with e | ⟨v, h1, h2, e⟩
        · exact absurd e k
        · have e' : kwAt b (tF b len p) (tS b len p) = nI v := e
          exact Or.inr (Or.inr (Or.inr (Or.inl ⟨v, h2, by rw [e', show (200 : Int32) = nI 200 from rfl, nI_add]⟩)))
    · split
      · split
        · exact Or.inr (Or.inl rfl)
        · exact Or.inr (Or.inr (Or.inl rfl))
      · split
        · next h => exact Or.inr (Or.inr (Or.inr (Or.inr h)))
        · exact Or.inr (Or.inr (Or.inl rfl))
theorem nv_bd {b : Nat → Int32} {f : Nat} : ∀ i, i ≤ 4 → (∀ j, j < i → isDi (b (f + j)) = true) → 0 ≤ (nvS b f i).toInt ∧ (nvS b f i).toInt < 10 ^ i
  | 0, _, _ => by show 0 ≤ (0 : Int32).toInt ∧ (0 : Int32).toInt < 1; decide
  | i + 1, hi, h => by
    have ih := nv_bd (b := b) (f := f) i (by omega) (fun j hj => h j (by omega))
    have d := h i (by omega)
    unfold isDi at d
    rw [decide_eq_true_iff] at d
    have d1 := I_le.mp d.1
    have d2 := I_le.mp d.2
    rw [show (48 : Int32).toInt = 48 from rfl] at d1
    rw [show (57 : Int32).toInt = 57 from rfl] at d2
    have pw : (10 : Int) ^ i ≤ 1000 ∧ (10 : Int) ^ (i + 1) = 10 * 10 ^ i := by
      refine ⟨?_, by rw [Int.pow_succ]; omega⟩
      rcases (by omega : i = 0 ∨ i = 1 ∨ i = 2 ∨ i = 3) with rfl | rfl | rfl | rfl <;> decide
    have m : (10 * nvS b f i).toInt = 10 * (nvS b f i).toInt := by
      rw [I_mul (by rw [tI_10]; omega) (by rw [tI_10]; omega), tI_10]
    unfold nvS
    rw [I_sub (by rw [I_add (by omega) (by omega), show (48 : Int32).toInt = 48 from rfl]; omega) (by rw [I_add (by omega) (by omega), show (48 : Int32).toInt = 48 from rfl]; omega), I_add (by omega) (by omega), m, show (48 : Int32).toInt = 48 from rfl, pw.2]
    omega
theorem tV_bd {b : Nat → Int32} {len p : Nat} (hp : p ≤ len) (h : tK b len p = 1) : 0 ≤ tV b len p ∧ tV b len p ≤ 9999 := by
  have key : isLe (b (tF b len p)) = false ∧ isDi (b (tF b len p)) = true ∧ tS b len p - tF b len p ≤ 4 ∧ tF b len p < len := by
    unfold tK at h
    by_cases a : len ≤ tF b len p
    · rw [if_pos a] at h; exact absurd h (by decide)
    · rw [if_neg a] at h
      by_cases l : isLe (b (tF b len p)) = true
      · rw [if_pos l] at h
        by_cases k : kwAt b (tF b len p) (tS b len p) = -1
        · rw [if_pos k] at h; exact absurd h (by decide)
        · rw [if_neg k] at h
          rcases kwFrom_is b (tF b len p) (tS b len p) 20 0 rfl with e | ⟨v, h1, h2, e⟩
          · exact absurd e k
          · have e' : kwAt b (tF b len p) (tS b len p) = nI v := e
            rw [e', show (200 : Int32) = nI 200 from rfl, nI_add] at h
            have := nI_inj (by omega) (by decide) (h.trans (show (1 : Int32) = nI 1 from rfl))
            omega
      · rw [if_neg l] at h
        by_cases d : isDi (b (tF b len p)) = true
        · rw [if_pos d] at h
          by_cases k : tS b len p - tF b len p ≤ 4
          · exact ⟨by simpa using l, d, k, by omega⟩
          · rw [if_neg k] at h; exact absurd h (by decide)
        · rw [if_neg d] at h
          by_cases k : isSi (b (tF b len p)) = true
          · rw [if_pos k] at h; rw [h] at k; exact absurd k (by unfold isSi; decide)
          · rw [if_neg k] at h; exact absurd h (by decide)
  obtain ⟨k1, k2, k3, k4⟩ := key
  have eS : tS b len p = skN isDi b len (tF b len p) := by
    unfold tS; rw [if_neg (by omega), if_neg (by rw [k1]; exact Bool.false_ne_true), if_pos k2]
  have q := nv_bd (b := b) (f := tF b len p) (tS b len p - tF b len p) k3 (fun j hj => skN_all (P := isDi) (len := len) (p := tF b len p) (by omega) (by rw [← eS]; omega))
  have pw : (10 : Int) ^ (tS b len p - tF b len p) ≤ 10000 := by
    rcases (by omega : tS b len p - tF b len p = 0 ∨ tS b len p - tF b len p = 1 ∨ tS b len p - tF b len p = 2 ∨ tS b len p - tF b len p = 3 ∨ tS b len p - tF b len p = 4) with e | e | e | e | e <;> rw [e] <;> decide
  exact ⟨I_le.mpr (by rw [tI_0]; exact q.1), I_le.mpr (by rw [show (9999 : Int32).toInt = 9999 from rfl]; unfold tV; omega)⟩
