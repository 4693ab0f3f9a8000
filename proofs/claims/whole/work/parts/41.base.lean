/-! ===== pure 1: running a mirror, loops, indices ===== -/
theorem bnd_is {α β : Type} (x : α) (f : α → Option β) : bnd x f = f x := rfl
theorem chk_t {β : Type} (k : Option β) : chk true k = k := rfl
theorem chk_is {β : Type} {b : Bool} (h : b = true) (k : Option β) : chk b k = k := by rw [h]; rfl
theorem some_bind {α β : Type} (x : α) (f : α → Option β) : (some x).bind f = f x := rfl
theorem un1_is {A B : Type} (f : A → Option B) (a : A) : un1 f a = f a := rfl
theorem un0_is {A : Type} (f : Option A) (u : Unit) : un0 f u = f := rfl
theorem un2_is {A B C : Type} (f : A → B → Option C) (a : A) (b : B) : un2 f (a, b) = f a b := rfl
theorem un3_is {A B C D : Type} (f : A → B → C → Option D) (a : A) (b : B) (c : C) : un3 f (a, b, c) = f a b c := rfl
theorem un4_is {A B C D E : Type} (f : A → B → C → D → Option E) (a : A) (b : B) (c : C) (d : D) : un4 f (a, b, c, d) = f a b c d := rfl
theorem un5_is {A B C D E F : Type} (f : A → B → C → D → E → Option F) (a : A) (b : B) (c : C) (d : D) (e : E) : un5 f (a, b, c, d, e) = f a b c d e := rfl
theorem un7_is {A B C D E F G H : Type} (f : A → B → C → D → E → F → G → Option H) (a : A) (b : B) (c : C) (d : D) (e : E) (x : F) (y : G) : un7 f (a, b, c, d, e, x, y) = f a b c d e x y := rfl
theorem unS_inl {A B C : Type} (f : A → Option C) (h : B → Option C) (a : A) : unS f h (.inl a) = f a := rfl
theorem unS_inr {A B C : Type} (f : A → Option C) (h : B → Option C) (b : B) : unS f h (.inr b) = h b := rfl
/-- a loop with a counter: the invariant up to n, then the end -/
theorem lp_up {S X : Type} {body : S → Option (S ⊕ X)} (n : Nat) (Inv : Nat → S → Prop) (Post : X → Prop)
    (hstep : ∀ i s, i < n → Inv i s → (∃ s', body s = some (.inl s') ∧ Inv (i + 1) s') ∨ (∃ x, body s = some (.inr x) ∧ Post x))
    (hend : ∀ s, Inv n s → ∃ x, body s = some (.inr x) ∧ Post x) : ∀ (fu i : Nat) (s : S), i ≤ n → n - i < fu → Inv i s → ∃ x, lp body fu s = some x ∧ Post x
  | 0, i, s, _, h, _ => absurd h (Nat.not_lt_zero _)
  | fu + 1, i, s, hi, hf, hI => by
    by_cases h : i = n
    · subst h
      obtain ⟨x, hx, hp⟩ := hend s hI
      exact ⟨x, by unfold lp; rw [hx], hp⟩
    · rcases hstep i s (by omega) hI with ⟨s', h1, h2⟩ | ⟨x, h1, h2⟩
      · obtain ⟨x, hx, hp⟩ := lp_up n Inv Post hstep hend fu (i + 1) s' (by omega) (by omega) h2
        exact ⟨x, by unfold lp; rw [h1]; exact hx, hp⟩
      · exact ⟨x, by unfold lp; rw [h1], h2⟩
/-- a loop by a measure -/
theorem lp_ms {S X : Type} {body : S → Option (S ⊕ X)} (Inv : Nat → S → Prop) (Post : X → Prop)
    (hstep : ∀ i s, Inv i s → (∃ s' k, body s = some (.inl s') ∧ k < i ∧ Inv k s') ∨ (∃ x, body s = some (.inr x) ∧ Post x)) : ∀ (fu i : Nat) (s : S), i < fu → Inv i s → ∃ x, lp body fu s = some x ∧ Post x
  | 0, i, s, h, _ => absurd h (Nat.not_lt_zero _)
  | fu + 1, i, s, hf, hI => by
    rcases hstep i s hI with ⟨s', k, h1, hk, h2⟩ | ⟨x, h1, h2⟩
    · obtain ⟨x, hx, hp⟩ := lp_ms Inv Post hstep fu k s' (by omega) h2
      exact ⟨x, by unfold lp; rw [h1]; exact hx, hp⟩
    · exact ⟨x, by unfold lp; rw [h1], h2⟩
/-- a loop that walks 0 .. n - 1 to its end, the state told by a function -/
theorem lp_fn {S X : Type} {body : S → Option (S ⊕ X)} (n : Nat) (st : Nat → S) (x : X)
    (hstep : ∀ i, i < n → body (st i) = some (.inl (st (i + 1)))) (hend : body (st n) = some (.inr x)) (fu : Nat) (hf : n < fu) : lp body fu (st 0) = some x := by
  obtain ⟨y, h1, h2⟩ := lp_up (body := body) n (fun i s => s = st i) (fun y => y = x) (fun i s hi e => Or.inl ⟨st (i + 1), by rw [e]; exact hstep i hi, rfl⟩) (fun s e => ⟨x, by rw [e]; exact hend, rfl⟩) fu 0 (st 0) (Nat.zero_le _) (by omega) rfl
  rw [h1, h2]
/-! Int32 and its numbers -/
theorem I_lt {a b : Int32} : a < b ↔ a.toInt < b.toInt := Int32.lt_iff_toInt_lt
theorem I_le {a b : Int32} : a ≤ b ↔ a.toInt ≤ b.toInt := Int32.le_iff_toInt_le
theorem I_eq {a b : Int32} : a = b ↔ a.toInt = b.toInt := ⟨fun h => by rw [h], fun h => Int32.toInt_inj.mp h⟩
theorem ix_nI {n : Nat} (h : n < 2 ^ 31) : ix (nI n) = n := nI_clamp h
theorem ix_toInt {a : Int32} : ix a = a.toInt.toNat := rfl
theorem inb_nI {i n : Nat} (h : i < n) (hn : n ≤ 2 ^ 31) : inb (nI i) n = true := by
  have h1 : (nI i).toNatClampNeg = i := nI_clamp (by omega)
  have h2 : ¬ nI i < 0 := nI_pos (by omega)
  simp [inb, h1, h2, h]
theorem inb_of {a : Int32} {n : Nat} (h0 : ¬ a < 0) (h : ix a < n) : inb a n = true := by
  unfold ix at h
  simp [inb, h0, h]
theorem nI_ix {a : Int32} (h : ¬ a < 0) : nI (ix a) = a := by
  have h1 : 0 ≤ a.toInt := by
    have := mt I_lt.mpr h
    have e : (0 : Int32).toInt = 0 := rfl
    omega
  have h2 : a.toInt < 2 ^ 31 := Int32.toInt_lt a
  apply I_eq.mpr
  rw [nI_toInt (by rw [ix_toInt]; omega), ix_toInt]
  omega
/-- an argument that is below n is a number -/
theorem arg_nI {a : Int32} {n : Nat} (h0 : ¬ a < 0) (h : ¬ nI n ≤ a) (hn : n < 2 ^ 31) : ∃ f, f < n ∧ a = nI f := by
  refine ⟨ix a, ?_, (nI_ix h0).symm⟩
  have h1 := mt I_le.mpr h
  rw [nI_toInt hn] at h1
  rw [ix_toInt]
  have : 0 ≤ a.toInt := by
    have := mt I_lt.mpr h0
    have e : (0 : Int32).toInt = 0 := rfl
    omega
  omega
theorem ix_0 : ix 0 = 0 := by decide
theorem ix_1 : ix 1 = 1 := by decide
theorem ix_2 : ix 2 = 2 := by decide
theorem ix_3 : ix 3 = 3 := by decide
theorem ix_4 : ix 4 = 4 := by decide
theorem ix_5 : ix 5 = 5 := by decide
theorem ix_6 : ix 6 = 6 := by decide
theorem ix_7 : ix 7 = 7 := by decide
theorem ix_8 : ix 8 = 8 := by decide
theorem ix_9 : ix 9 = 9 := by decide
theorem ix_10 : ix 10 = 10 := by decide
theorem ix_11 : ix 11 = 11 := by decide
theorem ix_12 : ix 12 = 12 := by decide
theorem ix_13 : ix 13 = 13 := by decide
theorem ix_14 : ix 14 = 14 := by decide
theorem tI_0 : (0 : Int32).toInt = 0 := rfl
theorem tI_1 : (1 : Int32).toInt = 1 := rfl
theorem tI_2 : (2 : Int32).toInt = 2 := rfl
theorem tI_3 : (3 : Int32).toInt = 3 := rfl
theorem tI_4 : (4 : Int32).toInt = 4 := rfl
theorem tI_5 : (5 : Int32).toInt = 5 := rfl
theorem tI_9 : (9 : Int32).toInt = 9 := rfl
theorem tI_10 : (10 : Int32).toInt = 10 := rfl
theorem tI_30 : (30 : Int32).toInt = 30 := rfl
theorem tI_60 : (60 : Int32).toInt = 60 := rfl
theorem tI_99 : (99 : Int32).toInt = 99 := rfl
theorem tI_1000 : (1000 : Int32).toInt = 1000 := rfl
theorem tI_m1 : (-1 : Int32).toInt = -1 := rfl
theorem I_add {a b : Int32} (h1 : -2147483648 ≤ a.toInt + b.toInt) (h2 : a.toInt + b.toInt < 2147483648) : (a + b).toInt = a.toInt + b.toInt := by
  rw [Int32.toInt_add]; exact Int.bmod_eq_of_le (by omega) (by omega)
theorem I_sub {a b : Int32} (h1 : -2147483648 ≤ a.toInt - b.toInt) (h2 : a.toInt - b.toInt < 2147483648) : (a - b).toInt = a.toInt - b.toInt := by
  rw [Int32.toInt_sub]; exact Int.bmod_eq_of_le (by omega) (by omega)
theorem I_mul {a b : Int32} (h1 : -2147483648 ≤ a.toInt * b.toInt) (h2 : a.toInt * b.toInt < 2147483648) : (a * b).toInt = a.toInt * b.toInt := by
  rw [Int32.toInt_mul]; exact Int.bmod_eq_of_le (by omega) (by omega)
theorem T_grind1 (a b : Int32) (h : a < b) (h2 : b < 10) : a < 10 := by grind
theorem T_grind2 (a b c : Int32) : a * (b + c) - a * b = a * c := by grind
theorem T_grind3 (a : Int32) (h : ¬ a < 0) (h2 : ¬ 10 ≤ a) : a + 1 ≤ 10 := by grind
