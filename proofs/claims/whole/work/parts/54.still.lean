/-! ===== still ===== -/
def popN (k : Nat) : Nat := k % 2 + k / 2 % 2 + k / 4 % 2 + k / 8 % 2 + k / 16 % 2 + k / 32 % 2 + k / 64 % 2 + k / 128 % 2 + k / 256 % 2 + k / 512 % 2
def M00 : Mem := (fun _ _ => 0, fun _ _ => 0)
set_option maxRecDepth 100000 in
theorem bitc0 : ∀ k : Nat, k < 1024 → m_J6_bitCount_0f7a4 M00 (nI k) = some (nI (popN k)) := by decide +kernel
set_option maxRecDepth 100000 in
theorem ones0 : ∀ k : Nat, k < 1024 → m_X6_ones 12 M00 (nI k) = some (nI (popN k)) := by decide +kernel
theorem bitc_is {M : Mem} {k : Nat} (h : k < 1024) : m_J6_bitCount_0f7a4 M (nI k) = some (nI (popN k)) := bitc0 k h
theorem ones_is {fu : Nat} {M : Mem} {k : Nat} (hfu : 20 ≤ fu) (h : k < 1024) : m_X6_ones fu M (nI k) = some (nI (popN k)) := by
  have h0 := ones0 k h
  unfold m_X6_ones at h0 ⊢
  cases hb : lp (b_X6_ones_4 12 M00) 12 (0, nI k) with
  | none => rw [hb] at h0; cases h0
  | some x =>
    rw [hb] at h0
    have e : lp (b_X6_ones_4 fu M) (12 + (fu - 12)) (0, nI k) = some x := lp_more (show lp (b_X6_ones_4 fu M) 12 (0, nI k) = some x from hb)
    rw [show 12 + (fu - 12) = fu by omega] at e
    rw [e]; exact h0
theorem popN_lt (k : Nat) : popN k ≤ 10 := by unfold popN; omega
theorem bt_nI {k i : Nat} (hi : i < 32) : bt (nI k) i = k.testBit i := by
  show (BitVec.ofNat 32 k).getLsbD i = _
  rw [BitVec.getLsbD_ofNat]; simp [hi]
theorem bt_1 : ∀ i, i < 32 → bt 1 i = decide (i = 0) := by decide +kernel
theorem bt_one {f g : Nat} (hf : f < 32) (hg : g < 32) : bt (ishl 1 (nI f)) g = decide (g = f) := by
  rw [b_shl f hf 1 hg, bt_1 _ (by omega)]
  by_cases h : g = f
  · subst h; simp
  · by_cases h2 : f ≤ g
    · have : ¬ g - f = 0 := by omega
      simp [h, this]
    · simp [h, h2]
theorem tb_big {k i n : Nat} (h : k < 2 ^ n) (hi : n ≤ i) : k.testBit i = false := Nat.testBit_lt_two_pow (Nat.lt_of_lt_of_le h (Nat.pow_le_pow_right (by decide) hi))
theorem row_bit {k f : Nat} (hk : k < 2 ^ 31) (hf : f < 32) : (ishr (nI k) (nI f)) &&& 1 = if k.testBit f then 1 else 0 := by
  show ((nI k >>> (nI f &&& 31)) &&& 1) = _
  rw [pk_shrN hk _ f (s_l f hf), pk_andN (Nat.lt_of_le_of_lt (Nat.div_le_self _ _) (by omega)) 1 (by decide), Nat.testBit_eq_decide_div_mod_eq]
  have : k / 2 ^ f % 2 = 0 ∨ k / 2 ^ f % 2 = 1 := by omega
  rcases this with e | e
  · rw [e]; rfl
  · rw [e]; rfl
theorem ish_n : ∀ n : Nat, n < 11 → ishl 1 (nI n) = nI (2 ^ n) := by decide +kernel
/-! the four temptations -/
noncomputable def tp (V : Vw) (n f : Nat) (w d : Int32) : Bool := decide (¬ meanS V n f w d w ≤ meanS V n f 0 0 0)
noncomputable def temptS (V : Vw) (n set f : Nat) : Bool :=
  (if set.testBit (lfN n f) then tp V n f 1 2 else tp V n f 0 2) || (if set.testBit (rtN n f) then tp V n f 1 3 else tp V n f 0 3)
noncomputable def stillB (V : Vw) (n set : Nat) : Bool := allN (fun f => set.testBit f || !temptS V n set f) n
theorem allN_t {p : Nat → Bool} : ∀ {n : Nat}, (allN p n = true ↔ ∀ i, i < n → p i = true)
  | 0 => by simp [allN]
  | n + 1 => by
    unfold allN
    rw [Bool.and_eq_true, allN_t (n := n)]
    constructor
    · intro h i hi
      by_cases q : i = n
      · subst q; exact h.2
      · exact h.1 i (by omega)
    · intro h; exact ⟨fun i hi => h i (by omega), h n (by omega)⟩
section CSTILL
variable {fu R n : Nat} {M : Mem} {V : Vw} {W N : Int}
/-- the masks, up to farm i -/
def Msk (V : Vw) (n i : Nat) (M : Mem) : Prop := ∀ g, g < 32 → bt (rd M 115 8) g = (decide (g < i) && tp V n g 0 2) ∧ bt (rd M 115 9) g = (decide (g < i) && tp V n g 1 2) ∧ bt (rd M 115 10) g = (decide (g < i) && tp V n g 0 3) ∧ bt (rd M 115 11) g = (decide (g < i) && tp V n g 1 3)
theorem msk_or {x : Int32} {i : Nat} {p : Nat → Bool} (h : ∀ g, g < 32 → bt x g = (decide (g < i) && p g)) (hi : i < 32) (q : Prop) [Decidable q] (hq : p i = decide (¬ q)) : ∀ g, g < 32 → bt (x ||| (if q then 0 else ishl 1 (nI i))) g = (decide (g < i + 1) && p g) := by
  intro g hg
  rw [b_or, h g hg]
  by_cases z : q
  · rw [if_pos z, b_0, Bool.or_false]
    by_cases e : g = i
    · subst e; simp [hq, z]
    · have : (g < i + 1) ↔ g < i := by omega
      simp [this]
  · rw [if_neg z, bt_one hi hg]
    by_cases e : g = i
    · subst e; simp [hq, z]
    · have : (g < i + 1) ↔ g < i := by omega
      simp [this, e]
theorem ctempt_is (hfu : 20 ≤ fu) (hV : vC R M = V) (hR : R ≤ 74) (h : Vok V n W N) : ∃ M', m_X0_fillTempted fu R M = some M' ∧ Msk V n n M' ∧ vC R M' = V := by
  have h10 := h.1.2.2
  have cm : ∀ (M1 : Mem) (f : Nat) (l o r : Int32), f < n → vC R M1 = V → m_X0_mean R M1 (nI f) l o r = some (meanS V n f l o r) := fun M1 f l o r hf e => cmean_is e h.1.1 h10 h.1.2.1 hf h.heavy l o r
  obtain ⟨x, q1, q2, q3⟩ := lp_up (body := b_X0_fillTempted_22 fu R) n (fun i s => s.1 = nI i ∧ Msk V n i s.2 ∧ vC R s.2 = V) (fun x => Msk V n n x ∧ vC R x = V)
    (fun i s hi hs => by
      obtain ⟨s1, s2⟩ := s
      obtain ⟨e1, e2, e3⟩ := hs
      dsimp only at e1 e2 e3
      subst e1
      left
      have k1 : ∀ x, vC R (wr s2 115 8 x) = V := fun x => ww hR e3
      have k2 : ∀ x y, vC R (wr (wr s2 115 8 x) 115 9 y) = V := fun x y => ww hR (ww hR e3)
      have k3 : ∀ x y z, vC R (wr (wr (wr s2 115 8 x) 115 9 y) 115 10 z) = V := fun x y z => ww hR (ww hR (ww hR e3))
      have go : b_X0_fillTempted_22 fu R (nI i, s2) = some (.inl (nI (i + 1), wr (wr (wr (wr s2 115 8 (rd s2 115 8 ||| (if meanS V n i 0 2 0 ≤ meanS V n i 0 0 0 then 0 else ishl 1 (nI i)))) 115 9 (rd s2 115 9 ||| (if meanS V n i 1 2 1 ≤ meanS V n i 0 0 0 then 0 else ishl 1 (nI i)))) 115 10 (rd s2 115 10 ||| (if meanS V n i 0 3 0 ≤ meanS V n i 0 0 0 then 0 else ishl 1 (nI i)))) 115 11 (rd s2 115 11 ||| (if meanS V n i 1 3 1 ≤ meanS V n i 0 0 0 then 0 else ishl 1 (nI i))))) := by
        have hn : rd s2 R 0 = nI n := (c_n e3).trans h.1.1
        have r9 : ∀ x, rd (wr s2 115 8 x) 115 9 = rd s2 115 9 := fun x => by rw [rd_wr, if_neg (by omega)]
        have r10 : ∀ x y, rd (wr (wr s2 115 8 x) 115 9 y) 115 10 = rd s2 115 10 := fun x y => by rw [rd_wr, if_neg (by omega), rd_wr, if_neg (by omega)]
        have r11 : ∀ x y z, rd (wr (wr (wr s2 115 8 x) 115 9 y) 115 10 z) 115 11 = rd s2 115 11 := fun x y z => by rw [rd_wr, if_neg (by omega), rd_wr, if_neg (by omega), rd_wr, if_neg (by omega)]
        unfold b_X0_fillTempted_22
        rw [un2_is, hn, if_neg (nI_ge hi (by omega)), cm s2 i 0 0 0 hi e3, some_bind, cm s2 i 0 2 0 hi e3, some_bind]
        have step2 : ∀ x, j_X0_fillTempted_63i fu R s2 (nI i) (meanS V n i 0 0 0) (rd s2 115 8) x = some (.inl (nI (i + 1), wr (wr (wr (wr s2 115 8 (rd s2 115 8 ||| x)) 115 9 (rd s2 115 9 ||| (if meanS V n i 1 2 1 ≤ meanS V n i 0 0 0 then 0 else ishl 1 (nI i)))) 115 10 (rd s2 115 10 ||| (if meanS V n i 0 3 0 ≤ meanS V n i 0 0 0 then 0 else ishl 1 (nI i)))) 115 11 (rd s2 115 11 ||| (if meanS V n i 1 3 1 ≤ meanS V n i 0 0 0 then 0 else ishl 1 (nI i))))) := by
          intro x
          unfold j_X0_fillTempted_63i
          rw [bnd_is, cm _ i 1 2 1 hi (k1 _), some_bind, r9]
          have step3 : ∀ y, j_X0_fillTempted_91i fu R (wr s2 115 8 (rd s2 115 8 ||| x)) (nI i) (meanS V n i 0 0 0) (rd s2 115 9) y = some (.inl (nI (i + 1), wr (wr (wr (wr s2 115 8 (rd s2 115 8 ||| x)) 115 9 (rd s2 115 9 ||| y)) 115 10 (rd s2 115 10 ||| (if meanS V n i 0 3 0 ≤ meanS V n i 0 0 0 then 0 else ishl 1 (nI i)))) 115 11 (rd s2 115 11 ||| (if meanS V n i 1 3 1 ≤ meanS V n i 0 0 0 then 0 else ishl 1 (nI i))))) := by
            intro y
            unfold j_X0_fillTempted_91i
            rw [bnd_is, cm _ i 0 3 0 hi (k2 _ _), some_bind, r10]
            have step4 : ∀ z, j_X0_fillTempted_119i fu R (wr (wr s2 115 8 (rd s2 115 8 ||| x)) 115 9 (rd s2 115 9 ||| y)) (nI i) (meanS V n i 0 0 0) (rd s2 115 10) z = some (.inl (nI (i + 1), wr (wr (wr (wr s2 115 8 (rd s2 115 8 ||| x)) 115 9 (rd s2 115 9 ||| y)) 115 10 (rd s2 115 10 ||| z)) 115 11 (rd s2 115 11 ||| (if meanS V n i 1 3 1 ≤ meanS V n i 0 0 0 then 0 else ishl 1 (nI i))))) := by
              intro z
              unfold j_X0_fillTempted_119i j_X0_fillTempted_147i
              rw [bnd_is, cm _ i 1 3 1 hi (k3 _ _ _), some_bind, r11]
              simp only [bnd_is, nI_1]
              split <;> rfl
            by_cases q : meanS V n i 0 3 0 ≤ meanS V n i 0 0 0
            · rw [if_pos q, step4, if_pos q]
            · rw [if_neg q, step4, if_neg q]
          by_cases q : meanS V n i 1 2 1 ≤ meanS V n i 0 0 0
          · rw [if_pos q, step3, if_pos q]
          · rw [if_neg q, step3, if_neg q]
        by_cases q : meanS V n i 0 2 0 ≤ meanS V n i 0 0 0
        · rw [if_pos q, step2, if_pos q]
        · rw [if_neg q, step2, if_neg q]
      refine ⟨_, go, rfl, ?_, ww hR (ww hR (ww hR (ww hR e3)))⟩
      intro g hg
      refine ⟨?_, ?_, ?_, ?_⟩
      · rw [rd_wr, if_neg (by omega), rd_wr, if_neg (by omega), rd_wr, if_neg (by omega), rd_wr, if_pos ⟨rfl, rfl⟩]
        exact msk_or (p := fun g => tp V n g 0 2) (fun g hg => (e2 g hg).1) (by omega) _ rfl g hg
      · rw [rd_wr, if_neg (by omega), rd_wr, if_neg (by omega), rd_wr, if_pos ⟨rfl, rfl⟩]
        exact msk_or (p := fun g => tp V n g 1 2) (fun g hg => (e2 g hg).2.1) (by omega) _ rfl g hg
      · rw [rd_wr, if_neg (by omega), rd_wr, if_pos ⟨rfl, rfl⟩]
        exact msk_or (p := fun g => tp V n g 0 3) (fun g hg => (e2 g hg).2.2.1) (by omega) _ rfl g hg
      · rw [rd_wr, if_pos ⟨rfl, rfl⟩]
        exact msk_or (p := fun g => tp V n g 1 3) (fun g hg => (e2 g hg).2.2.2) (by omega) _ rfl g hg)
    (fun s hs => by
      obtain ⟨s1, s2⟩ := s
      obtain ⟨e1, e2, e3⟩ := hs
      dsimp only at e1 e2 e3
      subst e1
      exact ⟨s2, by unfold b_X0_fillTempted_22; rw [un2_is, (c_n e3).trans h.1.1, if_pos (nI_le (Nat.le_refl _) (by omega))], e2, e3⟩)
    fu 0 (0, wr (wr (wr (wr M 115 8 0) 115 9 0) 115 10 0) 115 11 0) (by omega) (by omega) ⟨rfl, fun g hg => by simp [rd_wr, b_0], ww hR (ww hR (ww hR (ww hR hV)))⟩
  exact ⟨x, by unfold m_X0_fillTempted; simp only [bnd_is]; rw [q1]; rfl, q2, q3⟩
theorem cstands_is (h2 : 2 ≤ n) (h10 : n ≤ 10) (hM : Msk V n n M) {set : Nat} (hs : set < 2 ^ n) : m_X0_standsStill M (nI n) (nI set) = some (if stillB V n set = true then 1 else 0) := by
  have hs10 : set < 2 ^ 10 := Nat.lt_of_lt_of_le hs (Nat.pow_le_pow_right (by decide) h10)
  have hn1 : nI n - 1 = nI (n - 1) := by rw [show (1 : Int32) = nI 1 from rfl, pk_sub (by omega)]
  have v1 : ∀ g, g < n → bt (ishl (nI set) 1 ||| ishr (nI set) (nI n - 1)) g = set.testBit (lfN n g) := by
    intro g hg
    have s1 : ishl (nI set) 1 = nI set <<< (nI 1 &&& 31) := rfl
    have s2 : ishr (nI set) (nI (n - 1)) = nI set >>> (nI (n - 1) &&& 31) := rfl
    rw [b_or, hn1, s1, s2, b_shl 1 (by omega) (nI set) (by omega : g < 32), b_sshr (n - 1) (by omega) (nI set) (by omega : g < 32), if_pos (by omega), bt_nI (by omega), bt_nI (by omega)]
    unfold lfN
    by_cases z : g = 0
    · subst z; simp
    · rw [if_neg z, tb_big (i := n - 1 + g) hs (by omega), Bool.or_false]
      simp [show 1 ≤ g by omega]
  have v3 : ∀ g, g < n → bt (ishr (nI set) 1 ||| ishl (nI set) (nI n - 1)) g = set.testBit (rtN n g) := by
    intro g hg
    have s1 : ishr (nI set) 1 = nI set >>> (nI 1 &&& 31) := rfl
    have s2 : ishl (nI set) (nI (n - 1)) = nI set <<< (nI (n - 1) &&& 31) := rfl
    rw [b_or, hn1, s1, s2, b_sshr 1 (by omega) (nI set) (by omega : g < 32), b_shl (n - 1) (by omega) (nI set) (by omega : g < 32), if_pos (by omega), bt_nI (by omega), bt_nI (by omega)]
    unfold rtN
    by_cases z : g = n - 1
    · subst z
      rw [if_pos rfl, tb_big (i := 1 + (n - 1)) hs (by omega)]
      simp
    · rw [if_neg z]
      have : ¬ n - 1 ≤ g := by omega
      simp [this, Nat.add_comm]
  unfold m_X0_standsStill
  simp only [bnd_is]
  generalize (ishl (nI set) 1 ||| ishr (nI set) (nI n - 1)) = x1 at v1 ⊢
  generalize (ishr (nI set) 1 ||| ishl (nI set) (nI n - 1)) = x3 at v3 ⊢
  have key : (((rd M 115 8 &&& (x1 ^^^ -1)) ||| (rd M 115 9 &&& x1) ||| (rd M 115 10 &&& (x3 ^^^ -1)) ||| (rd M 115 11 &&& x3)) &&& (nI set ^^^ -1)) = 0 ↔ stillB V n set = true := by
    unfold stillB
    rw [allN_t]
    constructor
    · intro e g hg
      have := congrArg (fun y => bt y g) e
      simp only [b_and, b_or, b_xor, b_0, b_m1 g (by omega), bt_nI (show g < 32 by omega), v1 g hg, v3 g hg, (hM g (by omega)).1, (hM g (by omega)).2.1, (hM g (by omega)).2.2.1, (hM g (by omega)).2.2.2, decide_eq_true hg, Bool.true_and, Bool.xor_true] at this
      unfold temptS
      cases hb : set.testBit g <;> cases h1 : set.testBit (lfN n g) <;> cases h3 : set.testBit (rtN n g) <;> simp_all
    · intro e
      apply b_ext
      intro g hg
      by_cases z : g < n
      · have := e g z
        simp only [b_and, b_or, b_xor, b_0, b_m1 g (by omega), bt_nI (show g < 32 by omega), v1 g z, v3 g z, (hM g (by omega)).1, (hM g (by omega)).2.1, (hM g (by omega)).2.2.1, (hM g (by omega)).2.2.2, decide_eq_true z, Bool.true_and, Bool.xor_true]
        unfold temptS at this
        cases hb : set.testBit g <;> cases h1 : set.testBit (lfN n g) <;> cases h3 : set.testBit (rtN n g) <;> simp_all
      · simp only [b_and, b_or, b_0, (hM g (by omega)).1, (hM g (by omega)).2.1, (hM g (by omega)).2.2.1, (hM g (by omega)).2.2.2, decide_eq_false z, Bool.false_and, Bool.or_false]
  by_cases q : stillB V n set = true
  · rw [if_pos (key.mpr q), if_pos q]
  · rw [if_neg (fun z => q (key.mp z)), if_neg q]
/-- the fewest that watch, of sets below s -/
def fwN (st : Nat → Bool) (s : Nat) (o : Option Nat) : Option Nat := match o with
  | none => if st s = true then some s else none
  | some b => if popN s < popN b ∧ st s = true then some s else some b
def fwS (st : Nat → Bool) : Nat → Option Nat
  | 0 => none
  | s + 1 => fwN st s (fwS st s)
theorem fwN_n (st : Nat → Bool) (s : Nat) : fwN st s none = if st s = true then some s else none := rfl
theorem fwN_s (st : Nat → Bool) (s b : Nat) : fwN st s (some b) = if popN s < popN b ∧ st s = true then some s else some b := rfl
theorem fwS_s (st : Nat → Bool) (s : Nat) : fwS st (s + 1) = fwN st s (fwS st s) := rfl
def oI : Option Nat → Int32
  | none => -1
  | some b => nI b
theorem fwS_lt {st : Nat → Bool} : ∀ {s b : Nat}, fwS st s = some b → b < s
  | 0, _, h => by cases h
  | s + 1, b, h => by
    rw [fwS_s] at h
    cases hs : fwS st s with
    | none =>
      rw [hs, fwN_n] at h
      split at h
      · cases h; omega
      · cases h
    | some c =>
      rw [hs, fwN_s] at h
      have := fwS_lt hs
      split at h
      · cases h; omega
      · cases h; omega
theorem oI_n : oI none = -1 := rfl
theorem oI_s (b : Nat) : oI (some b) = nI b := rfl
theorem cfew_27 (h2 : 2 ≤ n) (h10 : n ≤ 10) (hM : Msk V n n M) {i : Nat} {x : Int32} (hi : i < 2 ^ n) : j_X0_fewestOf_27i fu M (nI n) x (nI i) = some (.inl (if stillB V n i = true then nI i else x, nI (i + 1))) := by
  unfold j_X0_fewestOf_27i
  rw [cstands_is h2 h10 hM hi, some_bind]
  by_cases q : stillB V n i = true
  · rw [if_pos q, if_pos q, if_neg (by decide), bnd_is, nI_1]
  · rw [if_neg q, if_neg q, if_pos rfl, bnd_is, nI_1]
theorem cfew_b {o : Option Nat} (h2 : 2 ≤ n) (h10 : n ≤ 10) (hM : Msk V n n M) {i : Nat} (hi : i < 2 ^ n) (ho : ∀ b, o = some b → b < 1024) (hi2 : i < 1024) : b_X0_fewestOf_4 fu M (nI n) (oI o, nI i) = some (.inl (oI (fwN (stillB V n) i o), nI (i + 1))) := by
  have hp : 2 ^ n ≤ 2 ^ 10 := Nat.pow_le_pow_right (by decide) h10
  unfold b_X0_fewestOf_4
  rw [un2_is, ish_n n (by omega), if_neg (nI_ge hi (by omega : 2 ^ n < 2 ^ 31))]
  cases o with
  | none =>
    rw [oI_n, if_pos rfl, cfew_27 h2 h10 hM hi, fwN_n]
    by_cases q : stillB V n i = true
    · rw [if_pos q, if_pos q, oI_s]
    · rw [if_neg q, if_neg q, oI_n]
  | some b =>
    have hbl := ho b rfl
    have hm : ¬ nI b = -1 := by have := nI_pos' (n := b) (by omega); grind
    rw [oI_s, if_neg hm, bitc_is (M := M) hi2, some_bind, bitc_is (M := M) hbl, some_bind, cfew_27 h2 h10 hM hi, fwN_s]
    have p1 := popN_lt b
    have p2 := popN_lt i
    by_cases w : popN b ≤ popN i
    · rw [if_pos (nI_le w (by omega)), if_neg (by omega), bnd_is, nI_1, oI_s]
    · rw [if_neg (nI_ge (by omega) (by omega))]
      by_cases q : stillB V n i = true
      · rw [if_pos q, if_pos ⟨by omega, q⟩, oI_s]
      · rw [if_neg q, if_neg (fun z => q z.2), oI_s]
theorem cfew_is (hfu : 2000 ≤ fu) (h2 : 2 ≤ n) (h10 : n ≤ 10) (hM : Msk V n n M) : m_X0_fewestOf fu M (nI n) = some (oI (fwS (stillB V n) (2 ^ n))) := by
  have hp : 2 ^ n ≤ 2 ^ 10 := Nat.pow_le_pow_right (by decide) h10
  obtain ⟨x, e1, e2⟩ := lp_up (body := b_X0_fewestOf_4 fu M (nI n)) (2 ^ n) (fun i s => s = (oI (fwS (stillB V n) i), nI i)) (fun x => x = oI (fwS (stillB V n) (2 ^ n)))
    (fun i s hi hs => by
      subst hs
      left
      refine ⟨_, cfew_b h2 h10 hM hi (fun b hb => ?_) (by omega), ?_⟩
      · have := fwS_lt hb; omega
      · rw [fwS_s])
    (fun s hs => by
      subst hs
      refine ⟨oI (fwS (stillB V n) (2 ^ n)), ?_, rfl⟩
      unfold b_X0_fewestOf_4
      rw [un2_is, ish_n n (by omega), if_pos (nI_le (Nat.le_refl _) (by omega))])
    fu 0 ((-1), 0) (Nat.zero_le _) (by omega) rfl
  subst e2
  unfold m_X0_fewestOf
  rw [e1]; rfl
end CSTILL
section MSTILL
variable {fu n : Nat} {M : Mem} {V : Vw} {W N : Int}
theorem mean0 (V : Vw) (n f : Nat) {l r : Int32} (hl : l = 0 ∨ l = 1) (hr : r = 0 ∨ r = 1) : meanS V n f l 0 r = meanS V n f 0 0 0 := by
  unfold meanS
  rcases hl with rfl | rfl <;> rcases hr with rfl | rfl <;> simp
theorem mean2 (V : Vw) (n f : Nat) {l r : Int32} (hl : l = 0 ∨ l = 1) (hr : r = 0 ∨ r = 1) : meanS V n f l 2 r = meanS V n f l 2 l := by
  unfold meanS
  rcases hl with rfl | rfl <;> rcases hr with rfl | rfl <;> simp
theorem mean3 (V : Vw) (n f : Nat) {l r : Int32} (hl : l = 0 ∨ l = 1) (hr : r = 0 ∨ r = 1) : meanS V n f l 3 r = meanS V n f r 3 r := by
  unfold meanS
  rcases hl with rfl | rfl <;> rcases hr with rfl | rfl <;> simp
theorem mstands_is (hfu : 20 ≤ fu) (hV : vM M = V) (h : Vok V n W N) (hW : W ≤ 100000) {set : Nat} (hs : set < 2 ^ n) : ∃ M', m_X6_standsStill fu M (nI set) = some (if stillB V n set = true then 1 else 0, M') ∧ vM M' = V := by
  have h10 := h.1.2.2
  have h2 := h.1.2.1
  have hs10 : set < 2 ^ 10 := Nat.lt_of_lt_of_le hs (Nat.pow_le_pow_right (by decide) h10)
  obtain ⟨M1, e1, e2, e3⟩ := lp_up (body := b_X6_standsStill_2 fu (nI set)) n (fun i s => s.1 = nI i ∧ vM s.2 = V ∧ ∀ f, f < i → rd s.2 176 f = if set.testBit f then 1 else 0) (fun x => vM x = V ∧ ∀ f, f < n → rd x 176 f = if set.testBit f then 1 else 0)
    (fun i s hi hs => by
      obtain ⟨s1, s2⟩ := s
      obtain ⟨e1, e2, e3⟩ := hs
      dsimp only at e1 e2 e3
      subst e1
      left
      unfold b_X6_standsStill_2
      rw [un2_is, (m_n e2).trans h.1.1, if_neg (nI_ge hi (by omega)), chk_is (inb_nI (by omega : i < 10) (by decide)), row_bit (by omega) (by omega), ix_nI (by omega), bnd_is, bnd_is, nI_1]
      refine ⟨_, rfl, rfl, ?_, fun f hf => ?_⟩
      · show vM (wr s2 176 i _) = V
        rw [vM_out (by omega)]; exact e2
      · show rd (wr s2 176 i _) 176 f = _
        rw [rd_wr]
        by_cases q : f = i
        · subst q; rw [if_pos ⟨rfl, rfl⟩]
        · rw [if_neg (fun z => q z.2)]; exact e3 f (by omega))
    (fun s hs => by
      obtain ⟨s1, s2⟩ := s
      obtain ⟨e1, e2⟩ := hs
      dsimp only at e1 e2
      subst e1
      exact ⟨s2, by unfold b_X6_standsStill_2; rw [un2_is, (m_n e2.1).trans h.1.1, if_pos (nI_le (Nat.le_refl _) (by omega))], e2⟩)
    fu 0 (0, M) (by omega) (by omega) ⟨rfl, hV, fun f hf => absurd hf (Nat.not_lt_zero _)⟩
  have body : ∀ i (M2 : Mem), i < n → vM M2 = V → (∀ f, f < n → rd M2 176 f = if set.testBit f then 1 else 0) → ∃ M3, b_X6_standsStill_29 fu (nI i, M2) = some (if (set.testBit i || !temptS V n set i) = true then .inl (nI (i + 1), M3) else .inr (.inl M3)) ∧ vM M3 = V ∧ ((set.testBit i || !temptS V n set i) = true → ∀ f, f < n → rd M3 176 f = if set.testBit f then 1 else 0) := by
    intro i M2 hi q1 q2
    have nl : lfN n i ≠ i := by unfold lfN; split <;> omega
    have nr : rtN n i ≠ i := by unfold rtN; split <;> omega
    have hb := inb_nI (by omega : i < 10) (by decide : 10 ≤ 2 ^ 31)
    have hx := ix_nI (by omega : i < 2 ^ 31)
    unfold b_X6_standsStill_29
    rw [un2_is, (m_n q1).trans h.1.1, if_neg (nI_ge hi (by omega)), chk_is hb, hx, q2 i hi]
    by_cases z : set.testBit i = true
    · refine ⟨M2, ?_, q1, fun _ => q2⟩
      rw [if_pos (show (if set.testBit i = true then (1 : Int32) else 0) = 1 by simp [z]), if_pos (show (set.testBit i || !temptS V n set i) = true by simp [z]), bnd_is, nI_1]
    · have z' : set.testBit i = false := by simpa using z
      rw [if_neg (by simp [z'])]
      simp only [z', Bool.false_or]
      have own : rd M2 176 i = 0 := by rw [q2 i hi]; simp [z']
      have hl := q2 _ (lfN_lt hi)
      have hr := q2 _ (rtN_lt hi)
      have L01 : rd M2 176 (lfN n i) = 0 ∨ rd M2 176 (lfN n i) = 1 := by rw [hl]; split <;> simp
      have R01 : rd M2 176 (rtN n i) = 0 ∨ rd M2 176 (rtN n i) = 1 := by rw [hr]; split <;> simp
      have va : m_X6_valueOf M2 (nI i) = some (meanS V n i 0 0 0) := by
        rw [mval_is q1 h hW hi (by rw [own]; decide), own, mean0 V n i L01 R01]
      have vd : ∀ (M3 : Mem) (d : Int32), vM M3 = V → (∀ j, j ≠ i → rd M3 176 j = rd M2 176 j) → (d = 2 ∨ d = 3) → m_X6_valueOf (wr M3 176 i d) (nI i) = some (meanS V n i (rd M2 176 (lfN n i)) d (rd M2 176 (rtN n i))) := by
        intro M3 d g1 g2 g3
        have ef : rd (wr M3 176 i d) 176 i = d := by rw [rd_wr, if_pos ⟨rfl, rfl⟩]
        rw [mval_is (by rw [vM_out (by omega)]; exact g1) h hW hi (by rw [ef]; grind), ef, rd_wr, if_neg (fun z => nl z.2), rd_wr, if_neg (fun z => nr z.2), g2 _ nl, g2 _ nr]
      have t2 : tp V n i (rd M2 176 (lfN n i)) 2 = (if set.testBit (lfN n i) then tp V n i 1 2 else tp V n i 0 2) := by rw [hl]; split <;> rfl
      have t3 : tp V n i (rd M2 176 (rtN n i)) 3 = (if set.testBit (rtN n i) then tp V n i 1 3 else tp V n i 0 3) := by rw [hr]; split <;> rfl
      have tt : temptS V n set i = (tp V n i (rd M2 176 (lfN n i)) 2 || tp V n i (rd M2 176 (rtN n i)) 3) := by rw [t2, t3]; rfl
      have p2 : tp V n i (rd M2 176 (lfN n i)) 2 = decide (¬ meanS V n i (rd M2 176 (lfN n i)) 2 (rd M2 176 (rtN n i)) ≤ meanS V n i 0 0 0) := by rw [mean2 V n i L01 R01]; rfl
      have p3 : tp V n i (rd M2 176 (rtN n i)) 3 = decide (¬ meanS V n i (rd M2 176 (lfN n i)) 3 (rd M2 176 (rtN n i)) ≤ meanS V n i 0 0 0) := by rw [mean3 V n i L01 R01]; rfl
      rw [va, some_bind, tt, p2, p3]
      have w2 := vd M2 2 q1 (fun _ _ => rfl) (Or.inl rfl)
      generalize hA : meanS V n i (rd M2 176 (lfN n i)) 2 (rd M2 176 (rtN n i)) = A at w2 ⊢
      have k1 : vM (wr (wr M2 176 i 2) 176 i 0) = V := by rw [vM_out (by omega), vM_out (by omega)]; exact q1
      have k2 : ∀ j, j ≠ i → rd (wr (wr M2 176 i 2) 176 i 0) 176 j = rd M2 176 j := fun j hj => by rw [rd_wr, if_neg (fun z => hj z.2), rd_wr, if_neg (fun z => hj z.2)]
      have w3 := vd _ 3 k1 k2 (Or.inr rfl)
      generalize hB : meanS V n i (rd M2 176 (lfN n i)) 3 (rd M2 176 (rtN n i)) = B at w3 ⊢
      generalize meanS V n i 0 0 0 = Z
      obtain ⟨fu', hfu'⟩ : ∃ k, fu = k + 1 + 1 + 1 := ⟨fu - 3, by omega⟩
      have r2 : b_X6_standsStill_59 fu (nI i) Z (2, M2) = some (if A ≤ Z then .inl (3, wr (wr M2 176 i 2) 176 i 0) else .inr (.inl (wr (wr M2 176 i 2) 176 i 0))) := by
        unfold b_X6_standsStill_59 j_X6_standsStill_87i
        simp only [un2_is, hb, chk_t, hx, bnd_is, w2, some_bind]
        rw [if_neg (by decide)]
        by_cases y : A ≤ Z
        · rw [if_pos y, if_pos y]; rfl
        · rw [if_neg y, if_neg y]; rfl
      have r3 : b_X6_standsStill_59 fu (nI i) Z (3, wr (wr M2 176 i 2) 176 i 0) = some (if B ≤ Z then .inl (4, wr (wr (wr (wr M2 176 i 2) 176 i 0) 176 i 3) 176 i 0) else .inr (.inl (wr (wr (wr (wr M2 176 i 2) 176 i 0) 176 i 3) 176 i 0))) := by
        unfold b_X6_standsStill_59 j_X6_standsStill_87i
        simp only [un2_is, hb, chk_t, hx, bnd_is, w3, some_bind]
        rw [if_neg (by decide)]
        by_cases y : B ≤ Z
        · rw [if_pos y, if_pos y]; rfl
        · rw [if_neg y, if_neg y]; rfl
      by_cases y : A ≤ Z
      · rw [if_pos y] at r2
        by_cases y2 : B ≤ Z
        · rw [if_pos y2] at r3
          have e : lp (b_X6_standsStill_59 fu (nI i) Z) fu (2, M2) = some (.inr (wr (wr (wr (wr M2 176 i 2) 176 i 0) 176 i 3) 176 i 0)) := by
            conv => lhs; rw [show lp (b_X6_standsStill_59 fu (nI i) Z) fu = lp (b_X6_standsStill_59 fu (nI i) Z) (fu' + 1 + 1 + 1) by rw [← hfu']]
            rw [lp_inl r2, lp_inl r3, lp_inr (x := .inr (wr (wr (wr (wr M2 176 i 2) 176 i 0) 176 i 3) 176 i 0)) (by unfold b_X6_standsStill_59; rw [un2_is, if_pos (by decide)])]
          rw [e, some_bind]
          refine ⟨wr (wr (wr (wr M2 176 i 2) 176 i 0) 176 i 3) 176 i 0, ?_, by rw [vM_out (by omega), vM_out (by omega)]; exact k1, fun _ f hf => ?_⟩
          · rw [if_pos (by simp [y, y2]), unS_inr, un1_is, bnd_is, nI_1]
          · by_cases ff : f = i
            · subst ff; rw [rd_wr, if_pos ⟨rfl, rfl⟩]; simp [z']
            · rw [rd_wr, if_neg (fun z => ff z.2), rd_wr, if_neg (fun z => ff z.2), k2 f ff]; exact q2 f hf
        · rw [if_neg y2] at r3
          have e : lp (b_X6_standsStill_59 fu (nI i) Z) fu (2, M2) = some (.inl (wr (wr (wr (wr M2 176 i 2) 176 i 0) 176 i 3) 176 i 0)) := by
            conv => lhs; rw [show lp (b_X6_standsStill_59 fu (nI i) Z) fu = lp (b_X6_standsStill_59 fu (nI i) Z) (fu' + 1 + 1 + 1) by rw [← hfu']]
            rw [lp_inl r2, lp_inr r3]
          rw [e, some_bind]
          refine ⟨wr (wr (wr (wr M2 176 i 2) 176 i 0) 176 i 3) 176 i 0, ?_, by rw [vM_out (by omega), vM_out (by omega)]; exact k1, fun w => ?_⟩
          · rw [if_neg (by simp [y, y2]), unS_inl, un1_is]
          · simp [y, y2] at w
      · rw [if_neg y] at r2
        have e : lp (b_X6_standsStill_59 fu (nI i) Z) fu (2, M2) = some (.inl (wr (wr M2 176 i 2) 176 i 0)) := by
          conv => lhs; rw [show lp (b_X6_standsStill_59 fu (nI i) Z) fu = lp (b_X6_standsStill_59 fu (nI i) Z) (fu' + 1 + 1 + 1) by rw [← hfu']]
          rw [lp_inr r2]
        rw [e, some_bind]
        refine ⟨wr (wr M2 176 i 2) 176 i 0, ?_, k1, fun w => ?_⟩
        · rw [if_neg (by simp [y]), unS_inl, un1_is]
        · simp [y] at w
  obtain ⟨x, f1, f2⟩ := lp_up (body := b_X6_standsStill_29 fu) n (fun i s => s.1 = nI i ∧ vM s.2 = V ∧ (∀ f, f < n → rd s.2 176 f = if set.testBit f then 1 else 0) ∧ allN (fun f => set.testBit f || !temptS V n set f) i = true) (fun x => ∃ M2, (x = if stillB V n set = true then .inr M2 else .inl M2) ∧ vM M2 = V)
    (fun i s hi hs => by
      obtain ⟨s1, s2⟩ := s
      obtain ⟨g1, g2, g3, g⟩ := hs
      dsimp only at g1 g2 g3
      subst g1
      obtain ⟨M3, q1, q2, q3⟩ := body i s2 hi g2 g3
      rw [q1]
      by_cases q : (set.testBit i || !temptS V n set i) = true
      · left
        rw [if_pos q]
        exact ⟨_, rfl, rfl, q2, q3 q, by unfold allN; rw [g, q]; rfl⟩
      · right
        rw [if_neg q]
        refine ⟨_, rfl, M3, ?_, q2⟩
        rw [if_neg]
        unfold stillB
        rw [allN_f hi (by simpa using q)]; decide)
    (fun s hs => by
      obtain ⟨s1, s2⟩ := s
      obtain ⟨g1, g2, g3, g⟩ := hs
      dsimp only at g1 g2 g3
      subst g1
      refine ⟨.inr s2, ?_, s2, ?_, g2⟩
      · unfold b_X6_standsStill_29
        rw [un2_is, (m_n g2).trans h.1.1, if_pos (nI_le (Nat.le_refl _) (by omega))]
      · rw [if_pos]; exact g)
    fu 0 (0, M1) (by omega) (by omega) ⟨rfl, e2, e3, rfl⟩
  obtain ⟨M2, f3, f4⟩ := f2
  refine ⟨M2, ?_, f4⟩
  unfold m_X6_standsStill
  rw [e1, some_bind, un1_is, f1, f3]
  by_cases q : stillB V n set = true
  · rw [if_pos q, if_pos q]; rfl
  · rw [if_neg q, if_neg q]; rfl
theorem mfew_is (hfu : 2000 ≤ fu) (hV : vM M = V) (h : Vok V n W N) (hW : W ≤ 100000) : ∃ M', m_X6_stillSet fu M = some (oI (fwS (stillB V n) (2 ^ n)), M') ∧ vM M' = V := by
  have h10 := h.1.2.2
  have hp : 2 ^ n ≤ 2 ^ 10 := Nat.pow_le_pow_right (by decide) h10
  obtain ⟨x, e1, e2⟩ := lp_up (body := b_X6_stillSet_4 fu) (2 ^ n) (fun i s => s.1 = oI (fwS (stillB V n) i) ∧ s.2.1 = nI i ∧ vM s.2.2 = V) (fun x => x.1 = oI (fwS (stillB V n) (2 ^ n)) ∧ vM x.2 = V)
    (fun i s hi hs => by
      obtain ⟨s1, s2, s3⟩ := s
      obtain ⟨g1, g2, g3⟩ := hs
      dsimp only at g1 g2 g3
      subst g1 g2
      left
      obtain ⟨M1, q1, q2⟩ := mstands_is (fu := fu) (by omega) g3 h hW hi
      unfold b_X6_stillSet_4 j_X6_stillSet_32i
      simp only [un3_is, (m_n g3).trans h.1.1, ish_n n (by omega), if_neg (nI_ge hi (by omega : 2 ^ n < 2 ^ 31)), q1, some_bind, bnd_is, nI_1, un2_is, ones_is (M := s3) (fu := fu) (by omega) (show i < 1024 by omega)]
      rw [fwS_s]
      cases hb : fwS (stillB V n) i with
      | none =>
        rw [fwN_n, oI_n, if_pos rfl]
        by_cases q : stillB V n i = true
        · rw [if_pos q, if_pos q, if_neg (by decide)]; exact ⟨_, rfl, rfl, rfl, q2⟩
        · rw [if_neg q, if_neg q, if_pos rfl]; exact ⟨_, rfl, rfl, rfl, q2⟩
      | some b =>
        have hbl := fwS_lt hb
        have hm : ¬ nI b = -1 := by have := nI_pos' (n := b) (by omega); grind
        rw [fwN_s, oI_s, if_neg hm, ones_is (M := s3) (fu := fu) (by omega) (show b < 1024 by omega)]
        simp only [some_bind]
        have p1 := popN_lt b
        have p2 := popN_lt i
        by_cases w : popN b ≤ popN i
        · rw [if_pos (nI_le w (by omega)), if_neg (by omega)]; exact ⟨_, rfl, rfl, rfl, g3⟩
        · rw [if_neg (nI_ge (by omega) (by omega))]
          by_cases q : stillB V n i = true
          · rw [if_pos q, if_neg (by decide), if_pos ⟨by omega, q⟩]; exact ⟨_, rfl, rfl, rfl, q2⟩
          · rw [if_neg q, if_pos rfl, if_neg (fun z => q z.2)]; exact ⟨_, rfl, rfl, rfl, q2⟩)
    (fun s hs => by
      obtain ⟨s1, s2, s3⟩ := s
      obtain ⟨g1, g2, g3⟩ := hs
      dsimp only at g1 g2 g3
      subst g1 g2
      exact ⟨(oI (fwS (stillB V n) (2 ^ n)), s3), by unfold b_X6_stillSet_4; rw [un3_is, (m_n g3).trans h.1.1, ish_n n (by omega), if_pos (nI_le (Nat.le_refl _) (by omega))], rfl, g3⟩)
    fu 0 ((-1), 0, M) (Nat.zero_le _) (by omega) ⟨rfl, rfl, hV⟩
  obtain ⟨x1, x2⟩ := x
  obtain ⟨g1, g2⟩ := e2
  dsimp only at g1 g2
  subst g1
  exact ⟨x2, by unfold m_X6_stillSet; rw [e1]; rfl, g2⟩
end MSTILL
theorem op_still {fu c : Nat} {M : Mem} (hf : 5000 ≤ fu) (hc : c ≤ 512) (h : Inv c M) : ∃ r M1 M2, m_X5_still fu M = some (r, M1) ∧ m_X6_still fu M1 = some (r, M2) ∧ Inv (c + 1) M2 := by
  obtain ⟨n, L, h1, h2, -⟩ := id h
  obtain ⟨M1, e1, e2, e3⟩ := ctempt_is (fu := fu) (by omega) (rfl : vC 0 M = _) (by decide) h2
  have g1 := fr_m_X0_fillTempted e1
  have eM : vM (wr M1 148 0 0) = vC 0 M := by rw [vM_t0, vM_fr g1 (fun k j z => by unfold w_X0_fillTempted at z; omega), h1]
  obtain ⟨M2, e4, e5⟩ := mfew_is (fu := fu) (by omega) eM h2 (wI_le hc)
  have s1 : m_X5_still fu M = some (oI (fwS (stillB (vC 0 M) n) (2 ^ n)), M1) := by
    unfold m_X5_still m_X0_fewestWatchers
    rw [e1, some_bind, (c_n e3).trans h2.1.1, cfew_is (by omega) h2.1.2.1 h2.1.2.2 e2]; rfl
  have s2 : m_X6_still fu M1 = some (oI (fwS (stillB (vC 0 M) n) (2 ^ n)), M2) := by
    unfold m_X6_still
    rw [bnd_is, e4]; rfl
  refine ⟨_, M1, M2, s1, s2, (h.fr2 (fr_m_X5_still s1) (fr_m_X6_still s2) (fun k j q => ?_) (fun _ _ q => q.elim) (fun k j q => ?_) (fun _ _ q => q.elim)).mono (Nat.le_succ c)⟩
  · unfold w_X5_still at q; unfold keepI keepL keepX keepG keepV keepW; omega
  · unfold w_X6_still at q; unfold keepI keepL keepX keepG keepV keepW; omega
