/-! ===== walls, pact ===== -/
theorem nI_or (a b : Nat) : nI a ||| nI b = nI (a ||| b) := b_ext (fun i hi => by rw [b_or, bt_nI hi, bt_nI hi, bt_nI hi, Nat.testBit_or])
theorem nI_and (a b : Nat) : nI a &&& nI b = nI (a &&& b) := b_ext (fun i hi => by rw [b_and, bt_nI hi, bt_nI hi, bt_nI hi, Nat.testBit_and])
def wlV (V : Vw) (n s : Nat) : Vw := fun a b => if a = 157 ∧ b < n then (if s.testBit b then 1 else 0) else V a b
theorem wlV_ne {V : Vw} {n s a b : Nat} (h : a ≠ 157) : wlV V n s a b = V a b := by unfold wlV; rw [if_neg (fun q => h q.1)]
theorem wlV_wl (V : Vw) (n s t : Nat) : wlV (wlV V n s) n t = wlV V n t := by
  funext a b; unfold wlV; split <;> rfl
def hadN (V : Vw) : Nat → Nat
  | 0 => 0
  | i + 1 => hadN V i ||| (if V 157 i = 1 then 2 ^ i else 0)
theorem hadN_s (V : Vw) (i : Nat) : hadN V (i + 1) = hadN V i ||| (if V 157 i = 1 then 2 ^ i else 0) := rfl
theorem hadN_lt (V : Vw) : ∀ i, hadN V i < 2 ^ i
  | 0 => show 0 < 1 by decide
  | i + 1 => by
    rw [hadN_s]
    have h := hadN_lt V i
    have h2 : 2 ^ (i + 1) = 2 ^ i + 2 ^ i := by rw [Nat.pow_succ]; omega
    apply Nat.or_lt_two_pow
    · omega
    · split
      · have := Nat.two_pow_pos i; omega
      · exact Nat.two_pow_pos _
theorem hadN_bit (V : Vw) : ∀ i b, b < i → (hadN V i).testBit b = decide (V 157 b = 1)
  | 0, _, h => absurd h (Nat.not_lt_zero _)
  | i + 1, b, h => by
    rw [hadN_s]
    rw [Nat.testBit_or]
    by_cases q : b = i
    · subst q
      rw [tb_big (hadN_lt V b) (Nat.le_refl _), Bool.false_or]
      by_cases z : V 157 b = 1
      · rw [if_pos z]; simp [z]
      · rw [if_neg z]; simp [z]
    · rw [hadN_bit V i b (by omega)]
      by_cases z : V 157 i = 1
      · rw [if_pos z, Nat.testBit_two_pow]
        have : ¬ i = b := fun e => q e.symm
        simp [this]
      · rw [if_neg z]; simp
theorem wlV_had {V : Vw} {n : Nat} {W N : Int} (h : Vok V n W N) : wlV V n (hadN V n) = V := by
  funext a b
  unfold wlV
  by_cases q : a = 157 ∧ b < n
  · rw [if_pos q, hadN_bit V n b q.2]
    have := h.2.2.2.2.2.1 b (by have := h.1.2.2; omega)
    obtain ⟨rfl, _⟩ := q
    rcases this with e | e
    · rw [e]; rfl
    · rw [e]; rfl
  · rw [if_neg q]
theorem Vok.wl {V : Vw} {n s : Nat} {W N : Int} (h : Vok V n W N) : Vok (wlV V n s) n W N := by
  obtain ⟨a, b, c, d, e, g, i, j, l, o, p, q⟩ := h
  have r : ∀ x y, x ≠ 157 → wlV V n s x y = V x y := fun x y z => wlV_ne z
  unfold Vok
  simp only [r 148 _ (by decide), r 149 _ (by decide), r 150 _ (by decide), r 152 _ (by decide), r 158 _ (by decide), r 162 _ (by decide)]
  refine ⟨a, b, by rw [tot_same (fun f _ => r 149 f (by decide))]; exact c, d, e, fun f hf => ?_, i, j, l, o, p, q⟩
  unfold wlV
  split
  · split
    · exact Or.inr rfl
    · exact Or.inl rfl
  · exact g f hf
def wtN (o : Option Nat) : Nat := match o with
  | none => 99
  | some b => popN b
noncomputable def fwW (V : Vw) (n s : Nat) : Option Nat := fwS (stillB (wlV V n s) n) (2 ^ n)
noncomputable def wlN (V : Vw) (n k s : Nat) (o : Option (Nat × Nat)) : Option (Nat × Nat) :=
  if popN s ≤ k ∧ s &&& hadN V n = 0 then
    (match o with
    | none => some (s, wtN (fwW V n (s ||| hadN V n)))
    | some p => if wtN (fwW V n (s ||| hadN V n)) < p.2 ∨ wtN (fwW V n (s ||| hadN V n)) = p.2 ∧ popN s < popN p.1 then some (s, wtN (fwW V n (s ||| hadN V n))) else some p)
  else o
noncomputable def wlS (V : Vw) (n k : Nat) : Nat → Option (Nat × Nat)
  | 0 => none
  | s + 1 => wlN V n k s (wlS V n k s)
theorem wlS_s (V : Vw) (n k s : Nat) : wlS V n k (s + 1) = wlN V n k s (wlS V n k s) := rfl
theorem wtN_lt (o : Option Nat) : wtN o ≤ 99 := by
  cases o with
  | none => exact Nat.le_refl _
  | some b => have := popN_lt b; unfold wtN; dsimp only; omega
theorem wlS_lt {V : Vw} {n k : Nat} : ∀ {s : Nat} {p : Nat × Nat}, wlS V n k s = some p → p.1 < s ∧ p.2 ≤ 99
  | 0, _, h => by cases h
  | s + 1, p, h => by
    rw [wlS_s] at h
    unfold wlN at h
    have := wtN_lt (fwW V n (s ||| hadN V n))
    cases hs : wlS V n k s with
    | none =>
      rw [hs] at h
      split at h
      · cases h; exact ⟨Nat.lt_succ_self _, this⟩
      · cases h
    | some q =>
      rw [hs] at h
      have g := wlS_lt hs
      split at h
      · dsimp only at h
        split at h
        · cases h; exact ⟨Nat.lt_succ_self _, this⟩
        · cases h; exact ⟨by omega, g.2⟩
      · cases h; exact ⟨by omega, g.2⟩
theorem wlS_some {V : Vw} {n k : Nat} : ∀ s : Nat, 0 < s → ∃ p, wlS V n k s = some p
  | 0, h => absurd h (Nat.lt_irrefl _)
  | s + 1, _ => by
    rw [wlS_s]
    unfold wlN
    cases hs : wlS V n k s with
    | none =>
      by_cases z : s = 0
      · subst z
        rw [if_pos ⟨Nat.zero_le _, by simp⟩]; exact ⟨_, rfl⟩
      · obtain ⟨p, hp⟩ := wlS_some (V := V) (n := n) (k := k) s (by omega)
        rw [hp] at hs; cases hs
    | some q =>
      split
      · dsimp only
        split
        · exact ⟨_, rfl⟩
        · exact ⟨_, rfl⟩
      · exact ⟨_, rfl⟩
theorem had_step {V : Vw} {i : Nat} (hi : i < 10) (h : V 157 i = 0 ∨ V 157 i = 1) : nI (hadN V i) ||| ishl (V 157 i) (nI i) = nI (hadN V (i + 1)) := by
  rw [hadN_s]
  rcases h with e | e
  · rw [e, if_neg (by decide)]
    have : ishl 0 (nI i) = nI 0 := b_ext (fun j hj => by rw [b_shl i (by omega) 0 hj, b_0]; simp [nI_0, b_0])
    rw [this, nI_or]
  · rw [e, if_pos rfl, ish_n i (by omega), nI_or]
section CW
variable {fu R n : Nat} {M : Mem} {V : Vw} {W N : Int}
theorem chad_is {a : Int32} (hfu : 20 ≤ fu) (hV : vC R M = V) (h : Vok V n W N) : lp (b_X0_findWalls_5 fu R M a) fu (0, 0) = some (nI (hadN V n)) := by
  have h10 := h.1.2.2
  exact lp_fn (body := b_X0_findWalls_5 fu R M a) n (fun i => (nI (hadN V i), nI i)) (nI (hadN V n)) (fun i hi => by
    unfold b_X0_findWalls_5
    rw [un2_is, (c_n hV).trans h.1.1, if_neg (nI_ge hi (by omega)), chk_is (inb_nI (by omega : i < 10) (by decide)), ix_nI (by omega), ix_0, c_wall hV (by omega : i < 10), bnd_is, bnd_is, had_step (by omega) (h.2.2.2.2.2.1 i (by omega)), nI_1]) (by
    unfold b_X0_findWalls_5
    rw [un2_is, (c_n hV).trans h.1.1, if_pos (nI_le (Nat.le_refl _) (by omega))]) fu (by omega)
theorem cbuild_is {s : Nat} (hfu : 20 ≤ fu) (hV : vC R M = V) (h : Vok V n W N) (hs : s < 2 ^ 31) : ∃ M', m_X0_build fu R M (nI s) = some M' ∧ vC R M' = wlV V n s := by
  have h10 := h.1.2.2
  obtain ⟨x, e1, e2⟩ := lp_up (body := b_X0_build_2 fu R (nI s)) n (fun i t => t.1 = nI i ∧ vC R t.2 = wlV V i s) (fun x => vC R x = wlV V n s)
    (fun i t hi ht => by
      obtain ⟨t1, t2⟩ := t
      obtain ⟨g1, g2⟩ := ht
      dsimp only at g1 g2
      subst g1
      left
      unfold b_X0_build_2
      have hn : rd t2 R 0 = nI n := by rw [c_n g2, wlV_ne (by decide)]; exact h.1.1
      rw [un2_is, hn, if_neg (nI_ge hi (by omega)), chk_is (inb_nI (by omega : i < 10) (by decide)), ix_nI (by omega), ix_0, row_bit hs (by omega), bnd_is, bnd_is, nI_1]
      refine ⟨_, rfl, rfl, ?_⟩
      show vC R (wr t2 (R + 18 + i) 0 _) = _
      rw [w_stake (by omega) (by decide), g2]
      funext a b
      unfold vs wlV
      by_cases q : a = 157 ∧ b = i
      · obtain ⟨rfl, rfl⟩ := q
        rw [if_pos (show 157 = 157 ∧ b = b from ⟨rfl, rfl⟩), if_pos (show 157 = 157 ∧ b < b + 1 from ⟨rfl, Nat.lt_succ_self _⟩)]
      · rw [if_neg q]
        by_cases q2 : a = 157 ∧ b < i
        · rw [if_pos q2, if_pos (show a = 157 ∧ b < i + 1 from ⟨q2.1, by omega⟩)]
        · rw [if_neg q2, if_neg (show ¬ (a = 157 ∧ b < i + 1) by omega)])
    (fun t ht => by
      obtain ⟨t1, t2⟩ := t
      obtain ⟨g1, g2⟩ := ht
      dsimp only at g1 g2
      subst g1
      refine ⟨t2, ?_, g2⟩
      unfold b_X0_build_2
      have hn : rd t2 R 0 = nI n := by rw [c_n g2, wlV_ne (by decide)]; exact h.1.1
      rw [un2_is, hn, if_pos (nI_le (Nat.le_refl _) (by omega))])
    fu 0 (0, M) (by omega) (by omega) ⟨rfl, by rw [hV]; funext a b; unfold wlV; rw [if_neg (fun z => absurd z.2 (Nat.not_lt_zero _))]⟩
  exact ⟨x, by unfold m_X0_build; rw [e1]; rfl, e2⟩
/-- what the class's loop has found -/
def WlC (o : Option (Nat × Nat)) (f : Int32) (M : Mem) : Prop := match o with
  | none => f = 0
  | some p => f = 1 ∧ rd M 115 4 = nI p.1 ∧ rd M 115 5 = nI p.2
theorem cwalls_is {k : Nat} (hfu : 5000 ≤ fu) (hV : vC R M = V) (hR : R ≤ 74) (h : Vok V n W N) (hk : k < 4) : ∃ M' p, m_X0_findWalls fu R M (nI k) = some M' ∧ wlS V n k (2 ^ n) = some p ∧ rd M' 115 4 = nI p.1 ∧ rd M' 115 5 = nI p.2 := by
  have h10 := h.1.2.2
  have hp : 2 ^ n ≤ 2 ^ 10 := Nat.pow_le_pow_right (by decide) h10
  have hh := hadN_lt V n
  obtain ⟨x, e1, e2⟩ := lp_up (body := b_X0_findWalls_41 fu R (nI k) (nI (hadN V n))) (2 ^ n) (fun i t => t.2.1 = nI i ∧ (∃ s, vC R t.2.2 = wlV V n s) ∧ WlC (wlS V n k i) t.1 t.2.2) (fun x => ∃ f, WlC (wlS V n k (2 ^ n)) f x)
    (fun i t hi ht => by
      obtain ⟨t1, t2, t3⟩ := t
      obtain ⟨g1, ⟨s0, g2⟩, g3⟩ := ht
      dsimp only at g1 g2 g3
      subst g1
      left
      have hn : rd t3 R 0 = nI n := by rw [c_n g2, wlV_ne (by decide)]; exact h.1.1
      unfold b_X0_findWalls_41
      rw [un3_is, hn, ish_n n (by omega), if_neg (nI_ge hi (by omega)), bitc_is (by omega), some_bind, nI_and, wlS_s]
      have pi := popN_lt i
      by_cases q1 : popN i ≤ k
      · rw [if_neg (nI_nlt q1 (by omega))]
        by_cases q2 : i &&& hadN V n = 0
        · rw [if_pos (by rw [q2]; rfl), nI_or, show hadN V n ||| i = i ||| hadN V n from Nat.or_comm _ _]
          have hsl : i ||| hadN V n < 2 ^ n := Nat.or_lt_two_pow hi hh
          obtain ⟨M1, f1, f2⟩ := cbuild_is (fu := fu) (s := i ||| hadN V n) (by omega) g2 (h.wl (s := s0)) (by omega)
          rw [wlV_wl] at f2
          obtain ⟨M2, f3, f4, f5⟩ := ctempt_is (fu := fu) (by omega) f2 hR (h.wl (s := i ||| hadN V n))
          have k1 := fr_m_X0_build f1
          have k2 := fr_m_X0_fillTempted f3
          have r4 : rd M2 115 4 = rd t3 115 4 := (k2.1 _ _ (by unfold w_X0_fillTempted; omega)).trans (k1.1 _ _ (by unfold w_X0_build; omega))
          have r5 : rd M2 115 5 = rd t3 115 5 := (k2.1 _ _ (by unfold w_X0_fillTempted; omega)).trans (k1.1 _ _ (by unfold w_X0_build; omega))
          have hn2 : rd M2 R 0 = nI n := by rw [c_n f5, wlV_ne (by decide)]; exact h.1.1
          have fw := cfew_is (fu := fu) (by omega) h.1.2.1 h10 f4
          have hw : fwS (stillB (wlV V n (i ||| hadN V n)) n) (2 ^ n) = fwW V n (i ||| hadN V n) := rfl
          rw [hw] at fw
          rw [f1, some_bind, f3, some_bind, hn2, fw, some_bind]
          have wl := wtN_lt (fwW V n (i ||| hadN V n))
          have sel : (if oI (fwW V n (i ||| hadN V n)) = -1 then j_X0_findWalls_114i fu R M2 (nI k) (nI (hadN V n)) t1 (nI i) (nI (popN i)) 99 else (m_J6_bitCount_0f7a4 M2 (oI (fwW V n (i ||| hadN V n)))).bind fun r_25 => j_X0_findWalls_114i fu R M2 (nI k) (nI (hadN V n)) t1 (nI i) (nI (popN i)) r_25) = j_X0_findWalls_114i fu R M2 (nI k) (nI (hadN V n)) t1 (nI i) (nI (popN i)) (nI (wtN (fwW V n (i ||| hadN V n)))) := by
            cases hb : fwW V n (i ||| hadN V n) with
            | none => rw [oI_n, if_pos rfl]; rfl
            | some b =>
              have hbl : b < 2 ^ n := fwS_lt hb
              have hm : ¬ nI b = -1 := by have := nI_pos' (n := b) (by omega); grind
              rw [oI_s, if_neg hm, bitc_is (by omega), some_bind]; rfl
          rw [sel]
          unfold wlN
          rw [if_pos ⟨q1, q2⟩]
          generalize fwW V n (i ||| hadN V n) = ow at wl ⊢
          have hset : ∃ s', j_X0_findWalls_151i fu R M2 (nI k) (nI (hadN V n)) (nI i) (nI (wtN ow)) = some (.inl s') ∧ s'.2.1 = nI (i + 1) ∧ (∃ s, vC R s'.2.2 = wlV V n s) ∧ WlC (some (i, wtN ow)) s'.1 s'.2.2 := by
            unfold j_X0_findWalls_151i
            simp only [bnd_is, nI_1]
            exact ⟨_, rfl, rfl, ⟨_, ww hR (ww hR f5)⟩, rfl, by simp [rd_wr], by simp [rd_wr]⟩
          cases ho : wlS V n k i with
          | none =>
            rw [ho] at g3
            unfold j_X0_findWalls_114i
            rw [if_pos (show t1 = 0 from g3)]
            exact hset
          | some p =>
            rw [ho] at g3
            obtain ⟨g4, g5, g6⟩ := g3
            have hpl := wlS_lt ho
            unfold j_X0_findWalls_114i
            dsimp only
            rw [if_neg (by rw [g4]; decide), r5, g6, r4, g5]
            have keep : (∃ s', (bnd (nI i + 1) fun v => some (Sum.inl (t1, v, M2)) : Option ((Int32 × Int32 × Mem) ⊕ Mem)) = some (.inl s') ∧ s'.2.1 = nI (i + 1) ∧ (∃ s, vC R s'.2.2 = wlV V n s) ∧ WlC (some p) s'.1 s'.2.2) := by
              rw [bnd_is, nI_1]
              exact ⟨_, rfl, rfl, ⟨_, f5⟩, g4, r4.trans g5, r5.trans g6⟩
            by_cases w1 : wtN ow < p.2
            · rw [if_pos (nI_lt w1 (by omega)), if_pos (Or.inl w1)]; exact hset
            · rw [if_neg (nI_nlt (by omega) (by omega))]
              by_cases w2 : wtN ow = p.2
              · have pp := popN_lt p.1
                rw [if_pos (by rw [w2]), bitc_is (by omega), some_bind]
                by_cases w3 : popN p.1 ≤ popN i
                · rw [if_pos (nI_le w3 (by omega)), if_neg (by omega)]; exact keep
                · rw [if_neg (nI_ge (by omega) (by omega)), if_pos (Or.inr ⟨w2, by omega⟩)]; exact hset
              · rw [if_neg (fun z => w2 (nI_inj (by omega) (by omega) z)), if_neg (by omega)]; exact keep
        · rw [if_neg (show ¬ nI (i &&& hadN V n) = 0 from fun z => q2 (nI_inj (Nat.lt_of_le_of_lt Nat.and_le_left (by omega)) (by omega) z)), bnd_is, nI_1]
          refine ⟨_, rfl, rfl, ⟨s0, g2⟩, ?_⟩
          unfold wlN; rw [if_neg (fun z => q2 z.2)]; exact g3
      · rw [if_pos (nI_lt (by omega) (by omega)), bnd_is, nI_1]
        refine ⟨_, rfl, rfl, ⟨s0, g2⟩, ?_⟩
        unfold wlN; rw [if_neg (fun z => q1 z.1)]; exact g3)
    (fun t ht => by
      obtain ⟨t1, t2, t3⟩ := t
      obtain ⟨g1, ⟨s0, g2⟩, g3⟩ := ht
      dsimp only at g1 g2 g3
      subst g1
      refine ⟨t3, ?_, t1, g3⟩
      have hn : rd t3 R 0 = nI n := by rw [c_n g2, wlV_ne (by decide)]; exact h.1.1
      unfold b_X0_findWalls_41
      rw [un3_is, hn, ish_n n (by omega), if_pos (nI_le (Nat.le_refl _) (by omega))])
    fu 0 (0, 0, M) (Nat.zero_le _) (by omega) ⟨rfl, ⟨hadN V n, by rw [wlV_had h]; exact hV⟩, rfl⟩
  obtain ⟨f, e2⟩ := e2
  obtain ⟨p, hp2⟩ := wlS_some (V := V) (n := n) (k := k) (2 ^ n) (Nat.two_pow_pos n)
  rw [hp2] at e2
  refine ⟨x, p, ?_, hp2, e2.2.1, e2.2.2⟩
  unfold m_X0_findWalls
  rw [chad_is (by omega) hV h, some_bind, un1_is, e1]; rfl
end CW
section MW
variable {fu n : Nat} {M : Mem} {V : Vw} {W N : Int}
theorem mhad_is {a b : Int32} (hfu : 20 ≤ fu) (hV : vM M = V) (h : Vok V n W N) : lp (b_X6_walls_32 fu M a b) fu (0, 0) = some (nI (hadN V n)) := by
  have h10 := h.1.2.2
  exact lp_fn (body := b_X6_walls_32 fu M a b) n (fun i => (nI (hadN V i), nI i)) (nI (hadN V n)) (fun i hi => by
    unfold b_X6_walls_32
    rw [un2_is, (m_n hV).trans h.1.1, if_neg (nI_ge hi (by omega)), chk_is (inb_nI (by omega : i < 10) (by decide)), ix_nI (by omega), m_at hV (k := 157) (f := i) (by decide) (by decide) (by omega), bnd_is, bnd_is, had_step (by omega) (h.2.2.2.2.2.1 i (by omega)), nI_1]) (by
    unfold b_X6_walls_32
    rw [un2_is, (m_n hV).trans h.1.1, if_pos (nI_le (Nat.le_refl _) (by omega))]) fu (by omega)
theorem mbuild_is {body : Int32 × Mem → Option ((Int32 × Mem) ⊕ Mem)} {s : Nat} (hfu : 20 ≤ fu) (hV : vM M = V) (h : Vok V n W N) (hs : s < 2 ^ 31)
    (hb : ∀ c M1, body (c, M1) = if rd M1 148 2 ≤ c then some (.inr M1) else chk (inb c 10) (some (.inl (c + 1, wr M1 157 (ix c) ((ishr (nI s) c) &&& 1))))) : ∃ M', lp body fu (0, M) = some M' ∧ vM M' = wlV V n s := by
  have h10 := h.1.2.2
  exact lp_up (body := body) n (fun i t => t.1 = nI i ∧ vM t.2 = wlV V i s) (fun x => vM x = wlV V n s)
    (fun i t hi ht => by
      obtain ⟨t1, t2⟩ := t
      obtain ⟨g1, g2⟩ := ht
      dsimp only at g1 g2
      subst g1
      left
      have hn : rd t2 148 2 = nI n := by rw [m_n g2, wlV_ne (by decide)]; exact h.1.1
      rw [hb, hn, if_neg (nI_ge hi (by omega)), chk_is (inb_nI (by omega : i < 10) (by decide)), ix_nI (by omega), row_bit hs (by omega), nI_1]
      refine ⟨_, rfl, rfl, ?_⟩
      show vM (wr t2 157 i _) = _
      rw [vM_wr (by omega), g2]
      funext a b
      unfold vs wlV
      by_cases q : a = 157 ∧ b = i
      · obtain ⟨rfl, rfl⟩ := q
        rw [if_pos (show 157 = 157 ∧ b = b from ⟨rfl, rfl⟩), if_pos (show 157 = 157 ∧ b < b + 1 from ⟨rfl, Nat.lt_succ_self _⟩)]
      · rw [if_neg q]
        by_cases q2 : a = 157 ∧ b < i
        · rw [if_pos q2, if_pos (show a = 157 ∧ b < i + 1 from ⟨q2.1, by omega⟩)]
        · rw [if_neg q2, if_neg (show ¬ (a = 157 ∧ b < i + 1) by omega)])
    (fun t ht => by
      obtain ⟨t1, t2⟩ := t
      obtain ⟨g1, g2⟩ := ht
      dsimp only at g1 g2
      subst g1
      refine ⟨t2, ?_, g2⟩
      have hn : rd t2 148 2 = nI n := by rw [m_n g2, wlV_ne (by decide)]; exact h.1.1
      rw [hb, hn, if_pos (nI_le (Nat.le_refl _) (by omega))])
    fu 0 (0, M) (by omega) (by omega) ⟨rfl, by rw [hV]; funext a b; unfold wlV; rw [if_neg (fun z => absurd z.2 (Nat.not_lt_zero _))]⟩
def WlM (o : Option (Nat × Nat)) (b l : Int32) : Prop := match o with
  | none => b = -1
  | some p => b = nI p.1 ∧ l = nI p.2
theorem mwalls_is {k : Nat} {a2 : Int32} (hfu : 5000 ≤ fu) (hV : vM M = V) (h : Vok V n W N) (hW : W ≤ 100000) (hk : k < 4) : ∃ M' p s, lp (b_X6_walls_69 fu (nI k) a2 (nI (hadN V n))) fu ((-1), 0, 0, M) = some (nI p.1, nI p.2, M') ∧ wlS V n k (2 ^ n) = some p ∧ vM M' = wlV V n s := by
  have h10 := h.1.2.2
  have hp : 2 ^ n ≤ 2 ^ 10 := Nat.pow_le_pow_right (by decide) h10
  have hh := hadN_lt V n
  obtain ⟨x, e1, e2⟩ := lp_up (body := b_X6_walls_69 fu (nI k) a2 (nI (hadN V n))) (2 ^ n) (fun i t => t.2.2.1 = nI i ∧ (∃ s, vM t.2.2.2 = wlV V n s) ∧ WlM (wlS V n k i) t.1 t.2.1) (fun x => WlM (wlS V n k (2 ^ n)) x.1 x.2.1 ∧ ∃ s, vM x.2.2 = wlV V n s)
    (fun i t hi ht => by
      obtain ⟨t1, t2, t3, t4⟩ := t
      obtain ⟨g1, ⟨s0, g2⟩, g3⟩ := ht
      dsimp only at g1 g2 g3
      subst g1
      left
      have hn : rd t4 148 2 = nI n := by rw [m_n g2, wlV_ne (by decide)]; exact h.1.1
      unfold b_X6_walls_69
      rw [un4_is, hn, ish_n n (by omega), if_neg (nI_ge hi (by omega)), ones_is (by omega) (by omega), some_bind, nI_and, wlS_s]
      have pi := popN_lt i
      by_cases q1 : popN i ≤ k
      · rw [if_neg (nI_nlt q1 (by omega))]
        by_cases q2 : i &&& hadN V n = 0
        · rw [if_pos (by rw [q2]; rfl)]
          have hsl : i ||| hadN V n < 2 ^ n := Nat.or_lt_two_pow hi hh
          obtain ⟨M1, f1, f2⟩ := mbuild_is (fu := fu) (body := b_X6_walls_103 fu (nI k) a2 (nI (hadN V n)) t1 t2 (nI i)) (s := i ||| hadN V n) (by omega) g2 (h.wl (s := s0)) (by omega) (fun c M1 => by unfold b_X6_walls_103; rw [un2_is, nI_or]; rfl)
          rw [wlV_wl] at f2
          obtain ⟨M2, f3, f4⟩ := mfew_is (fu := fu) (by omega) f2 (h.wl (s := i ||| hadN V n)) hW
          have hw : fwS (stillB (wlV V n (i ||| hadN V n)) n) (2 ^ n) = fwW V n (i ||| hadN V n) := rfl
          rw [hw] at f3
          rw [f1, some_bind, un1_is, f3, some_bind, un2_is]
          have wl := wtN_lt (fwW V n (i ||| hadN V n))
          have sel : (if oI (fwW V n (i ||| hadN V n)) = -1 then j_X6_walls_157i fu M2 (nI k) a2 (nI (hadN V n)) t1 t2 (nI i) 99 else (m_X6_ones fu M2 (oI (fwW V n (i ||| hadN V n)))).bind fun r_39 => j_X6_walls_157i fu M2 (nI k) a2 (nI (hadN V n)) t1 t2 (nI i) r_39) = j_X6_walls_157i fu M2 (nI k) a2 (nI (hadN V n)) t1 t2 (nI i) (nI (wtN (fwW V n (i ||| hadN V n)))) := by
            cases hb : fwW V n (i ||| hadN V n) with
            | none => rw [oI_n, if_pos rfl]; rfl
            | some b =>
              have hbl : b < 2 ^ n := fwS_lt hb
              have hm : ¬ nI b = -1 := by have := nI_pos' (n := b) (by omega); grind
              rw [oI_s, if_neg hm, ones_is (by omega) (by omega), some_bind]; rfl
          rw [sel]
          unfold wlN
          rw [if_pos ⟨q1, q2⟩]
          generalize fwW V n (i ||| hadN V n) = ow at wl ⊢
          have hset : ∃ s', (bnd (nI i + 1) fun v => some (Sum.inl (nI i, nI (wtN ow), v, M2)) : Option ((Int32 × Int32 × Int32 × Mem) ⊕ (Int32 × Int32 × Mem))) = some (.inl s') ∧ s'.2.2.1 = nI (i + 1) ∧ (∃ s, vM s'.2.2.2 = wlV V n s) ∧ WlM (some (i, wtN ow)) s'.1 s'.2.1 := by
            rw [bnd_is, nI_1]
            exact ⟨_, rfl, rfl, ⟨_, f4⟩, rfl, rfl⟩
          cases ho : wlS V n k i with
          | none =>
            rw [ho] at g3
            unfold j_X6_walls_157i
            rw [if_pos (show t1 = -1 from g3)]
            exact hset
          | some p =>
            rw [ho] at g3
            obtain ⟨g4, g5⟩ := g3
            have hpl := wlS_lt ho
            have hm : ¬ t1 = -1 := by rw [g4]; have := nI_pos' (n := p.1) (by omega); grind
            unfold j_X6_walls_157i
            dsimp only
            rw [if_neg hm]
            have keep : (∃ s', (bnd (nI i + 1) fun v => some (Sum.inl (t1, t2, v, M2)) : Option ((Int32 × Int32 × Int32 × Mem) ⊕ (Int32 × Int32 × Mem))) = some (.inl s') ∧ s'.2.2.1 = nI (i + 1) ∧ (∃ s, vM s'.2.2.2 = wlV V n s) ∧ WlM (some p) s'.1 s'.2.1) := by
              rw [bnd_is, nI_1]
              exact ⟨_, rfl, rfl, ⟨_, f4⟩, g4, g5⟩
            by_cases w1 : p.2 < wtN ow
            · rw [if_pos (by rw [g5]; exact nI_lt w1 (by omega)), if_neg (by omega)]; exact keep
            · rw [if_neg (by rw [g5]; exact nI_nlt (by omega) (by omega))]
              by_cases w2 : wtN ow = p.2
              · have pp := popN_lt p.1
                rw [if_pos (by rw [g5, w2]), ones_is (by omega) (by omega), some_bind, g4, ones_is (by omega) (by omega), some_bind]
                by_cases w3 : popN i < popN p.1
                · rw [if_pos (nI_lt w3 (by omega)), if_pos (Or.inr ⟨w2, w3⟩)]; exact hset
                · rw [if_neg (nI_nlt (by omega) (by omega)), if_neg (by omega), ← g4]; exact keep
              · rw [if_neg (fun z => w2 (nI_inj (by omega) (by omega) (z.trans g5))), if_pos (Or.inl (by omega))]; exact hset
        · rw [if_neg (show ¬ nI (i &&& hadN V n) = 0 from fun z => q2 (nI_inj (Nat.lt_of_le_of_lt Nat.and_le_left (by omega)) (by omega) z)), bnd_is, nI_1]
          refine ⟨_, rfl, rfl, ⟨s0, g2⟩, ?_⟩
          unfold wlN; rw [if_neg (fun z => q2 z.2)]; exact g3
      · rw [if_pos (nI_lt (by omega) (by omega)), bnd_is, nI_1]
        refine ⟨_, rfl, rfl, ⟨s0, g2⟩, ?_⟩
        unfold wlN; rw [if_neg (fun z => q1 z.1)]; exact g3)
    (fun t ht => by
      obtain ⟨t1, t2, t3, t4⟩ := t
      obtain ⟨g1, ⟨s0, g2⟩, g3⟩ := ht
      dsimp only at g1 g2 g3
      subst g1
      refine ⟨(t1, t2, t4), ?_, g3, s0, g2⟩
      have hn : rd t4 148 2 = nI n := by rw [m_n g2, wlV_ne (by decide)]; exact h.1.1
      unfold b_X6_walls_69
      rw [un4_is, hn, ish_n n (by omega), if_pos (nI_le (Nat.le_refl _) (by omega))])
    fu 0 ((-1), 0, 0, M) (Nat.zero_le _) (by omega) ⟨rfl, ⟨hadN V n, by rw [wlV_had h]; exact hV⟩, rfl⟩
  obtain ⟨x1, x2, x3⟩ := x
  obtain ⟨e2, s, e3⟩ := e2
  obtain ⟨p, hp2⟩ := wlS_some (V := V) (n := n) (k := k) (2 ^ n) (Nat.two_pow_pos n)
  rw [hp2] at e2
  obtain ⟨e4, e5⟩ := e2
  dsimp only at e3 e4 e5
  subst e4 e5
  exact ⟨x3, p, s, e1, hp2, e3⟩
end MW
theorem op_walls {fu c : Nat} {M : Mem} (hf : 5000 ≤ fu) (hc : c ≤ 512) (h : Inv c M) (a b : Int32) : ∃ r M1 M2, m_X5_walls fu M a b = some (r, M1) ∧ m_X6_walls fu M1 a b = some (r, M2) ∧ Inv (c + 1) M2 := by
  obtain ⟨n, L, h1, h2, h3, h4, -⟩ := id h
  by_cases q1 : ¬ a < 0 ∧ ¬ 2 < a
  · by_cases q2 : ¬ b < 0 ∧ ¬ 1 < b
    · obtain ⟨k, hk, rfl⟩ := arg_nI (a := a) (n := 3) q1.1 (by have e : nI 3 = 3 := rfl; grind) (by decide)
      obtain ⟨M1, e1, e2, -, -⟩ := ccopy_is (fu := fu) (P := 74) (R := 0) (by omega) (by omega) h4
      have g1 := fr_m_X4_copy e1
      obtain ⟨M2, p, e3, e4, e5, e6⟩ := cwalls_is (fu := fu) hf e2 (by decide) h2 (show k < 4 by omega)
      have g2 := fr_m_X0_findWalls e3
      have eM : vM (wr M2 148 0 0) = vC 0 M := by
        rw [vM_t0, vM_fr g2 (fun k j z => by unfold w_X0_findWalls at z; omega), vM_fr g1 (fun k j z => by unfold w_X4_copy at z; omega), h1]
      obtain ⟨M3, p', s, e7, e8, e9⟩ := mwalls_is (fu := fu) (a2 := b) hf eM h2 (wI_le hc) (show k < 4 by omega)
      rw [e4] at e8; cases e8
      obtain ⟨M4, f1, f2⟩ := mbuild_is (fu := fu) (body := b_X6_walls_214 fu b (nI (hadN (vC 0 M) n)) (nI p.1) (nI p.2)) (s := hadN (vC 0 M) n) (by omega) e9 (h2.wl (s := s)) (by have := hadN_lt (vC 0 M) n; have := Nat.pow_le_pow_right (n := 2) (by decide) h2.1.2.2; omega) (fun c M1 => by unfold b_X6_walls_214; rw [un2_is]; rfl)
      rw [wlV_wl, wlV_had h2] at f2
      have k1 : nI k ≤ 2 := nI_le (b := 2) (by omega) (by decide)
      obtain ⟨r, s1, s2⟩ : ∃ r, m_X5_walls fu M (nI k) b = some (r, M2) ∧ m_X6_walls fu M2 (nI k) b = some (r, M4) := by
        unfold m_X5_walls m_X6_walls
        simp only [if_neg q1.1, if_neg q1.2, if_neg q2.1, if_pos (show b ≤ 1 by grind), e1, some_bind, e3, bnd_is, isIn_is, tf_0, if_neg (fun z : ¬ (¬ nI k < 0 ∧ ¬ 2 < nI k) => z q1), if_neg (fun z : ¬ (¬ b < 0 ∧ ¬ 1 < b) => z q2), mhad_is (fu := fu) (by omega) eM h2, un1_is, e7, un3_is, f1, e5, e6]
        by_cases z : b = 0
        · exact ⟨nI p.1, by rw [if_pos z], by rw [if_pos z]⟩
        · exact ⟨nI p.2, by rw [if_neg z], by rw [if_neg z]⟩
      have w1 := fr_m_X5_walls s1
      have w2 := fr_m_X6_walls s2
      refine ⟨r, M2, M4, s1, s2, (h.keep ?_ (by rw [f2, h1]) ?_ ?_ ?_ ?_).mono (Nat.le_succ c)⟩
      · rw [vC_fr w2 (fun k j z => by unfold w_X6_walls at z; omega) (fun k j z => z.elim), vC_fr w1 (fun k j z => by unfold w_X5_walls at z; omega) (fun k j z => by unfold v_X5_walls at z; omega)]
      · exact (w1.eql (fun k j z => by unfold v_X5_walls at z; omega)).tr (w2.eql (fun k j z => z.elim))
      · exact (w1.eqs (fun k j z => by unfold w_X5_walls at z; unfold keepL; omega)).tr (w2.eqs (fun k j z => by unfold w_X6_walls at z; unfold keepL; omega))
      · exact (w1.eqs (fun k j z => by unfold w_X5_walls at z; unfold keepX; omega)).tr (w2.eqs (fun k j z => by unfold w_X6_walls at z; unfold keepX; omega))
      · exact (w1.eqs (fun k j z => by unfold w_X5_walls at z; unfold keepG; omega)).tr (w2.eqs (fun k j z => by unfold w_X6_walls at z; unfold keepG; omega))
    · refine ⟨-1, M, wr M 148 0 0, ?_, ?_, h.t0⟩
      · unfold m_X5_walls
        rw [if_neg q1.1, if_neg q1.2]
        by_cases z : b < 0
        · rw [if_pos z]
        · rw [if_neg z, if_neg (by grind)]
      · unfold m_X6_walls
        simp only [bnd_is, isIn_is, some_bind, tf_0, if_neg (fun z : ¬ (¬ a < 0 ∧ ¬ 2 < a) => z q1)]
        rw [if_pos q2]
  · refine ⟨-1, M, wr M 148 0 0, ?_, ?_, h.t0⟩
    · unfold m_X5_walls
      by_cases z : a < 0
      · rw [if_pos z]
      · rw [if_neg z, if_pos (Classical.not_not.mp (fun y => q1 ⟨z, y⟩))]
    · unfold m_X6_walls
      simp only [bnd_is, isIn_is, some_bind, tf_0]
      rw [if_pos q1]
/-! pact -/
theorem meanL (V : Vw) (n f : Nat) {l o r : Int32} (ho : o = 0 ∨ o = 3) (hl : l = 0 ∨ l = 2) : meanS V n f l o r = meanS V n f 0 o r := by
  unfold meanS
  rcases ho with rfl | rfl <;> rcases hl with rfl | rfl <;> simp
noncomputable def holdB (V : Vw) (n f : Nat) (p : Int32) : Bool := decide (¬ 0 < lg_cmp ((meanS V n f 0 3 0 - meanS V n f 0 0 0).toInt64 * (1000 - p).toInt64) (p.toInt64 * (meanS V n f 0 0 0 - meanS V n f 0 3 2).toInt64))
section PACT
variable {fu R n f : Nat} {M : Mem} {V : Vw} {W N : Int}
theorem cholds_is (hV : vC R M = V) (h : Vok V n W N) (hf : f < n) (p : Int32) : m_X0_pactHolds R M (nI f) p = some (if holdB V n f p = true then 1 else 0) := by
  have cm := cmean_is hV h.1.1 h.1.2.2 h.1.2.1 hf h.heavy
  unfold m_X0_pactHolds holdB
  rw [cm, some_bind, cm, some_bind, bnd_is, cm, some_bind, bnd_is]
  by_cases q : 0 < lg_cmp ((meanS V n f 0 3 0 - meanS V n f 0 0 0).toInt64 * (1000 - p).toInt64) (p.toInt64 * (meanS V n f 0 0 0 - meanS V n f 0 3 2).toInt64)
  · rw [if_pos q, if_neg (by simp [q])]
  · rw [if_neg q, if_pos (by simp [q])]
theorem mpactv_is {o x : Int32} (hfu : 20 ≤ fu) (hV : vM M = V) (h : Vok V n W N) (hW : W ≤ 100000) (hf : f < n) (ho : o = 0 ∨ o = 3) (hx : x = 0 ∨ x = 2) : ∃ M', m_X6_pactValue fu M (nI f) o x = some (meanS V n f 0 o x, M') ∧ vM M' = V := by
  have h10 := h.1.2.2
  have h2 := h.1.2.1
  have nr : rtN n f ≠ f := by unfold rtN; split <;> omega
  have nl : lfN n f ≠ f := by unfold lfN; split <;> omega
  have hr := rtN_lt hf
  have hl := lfN_lt hf
  obtain ⟨M1, e1, e2, e3⟩ := lp_up (body := b_X6_pactValue_3 fu (nI f) o x) n (fun i t => t.1 = nI i ∧ vM t.2 = V ∧ ∀ j, j < i → rd t.2 176 j = 0) (fun y => vM y = V ∧ ∀ j, j < n → rd y 176 j = 0)
    (fun i t hi ht => by
      obtain ⟨t1, t2⟩ := t
      obtain ⟨g1, g2, g3⟩ := ht
      dsimp only at g1 g2 g3
      subst g1
      left
      unfold b_X6_pactValue_3
      rw [un2_is, (m_n g2).trans h.1.1, if_neg (nI_ge hi (by omega)), chk_is (inb_nI (by omega : i < 10) (by decide)), ix_nI (by omega), bnd_is, bnd_is, nI_1]
      refine ⟨_, rfl, rfl, ?_, fun j hj => ?_⟩
      · show vM (wr t2 176 i 0) = V
        rw [vM_out (by omega)]; exact g2
      · show rd (wr t2 176 i 0) 176 j = 0
        rw [rd_wr]
        split
        · rfl
        · next z => exact g3 j (by omega))
    (fun t ht => by
      obtain ⟨t1, t2⟩ := t
      obtain ⟨g1, g2⟩ := ht
      dsimp only at g1 g2
      subst g1
      refine ⟨t2, ?_, g2⟩
      unfold b_X6_pactValue_3
      rw [un2_is, (m_n g2.1).trans h.1.1, if_pos (nI_le (Nat.le_refl _) (by omega))])
    fu 0 (0, M) (by omega) (by omega) ⟨rfl, hV, fun j hj => absurd hj (Nat.not_lt_zero _)⟩
  have eM : vM (wr (wr M1 176 (rtN n f) x) 176 f o) = V := by rw [vM_out (by omega), vM_out (by omega)]; exact e2
  have r0 : rd (wr (wr M1 176 (rtN n f) x) 176 f o) 176 f = o := by rw [rd_wr, if_pos ⟨rfl, rfl⟩]
  have r1 : rd (wr (wr M1 176 (rtN n f) x) 176 f o) 176 (rtN n f) = x := by rw [rd_wr, if_neg (fun z => nr z.2), rd_wr, if_pos ⟨rfl, rfl⟩]
  have r2 : rd (wr (wr M1 176 (rtN n f) x) 176 f o) 176 (lfN n f) = 0 ∨ rd (wr (wr M1 176 (rtN n f) x) 176 f o) 176 (lfN n f) = 2 := by
    rw [rd_wr, if_neg (fun z => nl z.2), rd_wr]
    split
    · exact hx
    · exact Or.inl (e3 _ hl)
  refine ⟨wr (wr M1 176 (rtN n f) x) 176 f o, ?_, eM⟩
  unfold m_X6_pactValue
  rw [e1, some_bind, un1_is, mright_is ((m_n e2).trans h.1.1) hf h10, some_bind, chk_is (inb_nI (by omega : rtN n f < 10) (by decide)), ix_nI (by omega), bnd_is, chk_is (inb_nI (by omega : f < 10) (by decide)), ix_nI (by omega), bnd_is, mval_is eM h hW hf (by rw [r0]; grind), some_bind, r0, r1, meanL V n f ho r2]
theorem mholds_is (hfu : 20 ≤ fu) (hV : vM M = V) (h : Vok V n W N) (hW : W ≤ 100000) (hf : f < n) (p : Int32) : ∃ M', m_X6_holds fu M (nI f) p = some (if holdB V n f p = true then 1 else 0, M') ∧ vM M' = V := by
  obtain ⟨M1, e1, e2⟩ := mpactv_is (o := 0) (x := 0) hfu hV h hW hf (Or.inl rfl) (Or.inl rfl)
  obtain ⟨M2, e3, e4⟩ := mpactv_is (o := 3) (x := 0) hfu e2 h hW hf (Or.inr rfl) (Or.inl rfl)
  obtain ⟨M3, e5, e6⟩ := mpactv_is (o := 3) (x := 2) hfu e4 h hW hf (Or.inr rfl) (Or.inr rfl)
  refine ⟨M3, ?_, e6⟩
  unfold m_X6_holds holdB
  rw [e1, some_bind, un2_is, e3, some_bind, un2_is, bnd_is, e5, some_bind, un2_is, bnd_is, Int64.mul_comm ((meanS V n f 0 0 0 - meanS V n f 0 3 2).toInt64) p.toInt64]
  by_cases q : 0 < lg_cmp ((meanS V n f 0 3 0 - meanS V n f 0 0 0).toInt64 * (1000 - p).toInt64) (p.toInt64 * (meanS V n f 0 0 0 - meanS V n f 0 3 2).toInt64)
  · rw [if_pos q, if_neg (by simp [q])]
  · rw [if_neg q, if_pos (by simp [q])]
/-- the first of 0 .. 999 that holds, from i on -/
def fst1 (p : Nat → Bool) (m : Nat) : Nat → Int32
  | 0 => -1
  | d + 1 => if p (m - (d + 1)) = true then nI (m - (d + 1)) else fst1 p m d
theorem fst1_s (p : Nat → Bool) (m d : Nat) : fst1 p m (d + 1) = if p (m - (d + 1)) = true then nI (m - (d + 1)) else fst1 p m d := rfl
theorem cleast_is (hfu : 5000 ≤ fu) (hV : vC R M = V) (h : Vok V n W N) (hf : f < n) : m_X0_leastPatience fu R M (nI f) = some (fst1 (fun p => holdB V n f (nI p)) 1000 1000) := by
  obtain ⟨x, e1, e2⟩ := lp_up (body := b_X0_leastPatience_2 fu R M (nI f)) 1000 (fun i s => s = nI i ∧ fst1 (fun p => holdB V n f (nI p)) 1000 1000 = fst1 (fun p => holdB V n f (nI p)) 1000 (1000 - i)) (fun x => (unS (un1 fun v_9 => some v_9) (un0 (some (-1))) x : Option Int32) = some (fst1 (fun p => holdB V n f (nI p)) 1000 1000))
    (fun i s hi hs => by
      obtain ⟨rfl, g⟩ := hs
      unfold b_X0_leastPatience_2
      rw [un1_is, if_neg (show ¬ (1000 : Int32) ≤ nI i from nI_ge (b := 1000) hi (by decide)), cholds_is hV h hf, some_bind]
      rw [g, show 1000 - i = (999 - i) + 1 by omega]
      rw [fst1_s]
      rw [show 1000 - (999 - i + 1) = i by omega]
      by_cases q : holdB V n f (nI i) = true
      · right
        rw [if_pos q, if_neg (by decide), if_pos q]
        exact ⟨_, rfl, rfl⟩
      · left
        rw [if_neg q, if_pos rfl, if_neg q, bnd_is, nI_1]
        exact ⟨_, rfl, rfl, by rw [show 1000 - (i + 1) = 999 - i by omega]⟩)
    (fun s hs => by
      obtain ⟨rfl, g⟩ := hs
      refine ⟨.inr (), ?_, ?_⟩
      · unfold b_X0_leastPatience_2
        rw [un1_is, if_pos (show (1000 : Int32) ≤ nI 1000 by decide)]
      · rw [g]; rfl)
    fu 0 0 (by omega) (by omega) ⟨rfl, rfl⟩
  unfold m_X0_leastPatience
  rw [e1, some_bind]; exact e2
theorem mleast_is (hfu : 5000 ≤ fu) (hV : vM M = V) (h : Vok V n W N) (hW : W ≤ 100000) (hf : f < n) : ∃ M', (lp (b_X6_pact_49 fu (nI f)) fu (0, M)).bind (unS (un2 fun v_19 M_20 => some (v_19, M_20)) (un1 fun M_21 => some ((-1), M_21))) = some (fst1 (fun p => holdB V n f (nI p)) 1000 1000, M') ∧ vM M' = V := by
  obtain ⟨x, e1, e2⟩ := lp_up (body := b_X6_pact_49 fu (nI f)) 1000 (fun i s => s.1 = nI i ∧ vM s.2 = V ∧ fst1 (fun p => holdB V n f (nI p)) 1000 1000 = fst1 (fun p => holdB V n f (nI p)) 1000 (1000 - i)) (fun x => ∃ M', (unS (un2 fun v_19 M_20 => some (v_19, M_20)) (un1 fun M_21 => some ((-1), M_21)) x : Option (Int32 × Mem)) = some (fst1 (fun p => holdB V n f (nI p)) 1000 1000, M') ∧ vM M' = V)
    (fun i s hi hs => by
      obtain ⟨s1, s2⟩ := s
      obtain ⟨g1, g2, g⟩ := hs
      dsimp only at g1 g2
      subst g1
      obtain ⟨M1, f1, f2⟩ := mholds_is (fu := fu) (by omega) g2 h hW hf (nI i)
      unfold b_X6_pact_49
      rw [un2_is, if_neg (show ¬ (1000 : Int32) ≤ nI i from nI_ge (b := 1000) hi (by decide)), f1, some_bind, un2_is]
      rw [g, show 1000 - i = (999 - i) + 1 by omega]
      rw [fst1_s]
      rw [show 1000 - (999 - i + 1) = i by omega]
      by_cases q : holdB V n f (nI i) = true
      · right
        rw [if_pos q, if_neg (by decide), if_pos q]
        exact ⟨_, rfl, M1, rfl, f2⟩
      · left
        rw [if_neg q, if_pos rfl, if_neg q, bnd_is, nI_1]
        exact ⟨_, rfl, rfl, f2, by rw [show 1000 - (i + 1) = 999 - i by omega]⟩)
    (fun s hs => by
      obtain ⟨s1, s2⟩ := s
      obtain ⟨g1, g2, g⟩ := hs
      dsimp only at g1 g2
      subst g1
      refine ⟨.inr s2, ?_, s2, ?_, g2⟩
      · unfold b_X6_pact_49
        rw [un2_is, if_pos (show (1000 : Int32) ≤ nI 1000 by decide)]
      · rw [g]; rfl)
    fu 0 (0, M) (by omega) (by omega) ⟨rfl, hV, rfl⟩
  obtain ⟨M', e3, e4⟩ := e2
  exact ⟨M', by rw [e1, some_bind]; exact e3, e4⟩
end PACT
theorem op_pact {fu c : Nat} {M : Mem} (hf : 5000 ≤ fu) (hc : c ≤ 512) (h : Inv c M) (a b : Int32) : ∃ r M2, m_X5_pact fu M a b = some r ∧ m_X6_pact fu M a b = some (r, M2) ∧ Inv (c + 1) M2 := by
  obtain ⟨n, L, h1, h2, -⟩ := id h
  have hV : vC 0 M = vM M := h1.symm
  have hn : vM M 148 2 = nI n := by rw [h1]; exact h2.1.1
  have h10 : n ≤ 10 := h2.1.2.2
  have hc0 : rd M 0 0 = nI n := (c_n hV).trans hn
  have hm0 : rd (wr M 148 0 0) 148 2 = nI n := by rw [rd_t0 (by omega)]; exact hn
  have eM : vM (wr M 148 0 0) = vC 0 M := by rw [vM_t0, h1]
  by_cases q : ¬ a < 0 ∧ ¬ nI n ≤ a
  · obtain ⟨f, hf', rfl⟩ := arg_nI q.1 q.2 (by omega)
    by_cases q2 : ¬ b < -1 ∧ ¬ 999 < b
    · have fin : ∀ r M2, m_X5_pact fu M (nI f) b = some r → m_X6_pact fu M (nI f) b = some (r, M2) → ∃ r M2, m_X5_pact fu M (nI f) b = some r ∧ m_X6_pact fu M (nI f) b = some (r, M2) ∧ Inv (c + 1) M2 := fun r M2 s1 s2 => ⟨r, M2, s1, s2, (h.fr2 Fr.rf (fr_m_X6_pact s2) (w1 := fun _ _ => False) (v1 := fun _ _ => False) (fun _ _ q => q.elim) (fun _ _ q => q.elim) (fun k j q => by unfold w_X6_pact at q; unfold keepI keepL keepX keepG keepV keepW; omega) (fun _ _ q => q.elim)).mono (Nat.le_succ c)⟩
      by_cases z : b = -1
      · obtain ⟨M2, e1, -⟩ := mleast_is hf eM h2 (wI_le hc) hf'
        refine fin (fst1 (fun p => holdB (vC 0 M) n f (nI p)) 1000 1000) M2 ?_ ?_
        · unfold m_X5_pact
          simp only [has_is, hc0, some_bind, tf_0, if_neg (fun z : ¬ (¬ nI f < 0 ∧ ¬ nI n ≤ nI f) => z q)]
          rw [if_neg q2.1, if_pos (by grind), if_pos z, cleast_is hf rfl h2 hf']; rfl
        · unfold m_X6_pact
          simp only [bnd_is, isFarm_is, isIn_is, hm0, some_bind, tf_0, if_neg (fun z : ¬ (¬ nI f < 0 ∧ ¬ nI n ≤ nI f) => z q), if_neg (fun z : ¬ (¬ b < -1 ∧ ¬ 999 < b) => z q2)]
          rw [if_pos z]; exact e1
      · obtain ⟨M2, e1, -⟩ := mholds_is (fu := fu) (by omega) eM h2 (wI_le hc) hf' b
        refine fin (if holdB (vC 0 M) n f b = true then 1 else 0) M2 ?_ ?_
        · unfold m_X5_pact
          simp only [has_is, hc0, some_bind, tf_0, if_neg (fun z : ¬ (¬ nI f < 0 ∧ ¬ nI n ≤ nI f) => z q)]
          rw [if_neg q2.1, if_pos (by grind), if_neg z, cholds_is rfl h2 hf', some_bind]
          split <;> rfl
        · unfold m_X6_pact
          simp only [bnd_is, isFarm_is, isIn_is, hm0, some_bind, tf_0, if_neg (fun z : ¬ (¬ nI f < 0 ∧ ¬ nI n ≤ nI f) => z q), if_neg (fun z : ¬ (¬ b < -1 ∧ ¬ 999 < b) => z q2)]
          rw [if_neg z, e1, some_bind, un2_is]
          split <;> rfl
    · refine ⟨-1, wr M 148 0 0, ?_, ?_, h.t0⟩
      · unfold m_X5_pact
        simp only [has_is, hc0, some_bind, tf_0, if_neg (fun z : ¬ (¬ nI f < 0 ∧ ¬ nI n ≤ nI f) => z q)]
        by_cases z : b < -1
        · rw [if_pos z]
        · rw [if_neg z, if_neg (by grind)]
      · unfold m_X6_pact
        simp only [bnd_is, isFarm_is, isIn_is, hm0, some_bind, tf_0, if_neg (fun z : ¬ (¬ nI f < 0 ∧ ¬ nI n ≤ nI f) => z q)]
        rw [if_pos q2]
  · refine ⟨-1, wr M 148 0 0, ?_, ?_, h.t0⟩
    · unfold m_X5_pact
      simp only [has_is, hc0, some_bind, tf_0]
      rw [if_pos q]
    · unfold m_X6_pact
      simp only [bnd_is, isFarm_is, hm0, some_bind, tf_0]
      rw [if_pos q]
