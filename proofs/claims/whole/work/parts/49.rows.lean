/-! ===== rows of doings: value, reply, rests ===== -/
theorem lp_inl {S X : Type} {body : S → Option (S ⊕ X)} {n : Nat} {s s' : S} (h : body s = some (.inl s')) : lp body (n + 1) s = lp body n s' := by
  show (match body s with | none => none | some (.inl s') => lp body n s' | some (.inr x) => some x) = _
  rw [h]
theorem lp_inr {S X : Type} {body : S → Option (S ⊕ X)} {n : Nat} {s : S} {x : X} (h : body s = some (.inr x)) : lp body (n + 1) s = some x := by
  show (match body s with | none => none | some (.inl s') => lp body n s' | some (.inr x) => some x) = _
  rw [h]
theorem lp_more {S X : Type} {body : S → Option (S ⊕ X)} {x : X} : ∀ {n k : Nat} {s : S}, lp body n s = some x → lp body (n + k) s = some x
  | 0, _, _, h => by cases h
  | n + 1, k, s, h => by
    unfold lp at h
    rw [show n + 1 + k = (n + k) + 1 by omega]
    unfold lp
    cases hb : body s with
    | none => rw [hb] at h; cases h
    | some o =>
      rw [hb] at h
      cases o with
      | inl s' => exact lp_more (n := n) h
      | inr y => exact h
def digN (n k f : Nat) : Nat := k / 2 ^ (2 * (n - 1 - f)) % 4
theorem sh_two : ∀ n : Nat, n < 11 → ∀ f : Nat, f < n → 2 * ((nI n - 1) - nI f) = nI (2 * (n - 1 - f)) := by decide +kernel
theorem sh_amt : ∀ m : Nat, m < 32 → ((nI m &&& 31).toBitVec.smod 32).toNat = m := by decide +kernel
theorem rows_n : ∀ n : Nat, n < 11 → ishl 1 (2 * nI n) = nI (2 ^ (2 * n)) := by decide +kernel
theorem cdigit_is {R n k f : Nat} {M : Mem} (hn : rd M R 0 = nI n) (h10 : n ≤ 10) (hf : f < n) (hk : k < 2 ^ 31) : m_X0_digit R M (nI k) (nI f) = some (nI (digN n k f)) := by
  unfold m_X0_digit
  rw [hn, sh_two n (by omega) f hf]
  show some ((nI k >>> (nI (2 * (n - 1 - f)) &&& 31)) &&& 3) = _
  rw [pk_shrN hk _ (2 * (n - 1 - f)) (sh_amt _ (by omega)), pk_andN (Nat.lt_of_le_of_lt (Nat.div_le_self _ _) (by omega)) 2 (by decide)]
  rfl
theorem dig_cases {n k f : Nat} : nI (digN n k f) = 0 ∨ nI (digN n k f) = 1 ∨ nI (digN n k f) = 2 ∨ nI (digN n k f) = 3 := by
  have h : digN n k f < 4 := Nat.mod_lt _ (by decide)
  rcases (by omega : digN n k f = 0 ∨ digN n k f = 1 ∨ digN n k f = 2 ∨ digN n k f = 3) with e | e | e | e <;> rw [e] <;> decide
theorem mtakes_is {fu n k : Nat} {M : Mem} (hf : 20 ≤ fu) (hn : rd M 148 2 = nI n) (h10 : n ≤ 10) (hk : k < 2 ^ 31) : ∃ M', m_X6_takesRow fu M (nI k) = some M' ∧ ∀ f, f < n → rd M' 176 f = nI (digN n k f) := by
  obtain ⟨y, hy, hp⟩ := lp_up (body := b_X6_takesRow_9 fu) n (fun i s => s.1 = nI (k / 2 ^ (2 * i)) ∧ s.2.1 = nI (n - i) - 1 ∧ ∀ f, n - i ≤ f → f < n → rd s.2.2 176 f = nI (digN n k f)) (fun M' => ∀ f, f < n → rd M' 176 f = nI (digN n k f))
    (fun i s hi hs => by
      obtain ⟨s1, s2, s3⟩ := s
      obtain ⟨e1, e2, e3⟩ := hs
      dsimp only at e1 e2 e3
      subst e1 e2
      left
      have hc : nI (n - i) - 1 = nI (n - i - 1) := by rw [show (1 : Int32) = nI 1 from rfl, pk_sub (by omega)]
      have hd : nI (n - i) - 1 + -1 = nI (n - (i + 1)) - 1 := by
        rw [hc, show n - i - 1 = n - (i + 1) by omega]; exact (by grind)
      have hq : k / 2 ^ (2 * i) < 2 ^ 31 := Nat.lt_of_le_of_lt (Nat.div_le_self _ _) hk
      simp only [b_X6_takesRow_9, un3_is, hd, bnd_is]
      simp only [hc, if_neg (nI_pos (show n - i - 1 < 2 ^ 31 by omega)), inb_nI (show n - i - 1 < 10 by omega) (by decide), chk_t, ix_nI (show n - i - 1 < 2 ^ 31 by omega)]
      refine ⟨_, rfl, ?_, rfl, fun f h1 h2 => ?_⟩
      · show nI (k / 2 ^ (2 * i)) / 4 = _
        rw [show (4 : Int32) = nI 4 from rfl, pk_div hq (by decide) (by decide), Nat.div_div_eq_div_mul]
        congr 2
        rw [show 2 * (i + 1) = 2 * i + 2 by omega, Nat.pow_add]
      · show rd (wr s3 176 (n - i - 1) (irem (nI (k / 2 ^ (2 * i))) 4)) 176 f = _
        rw [rd_wr]
        by_cases q : f = n - i - 1
        · rw [if_pos ⟨rfl, q⟩]
          show nI (k / 2 ^ (2 * i)) - nI (k / 2 ^ (2 * i)) / nI 4 * nI 4 = _
          rw [pk_rem hq (by decide) (by decide)]
          unfold digN
          rw [show n - 1 - f = i by omega]
        · rw [if_neg (fun z => q z.2)]; exact e3 f (by omega) h2)
    (fun s hs => by
      obtain ⟨s1, s2, s3⟩ := s
      obtain ⟨e1, e2, e3⟩ := hs
      dsimp only at e1 e2 e3
      subst e1 e2
      refine ⟨s3, ?_, fun f h => e3 f (by omega) h⟩
      simp only [b_X6_takesRow_9, un3_is]
      rw [if_pos (by rw [Nat.sub_self]; decide)])
    fu 0 (nI k, nI n - 1, M) (by omega) (by omega) ⟨by simp, rfl, fun f h1 h2 => by omega⟩
  refine ⟨y, ?_, hp⟩
  unfold m_X6_takesRow
  rw [bnd_is, hn, hy]; rfl
/-- VALUE of row k for farm f -/
noncomputable def rowS (V : Vw) (n k f : Nat) : Int32 := meanS V n f (nI (digN n k (lfN n f))) (nI (digN n k f)) (nI (digN n k (rtN n f)))
theorem c_row_is {R n k f : Nat} {M : Mem} {V : Vw} {W N : Int} (hV : vC R M = V) (h : Vok V n W N) (hf : f < n) (hk : k < 2 ^ 31) : m_X0_meanInRow R M (nI k) (nI f) = some (rowS V n k f) := by
  have hR : rd M R 0 = nI n := (c_n hV).trans h.1.1
  have h10 := h.1.2.2
  unfold m_X0_meanInRow rowS
  rw [cleft_is hR hf h10, some_bind, cdigit_is hR h10 (lfN_lt hf) hk, some_bind, cdigit_is hR h10 hf hk, some_bind, cright_is hR hf h10, some_bind, cdigit_is hR h10 (rtN_lt hf) hk, some_bind, cmean_is hV h.1.1 h10 h.1.2.1 hf h.heavy, some_bind]
theorem m_row_is {n k f : Nat} {M : Mem} {V : Vw} {W N : Int} (hV : vM M = V) (h : Vok V n W N) (hW : W ≤ 100000) (hf : f < n) (hr : ∀ j, j < n → rd M 176 j = nI (digN n k j)) : m_X6_valueOf M (nI f) = some (rowS V n k f) := by
  rw [mval_is hV h hW hf (by rw [hr f hf]; exact dig_cases), hr f hf, hr _ (lfN_lt hf), hr _ (rtN_lt hf)]; rfl
theorem wI_le {c : Nat} (h : c ≤ 512) : wI c ≤ 100000 := by unfold wI; omega
theorem op_value {fu c : Nat} {M : Mem} (hf : 20 ≤ fu) (hc : c ≤ 512) (h : Inv c M) (a b : Int32) : ∃ r M2, m_X5_value M a b = some r ∧ m_X6_value fu M a b = some (r, M2) ∧ Inv (c + 1) M2 := by
  obtain ⟨n, L, h1, h2, -⟩ := id h
  have hV : vC 0 M = vM M := h1.symm
  have hn : vM M 148 2 = nI n := by rw [h1]; exact h2.1.1
  have h10 : n ≤ 10 := h2.1.2.2
  have hc0 : rd M 0 0 = nI n := (c_n hV).trans hn
  have hm0 : rd (wr M 148 0 0) 148 2 = nI n := by rw [rd_t0 (by omega)]; exact hn
  have hp : 2 ^ (2 * n) ≤ 2 ^ 20 := Nat.pow_le_pow_right (by decide) (by omega)
  by_cases q : ¬ b < 0 ∧ ¬ nI n ≤ b
  · obtain ⟨f, hf', rfl⟩ := arg_nI q.1 q.2 (by omega)
    by_cases q2 : ¬ a < 0 ∧ ¬ nI (2 ^ (2 * n)) ≤ a
    · obtain ⟨k, hk, rfl⟩ := arg_nI q2.1 q2.2 (by omega)
      obtain ⟨M1, e1, e2⟩ := mtakes_is (M := wr M 148 0 0) hf hm0 h10 (show k < 2 ^ 31 by omega)
      have g1 := fr_m_X6_takesRow e1
      have eM : vM M1 = vC 0 M := by rw [vM_fr g1 (fun k j z => by unfold w_X6_takesRow at z; omega), vM_t0, h1]
      have s2 : m_X6_value fu M (nI k) (nI f) = some (rowS (vC 0 M) n k f, M1) := by
        unfold m_X6_value m_X6_isRow
        simp only [bnd_is, hm0, rows_n n (by omega), if_neg q2.1, if_neg q2.2, some_bind, isFarm_is, tf_0, if_neg (fun z : ¬ (¬ nI f < 0 ∧ ¬ nI n ≤ nI f) => z q), e1, m_row_is eM h2 (wI_le hc) hf' e2]
        rfl
      refine ⟨_, _, ?_, s2, (h.fr2 Fr.rf (fr_m_X6_value s2) (w1 := fun _ _ => False) (v1 := fun _ _ => False) (fun _ _ q => q.elim) (fun _ _ q => q.elim) (fun k j q => by unfold w_X6_value at q; unfold keepI keepL keepX keepG keepV keepW; omega) (fun _ _ q => q.elim)).mono (Nat.le_succ c)⟩
      unfold m_X5_value m_X4_hasRow
      simp only [has_is, hc0, rows_n n (by omega), if_neg q2.1, if_neg q2.2, some_bind, tf_0, if_neg (fun z : ¬ (¬ nI f < 0 ∧ ¬ nI n ≤ nI f) => z q), c_row_is rfl h2 hf' (show k < 2 ^ 31 by omega)]
      rfl
    · refine ⟨-100000000, wr M 148 0 0, ?_, ?_, h.t0⟩
      · unfold m_X5_value m_X4_hasRow
        simp only [has_is, hc0, rows_n n (by omega), some_bind, tf_0, if_neg (fun z : ¬ (¬ nI f < 0 ∧ ¬ nI n ≤ nI f) => z q)]
        by_cases q3 : a < 0
        · rw [if_pos q3]; rfl
        · rw [if_neg q3, if_pos (Classical.not_not.mp (fun z => q2 ⟨q3, z⟩))]; rfl
      · unfold m_X6_value m_X6_isRow
        simp only [bnd_is, hm0, rows_n n (by omega)]
        by_cases q3 : a < 0
        · rw [if_pos q3]; rfl
        · rw [if_neg q3, if_pos (Classical.not_not.mp (fun z => q2 ⟨q3, z⟩))]; rfl
  · refine ⟨-100000000, wr M 148 0 0, ?_, ?_, h.t0⟩
    · unfold m_X5_value
      simp only [has_is, hc0, some_bind, tf_0]
      rw [if_pos q]
    · unfold m_X6_value m_X6_isRow
      simp only [bnd_is, hm0, rows_n n (by omega), isFarm_is, some_bind, tf_0]
      by_cases q3 : a < 0
      · rw [if_pos q3]; rfl
      · rw [if_neg q3]
        by_cases q4 : nI (2 ^ (2 * n)) ≤ a
        · rw [if_pos q4]; rfl
        · rw [if_neg q4]
          simp only [some_bind]
          rw [if_neg (by decide), if_pos q]
/-! the best reply: the doing and its value -/
def bst (m : Int32 → Int32) : Int32 × Int32 :=
  let b1 : Int32 × Int32 := if m 0 < m 1 then (1, m 1) else (0, m 0)
  let b2 : Int32 × Int32 := if b1.2 < m 2 then (2, m 2) else b1
  if b2.2 < m 3 then (3, m 3) else b2
theorem bst_of (m : Int32 → Int32) : (bst m).2 = m (bst m).1 ∧ ((bst m).1 = 0 ∨ (bst m).1 = 1 ∨ (bst m).1 = 2 ∨ (bst m).1 = 3) := by
  unfold bst; grind
theorem nI3 : nI 0 = 0 ∧ nI 1 = 1 ∧ nI 2 = 2 ∧ nI 3 = 3 := ⟨rfl, rfl, rfl, rfl⟩
theorem mreply_is {fu n f : Nat} {M : Mem} {V : Vw} {W N : Int} (hfu : 20 ≤ fu) (hV : vM M = V) (h : Vok V n W N) (hW : W ≤ 100000) (hf : f < n) : ∃ M', m_X6_replyOf fu M (nI f) = some ((bst (fun d => meanS V n f (rd M 176 (lfN n f)) d (rd M 176 (rtN n f)))).1, M') ∧ (∀ j, rd M' 176 j = rd M 176 j) ∧ vM M' = V := by
  have h10 := h.1.2.2
  have h2 := h.1.2.1
  have nl : lfN n f ≠ f := by unfold lfN; split <;> omega
  have nr : rtN n f ≠ f := by unfold rtN; split <;> omega
  have hb := inb_nI (show f < 10 by omega) (by decide : 10 ≤ 2 ^ 31)
  have hx := ix_nI (show f < 2 ^ 31 by omega)
  generalize hl : rd M 176 (lfN n f) = l
  generalize hr : rd M 176 (rtN n f) = r
  have val : ∀ (M1 : Mem) (d : Int32), vM M1 = V → rd M1 176 (lfN n f) = l → rd M1 176 (rtN n f) = r → (d = 0 ∨ d = 1 ∨ d = 2 ∨ d = 3) → m_X6_valueOf (wr M1 176 f d) (nI f) = some (meanS V n f l d r) := by
    intro M1 d e1 e2 e3 e4
    have ef : rd (wr M1 176 f d) 176 f = d := by rw [rd_wr, if_pos ⟨rfl, rfl⟩]
    rw [mval_is (by rw [vM_out (by omega)]; exact e1) h hW hf (by rw [ef]; exact e4), ef, rd_wr, if_neg (fun z => nl z.2), rd_wr, if_neg (fun z => nr z.2), e2, e3]
  have keep : ∀ (M1 : Mem) (d : Int32), vM M1 = V → rd M1 176 (lfN n f) = l → rd M1 176 (rtN n f) = r → vM (wr M1 176 f d) = V ∧ rd (wr M1 176 f d) 176 (lfN n f) = l ∧ rd (wr M1 176 f d) 176 (rtN n f) = r := by
    intro M1 d e1 e2 e3
    refine ⟨by rw [vM_out (by omega)]; exact e1, ?_, ?_⟩
    · rw [rd_wr, if_neg (fun z => nl z.2)]; exact e2
    · rw [rd_wr, if_neg (fun z => nr z.2)]; exact e3
  obtain ⟨k, rfl⟩ : ∃ k, fu = k + 1 + 1 + 1 + 1 + 1 := ⟨fu - 5, by omega⟩
  have k0 := keep M 0 hV hl hr
  have k1 := keep _ 1 k0.1 k0.2.1 k0.2.2
  have k2 := keep _ 2 k1.1 k1.2.1 k1.2.2
  have k3 := keep _ 3 k2.1 k2.2.1 k2.2.2
  have v0 := val M 0 hV hl hr (by decide)
  have v1 := val _ 1 k0.1 k0.2.1 k0.2.2 (by decide)
  have v2 := val _ 2 k1.1 k1.2.1 k1.2.2 (by decide)
  have v3 := val _ 3 k2.1 k2.2.1 k2.2.2 (by decide)
  unfold m_X6_replyOf bst
  simp only [hb, chk_t, hx, bnd_is]
  rw [lp_inl (s' := ((0 : Int32), meanS V n f l 0 r, (1 : Int32), wr M 176 f 0)) (by simp only [b_X6_replyOf_15, un4_is, hb, chk_t, hx, bnd_is, v0, some_bind]; rfl)]
  rw [lp_inl (s' := ((if meanS V n f l 0 r < meanS V n f l 1 r then ((1 : Int32), meanS V n f l 1 r) else (0, meanS V n f l 0 r)).1, (if meanS V n f l 0 r < meanS V n f l 1 r then ((1 : Int32), meanS V n f l 1 r) else (0, meanS V n f l 0 r)).2, (2 : Int32), wr (wr M 176 f 0) 176 f 1)) (by
    simp only [b_X6_replyOf_15, un4_is, hb, chk_t, hx, bnd_is, v1, some_bind]
    rw [if_neg (by decide), if_neg (by decide)]
    split <;> rfl)]
  generalize (if meanS V n f l 0 r < meanS V n f l 1 r then ((1 : Int32), meanS V n f l 1 r) else (0, meanS V n f l 0 r)) = b1
  rw [lp_inl (s' := ((if b1.2 < meanS V n f l 2 r then ((2 : Int32), meanS V n f l 2 r) else b1).1, (if b1.2 < meanS V n f l 2 r then ((2 : Int32), meanS V n f l 2 r) else b1).2, (3 : Int32), wr (wr (wr M 176 f 0) 176 f 1) 176 f 2)) (by
    simp only [b_X6_replyOf_15, un4_is, hb, chk_t, hx, bnd_is, v2, some_bind]
    rw [if_neg (by decide), if_neg (by decide)]
    split <;> rfl)]
  generalize (if b1.2 < meanS V n f l 2 r then ((2 : Int32), meanS V n f l 2 r) else b1) = b2
  rw [lp_inl (s' := ((if b2.2 < meanS V n f l 3 r then ((3 : Int32), meanS V n f l 3 r) else b2).1, (if b2.2 < meanS V n f l 3 r then ((3 : Int32), meanS V n f l 3 r) else b2).2, (4 : Int32), wr (wr (wr (wr M 176 f 0) 176 f 1) 176 f 2) 176 f 3)) (by
    simp only [b_X6_replyOf_15, un4_is, hb, chk_t, hx, bnd_is, v3, some_bind]
    rw [if_neg (by decide), if_neg (by decide)]
    split <;> rfl)]
  rw [lp_inr (x := ((if b2.2 < meanS V n f l 3 r then ((3 : Int32), meanS V n f l 3 r) else b2).1, wr (wr (wr (wr M 176 f 0) 176 f 1) 176 f 2) 176 f 3)) (by simp only [b_X6_replyOf_15, un4_is]; rfl)]
  refine ⟨_, rfl, fun j => ?_, ?_⟩
  · rw [rd_wr]
    by_cases q : j = f
    · subst q; rw [if_pos ⟨rfl, rfl⟩]
    · rw [if_neg (fun z => q z.2)]
      simp [rd_wr, q]
  · rw [vM_out (by omega)]; exact k3.1
theorem cbest_is {fu R n k f : Nat} {M : Mem} {V : Vw} {W N : Int} (hfu : 20 ≤ fu) (hV : vC R M = V) (h : Vok V n W N) (hf : f < n) (hk : k < 2 ^ 31) : m_X0_bestDoing fu R M (nI k) (nI f) = some (bst (fun d => meanS V n f (nI (digN n k (lfN n f))) d (nI (digN n k (rtN n f))))).1 := by
  have hR : rd M R 0 = nI n := (c_n hV).trans h.1.1
  have h10 := h.1.2.2
  have cm := cmean_is hV h.1.1 h10 h.1.2.1 hf h.heavy
  obtain ⟨fu, rfl⟩ : ∃ k, fu = k + 1 + 1 + 1 + 1 := ⟨fu - 4, by omega⟩
  unfold m_X0_bestDoing bst
  simp only [cleft_is hR hf h10, cright_is hR hf h10, some_bind, cdigit_is hR h10 (lfN_lt hf) hk, cdigit_is hR h10 (rtN_lt hf) hk, cm]
  generalize nI (digN n k (lfN n f)) = l
  generalize nI (digN n k (rtN n f)) = r
  rw [lp_inl (s' := ((if meanS V n f l 0 r < meanS V n f l 1 r then ((1 : Int32), meanS V n f l 1 r) else (0, meanS V n f l 0 r)).1, (if meanS V n f l 0 r < meanS V n f l 1 r then ((1 : Int32), meanS V n f l 1 r) else (0, meanS V n f l 0 r)).2, (2 : Int32))) (by
    simp only [b_X0_bestDoing_40, un3_is, cm, bnd_is, some_bind]
    rw [if_neg (by decide)]
    by_cases q : meanS V n f l 0 r < meanS V n f l 1 r
    · rw [if_pos q, if_neg (by grind)]; rfl
    · rw [if_neg q, if_pos (by grind)]; rfl)]
  generalize (if meanS V n f l 0 r < meanS V n f l 1 r then ((1 : Int32), meanS V n f l 1 r) else (0, meanS V n f l 0 r)) = b1
  rw [lp_inl (s' := ((if b1.2 < meanS V n f l 2 r then ((2 : Int32), meanS V n f l 2 r) else b1).1, (if b1.2 < meanS V n f l 2 r then ((2 : Int32), meanS V n f l 2 r) else b1).2, (3 : Int32))) (by
    simp only [b_X0_bestDoing_40, un3_is, cm, bnd_is, some_bind]
    rw [if_neg (by decide)]
    by_cases q : b1.2 < meanS V n f l 2 r
    · rw [if_pos q, if_neg (by grind)]; rfl
    · rw [if_neg q, if_pos (by grind)]; rfl)]
  generalize (if b1.2 < meanS V n f l 2 r then ((2 : Int32), meanS V n f l 2 r) else b1) = b2
  rw [lp_inl (s' := ((if b2.2 < meanS V n f l 3 r then ((3 : Int32), meanS V n f l 3 r) else b2).1, (if b2.2 < meanS V n f l 3 r then ((3 : Int32), meanS V n f l 3 r) else b2).2, (4 : Int32))) (by
    simp only [b_X0_bestDoing_40, un3_is, cm, bnd_is, some_bind]
    rw [if_neg (by decide)]
    by_cases q : b2.2 < meanS V n f l 3 r
    · rw [if_pos q, if_neg (by grind)]; rfl
    · rw [if_neg q, if_pos (by grind)]; rfl)]
  rw [lp_inr (x := (if b2.2 < meanS V n f l 3 r then ((3 : Int32), meanS V n f l 3 r) else b2).1) (by simp only [b_X0_bestDoing_40, un3_is]; rfl)]
  rfl
theorem op_reply {fu c : Nat} {M : Mem} (hf : 20 ≤ fu) (hc : c ≤ 512) (h : Inv c M) (a b : Int32) : ∃ r M2, m_X5_reply fu M a b = some r ∧ m_X6_reply fu M a b = some (r, M2) ∧ Inv (c + 1) M2 := by
  obtain ⟨n, L, h1, h2, -⟩ := id h
  have hV : vC 0 M = vM M := h1.symm
  have hn : vM M 148 2 = nI n := by rw [h1]; exact h2.1.1
  have h10 : n ≤ 10 := h2.1.2.2
  have hc0 : rd M 0 0 = nI n := (c_n hV).trans hn
  have hm0 : rd (wr M 148 0 0) 148 2 = nI n := by rw [rd_t0 (by omega)]; exact hn
  have hp : 2 ^ (2 * n) ≤ 2 ^ 20 := Nat.pow_le_pow_right (by decide) (by omega)
  by_cases q : ¬ b < 0 ∧ ¬ nI n ≤ b
  · obtain ⟨f, hf', rfl⟩ := arg_nI q.1 q.2 (by omega)
    by_cases q2 : ¬ a < 0 ∧ ¬ nI (2 ^ (2 * n)) ≤ a
    · obtain ⟨k, hk, rfl⟩ := arg_nI q2.1 q2.2 (by omega)
      obtain ⟨M1, e1, e2⟩ := mtakes_is (M := wr M 148 0 0) hf hm0 h10 (show k < 2 ^ 31 by omega)
      have g1 := fr_m_X6_takesRow e1
      have eM : vM M1 = vC 0 M := by rw [vM_fr g1 (fun k j z => by unfold w_X6_takesRow at z; omega), vM_t0, h1]
      obtain ⟨M2, e3, -, -⟩ := mreply_is (M := M1) hf eM h2 (wI_le hc) hf'
      rw [e2 _ (lfN_lt hf'), e2 _ (rtN_lt hf')] at e3
      have s2 : m_X6_reply fu M (nI k) (nI f) = some ((bst (fun d => meanS (vC 0 M) n f (nI (digN n k (lfN n f))) d (nI (digN n k (rtN n f))))).1, M2) := by
        unfold m_X6_reply m_X6_isRow
        simp only [bnd_is, hm0, rows_n n (by omega), if_neg q2.1, if_neg q2.2, some_bind, isFarm_is, tf_0, if_neg (fun z : ¬ (¬ nI f < 0 ∧ ¬ nI n ≤ nI f) => z q), e1, e3]
        rfl
      refine ⟨_, _, ?_, s2, (h.fr2 Fr.rf (fr_m_X6_reply s2) (w1 := fun _ _ => False) (v1 := fun _ _ => False) (fun _ _ q => q.elim) (fun _ _ q => q.elim) (fun k j q => by unfold w_X6_reply at q; unfold keepI keepL keepX keepG keepV keepW; omega) (fun _ _ q => q.elim)).mono (Nat.le_succ c)⟩
      unfold m_X5_reply m_X4_hasRow
      simp only [has_is, hc0, rows_n n (by omega), if_neg q2.1, if_neg q2.2, some_bind, tf_0, if_neg (fun z : ¬ (¬ nI f < 0 ∧ ¬ nI n ≤ nI f) => z q), cbest_is hf rfl h2 hf' (show k < 2 ^ 31 by omega)]
      rfl
    · refine ⟨-1, wr M 148 0 0, ?_, ?_, h.t0⟩
      · unfold m_X5_reply m_X4_hasRow
        simp only [has_is, hc0, rows_n n (by omega), some_bind, tf_0, if_neg (fun z : ¬ (¬ nI f < 0 ∧ ¬ nI n ≤ nI f) => z q)]
        by_cases q3 : a < 0
        · rw [if_pos q3]; rfl
        · rw [if_neg q3, if_pos (Classical.not_not.mp (fun z => q2 ⟨q3, z⟩))]; rfl
      · unfold m_X6_reply m_X6_isRow
        simp only [bnd_is, hm0, rows_n n (by omega)]
        by_cases q3 : a < 0
        · rw [if_pos q3]; rfl
        · rw [if_neg q3, if_pos (Classical.not_not.mp (fun z => q2 ⟨q3, z⟩))]; rfl
  · refine ⟨-1, wr M 148 0 0, ?_, ?_, h.t0⟩
    · unfold m_X5_reply
      simp only [has_is, hc0, some_bind, tf_0]
      rw [if_pos q]
    · unfold m_X6_reply m_X6_isRow
      simp only [bnd_is, hm0, rows_n n (by omega), isFarm_is, some_bind, tf_0]
      by_cases q3 : a < 0
      · rw [if_pos q3]; rfl
      · rw [if_neg q3]
        by_cases q4 : nI (2 ^ (2 * n)) ≤ a
        · rw [if_pos q4]; rfl
        · rw [if_neg q4]
          simp only [some_bind]
          rw [if_neg (by decide), if_pos q]
