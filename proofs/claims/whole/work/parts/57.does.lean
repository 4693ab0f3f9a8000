/-! ===== a law's line, step by step: class ===== -/
theorem joined_is {M : Mem} {p : Op} {a b : Int32} {tb ta k : Nat} (hk : biK p ta tb k) (hb : okv tb b) (ha : okv ta a) : m_X2_joined M (sgn p.1) a b = some (binS p.1 a b) := by
  rcases hk with ⟨e, -, -, -⟩ | ⟨e, h1, -, -⟩ | ⟨e, -, -, -⟩ | ⟨e, h1, h2, -⟩
  · rcases e with e | e | e <;> rw [e] <;> rfl
  · have : b ≠ 0 := hb.1 h1
    rw [e]
    show m_X2_joined M 47 a b = some (a / b)
    unfold m_X2_joined
    rw [if_neg (by decide), if_neg (by decide), if_neg (by decide), if_pos rfl, if_neg this, chk_is (by simpa using this)]
  · rcases e with e | e | e <;> rw [e]
    · show m_X2_joined M 60 a b = some (if b ≤ a then 0 else 1)
      unfold m_X2_joined
      rw [if_neg (by decide), if_neg (by decide), if_neg (by decide), if_neg (by decide), if_pos rfl]
      split <;> rfl
    · show m_X2_joined M 61 a b = some (if a = b then 1 else 0)
      unfold m_X2_joined
      rw [if_neg (by decide), if_neg (by decide), if_neg (by decide), if_neg (by decide), if_neg (by decide), if_pos rfl]
      split <;> rfl
    · show m_X2_joined M 62 a b = some (if a ≤ b then 0 else 1)
      unfold m_X2_joined
      rw [if_neg (by decide), if_neg (by decide), if_neg (by decide), if_neg (by decide), if_neg (by decide), if_neg (by decide), if_pos rfl]
      split <;> rfl
  · have b01 := hb.2 h1
    have a01 := ha.2 h2
    rcases e with e | e <;> rw [e] <;> rcases b01 with rfl | rfl <;> rcases a01 with rfl | rfl <;> rfl
theorem twoOf_is {M : Mem} {p : Op} {a b : Int32} {tb ta k : Nat} (hk : biK p ta tb k) (hb : okv tb b) : m_X6_twoOf M p.1 a b = some (binS p.1 a b) := by
  rcases hk with ⟨e, -, -, -⟩ | ⟨e, h1, -, -⟩ | ⟨e, -, -, -⟩ | ⟨e, h1, h2, -⟩
  · rcases e with e | e | e <;> rw [e] <;> rfl
  · have : b ≠ 0 := hb.1 h1
    rw [e]
    show m_X6_twoOf M 5 a b = some (a / b)
    unfold m_X6_twoOf
    rw [if_neg (by decide), if_neg (by decide), if_neg (by decide), if_pos rfl, chk_is (by simpa using this)]
  · rcases e with e | e | e <;> rw [e]
    · show m_X6_twoOf M 6 a b = some (if b ≤ a then 0 else 1)
      unfold m_X6_twoOf
      rw [if_neg (by decide), if_neg (by decide), if_neg (by decide), if_neg (by decide), if_pos rfl]
      split <;> rfl
    · show m_X6_twoOf M 7 a b = some (if a = b then 1 else 0)
      unfold m_X6_twoOf
      rw [if_neg (by decide), if_neg (by decide), if_neg (by decide), if_neg (by decide), if_neg (by decide), if_pos rfl]
      split <;> rfl
    · show m_X6_twoOf M 8 a b = some (if a ≤ b then 0 else 1)
      unfold m_X6_twoOf
      rw [if_neg (by decide), if_neg (by decide), if_neg (by decide), if_neg (by decide), if_neg (by decide), if_neg (by decide), if_pos rfl]
      split <;> rfl
  · rcases e with e | e <;> rw [e]
    · rfl
    · show m_X6_twoOf M 11 a b = some (if a + b ≤ 0 then 0 else 1)
      unfold m_X6_twoOf
      rw [if_neg (by decide), if_neg (by decide), if_neg (by decide), if_neg (by decide), if_neg (by decide), if_neg (by decide), if_neg (by decide), if_neg (by decide)]
      split <;> rfl
theorem sgn_bi {p : Op} {a b k : Nat} (hk : biK p a b k) : ∃ s, sgn p.1 = nI s ∧ s < 300 ∧ s ≠ 204 ∧ p.1 ≠ 0 ∧ p.1 ≠ 1 ∧ p.1 ≠ 9 := by
  rcases hk with ⟨e, -, -, -⟩ | ⟨e, h1, -, -⟩ | ⟨e, -, -, -⟩ | ⟨e, h1, h2, -⟩
  · rcases e with e | e | e <;> rw [e]
    · exact ⟨43, by decide, by decide, by decide, by decide, by decide, by decide⟩
    · exact ⟨45, by decide, by decide, by decide, by decide, by decide, by decide⟩
    · exact ⟨42, by decide, by decide, by decide, by decide, by decide, by decide⟩
  · rw [e]; exact ⟨47, by decide, by decide, by decide, by decide, by decide, by decide⟩
  · rcases e with e | e | e <;> rw [e]
    · exact ⟨60, by decide, by decide, by decide, by decide, by decide, by decide⟩
    · exact ⟨61, by decide, by decide, by decide, by decide, by decide, by decide⟩
    · exact ⟨62, by decide, by decide, by decide, by decide, by decide, by decide⟩
  · rcases e with e | e <;> rw [e]
    · exact ⟨203, by decide, by decide, by decide, by decide, by decide, by decide⟩
    · exact ⟨202, by decide, by decide, by decide, by decide, by decide, by decide⟩
def Out (c : Nat) (M M' : Mem) : Prop := (∀ k j, k ≠ c → rd M' k j = rd M k j) ∧ ∀ k j, rdl M' k j = rdl M k j
theorem Out.rf {c : Nat} {M : Mem} : Out c M M := ⟨fun _ _ _ => rfl, fun _ _ => rfl⟩
theorem Out.tr {c : Nat} {M M1 M2 : Mem} (h : Out c M M1) (h2 : Out c M1 M2) : Out c M M2 := ⟨fun k j q => (h2.1 k j q).trans (h.1 k j q), fun k j => (h2.2 k j).trans (h.2 k j)⟩
theorem Out.wr {c j : Nat} {M : Mem} {x : Int32} : Out c M (wr M c j x) := ⟨fun k j' q => by rw [rd_wr, if_neg (fun z => q z.1)], fun _ _ => rfl⟩
theorem Out.vC {R : Nat} {M M' : Mem} (h : Out (R + 7) M M') : vC R M' = vC R M := vC_eqs (fun k j q => h.1 k j (by omega)) (fun j => h.2 _ j)
theorem Out.vM {c : Nat} {M M' : Mem} (h : Out c M M') (hc : 163 ≤ c) : vM M' = vM M := vM_eqs (fun k j q => h.1 k j (by unfold keepW at q; omega))
theorem nI_of_le {x : Int32} {m : Nat} (h0 : 0 ≤ x) (h1 : x ≤ nI m) (hm : m < 2 ^ 30) : ∃ v, v ≤ m ∧ x = nI v := by
  obtain ⟨f, q1, q2⟩ := arg_nI (a := x) (n := m + 1) (by grind) (by
    intro z
    have a := I_le.mp h1
    have b := I_le.mp z
    rw [nI_toInt (by omega)] at a b
    omega) (by omega)
  exact ⟨f, by omega, q2⟩
section CSTEP
variable {fu R n f : Nat} {M : Mem} {V : Vw} {W N : Int}
theorem cstep {s2 len i : Nat} {p : Op} {t t' : List Nat} {st : List Int32} (hV : vC R M = V) (h : Vok V n W N) (hW : W ≤ 100000) (hf : f < n) (hlen : rd M s2 1 = nI len) (hl4 : len ≤ 400) (hi : i < len) (hc : rd M (s2 + 4) i = encO p) (hty : tyO p t = some t') (hok : okS t st) (hst : stk (rd M (R + 7)) st) (hd : st.length < 400) :
    ∃ M', b_X4_does_32 fu R (nI f) s2 (nI st.length, nI i, M) = some (.inl (nI (evO (askS V n f) p st).length, nI (i + 1), M')) ∧ stk (rd M' (R + 7)) (evO (askS V n f) p st) ∧ Out (R + 7) M M' := by
  have hx : ix (nI i) = i := ix_nI (by omega)
  have pre : b_X4_does_32 fu R (nI f) s2 (nI st.length, nI i, M) = (if encO p < 10400 then (if encO p = 10304 then (m_X4_negate R M (nI st.length)).bind fun M_30 => bnd (nI i + 1 : Int32) fun v_31 => some (.inl (nI st.length, v_31, M_30)) else (if encO p < 10100 then (if (Int32.ofNat 400) ≤ nI st.length then bnd (nI i + 1 : Int32) fun v_12 => some (.inl (nI st.length, v_12, M)) else (if encO p < 10000 then j_X4_does_162i fu R M (nI f) s2 (nI st.length) (nI i) (nI st.length) (encO p) else (m_X4_seen R M (nI f) (encO p - 10000)).bind fun r_23 => j_X4_does_162i fu R M (nI f) s2 (nI st.length) (nI i) (nI st.length) r_23)) else (m_X4_join R M (encO p - 10100) (nI st.length)).bind <| un2 fun r_25 M_26 => bnd (nI i + 1 : Int32) fun v_27 => some (.inl (r_25, v_27, M_26)))) else (if nI st.length ≤ 0 then j_X4_does_80i fu R M (nI f) s2 (nI i) else chk (inb (nI st.length - 1) 400) <| if (rd M (R + 7) (ix (nI st.length - 1))) = 0 then j_X4_does_80i fu R M (nI f) s2 (nI i) else some (.inr (.inl (encO p, M))))) := by
    unfold b_X4_does_32
    rw [un3_is, hlen, if_neg (nI_ge hi (by omega)), chk_is (inb_nI (by omega : i < 400) (by decide)), hx, hc, bnd_e]
  have push : ∀ x, j_X4_does_162i fu R M (nI f) s2 (nI st.length) (nI i) (nI st.length) x = some (.inl (nI (x :: st).length, nI (i + 1), wr M (R + 7) st.length x)) := by
    intro x
    unfold j_X4_does_162i
    rw [chk_is (inb_nI hd (by decide)), ix_nI (by omega), bnd_e, nI_1, bnd_e, nI_1, bnd_e]; rfl
  have n400 : ¬ (Int32.ofNat 400) ≤ nI st.length := nI_ge hd (by decide)
  rw [pre]
  rcases ty_cases hty with ⟨h0, g1, g2, rfl⟩ | ⟨h1, g1, g2, rfl⟩ | ⟨h9, r, rfl, rfl⟩ | ⟨b, a, r, k, rfl, rfl, hk⟩
  · obtain ⟨v, hv, hv2⟩ := nI_of_le (m := 9999) g1 g2 (by decide)
    have e : encO p = nI v := by unfold encO; rw [if_pos h0, hv2]
    have e2 : evO (askS V n f) p st = nI v :: st := by unfold evO; rw [if_pos h0, hv2]
    rw [e, if_pos (show nI v < 10400 from nI_lt (b := 10400) (by omega) (by decide)), if_neg (show ¬ nI v = 10304 from fun z => by have := nI_inj (b := 10304) (by omega) (by decide) z; omega), if_pos (show nI v < 10100 from nI_lt (b := 10100) (by omega) (by decide)), if_neg n400, if_pos (show nI v < 10000 from nI_lt (b := 10000) (by omega) (by decide)), push, e2]
    exact ⟨_, rfl, stk_push hst, Out.wr⟩
  · obtain ⟨v, hv, hv2⟩ := nI_of_le (m := 14) g1 g2 (by decide)
    have e : encO p = nI (10000 + v) := by unfold encO; rw [if_neg (by rw [h1]; decide), if_pos h1, hv2, show (10000 : Int32) = nI 10000 from rfl, nI_add]
    have e2 : evO (askS V n f) p st = askS V n f v :: st := by unfold evO; rw [if_neg (by rw [h1]; decide), if_pos h1, hv2, ix_nI (by omega)]
    have e3 : nI (10000 + v) - 10000 = nI v := by rw [show (10000 : Int32) = nI 10000 from rfl, pk_sub (by omega), Nat.add_sub_cancel_left]
    rw [e, if_pos (show nI (10000 + v) < 10400 from nI_lt (b := 10400) (by omega) (by decide)), if_neg (show ¬ nI (10000 + v) = 10304 from fun z => by have := nI_inj (b := 10304) (by omega) (by decide) z; omega), if_pos (show nI (10000 + v) < 10100 from nI_lt (b := 10100) (by omega) (by decide)), if_neg n400, if_neg (show ¬ nI (10000 + v) < 10000 from nI_nlt (a := 10000 + v) (b := 10000) (by omega) (by omega)), e3, cseen_is hV h hW hf (by omega), some_bind, push, e2]
    exact ⟨_, rfl, stk_push hst, Out.wr⟩
  · cases st with
    | nil => exact hok.elim
    | cons x st =>
      have e : encO p = 10304 := by unfold encO; rw [if_neg (by rw [h9]; decide), if_neg (by rw [h9]; decide), h9]; decide
      have e2 : evO (askS V n f) p (x :: st) = (1 - x) :: st := by unfold evO; rw [if_neg (by rw [h9]; decide), if_neg (by rw [h9]; decide), if_pos h9]
      have hlm : nI (x :: st).length - 1 = nI st.length := by rw [show (x :: st).length = st.length + 1 from rfl, nI_pred]
      have hd2 : st.length < 400 := by simp at hd; omega
      have ng : m_X4_negate R M (nI (x :: st).length) = some (wr M (R + 7) st.length (1 - x)) := by
        unfold m_X4_negate j_X4_negate_27
        rw [if_neg (nI_nle (by simp) (by omega)), hlm, chk_is (inb_nI hd2 (by decide)), ix_nI (by omega), hst.1]
        rcases hok.1.2 rfl with rfl | rfl
        · rw [if_pos rfl, chk_is (inb_nI hd2 (by decide)), bnd_e]; rfl
        · rw [if_neg (by decide), chk_is (inb_nI hd2 (by decide)), bnd_e]; rfl
      rw [e, if_pos (by decide), if_pos rfl, ng, some_bind, bnd_e, nI_1, e2]
      exact ⟨_, rfl, stk_push hst.2, Out.wr⟩
  · cases st with
    | nil => exact hok.elim
    | cons y st =>
      cases st with
      | nil => exact hok.2.elim
      | cons x st =>
        obtain ⟨s, q1, q2, q3, q4, q5, q6⟩ := sgn_bi hk
        have e : encO p = nI (10100 + s) := by unfold encO; rw [if_neg q4, if_neg q5, q1, show (10100 : Int32) = nI 10100 from rfl, nI_add]
        have e2 : evO (askS V n f) p (y :: x :: st) = binS p.1 x y :: st := by unfold evO; rw [if_neg q4, if_neg q5, if_neg q6]
        have e3 : nI (10100 + s) - 10100 = nI s := by rw [show (10100 : Int32) = nI 10100 from rfl, pk_sub (by omega), Nat.add_sub_cancel_left]
        have l2 : (y :: x :: st).length = st.length + 2 := rfl
        have hd2 : st.length + 2 < 400 := hd
        have m1 : nI (st.length + 2) - 1 = nI (st.length + 1) := nI_pred _
        have m2 : nI (st.length + 2) - 2 = nI st.length := by rw [show (2 : Int32) = nI 2 from rfl, pk_sub (by omega), Nat.add_sub_cancel]
        have jn : m_X4_join R M (nI s) (nI (y :: x :: st).length) = some (nI (st.length + 1), wr M (R + 7) st.length (binS p.1 x y)) := by
          unfold m_X4_join
          rw [l2, if_pos (show (2 : Int32) ≤ nI (st.length + 2) from nI_le (a := 2) (by omega) (by omega)), m1, m2, chk_is (inb_nI (by omega : st.length < 400) (by decide)), chk_is (inb_nI (by omega : st.length + 1 < 400) (by decide)), ix_nI (by omega), ix_nI (by omega), hst.2.1, show rd M (R + 7) (st.length + 1) = y from hst.1, ← q1, joined_is hk hok.1 hok.2.1, some_bind, bnd_e]
        rw [e, if_pos (show nI (10100 + s) < 10400 from nI_lt (b := 10400) (by omega) (by decide)), if_neg (show ¬ nI (10100 + s) = 10304 from fun z => by have := nI_inj (b := 10304) (by omega) (by decide) z; omega), if_neg (show ¬ nI (10100 + s) < 10100 from by exact nI_nlt (a := 10100 + s) (b := 10100) (by omega) (by omega)), e3, jn, some_bind, un2_is, bnd_e, nI_1, e2]
        exact ⟨_, rfl, stk_push hst.2.2, Out.wr⟩
/-- the steps of a line -/
theorem cline {s2 len : Nat} (hs2 : s2 ≠ R + 7 ∧ s2 + 4 ≠ R + 7) (h : Vok V n W N) (hW : W ≤ 100000) (hf : f < n) (hl4 : len ≤ 400) : ∀ (ops : List Op) (t t' : List Nat) (st : List Int32) (i : Nat) (M : Mem), vC R M = V → rd M s2 1 = nI len → i + ops.length ≤ len → (∀ j, j < ops.length → rd M (s2 + 4) (i + j) = encO (ops.getD j (0, 0))) → tyL ops t = some t' → okS t st → stk (rd M (R + 7)) st → st.length + ops.length ≤ 400 →
    ∃ M', (∀ m, lp (b_X4_does_32 fu R (nI f) s2) (m + ops.length) (nI st.length, nI i, M) = lp (b_X4_does_32 fu R (nI f) s2) m (nI (evL (askS V n f) ops st).length, nI (i + ops.length), M')) ∧ stk (rd M' (R + 7)) (evL (askS V n f) ops st) ∧ Out (R + 7) M M'
  | [], t, t', st, i, M, hV, hlen, hi, hc, hty, hok, hst, hd => ⟨M, fun m => rfl, hst, Out.rf⟩
  | p :: ops, t, t', st, i, M, hV, hlen, hi, hc, hty, hok, hst, hd => by
    unfold tyL at hty
    obtain ⟨t1, h1, h2⟩ := bind_elim hty
    have hlo : (p :: ops).length = ops.length + 1 := rfl
    rw [hlo] at hi hd
    obtain ⟨M1, e1, e2, e3⟩ := cstep (fu := fu) hV h hW hf hlen hl4 (by omega : i < len) (by have := hc 0 (by simp); exact this) h1 hok hst (by omega)
    have hle := ev_len (ask := askS V n f) h1 hok
    obtain ⟨M2, f1, f2, f3⟩ := cline hs2 h hW hf hl4 ops t1 t' (evO (askS V n f) p st) (i + 1) M1 (by rw [e3.vC]; exact hV) (by rw [e3.1 _ _ hs2.1]; exact hlen) (by omega) (fun j hj => by
      rw [e3.1 _ _ hs2.2]
      have := hc (j + 1) (by rw [hlo]; omega)
      rw [show i + 1 + j = i + (j + 1) by omega, this]; rfl) h2 (ev_ok h1 hok) e2 (by omega)
    refine ⟨M2, fun m => ?_, f2, e3.tr f3⟩
    rw [hlo, show m + (ops.length + 1) = (m + ops.length) + 1 by omega, lp_inl e1, f1 m, show i + 1 + ops.length = i + (ops.length + 1) by omega]
    rfl
/-- what the lines say -/
def doL (ask : Nat → Int32) : List Ln → Int32
  | [] => 0
  | l :: r => if l.2.isEmpty = true ∨ (evL ask l.2 []).headD 0 ≠ 0 then l.1 else doL ask r
theorem doL_s (ask : Nat → Int32) (l : Ln) (r : List Ln) : doL ask (l :: r) = if l.2.isEmpty = true ∨ (evL ask l.2 []).headD 0 ≠ 0 then l.1 else doL ask r := rfl
theorem doL_n {ask : Nat → Int32} {d : Int32} {r : List Ln} : doL ask ((d, []) :: r) = d := by
  rw [doL_s, if_pos (Or.inl (show (([] : List Op)).isEmpty = true from rfl))]
theorem doL_c {ask : Nat → Int32} {d : Int32} {O : List Op} {r : List Ln} (h : O.isEmpty = false) : doL ask ((d, O) :: r) = if (evL ask O []).headD 0 ≠ 0 then d else doL ask r := by
  rw [doL_s]
  show (if O.isEmpty = true ∨ (evL ask O []).headD 0 ≠ 0 then d else doL ask r) = _
  rw [h]
  simp only [Bool.false_eq_true, false_or]
theorem getD_app1 {α : Type} {a b : List α} {i : Nat} {d : α} (h : i < a.length) : (a ++ b).getD i d = a.getD i d := by
  simp [List.getD_eq_getElem?_getD, List.getElem?_append_left h]
theorem getD_app2 {α : Type} {a b : List α} {i : Nat} {d : α} : (a ++ b).getD (a.length + i) d = b.getD i d := by
  rw [List.getD_eq_getElem?_getD, List.getD_eq_getElem?_getD, List.getElem?_append_right (Nat.le_add_right _ _), Nat.add_sub_cancel_left]
theorem cdoes_in {s2 len : Nat} (hs2 : s2 ≠ R + 7 ∧ s2 + 4 ≠ R + 7) (h : Vok V n W N) (hW : W ≤ 100000) (hf : f < n) (hl4 : len ≤ 400) : ∀ (ls : List Ln) (i : Nat) (M : Mem), (∀ l, l ∈ ls → LnOk l) → vC R M = V → rd M s2 1 = nI len → i + (encL ls).length = len → (∀ j, j < (encL ls).length → rd M (s2 + 4) (i + j) = (encL ls).getD j 0) → ∀ m, (encL ls).length < m →
    ∃ M', (lp (b_X4_does_32 fu R (nI f) s2) m (0, nI i, M)).bind (unS (un2 fun v_40 M_41 => some (v_40 - 10400, M_41)) (un1 fun M_42 => some (0, M_42))) = some (doL (askS V n f) ls, M') ∧ Out (R + 7) M M'
  | [], i, M, hl, hV, hlen, hi, hc, m, hm => by
    obtain ⟨m, rfl⟩ : ∃ k, m = k + 1 := ⟨m - 1, by omega⟩
    have hi0 : i = len := hi
    rw [lp_inr (x := .inr M) (by unfold b_X4_does_32; rw [un3_is, hlen, hi0, if_pos (nI_le (Nat.le_refl _) (by omega))])]
    exact ⟨M, rfl, Out.rf⟩
  | l :: ls, i, M, hl, hV, hlen, hi, hc, m, hm => by
    have hE : encL (l :: ls) = encLn l ++ encL ls := rfl
    rw [hE] at hi hc hm
    obtain ⟨d, ops⟩ := l
    obtain ⟨⟨k, hk, hdk⟩, hty⟩ := hl (d, ops) (List.mem_cons_self)
    dsimp only at hdk hty
    subst hdk
    have sub : (10400 + nI k : Int32) - 10400 = nI k := by grind
    have hk4 : (10400 + nI k : Int32) = nI (10400 + k) := by rw [show (10400 : Int32) = nI 10400 from rfl, nI_add]
    have n1 : ¬ nI (10400 + k) < 10400 := nI_nlt (a := 10400 + k) (b := 10400) (by omega) (by omega)
    cases ops with
    | nil =>
      have hL : encLn (nI k, []) = [1, 10400 + nI k] := rfl
      rw [hL] at hi hc hm
      have c0 : rd M (s2 + 4) i = 1 := hc 0 (by simp)
      have c1 : rd M (s2 + 4) (i + 1) = nI (10400 + k) := by rw [← hk4]; exact hc 1 (by simp)
      simp at hi hm
      obtain ⟨m, rfl⟩ : ∃ k, m = k + 1 + 1 := ⟨m - 2, by omega⟩
      have s1 : b_X4_does_32 fu R (nI f) s2 (0, nI i, M) = some (.inl (1, nI (i + 1), wr M (R + 7) 0 1)) := by
        unfold b_X4_does_32 j_X4_does_162i
        rw [un3_is, hlen, if_neg (nI_ge (by omega) (by omega)), chk_is (inb_nI (by omega : i < 400) (by decide)), ix_nI (by omega), c0, bnd_e, if_pos (by decide), if_neg (by decide), if_pos (by decide), if_neg (by decide), if_pos (by decide), chk_is (by decide), bnd_e, bnd_e, nI_1, bnd_e, ix_0]; rfl
      have s2' : b_X4_does_32 fu R (nI f) s2 (1, nI (i + 1), wr M (R + 7) 0 1) = some (.inr (.inl (nI (10400 + k), wr M (R + 7) 0 1))) := by
        have o := (Out.wr (c := R + 7) (j := 0) (x := 1) (M := M)).1
        unfold b_X4_does_32
        rw [un3_is, o _ _ hs2.1, hlen, if_neg (nI_ge (by omega) (by omega)), chk_is (inb_nI (by omega : i + 1 < 400) (by decide)), ix_nI (by omega), o _ _ hs2.2, c1, bnd_e, if_neg n1, if_neg (by decide), show (1 : Int32) - 1 = 0 from rfl, chk_is (by decide), ix_0, show rd (wr M (R + 7) 0 1) (R + 7) 0 = 1 by rw [rd_wr, if_pos ⟨rfl, rfl⟩], if_neg (by decide)]
      rw [lp_inl s1, lp_inr s2']
      refine ⟨wr M (R + 7) 0 1, ?_, Out.wr⟩
      rw [some_bind, unS_inl, un2_is, ← hk4, sub]
      rw [doL_n]
    | cons o ops =>
      have hL : encLn (nI k, o :: ops) = (o :: ops).map encO ++ [10400 + nI k] := rfl
      have hty' : tyL (o :: ops) [] = some [2] := hty.resolve_left (by simp)
      rw [hL] at hi hc hm
      generalize hO : o :: ops = O at hi hc hm hty'
      have hOl : (O.map encO).length = O.length := List.length_map ..
      simp only [List.length_append, hOl, List.length_cons, List.length_nil] at hi hm
      have hcO : ∀ j, j < O.length → rd M (s2 + 4) (i + j) = encO (O.getD j (0, 0)) := by
        intro j hj
        rw [hc j (by simp only [List.length_append, hOl, List.length_cons, List.length_nil]; omega), getD_app1 (by simp only [List.length_append, hOl]; omega), getD_app1 (by rw [hOl]; exact hj)]
        simp [List.getD_eq_getElem?_getD, hj]
      have hcT : rd M (s2 + 4) (i + O.length) = nI (10400 + k) := by
        rw [hc O.length (by simp only [List.length_append, hOl, List.length_cons, List.length_nil]; omega), ← hk4, getD_app1 (by simp only [List.length_append, hOl, List.length_cons, List.length_nil]; omega)]
        have := getD_app2 (a := O.map encO) (b := [10400 + nI k]) (i := 0) (d := (0 : Int32))
        rw [hOl, Nat.add_zero] at this
        rw [this]; rfl
      obtain ⟨M1, e1, e2, e3⟩ := cline (fu := fu) hs2 h hW hf hl4 O [] [2] [] i M hV hlen (by omega) hcO hty' trivial trivial (by simp; omega)
      have hok := evL_ok (ask := askS V n f) hty' (show okS [] [] from trivial)
      have hdo : doL (askS V n f) ((nI k, O) :: ls) = if (evL (askS V n f) O []).headD 0 ≠ 0 then nI k else doL (askS V n f) ls := by
        exact doL_c (by rw [← hO]; rfl)
      rw [hdo]
      generalize hs : evL (askS V n f) O [] = st at e1 e2 hok ⊢
      match st, hok, e2 with
      | [v], hok, e2 =>
        obtain ⟨m, rfl⟩ : ∃ q, m = q + 1 + O.length := ⟨m - 1 - O.length, by omega⟩
        have E := e1 (m + 1)
        rw [show nI ([] : List Int32).length = 0 from rfl, show nI [v].length = 1 from rfl] at E
        rw [E]
        have hlen1 : rd M1 s2 1 = nI len := by rw [e3.1 _ _ hs2.1]; exact hlen
        have pre : b_X4_does_32 fu R (nI f) s2 (1, nI (i + O.length), M1) = if v = 0 then some (.inl (0, nI (i + O.length + 1), M1)) else some (.inr (.inl (nI (10400 + k), M1))) := by
          unfold b_X4_does_32 j_X4_does_80i
          rw [un3_is, hlen1, if_neg (nI_ge (by omega) (by omega)), chk_is (inb_nI (by omega : i + O.length < 400) (by decide)), ix_nI (by omega), e3.1 _ _ hs2.2, hcT, bnd_e, if_neg n1, if_neg (by decide), show (1 : Int32) - 1 = 0 from rfl, chk_is (by decide), ix_0, show rd M1 (R + 7) 0 = v from e2.1, bnd_e, nI_1]
        by_cases z : v = 0
        · rw [if_pos z] at pre
          rw [lp_inl pre]
          have hn : ¬ ([v].headD 0 ≠ 0) := by simp [z]
          rw [if_neg hn]
          obtain ⟨M2, f1, f2⟩ := cdoes_in hs2 h hW hf hl4 ls (i + O.length + 1) M1 (fun l hl' => hl l (List.mem_cons_of_mem _ hl')) (by rw [e3.vC]; exact hV) hlen1 (by omega) (fun j hj => by
            rw [e3.1 _ _ hs2.2]
            have := hc (O.length + 1 + j) (by simp only [List.length_append, hOl, List.length_cons, List.length_nil]; omega)
            rw [show i + O.length + 1 + j = i + (O.length + 1 + j) by omega, this]
            have g := getD_app2 (a := O.map encO ++ [10400 + nI k]) (b := encL ls) (i := j) (d := (0 : Int32))
            rw [List.length_append, hOl] at g
            exact g) m (by omega)
          exact ⟨M2, f1, e3.tr f2⟩
        · rw [if_neg z] at pre
          rw [lp_inr pre]
          have hn : [v].headD 0 ≠ 0 := by simpa using z
          rw [if_pos hn]
          refine ⟨M1, ?_, e3⟩
          rw [some_bind, unS_inl, un2_is, ← hk4, sub]
end CSTEP
/-! the same: model -/
section MSTEP
variable {fu : Nat} {M : Mem} {ask : Nat → Int32}
theorem mstep {s1 s3 : Int32} {e i : Nat} {p : Op} {t t' : List Nat} {st : List Int32} (hask : ∀ i, i < 15 → rd M 172 i = ask i) (he : (400 * s1 + s3 : Int32) = nI e) (he2 : e ≤ 2000) (hi : i < e) (ho : rd M 169 i = p.1) (ha : rd M 170 i = p.2) (hty : tyO p t = some t') (hok : okS t st) (hst : stk (rd M 173) st) (hd : st.length < 420) :
    ∃ M', b_X6_worthAt_12 fu s1 s3 (nI st.length, nI i, M) = some (.inl (nI (evO ask p st).length, nI (i + 1), M')) ∧ stk (rd M' 173) (evO ask p st) ∧ Out 173 M M' := by
  have hx : ix (nI i) = i := ix_nI (by omega)
  have hb : inb (nI i) 2000 = true := inb_nI (by omega) (by decide)
  have push : ∀ x, j_X6_worthAt_83i fu M s1 s3 (nI st.length) (nI i) (nI st.length) x = some (.inl (nI (x :: st).length, nI (i + 1), wr M 173 st.length x)) := by
    intro x
    unfold j_X6_worthAt_83i
    rw [chk_is (inb_nI hd (by decide)), ix_nI (by omega), bnd_e, nI_1, bnd_e, nI_1, bnd_e]; rfl
  unfold b_X6_worthAt_12
  rw [un3_is, he, if_neg (nI_ge hi (by omega)), chk_is hb, hx, ho]
  rcases ty_cases hty with ⟨h0, g1, g2, rfl⟩ | ⟨h1, g1, g2, rfl⟩ | ⟨h9, r, rfl, rfl⟩ | ⟨b, a, r, k, rfl, rfl, hk⟩
  · have e2 : evO ask p st = p.2 :: st := by unfold evO; rw [if_pos h0]
    rw [if_pos h0]
    unfold j_X6_worthAt_45i
    rw [chk_is hb, hx, ho, if_pos h0, ha, push, e2]
    exact ⟨_, rfl, stk_push hst, Out.wr⟩
  · obtain ⟨v, hv, hv2⟩ := nI_of_le (m := 14) g1 g2 (by decide)
    have e2 : evO ask p st = ask v :: st := by unfold evO; rw [if_neg (by rw [h1]; decide), if_pos h1, hv2, ix_nI (by omega)]
    rw [if_neg (by rw [h1]; decide), if_pos h1]
    unfold j_X6_worthAt_45i
    rw [chk_is hb, hx, ho, if_neg (by rw [h1]; decide), ha, hv2, chk_is (inb_nI (by omega : v < 15) (by decide)), ix_nI (by omega), hask v (by omega), push, e2]
    exact ⟨_, rfl, stk_push hst, Out.wr⟩
  · cases st with
    | nil => exact hok.elim
    | cons x st =>
      have e2 : evO ask p (x :: st) = (1 - x) :: st := by unfold evO; rw [if_neg (by rw [h9]; decide), if_neg (by rw [h9]; decide), if_pos h9]
      have hlm : nI (x :: st).length - 1 = nI st.length := by rw [show (x :: st).length = st.length + 1 from rfl, nI_pred]
      have hd2 : st.length < 420 := by simp at hd; omega
      rw [if_neg (by rw [h9]; decide), if_neg (by rw [h9]; decide), if_pos h9, hlm, chk_is (inb_nI hd2 (by decide)), ix_nI (by omega), show rd M 173 st.length = x from hst.1, bnd_e, bnd_e, nI_1, e2]
      exact ⟨_, rfl, stk_push hst.2, Out.wr⟩
  · cases st with
    | nil => exact hok.elim
    | cons y st =>
      cases st with
      | nil => exact hok.2.elim
      | cons x st =>
        obtain ⟨s, q1, q2, q3, q4, q5, q6⟩ := sgn_bi hk
        have e2 : evO ask p (y :: x :: st) = binS p.1 x y :: st := by unfold evO; rw [if_neg q4, if_neg q5, if_neg q6]
        have l2 : (y :: x :: st).length = st.length + 2 := rfl
        have hd2 : st.length + 2 < 420 := hd
        have m1 : nI (st.length + 2) - 1 = nI (st.length + 1) := nI_pred _
        have m2 : nI (st.length + 1) - 1 = nI st.length := nI_pred _
        rw [if_neg q4, if_neg q5, if_neg q6, l2, m1, bnd_e, m2, chk_is (inb_nI (by omega : st.length < 420) (by decide)), chk_is (inb_nI (by omega : st.length + 1 < 420) (by decide)), ix_nI (by omega), ix_nI (by omega), show rd M 173 st.length = x from hst.2.1, show rd M 173 (st.length + 1) = y from hst.1, twoOf_is hk hok.1, some_bind, bnd_e, bnd_e, nI_1, e2]
        exact ⟨_, rfl, stk_push hst.2.2, Out.wr⟩
theorem mline {s1 s3 : Int32} {e : Nat} (he : (400 * s1 + s3 : Int32) = nI e) (he2 : e ≤ 2000) : ∀ (ops : List Op) (t t' : List Nat) (st : List Int32) (i : Nat) (M : Mem), (∀ i, i < 15 → rd M 172 i = ask i) → i + ops.length ≤ e → (∀ j, j < ops.length → rd M 169 (i + j) = (ops.getD j (0, 0)).1 ∧ rd M 170 (i + j) = (ops.getD j (0, 0)).2) → tyL ops t = some t' → okS t st → stk (rd M 173) st → st.length + ops.length ≤ 420 →
    ∃ M', (∀ m, lp (b_X6_worthAt_12 fu s1 s3) (m + ops.length) (nI st.length, nI i, M) = lp (b_X6_worthAt_12 fu s1 s3) m (nI (evL ask ops st).length, nI (i + ops.length), M')) ∧ stk (rd M' 173) (evL ask ops st) ∧ Out 173 M M'
  | [], t, t', st, i, M, hask, hi, hc, hty, hok, hst, hd => ⟨M, fun m => rfl, hst, Out.rf⟩
  | p :: ops, t, t', st, i, M, hask, hi, hc, hty, hok, hst, hd => by
    unfold tyL at hty
    obtain ⟨t1, h1, h2⟩ := bind_elim hty
    have hlo : (p :: ops).length = ops.length + 1 := rfl
    rw [hlo] at hi hd
    have hc0 := hc 0 (by simp)
    obtain ⟨M1, e1, e2, e3⟩ := mstep (fu := fu) (p := p) hask he he2 (by omega : i < e) hc0.1 hc0.2 h1 hok hst (by omega)
    have hle := ev_len (ask := ask) h1 hok
    obtain ⟨M2, f1, f2, f3⟩ := mline he he2 ops t1 t' (evO ask p st) (i + 1) M1 (fun i hi => by rw [e3.1 _ _ (by decide)]; exact hask i hi) (by omega) (fun j hj => by
      rw [e3.1 _ _ (by decide), e3.1 _ _ (by decide)]
      have := hc (j + 1) (by rw [hlo]; omega)
      rw [show i + 1 + j = i + (j + 1) by omega, this.1, this.2]; exact ⟨rfl, rfl⟩) h2 (ev_ok h1 hok) e2 (by omega)
    refine ⟨M2, fun m => ?_, f2, e3.tr f3⟩
    rw [hlo, show m + (ops.length + 1) = (m + ops.length) + 1 by omega, lp_inl e1, f1 m, show i + 1 + ops.length = i + (ops.length + 1) by omega]
    rfl
theorem mworthAt_is {k a : Nat} {ops : List Op} (hfu : 500 ≤ fu) (hk : k < 4) (hask : ∀ i, i < 15 → rd M 172 i = ask i) (ha : a + ops.length ≤ 400) (hc : ∀ j, j < ops.length → rd M 169 (400 * k + (a + j)) = (ops.getD j (0, 0)).1 ∧ rd M 170 (400 * k + (a + j)) = (ops.getD j (0, 0)).2) (hty : tyL ops [] = some [2]) : ∃ M', m_X6_worthAt fu M (nI k) (nI a) (nI (a + ops.length)) = some ((evL ask ops []).headD 0, M') ∧ Out 173 M M' := by
  have he : (400 * nI k + nI (a + ops.length) : Int32) = nI (400 * k + (a + ops.length)) := by rw [show (400 : Int32) = nI 400 from rfl, pk_mul, nI_add]
  obtain ⟨M1, e1, e2, e3⟩ := mline (fu := fu) (ask := ask) he (by omega) ops [] [2] [] (400 * k + a) M hask (by omega) (fun j hj => by rw [show 400 * k + a + j = 400 * k + (a + j) by omega]; exact hc j hj) hty trivial trivial (by simp; omega)
  have hok := evL_ok (ask := ask) hty (show okS [] [] from trivial)
  generalize hs : evL ask ops [] = st at e1 e2 hok ⊢
  match st, hok, e2 with
  | [v], hok, e2 =>
    obtain ⟨m, rfl⟩ : ∃ q, fu = q + 1 + ops.length := ⟨fu - 1 - ops.length, by omega⟩
    have E := e1 (m + 1)
    rw [show nI ([] : List Int32).length = 0 from rfl, show nI [v].length = 1 from rfl] at E
    refine ⟨M1, ?_, e3⟩
    unfold m_X6_worthAt
    rw [show (400 * nI k + nI a : Int32) = nI (400 * k + a) by rw [show (400 : Int32) = nI 400 from rfl, pk_mul, nI_add], bnd_e, E, lp_inr (x := M1) (by unfold b_X6_worthAt_12; rw [un3_is, he, if_pos (nI_le (by omega) (by omega))]), some_bind, un1_is, ix_0, show rd M1 173 0 = v from e2.1]
    rfl
theorem mdoby_in {k : Nat} {L : List Ln} (hfu : 500 ≤ fu) (hk : k < 4) (hL : ∀ l, l ∈ L → LnOk l) : ∀ (d l : Nat) (M : Mem), l + d = L.length → LawM (rd M 165 k) (fun l => rd M 166 (16 * k + l)) (fun l => rd M 167 (16 * k + l)) (fun l => rd M 168 (16 * k + l)) (fun i => rd M 169 (400 * k + i)) (fun i => rd M 170 (400 * k + i)) L → (∀ i, i < 15 → rd M 172 i = ask i) → ∀ m, d < m →
    ∃ M', (lp (b_X6_doingBy_5 fu (nI k)) m (nI (16 * k + l), M)).bind (unS (un2 fun v_15 M_16 => chk (inb v_15 80) <| some (rd M_16 166 (ix v_15), M_16)) (un1 fun M_18 => some (0, M_18))) = some (doL ask (L.drop l), M') ∧ Out 173 M M'
  | 0, l, M, hl, hM, hask, m, hm => by
    obtain ⟨m, rfl⟩ : ∃ q, m = q + 1 := ⟨m - 1, by omega⟩
    obtain ⟨m1, m2, m3⟩ := hM
    have he : (16 * nI k + nI L.length : Int32) = nI (16 * k + L.length) := by rw [show (16 : Int32) = nI 16 from rfl, pk_mul, nI_add]
    rw [lp_inr (x := .inr M) (by
      unfold b_X6_doingBy_5
      rw [un2_is, chk_is (inb_nI (by omega : k < 5) (by decide)), ix_nI (by omega), m1, he, if_pos (nI_le (by omega) (by omega))])]
    refine ⟨M, ?_, Out.rf⟩
    rw [List.drop_eq_nil_of_le (by omega)]; rfl
  | d + 1, l, M, hl, hM, hask, m, hm => by
    obtain ⟨m, rfl⟩ : ∃ q, m = q + 1 := ⟨m - 1, by omega⟩
    obtain ⟨m1, m2, m3⟩ := id hM
    have he : (16 * nI k + nI L.length : Int32) = nI (16 * k + L.length) := by rw [show (16 : Int32) = nI 16 from rfl, pk_mul, nI_add]
    have hll : l < L.length := by omega
    have hdrop : L.drop l = L.getD l (0, []) :: L.drop (l + 1) := by
      rw [List.drop_eq_getElem_cons hll, List.getD_eq_getElem?_getD, List.getElem?_eq_getElem hll]; rfl
    obtain ⟨g1, a, g2, g3, g4, g5⟩ := m3 l hll
    have hln := hL (L.getD l (0, [])) (by rw [List.getD_eq_getElem?_getD, List.getElem?_eq_getElem hll]; exact List.getElem_mem hll)
    rw [hdrop]
    generalize L.getD l (0, []) = ln at g1 g2 g3 g4 g5 hln ⊢
    obtain ⟨dd, ops⟩ := ln
    dsimp only at g1 g2 g3 g4 g5
    have pre : b_X6_doingBy_5 fu (nI k) (nI (16 * k + l), M) = (if nI (a + ops.length) = nI a then some (.inr (.inl (nI (16 * k + l), M))) else (m_X6_worthAt fu M (nI k) (nI a) (nI (a + ops.length))).bind <| un2 fun r_8 M_9 => if r_8 = 0 then bnd (nI (16 * k + l) + 1 : Int32) fun v_11 => some (.inl (v_11, M_9)) else some (.inr (.inl (nI (16 * k + l), M_9)))) := by
      unfold b_X6_doingBy_5
      rw [un2_is, chk_is (inb_nI (by omega : k < 5) (by decide)), ix_nI (by omega), m1, he, if_neg (nI_ge (by omega) (by omega)), chk_is (inb_nI (by omega : 16 * k + l < 80) (by decide)), ix_nI (by omega), g3, g4]
    have out : ∀ M1, Out 173 M M1 → rd M1 166 (16 * k + l) = dd := fun M1 o => by rw [o.1 _ _ (by decide)]; exact g1
    have fin : ∀ M1, Out 173 M M1 → (unS (un2 fun v_15 M_16 => chk (inb v_15 80) <| some (rd M_16 166 (ix v_15), M_16)) (un1 fun M_18 => some (0, M_18)) (.inl (nI (16 * k + l), M1)) : Option (Int32 × Mem)) = some (dd, M1) := by
      intro M1 o
      rw [unS_inl, un2_is, chk_is (inb_nI (by omega : 16 * k + l < 80) (by decide)), ix_nI (by omega), out M1 o]
    cases ops with
    | nil =>
      rw [if_pos (by rfl)] at pre
      rw [lp_inr pre, some_bind, fin M Out.rf, doL_n]
      exact ⟨M, rfl, Out.rf⟩
    | cons o ops =>
      have hty : tyL (o :: ops) [] = some [2] := hln.2.resolve_left (by simp)
      generalize hO : o :: ops = O at pre g2 g5 hty
      have hOn : O.isEmpty = false := by rw [← hO]; rfl
      have hOl : 0 < O.length := by rw [← hO]; simp
      rw [if_neg (fun z => by have := nI_inj (by omega) (by omega) z; omega)] at pre
      obtain ⟨M1, e1, e2⟩ := mworthAt_is (ask := ask) hfu hk hask g2 g5 hty
      rw [e1, some_bind, un2_is, bnd_e, nI_1] at pre
      rw [doL_c hOn]
      by_cases z : (evL ask O []).headD 0 = 0
      · rw [if_pos z] at pre
        rw [if_neg (fun y => y z), lp_inl pre]
        obtain ⟨M2, f1, f2⟩ := mdoby_in hfu hk hL d (l + 1) M1 (by omega) (by
          simp only [e2.1 165 _ (by decide), e2.1 166 _ (by decide), e2.1 167 _ (by decide), e2.1 168 _ (by decide), e2.1 169 _ (by decide), e2.1 170 _ (by decide)]; exact hM) (fun i hi => by rw [e2.1 _ _ (by decide)]; exact hask i hi) m (by omega)
        exact ⟨M2, f1, e2.tr f2⟩
      · rw [if_neg z] at pre
        rw [if_pos z, lp_inr pre, some_bind, fin M1 e2]
        exact ⟨M1, rfl, e2⟩
end MSTEP
section DOES
variable {fu R n f : Nat} {M : Mem} {V : Vw} {W N : Int} {L : Nat → List Ln}
/-- what farm f does -/
def doesS (V : Vw) (n : Nat) (L : Nat → List Ln) (f : Nat) : Int32 := if V 149 f = 0 then 0 else doL (askS V n f) (L (ix (V 150 f)))
theorem cdoes_is (hfu : 500 ≤ fu) (hV : vC R M = V) (h : Vok V n W N) (hW : W ≤ 100000) (hL : LawsC M R L) (hO : LawsOk L) (hf : f < n) : ∃ M', m_X4_does fu R M (nI f) = some (doesS V n L f, M') ∧ Out (R + 7) M M' := by
  have h10 := h.1.2.2
  obtain ⟨k, hk, hk2⟩ := h.2.2.2.1 f (by omega)
  unfold m_X4_does doesS
  rw [chk_is (inb_nI (by omega : f < 10) (by decide)), ix_nI (n := f) (by omega), ix_0, ix_1, c_wide hV (by omega : f < 10), c_law hV (by omega : f < 10), hk2, ix_nI (by omega)]
  by_cases z : V 149 f = 0
  · rw [if_pos z, if_pos z]; exact ⟨M, rfl, Out.rf⟩
  · rw [if_neg z, if_neg z, chk_is (inb_nI hk (by decide))]
    obtain ⟨l1, l2, l3⟩ := hL k hk
    obtain ⟨M', e1, e2⟩ := cdoes_in (fu := fu) (s2 := R + 28 + k) (by omega) h hW hf l2 (L k) 0 M (hO k hk) hV l1 (by omega) (fun j hj => by rw [show R + 28 + k + 4 = R + 32 + k by omega, Nat.zero_add]; exact l3 j hj) fu (by omega)
    exact ⟨M', e1, e2⟩
theorem mdoes_is (hfu : 500 ≤ fu) (hV : vM M = V) (h : Vok V n W N) (hW : W ≤ 100000) (hL : LawsM M L) (hO : LawsOk L) (hf : f < n) : ∃ M', m_X6_doingOf fu M (nI f) = some (doesS V n L f, M') ∧ ∀ k j, k ≠ 172 → k ≠ 173 → rd M' k j = rd M k j := by
  have h10 := h.1.2.2
  obtain ⟨k, hk, hk2⟩ := h.2.2.2.1 f (by omega)
  unfold doesS
  by_cases z : V 149 f = 0
  · rw [if_pos z]
    refine ⟨M, ?_, fun _ _ _ _ => rfl⟩
    unfold m_X6_doingOf
    rw [chk_is (inb_nI (by omega : f < 10) (by decide)), ix_nI (n := f) (by omega), bnd_e, m_at hV (by decide) (by decide) (by omega), if_pos z]
  · rw [if_neg z, mask_do hV h hW hf z, hk2, ix_nI (by omega)]
    obtain ⟨M', e1, e2⟩ := mdoby_in (fu := fu) (ask := askS V n f) (by omega) hk (hO k hk) (L k).length 0 (askM V n f M) (by omega) (by
      have := hL k hk
      simp only [askM_out (V := V) (n := n) (f := f) (M := M) (k := 165) (by decide), askM_out (V := V) (n := n) (f := f) (M := M) (k := 166) (by decide), askM_out (V := V) (n := n) (f := f) (M := M) (k := 167) (by decide), askM_out (V := V) (n := n) (f := f) (M := M) (k := 168) (by decide), askM_out (V := V) (n := n) (f := f) (M := M) (k := 169) (by decide), askM_out (V := V) (n := n) (f := f) (M := M) (k := 170) (by decide)]
      exact this) (fun i hi => askM_at hi) fu (by have := (hL k hk).2.1; omega)
    refine ⟨M', ?_, fun k' j q1 q2 => by rw [e2.1 _ _ q2, askM_out q1]⟩
    unfold m_X6_doingBy
    rw [show (16 * nI k : Int32) = nI (16 * k + 0) by rw [show (16 : Int32) = nI 16 from rfl, pk_mul, Nat.add_zero], bnd_e]
    exact e1
end DOES
