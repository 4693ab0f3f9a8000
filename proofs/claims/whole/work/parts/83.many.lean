def mcd (x : Int32) : Int32 := if x = 204 then 9 else if x = 203 then 10 else if x = 202 then 11 else 12
def MP (M : Mem) (lg : List Int32) : Prop := rd M 148 35 = nI lg.length ∧ stk (rd M 171) (lg.map mcd) ∧ rd M 148 33 = nI (opn lg)
def Fa (M M' : Mem) : Prop := ∀ k j, ¬ (k = 148 ∧ ((21 ≤ j ∧ j ≤ 24) ∨ j = 32 ∨ j = 33 ∨ (35 ≤ j ∧ j ≤ 37))) → ¬ ((k = 169 ∨ k = 170) ∧ 1600 ≤ j) → k ≠ 171 → rd M' k j = rd M k j
theorem Fa.tr {M M1 M2 : Mem} (h : Fa M M1) (h2 : Fa M1 M2) : Fa M M2 := fun k j q1 q2 q3 => (h2 k j q1 q2 q3).trans (h k j q1 q2 q3)
theorem Fx.fa {M M' : Mem} (h : Fx M M') : Fa M M' := fun k j q1 q2 _ => h k j (by omega) q2
theorem Bs.fa {b : Nat → Int32} {len : Nat} {M M' : Mem} (h : Bs b len M) (f : Fa M M') : Bs b len M' := ⟨by rw [f _ _ (by decide) (by decide) (by decide)]; exact h.1, fun i hi => by rw [f _ _ (by omega) (by omega) (by decide)]; exact h.2.1 i hi, fun i hi => by rw [f _ _ (by omega) (by omega) (by decide)]; exact h.2.2 i hi⟩
theorem MP.fx {M M' : Mem} {lg : List Int32} (h : MP M lg) (f : Fx M M') : MP M' lg := ⟨by rw [f _ _ (by decide) (by decide)]; exact h.1, stk_fr (fun j _ => f _ _ (by omega) (by omega)) h.2.1, by rw [f _ _ (by decide) (by decide)]; exact h.2.2⟩
def stE (x : Int32) : List Int32 → List Op × List Int32
  | [] => ([], [])
  | y :: l => if y = x then ((opc x, 0) :: (stE x l).1, (stE x l).2) else ([], y :: l)
theorem stE_c (x y : Int32) (l : List Int32) : stE x (y :: l) = if y = x then ((opc x, 0) :: (stE x l).1, (stE x l).2) else ([], y :: l) := rfl
def brk : List Int32 → Nat
  | [] => 0
  | x :: l => (if x = 40 then 1 else 0) + brk l
theorem brk_c (x : Int32) (l : List Int32) : brk (x :: l) = (if x = 40 then 1 else 0) + brk l := rfl
theorem fit_mem : ∀ {lg : List Int32} {t : List Nat}, FitC lg t → ∀ y, y ∈ lg → y = 204 ∨ y = 40 ∨ y = 203 ∨ y = 202
  | [], _, _, y, hy => absurd hy List.not_mem_nil
  | x :: l, t, h, y, hy => by
    rcases h with ⟨e, q⟩ | ⟨e, q⟩ | ⟨e, -, t', -, q⟩ | ⟨e, -, t', -, q⟩ <;> rcases List.mem_cons.mp hy with rfl | h2
    · exact Or.inl e
    · exact fit_mem q y h2
    · exact Or.inr (Or.inl e)
    · exact fit_mem q y h2
    · exact Or.inr (Or.inr (Or.inl e))
    · exact fit_mem q y h2
    · exact Or.inr (Or.inr (Or.inr e))
    · exact fit_mem q y h2
theorem fit_len : ∀ {lg : List Int32} {t : List Nat}, FitC lg t → lg.length ≤ 3 * opn lg + 2 ∧ (rkh lg < 2 → lg.length ≤ 3 * opn lg + 1) ∧ (rkh lg < 1 → lg.length ≤ 3 * opn lg)
  | [], _, _ => ⟨by decide, fun _ => by decide, fun _ => by decide⟩
  | x :: l, t, h => by
    rcases h with ⟨rfl, q⟩ | ⟨rfl, q⟩ | ⟨rfl, c, t', -, q⟩ | ⟨rfl, c, t', -, q⟩
    · have ih := fit_len q
      have o : opn (204 :: l) = 1 + opn l := rfl
      have r : rkh (204 :: l) = 3 := by show rkN 204 = 3; decide
      rw [o, r]
      refine ⟨by show l.length + 1 ≤ _; omega, fun z => by omega, fun z => by omega⟩
    · have ih := fit_len q
      have o : opn (40 :: l) = 1 + opn l := rfl
      rw [o]
      refine ⟨by show l.length + 1 ≤ _; omega, fun z => by show l.length + 1 ≤ _; omega, fun z => by show l.length + 1 ≤ _; omega⟩
    · have ih := fit_len q
      have o : opn (203 :: l) = 0 + opn l := rfl
      have r : rkh (203 :: l) = 2 := by show rkN 203 = 2; decide
      rw [o, r]
      have := ih.2.1 c
      refine ⟨by show l.length + 1 ≤ _; omega, fun z => by omega, fun z => by omega⟩
    · have ih := fit_len q
      have o : opn (202 :: l) = 0 + opn l := rfl
      have r : rkh (202 :: l) = 1 := by show rkN 202 = 1; decide
      rw [o, r]
      have := ih.2.2 c
      refine ⟨by show l.length + 1 ≤ _; omega, fun z => by show l.length + 1 ≤ _; omega, fun z => by omega⟩
theorem brk_stl {r : Nat} (hr : 0 < r) : ∀ lg : List Int32, brk (stl r lg).2 = brk lg
  | [] => rfl
  | x :: l => by
    rw [stl_c]
    by_cases c : rkN x < r
    · rw [if_pos c]
    · rw [if_neg c, brk_c, if_neg]
      · rw [Nat.zero_add]; exact brk_stl hr l
      · intro e
        have : rkN 40 = 0 := by decide
        rw [e, this] at c
        omega
theorem stl_A : ∀ {lg : List Int32} {t : List Nat}, FitC lg t → stl 3 lg = stE 204 lg
  | [], _, _ => rfl
  | x :: l, t, h => by
    rw [stl_c, stE_c]
    rcases h with ⟨rfl, q⟩ | ⟨rfl, q⟩ | ⟨rfl, c, t', -, q⟩ | ⟨rfl, c, t', -, q⟩
    · rw [if_neg (by decide), if_pos rfl, stl_A q]
    · rw [if_pos (by decide), if_neg (by decide)]
    · rw [if_pos (by decide), if_neg (by decide)]
    · rw [if_pos (by decide), if_neg (by decide)]
theorem stl_lo {r : Nat} : ∀ {lg : List Int32}, rkh lg < r → stl r lg = ([], lg)
  | [], _ => rfl
  | x :: l, h => by rw [stl_c, if_pos (show rkN x < r from h)]
theorem stE_lo {x : Int32} : ∀ {lg : List Int32}, rkh lg < rkN x → stE x lg = ([], lg)
  | [], _ => rfl
  | y :: l, h => by
    rw [stE_c, if_neg]
    intro e
    have h' : rkN y < rkN x := h
    rw [e] at h'
    omega
theorem stl_B : ∀ {lg : List Int32} {t : List Nat}, FitC lg t → stl 2 lg = ((stl 3 lg).1 ++ (stE 203 (stl 3 lg).2).1, (stE 203 (stl 3 lg).2).2)
  | [], _, _ => rfl
  | x :: l, t, h => by
    rw [stl_c 2, stl_c 3]
    rcases h with ⟨rfl, q⟩ | ⟨rfl, q⟩ | ⟨rfl, c, t', -, q⟩ | ⟨rfl, c, t', -, q⟩
    · rw [if_neg (by decide), if_neg (by decide), stl_B q]; rfl
    · rw [if_pos (by decide), if_pos (by decide)]; rfl
    · rw [if_neg (by decide), if_pos (by decide), stl_lo c]
      show _ = ([] ++ (stE 203 (203 :: l)).1, (stE 203 (203 :: l)).2)
      rw [stE_c, if_pos rfl, stE_lo (by have : rkN 203 = 2 := by decide
                                        omega)]; rfl
    · rw [if_pos (by decide), if_pos (by decide)]; rfl
theorem stl_C : ∀ {lg : List Int32} {t : List Nat}, FitC lg t → stl 1 lg = ((stl 2 lg).1 ++ (stE 202 (stl 2 lg).2).1, (stE 202 (stl 2 lg).2).2)
  | [], _, _ => rfl
  | x :: l, t, h => by
    rw [stl_c 1, stl_c 2]
    rcases h with ⟨rfl, q⟩ | ⟨rfl, q⟩ | ⟨rfl, c, t', -, q⟩ | ⟨rfl, c, t', -, q⟩
    · rw [if_neg (by decide), if_neg (by decide), stl_C q]; rfl
    · rw [if_pos (by decide), if_pos (by decide)]; rfl
    · rw [if_neg (by decide), if_neg (by decide), stl_C q]; rfl
    · rw [if_neg (by decide), if_pos (by decide), stl_lo c]
      show _ = ([] ++ (stE 202 (202 :: l)).1, (stE 202 (202 :: l)).2)
      rw [stE_c, if_pos rfl, stE_lo (by have : rkN 202 = 1 := by decide
                                        omega)]; rfl
theorem mcd_x {x y : Int32} (hx : x = 204 ∨ x = 203 ∨ x = 202) (hy : y = 204 ∨ y = 40 ∨ y = 203 ∨ y = 202) : mcd y = opc x ↔ y = x := by
  rcases hx with rfl | rfl | rfl <;> rcases hy with rfl | rfl | rfl | rfl <;> decide
/-- what waits on top is settled -/
theorem msets {fu F : Nat} {x : Int32} (hx : x = 204 ∨ x = 203 ∨ x = 202) : ∀ (lg : List Int32) (M : Mem) (xs : List Op), (∀ y, y ∈ lg → y = 204 ∨ y = 40 ∨ y = 203 ∨ y = 202) → MC M xs → MP M lg → xs.length + lg.length ≤ 400 → lg.length ≤ 40 → lg.length < fu →
    ∃ M', lp (b_X6_settles_0 F (opc x)) fu M = some M' ∧ MC M' (xs ++ (stE x lg).1) ∧ MP M' (stE x lg).2 ∧ ∀ k j, ¬ (k = 148 ∧ (j = 32 ∨ j = 33 ∨ j = 35)) → ¬ ((k = 169 ∨ k = 170) ∧ 1600 ≤ j) → rd M' k j = rd M k j := by
  intro lg
  induction lg generalizing fu with
  | nil =>
    intro M xs _ hc hp _ _ hf
    obtain ⟨f, rfl⟩ : ∃ f, fu = f + 1 := ⟨fu - 1, by have : ([] : List Int32).length = 0 := rfl; omega⟩
    refine ⟨M, lp_inr ?_, ?_, hp, fun _ _ _ _ => rfl⟩
    · unfold b_X6_settles_0
      rw [un1_is, hp.1, if_pos (show nI ([] : List Int32).length ≤ 0 by decide)]
    · show MC M (xs ++ []); rw [List.append_nil]; exact hc
  | cons y l ih =>
    intro M xs hm hc hp hz h40 hf
    have hl : (y :: l).length = l.length + 1 := rfl
    obtain ⟨f, rfl⟩ : ∃ f, fu = f + 1 := ⟨fu - 1, by omega⟩
    have h35 : rd M 148 35 = nI (l.length + 1) := hp.1
    have htop : rd M 171 l.length = mcd y := by have := hp.2.1.1; rw [List.length_map] at this; exact this
    have hy := hm y List.mem_cons_self
    have pre : b_X6_settles_0 F (opc x) M = if y = x then (m_X6_emits (wr M 148 35 (nI l.length)) (opc x) 0).bind (fun M_7 => if opc x = 9 then (bnd (wr M_7 148 33 ((rd M_7 148 33) - 1)) fun M_9 => some (.inl M_9)) else some (.inl M_7)) else some (.inr M) := by
      unfold b_X6_settles_0
      rw [un1_is, h35, if_neg (show ¬ nI (l.length + 1) ≤ 0 from nI_ge (a := 0) (by omega) (by omega)), nI_s1, chk_is (inb_nI (by omega) (by decide)), ix_nI (by omega), htop, bnd_e]
      by_cases c : y = x
      · rw [if_pos ((mcd_x hx hy).mpr c), if_pos c]
      · rw [if_neg (fun z => c ((mcd_x hx hy).mp z)), if_neg c]
    rw [stE_c]
    by_cases c : y = x
    · rw [if_pos c]
      have hc1 : MC (wr M 148 35 (nI l.length)) xs := hc.fr (wr_sp (by omega)) (fun k j q => wr_sp (by omega))
      obtain ⟨N, e1, e2, e3⟩ := memits hc1 (by omega) (opc x) 0
      have n35 : rd N 148 35 = nI l.length := by rw [e3 _ _ (by decide) (by decide), rd_we, if_pos ⟨rfl, rfl⟩]
      have n33 : rd N 148 33 = nI (opn (y :: l)) := by rw [e3 _ _ (by decide) (by decide), wr_sp (by omega)]; exact hp.2.2
      have nst : stk (rd N 171) (l.map mcd) := stk_fr (fun j _ => by rw [e3 _ _ (by omega) (by omega), wr_sp (by omega)]) hp.2.1.2
      have step : ∃ N2, b_X6_settles_0 F (opc x) M = some (.inl N2) ∧ MC N2 (xs ++ [(opc x, 0)]) ∧ MP N2 l ∧ ∀ k j, ¬ (k = 148 ∧ (j = 32 ∨ j = 33 ∨ j = 35)) → ¬ ((k = 169 ∨ k = 170) ∧ 1600 ≤ j) → rd N2 k j = rd M k j := by
        rw [pre, if_pos c, e1, some_bind]
        rcases hx with hx | hx | hx
        · rw [hx, if_pos (by decide), bnd_e, n33]
          have ho : nI (opn (y :: l)) - 1 = nI (opn l) := by rw [opn_c, c, hx, if_pos (Or.inl rfl), Nat.add_comm, nI_s1]
          rw [ho]
          rw [hx] at e2
          exact ⟨_, rfl, e2.fr (wr_sp (by omega)) (fun k j q => wr_sp (by omega)), ⟨(wr_sp (by omega)).trans n35, stk_fr (fun j _ => wr_sp (by omega)) nst, by rw [rd_we, if_pos ⟨rfl, rfl⟩]⟩, fun k j q1 q2 => by rw [wr_sp (by omega), e3 _ _ (by omega) q2, wr_sp (by omega)]⟩
        · rw [hx, if_neg (by decide)]
          have ho : opn (y :: l) = opn l := by rw [opn_c, c, hx, if_neg (by decide), Nat.zero_add]
          rw [hx] at e2
          exact ⟨_, rfl, e2, ⟨n35, nst, by rw [n33, ho]⟩, fun k j q1 q2 => by rw [e3 _ _ (by omega) q2, wr_sp (by omega)]⟩
        · rw [hx, if_neg (by decide)]
          have ho : opn (y :: l) = opn l := by rw [opn_c, c, hx, if_neg (by decide), Nat.zero_add]
          rw [hx] at e2
          exact ⟨_, rfl, e2, ⟨n35, nst, by rw [n33, ho]⟩, fun k j q1 q2 => by rw [e3 _ _ (by omega) q2, wr_sp (by omega)]⟩
      obtain ⟨N2, s1, s2, s3, s4⟩ := step
      obtain ⟨N3, t1, t2, t3, t4⟩ := ih (fu := f) N2 (xs ++ [(opc x, 0)]) (fun z hz => hm z (List.mem_cons_of_mem _ hz)) s2 s3 (by rw [List.length_append]; show xs.length + 1 + l.length ≤ 400; omega) (by omega) (by omega)
      refine ⟨N3, (lp_inl s1).trans t1, ?_, t3, fun k j q1 q2 => (t4 k j q1 q2).trans (s4 k j q1 q2)⟩
      have : xs ++ (opc x, 0) :: (stE x l).1 = xs ++ [(opc x, 0)] ++ (stE x l).1 := by simp
      show MC N3 (xs ++ (opc x, 0) :: (stE x l).1)
      rw [this]; exact t2
    · rw [if_neg c]
      refine ⟨M, lp_inr (by rw [pre, if_neg c]), ?_, hp, fun _ _ _ _ => rfl⟩
      show MC M (xs ++ []); rw [List.append_nil]; exact hc
theorem msettles {fu : Nat} {x : Int32} (hfu : 1000 ≤ fu) (hx : x = 204 ∨ x = 203 ∨ x = 202) {lg : List Int32} {M : Mem} {xs : List Op} (hm : ∀ y, y ∈ lg → y = 204 ∨ y = 40 ∨ y = 203 ∨ y = 202) (hc : MC M xs) (hp : MP M lg) (hz : xs.length + lg.length ≤ 400) (h40 : lg.length ≤ 40) : ∃ M', m_X6_settles fu M (opc x) = some M' ∧ MC M' (xs ++ (stE x lg).1) ∧ MP M' (stE x lg).2 ∧ ∀ k j, ¬ (k = 148 ∧ (j = 32 ∨ j = 33 ∨ j = 35)) → ¬ ((k = 169 ∨ k = 170) ∧ 1600 ≤ j) → rd M' k j = rd M k j := by
  obtain ⟨M', e, r⟩ := msets (fu := fu) (F := fu) hx lg M xs hm hc hp hz h40 (by omega)
  exact ⟨M', by unfold m_X6_settles; rw [e, some_bind, un1_is], r⟩
theorem mwaits {lg : List Int32} {M : Mem} (hp : rd M 148 35 = nI lg.length) (hs : stk (rd M 171) (lg.map mcd)) (h40 : lg.length < 40) (k : Int32) : ∃ M', m_X6_waits M (mcd k) = some M' ∧ rd M' 148 35 = nI (k :: lg).length ∧ stk (rd M' 171) ((k :: lg).map mcd) ∧ ∀ k j, ¬ (k = 148 ∧ j = 35) → k ≠ 171 → rd M' k j = rd M k j := by
  refine ⟨wr (wr M 171 lg.length (mcd k)) 148 35 (nI (lg.length + 1)), ?_, ?_, ?_, fun k j q1 q2 => ?_⟩
  · unfold m_X6_waits
    rw [hp, chk_is (inb_nI (by omega) (by decide)), ix_nI (by omega), bnd_e, wr_sp (by omega), hp, nI_1, bnd_e]
  · rw [rd_we, if_pos ⟨rfl, rfl⟩]; rfl
  · have := stk_push (k := 171) (x := mcd k) hs
    rw [List.length_map] at this
    exact stk_fr (fun j _ => wr_sp (by omega)) this
  · rw [wr_sp q1, wr_sp (fun z => q2 z.1)]
