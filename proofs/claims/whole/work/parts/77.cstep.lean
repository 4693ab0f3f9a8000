theorem wrapB {m : Option (Int32 × Mem)} {r : Int32} {M' : Mem} (h : m = some (r, M')) (hr : isB r = true) : (m.bind (un2 fun r_ M_ => chk (isB r_) (some (r_, M_)))) = some (r, M') := by
  rw [h, some_bind, un2_is, chk_is hr]
theorem cref (M : Mem) (e : Int32) {f : Nat} (h7 : rd M 111 7 = nI f) : ∃ M', m_X3_refuse M e = some (0, M') ∧ rd M' 111 3 = e ∧ rd M' 111 4 = nI f := by
  refine ⟨_, rfl, ?_, ?_⟩
  · rw [wr_sp (by omega), rd_we, if_pos ⟨rfl, rfl⟩]
  · rw [rd_we, if_pos ⟨rfl, rfl⟩, wr_sp (by omega)]; exact h7
theorem cexp (M : Mem) (x : Int32) : m_X3_expect M x = some (1, wr M 111 11 x) := rfl
theorem stk_w {M : Mem} {k j : Nat} {x : Int32} {σ : List Int32} (h : stk (rd M 114) σ) (hk : k ≠ 114) : stk (rd (wr M k j x) 114) σ := stk_fr (fun i _ => wr_sp (fun z => hk z.1.symm)) h
theorem Cd_w {M : Mem} {k j : Nat} {x : Int32} {xs : List Int32} (h : Cd M xs) (h1 : k ≠ 112) (h2 : ¬ (k = 111 ∧ j = 1)) : Cd (wr M k j x) xs := ⟨by rw [wr_sp (fun z => h2 ⟨z.1.symm, z.2.symm⟩)]; exact h.1, fun i hi => by rw [wr_sp (fun z => h1 z.1.symm)]; exact h.2 i hi⟩
theorem cput {M : Mem} {σ : List Int32} {k : Int32} (a : Int32) (h15 : rd M 111 15 = nI σ.length) (hst : stk (rd M 114) σ) (hl : σ.length < 400) (h9 : rd M 111 9 = k) : ∃ M', m_X3_putSign M a = some (1, M') ∧ rd M' 111 15 = nI (k :: σ).length ∧ stk (rd M' 114) (k :: σ) ∧ rd M' 111 11 = a ∧ ∀ k j, k ≠ 114 → ¬ (k = 111 ∧ (j = 15 ∨ j = 11)) → rd M' k j = rd M k j := by
  refine ⟨wr (wr (wr M 114 σ.length k) 111 15 (nI (σ.length + 1))) 111 11 a, ?_, ?_, ?_, ?_, fun k j q1 q2 => ?_⟩
  · unfold m_X3_putSign j_X3_putSign_35
    rw [h15, if_neg (show ¬ Int32.ofNat 400 ≤ nI σ.length from nI_ge hl (by decide)), chk_is (inb_nI hl (by decide)), h9, ix_nI (by omega), bnd_e, wr_sp (by omega), h15, nI_1, bnd_e, cexp, some_bind, un2_is, chk_is (by decide)]
  · rw [wr_sp (by omega), rd_we, if_pos ⟨rfl, rfl⟩]; rfl
  · exact stk_w (stk_w (stk_push hst) (by decide)) (by decide)
  · rw [rd_we, if_pos ⟨rfl, rfl⟩]
  · rw [wr_sp (by omega), wr_sp (by omega), wr_sp (by omega)]
theorem enc_app (dn : List Ln) (cur : List Op) (u : Op) : encL dn ++ (cur ++ [u]).map encO = (encL dn ++ cur.map encO) ++ [encO u] := by simp
theorem cunit {M : Mem} {d pr su cm : Int32} {lg : List Int32} {cur : List Op} {dn : List Ln} {k v : Int32} {f : Nat} (hc : Cd M (encL dn ++ cur.map encO)) (hl : (encL dn).length + cur.length < 400) (h7 : rd M 111 7 = nI f) (h9 : rd M 111 9 = k) (h10 : k = 1 → rd M 111 10 = v) :
    (∃ M', unP d pr su cm lg cur dn k v = .inl 1 ∧ m_X3_readsUnit M = some (0, M') ∧ rd M' 111 3 = 1 ∧ rd M' 111 4 = nI f) ∨ (∃ u M', unP d pr su cm lg cur dn k v = .inr (6, d, (pr, su, cm), lg, cur ++ [u], dn) ∧ m_X3_readsUnit M = some (1, M') ∧ Cd M' (encL dn ++ (cur ++ [u]).map encO) ∧ rd M' 111 11 = 6 ∧ ∀ k j, k ≠ 112 → ¬ (k = 111 ∧ (j = 1 ∨ j = 11)) → rd M' k j = rd M k j) := by
  have hl' : (encL dn ++ cur.map encO).length < 400 := by rw [List.length_append, List.length_map]; exact hl
  have go : ∀ (x : Int32) (u : Op), encO u = x → ∃ M1 M', m_X3_emit M x = some M1 ∧ j_X3_readsUnit_54 M1 = some (1, M') ∧ Cd M' (encL dn ++ (cur ++ [u]).map encO) ∧ rd M' 111 11 = 6 ∧ ∀ k j, k ≠ 112 → ¬ (k = 111 ∧ (j = 1 ∨ j = 11)) → rd M' k j = rd M k j := by
    intro x u hu
    obtain ⟨M1, e1, e2, e3⟩ := cemit (x := x) hc hl'
    refine ⟨M1, wr M1 111 11 6, e1, wrapB (cexp M1 6) (by decide), ?_, by rw [rd_we, if_pos ⟨rfl, rfl⟩], fun k j q1 q2 => ?_⟩
    · rw [enc_app, hu]; exact Cd_w e2 (by decide) (by decide)
    · rw [wr_sp (by omega)]; exact e3 k j q1 (by omega)
  unfold unP m_X3_readsUnit
  rw [h9]
  by_cases a : k = 1
  · right
    obtain ⟨M1, M', e1, e2, e3, e4, e5⟩ := go v (0, v) rfl
    rw [if_pos a, if_pos a, h10 a, e1, some_bind]
    exact ⟨_, M', rfl, e2, e3, e4, e5⟩
  · rw [if_neg a, if_neg a]
    by_cases c : k < 205
    · left
      rw [if_pos c, if_pos c]
      obtain ⟨M', e1, e2, e3⟩ := cref M 1 h7
      exact ⟨M', rfl, wrapB e1 (by decide), e2, e3⟩
    · right
      obtain ⟨M1, M', e1, e2, e3, e4, e5⟩ := go (10000 + k - 205) (1, k - 205) (by show (if (1 : Int32) = 0 then _ else if (1 : Int32) = 1 then 10000 + (k - 205) else _) = _; rw [if_neg (by decide), if_pos rfl]; grind)
      rw [if_neg c, if_neg c, e1, some_bind]
      exact ⟨_, M', rfl, e2, e3, e4, e5⟩
theorem encL_snoc (dn : List Ln) (d : Int32) (O : List Op) (h : O ≠ []) : encL (dn ++ [(d, O)]) = (encL dn ++ O.map encO) ++ [10400 + d] := by
  rw [encL_app]
  cases O with
  | nil => exact absurd rfl h
  | cons o r => simp [encL, encLn]
theorem encL_snoc0 (dn : List Ln) (d : Int32) : encL (dn ++ [(d, [])]) = (encL dn ++ [1]) ++ [10400 + d] := by
  rw [encL_app]; simp [encL, encLn]
/-- tokens that are kept -/
def Kq (M M' : Mem) : Prop := ∀ k j, (k = 113 ∨ (k = 111 ∧ 6 ≤ j ∧ j ≤ 10)) → rd M' k j = rd M k j
theorem cbh {fu : Nat} {M : Mem} {d pr su cm : Int32} {lg : List Int32} {cur : List Op} {dn : List Ln} {k : Int32} {f : Nat} {t : List Nat} (hfu : 1000 ≤ fu) (hs : sgOk pr su cm) (hF : FitC lg t) (hT : tyL (cur ++ ol pr ++ ol su ++ ol cm) [] = some (2 :: t)) (hc : Cd M (encL dn ++ cur.map encO)) (h15 : rd M 111 15 = nI (sgL pr su cm lg).length) (hst : stk (rd M 114) (sgL pr su cm lg)) (h16 : rd M 111 16 = nI (opn lg)) (h2 : rd M 111 2 = nI (dn.length + 1)) (h12 : rd M 111 12 = d) (hz : (encL dn).length + cur.length + (sgL pr su cm lg).length + 3 ≤ 400) (h7 : rd M 111 7 = nI f) (h9 : rd M 111 9 = k) :
    (∃ e M', bhP d lg (cur ++ ol pr ++ ol su ++ ol cm) dn k = .inl e ∧ m_X3_readsBehindCondition fu M = some (0, M') ∧ rd M' 111 3 = e ∧ rd M' 111 4 = nI f) ∨ (∃ s' M', bhP d lg (cur ++ ol pr ++ ol su ++ ol cm) dn k = .inr s' ∧ m_X3_readsBehindCondition fu M = some (1, M') ∧ CB M' s' ∧ Kq M M') := by
  have hlen : (encL dn ++ cur.map encO).length + (sgL pr su cm lg).length ≤ 400 := by rw [List.length_append, List.length_map]; omega
  have hop : rd M 111 16 = nI (opn (sgL pr su cm lg)) := by rw [opn_sg hs]; exact h16
  -- settle at r
  have set : ∀ r, 0 < r → r ≤ 4 → ∃ M', m_X3_settleSigns fu M (nI r) = some M' ∧ Cd M' (encL dn ++ (cur ++ ol pr ++ ol su ++ ol cm ++ (stl r lg).1).map encO) ∧ rd M' 111 15 = nI (stl r lg).2.length ∧ stk (rd M' 114) (stl r lg).2 ∧ rd M' 111 16 = nI (opn (stl r lg).2) ∧ Fe M M' := by
    intro r h0 h4
    obtain ⟨M', e1, e2, e3, e4, e5, e6⟩ := cset_is (F := fu) h0 (by omega) _ M _ hc h15 hst hop hlen fu (by omega)
    rw [set4 h4 hs hF] at e2 e3 e4 e5
    refine ⟨M', by unfold m_X3_settleSigns; rw [e1, some_bind, un1_is], ?_, e3, e4, e5, e6⟩
    have : encL dn ++ (cur ++ ol pr ++ ol su ++ ol cm ++ (stl r lg).1).map encO = encL dn ++ cur.map encO ++ (ol pr ++ (ol su ++ (ol cm ++ (stl r lg).1))).map encO := by simp
    rw [this]; exact e2
  have lens : ∀ r, (cur ++ ol pr ++ ol su ++ ol cm ++ (stl r lg).1).length + (stl r lg).2.length = cur.length + (sgL pr su cm lg).length := by
    intro r
    have := (stl_len r lg).1
    have l1 := ol_len pr
    have l2 := ol_len su
    have l3 := ol_len cm
    unfold sgL
    simp only [List.length_append]
    omega
  have ne : ∀ r, cur ++ ol pr ++ ol su ++ ol cm ++ (stl r lg).1 ≠ [] := by
    intro r z
    have z2 := (List.append_eq_nil_iff.mp z).1
    rw [z2] at hT
    exact absurd hT (by intro y; cases y)
  -- and, or
  have ao : ∀ r : Nat, 0 < r → r ≤ 4 → rkN k = r → (k = 203 ∨ k = 202) → ∃ M', j_X3_readsBehindCondition_20 fu M = some (1, M') ∧ CB M' (3, d, (0, 0, 0), k :: (stl r lg).2, cur ++ ol pr ++ ol su ++ ol cm ++ (stl r lg).1, dn) ∧ Kq M M' := by
    intro r h0 h4 hk hk2
    obtain ⟨M1, e1, e2, e3, e4, e5, e6⟩ := set r h0 h4
    have h91 : rd M1 111 9 = k := by rw [e6 _ _ (by decide) (by decide)]; exact h9
    obtain ⟨M2, f1, f2, f3, f4, f5⟩ := cput (σ := (stl r lg).2) 3 e3 e4 (by have := lens r; omega) h91
    refine ⟨M2, ?_, ⟨by rw [f4]; rfl, ?_, ⟨?_, fun i hi => ?_⟩, fun _ => ?_, fun z => absurd z (by omega), f2, f3, ?_⟩, fun k j q => ?_⟩
    · unfold j_X3_readsBehindCondition_20
      rw [h9, crank, hk, some_bind, e1, some_bind]
      exact wrapB f1 (by decide)
    · rw [f5 _ _ (by decide) (by decide), e6 _ _ (by decide) (by decide), h2, if_neg (by decide)]
    · rw [f5 _ _ (by decide) (by decide)]; exact e2.1
    · rw [f5 _ _ (by decide) (by omega)]; exact e2.2 i hi
    · rw [f5 _ _ (by decide) (by decide), e6 _ _ (by decide) (by decide)]; exact h12
    · rw [f5 _ _ (by decide) (by decide), e5, opn_c, if_neg (by rcases hk2 with rfl | rfl <;> decide), Nat.zero_add]
    · rw [f5 _ _ (by omega) (by omega), e6 _ _ (by omega) (by omega)]
  unfold m_X3_readsBehindCondition bhP
  rw [h9]
  by_cases c1 : k = 203
  · right
    rw [if_pos c1, if_pos c1]
    obtain ⟨M', e1, e2, e3⟩ := ao 2 (by decide) (by decide) (by rw [c1]; decide) (Or.inl c1)
    rw [c1] at e2
    exact ⟨_, M', rfl, e1, e2, e3⟩
  rw [if_neg c1, if_neg c1]
  by_cases c2 : k = 202
  · right
    rw [if_pos c2, if_pos c2]
    obtain ⟨M', e1, e2, e3⟩ := ao 1 (by decide) (by decide) (by rw [c2]; decide) (Or.inr c2)
    rw [c2] at e2
    exact ⟨_, M', rfl, e1, e2, e3⟩
  rw [if_neg c2, if_neg c2]
  obtain ⟨M1, e1, e2, e3, e4, e5, e6⟩ := set 1 (by decide) (by decide)
  have h91 : rd M1 111 9 = k := by rw [e6 _ _ (by decide) (by decide)]; exact h9
  have h71 : rd M1 111 7 = nI f := by rw [e6 _ _ (by decide) (by decide)]; exact h7
  have l1 := lens 1
  have pre : j_X3_readsBehindCondition_61 fu M = j_X3_readsBehindCondition_98 fu M1 (if (stl 1 lg).2 = [] then 0 else 1) (if k = 41 then 1 else 0) := by
    unfold j_X3_readsBehindCondition_61 j_X3_readsBehindCondition_83
    rw [crank, some_bind, show rkN 202 = 1 by decide, e1, some_bind, e3, h91]
    by_cases y : (stl 1 lg).2 = []
    · rw [if_pos (by rw [y]; decide), if_pos y]
      by_cases z : k = 41
      · rw [if_pos z, if_pos z]
      · rw [if_neg z, if_neg z]
    · have : 0 < (stl 1 lg).2.length := List.length_pos_iff.mpr y
      rw [if_neg (show ¬ nI (stl 1 lg).2.length ≤ 0 from nI_ge (a := 0) this (by omega)), if_neg y]
      by_cases z : k = 41
      · rw [if_pos z, if_pos z]
      · rw [if_neg z, if_neg z]
  have bad : ∀ x y : Int32, x ≠ y → ∃ M', j_X3_readsBehindCondition_98 fu M1 x y = some (0, M') ∧ rd M' 111 3 = 1 ∧ rd M' 111 4 = nI f := by
    intro x y n
    obtain ⟨M', g1, g2, g3⟩ := cref M1 1 h71
    exact ⟨M', by unfold j_X3_readsBehindCondition_98; rw [if_neg n]; exact wrapB g1 (by decide), g2, g3⟩
  by_cases c3 : k = 41
  · rw [if_pos c3, if_pos c3, pre, if_pos c3]
    rcases stl_1 hF with y | ⟨r, y⟩
    · left
      rw [y, if_pos rfl]
      obtain ⟨M', g1, g2, g3⟩ := bad 0 1 (by decide)
      exact ⟨1, M', rfl, g1, g2, g3⟩
    · right
      rw [y] at e3 e4 e5 l1
      rw [y, if_neg (by intro z; cases z)]
      have e3' : rd M1 111 15 = nI (r.length + 1) := e3
      have e5' : rd M1 111 16 = nI (opn r + 1) := by rw [e5, opn_c, if_pos (Or.inr rfl), Nat.add_comm]
      refine ⟨_, wr (wr (wr M1 111 15 (nI r.length)) 111 16 (nI (opn r))) 111 11 7, rfl, ?_, ⟨by rw [rd_we, if_pos ⟨rfl, rfl⟩]; rfl, ?_, Cd_w (Cd_w (Cd_w e2 (by decide) (by decide)) (by decide) (by decide)) (by decide) (by decide), fun _ => ?_, fun z1 z2 => absurd z2 (by decide), ?_, ?_, ?_⟩, fun k j q => ?_⟩
      · unfold j_X3_readsBehindCondition_98
        rw [if_pos rfl, if_neg (by decide), e3', nI_s1, bnd_e, wr_sp (by omega), e5', nI_s1, bnd_e]
        exact wrapB (cexp _ _) (by decide)
      · rw [wr_sp (by omega), wr_sp (by omega), wr_sp (by omega), e6 _ _ (by decide) (by decide), h2, if_neg (by decide)]
      · rw [wr_sp (by omega), wr_sp (by omega), wr_sp (by omega), e6 _ _ (by decide) (by decide)]; exact h12
      · rw [wr_sp (by omega), wr_sp (by omega), rd_we, if_pos ⟨rfl, rfl⟩]; rfl
      · exact stk_w (stk_w (stk_w e4.2 (by decide)) (by decide)) (by decide)
      · rw [wr_sp (by omega), rd_we, if_pos ⟨rfl, rfl⟩]
      · rw [wr_sp (by omega), wr_sp (by omega), wr_sp (by omega), e6 _ _ (by omega) (by omega)]
  rw [if_neg c3, if_neg c3]
  by_cases c4 : k = 59
  · rw [if_pos c4, if_pos c4, pre, if_neg c3]
    rcases stl_1 hF with y | ⟨r, y⟩
    · right
      rw [y] at e3 e4 e5 l1
      rw [y, if_pos rfl]
      have l0 : (cur ++ ol pr ++ ol su ++ ol cm ++ (stl 1 lg).1).length + 0 = cur.length + (sgL pr su cm lg).length := l1
      obtain ⟨M2, g1, g2, g3⟩ := cemit (x := 10400 + d) e2 (by rw [List.length_append, List.length_map]; omega)
      refine ⟨_, wr M2 111 11 0, rfl, ?_, ⟨by rw [rd_we, if_pos ⟨rfl, rfl⟩]; rfl, ?_, ?_, fun z => absurd z (by decide), fun z => absurd z (by decide), ?_, trivial, ?_⟩, fun k j q => ?_⟩
      · unfold j_X3_readsBehindCondition_98
        rw [if_pos rfl, if_pos rfl, e6 _ _ (by decide) (by decide), h12, g1, some_bind]
        exact wrapB (cexp _ _) (by decide)
      · rw [wr_sp (by omega), g3 _ _ (by decide) (by decide), e6 _ _ (by decide) (by decide), h2, List.length_append, if_pos rfl]; rfl
      · show Cd _ (encL (dn ++ [(d, cur ++ ol pr ++ ol su ++ ol cm ++ (stl 1 lg).1)]) ++ [])
        rw [List.append_nil, encL_snoc _ _ _ (ne 1)]
        exact Cd_w g2 (by decide) (by decide)
      · rw [wr_sp (by omega), g3 _ _ (by decide) (by decide)]; exact e3
      · rw [wr_sp (by omega), g3 _ _ (by decide) (by decide)]; exact e5
      · rw [wr_sp (by omega), g3 _ _ (by omega) (by omega), e6 _ _ (by omega) (by omega)]
    · left
      rw [y, if_neg (by intro z; cases z)]
      obtain ⟨M', g1, g2, g3⟩ := bad 1 0 (by decide)
      exact ⟨1, M', rfl, g1, g2, g3⟩
  · left
    rw [if_neg c4, if_neg c4]
    obtain ⟨M', g1, g2, g3⟩ := cref M 1 h7
    exact ⟨1, M', rfl, wrapB g1 (by decide), g2, g3⟩
