theorem CB_sz {s : PS} {p : Nat} {nx : Nat} {d pr su cm : Int32} {lg : List Int32} {cur : List Op} {dn : List Ln} (e : s = (nx, d, (pr, su, cm), lg, cur, dn)) (hz : (encL dn).length + cur.length + (pl pr).length + (pl su).length + (pl cm).length + lg.length + 3 ≤ p) : (encL dn).length + cur.length + (sgL pr su cm lg).length + 3 ≤ p := by
  unfold sgL
  simp only [List.length_append]
  omega
theorem cstpT {fu : Nat} {M : Mem} {s : PS} {p f : Nat} {k v : Int32} (hfu : 1000 ≤ fu) (hS : Sv s p) (hB : CB M s) (hp : p < 400) (h7 : rd M 111 7 = nI f) (h9 : rd M 111 9 = k) (h10 : k = 1 → rd M 111 10 = v) :
    (∃ e M', stp s k v = .inl e ∧ m_X3_readsToken fu M = some (0, M') ∧ rd M' 111 3 = e ∧ rd M' 111 4 = nI f) ∨ (∃ s' M', stp s k v = .inr s' ∧ m_X3_readsToken fu M = some (1, M') ∧ CB M' s' ∧ Kq M M') := by
  obtain ⟨nx, d, ⟨pr, su, cm⟩, lg, cur, dn⟩ := s
  obtain ⟨hd, hn, ho, hs, h⟩ := hS
  obtain ⟨b1, b2, b3, b4, b5, b6, b7, b8⟩ := hB
  have fail : ∀ e : Int32, ∃ M', m_X3_refuse M e = some (0, M') ∧ rd M' 111 3 = e ∧ rd M' 111 4 = nI f := fun e => cref M e h7
  unfold stp m_X3_readsToken
  rw [b1, bnd_e]
  simp only
  rcases h with ⟨rfl, rfl, rfl, rfl, rfl, rfl, hz⟩ | ⟨rfl, rfl, rfl, rfl, rfl, rfl, hn2, hz⟩ | ⟨rfl, rfl, rfl, rfl, rfl, rfl, hn2, hdo, hz⟩ | ⟨hnx, hn2, hdo, hz, h⟩
  · rw [if_pos rfl, if_pos (show nI 0 = 0 from rfl)]
    rw [if_pos rfl, Nat.add_zero] at b2
    unfold m_X3_readsDo
    rw [h9]
    by_cases a : k = 200
    · rw [if_pos a, if_pos a, b2]
      by_cases c : dn.length < 16
      · right
        rw [if_pos c, if_pos (show nI dn.length < 16 from nI_lt (b := 16) c (by decide)), bnd_e, nI_1]
        refine ⟨_, _, rfl, wrapB (wrapB (cexp _ _) (by decide)) (by decide), ⟨by rw [rd_we, if_pos ⟨rfl, rfl⟩]; rfl, ?_, Cd_w (Cd_w b3 (by decide) (by decide)) (by decide) (by decide), fun z => absurd z (by decide), fun z => absurd z (by decide), ?_, stk_w (stk_w b7 (by decide)) (by decide), ?_⟩, fun k j q => ?_⟩
        · rw [wr_sp (by omega), rd_we, if_pos ⟨rfl, rfl⟩, if_neg (by decide)]
        · rw [wr_sp (by omega), wr_sp (by omega)]; exact b6
        · rw [wr_sp (by omega), wr_sp (by omega)]; exact b8
        · rw [wr_sp (by omega), wr_sp (by omega)]
      · left
        rw [if_neg c, if_neg (show ¬ nI dn.length < 16 from nI_nlt (a := dn.length) (b := 16) (by omega) (by omega))]
        obtain ⟨M', g1, g2, g3⟩ := fail 3
        exact ⟨3, M', rfl, wrapB (wrapB g1 (by decide)) (by decide), g2, g3⟩
    · left
      rw [if_neg a, if_neg a]
      obtain ⟨M', g1, g2, g3⟩ := fail 1
      exact ⟨1, M', rfl, wrapB (wrapB g1 (by decide)) (by decide), g2, g3⟩
  · rw [if_neg (by decide), if_pos rfl, if_neg (show ¬ nI 1 = 0 by decide), if_pos (show nI 1 = 1 from rfl)]
    unfold m_X3_readsDoing
    rw [h9]
    by_cases a : k = 1
    · rw [if_pos a, if_pos a, h10 a]
      by_cases c : v < 4
      · right
        rw [if_pos c, if_pos c, bnd_e]
        refine ⟨_, _, rfl, wrapB (wrapB (cexp _ _) (by decide)) (by decide), ⟨by rw [rd_we, if_pos ⟨rfl, rfl⟩]; rfl, ?_, Cd_w (Cd_w b3 (by decide) (by decide)) (by decide) (by decide), fun _ => ?_, fun z => absurd z (by decide), ?_, stk_w (stk_w b7 (by decide)) (by decide), ?_⟩, fun k j q => ?_⟩
        · rw [wr_sp (by omega), wr_sp (by omega)]; exact b2
        · rw [wr_sp (by omega), rd_we, if_pos ⟨rfl, rfl⟩]
        · rw [wr_sp (by omega), wr_sp (by omega)]; exact b6
        · rw [wr_sp (by omega), wr_sp (by omega)]; exact b8
        · rw [wr_sp (by omega), wr_sp (by omega)]
      · left
        rw [if_neg c, if_neg c]
        obtain ⟨M', g1, g2, g3⟩ := fail 2
        exact ⟨2, M', rfl, wrapB (wrapB g1 (by decide)) (by decide), g2, g3⟩
    · left
      rw [if_neg a, if_neg a]
      obtain ⟨M', g1, g2, g3⟩ := fail 1
      exact ⟨1, M', rfl, wrapB (wrapB g1 (by decide)) (by decide), g2, g3⟩
  · rw [if_neg (by decide), if_neg (by decide), if_pos rfl, if_neg (show ¬ nI 2 = 0 by decide), if_neg (show ¬ nI 2 = 1 by decide), if_pos (show nI 2 = 2 from rfl)]
    unfold m_X3_readsWhen
    rw [h9]
    have h12 := b4 (by decide)
    by_cases a : k = 201
    · right
      rw [if_pos a, if_pos a]
      refine ⟨_, _, rfl, wrapB (wrapB (cexp _ _) (by decide)) (by decide), ⟨by rw [rd_we, if_pos ⟨rfl, rfl⟩]; rfl, ?_, Cd_w b3 (by decide) (by decide), fun _ => ?_, fun z => absurd z (by decide), ?_, stk_w b7 (by decide), ?_⟩, fun k j q => ?_⟩
      · rw [wr_sp (by omega)]; exact b2
      · rw [wr_sp (by omega)]; exact h12
      · rw [wr_sp (by omega)]; exact b6
      · rw [wr_sp (by omega)]; exact b8
      · rw [wr_sp (by omega)]
    · rw [if_neg a, if_neg a]
      by_cases c : k = 59
      · right
        rw [if_pos c, if_pos c]
        have b3' : Cd M (encL dn) := by have := b3; rw [List.map_nil, List.append_nil] at this; exact this
        obtain ⟨M1, g1, g2, g3⟩ := cemit (x := 1) b3' (by omega)
        obtain ⟨M2, i1, i2, i3⟩ := cemit (x := 10400 + d) g2 (by rw [List.length_append]; show (encL dn).length + 1 < 400; omega)
        rw [g1, some_bind, g3 _ _ (by decide) (by decide), h12, i1, some_bind]
        refine ⟨_, wr M2 111 11 0, rfl, wrapB (wrapB (cexp _ _) (by decide)) (by decide), ⟨by rw [rd_we, if_pos ⟨rfl, rfl⟩]; rfl, ?_, ?_, fun z => absurd z (by decide), fun z => absurd z (by decide), ?_, trivial, ?_⟩, fun k j q => ?_⟩
        · rw [wr_sp (by omega), i3 _ _ (by decide) (by decide), g3 _ _ (by decide) (by decide), b2, List.length_append, if_pos rfl]; rfl
        · show Cd _ (encL (dn ++ [(d, [])]) ++ [])
          rw [List.append_nil, encL_snoc0]
          exact Cd_w i2 (by decide) (by decide)
        · rw [wr_sp (by omega), i3 _ _ (by decide) (by decide), g3 _ _ (by decide) (by decide)]; exact b6
        · rw [wr_sp (by omega), i3 _ _ (by decide) (by decide), g3 _ _ (by decide) (by decide)]; exact b8
        · rw [wr_sp (by omega), i3 _ _ (by omega) (by omega), g3 _ _ (by omega) (by omega)]
      · left
        rw [if_neg c, if_neg c]
        obtain ⟨M', g1, g2, g3⟩ := fail 1
        exact ⟨1, M', rfl, wrapB (wrapB g1 (by decide)) (by decide), g2, g3⟩
  · have hzs := CB_sz (s := (nx, d, (pr, su, cm), lg, cur, dn)) rfl hz
    have h12 : rd M 111 12 = d := b4 (by omega)
    have b2' : rd M 111 2 = nI (dn.length + 1) := by rw [b2, if_neg (by omega)]
    -- a unit
    have unit : ∀ (M1 : Mem) (x : Int32), (∀ k j, ¬ (k = 111 ∧ j = 13) → rd M1 k j = rd M k j) → rd M1 111 13 = (if x = 0 then 0 else 1) → sgL pr su x lg = sgL pr su cm lg →
        (∃ M', unP d pr su x lg cur dn k v = .inl 1 ∧ m_X3_readsUnit M1 = some (0, M') ∧ rd M' 111 3 = 1 ∧ rd M' 111 4 = nI f) ∨ (∃ s' M', unP d pr su x lg cur dn k v = .inr s' ∧ m_X3_readsUnit M1 = some (1, M') ∧ CB M' s' ∧ Kq M M') := by
      intro M1 x hM h13 hx
      rcases cunit (M := M1) (d := d) (pr := pr) (su := su) (cm := x) (lg := lg) (k := k) (v := v) (f := f) ⟨by rw [hM _ _ (by decide)]; exact b3.1, fun i hi => by rw [hM _ _ (by omega)]; exact b3.2 i hi⟩ (by omega) (by rw [hM _ _ (by decide)]; exact h7) (by rw [hM _ _ (by decide)]; exact h9) (fun z => by rw [hM _ _ (by decide)]; exact h10 z) with ⟨M', g1, g2, g3, g4⟩ | ⟨u, M', g1, g2, g3, g4, g5⟩
      · exact Or.inl ⟨M', g1, g2, g3, g4⟩
      · refine Or.inr ⟨_, M', g1, g2, ⟨by rw [g4]; rfl, ?_, g3, fun _ => ?_, fun _ _ => ?_, ?_, ?_, ?_⟩, fun k j q => ?_⟩
        · rw [g5 _ _ (by decide) (by decide), hM _ _ (by decide), b2', if_neg (by decide)]
        · rw [g5 _ _ (by decide) (by decide), hM _ _ (by decide)]; exact h12
        · rw [g5 _ _ (by decide) (by decide)]; exact h13
        · rw [g5 _ _ (by decide) (by decide), hM _ _ (by decide), hx]; exact b6
        · rw [hx]; exact stk_fr (fun i _ => by rw [g5 _ _ (by decide) (by omega), hM _ _ (by omega)]) b7
        · rw [g5 _ _ (by decide) (by decide), hM _ _ (by decide)]; exact b8
        · rw [g5 _ _ (by omega) (by omega), hM _ _ (by omega)]
    rcases h with ⟨rfl, rfl, rfl, rfl, t, hT, hF⟩ | ⟨rfl, h47, T, hT, hF⟩ | ⟨rfl, h47, T, hT, hF⟩ | ⟨rfl, kk, T, hT, hkk, h47, hF⟩ | ⟨rfl, rfl, rfl, rfl, t, hT, hF⟩
    · -- a condition
      rw [if_neg (by decide), if_neg (by decide), if_neg (by decide), if_pos rfl, if_neg (show ¬ nI 3 = 0 by decide), if_neg (show ¬ nI 3 = 1 by decide), if_neg (show ¬ nI 3 = 2 by decide), if_pos (show nI 3 = 3 from rfl)]
      unfold m_X3_readsCondition
      rw [h9]
      have open_ : (k = 204 ∨ k = 40) → (opn lg < 8 → ∃ M', j_X3_readsCondition_29 M = some (1, M') ∧ CB M' (3, d, (0, 0, 0), k :: lg, cur, dn) ∧ Kq M M') ∧ (¬ opn lg < 8 → ∃ M', j_X3_readsCondition_29 M = some (0, M') ∧ rd M' 111 3 = 3 ∧ rd M' 111 4 = nI f) := by
        intro hk
        refine ⟨fun c => ?_, fun c => ?_⟩
        · have l0 : (sgL 0 0 0 lg).length = lg.length := rfl
          obtain ⟨M2, f1, f2, f3, f4, f5⟩ := cput (M := wr M 111 16 (nI (opn lg + 1))) (σ := lg) (k := k) 3 (by rw [wr_sp (by omega)]; exact b6) (stk_w b7 (by decide)) (by omega) (by rw [wr_sp (by omega)]; exact h9)
          refine ⟨M2, ?_, ⟨by rw [f4]; rfl, ?_, ⟨?_, fun i hi => ?_⟩, fun _ => ?_, fun z => absurd z (by decide), f2, f3, ?_⟩, fun k j q => ?_⟩
          · unfold j_X3_readsCondition_29
            rw [b8, if_pos (show nI (opn lg) < 8 from nI_lt (b := 8) c (by decide)), bnd_e, nI_1]
            exact wrapB f1 (by decide)
          · rw [f5 _ _ (by decide) (by decide), wr_sp (by omega), b2', if_neg (by decide)]
          · rw [f5 _ _ (by decide) (by decide), wr_sp (by omega)]; exact b3.1
          · rw [f5 _ _ (by decide) (by omega), wr_sp (by omega)]; exact b3.2 i hi
          · rw [f5 _ _ (by decide) (by decide), wr_sp (by omega)]; exact h12
          · rw [f5 _ _ (by decide) (by decide), rd_we, if_pos ⟨rfl, rfl⟩, opn_c, if_pos hk, Nat.add_comm]
          · rw [f5 _ _ (by omega) (by omega), wr_sp (by omega)]
        · obtain ⟨M', g1, g2, g3⟩ := fail 3
          refine ⟨M', ?_, g2, g3⟩
          unfold j_X3_readsCondition_29
          rw [b8, if_neg (show ¬ nI (opn lg) < 8 from nI_nlt (a := opn lg) (b := 8) (by omega) (by omega))]
          exact wrapB g1 (by decide)
      by_cases a : k = 204 ∨ k = 40
      · have e : (if k = 204 then j_X3_readsCondition_29 M else if k = 40 then j_X3_readsCondition_29 M else bnd (wr M 111 13 0) fun M_14 => (m_X3_readsUnit M_14).bind <| un2 fun r_17 M_18 => chk (isB r_17) <| some (r_17, M_18)) = j_X3_readsCondition_29 M := by
          by_cases c : k = 204
          · rw [if_pos c]
          · rw [if_neg c]
            rcases a with a | a
            · exact absurd a c
            · rw [if_pos a]
        rw [if_pos a, e]
        by_cases c : opn lg < 8
        · right
          obtain ⟨M', g1, g2, g3⟩ := (open_ a).1 c
          rw [if_pos c]
          exact ⟨_, M', rfl, wrapB g1 (by decide), g2, g3⟩
        · left
          obtain ⟨M', g1, g2, g3⟩ := (open_ a).2 c
          rw [if_neg c]
          exact ⟨3, M', rfl, wrapB g1 (by decide), g2, g3⟩
      · rw [if_neg a, if_neg (fun z => a (Or.inl z)), if_neg (fun z => a (Or.inr z)), bnd_e]
        rcases unit (wr M 111 13 0) 0 (fun k j q => wr_sp q) (by rw [rd_we, if_pos ⟨rfl, rfl⟩, if_pos rfl]) rfl with ⟨M', g1, g2, g3, g4⟩ | ⟨s', M', g1, g2, g3, g4⟩
        · exact Or.inl ⟨1, M', g1, wrapB (wrapB g2 (by decide)) (by decide), g3, g4⟩
        · exact Or.inr ⟨s', M', g1, wrapB (wrapB g2 (by decide)) (by decide), g3, g4⟩
    · rw [if_neg (by decide), if_neg (by decide), if_neg (by decide), if_neg (by decide), if_pos rfl, if_neg (show ¬ nI 4 = 0 by decide), if_neg (show ¬ nI 4 = 1 by decide), if_neg (show ¬ nI 4 = 2 by decide), if_neg (show ¬ nI 4 = 3 by decide), if_pos (show nI 4 = 4 from rfl)]
      rcases unit M cm (fun k j q => rfl) (b5 (by decide) (by decide)) rfl with ⟨M', g1, g2, g3, g4⟩ | ⟨s', M', g1, g2, g3, g4⟩
      · exact Or.inl ⟨1, M', g1, wrapB g2 (by decide), g3, g4⟩
      · exact Or.inr ⟨s', M', g1, wrapB g2 (by decide), g3, g4⟩
    · rw [if_neg (by decide), if_neg (by decide), if_neg (by decide), if_neg (by decide), if_neg (by decide), if_pos rfl, if_neg (show ¬ nI 5 = 0 by decide), if_neg (show ¬ nI 5 = 1 by decide), if_neg (show ¬ nI 5 = 2 by decide), if_neg (show ¬ nI 5 = 3 by decide), if_neg (show ¬ nI 5 = 4 by decide), if_pos (show nI 5 = 5 from rfl)]
      unfold m_X3_readsPart
      rw [h9]
      by_cases a : k = 1
      · rw [if_pos a, if_pos a, h10 a]
        by_cases c : v = 0
        · left
          rw [if_pos c, if_pos c]
          obtain ⟨M', g1, g2, g3⟩ := fail 2
          exact ⟨2, M', rfl, wrapB (wrapB g1 (by decide)) (by decide), g2, g3⟩
        · rw [if_neg c, if_neg c]
          rcases unit M cm (fun k j q => rfl) (b5 (by decide) (by decide)) rfl with ⟨M', g1, g2, g3, g4⟩ | ⟨s', M', g1, g2, g3, g4⟩
          · exact Or.inl ⟨1, M', g1, wrapB (wrapB g2 (by decide)) (by decide), g3, g4⟩
          · exact Or.inr ⟨s', M', g1, wrapB (wrapB g2 (by decide)) (by decide), g3, g4⟩
      · left
        rw [if_neg a, if_neg a]
        obtain ⟨M', g1, g2, g3⟩ := fail 1
        exact ⟨1, M', rfl, wrapB (wrapB g1 (by decide)) (by decide), g2, g3⟩
    · -- behind a unit
      rw [if_neg (by decide), if_neg (by decide), if_neg (by decide), if_neg (by decide), if_neg (by decide), if_neg (by decide), if_pos rfl, if_neg (show ¬ nI 6 = 0 by decide), if_neg (show ¬ nI 6 = 1 by decide), if_neg (show ¬ nI 6 = 2 by decide), if_neg (show ¬ nI 6 = 3 by decide), if_neg (show ¬ nI 6 = 4 by decide), if_neg (show ¬ nI 6 = 5 by decide), if_pos (show nI 6 = 6 from rfl)]
      obtain ⟨k1, T1, q1, e1, F1⟩ := ty_pr hs.1 hkk h47 hF
      obtain ⟨k2, T2, q2, e2, F2⟩ := ty_su hs.2.1 q1 F1
      have ft : ∃ t, FitC lg t := by
        rcases F2 with ⟨-, q⟩ | ⟨-, a, r, -, -, q⟩
        · exact ⟨_, q⟩
        · exact ⟨_, q⟩
      obtain ⟨t, hFt⟩ := ft
      have h13 := b5 (by decide) (by decide)
      have hlen : (encL dn ++ cur.map encO).length + (sgL pr su cm lg).length ≤ 400 := by rw [List.length_append, List.length_map]; omega
      have hop : rd M 111 16 = nI (opn (sgL pr su cm lg)) := by rw [opn_sg hs]; exact b8
      have rkk := rk_le k
      -- settle, then put
      have put : ∀ (M1 : Mem) (r : Nat) (a1 : Nat) (pr' su' cm' : Int32) (X : List Op), (∀ k j, ¬ (k = 111 ∧ j = 13) → rd M1 k j = rd M k j) → 0 < r → r ≤ 6 → (stl r (sgL pr su cm lg)).1 = X → (stl r (sgL pr su cm lg)).2.length < 400 → k :: (stl r (sgL pr su cm lg)).2 = sgL pr' su' cm' lg → opn (sgL pr' su' cm' lg) = opn lg → opn (stl r (sgL pr su cm lg)).2 = opn lg → rd M1 111 13 = (if cm' = 0 then 0 else 1) → (a1 = 4 ∨ a1 = 5) →
          ∃ Ms M', m_X3_settleSigns fu M1 (nI r) = some Ms ∧ rd Ms 111 9 = k ∧ m_X3_putSign Ms (nI a1) = some (1, M') ∧ CB M' (a1, d, (pr', su', cm'), lg, cur ++ X, dn) ∧ Kq M M' := by
        intro M1 r a1 pr' su' cm' X hM hr0 hr6 hX hl4 hsg hop' hop2 h13' ha
        obtain ⟨M2, t1, t2, t3, t4, t5, t6⟩ := cset_is (F := fu) hr0 hr6 (sgL pr su cm lg) M1 (encL dn ++ cur.map encO) ⟨by rw [hM _ _ (by decide)]; exact b3.1, fun i hi => by rw [hM _ _ (by omega)]; exact b3.2 i hi⟩ (by rw [hM _ _ (by decide)]; exact b6) (stk_fr (fun i _ => hM _ _ (by omega)) b7) (by rw [hM _ _ (by decide)]; exact hop) hlen fu (by omega)
        have g9 : rd M2 111 9 = k := by rw [t6 _ _ (by decide) (by decide), hM _ _ (by decide)]; exact h9
        obtain ⟨M3, f1, f2, f3, f4, f5⟩ := cput (nI a1) t3 t4 hl4 g9
        refine ⟨M2, M3, by unfold m_X3_settleSigns; rw [t1, some_bind, un1_is], g9, f1, ⟨f4, ?_, ⟨?_, fun i hi => ?_⟩, fun _ => ?_, fun _ _ => ?_, ?_, ?_, ?_⟩, fun k j q => ?_⟩
        · rw [f5 _ _ (by decide) (by decide), t6 _ _ (by decide) (by decide), hM _ _ (by decide), b2', if_neg (by omega)]
        · rw [f5 _ _ (by decide) (by decide), t2.1, ← hX]; simp
        · have : encL dn ++ (cur ++ X).map encO = encL dn ++ cur.map encO ++ (stl r (sgL pr su cm lg)).1.map encO := by rw [hX]; simp
          rw [f5 _ _ (by decide) (by omega), this]
          exact t2.2 i (by rw [← this]; exact hi)
        · rw [f5 _ _ (by decide) (by decide), t6 _ _ (by decide) (by decide), hM _ _ (by decide)]; exact h12
        · rw [f5 _ _ (by decide) (by decide), t6 _ _ (by decide) (by decide)]; exact h13'
        · rw [← hsg]; exact f2
        · rw [← hsg]; exact f3
        · rw [f5 _ _ (by decide) (by decide), t5, hop2]
        · rw [f5 _ _ (by omega) (by omega), t6 _ _ (by omega) (by omega), hM _ _ (by omega)]
      have lsl : ∀ r, (stl r (sgL pr su cm lg)).2.length < 400 := fun r => by have := (stl_len r (sgL pr su cm lg)).1; omega
      unfold m_X3_readsBehindUnit
      rw [h9, crank, some_bind, crank, some_bind, show rkN 60 = 4 by decide]
      by_cases a : rkN k = 6
      · rw [if_pos a, if_neg (nI_ge (by omega) (by omega)), some_bind, a]
        have k6 := rk6 a
        have kn : k ≠ 0 := by rcases k6 with rfl | rfl <;> decide
        have hs' : sgOk k su cm := ⟨Or.inr k6, hs.2⟩
        have hs0 : sgOk 0 su cm := ⟨Or.inl rfl, hs.2⟩
        have e6 := set6 hs hFt
        have hpl : k :: sgL 0 su cm lg = sgL k su cm lg := by unfold sgL pl; rw [if_pos rfl, if_neg kn]; rfl
        right
        obtain ⟨Ms, M', g1, g2, g3, g4, g5⟩ := put M 6 (if k = 47 then 5 else 4) k su cm (ol pr) (fun k j q => rfl) (by decide) (by decide) (by rw [e6]) (lsl 6) (by rw [e6]; exact hpl) (opn_sg hs') (by rw [e6]; exact opn_sg hs0) h13 (by by_cases c : k = 47 <;> simp [c])
        refine ⟨_, M', rfl, ?_, g4, g5⟩
        rw [g1, some_bind, g2]
        by_cases c : k = 47
        · rw [if_pos c] at g3 ⊢
          exact wrapB (wrapB g3 (by decide)) (by decide)
        · rw [if_neg c] at g3 ⊢
          exact wrapB (wrapB g3 (by decide)) (by decide)
      rw [if_neg a]
      by_cases a5 : rkN k = 5
      · rw [if_pos a5, if_neg (nI_ge (by omega) (by omega)), some_bind, a5]
        have k5 := rk5 a5
        have kn : k ≠ 0 := by rcases k5 with rfl | rfl <;> decide
        have hs' : sgOk 0 k cm := ⟨Or.inl rfl, Or.inr k5, hs.2.2⟩
        have hs0 : sgOk 0 0 cm := ⟨Or.inl rfl, Or.inl rfl, hs.2.2⟩
        have e5 := set5 hs hFt
        have hpl : k :: sgL 0 0 cm lg = sgL 0 k cm lg := by unfold sgL pl; rw [if_pos rfl, if_neg kn]; rfl
        right
        obtain ⟨Ms, M', g1, g2, g3, g4, g5⟩ := put M 5 4 0 k cm (ol pr ++ ol su) (fun k j q => rfl) (by decide) (by decide) (by rw [e5]) (lsl 5) (by rw [e5]; exact hpl) (opn_sg hs') (by rw [e5]; exact opn_sg hs0) h13 (Or.inl rfl)
        have c : k ≠ 47 := by rcases k5 with rfl | rfl <;> decide
        rw [← List.append_assoc] at g4
        refine ⟨_, M', rfl, ?_, g4, g5⟩
        rw [g1, some_bind, g2, if_neg c]
        exact wrapB (wrapB g3 (by decide)) (by decide)
      rw [if_neg a5, if_pos (nI_le (by omega) (by omega)), h13]
      by_cases a4 : cm = 0
      · rw [if_pos a4, if_pos a4, if_pos rfl, some_bind, some_bind]
        by_cases c : rkN k = 4
        · rw [if_pos c, if_pos (nI_le (by omega) (by omega)), bnd_e, wr_sp (by omega), h9, crank, some_bind, c]
          have k4 := rk4 c
          have kn : k ≠ 0 := by rcases k4 with rfl | rfl | rfl <;> decide
          subst a4
          have hs' : sgOk 0 0 k := ⟨Or.inl rfl, Or.inl rfl, Or.inr k4⟩
          have e4 := set4 (r := 4) (by decide) hs hFt
          rw [stl4 hFt] at e4
          have hpl : k :: lg = sgL 0 0 k lg := by unfold sgL pl; rw [if_pos rfl, if_neg kn]; rfl
          right
          obtain ⟨Ms, M', g1, g2, g3, g4, g5⟩ := put (wr M 111 13 1) 4 4 0 0 k (ol pr ++ ol su) (fun k j q => wr_sp q) (by decide) (by decide) (by rw [e4]; show ol pr ++ (ol su ++ ([] ++ [])) = _; simp) (lsl 4) (by rw [e4]; exact hpl) (opn_sg hs') (by rw [e4]) (by rw [rd_we, if_pos ⟨rfl, rfl⟩, if_neg kn]) (Or.inl rfl)
          rw [← List.append_assoc] at g4
          refine ⟨_, M', rfl, ?_, g4, g5⟩
          rw [g1, some_bind]
          exact wrapB (wrapB g3 (by decide)) (by decide)
        · left
          have : rkN k < 4 := by omega
          rw [if_neg c, if_neg (nI_ge this (by omega))]
          obtain ⟨M', g1, g2, g3⟩ := fail 1
          exact ⟨1, M', rfl, wrapB (wrapB g1 (by decide)) (by decide), g2, g3⟩
      · rw [if_neg a4, if_neg a4, if_neg (by decide)]
        have c0 : cm = 60 ∨ cm = 61 ∨ cm = 62 := by
          rcases hs.2.2 with h | h
          · exact absurd h a4
          · exact h
        obtain ⟨T3, e3, F3⟩ := ty_cm c0 q2 F2
        rcases cbh (fu := fu) (d := d) (k := k) (f := f) hfu hs F3 (by rw [tyL_app, tyL_app, tyL_app, hT, some_bind, e1, some_bind, e2, some_bind, e3]) b3 b6 b7 b8 b2' h12 (by omega) h7 h9 with ⟨e, M', g1, g2, g3, g4⟩ | ⟨s', M', g1, g2, g3, g4⟩
        · exact Or.inl ⟨e, M', g1, wrapB (wrapB g2 (by decide)) (by decide), g3, g4⟩
        · exact Or.inr ⟨s', M', g1, wrapB (wrapB g2 (by decide)) (by decide), g3, g4⟩
    · -- behind a condition
      rw [if_neg (by decide), if_neg (by decide), if_neg (by decide), if_neg (by decide), if_neg (by decide), if_neg (by decide), if_neg (by decide), if_neg (show ¬ nI 7 = 0 by decide), if_neg (show ¬ nI 7 = 1 by decide), if_neg (show ¬ nI 7 = 2 by decide), if_neg (show ¬ nI 7 = 3 by decide), if_neg (show ¬ nI 7 = 4 by decide), if_neg (show ¬ nI 7 = 5 by decide), if_neg (show ¬ nI 7 = 6 by decide)]
      have e0 : cur ++ ol 0 ++ ol 0 ++ ol 0 = cur := by show cur ++ [] ++ [] ++ [] = cur; simp
      have cc := cbh (fu := fu) (d := d) (k := k) (f := f) (pr := 0) (su := 0) (cm := 0) (t := t) hfu hs hF (by rw [e0]; exact hT) b3 b6 b7 b8 b2' h12 (by omega) h7 h9
      rw [e0] at cc
      rcases cc with ⟨e, M', g1, g2, g3, g4⟩ | ⟨s', M', g1, g2, g3, g4⟩
      · exact Or.inl ⟨e, M', g1, wrapB g2 (by decide), g3, g4⟩
      · exact Or.inr ⟨s', M', g1, wrapB g2 (by decide), g3, g4⟩
