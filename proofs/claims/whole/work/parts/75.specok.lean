theorem rk6 {k : Int32} (h : rkN k = 6) : k = 42 ∨ k = 47 := by
  unfold rkN at h
  split at h
  · next e => exact Or.inl e
  split at h
  · omega
  split at h
  · omega
  split at h
  · next e => exact Or.inr e
  split at h
  · omega
  split at h
  · omega
  split at h
  · omega
  split at h
  · omega
  split at h
  · omega
  split at h
  · omega
  · omega
theorem rk5 {k : Int32} (h : rkN k = 5) : k = 43 ∨ k = 45 := by
  unfold rkN at h
  split at h
  · omega
  split at h
  · next e => exact Or.inl e
  split at h
  · next e => exact Or.inr e
  split at h
  · omega
  split at h
  · omega
  split at h
  · omega
  split at h
  · omega
  split at h
  · omega
  split at h
  · omega
  split at h
  · omega
  · omega
theorem rk4 {k : Int32} (h : rkN k = 4) : k = 60 ∨ k = 61 ∨ k = 62 := by
  unfold rkN at h
  split at h
  · omega
  split at h
  · omega
  split at h
  · omega
  split at h
  · omega
  split at h
  · next e => exact Or.inl e
  split at h
  · next e => exact Or.inr (Or.inl e)
  split at h
  · next e => exact Or.inr (Or.inr e)
  split at h
  · omega
  split at h
  · omega
  split at h
  · omega
  · omega
theorem tyN (v : Int32) (T : List Nat) (h : 0 ≤ v ∧ v ≤ 9999) : tyL [((0 : Int32), v)] T = some ((if v = 0 then 0 else 1) :: T) := by
  show (tyO (0, v) T).bind _ = _
  unfold tyO
  rw [if_pos rfl, if_pos h]; rfl
theorem tyA (a : Nat) (T : List Nat) (h : a < 15) : tyL [((1 : Int32), nI a)] T = some (0 :: T) := by
  show (tyO (1, nI a) T).bind _ = _
  unfold tyO
  rw [if_neg (show ¬ (1 : Int32) = 0 by decide), if_pos rfl, if_pos ⟨nI_pos' (by omega), by rw [show (14 : Int32) = nI 14 from rfl]; exact nI_le (by omega) (by decide)⟩]; rfl
/-- the tokens' bounds -/
def KOk (k v : Int32) : Prop := (k = 1 → 0 ≤ v ∧ v ≤ 9999) ∧ (¬ k < 205 → ∃ a, a < 15 ∧ k - 205 = nI a)
theorem un_ok {d pr su cm : Int32} {lg : List Int32} {cur : List Op} {dn : List Ln} {k v : Int32} {s' : PS} {T : List Nat} {p q : Nat} (e : unP d pr su cm lg cur dn k v = .inr s') (hk : KOk k v) (hd : ∀ l, l ∈ dn → LnOk l) (hn : dn.length < 16) (ho : opn lg ≤ 8) (hs : sgOk pr su cm) (hdo : ∃ k, k < 4 ∧ d = nI k) (hz : (encL dn).length + cur.length + (pl pr).length + (pl su).length + (pl cm).length + lg.length + 3 ≤ p) (hpq : p < q) (hT : tyL cur [] = some T) (hF : FitN pr su cm lg T) (h47 : pr = 47 → k = 1 ∧ v ≠ 0) : Sv s' q := by
  unfold unP at e
  by_cases a : k = 1
  · rw [if_pos a] at e
    obtain rfl := Sum.inr.inj e
    refine ⟨hd, by omega, ho, hs, Or.inr (Or.inr (Or.inr ⟨by omega, hn, hdo, by rw [List.length_append]; show _ + (_ + 1) + _ + _ + _ + _ + _ ≤ _; omega, Or.inr (Or.inr (Or.inr (Or.inl ⟨rfl, (if v = 0 then 0 else 1), T, ?_, by split <;> omega, fun z => if_neg (h47 z).2, hF⟩)))⟩))⟩
    rw [tyL_app, hT, some_bind, tyN v T (hk.1 a)]
  · rw [if_neg a] at e
    by_cases c : k < 205
    · rw [if_pos c] at e; exact absurd e (by intro z; cases z)
    · rw [if_neg c] at e
      obtain rfl := Sum.inr.inj e
      obtain ⟨x, hx, ex⟩ := hk.2 c
      refine ⟨hd, by omega, ho, hs, Or.inr (Or.inr (Or.inr ⟨by omega, hn, hdo, by rw [List.length_append]; show _ + (_ + 1) + _ + _ + _ + _ + _ ≤ _; omega, Or.inr (Or.inr (Or.inr (Or.inl ⟨rfl, 0, T, ?_, by omega, fun z => absurd (h47 z).1 a, hF⟩)))⟩))⟩
      rw [tyL_app, hT, some_bind, ex, tyA x T hx]
theorem bh_ok {d : Int32} {lg : List Int32} {cur : List Op} {dn : List Ln} {k : Int32} {s' : PS} {t : List Nat} {p q : Nat} (e : bhP d lg cur dn k = .inr s') (hd : ∀ l, l ∈ dn → LnOk l) (hn : dn.length < 16) (ho : opn lg ≤ 8) (hdo : ∃ k, k < 4 ∧ d = nI k) (hz : (encL dn).length + cur.length + lg.length + 3 ≤ p) (hpq : p < q) (hT : tyL cur [] = some (2 :: t)) (hF : FitC lg t) : Sv s' q := by
  have s0 : sgOk 0 0 0 := ⟨Or.inl rfl, Or.inl rfl, Or.inl rfl⟩
  have ty : ∀ r, 0 < r → ∃ t', tyL (cur ++ (stl r lg).1) [] = some (2 :: t') ∧ FitC (stl r lg).2 t' := fun r hr => by
    obtain ⟨t', e1, e2⟩ := stl_ty (r := r) hr hF
    exact ⟨t', by rw [tyL_app, hT, some_bind]; exact e1, e2⟩
  have z : ∀ r, (cur ++ (stl r lg).1).length + (stl r lg).2.length = cur.length + lg.length := fun r => by have := (stl_len r lg).1; rw [List.length_append]; omega
  unfold bhP at e
  by_cases c1 : k = 203
  · rw [if_pos c1] at e
    obtain rfl := Sum.inr.inj e
    obtain ⟨t', e1, e2⟩ := ty 2 (by decide)
    have := z 2
    have o := (stl_len 2 lg).2
    refine ⟨hd, by omega, ?_, s0, Or.inr (Or.inr (Or.inr ⟨Or.inl rfl, hn, hdo, ?_, Or.inl ⟨rfl, rfl, rfl, rfl, 2 :: t', e1, Or.inr (Or.inr (Or.inl ⟨rfl, stl_rk lg (by decide), t', rfl, e2⟩))⟩⟩))⟩
    · show 0 + opn (stl 2 lg).2 ≤ 8
      omega
    · show (encL dn).length + (cur ++ (stl 2 lg).1).length + 0 + 0 + 0 + ((stl 2 lg).2.length + 1) + 3 ≤ q
      omega
  rw [if_neg c1] at e
  by_cases c2 : k = 202
  · rw [if_pos c2] at e
    obtain rfl := Sum.inr.inj e
    obtain ⟨t', e1, e2⟩ := ty 1 (by decide)
    have := z 1
    have o := (stl_len 1 lg).2
    refine ⟨hd, by omega, ?_, s0, Or.inr (Or.inr (Or.inr ⟨Or.inl rfl, hn, hdo, ?_, Or.inl ⟨rfl, rfl, rfl, rfl, 2 :: t', e1, Or.inr (Or.inr (Or.inr ⟨rfl, stl_rk lg (by decide), t', rfl, e2⟩))⟩⟩))⟩
    · show 0 + opn (stl 1 lg).2 ≤ 8
      omega
    · show (encL dn).length + (cur ++ (stl 1 lg).1).length + 0 + 0 + 0 + ((stl 1 lg).2.length + 1) + 3 ≤ q
      omega
  rw [if_neg c2] at e
  obtain ⟨t', e1, e2⟩ := ty 1 (by decide)
  have z1 := z 1
  have o := (stl_len 1 lg).2
  by_cases c3 : k = 41
  · rw [if_pos c3] at e
    rcases stl_1 hF with y | ⟨r, y⟩
    · rw [y] at e; exact absurd e (by intro z; cases z)
    · rw [y] at e z1 e2 o
      obtain rfl := Sum.inr.inj e
      have f : FitC r t' := by
        rcases e2 with ⟨h, -⟩ | ⟨-, q⟩ | ⟨h, -⟩ | ⟨h, -⟩
        · exact absurd h (by decide)
        · exact q
        · exact absurd h (by decide)
        · exact absurd h (by decide)
      have o2 : 1 + opn r ≤ opn lg := o
      have z2 : (cur ++ (stl 1 lg).1).length + (r.length + 1) = cur.length + lg.length := z1
      refine ⟨hd, by omega, by omega, s0, Or.inr (Or.inr (Or.inr ⟨by omega, hn, hdo, ?_, Or.inr (Or.inr (Or.inr (Or.inr ⟨rfl, rfl, rfl, rfl, t', e1, f⟩)))⟩))⟩
      show (encL dn).length + (cur ++ (stl 1 lg).1).length + 0 + 0 + 0 + r.length + 3 ≤ q
      omega
  rw [if_neg c3] at e
  by_cases c4 : k = 59
  · rw [if_pos c4] at e
    rcases stl_1 hF with y | ⟨r, y⟩
    · rw [y] at e z1 e2
      obtain rfl := Sum.inr.inj e
      have t0 : t' = [] := e2
      subst t0
      have z2 : (cur ++ (stl 1 lg).1).length + 0 = cur.length + lg.length := z1
      refine ⟨fun l hl => ?_, by rw [List.length_append]; show dn.length + 1 ≤ 16; omega, Nat.zero_le _, s0, Or.inl ⟨rfl, rfl, rfl, rfl, rfl, rfl, ?_⟩⟩
      · rcases List.mem_append.mp hl with h | h
        · exact hd l h
        · rcases List.mem_singleton.mp h with rfl
          exact ⟨hdo, Or.inr e1⟩
      · rw [encL_app, List.length_append, encL_1]
        split <;> omega
    · rw [y] at e; exact absurd e (by intro z; cases z)
  · rw [if_neg c4] at e; exact absurd e (by intro z; cases z)
theorem ol_len (x : Int32) : (ol x).length = (pl x).length := (pl_len x).symm
theorem stp_ok {s s' : PS} {k v : Int32} {p q : Nat} (h : Sv s p) (e : stp s k v = .inr s') (hpq : p < q) (hk : KOk k v) : Sv s' q := by
  obtain ⟨nx, d, ⟨pr, su, cm⟩, lg, cur, dn⟩ := s
  obtain ⟨hd, hn, ho, hs, h⟩ := h
  unfold stp at e
  simp only at e
  rcases h with ⟨rfl, rfl, rfl, rfl, rfl, rfl, hz⟩ | ⟨rfl, rfl, rfl, rfl, rfl, rfl, hn2, hz⟩ | ⟨rfl, rfl, rfl, rfl, rfl, rfl, hn2, hdo, hz⟩ | ⟨hnx, hn2, hdo, hz, h⟩
  · rw [if_pos rfl] at e
    by_cases a : k = 200
    · rw [if_pos a] at e
      by_cases c : dn.length < 16
      · rw [if_pos c] at e
        obtain rfl := Sum.inr.inj e
        exact ⟨hd, hn, ho, hs, Or.inr (Or.inl ⟨rfl, rfl, rfl, rfl, rfl, rfl, c, by omega⟩)⟩
      · rw [if_neg c] at e; exact absurd e (by intro z; cases z)
    · rw [if_neg a] at e; exact absurd e (by intro z; cases z)
  · rw [if_neg (by decide), if_pos rfl] at e
    by_cases a : k = 1
    · rw [if_pos a] at e
      by_cases c : v < 4
      · rw [if_pos c] at e
        obtain rfl := Sum.inr.inj e
        have v0 := (hk.1 a).1
        have c' : v ≤ 3 := by grind
        obtain ⟨x, hx, ex⟩ := nI_of_le (x := v) (m := 3) v0 c' (by decide)
        exact ⟨hd, hn, ho, hs, Or.inr (Or.inr (Or.inl ⟨rfl, rfl, rfl, rfl, rfl, rfl, hn2, ⟨x, by omega, ex⟩, by omega⟩))⟩
      · rw [if_neg c] at e; exact absurd e (by intro z; cases z)
    · rw [if_neg a] at e; exact absurd e (by intro z; cases z)
  · rw [if_neg (by decide), if_neg (by decide), if_pos rfl] at e
    by_cases a : k = 201
    · rw [if_pos a] at e
      obtain rfl := Sum.inr.inj e
      refine ⟨hd, hn, ho, hs, Or.inr (Or.inr (Or.inr ⟨Or.inl rfl, hn2, hdo, ?_, Or.inl ⟨rfl, rfl, rfl, rfl, [], rfl, rfl⟩⟩))⟩
      show (encL dn).length + 0 + 0 + 0 + 0 + 0 + 3 ≤ q
      omega
    · rw [if_neg a] at e
      by_cases c : k = 59
      · rw [if_pos c] at e
        obtain rfl := Sum.inr.inj e
        refine ⟨fun l hl => ?_, by rw [List.length_append]; show dn.length + 1 ≤ 16; omega, ho, hs, Or.inl ⟨rfl, rfl, rfl, rfl, rfl, rfl, ?_⟩⟩
        · rcases List.mem_append.mp hl with h | h
          · exact hd l h
          · rcases List.mem_singleton.mp h with rfl
            exact ⟨hdo, Or.inl rfl⟩
        · rw [encL_app, List.length_append, encL_1, if_pos rfl]; omega
      · rw [if_neg c] at e; exact absurd e (by intro z; cases z)
  · rcases h with ⟨rfl, rfl, rfl, rfl, t, hT, hF⟩ | ⟨rfl, h47, T, hT, hF⟩ | ⟨rfl, h47, T, hT, hF⟩ | ⟨rfl, kk, T, hT, hkk, h47, hF⟩ | ⟨rfl, rfl, rfl, rfl, t, hT, hF⟩
    · rw [if_neg (by decide), if_neg (by decide), if_neg (by decide), if_pos rfl] at e
      by_cases a : k = 204 ∨ k = 40
      · rw [if_pos a] at e
        by_cases c : opn lg < 8
        · rw [if_pos c] at e
          obtain rfl := Sum.inr.inj e
          refine ⟨hd, hn, ?_, hs, Or.inr (Or.inr (Or.inr ⟨Or.inl rfl, hn2, hdo, ?_, Or.inl ⟨rfl, rfl, rfl, rfl, t, hT, ?_⟩⟩))⟩
          · show (if k = 204 ∨ k = 40 then 1 else 0) + opn lg ≤ 8
            rw [if_pos a]; omega
          · have hz' : (encL dn).length + cur.length + 0 + 0 + 0 + lg.length + 3 ≤ p := hz
            show (encL dn).length + cur.length + 0 + 0 + 0 + (lg.length + 1) + 3 ≤ q
            omega
          · rcases a with a | a
            · exact Or.inl ⟨a, hF⟩
            · exact Or.inr (Or.inl ⟨a, hF⟩)
        · rw [if_neg c] at e; exact absurd e (by intro z; cases z)
      · rw [if_neg a] at e
        exact un_ok e hk hd hn2 ho hs hdo hz hpq hT (Or.inl ⟨rfl, Or.inl ⟨rfl, Or.inl ⟨rfl, hF⟩⟩⟩) (fun z => absurd z (by decide))
    · rw [if_neg (by decide), if_neg (by decide), if_neg (by decide), if_neg (by decide), if_pos rfl] at e
      exact un_ok e hk hd hn2 ho hs hdo hz hpq hT hF (fun z => absurd z h47)
    · rw [if_neg (by decide), if_neg (by decide), if_neg (by decide), if_neg (by decide), if_neg (by decide), if_pos rfl] at e
      by_cases a : k = 1
      · rw [if_pos a] at e
        by_cases c : v = 0
        · rw [if_pos c] at e; exact absurd e (by intro z; cases z)
        · rw [if_neg c] at e
          exact un_ok e hk hd hn2 ho hs hdo hz hpq hT hF (fun _ => ⟨a, c⟩)
      · rw [if_neg a] at e; exact absurd e (by intro z; cases z)
    · rw [if_neg (by decide), if_neg (by decide), if_neg (by decide), if_neg (by decide), if_neg (by decide), if_neg (by decide), if_pos rfl] at e
      have l1 := ol_len pr
      have l2 := ol_len su
      have l3 := ol_len cm
      obtain ⟨k1, T1, q1, e1, F1⟩ := ty_pr hs.1 hkk h47 hF
      obtain ⟨k2, T2, q2, e2, F2⟩ := ty_su hs.2.1 q1 F1
      by_cases a : rkN k = 6
      · rw [if_pos a] at e
        obtain rfl := Sum.inr.inj e
        have k6 := rk6 a
        have kn : k ≠ 0 := by rcases k6 with rfl | rfl <;> decide
        have ty : tyL (cur ++ ol pr) [] = some (k1 :: T1) := by rw [tyL_app, hT, some_bind, e1]
        have fit : FitN k su cm lg (k1 :: T1) := Or.inr ⟨kn, k1, T1, q1, rfl, F1⟩
        have sz : (encL dn).length + (cur ++ ol pr).length + (pl k).length + (pl su).length + (pl cm).length + lg.length + 3 ≤ q := by
          rw [List.length_append]
          have : (pl k).length = 1 := by unfold pl; rw [if_neg kn]; rfl
          omega
        refine ⟨hd, hn, ho, ⟨Or.inr k6, hs.2⟩, Or.inr (Or.inr (Or.inr ⟨?_, hn2, hdo, sz, ?_⟩))⟩
        · by_cases c : k = 47
          · rw [if_pos c]; omega
          · rw [if_neg c]; omega
        · by_cases c : k = 47
          · exact Or.inr (Or.inr (Or.inl ⟨if_pos c, c, _, ty, fit⟩))
          · exact Or.inr (Or.inl ⟨if_neg c, c, _, ty, fit⟩)
      rw [if_neg a] at e
      by_cases a5 : rkN k = 5
      · rw [if_pos a5] at e
        obtain rfl := Sum.inr.inj e
        have k5 := rk5 a5
        have kn : k ≠ 0 := by rcases k5 with rfl | rfl <;> decide
        refine ⟨hd, hn, ho, ⟨Or.inl rfl, Or.inr k5, hs.2.2⟩, Or.inr (Or.inr (Or.inr ⟨by omega, hn2, hdo, ?_, Or.inr (Or.inl ⟨rfl, (by decide : (0 : Int32) ≠ 47), k2 :: T2, ?_, Or.inl ⟨rfl, Or.inr ⟨kn, k2, T2, q2, rfl, F2⟩⟩⟩)⟩))⟩
        · show (encL dn).length + (cur ++ ol pr ++ ol su).length + 0 + (pl k).length + (pl cm).length + lg.length + 3 ≤ q
          rw [List.length_append, List.length_append]
          have : (pl k).length = 1 := by unfold pl; rw [if_neg kn]; rfl
          omega
        · rw [tyL_app, tyL_app, hT, some_bind, e1, some_bind, e2]
      rw [if_neg a5] at e
      by_cases a4 : cm = 0
      · rw [if_pos a4] at e
        by_cases c : rkN k = 4
        · rw [if_pos c] at e
          obtain rfl := Sum.inr.inj e
          have k4 := rk4 c
          have kn : k ≠ 0 := by rcases k4 with rfl | rfl | rfl <;> decide
          have F3 : FitC lg T2 := by
            rcases F2 with ⟨-, f⟩ | ⟨f, -⟩
            · exact f
            · exact absurd a4 f
          refine ⟨hd, hn, ho, ⟨Or.inl rfl, Or.inl rfl, Or.inr k4⟩, Or.inr (Or.inr (Or.inr ⟨by omega, hn2, hdo, ?_, Or.inr (Or.inl ⟨rfl, (by decide : (0 : Int32) ≠ 47), k2 :: T2, ?_, Or.inl ⟨rfl, Or.inl ⟨rfl, Or.inr ⟨kn, k2, T2, q2, rfl, F3⟩⟩⟩⟩)⟩))⟩
          · show (encL dn).length + (cur ++ ol pr ++ ol su).length + 0 + 0 + (pl k).length + lg.length + 3 ≤ q
            rw [List.length_append, List.length_append]
            have : (pl k).length = 1 := by unfold pl; rw [if_neg kn]; rfl
            omega
          · rw [tyL_app, tyL_app, hT, some_bind, e1, some_bind, e2]
        · rw [if_neg c] at e; exact absurd e (by intro z; cases z)
      · rw [if_neg a4] at e
        have c0 : cm = 60 ∨ cm = 61 ∨ cm = 62 := by
          rcases hs.2.2 with h | h
          · exact absurd h a4
          · exact h
        obtain ⟨T3, e3, F3⟩ := ty_cm c0 q2 F2
        refine bh_ok e hd hn2 ho hdo ?_ hpq (t := T3) ?_ F3
        · rw [List.length_append, List.length_append, List.length_append]; omega
        · rw [tyL_app, tyL_app, tyL_app, hT, some_bind, e1, some_bind, e2, some_bind, e3]
    · rw [if_neg (by decide), if_neg (by decide), if_neg (by decide), if_neg (by decide), if_neg (by decide), if_neg (by decide), if_neg (by decide)] at e
      have hz' : (encL dn).length + cur.length + 0 + 0 + 0 + lg.length + 3 ≤ p := hz
      exact bh_ok e hd hn2 ho hdo (by omega) hpq hT hF
theorem tok_ok {b : Nat → Int32} {len p : Nat} (hp : p ≤ len) : KOk (tK b len p) (tV b len p) := by
  refine ⟨fun h => tV_bd hp h, fun h => ?_⟩
  rcases tK_is (b := b) (len := len) (p := p) with e | e | e | ⟨w, hw, e⟩ | e
  · rw [e] at h; exact absurd (by decide) h
  · rw [e] at h; exact absurd (by decide) h
  · rw [e] at h; exact absurd (by decide) h
  · rw [e] at h ⊢
    have : ¬ 200 + w < 205 := fun z => h (nI_lt z (by decide))
    exact ⟨w - 5, by omega, by rw [show (205 : Int32) = nI 205 from rfl, pk_sub (by omega), show 200 + w - 205 = w - 5 by omega]⟩
  · exfalso
    unfold isSi at e
    rw [decide_eq_true_iff] at e
    exact h (by grind)
