section MR2
variable {b : Nat → Int32} {len fu : Nat}
/-- it failed, and so does the row told once -/
def Fl (R : Res) (m : Option (Int32 × Mem)) (M : Mem) : Prop := ∃ M' e q, m = some (-1, M') ∧ R = .inl (e, q) ∧ rd M' 148 36 = e ∧ rd M' 148 37 = nI q ∧ Fx M M'
theorem run_st (h0 : ∀ i, i < len → 0 ≤ b i) {s s' : PS} {p : Nat} (hp : p ≤ len) (hk : tK b len p ≠ 0) (h : stp s (tK b len p) (tV b len p) = .inr s') : run b len s p = run b len s' (tS b len p) := by
  rw [run_u h0 s hp, if_neg hk, h]; rfl
theorem run_er (h0 : ∀ i, i < len → 0 ≤ b i) {s : PS} {p : Nat} {e : Int32} (hp : p ≤ len) (hs : s.1 ≠ 0) (h1 : tK b len p = 0 → e = 1) (h : tK b len p ≠ 0 → stp s (tK b len p) (tV b len p) = .inl e) : run b len s p = .inl (e, tF b len p) := by
  rw [run_u h0 s hp]
  by_cases c : tK b len p = 0
  · rw [if_pos c, if_neg hs, h1 c]
  · rw [if_neg c, h c]; rfl
theorem st6_6 {d pr su cm : Int32} {lg : List Int32} {cur : List Op} {dn : List Ln} {k v : Int32} (h : rkN k = 6) : stp (6, d, (pr, su, cm), lg, cur, dn) k v = .inr (if k = 47 then 5 else 4, d, (k, su, cm), lg, cur ++ ol pr, dn) := by
  unfold stp; simp [h]
theorem st6_5 {d pr su cm : Int32} {lg : List Int32} {cur : List Op} {dn : List Ln} {k v : Int32} (h : rkN k = 5) : stp (6, d, (pr, su, cm), lg, cur, dn) k v = .inr (4, d, (0, k, cm), lg, cur ++ ol pr ++ ol su, dn) := by
  unfold stp; simp [h]
theorem st6_4 {d pr su : Int32} {lg : List Int32} {cur : List Op} {dn : List Ln} {k v : Int32} (h : rkN k = 4) : stp (6, d, (pr, su, 0), lg, cur, dn) k v = .inr (4, d, (0, 0, k), lg, cur ++ ol pr ++ ol su, dn) := by
  unfold stp; simp [h]
theorem st6_0 {d pr su : Int32} {lg : List Int32} {cur : List Op} {dn : List Ln} {k v : Int32} (h : rkN k < 4) : stp (6, d, (pr, su, 0), lg, cur, dn) k v = .inl 1 := by
  have n6 : rkN k ≠ 6 := by omega
  have n5 : rkN k ≠ 5 := by omega
  have n4 : rkN k ≠ 4 := by omega
  unfold stp; simp [n6, n5, n4]
theorem st4 {d pr su cm : Int32} {lg : List Int32} {cur : List Op} {dn : List Ln} {k v : Int32} : stp (4, d, (pr, su, cm), lg, cur, dn) k v = unP d pr su cm lg cur dn k v := by
  unfold stp; simp
theorem st5 {d pr su cm : Int32} {lg : List Int32} {cur : List Op} {dn : List Ln} {k v : Int32} : stp (5, d, (pr, su, cm), lg, cur, dn) k v = if k = 1 then (if v = 0 then .inl 2 else unP d pr su cm lg cur dn k v) else .inl 1 := by
  unfold stp; simp
theorem st3 {d pr su cm : Int32} {lg : List Int32} {cur : List Op} {dn : List Ln} {k v : Int32} : stp (3, d, (pr, su, cm), lg, cur, dn) k v = if k = 204 ∨ k = 40 then (if opn lg < 8 then .inr (3, d, (0, 0, 0), k :: lg, cur, dn) else .inl 3) else unP d pr su 0 lg cur dn k v := by
  unfold stp; simp
/-- a product -/
theorem mprod {M : Mem} {p w : Nat} {s : PS} {d su cm : Int32} {lg : List Int32} {cur X : List Op} {dn : List Ln} (hfu : 1000 ≤ fu) (hl : len ≤ 400) (h0 : ∀ i, i < len → 0 ≤ b i) (hB : Bs b len M) (h : Tok b len M p) (hc : MC M (X ++ cur)) (hx : (X ++ cur).length + w ≤ p) (hs : s.1 ≠ 0) (hst : tK b len p ≠ 0 → stp s (tK b len p) (tV b len p) = unP d 0 su cm lg cur dn (tK b len p) (tV b len p)) :
    Fl (run b len s p) (m_X6_readProduct fu M) M ∨ ∃ M' p' pr' cur', m_X6_readProduct fu M = some (0, M') ∧ run b len s p = run b len (6, d, (pr', su, cm), lg, cur', dn) p' ∧ Tok b len M' p' ∧ MC M' (X ++ (cur' ++ ol pr')) ∧ Fx M M' ∧ p < p' ∧ (X ++ (cur' ++ ol pr')).length + w ≤ p' ∧ rkN (tK b len p') ≠ 6 := by
  rcases munit (d := d) (pr := 0) (su := su) (cm := cm) (lg := lg) (cur := cur) (dn := dn) hfu hl h0 hB h hc (by omega) with ⟨M1, g1, g2, g3, g4, g5⟩ | ⟨u, M1, hk, g1, g2, g3, g4, g5⟩
  · left
    refine ⟨M1, 1, tF b len p, ?_, run_er h0 h.1 hs (fun _ => rfl) (fun z => by rw [hst z]; exact g1 z), g3, g4, g5⟩
    unfold m_X6_readProduct
    rw [g2, some_bind, un2_is, if_pos rfl]
  · have adv := tS_adv h0 h.1 hk
    have r1 : run b len s p = run b len (6, d, (0, su, cm), lg, cur ++ [u], dn) (tS b len p) := run_st h0 h.1 hk (by rw [hst hk]; exact g1)
    obtain ⟨x, e, hp⟩ := lp_ms (body := b_X6_readProduct_10 fu) (fun m Z => ∃ q pr' cur', m = len - q ∧ run b len s p = run b len (6, d, (pr', su, cm), lg, cur', dn) q ∧ Tok b len Z q ∧ MC Z (X ++ (cur' ++ ol pr')) ∧ Fx M Z ∧ p < q ∧ (X ++ (cur' ++ ol pr')).length + w ≤ q)
      (fun x => (∃ Z q, x = .inl Z ∧ run b len s p = .inl (1, tF b len q) ∧ Tok b len Z q ∧ Fx M Z) ∨ (∃ Z q, x = .inr (.inl Z) ∧ run b len s p = .inl (2, tF b len q) ∧ Tok b len Z q ∧ Fx M Z) ∨ (∃ Z e q, x = .inr (.inr (.inl Z)) ∧ run b len s p = .inl (e, q) ∧ rd Z 148 36 = e ∧ rd Z 148 37 = nI q ∧ Fx M Z) ∨ (∃ Z q pr' cur', x = .inr (.inr (.inr Z)) ∧ run b len s p = run b len (6, d, (pr', su, cm), lg, cur', dn) q ∧ Tok b len Z q ∧ MC Z (X ++ (cur' ++ ol pr')) ∧ Fx M Z ∧ p < q ∧ (X ++ (cur' ++ ol pr')).length + w ≤ q ∧ rkN (tK b len q) ≠ 6)) (by
      rintro m Z ⟨q, pr', cur', rfl, z1, z2, z3, z4, z5, z6⟩
      unfold b_X6_readProduct_10
      rw [un1_is, msign_is z2 (by unfold isSi; decide), some_bind, msign_is z2 (by unfold isSi; decide), some_bind]
      by_cases c : rkN (tK b len q) = 6
      · have k6 := rk6 c
        have kn : tK b len q ≠ 0 := by rcases k6 with e | e <;> rw [e] <;> decide
        have advq := tS_adv h0 z2.1 kn
        have j : (if (if tK b len q = 42 then (1 : Int32) else 0) = 0 then (if (if tK b len q = 47 then (1 : Int32) else 0) = 0 then some (Sum.inr (Sum.inr (Sum.inr (Sum.inr Z)))) else j_X6_readProduct_28i fu Z) else j_X6_readProduct_28i fu Z) = j_X6_readProduct_28i fu Z := by
          rcases k6 with e | e
          · rw [e]; rfl
          · rw [e]; rfl
        rw [j]
        unfold j_X6_readProduct_28i
        obtain ⟨Y, y1, y2, y3⟩ := mrd hfu hl h0 (hB.fx z4) z2
        have yc : MC Y (X ++ (cur' ++ ol pr')) := z3.fr (y3 _ _ (by omega)) (fun k j q => y3 _ _ (by omega))
        have yB : Bs b len Y := (hB.fx z4).fx (Fx.of y3)
        have yF : Fx M Y := z4.tr (Fx.of y3)
        have y0 : run b len s p = run b len (if tK b len q = 47 then 5 else 4, d, (tK b len q, su, cm), lg, cur' ++ ol pr', dn) (tS b len q) := z1.trans (run_st h0 z2.1 kn (st6_6 c))
        rw [msign_is z2 (by unfold isSi; decide), some_bind, y1, some_bind]
        have olk : ol (tK b len q) = [(opc (tK b len q), 0)] := by unfold ol; rw [if_neg kn]
        have unit : ∀ nx : Nat, nx ≠ 0 → run b len s p = run b len (nx, d, (tK b len q, su, cm), lg, cur' ++ ol pr', dn) (tS b len q) → (tK b len (tS b len q) ≠ 0 → stp (nx, d, (tK b len q, su, cm), lg, cur' ++ ol pr', dn) (tK b len (tS b len q)) (tV b len (tS b len q)) = unP d (tK b len q) su cm lg (cur' ++ ol pr') dn (tK b len (tS b len q)) (tV b len (tS b len q))) →
            (∃ Z2 k, j_X6_readProduct_74i fu Y (if tK b len q = 42 then 1 else 0) = some (.inl Z2) ∧ k < len - q ∧ ∃ q2 pr2 cur2, k = len - q2 ∧ run b len s p = run b len (6, d, (pr2, su, cm), lg, cur2, dn) q2 ∧ Tok b len Z2 q2 ∧ MC Z2 (X ++ (cur2 ++ ol pr2)) ∧ Fx M Z2 ∧ p < q2 ∧ (X ++ (cur2 ++ ol pr2)).length + w ≤ q2) ∨ (∃ Z2 e q2, j_X6_readProduct_74i fu Y (if tK b len q = 42 then 1 else 0) = some (.inr (.inr (.inr (.inl Z2)))) ∧ run b len s p = .inl (e, q2) ∧ rd Z2 148 36 = e ∧ rd Z2 148 37 = nI q2 ∧ Fx M Z2) := by
          intro nx nx0 ry hy
          rcases munit (d := d) (pr := tK b len q) (su := su) (cm := cm) (lg := lg) (cur := cur' ++ ol pr') (dn := dn) hfu hl h0 yB y2 yc (by omega) with ⟨N1, i1, i2, i3, i4, i5⟩ | ⟨u2, N1, ik, i1, i2, i3, i4, i5⟩
          · right
            refine ⟨N1, 1, tF b len (tS b len q), ?_, ?_, i3, i4, yF.tr i5⟩
            · unfold j_X6_readProduct_74i
              rw [i2, some_bind, un2_is, if_pos rfl]
            · rw [ry]; exact run_er h0 y2.1 nx0 (fun _ => rfl) (fun z => by rw [hy z]; exact i1 z)
          · left
            have adv2 := tS_adv h0 y2.1 ik
            have len2 : (X ++ (cur' ++ ol pr') ++ [u2]).length = (X ++ (cur' ++ ol pr')).length + 1 := by rw [List.length_append]; rfl
            obtain ⟨N2, o1, o2, o3⟩ := memits i4 (by omega) (opc (tK b len q)) 0
            have assoc : X ++ (cur' ++ ol pr') ++ [u2] ++ [(opc (tK b len q), 0)] = X ++ (cur' ++ ol pr' ++ [u2] ++ ol (tK b len q)) := by rw [olk]; simp
            rw [assoc] at o2
            have fx2 : Fx N1 N2 := fun k j q1 q2 => o3 k j (by omega) q2
            refine ⟨N2, len - tS b len (tS b len q), ?_, by omega, tS b len (tS b len q), tK b len q, cur' ++ ol pr' ++ [u2], rfl, ?_, i3.fr (fun j z1 z2 => o3 _ _ (by omega) (by omega)), o2, (yF.tr i5).tr fx2, by omega, ?_⟩
            · unfold j_X6_readProduct_74i j_X6_readProduct_94i
              rw [i2, some_bind, un2_is, if_neg (by decide)]
              rcases k6 with e | e
              · rw [e] at o1 ⊢
                rw [if_pos rfl, if_neg (by decide), show (4 : Int32) = opc 42 by decide, o1, some_bind]
              · rw [e] at o1 ⊢
                rw [if_pos (show (if (47 : Int32) = 42 then (1 : Int32) else 0) = 0 by decide), show (5 : Int32) = opc 47 by decide, o1, some_bind]
            · rw [ry]; exact run_st h0 y2.1 ik (by rw [hy ik]; exact i1)
            · rw [← assoc, List.length_append, len2]; show _ + 1 + 1 + w ≤ _; omega
        by_cases c7 : tK b len q = 47
        · rw [if_pos c7] at y0
          have n42 : tK b len q ≠ 42 := by rw [c7]; decide
          rw [if_neg n42, if_pos rfl]
          have nm := mnum_is y2
          by_cases n1 : tK b len (tS b len q) = 1
          · rw [if_pos (nm.1.mpr n1)]
            unfold j_X6_readProduct_57i
            rw [if_pos rfl, nm.2.1 n1]
            by_cases v0 : tV b len (tS b len q) = 0
            · right
              rw [if_pos v0]
              refine ⟨_, rfl, Or.inr (Or.inl ⟨Y, tS b len q, rfl, ?_, y2, yF⟩)⟩
              rw [y0]
              exact run_er h0 y2.1 (show (5 : Nat) ≠ 0 by decide) (fun z => by rw [n1] at z; exact absurd z (by decide)) (fun _ => by rw [st5, if_pos n1, if_pos v0])
            · rw [if_neg v0]
              have := unit 5 (by decide) y0 (fun _ => by rw [st5, if_pos n1, if_neg v0])
              rw [if_neg n42] at this
              rcases this with ⟨Z2, k, e1, e2, e3⟩ | ⟨Z2, e, q2, e1, e2, e3, e4, e5⟩
              · exact Or.inl ⟨Z2, k, e1, e2, e3⟩
              · exact Or.inr ⟨_, e1, Or.inr (Or.inr (Or.inl ⟨Z2, e, q2, rfl, e2, e3, e4, e5⟩))⟩
          · right
            rw [if_neg (fun z => n1 (nm.1.mp z))]
            refine ⟨_, rfl, Or.inl ⟨Y, tS b len q, rfl, ?_, y2, yF⟩⟩
            rw [y0]
            exact run_er h0 y2.1 (show (5 : Nat) ≠ 0 by decide) (fun _ => rfl) (fun _ => by rw [st5, if_neg n1])
        · rw [if_neg c7] at y0
          have e42 : tK b len q = 42 := by
            rcases k6 with e | e
            · exact e
            · exact absurd e c7
          rw [if_pos e42, if_neg (by decide)]
          unfold j_X6_readProduct_57i
          rw [if_neg (by decide)]
          have := unit 4 (by decide) y0 (fun _ => st4)
          rw [if_pos e42] at this
          rcases this with ⟨Z2, k, e1, e2, e3⟩ | ⟨Z2, e, q2, e1, e2, e3, e4, e5⟩
          · exact Or.inl ⟨Z2, k, e1, e2, e3⟩
          · exact Or.inr ⟨_, e1, Or.inr (Or.inr (Or.inl ⟨Z2, e, q2, rfl, e2, e3, e4, e5⟩))⟩
      · right
        have n42 : tK b len q ≠ 42 := fun z => c (by rw [z]; decide)
        have n47 : tK b len q ≠ 47 := fun z => c (by rw [z]; decide)
        rw [if_neg n42, if_pos rfl, if_neg n47, if_pos rfl]
        exact ⟨_, rfl, Or.inr (Or.inr (Or.inr ⟨Z, q, pr', cur', rfl, z1, z2, z3, z4, z5, z6, c⟩))⟩) fu (len - tS b len p) M1 (by omega) ⟨tS b len p, 0, cur ++ [u], rfl, r1, g3, by
        have : X ++ (cur ++ [u] ++ ol 0) = X ++ cur ++ [u] := by show X ++ (cur ++ [u] ++ []) = _; simp
        rw [this]; exact g4, g5, by omega, by
        have : X ++ (cur ++ [u] ++ ol 0) = X ++ cur ++ [u] := by show X ++ (cur ++ [u] ++ []) = _; simp
        rw [this, List.length_append]; show (X ++ cur).length + 1 + w ≤ _; omega⟩
    have pre : m_X6_readProduct fu M = (some x).bind (unS (un1 fun M_28 => (m_X6_errs M_28 1).bind <| un2 fun r_30 M_31 => some (r_30, M_31)) (unS (un1 fun M_32 => (m_X6_errs M_32 2).bind <| un2 fun r_34 M_35 => some (r_34, M_35)) (unS (un1 fun M_36 => some ((-1), M_36)) (un1 fun M_37 => some (0, M_37))))) := by
      unfold m_X6_readProduct
      rw [g2, some_bind, un2_is, if_neg (by decide), e]
    rw [pre, some_bind]
    rcases hp with ⟨Z, q, rfl, z1, z2, z3⟩ | ⟨Z, q, rfl, z1, z2, z3⟩ | ⟨Z, e1, q, rfl, z1, z2, z3, z4⟩ | ⟨Z, q, pr', cur', rfl, z1, z2, z3, z4, z5, z6, z7⟩
    · left
      obtain ⟨N, i1, i2, i3, i4⟩ := merrs z2 1
      exact ⟨N, 1, _, by rw [unS_inl, un1_is, i1, some_bind, un2_is], z1, i2, i3, z3.tr i4⟩
    · left
      obtain ⟨N, i1, i2, i3, i4⟩ := merrs z2 2
      exact ⟨N, 2, _, by rw [unS_inr, unS_inl, un1_is, i1, some_bind, un2_is], z1, i2, i3, z3.tr i4⟩
    · left
      exact ⟨Z, e1, q, by rw [unS_inr, unS_inr, unS_inl, un1_is], z1, z2, z3, z4⟩
    · right
      exact ⟨Z, q, pr', cur', by rw [unS_inr, unS_inr, unS_inr, un1_is], z1, z2, z3, z4, z5, z6, z7⟩
end MR2
