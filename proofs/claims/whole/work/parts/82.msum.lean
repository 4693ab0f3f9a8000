section MR3
variable {b : Nat → Int32} {len fu : Nat}
/-- a sum -/
theorem msumS {M : Mem} {p w : Nat} {s : PS} {d cm : Int32} {lg : List Int32} {cur X : List Op} {dn : List Ln} (hfu : 1000 ≤ fu) (hl : len ≤ 400) (h0 : ∀ i, i < len → 0 ≤ b i) (hB : Bs b len M) (h : Tok b len M p) (hc : MC M (X ++ cur)) (hx : (X ++ cur).length + w ≤ p) (hs : s.1 ≠ 0) (hst : tK b len p ≠ 0 → stp s (tK b len p) (tV b len p) = unP d 0 0 cm lg cur dn (tK b len p) (tV b len p)) :
    Fl (run b len s p) (m_X6_readSum fu M) M ∨ ∃ M' p' pr' su' cur', m_X6_readSum fu M = some (0, M') ∧ run b len s p = run b len (6, d, (pr', su', cm), lg, cur', dn) p' ∧ Tok b len M' p' ∧ MC M' (X ++ (cur' ++ ol pr' ++ ol su')) ∧ Fx M M' ∧ p < p' ∧ (X ++ (cur' ++ ol pr' ++ ol su')).length + w ≤ p' ∧ rkN (tK b len p') ≠ 6 ∧ rkN (tK b len p') ≠ 5 := by
  rcases mprod hfu hl h0 hB h hc hx hs hst with ⟨N, e, q, n1, n2, n3, n4, n5⟩ | ⟨N, p1, pr1, cur1, n1, n2, n3, n4, n5, n6, n7, n8⟩
  · left
    refine ⟨N, e, q, ?_, n2, n3, n4, n5⟩
    unfold m_X6_readSum
    rw [n1, some_bind, un2_is, if_pos rfl]
  · obtain ⟨x, e, hp⟩ := lp_ms (body := b_X6_readSum_10 fu) (fun m Z => ∃ q pr' su' cur', m = len - q ∧ run b len s p = run b len (6, d, (pr', su', cm), lg, cur', dn) q ∧ Tok b len Z q ∧ MC Z (X ++ (cur' ++ ol pr' ++ ol su')) ∧ Fx M Z ∧ p < q ∧ (X ++ (cur' ++ ol pr' ++ ol su')).length + w ≤ q ∧ rkN (tK b len q) ≠ 6)
      (fun x => (∃ Z e q, x = .inl Z ∧ run b len s p = .inl (e, q) ∧ rd Z 148 36 = e ∧ rd Z 148 37 = nI q ∧ Fx M Z) ∨ (∃ Z q pr' su' cur', x = .inr Z ∧ run b len s p = run b len (6, d, (pr', su', cm), lg, cur', dn) q ∧ Tok b len Z q ∧ MC Z (X ++ (cur' ++ ol pr' ++ ol su')) ∧ Fx M Z ∧ p < q ∧ (X ++ (cur' ++ ol pr' ++ ol su')).length + w ≤ q ∧ rkN (tK b len q) ≠ 6 ∧ rkN (tK b len q) ≠ 5)) (by
      rintro m Z ⟨q, pr', su', cur', rfl, z1, z2, z3, z4, z5, z6, z7⟩
      unfold b_X6_readSum_10
      rw [un1_is, msign_is z2 (by unfold isSi; decide), some_bind, msign_is z2 (by unfold isSi; decide), some_bind]
      by_cases c : rkN (tK b len q) = 5
      · have k5 := rk5 c
        have kn : tK b len q ≠ 0 := by rcases k5 with e | e <;> rw [e] <;> decide
        have advq := tS_adv h0 z2.1 kn
        have z24 : rd Z 148 24 = tK b len q := by
          have t := z2.2.2.2
          rcases t with ⟨e, -⟩ | ⟨e, -⟩ | ⟨e, -⟩ | ⟨w', hw', e, -⟩ | ⟨-, -, v⟩
          · exact absurd e kn
          · rw [e] at k5; rcases k5 with y | y <;> exact absurd y (by decide)
          · rw [e] at k5; rcases k5 with y | y <;> exact absurd y (by decide)
          · rw [e] at k5; rcases k5 with y | y
            · exact absurd y (kd (c := 43) (by omega) (by omega) (by omega))
            · exact absurd y (kd (c := 45) (by omega) (by omega) (by omega))
          · exact v
        have j : (if (if tK b len q = 43 then (1 : Int32) else 0) = 0 then (if (if tK b len q = 45 then (1 : Int32) else 0) = 0 then some (Sum.inr (Sum.inr Z)) else j_X6_readSum_28i fu Z) else j_X6_readSum_28i fu Z) = j_X6_readSum_42i fu Z (opc (tK b len q)) := by
          unfold j_X6_readSum_28i
          rw [z24]
          rcases k5 with e | e
          · rw [e]; rfl
          · rw [e]; rfl
        rw [j]
        unfold j_X6_readSum_42i
        obtain ⟨Y, y1, y2, y3⟩ := mrd hfu hl h0 (hB.fx z4) z2
        have assoc0 : X ++ (cur' ++ ol pr' ++ ol su') = X ++ (cur' ++ ol pr' ++ ol su') := rfl
        have yc : MC Y (X ++ (cur' ++ ol pr' ++ ol su')) := z3.fr (y3 _ _ (by omega)) (fun k j q => y3 _ _ (by omega))
        have yB : Bs b len Y := (hB.fx z4).fx (Fx.of y3)
        have yF : Fx M Y := z4.tr (Fx.of y3)
        have y0 : run b len s p = run b len (4, d, (0, tK b len q, cm), lg, cur' ++ ol pr' ++ ol su', dn) (tS b len q) := z1.trans (run_st h0 z2.1 kn (st6_5 c))
        have olk : ol (tK b len q) = [(opc (tK b len q), 0)] := by unfold ol; rw [if_neg kn]
        rw [y1, some_bind]
        rcases mprod (w := w + 1) (s := (4, d, (0, tK b len q, cm), lg, cur' ++ ol pr' ++ ol su', dn)) (d := d) (su := tK b len q) (cm := cm) (lg := lg) (cur := cur' ++ ol pr' ++ ol su') (X := X) (dn := dn) hfu hl h0 yB y2 yc (by omega) (show (4 : Nat) ≠ 0 by decide) (fun _ => st4) with ⟨N2, e, q2, i1, i2, i3, i4, i5⟩ | ⟨N2, p2, pr2, cur2, i1, i2, i3, i4, i5, i6, i7, i8⟩
        · right
          rw [i1, some_bind, un2_is, if_pos rfl]
          exact ⟨_, rfl, Or.inl ⟨N2, e, q2, rfl, y0.trans i2, i3, i4, yF.tr i5⟩⟩
        · left
          rw [i1, some_bind, un2_is, if_neg (by decide)]
          have p2l : p2 ≤ len := i3.1
          obtain ⟨N3, o1, o2, o3⟩ := memits i4 (by omega) (opc (tK b len q)) 0
          rw [o1, some_bind]
          have assoc : X ++ (cur2 ++ ol pr2) ++ [(opc (tK b len q), 0)] = X ++ (cur2 ++ ol pr2 ++ ol (tK b len q)) := by rw [olk]; simp
          rw [assoc] at o2
          have fx2 : Fx N2 N3 := fun k j q1 q2 => o3 k j (by omega) q2
          refine ⟨_, len - p2, rfl, by omega, p2, pr2, tK b len q, cur2, rfl, y0.trans i2, i3.fr (fun j z1 z2 => o3 _ _ (by omega) (by omega)), o2, (yF.tr i5).tr fx2, by omega, ?_, i8⟩
          rw [← assoc, List.length_append]; show _ + 1 + w ≤ _; omega
      · right
        have n43 : tK b len q ≠ 43 := fun z => c (by rw [z]; decide)
        have n45 : tK b len q ≠ 45 := fun z => c (by rw [z]; decide)
        rw [if_neg n43, if_pos rfl, if_neg n45, if_pos rfl]
        exact ⟨_, rfl, Or.inr ⟨Z, q, pr', su', cur', rfl, z1, z2, z3, z4, z5, z6, z7, c⟩⟩) fu (len - p1) N (by omega) ⟨p1, pr1, 0, cur1, rfl, n2, n3, by
        have : X ++ (cur1 ++ ol pr1 ++ ol 0) = X ++ (cur1 ++ ol pr1) := by show X ++ (cur1 ++ ol pr1 ++ []) = _; simp
        rw [this]; exact n4, n5, n6, by
        have : X ++ (cur1 ++ ol pr1 ++ ol 0) = X ++ (cur1 ++ ol pr1) := by show X ++ (cur1 ++ ol pr1 ++ []) = _; simp
        rw [this]; exact n7, n8⟩
    have pre : m_X6_readSum fu M = (some x).bind (unS (un1 fun M_22 => some ((-1), M_22)) (un1 fun M_23 => some (0, M_23))) := by
      unfold m_X6_readSum
      rw [n1, some_bind, un2_is, if_neg (by decide), e]
    rw [pre, some_bind]
    rcases hp with ⟨Z, e1, q, rfl, z1, z2, z3, z4⟩ | ⟨Z, q, pr', su', cur', rfl, z1, z2, z3, z4, z5, z6, z7, z8⟩
    · left
      exact ⟨Z, e1, q, by rw [unS_inl, un1_is], z1, z2, z3, z4⟩
    · right
      exact ⟨Z, q, pr', su', cur', by rw [unS_inr, un1_is], z1, z2, z3, z4, z5, z6, z7, z8⟩
/-- a comparison -/
theorem mcmp {M : Mem} {p w : Nat} {d : Int32} {lg : List Int32} {cur X : List Op} {dn : List Ln} (hfu : 1000 ≤ fu) (hl : len ≤ 400) (h0 : ∀ i, i < len → 0 ≤ b i) (hB : Bs b len M) (h : Tok b len M p) (hc : MC M (X ++ cur)) (hx : (X ++ cur).length + w ≤ p) (hn : ¬ (tK b len p = 204 ∨ tK b len p = 40)) :
    Fl (run b len (3, d, (0, 0, 0), lg, cur, dn) p) (m_X6_readCompared fu M) M ∨ ∃ M' p' pr' su' cm' cur', m_X6_readCompared fu M = some (0, M') ∧ run b len (3, d, (0, 0, 0), lg, cur, dn) p = run b len (6, d, (pr', su', cm'), lg, cur', dn) p' ∧ cm' ≠ 0 ∧ Tok b len M' p' ∧ MC M' (X ++ (cur' ++ ol pr' ++ ol su' ++ ol cm')) ∧ Fx M M' ∧ p < p' ∧ (X ++ (cur' ++ ol pr' ++ ol su' ++ ol cm')).length + w ≤ p' ∧ rkN (tK b len p') ≠ 6 ∧ rkN (tK b len p') ≠ 5 := by
  rcases msumS (w := w) (s := (3, d, (0, 0, 0), lg, cur, dn)) (d := d) (cm := 0) (lg := lg) (cur := cur) (X := X) (dn := dn) hfu hl h0 hB h hc hx (show (3 : Nat) ≠ 0 by decide) (fun _ => by rw [st3, if_neg hn]) with ⟨N, e, q, n1, n2, n3, n4, n5⟩ | ⟨N, p1, pr1, su1, cur1, n1, n2, n3, n4, n5, n6, n7, n8, n9⟩
  · left
    refine ⟨N, e, q, ?_, n2, n3, n4, n5⟩
    unfold m_X6_readCompared
    rw [n1, some_bind, un2_is, if_pos rfl]
  · have pre : m_X6_readCompared fu M = if rkN (tK b len p1) = 4 then j_X6_readCompared_73 fu N (opc (tK b len p1)) else (m_X6_errs N 1).bind (un2 fun r_25 M_26 => some (r_25, M_26)) := by
      unfold m_X6_readCompared
      rw [n1, some_bind, un2_is, if_neg (by decide), msign_is n3 (by unfold isSi; decide), some_bind, msign_is n3 (by unfold isSi; decide), some_bind, msign_is n3 (by unfold isSi; decide), some_bind]
      by_cases c : rkN (tK b len p1) = 4
      · have k4 := rk4 c
        have z24 : rd N 148 24 = tK b len p1 := by
          have t := n3.2.2.2
          rcases t with ⟨e, -⟩ | ⟨e, -⟩ | ⟨e, -⟩ | ⟨w', hw', e, -⟩ | ⟨-, -, v⟩
          · rw [e] at c; exact absurd c (by decide)
          · rw [e] at c; exact absurd c (by decide)
          · rw [e] at c; exact absurd c (by decide)
          · rw [e] at k4; rcases k4 with y | y | y
            · exact absurd y (kd (c := 60) (by omega) (by omega) (by omega))
            · exact absurd y (kd (c := 61) (by omega) (by omega) (by omega))
            · exact absurd y (kd (c := 62) (by omega) (by omega) (by omega))
          · exact v
        rw [if_pos c]
        unfold j_X6_readCompared_43
        rw [z24]
        rcases k4 with e | e | e
        · rw [e]; rfl
        · rw [e]; rfl
        · rw [e]; rfl
      · have n60 : tK b len p1 ≠ 60 := fun z => c (by rw [z]; decide)
        have n61 : tK b len p1 ≠ 61 := fun z => c (by rw [z]; decide)
        have n62 : tK b len p1 ≠ 62 := fun z => c (by rw [z]; decide)
        rw [if_neg c, if_neg n60, if_pos rfl, if_neg n61, if_pos rfl, if_neg n62, if_pos rfl]
    rw [pre]
    by_cases c : rkN (tK b len p1) = 4
    · have kn : tK b len p1 ≠ 0 := fun z => by rw [z] at c; exact absurd c (by decide)
      have adv := tS_adv h0 n3.1 kn
      have olk : ol (tK b len p1) = [(opc (tK b len p1), 0)] := by unfold ol; rw [if_neg kn]
      rw [if_pos c]
      unfold j_X6_readCompared_73
      obtain ⟨Y, y1, y2, y3⟩ := mrd hfu hl h0 (hB.fx n5) n3
      have yc : MC Y (X ++ (cur1 ++ ol pr1 ++ ol su1)) := n4.fr (y3 _ _ (by omega)) (fun k j q => y3 _ _ (by omega))
      have yB : Bs b len Y := (hB.fx n5).fx (Fx.of y3)
      have yF : Fx M Y := n5.tr (Fx.of y3)
      have y0 : run b len (3, d, (0, 0, 0), lg, cur, dn) p = run b len (4, d, (0, 0, tK b len p1), lg, cur1 ++ ol pr1 ++ ol su1, dn) (tS b len p1) := n2.trans (run_st h0 n3.1 kn (st6_4 c))
      rw [y1, some_bind]
      rcases msumS (w := w + 1) (s := (4, d, (0, 0, tK b len p1), lg, cur1 ++ ol pr1 ++ ol su1, dn)) (d := d) (cm := tK b len p1) (lg := lg) (cur := cur1 ++ ol pr1 ++ ol su1) (X := X) (dn := dn) hfu hl h0 yB y2 yc (by omega) (show (4 : Nat) ≠ 0 by decide) (fun _ => st4) with ⟨N2, e, q2, i1, i2, i3, i4, i5⟩ | ⟨N2, p2, pr2, su2, cur2, i1, i2, i3, i4, i5, i6, i7, i8, i9⟩
      · left
        rw [i1, some_bind, un2_is, if_pos rfl]
        exact ⟨N2, e, q2, rfl, y0.trans i2, i3, i4, yF.tr i5⟩
      · right
        have p2l : p2 ≤ len := i3.1
        obtain ⟨N3, o1, o2, o3⟩ := memits i4 (by omega) (opc (tK b len p1)) 0
        rw [i1, some_bind, un2_is, if_neg (by decide), o1, some_bind]
        have assoc : X ++ (cur2 ++ ol pr2 ++ ol su2) ++ [(opc (tK b len p1), 0)] = X ++ (cur2 ++ ol pr2 ++ ol su2 ++ ol (tK b len p1)) := by rw [olk]; simp
        rw [assoc] at o2
        have fx2 : Fx N2 N3 := fun k j q1 q2 => o3 k j (by omega) q2
        refine ⟨N3, p2, pr2, su2, tK b len p1, cur2, rfl, y0.trans i2, kn, i3.fr (fun j z1 z2 => o3 _ _ (by omega) (by omega)), o2, (yF.tr i5).tr fx2, by omega, ?_, i8, i9⟩
        rw [← assoc, List.length_append]; show _ + 1 + w ≤ _; omega
    · left
      rw [if_neg c]
      obtain ⟨N2, i1, i2, i3, i4⟩ := merrs n3 1
      have r6 := rk_le (tK b len p1)
      exact ⟨N2, 1, _, by rw [i1, some_bind, un2_is], n2.trans (run_er h0 n3.1 (show (6 : Nat) ≠ 0 by decide) (fun _ => rfl) (fun _ => st6_0 (by omega))), i2, i3, n5.tr i4⟩
end MR3
