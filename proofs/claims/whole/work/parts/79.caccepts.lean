def s00 : PS := (0, 0, (0, 0, 0), [], [], [])
theorem caccepts {fu len : Nat} {M : Mem} {b : Nat → Int32} (hfu : 1000 ≤ fu) (hl : len ≤ 400) (hb : ∀ i, i < len → rd M 147 i = b i) (h0 : ∀ i, i < len → 0 ≤ b i) :
    (∃ e q M', run b len s00 0 = .inl (e, q) ∧ m_X3_accepts fu 147 M (nI len) = some (0, M') ∧ rd M' 111 3 = e ∧ rd M' 111 4 = nI q) ∨ (∃ dn M', run b len s00 0 = .inr dn ∧ m_X3_accepts fu 147 M (nI len) = some (1, M') ∧ rd M' 111 2 = nI dn.length ∧ Cd M' (encL dn) ∧ (∀ l, l ∈ dn → LnOk l) ∧ dn.length ≤ 16 ∧ (encL dn).length ≤ len) := by
  generalize hX : wr (wr (wr (wr (wr (wr (wr (wr (wr (cpM M 147 0 113 0 (nI len)) 111 6 (nI len)) 111 8 0) 111 1 0) 111 2 0) 111 3 0) 111 4 (-1)) 111 11 0) 111 15 0) 111 16 0 = X
  have xr : ∀ k j, k ≠ 111 → rd X k j = rd (cpM M 147 0 113 0 (nI len)) k j := fun k j z => by
    rw [← hX, wr_sp (by omega), wr_sp (by omega), wr_sp (by omega), wr_sp (by omega), wr_sp (by omega), wr_sp (by omega), wr_sp (by omega), wr_sp (by omega), wr_sp (by omega)]
  have x113 : ∀ i, i < len → rd X 113 i = b i := fun i hi => by
    rw [xr _ _ (by decide), rd_cp, ix_nI (by omega), if_pos ⟨rfl, hi⟩]; exact hb i hi
  have x6 : rd X 111 6 = nI len := by
    rw [← hX, wr_sp (by omega), wr_sp (by omega), wr_sp (by omega), wr_sp (by omega), wr_sp (by omega), wr_sp (by omega), wr_sp (by omega), wr_sp (by omega), rd_we, if_pos ⟨rfl, rfl⟩]
  have x8 : rd X 111 8 = nI 0 := by
    rw [← hX, wr_sp (by omega), wr_sp (by omega), wr_sp (by omega), wr_sp (by omega), wr_sp (by omega), wr_sp (by omega), wr_sp (by omega), rd_we, if_pos ⟨rfl, rfl⟩]; rfl
  have x1 : rd X 111 1 = nI 0 := by
    rw [← hX, wr_sp (by omega), wr_sp (by omega), wr_sp (by omega), wr_sp (by omega), wr_sp (by omega), wr_sp (by omega), rd_we, if_pos ⟨rfl, rfl⟩]; rfl
  have x2 : rd X 111 2 = nI 0 := by
    rw [← hX, wr_sp (by omega), wr_sp (by omega), wr_sp (by omega), wr_sp (by omega), wr_sp (by omega), rd_we, if_pos ⟨rfl, rfl⟩]; rfl
  have x11 : rd X 111 11 = nI 0 := by
    rw [← hX, wr_sp (by omega), wr_sp (by omega), rd_we, if_pos ⟨rfl, rfl⟩]; rfl
  have x15 : rd X 111 15 = nI 0 := by
    rw [← hX, wr_sp (by omega), rd_we, if_pos ⟨rfl, rfl⟩]; rfl
  have x16 : rd X 111 16 = nI 0 := by
    rw [← hX, rd_we, if_pos ⟨rfl, rfl⟩]; rfl
  obtain ⟨Y, y1, y7, y8, y9, y10, yf, -⟩ := cadv_is (fu := fu) hfu x113 hl x6 x8 (Nat.zero_le _)
  have yB : CB Y s00 := by
    refine ⟨?_, ?_, ⟨?_, fun i hi => absurd hi (Nat.not_lt_zero _)⟩, fun z => absurd z (by decide), fun z => absurd z (by decide), ?_, trivial, ?_⟩
    · rw [yf _ _ (by decide)]; exact x11
    · rw [yf _ _ (by decide)]; exact x2
    · rw [yf _ _ (by decide)]; exact x1
    · rw [yf _ _ (by decide)]; exact x15
    · rw [yf _ _ (by decide)]; exact x16
  have yS : Sv s00 0 := ⟨fun l hl => absurd hl List.not_mem_nil, Nat.zero_le _, Nat.zero_le _, ⟨Or.inl rfl, Or.inl rfl, Or.inl rfl⟩, Or.inl ⟨rfl, rfl, rfl, rfl, rfl, rfl, Nat.le_refl _⟩⟩
  obtain ⟨x, e, hp⟩ := lp_ms (body := b_X3_accepts_62 fu 147) (fun m σ => ∃ i p s Z, σ = (nI i, Z) ∧ m = len - p ∧ i ≤ p ∧ p ≤ len ∧ rd Z 111 6 = nI len ∧ (∀ i, i < len → rd Z 113 i = b i) ∧ rd Z 111 7 = nI (tF b len p) ∧ rd Z 111 8 = nI (tS b len p) ∧ rd Z 111 9 = tK b len p ∧ (tK b len p = 1 → rd Z 111 10 = tV b len p) ∧ CB Z s ∧ Sv s p ∧ run b len s00 0 = run b len s p)
    (fun x => (∃ Z e q, x = .inl Z ∧ run b len s00 0 = .inl (e, q) ∧ rd Z 111 3 = e ∧ rd Z 111 4 = nI q) ∨ (∃ Z p s, x = .inr Z ∧ p ≤ len ∧ tK b len p = 0 ∧ rd Z 111 7 = nI (tF b len p) ∧ CB Z s ∧ Sv s p ∧ run b len s00 0 = run b len s p)) (by
    rintro m σ ⟨i, p, s, Z, rfl, rfl, i1, i2, z6, z113, z7, z8, z9, z10, zB, zS, zR⟩
    unfold b_X3_accepts_62
    rw [un2_is, z6, z9]
    by_cases a : len ≤ i
    · right
      rw [if_pos (nI_le a (by omega))]
      have F := tF_b b i2
      exact ⟨_, rfl, Or.inr ⟨Z, p, s, rfl, i2, (tK_0 h0 i2).mpr (by omega), z7, zB, zS, zR⟩⟩
    · rw [if_neg (nI_ge (by omega) (by omega))]
      by_cases c : tK b len p = 0
      · right
        rw [if_pos c]
        exact ⟨_, rfl, Or.inr ⟨Z, p, s, rfl, i2, c, z7, zB, zS, zR⟩⟩
      · rw [if_neg c]
        have adv := tS_adv h0 i2 c
        rw [run_u h0 s i2, if_neg c] at zR
        rcases cstpT (k := tK b len p) (v := tV b len p) hfu zS zB (by omega) z7 z9 z10 with ⟨e, Z', g1, g2, g3, g4⟩ | ⟨s', Z', g1, g2, g3, g4⟩
        · right
          rw [g2, some_bind, un2_is, if_pos rfl]
          rw [g1] at zR
          exact ⟨_, rfl, Or.inl ⟨Z', e, _, rfl, zR, g3, g4⟩⟩
        · left
          rw [g2, some_bind, un2_is, if_neg (by decide)]
          rw [g1] at zR
          obtain ⟨Z2, w1, w7, w8, w9, w10, wf, -⟩ := cadv_is (fu := fu) (M := Z') (p := tS b len p) (b := b) hfu (fun i hi => by rw [g4 _ _ (Or.inl rfl)]; exact z113 i hi) hl (by rw [g4 _ _ (Or.inr ⟨rfl, by decide, by decide⟩)]; exact z6) (by rw [g4 _ _ (Or.inr ⟨rfl, by decide, by decide⟩)]; exact z8) adv.2.2
          rw [w1, some_bind, bnd_e, nI_1]
          refine ⟨_, len - tS b len p, rfl, by omega, i + 1, tS b len p, s', Z2, rfl, rfl, by omega, adv.2.2, ?_, fun i hi => ?_, w7, w8, w9, w10, ?_, stp_ok zS g1 (by omega) (tok_ok i2), zR⟩
          · rw [wf _ _ (by decide), g4 _ _ (Or.inr ⟨rfl, by decide, by decide⟩)]; exact z6
          · rw [wf _ _ (by omega), g4 _ _ (Or.inl rfl)]; exact z113 i hi
          · obtain ⟨nx, d, ⟨pr, su, cm⟩, lg, cur, dn⟩ := s'
            obtain ⟨b1, b2, b3, b4, b5, b6, b7, b8⟩ := g3
            refine ⟨?_, ?_, ⟨?_, fun i hi => ?_⟩, fun z => ?_, fun z1 z2 => ?_, ?_, stk_fr (fun i _ => wf _ _ (by omega)) b7, ?_⟩
            · rw [wf _ _ (by decide)]; exact b1
            · rw [wf _ _ (by decide)]; exact b2
            · rw [wf _ _ (by decide)]; exact b3.1
            · rw [wf _ _ (by omega)]; exact b3.2 i hi
            · rw [wf _ _ (by decide)]; exact b4 z
            · rw [wf _ _ (by decide)]; exact b5 z1 z2
            · rw [wf _ _ (by decide)]; exact b6
            · rw [wf _ _ (by decide)]; exact b8) fu len (0, Y) (by omega) ⟨0, 0, s00, Y, rfl, rfl, Nat.le_refl _, Nat.zero_le _, by rw [yf _ _ (by decide)]; exact x6, fun i hi => by rw [yf _ _ (by omega)]; exact x113 i hi, y7, y8, y9, y10, yB, yS, rfl⟩
  have pre : m_X3_accepts fu 147 M (nI len) = (some x).bind (unS (un1 fun M_36 => some (0, M_36)) (un1 fun M_37 => if (rd M_37 111 11) = 0 then j_X3_accepts_111 fu 147 M_37 else (m_X3_refuse M_37 1).bind <| un2 fun r_40 M_41 => if r_40 = 0 then some (0, M_41) else j_X3_accepts_111 fu 147 M_41)) := by
    unfold m_X3_accepts
    rw [chk_is (cpOk_nI hl hl (by decide)), bnd_e, bnd_e, bnd_e, bnd_e, bnd_e, bnd_e, bnd_e, bnd_e, bnd_e, bnd_e, hX, y1, some_bind, e]
  rw [pre, some_bind]
  rcases hp with ⟨Z, e1, q, rfl, r1, r2, r3⟩ | ⟨Z, p, s, rfl, i2, c, z7, zB, zS, zR⟩
  · exact Or.inl ⟨e1, q, Z, r1, by rw [unS_inl, un1_is], r2, r3⟩
  · rw [unS_inr, un1_is]
    obtain ⟨nx, d, ⟨pr, su, cm⟩, lg, cur, dn⟩ := s
    rw [run_u h0 _ i2, if_pos c] at zR
    obtain ⟨b1, b2, b3, b4, b5, b6, b7, b8⟩ := zB
    obtain ⟨hd, hn, ho, hs, h⟩ := zS
    rw [b1]
    by_cases a : nx = 0
    · right
      subst a
      rw [if_pos (show nI 0 = 0 from rfl)]
      rcases h with ⟨-, rfl, rfl, rfl, rfl, rfl, hz⟩ | ⟨h, -⟩ | ⟨h, -⟩ | ⟨h, -⟩
      · refine ⟨dn, Z, zR, rfl, ?_, ?_, hd, hn, by omega⟩
        · rw [b2, if_pos rfl, Nat.add_zero]
        · have := b3; rw [List.map_nil, List.append_nil] at this; exact this
      · exact absurd h (by decide)
      · exact absurd h (by decide)
      · omega
    · left
      have nn : nI nx ≠ 0 := by
        have : nx ≤ 7 := by omega
        exact fun z => a (nI_inj (by omega) (by decide) (z.trans (show (0 : Int32) = nI 0 from rfl)))
      rw [if_neg nn]
      obtain ⟨M', g1, g2, g3⟩ := cref Z 1 z7
      rw [g1, some_bind, un2_is, if_pos rfl]
      exact ⟨1, tF b len p, M', by rw [zR]; exact if_neg a, rfl, g2, g3⟩
