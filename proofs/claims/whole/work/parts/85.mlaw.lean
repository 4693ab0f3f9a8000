def flt (dn : List Ln) : List Op := dn.flatMap (fun l => l.2)
theorem flt_snoc (dn : List Ln) (d : Int32) (O : List Op) : flt (dn ++ [(d, O)]) = flt dn ++ O := by unfold flt; simp
def pre (dn : List Ln) (l : Nat) : Nat := (flt (dn.take l)).length
def ML (M : Mem) (dn : List Ln) : Prop := ∀ l, l < dn.length → rd M 166 (64 + l) = (dn.getD l (0, [])).1 ∧ rd M 167 (64 + l) = nI (pre dn l) ∧ rd M 168 (64 + l) = nI (pre dn l + (dn.getD l (0, [])).2.length)
def Ff (M M' : Mem) : Prop := ∀ k j, ¬ (k = 148 ∧ ((21 ≤ j ∧ j ≤ 24) ∨ j = 32 ∨ j = 33 ∨ (35 ≤ j ∧ j ≤ 37))) → ¬ ((k = 169 ∨ k = 170) ∧ 1600 ≤ j) → ¬ ((166 ≤ k ∧ k ≤ 168) ∧ 64 ≤ j) → k ≠ 171 → rd M' k j = rd M k j
theorem Ff.tr {M M1 M2 : Mem} (h : Ff M M1) (h2 : Ff M1 M2) : Ff M M2 := fun k j q1 q2 q3 q4 => (h2 k j q1 q2 q3 q4).trans (h k j q1 q2 q3 q4)
theorem Fa.ff {M M' : Mem} (h : Fa M M') : Ff M M' := fun k j q1 q2 _ q4 => h k j q1 q2 q4
theorem Bs.ff {b : Nat → Int32} {len : Nat} {M M' : Mem} (h : Bs b len M) (f : Ff M M') : Bs b len M' := ⟨by rw [f _ _ (by decide) (by decide) (by decide) (by decide)]; exact h.1, fun i hi => by rw [f _ _ (by omega) (by omega) (by omega) (by decide)]; exact h.2.1 i hi, fun i hi => by rw [f _ _ (by omega) (by omega) (by omega) (by decide)]; exact h.2.2 i hi⟩
theorem pre_snoc {dn : List Ln} {x : Ln} {l : Nat} (h : l ≤ dn.length) : pre (dn ++ [x]) l = pre dn l := by unfold pre; rw [List.take_append_of_le_length h]
theorem pre_all (dn : List Ln) : pre dn dn.length = (flt dn).length := by unfold pre; rw [List.take_length]
theorem ML.snoc {M M' : Mem} {dn : List Ln} {d : Int32} {O : List Op} (h : ML M dn) (hf : ∀ k j, 166 ≤ k → k ≤ 168 → j < 64 + dn.length → rd M' k j = rd M k j) (h1 : rd M' 166 (64 + dn.length) = d) (h2 : rd M' 167 (64 + dn.length) = nI (flt dn).length) (h3 : rd M' 168 (64 + dn.length) = nI ((flt dn).length + O.length)) : ML M' (dn ++ [(d, O)]) := by
  intro l hl
  rw [List.length_append] at hl
  have hl' : l < dn.length + 1 := hl
  rw [pre_snoc (by omega)]
  by_cases c : l = dn.length
  · have eg : (dn ++ [(d, O)]).getD l (0, []) = (d, O) := by rw [c]; simp
    rw [eg, c, pre_all]
    exact ⟨h1, h2, h3⟩
  · rw [getD_app1 (by omega), hf 166 _ (by decide) (by decide) (by omega), hf 167 _ (by decide) (by decide) (by omega), hf 168 _ (by decide) (by decide) (by omega)]
    exact h l (by omega)
section MR5
variable {b : Nat → Int32} {len fu : Nat}
theorem st0 {d : Int32} {dn : List Ln} {k v : Int32} : stp (0, d, (0, 0, 0), [], [], dn) k v = if k = 200 then (if dn.length < 16 then .inr (1, d, (0, 0, 0), [], [], dn) else .inl 3) else .inl 1 := by
  unfold stp; simp
theorem st1 {d : Int32} {dn : List Ln} {k v : Int32} : stp (1, d, (0, 0, 0), [], [], dn) k v = if k = 1 then (if v < 4 then .inr (2, v, (0, 0, 0), [], [], dn) else .inl 2) else .inl 1 := by
  unfold stp; simp
theorem st2 {d : Int32} {dn : List Ln} {k v : Int32} : stp (2, d, (0, 0, 0), [], [], dn) k v = if k = 201 then .inr (3, d, (0, 0, 0), [], [], dn) else if k = 59 then .inr (0, d, (0, 0, 0), [], [], dn ++ [(d, [])]) else .inl 1 := by
  unfold stp; simp
theorem mlaw {M : Mem} {d0 : Int32} (hfu : 1000 ≤ fu) (hl : len ≤ 400) (h0 : ∀ i, i < len → 0 ≤ b i) (hB : Bs b len M) (h : Tok b len M 0) (hc : MC M []) (h33 : rd M 148 33 = 0) :
    (∃ M' e q, m_X6_readLaw fu M = some (-1, M') ∧ run b len (0, d0, (0, 0, 0), [], [], []) 0 = .inl (e, q) ∧ rd M' 148 36 = e ∧ rd M' 148 37 = nI q ∧ Ff M M') ∨ ∃ M' dn, m_X6_readLaw fu M = some (nI dn.length, M') ∧ run b len (0, d0, (0, 0, 0), [], [], []) 0 = .inr dn ∧ MC M' (flt dn) ∧ ML M' dn ∧ Ff M M' ∧ dn.length ≤ 16 ∧ (flt dn).length ≤ 400 := by
  generalize hR : run b len (0, d0, (0, 0, 0), [], [], []) 0 = R
  obtain ⟨x, e, hp⟩ := lp_ms (body := b_X6_readLaw_2 fu) (fun m σ => ∃ q c1 Z d dn, σ = (c1, Z) ∧ m = len - q ∧ c1 = nI dn.length ∧ Tok b len Z q ∧ Ff M Z ∧ R = run b len (0, d, (0, 0, 0), [], [], dn) q ∧ MC Z (flt dn) ∧ ML Z dn ∧ rd Z 148 33 = 0 ∧ (flt dn).length ≤ q ∧ dn.length ≤ 16)
    (fun x => (∃ Z q, x = .inl Z ∧ R = .inl (3, tF b len q) ∧ Tok b len Z q ∧ Ff M Z) ∨ (∃ Z q, x = .inr (.inl Z) ∧ R = .inl (1, tF b len q) ∧ Tok b len Z q ∧ Ff M Z) ∨ (∃ Z q, x = .inr (.inr (.inl Z)) ∧ R = .inl (2, tF b len q) ∧ Tok b len Z q ∧ Ff M Z) ∨ (∃ Z e q, x = .inr (.inr (.inr (.inl Z))) ∧ R = .inl (e, q) ∧ rd Z 148 36 = e ∧ rd Z 148 37 = nI q ∧ Ff M Z) ∨ (∃ Z q, x = .inr (.inr (.inr (.inr (.inl Z)))) ∧ R = .inl (1, tF b len q) ∧ Tok b len Z q ∧ Ff M Z) ∨ (∃ Z q dn, x = .inr (.inr (.inr (.inr (.inr (nI dn.length, Z))))) ∧ (R = if tK b len q = 0 then .inr dn else .inl (1, tF b len q)) ∧ Tok b len Z q ∧ MC Z (flt dn) ∧ ML Z dn ∧ Ff M Z ∧ dn.length ≤ 16 ∧ (flt dn).length ≤ 400)) (by
    rintro m σ ⟨q, c1, Z, d, dn, rfl, rfl, rfl, z1, z2, z3, z4, z5, z6, z7, z8⟩
    have ql := z1.1
    have zB := hB.ff z2
    unfold b_X6_readLaw_2
    rw [un2_is, show m_X6_isWord Z 0 = some (if tK b len q = nI (200 + 0) then 1 else 0) from mword_is z1 (by decide), some_bind]
    by_cases c0 : tK b len q = nI (200 + 0)
    · have c200 : tK b len q = 200 := c0
      have kn : tK b len q ≠ 0 := by rw [c200]; decide
      have adv := tS_adv h0 ql kn
      rw [if_pos c0, if_neg (show ¬ (1 : Int32) = 0 by decide)]
      by_cases c16 : dn.length = 16
      · right
        rw [if_pos (show nI dn.length = 16 by rw [c16]; decide)]
        refine ⟨_, rfl, Or.inl ⟨Z, q, rfl, ?_, z1, z2⟩⟩
        rw [z3, run_u h0 _ ql, if_neg kn, st0, if_pos c200, if_neg (by omega)]; rfl
      · rw [if_neg (show ¬ nI dn.length = 16 from fun z => c16 (nI_inj (a := dn.length) (b := 16) (by omega) (by decide) z)), bnd_e]
        have r1 : R = run b len (1, d, (0, 0, 0), [], [], dn) (tS b len q) := z3.trans (run_st h0 ql kn (by rw [st0, if_pos c200, if_pos (by omega)]))
        obtain ⟨A, a1, a2, a3⟩ := mrd hfu hl h0 zB z1
        rw [a1, some_bind]
        have na := mnum_is a2
        have aF : Ff M A := z2.tr (Fx.of a3).fa.ff
        have q1l := a2.1
        have e64 : (64 : Int32) + nI dn.length = nI (64 + dn.length) := by rw [show (64 : Int32) = nI 64 from rfl, nI_add]
        rw [e64]
        by_cases n1 : tK b len (tS b len q) = 1
        · rw [if_pos (na.1.mpr n1), na.2.1 n1]
          have kn1 : tK b len (tS b len q) ≠ 0 := by rw [n1]; decide
          have adv1 := tS_adv h0 q1l kn1
          by_cases v3 : tV b len (tS b len q) ≤ 3
          · have v4 : tV b len (tS b len q) < 4 := by grind
            have r2 : R = run b len (2, tV b len (tS b len q), (0, 0, 0), [], [], dn) (tS b len (tS b len q)) := r1.trans (run_st h0 q1l kn1 (by rw [st1, if_pos n1, if_pos v4]))
            rw [if_pos v3, chk_is (inb_nI (by omega) (by decide)), ix_nI (by omega), bnd_e]
            generalize hv : tV b len (tS b len q) = v at *
            have tokA : Tok b len (wr A 166 (64 + dn.length) v) (tS b len q) := a2.fr (fun j _ _ => wr_sp (by omega))
            have fA : Ff A (wr A 166 (64 + dn.length) v) := fun k j q1 q2 q3 q4 => wr_sp (by omega)
            obtain ⟨B, b1, b2, b3⟩ := mrd hfu hl h0 (hB.ff (aF.tr fA)) tokA
            have bF : Ff M B := (aF.tr fA).tr (Fx.of b3).fa.ff
            have b32 : rd B 148 32 = nI (flt dn).length := by rw [b3 _ _ (by decide), wr_sp (by omega), a3 _ _ (by decide)]; exact z4.1
            rw [b1, some_bind, b32, bnd_e]
            generalize hC : wr B 167 (64 + dn.length) (nI (flt dn).length) = C
            have cr : ∀ k j, ¬ (k = 167 ∧ j = 64 + dn.length) → rd C k j = rd B k j := fun k j z => by rw [← hC, wr_sp z]
            have tokC : Tok b len C (tS b len (tS b len q)) := b2.fr (fun j _ _ => cr _ _ (by omega))
            have cF : Ff M C := bF.tr (fun k j q1 q2 q3 q4 => cr _ _ (by omega))
            have c166 : rd C 166 (64 + dn.length) = v := by rw [cr _ _ (by omega), b3 _ _ (by omega), rd_we, if_pos ⟨rfl, rfl⟩]
            have c167 : rd C 167 (64 + dn.length) = nI (flt dn).length := by rw [← hC, rd_we, if_pos ⟨rfl, rfl⟩]
            have clow : ∀ k j, 166 ≤ k → k ≤ 168 → j < 64 + dn.length → rd C k j = rd Z k j := fun k j y1 y2 y3 => by rw [cr _ _ (by omega), b3 _ _ (by omega), wr_sp (by omega), a3 _ _ (by omega)]
            have c33 : rd C 148 33 = 0 := by rw [cr _ _ (by omega), b3 _ _ (by decide), wr_sp (by omega), a3 _ _ (by decide)]; exact z6
            have cMC : MC C (flt dn) := z4.fr (by rw [cr _ _ (by omega), b3 _ _ (by decide), wr_sp (by omega), a3 _ _ (by decide)]) (fun k j y => by rw [cr _ _ (by omega), b3 _ _ (by omega), wr_sp (by omega), a3 _ _ (by omega)])
            have q2l := tokC.1
            -- the line's end
            have fin : ∀ (D : Mem) (q3 : Nat) (O : List Op), Tok b len D q3 → Ff M D → MC D (flt dn ++ O) → rd D 148 33 = 0 → (∀ k j, 166 ≤ k → k ≤ 168 → j ≤ 64 + dn.length → ¬ (k = 168 ∧ j = 64 + dn.length) → rd D k j = rd C k j) → q < q3 → (flt dn ++ O).length ≤ q3 → (R = if tK b len q3 = 59 then run b len (0, v, (0, 0, 0), [], [], dn ++ [(v, O)]) (tS b len q3) else .inl (1, tF b len q3)) →
                (∃ s' k, j_X6_readLaw_105i fu D (nI dn.length) (nI (64 + dn.length)) = some (.inl s') ∧ k < len - q ∧ ∃ q c1 Z d dn, s' = (c1, Z) ∧ k = len - q ∧ c1 = nI dn.length ∧ Tok b len Z q ∧ Ff M Z ∧ R = run b len (0, d, (0, 0, 0), [], [], dn) q ∧ MC Z (flt dn) ∧ ML Z dn ∧ rd Z 148 33 = 0 ∧ (flt dn).length ≤ q ∧ dn.length ≤ 16) ∨ ∃ Z, j_X6_readLaw_105i fu D (nI dn.length) (nI (64 + dn.length)) = some (.inr (.inr (.inr (.inr (.inr (.inl Z)))))) ∧ R = .inl (1, tF b len q3) ∧ Tok b len Z q3 ∧ Ff M Z := by
              intro D q3 O d1 d2 d3 d4 d5 d6 d7 d8
              unfold j_X6_readLaw_105i
              rw [chk_is (inb_nI (by omega) (by decide)), ix_nI (by omega), d3.1, bnd_e]
              generalize hE : wr D 168 (64 + dn.length) (nI (flt dn ++ O).length) = E
              have er : ∀ k j, ¬ (k = 168 ∧ j = 64 + dn.length) → rd E k j = rd D k j := fun k j z => by rw [← hE, wr_sp z]
              have e168 : rd E 168 (64 + dn.length) = nI (flt dn ++ O).length := by rw [← hE, rd_we, if_pos ⟨rfl, rfl⟩]
              have tokE : Tok b len E q3 := d1.fr (fun j _ _ => er _ _ (by omega))
              have eF : Ff M E := d2.tr (fun k j q1 q2 q3 q4 => er _ _ (by omega))
              have eMC : MC E (flt dn ++ O) := d3.fr (er _ _ (by omega)) (fun k j y => er _ _ (by omega))
              rw [msign_is tokE (by unfold isSi; decide), some_bind]
              by_cases c59 : tK b len q3 = 59
              · left
                have kn3 : tK b len q3 ≠ 0 := by rw [c59]; decide
                have adv3 := tS_adv h0 d1.1 kn3
                obtain ⟨G, g1, g2, g3⟩ := mrd hfu hl h0 (hB.ff eF) tokE
                rw [if_pos c59] at d8
                rw [if_pos c59, if_neg (by decide), g1, some_bind, bnd_e, nI_1]
                refine ⟨_, len - tS b len q3, rfl, by omega, tS b len q3, _, G, v, dn ++ [(v, O)], rfl, rfl, by rw [List.length_append]; rfl, g2, eF.tr (Fx.of g3).fa.ff, d8, ?_, ?_, ?_, ?_, by rw [List.length_append]; show dn.length + 1 ≤ 16; omega⟩
                · rw [flt_snoc]; exact eMC.fr (g3 _ _ (by decide)) (fun k j y => g3 _ _ (by omega))
                · refine z5.snoc (fun k j y1 y2 y3 => ?_) ?_ ?_ ?_
                  · rw [g3 _ _ (by omega), er _ _ (by omega), d5 _ _ y1 y2 (by omega) (by omega)]; exact clow _ _ y1 y2 y3
                  · rw [g3 _ _ (by omega), er _ _ (by omega), d5 _ _ (by decide) (by decide) (by omega) (by omega)]; exact c166
                  · rw [g3 _ _ (by omega), er _ _ (by omega), d5 _ _ (by decide) (by decide) (by omega) (by omega)]; exact c167
                  · rw [g3 _ _ (by omega), e168, List.length_append]
                · rw [g3 _ _ (by decide), er _ _ (by omega)]; exact d4
                · rw [flt_snoc]; omega
              · right
                rw [if_neg c59] at d8
                rw [if_neg c59, if_pos rfl]
                exact ⟨E, rfl, d8, tokE, eF⟩
            rw [show m_X6_isWord C 1 = some (if tK b len (tS b len (tS b len q)) = nI (200 + 1) then 1 else 0) from mword_is tokC (by decide), some_bind]
            by_cases cw : tK b len (tS b len (tS b len q)) = nI (200 + 1)
            · have c201 : tK b len (tS b len (tS b len q)) = 201 := cw
              have kn2 : tK b len (tS b len (tS b len q)) ≠ 0 := by rw [c201]; decide
              have adv2 := tS_adv h0 q2l kn2
              have r3 : R = run b len (3, v, (0, 0, 0), [], [], dn) (tS b len (tS b len (tS b len q))) := r2.trans (run_st h0 q2l kn2 (by rw [st2, if_pos c201]))
              rw [if_pos cw, if_neg (show ¬ (1 : Int32) = 0 by decide)]
              obtain ⟨D, d1, d2, d3⟩ := mrd hfu hl h0 (hB.ff cF) tokC
              have dF : Ff M D := cF.tr (Fx.of d3).fa.ff
              have dMC : MC D (flt dn) := cMC.fr (d3 _ _ (by decide)) (fun k j y => d3 _ _ (by omega))
              rw [d1, some_bind]
              rcases manyS (w := 0) (d := v) (X := flt dn) (dn := dn) hfu hl h0 (hB.ff dF) d2 dMC (by omega) (by rw [d3 _ _ (by decide)]; exact c33) with ⟨N, e, qe, i1, i2, i3, i4, i5⟩ | ⟨N, q3, O, i1, i2, i3, i4, i5, i6, i7, i8, i9⟩
              · right
                rw [i1, some_bind, un2_is, if_pos rfl]
                exact ⟨_, rfl, Or.inr (Or.inr (Or.inr (Or.inl ⟨N, e, qe, rfl, r3.trans i2, i3, i4, dF.tr i5.ff⟩)))⟩
              · rw [i1, some_bind, un2_is, if_neg (show ¬ (0 : Int32) = -1 by decide)]
                rcases fin N q3 O i3 (dF.tr i6.ff) i4 i5 (fun k j y1 y2 y3 y4 => by rw [i6 _ _ (by omega) (by omega) (by omega), d3 _ _ (by omega)]) (by omega) (by omega) (by unfold Cend at i2; rw [r3, i2]) with f | ⟨Y, f1, f2, f3, f4⟩
                · exact Or.inl f
                · exact Or.inr ⟨_, f1, Or.inr (Or.inr (Or.inr (Or.inr (Or.inl ⟨Y, q3, rfl, f2, f3, f4⟩))))⟩
            · rw [if_neg cw, if_pos rfl]
              have n201 : tK b len (tS b len (tS b len q)) ≠ 201 := cw
              rcases fin C (tS b len (tS b len q)) [] tokC cF (by rw [List.append_nil]; exact cMC) c33 (fun _ _ _ _ _ _ => rfl) (by omega) (by rw [List.append_nil]; omega) (by
                rw [r2]
                by_cases c59 : tK b len (tS b len (tS b len q)) = 59
                · rw [if_pos c59]
                  exact run_st h0 q2l (by rw [c59]; decide) (by rw [st2, if_neg n201, if_pos c59])
                · rw [if_neg c59]
                  exact run_er h0 q2l (show (2 : Nat) ≠ 0 by decide) (fun _ => rfl) (fun _ => by rw [st2, if_neg n201, if_neg c59])) with f | ⟨Y, f1, f2, f3, f4⟩
              · exact Or.inl f
              · exact Or.inr ⟨_, f1, Or.inr (Or.inr (Or.inr (Or.inr (Or.inl ⟨Y, _, rfl, f2, f3, f4⟩))))⟩
          · right
            rw [if_neg v3]
            refine ⟨_, rfl, Or.inr (Or.inr (Or.inl ⟨A, tS b len q, rfl, ?_, a2, aF⟩))⟩
            rw [r1]
            exact run_er h0 q1l (show (1 : Nat) ≠ 0 by decide) (fun z => absurd z kn1) (fun _ => by rw [st1, if_pos n1, if_neg (by grind)])
        · right
          rw [if_neg (fun z => n1 (na.1.mp z))]
          refine ⟨_, rfl, Or.inr (Or.inl ⟨A, tS b len q, rfl, ?_, a2, aF⟩)⟩
          rw [r1]
          exact run_er h0 q1l (show (1 : Nat) ≠ 0 by decide) (fun _ => rfl) (fun _ => by rw [st1, if_neg n1])
    · right
      rw [if_neg c0, if_pos rfl]
      have n200 : tK b len q ≠ 200 := c0
      refine ⟨_, rfl, Or.inr (Or.inr (Or.inr (Or.inr (Or.inr ⟨Z, q, dn, rfl, ?_, z1, z4, z5, z2, z8, by omega⟩))))⟩
      rw [z3, run_u h0 _ ql]
      by_cases kn : tK b len q = 0
      · rw [if_pos kn, if_pos kn, if_pos rfl]
      · rw [if_neg kn, if_neg kn, st0, if_neg n200]; rfl) fu len (0, M) (by omega) ⟨0, 0, M, d0, [], rfl, rfl, rfl, h, fun _ _ _ _ _ _ => rfl, hR.symm, hc, fun l hl => absurd hl (Nat.not_lt_zero _), h33, Nat.le_refl _, Nat.zero_le _⟩
  unfold m_X6_readLaw
  rw [e, some_bind]
  rcases hp with ⟨Z, q, rfl, z1, z2, z3⟩ | ⟨Z, q, rfl, z1, z2, z3⟩ | ⟨Z, q, rfl, z1, z2, z3⟩ | ⟨Z, e1, q, rfl, z1, z2, z3, z4⟩ | ⟨Z, q, rfl, z1, z2, z3⟩ | ⟨Z, q, dn, rfl, z1, z2, z3, z4, z5, z6, z7⟩
  · left
    obtain ⟨N, i1, i2, i3, i4⟩ := merrs z2 3
    exact ⟨N, 3, _, by rw [unS_inl, un1_is, i1, some_bind, un2_is], z1, i2, i3, z3.tr i4.fa.ff⟩
  · left
    obtain ⟨N, i1, i2, i3, i4⟩ := merrs z2 1
    exact ⟨N, 1, _, by rw [unS_inr, unS_inl, un1_is, i1, some_bind, un2_is], z1, i2, i3, z3.tr i4.fa.ff⟩
  · left
    obtain ⟨N, i1, i2, i3, i4⟩ := merrs z2 2
    exact ⟨N, 2, _, by rw [unS_inr, unS_inr, unS_inl, un1_is, i1, some_bind, un2_is], z1, i2, i3, z3.tr i4.fa.ff⟩
  · left
    exact ⟨Z, e1, q, by rw [unS_inr, unS_inr, unS_inr, unS_inl, un1_is], z1, z2, z3, z4⟩
  · left
    obtain ⟨N, i1, i2, i3, i4⟩ := merrs z2 1
    exact ⟨N, 1, _, by rw [unS_inr, unS_inr, unS_inr, unS_inr, unS_inl, un1_is, i1, some_bind, un2_is], z1, i2, i3, z3.tr i4.fa.ff⟩
  · rw [unS_inr, unS_inr, unS_inr, unS_inr, unS_inr, un2_is]
    have nm := mnum_is z2
    by_cases c : tK b len q = 0
    · right
      rw [if_pos c] at z1
      rw [if_pos (nm.2.2.mpr c)]
      exact ⟨Z, dn, rfl, z1, z3, z4, z5, z6, z7⟩
    · left
      rw [if_neg c] at z1
      obtain ⟨N, i1, i2, i3, i4⟩ := merrs z2 1
      rw [if_neg (fun z => c (nm.2.2.mp z)), i1, some_bind, un2_is]
      exact ⟨N, 1, _, rfl, z1, i2, i3, z5.tr i4.fa.ff⟩
end MR5
