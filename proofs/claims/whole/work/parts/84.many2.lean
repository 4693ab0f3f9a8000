section MR4
variable {b : Nat → Int32} {len fu : Nat}
theorem st6_b {d pr su cm : Int32} {lg : List Int32} {cur : List Op} {dn : List Ln} {k v : Int32} (h6 : rkN k ≠ 6) (h5 : rkN k ≠ 5) (hc : cm ≠ 0) : stp (6, d, (pr, su, cm), lg, cur, dn) k v = bhP d lg (cur ++ ol pr ++ ol su ++ ol cm) dn k := by
  unfold stp; simp [h6, h5, hc]
theorem st7 {d pr su cm : Int32} {lg : List Int32} {cur : List Op} {dn : List Ln} {k v : Int32} : stp (7, d, (pr, su, cm), lg, cur, dn) k v = bhP d lg cur dn k := by
  unfold stp; simp
theorem brk_le : ∀ l : List Int32, brk l ≤ l.length
  | [] => Nat.le_refl _
  | a :: r => by
    have := brk_le r
    rw [brk_c]; show _ ≤ r.length + 1; split <;> omega
/-- behind a condition -/
def Bh (S : PS) (q : Nat) (b : Nat → Int32) (len : Nat) (d : Int32) (lg : List Int32) (C : List Op) (dn : List Ln) : Prop := S.1 ≠ 0 ∧ (tK b len q ≠ 0 → stp S (tK b len q) (tV b len q) = bhP d lg C dn (tK b len q))
def Cend (R : Res) (b : Nat → Int32) (len : Nat) (d : Int32) (O : List Op) (dn : List Ln) (q : Nat) : Prop := R = if tK b len q = 59 then run b len (0, d, (0, 0, 0), [], [], dn ++ [(d, O)]) (tS b len q) else .inl (1, tF b len q)
theorem manyS {M : Mem} {p w : Nat} {d : Int32} {X : List Op} {dn : List Ln} (hfu : 1000 ≤ fu) (hl : len ≤ 400) (h0 : ∀ i, i < len → 0 ≤ b i) (hB : Bs b len M) (h : Tok b len M p) (hc : MC M X) (hx : X.length + w ≤ p) (h33 : rd M 148 33 = 0) :
    (∃ M' e q, m_X6_readAny fu M = some (-1, M') ∧ run b len (3, d, (0, 0, 0), [], [], dn) p = .inl (e, q) ∧ rd M' 148 36 = e ∧ rd M' 148 37 = nI q ∧ Fa M M') ∨ ∃ M' q O, m_X6_readAny fu M = some (0, M') ∧ Cend (run b len (3, d, (0, 0, 0), [], [], dn) p) b len d O dn q ∧ Tok b len M' q ∧ MC M' (X ++ O) ∧ rd M' 148 33 = 0 ∧ Fa M M' ∧ p < q ∧ (X ++ O).length + w ≤ q ∧ O ≠ [] := by
  generalize hR : run b len (3, d, (0, 0, 0), [], [], dn) p = R
  obtain ⟨x, e, hp⟩ := lp_ms (body := b_X6_readAny_9 fu) (fun m σ => ∃ q c1 c2 Z, σ = (c1, c2, Z) ∧ m = len - q ∧ Tok b len Z q ∧ Fa M Z ∧ p ≤ q ∧
      ((c2 = 1 ∧ ∃ lg cur t, c1 = nI (brk lg) ∧ R = run b len (3, d, (0, 0, 0), lg, cur, dn) q ∧ FitC lg t ∧ opn lg ≤ 8 ∧ MC Z (X ++ cur) ∧ MP Z lg ∧ (X ++ cur).length + lg.length + w ≤ q) ∨
       (c2 = 0 ∧ p < q ∧ ∃ lg C t S, c1 = nI (brk lg) ∧ R = run b len S q ∧ Bh S q b len d lg C dn ∧ C ≠ [] ∧ FitC lg t ∧ opn lg ≤ 8 ∧ MC Z (X ++ (C ++ (stl 3 lg).1)) ∧ MP Z (stl 3 lg).2 ∧ (X ++ C).length + lg.length + w ≤ q)))
    (fun x => (∃ Z q, x = .inl Z ∧ R = .inl (3, tF b len q) ∧ Tok b len Z q ∧ Fa M Z) ∨ (∃ Z e q, x = .inr (.inl Z) ∧ R = .inl (e, q) ∧ rd Z 148 36 = e ∧ rd Z 148 37 = nI q ∧ Fa M Z) ∨ (∃ Z q O, x = .inr (.inr (.inl Z)) ∧ Cend R b len d O dn q ∧ Tok b len Z q ∧ MC Z (X ++ O) ∧ rd Z 148 33 = 0 ∧ Fa M Z ∧ p < q ∧ (X ++ O).length + w ≤ q ∧ O ≠ []) ∨ (∃ Z q, x = .inr (.inr (.inr Z)) ∧ R = .inl (1, tF b len q) ∧ Tok b len Z q ∧ Fa M Z)) (by
    rintro m σ ⟨q, c1, c2, Z, rfl, rfl, z1, z2, z3, z4⟩
    have ql := z1.1
    have zB := hB.fa z2
    unfold b_X6_readAny_9
    rw [un3_is]
    rcases z4 with ⟨rfl, lg, cur, t, rfl, r1, r3, r4, r5, r6, r7⟩ | ⟨rfl, pq, lg, C, t, S, rfl, r1, r2, r3, r4, r5, r6, r7, r8⟩
    · -- a condition is due
      rw [if_neg (by decide), show (4 : Int32) = nI 4 from rfl, mword_is z1 (by decide), some_bind, msign_is z1 (by unfold isSi; decide), some_bind]
      have fl := (fit_len r3).1
      have open_ : ∀ k s3 : Int32, tK b len q = k → (k = 204 ∧ s3 = 1 ∨ k = 40 ∧ s3 = 0) → (∃ s' k2, j_X6_readAny_32i fu Z (nI (brk lg)) 1 s3 = some (.inl s') ∧ k2 < len - q ∧ ∃ q2 c1 c2 Z2, s' = (c1, c2, Z2) ∧ k2 = len - q2 ∧ Tok b len Z2 q2 ∧ Fa M Z2 ∧ p ≤ q2 ∧ (c2 = 1 ∧ ∃ lg cur t, c1 = nI (brk lg) ∧ R = run b len (3, d, (0, 0, 0), lg, cur, dn) q2 ∧ FitC lg t ∧ opn lg ≤ 8 ∧ MC Z2 (X ++ cur) ∧ MP Z2 lg ∧ (X ++ cur).length + lg.length + w ≤ q2)) ∨ (j_X6_readAny_32i fu Z (nI (brk lg)) 1 s3 = some (.inr (.inl Z)) ∧ R = .inl (3, tF b len q)) := by
        intro k s3 hk hks
        have k2 : k = 204 ∨ k = 40 := by rcases hks with ⟨e, -⟩ | ⟨e, -⟩ <;> simp [e]
        have kn : tK b len q ≠ 0 := by rw [hk]; rcases k2 with e | e <;> rw [e] <;> decide
        have adv := tS_adv h0 ql kn
        by_cases c : opn lg < 8
        · left
          have r1' : R = run b len (3, d, (0, 0, 0), k :: lg, cur, dn) (tS b len q) := r1.trans (run_st h0 ql kn (by rw [st3, hk, if_pos k2, if_pos c]))
          obtain ⟨N1, e1, e2, e3, e4⟩ := mwaits (M := wr Z 148 33 (nI (opn lg + 1))) (by rw [wr_sp (by omega)]; exact r6.1) (stk_fr (fun j _ => wr_sp (by omega)) r6.2.1) (by omega) k
          have fa1 : Fa Z N1 := fun k j q1 q2 q3 => by rw [e4 _ _ (by omega) q3, wr_sp (by omega)]
          have tok1 : Tok b len N1 q := z1.fr (fun j _ _ => by rw [e4 _ _ (by omega) (by decide), wr_sp (by omega)])
          obtain ⟨N2, g1, g2, g3⟩ := mrd hfu hl h0 (zB.fa fa1) tok1
          have mc1 : MC N1 (X ++ cur) := r5.fr (by rw [e4 _ _ (by decide) (by decide), wr_sp (by omega)]) (fun k j q => by rw [e4 _ _ (by omega) (by omega), wr_sp (by omega)])
          have body : j_X6_readAny_32i fu Z (nI (brk lg)) 1 s3 = some (.inl (nI (brk (k :: lg)), 1, N2)) := by
            unfold j_X6_readAny_32i
            rw [r6.2.2, if_neg (show ¬ nI (opn lg) = 8 from fun z => by have := nI_inj (a := opn lg) (b := 8) (by omega) (by decide) z; omega), nI_1, bnd_e]
            unfold j_X6_readAny_65i j_X6_readAny_77i
            rcases hks with ⟨e, s⟩ | ⟨e, s⟩
            · subst e; subst s
              rw [show mcd 204 = 9 by decide] at e1
              rw [if_neg (by decide), if_neg (by decide), e1, some_bind, g1, some_bind, brk_c, if_neg (by decide), Nat.zero_add]
            · subst e; subst s
              rw [show mcd 40 = 12 by decide] at e1
              rw [if_pos rfl, bnd_e, if_pos rfl, e1, some_bind, g1, some_bind, brk_c, if_pos rfl, nI_1, Nat.add_comm]
          refine ⟨_, len - tS b len q, body, by omega, tS b len q, _, _, N2, rfl, rfl, g2, (z2.tr fa1).tr (Fx.of g3).fa, by omega, rfl, k :: lg, cur, t, rfl, r1', ?_, ?_, mc1.fr (g3 _ _ (by omega)) (fun k j q => g3 _ _ (by omega)), ⟨by rw [g3 _ _ (by decide)]; exact e2, stk_fr (fun j _ => g3 _ _ (by omega)) e3, ?_⟩, ?_⟩
          · rcases k2 with e | e
            · exact Or.inl ⟨e, r3⟩
            · exact Or.inr (Or.inl ⟨e, r3⟩)
          · rw [opn_c, if_pos k2]; omega
          · rw [g3 _ _ (by decide), e4 _ _ (by decide) (by decide), rd_we, if_pos ⟨rfl, rfl⟩, opn_c, if_pos k2, Nat.add_comm]
          · show (X ++ cur).length + (lg.length + 1) + w ≤ _; omega
        · right
          refine ⟨?_, ?_⟩
          · unfold j_X6_readAny_32i
            have : opn lg = 8 := by omega
            rw [r6.2.2, this, if_pos (show nI 8 = 8 from rfl)]
          · rw [r1]; exact run_er h0 ql (show (3 : Nat) ≠ 0 by decide) (fun z => absurd z kn) (fun _ => by rw [st3, hk, if_pos k2, if_neg c])
      by_cases c4 : tK b len q = nI (200 + 4)
      · rw [if_pos c4, if_neg (by decide)]
        rcases open_ 204 1 c4 (Or.inl ⟨rfl, rfl⟩) with ⟨s', k2, o1, o2, q2, c1, c2, Z2, o3, o4, o5, o6, o7, o8⟩ | ⟨o1, o2⟩
        · exact Or.inl ⟨s', k2, o1, o2, q2, c1, c2, Z2, o3, o4, o5, o6, o7, Or.inl o8⟩
        · exact Or.inr ⟨_, o1, Or.inl ⟨Z, q, rfl, o2, z1, z2⟩⟩
      rw [if_neg c4, if_pos rfl]
      by_cases c40 : tK b len q = 40
      · rw [if_pos c40, if_neg (by decide)]
        rcases open_ 40 0 c40 (Or.inr ⟨rfl, rfl⟩) with ⟨s', k2, o1, o2, q2, c1, c2, Z2, o3, o4, o5, o6, o7, o8⟩ | ⟨o1, o2⟩
        · exact Or.inl ⟨s', k2, o1, o2, q2, c1, c2, Z2, o3, o4, o5, o6, o7, Or.inl o8⟩
        · exact Or.inr ⟨_, o1, Or.inl ⟨Z, q, rfl, o2, z1, z2⟩⟩
      rw [if_neg c40, if_pos rfl]
      have hn : ¬ (tK b len q = 204 ∨ tK b len q = 40) := by
        rintro (z | z)
        · exact c4 z
        · exact c40 z
      rcases mcmp (w := lg.length + w) (d := d) (lg := lg) (dn := dn) hfu hl h0 zB z1 r5 (by omega) hn with ⟨N, e, qe, n1, n2, n3, n4, n5⟩ | ⟨N, q', pr, su, cm, cur', n1, n2, n3, n4, n5, n6, n7, n8, n9, n10⟩
      · right
        rw [n1, some_bind, un2_is, if_pos rfl]
        exact ⟨_, rfl, Or.inr (Or.inl ⟨N, e, qe, rfl, r1.trans n2, n3, n4, z2.tr n5.fa⟩)⟩
      · left
        have ql' := n4.1
        have mem := fit_mem r3
        obtain ⟨N2, o1, o2, o3, o4⟩ := msettles (fu := fu) (x := 204) hfu (Or.inl rfl) mem n5 (r6.fx n6) (by omega) (by omega)
        rw [← stl_A r3] at o2 o3
        rw [n1, some_bind, un2_is, if_neg (by decide), show (9 : Int32) = opc 204 by decide, o1, some_bind]
        have fa2 : Fa N N2 := fun k j q1 q2 q3 => o4 k j (by omega) q2
        refine ⟨_, len - q', rfl, by omega, q', _, _, N2, rfl, rfl, n4.fr (fun j _ _ => o4 _ _ (by omega) (by omega)), (z2.tr n6.fa).tr fa2, by omega, Or.inr ⟨rfl, by omega, lg, cur' ++ ol pr ++ ol su ++ ol cm, t, (6, d, (pr, su, cm), lg, cur', dn), rfl, r1.trans n2, ⟨(show (6 : Nat) ≠ 0 by decide), fun _ => st6_b n9 n10 n3⟩, ?_, r3, r4, ?_, o3, by omega⟩⟩
        · intro z
          have z2 := (List.append_eq_nil_iff.mp z).2
          unfold ol at z2
          rw [if_neg n3] at z2
          exact absurd z2 (by intro y; cases y)
        · rw [← List.append_assoc]; exact o2
    · -- behind a condition
      rw [if_pos rfl, show (3 : Int32) = nI 3 from rfl, mword_is z1 (by decide), some_bind, show (2 : Int32) = nI 2 from rfl, mword_is z1 (by decide), some_bind]
      have fl := (fit_len r4).1
      have l3 := stl_len 3 lg
      have l2 := stl_len 2 lg
      have l1 := stl_len 1 lg
      obtain ⟨t3, -, F3⟩ := stl_ty (r := 3) (by decide) r4
      obtain ⟨t2, -, F2⟩ := stl_ty (r := 2) (by decide) r4
      obtain ⟨t1, -, F1⟩ := stl_ty (r := 1) (by decide) r4
      have lc : (X ++ (C ++ (stl 3 lg).1)).length = (X ++ C).length + (stl 3 lg).1.length := by simp only [List.length_append]; omega
      obtain ⟨N, o1, o2, o3, o4⟩ := msettles (fu := fu) (x := 203) hfu (Or.inr (Or.inl rfl)) (fit_mem F3) r6 r7 (by omega) (by omega)
      have eB := stl_B r4
      have e2 : X ++ (C ++ (stl 3 lg).1) ++ (stE 203 (stl 3 lg).2).1 = X ++ (C ++ (stl 2 lg).1) := by rw [eB]; simp
      have e3 : (stE 203 (stl 3 lg).2).2 = (stl 2 lg).2 := by rw [eB]
      rw [e2] at o2
      rw [e3] at o3
      have faN : Fa Z N := fun k j q1 q2 q3 => o4 k j (by omega) q2
      have tokN : Tok b len N q := z1.fr (fun j _ _ => o4 _ _ (by omega) (by omega))
      have s10 : m_X6_settles fu Z 10 = some N := o1
      -- a new condition is due
      have due : ∀ (k : Int32) (r : Nat) (N : Mem), 0 < r → r ≤ 2 → tK b len q = k → (k = 203 ∧ r = 2 ∨ k = 202 ∧ r = 1) → Tok b len N q → Fa Z N → MC N (X ++ (C ++ (stl r lg).1)) → MP N (stl r lg).2 → ∃ N1 N2, m_X6_waits N (mcd k) = some N1 ∧ m_X6_reads fu N1 = some N2 ∧ ∃ s' k2, some (Sum.inl (nI (brk lg), (1 : Int32), N2)) = some ((Sum.inl s') : (Int32 × Int32 × Mem) ⊕ (Mem ⊕ (Mem ⊕ (Mem ⊕ Mem)))) ∧ k2 < len - q ∧ ∃ q2 c1 c2 Z2, s' = (c1, c2, Z2) ∧ k2 = len - q2 ∧ Tok b len Z2 q2 ∧ Fa M Z2 ∧ p ≤ q2 ∧
          (c2 = 1 ∧ ∃ lg cur t, c1 = nI (brk lg) ∧ R = run b len (3, d, (0, 0, 0), lg, cur, dn) q2 ∧ FitC lg t ∧ opn lg ≤ 8 ∧ MC Z2 (X ++ cur) ∧ MP Z2 lg ∧ (X ++ cur).length + lg.length + w ≤ q2) := by
        intro k r N hr hr2 hk hkr tN fN mN pN
        have k2 : k = 203 ∨ k = 202 := by rcases hkr with ⟨e, -⟩ | ⟨e, -⟩ <;> simp [e]
        have kn : tK b len q ≠ 0 := by rw [hk]; rcases k2 with e | e <;> rw [e] <;> decide
        have adv := tS_adv h0 ql kn
        have lr := stl_len r lg
        obtain ⟨tr, -, Fr'⟩ := stl_ty (r := r) hr r4
        obtain ⟨N1, w1, w2, w3, w4⟩ := mwaits pN.1 pN.2.1 (by omega) k
        have fa1 : Fa N N1 := fun k j q1 q2 q3 => w4 _ _ (by omega) q3
        obtain ⟨N2, g1, g2, g3⟩ := mrd hfu hl h0 ((zB.fa fN).fa fa1) (tN.fr (fun j _ _ => w4 _ _ (by omega) (by decide)))
        have r1' : R = run b len (3, d, (0, 0, 0), k :: (stl r lg).2, C ++ (stl r lg).1, dn) (tS b len q) := r1.trans (run_st h0 ql kn (by
          rw [r2.2 kn, hk]
          unfold bhP
          rcases hkr with ⟨e, e'⟩ | ⟨e, e'⟩
          · subst e; subst e'; rw [if_pos rfl]
          · subst e; subst e'; rw [if_neg (by decide), if_pos rfl]))
        refine ⟨N1, N2, w1, g1, _, len - tS b len q, rfl, by omega, tS b len q, _, _, N2, rfl, rfl, g2, ((z2.tr fN).tr fa1).tr (Fx.of g3).fa, by omega, rfl, k :: (stl r lg).2, C ++ (stl r lg).1, 2 :: tr, ?_, r1', ?_, ?_, (mN.fr (w4 _ _ (by decide) (by decide)) (fun k j q => w4 _ _ (by omega) (by omega))).fr (g3 _ _ (by omega)) (fun k j q => g3 _ _ (by omega)), ⟨by rw [g3 _ _ (by decide)]; exact w2, stk_fr (fun j _ => g3 _ _ (by omega)) w3, ?_⟩, ?_⟩
        · have : brk (k :: (stl r lg).2) = brk lg := by
            rw [brk_c, if_neg (by rcases k2 with e | e <;> rw [e] <;> decide), Nat.zero_add, brk_stl hr]
          rw [this]
        · rcases hkr with ⟨e, e'⟩ | ⟨e, e'⟩
          · subst e'; exact Or.inr (Or.inr (Or.inl ⟨e, stl_rk lg (by decide), tr, rfl, Fr'⟩))
          · subst e'; exact Or.inr (Or.inr (Or.inr ⟨e, stl_rk lg (by decide), tr, rfl, Fr'⟩))
        · rw [opn_c, if_neg (by rcases k2 with e | e <;> rw [e] <;> decide)]; omega
        · rw [g3 _ _ (by decide), w4 _ _ (by decide) (by decide), pN.2.2, opn_c, if_neg (by rcases k2 with e | e <;> rw [e] <;> decide), Nat.zero_add]
        · have : (X ++ (C ++ (stl r lg).1)).length = (X ++ C).length + (stl r lg).1.length := by simp only [List.length_append]; omega
          show (X ++ (C ++ (stl r lg).1)).length + ((stl r lg).2.length + 1) + w ≤ _
          omega
      by_cases c3 : tK b len q = nI (200 + 3)
      · left
        rw [if_pos c3, if_neg (by decide), s10, some_bind]
        obtain ⟨N1, N2, w1, g1, s', k2, u1, u2, q2, c1, c2, Z2, u3, u4, u5, u6, u7, u8⟩ := due 203 2 N (by decide) (by decide) c3 (Or.inl ⟨rfl, rfl⟩) tokN faN o2 o3
        rw [show (10 : Int32) = mcd 203 by decide, w1, some_bind, g1, some_bind]
        exact ⟨s', k2, u1, u2, q2, c1, c2, Z2, u3, u4, u5, u6, u7, Or.inl u8⟩
      rw [if_neg c3, if_pos rfl]
      have lc2 : (X ++ (C ++ (stl 2 lg).1)).length = (X ++ C).length + (stl 2 lg).1.length := by simp only [List.length_append]; omega
      obtain ⟨N', o1', o2', o3', o4'⟩ := msettles (fu := fu) (x := 202) hfu (Or.inr (Or.inr rfl)) (fit_mem F2) o2 o3 (by omega) (by omega)
      have eC := stl_C r4
      have e2' : X ++ (C ++ (stl 2 lg).1) ++ (stE 202 (stl 2 lg).2).1 = X ++ (C ++ (stl 1 lg).1) := by rw [eC]; simp
      have e3' : (stE 202 (stl 2 lg).2).2 = (stl 1 lg).2 := by rw [eC]
      rw [e2'] at o2'
      rw [e3'] at o3'
      have faN' : Fa Z N' := faN.tr (fun k j q1 q2 q3 => o4' k j (by omega) q2)
      have tokN' : Tok b len N' q := tokN.fr (fun j _ _ => o4' _ _ (by omega) (by omega))
      have s11 : m_X6_settles fu N 11 = some N' := o1'
      by_cases c2 : tK b len q = nI (200 + 2)
      · left
        rw [if_pos c2, if_neg (by decide), s10, some_bind, s11, some_bind]
        obtain ⟨N1, N2, w1, g1, s', k2, u1, u2, q2, c1, c2, Z2, u3, u4, u5, u6, u7, u8⟩ := due 202 1 N' (by decide) (by decide) c2 (Or.inr ⟨rfl, rfl⟩) tokN' faN' o2' o3'
        rw [show (11 : Int32) = mcd 202 by decide, w1, some_bind, g1, some_bind]
        exact ⟨s', k2, u1, u2, q2, c1, c2, Z2, u3, u4, u5, u6, u7, Or.inl u8⟩
      rw [if_neg c2, if_pos rfl, s10, some_bind, s11, some_bind]
      have n3 : tK b len q ≠ 203 := c3
      have n2 : tK b len q ≠ 202 := c2
      have lc1 : (X ++ (C ++ (stl 1 lg).1)).length = (X ++ C).length + (stl 1 lg).1.length := by simp only [List.length_append]; omega
      have bk := brk_stl (r := 1) (by decide) lg
      rcases stl_1 r4 with y | ⟨r, y⟩
      · -- nothing is open
        right
        rw [y] at bk o3' l1
        have b0 : brk lg = 0 := bk.symm
        rw [b0, if_pos (show nI 0 = 0 from rfl)]
        have l1' : (stl 1 lg).1.length + 0 = lg.length := l1.1
        refine ⟨_, rfl, Or.inr (Or.inr (Or.inl ⟨N', q, C ++ (stl 1 lg).1, rfl, ?_, tokN', o2', o3'.2.2, z2.tr faN', pq, by omega, ?_⟩))⟩
        · unfold Cend
          rw [r1]
          by_cases c59 : tK b len q = 59
          · have kn : tK b len q ≠ 0 := by rw [c59]; decide
            rw [if_pos c59]
            refine run_st h0 ql kn ?_
            rw [r2.2 kn, c59]
            unfold bhP
            rw [if_neg (by decide), if_neg (by decide), if_neg (by decide), if_pos rfl, y]
          · rw [if_neg c59]
            refine run_er h0 ql r2.1 (fun _ => rfl) (fun kn => ?_)
            rw [r2.2 kn]
            unfold bhP
            rw [if_neg n3, if_neg n2]
            by_cases c41 : tK b len q = 41
            · rw [if_pos c41, y]
            · rw [if_neg c41, if_neg c59]
        · intro z
          exact r3 (List.append_eq_nil_iff.mp z).1
      · -- a bracket is open
        rw [y] at bk o3' l1 F1
        have b1 : brk lg = brk r + 1 := by rw [← bk, brk_c, if_pos rfl, Nat.add_comm]
        have l1' : (stl 1 lg).1.length + (r.length + 1) = lg.length := l1.1
        have o1e : opn (40 :: r) = 1 + opn r := rfl
        rw [b1, if_neg (show ¬ nI (brk r + 1) = 0 from fun z => by
          have := brk_le r
          have := nI_inj (a := brk r + 1) (b := 0) (by omega) (by decide) z
          omega), msign_is tokN' (by unfold isSi; decide), some_bind]
        have Fr : FitC r t1 := by
          rcases F1 with ⟨h, -⟩ | ⟨-, q⟩ | ⟨h, -⟩ | ⟨h, -⟩
          · exact absurd h (by decide)
          · exact q
          · exact absurd h (by decide)
          · exact absurd h (by decide)
        by_cases c41 : tK b len q = 41
        · left
          have kn : tK b len q ≠ 0 := by rw [c41]; decide
          have adv := tS_adv h0 ql kn
          have o33 : rd N' 148 33 = nI (opn r + 1) := by rw [o3'.2.2, o1e, Nat.add_comm]
          have o35 : rd N' 148 35 = nI (r.length + 1) := o3'.1
          have r1' : R = run b len (7, d, (0, 0, 0), r, C ++ (stl 1 lg).1, dn) (tS b len q) := r1.trans (run_st h0 ql kn (by
            rw [r2.2 kn, c41]
            unfold bhP
            rw [if_neg (by decide), if_neg (by decide), if_pos rfl, y]))
          generalize hU : wr (wr N' 148 35 (nI r.length)) 148 33 (nI (opn r)) = U
          have ur : ∀ k j, ¬ (k = 148 ∧ (j = 33 ∨ j = 35)) → rd U k j = rd N' k j := fun k j z => by rw [← hU, wr_sp (by omega), wr_sp (by omega)]
          have pU : MP U r := ⟨by rw [← hU, wr_sp (by omega), rd_we, if_pos ⟨rfl, rfl⟩], stk_fr (fun j _ => ur _ _ (by omega)) o3'.2.1.2, by rw [← hU, rd_we, if_pos ⟨rfl, rfl⟩]⟩
          have mU : MC U (X ++ (C ++ (stl 1 lg).1)) := o2'.fr (ur _ _ (by decide)) (fun k j q => ur _ _ (by omega))
          obtain ⟨N2, p1, p2, p3, p4⟩ := msettles (fu := fu) (x := 204) hfu (Or.inl rfl) (fit_mem Fr) mU pU (by omega) (by omega)
          rw [← stl_A Fr] at p2 p3
          have fa2 : Fa N' N2 := fun k j q1 q2 q3 => by rw [p4 k j (by omega) q2, ur _ _ (by omega)]
          have tok2 : Tok b len N2 q := tokN'.fr (fun j _ _ => by rw [p4 _ _ (by omega) (by omega), ur _ _ (by omega)])
          obtain ⟨N3, g1, g2, g3⟩ := mrd hfu hl h0 ((zB.fa faN').fa fa2) tok2
          have s9 : m_X6_settles fu U 9 = some N2 := p1
          rw [if_pos c41, if_neg (by decide), o35, nI_s1, bnd_e, nI_s1, bnd_e, wr_sp (by omega), o33, nI_s1, bnd_e, hU, s9, some_bind, g1, some_bind]
          refine ⟨_, len - tS b len q, rfl, by omega, tS b len q, _, _, N3, rfl, rfl, g2, ((z2.tr faN').tr fa2).tr (Fx.of g3).fa, by omega, Or.inr ⟨rfl, by omega, r, C ++ (stl 1 lg).1, t1, (7, d, (0, 0, 0), r, C ++ (stl 1 lg).1, dn), rfl, r1', ⟨(show (7 : Nat) ≠ 0 by decide), fun _ => st7⟩, ?_, Fr, ?_, ?_, ⟨by rw [g3 _ _ (by decide)]; exact p3.1, stk_fr (fun j _ => g3 _ _ (by omega)) p3.2.1, by rw [g3 _ _ (by decide)]; exact p3.2.2⟩, by omega⟩⟩
          · intro z
            exact r3 (List.append_eq_nil_iff.mp z).1
          · have := l1.2
            rw [o1e] at this
            omega
          · have : X ++ (C ++ (stl 1 lg).1) ++ (stl 3 r).1 = X ++ (C ++ (stl 1 lg).1 ++ (stl 3 r).1) := by simp
            rw [this] at p2
            exact p2.fr (g3 _ _ (by omega)) (fun k j q => g3 _ _ (by omega))
        · right
          rw [if_neg c41, if_pos rfl]
          refine ⟨_, rfl, Or.inr (Or.inr (Or.inr ⟨N', q, rfl, ?_, tokN', z2.tr faN'⟩))⟩
          rw [r1]
          refine run_er h0 ql r2.1 (fun _ => rfl) (fun kn => ?_)
          rw [r2.2 kn]
          unfold bhP
          rw [if_neg n3, if_neg n2, if_neg c41]
          by_cases c59 : tK b len q = 59
          · rw [if_pos c59, y]
          · rw [if_neg c59]) fu (len - p) (0, 1, wr M 148 35 0) (by have := h.1; omega) ⟨p, 0, 1, _, rfl, rfl, h.fr (fun j _ _ => wr_sp (by omega)), fun k j q1 q2 q3 => wr_sp (by omega), Nat.le_refl _, Or.inl ⟨rfl, [], [], [], rfl, hR.symm, rfl, Nat.zero_le _, by rw [List.append_nil]; exact hc.fr (wr_sp (by omega)) (fun k j q => wr_sp (by omega)), ⟨by rw [rd_we, if_pos ⟨rfl, rfl⟩]; rfl, trivial, by rw [wr_sp (by omega)]; exact h33⟩, by rw [List.append_nil]; show X.length + 0 + w ≤ p; omega⟩⟩
  have pre : m_X6_readAny fu M = (some x).bind (unS (un1 fun M_67 => (m_X6_errs M_67 3).bind <| un2 fun r_69 M_70 => some (r_69, M_70)) (unS (un1 fun M_71 => some ((-1), M_71)) (unS (un1 fun M_72 => some (0, M_72)) (un1 fun M_73 => (m_X6_errs M_73 1).bind <| un2 fun r_75 M_76 => some (r_75, M_76))))) := by
    unfold m_X6_readAny
    rw [bnd_e, e]
  rw [pre, some_bind]
  rcases hp with ⟨Z, q, rfl, z1, z2, z3⟩ | ⟨Z, e1, q, rfl, z1, z2, z3, z4⟩ | ⟨Z, q, O, rfl, z1, z2, z3, z4, z5, z6, z7, z8⟩ | ⟨Z, q, rfl, z1, z2, z3⟩
  · left
    obtain ⟨N, i1, i2, i3, i4⟩ := merrs z2 3
    exact ⟨N, 3, _, by rw [unS_inl, un1_is, i1, some_bind, un2_is], z1, i2, i3, z3.tr i4.fa⟩
  · left
    exact ⟨Z, e1, q, by rw [unS_inr, unS_inl, un1_is], z1, z2, z3, z4⟩
  · right
    exact ⟨Z, q, O, by rw [unS_inr, unS_inr, unS_inl, un1_is], z1, z2, z3, z4, z5, z6, z7, z8⟩
  · left
    obtain ⟨N, i1, i2, i3, i4⟩ := merrs z2 1
    exact ⟨N, 1, _, by rw [unS_inr, unS_inr, unS_inr, un1_is, i1, some_bind, un2_is], z1, i2, i3, z3.tr i4.fa⟩
end MR4
