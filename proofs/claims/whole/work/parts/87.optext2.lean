theorem op_text {fu c : Nat} {M : Mem} (hf : 5000 ≤ fu) (h : Inv c M) (a : Int32) : ∃ r M1 M2, m_X5_text fu M a = some (r, M1) ∧ m_X6_text fu M1 a = some (r, M2) ∧ Inv (c + 1) M2 := by
  obtain ⟨n, L, h1, h2, h3, h4, h5, h6, ⟨⟨t, t1, t2, t3, t4⟩, f1, f2, wd⟩, h8⟩ := id h
  have hl : t ≤ 400 := t1
  have wle : wI c ≤ wI (c + 1) := by rw [wI_s]; omega
  generalize hb : rd M 163 = b at *
  have h0 : ∀ i, i < t → 0 ≤ b i := fun i hi => (t4 i hi).2
  generalize h7 : wr (wr (wr M 146 7 0) 146 8 0) 146 9 (-1) = M7
  have m7 : ∀ k j, ¬ (k = 146 ∧ (j = 7 ∨ j = 8 ∨ j = 9)) → rd M7 k j = rd M k j := fun k j z => by rw [← h7, wr_sp (by omega), wr_sp (by omega), wr_sp (by omega)]
  have m77 : rd M7 146 7 = 0 := by rw [← h7, wr_sp (by omega), wr_sp (by omega), rd_we, if_pos ⟨rfl, rfl⟩]
  have m78 : rd M7 146 8 = 0 := by rw [← h7, wr_sp (by omega), rd_we, if_pos ⟨rfl, rfl⟩]
  have m79 : rd M7 146 9 = -1 := by rw [← h7, rd_we, if_pos ⟨rfl, rfl⟩]
  have m7l : ∀ k j, rdl M7 k j = rdl M k j := fun k j => by rw [← h7]; rfl
  -- the model's start, from any memory that has its cells
  have start : ∀ N : Mem, (∀ k j, 148 ≤ k → rd N k j = rd M k j) → ∃ A, m_X6_reads fu (wr (wr (wr (wr (wr (wr N 148 0 0) 148 38 0) 148 39 (-1)) 148 21 0) 148 32 0) 148 33 0) = some A ∧ Tok b t A 0 ∧ Bs b t A ∧ MC A [] ∧ rd A 148 33 = 0 ∧ rd A 148 38 = 0 ∧ rd A 148 39 = -1 ∧ (∀ k j, ¬ (k = 148 ∧ (j = 0 ∨ (21 ≤ j ∧ j ≤ 24) ∨ j = 32 ∨ j = 33 ∨ j = 38 ∨ j = 39)) → rd A k j = rd N k j) ∧ ∀ k j, rdl A k j = rdl N k j := by
    intro N hN
    generalize hX : wr (wr (wr (wr (wr (wr N 148 0 0) 148 38 0) 148 39 (-1)) 148 21 0) 148 32 0) 148 33 0 = X
    have xr : ∀ k j, ¬ (k = 148 ∧ (j = 0 ∨ j = 38 ∨ j = 39 ∨ j = 21 ∨ j = 32 ∨ j = 33)) → rd X k j = rd N k j := fun k j z => by rw [← hX, wr_sp (by omega), wr_sp (by omega), wr_sp (by omega), wr_sp (by omega), wr_sp (by omega), wr_sp (by omega)]
    obtain ⟨A, a1, a2, a3, a4, a5, a6⟩ := mreads_is (fu := fu) (M := X) (b := b) (len := t) (p := 0) (by omega) (by rw [xr _ _ (by decide), hN _ _ (by decide)]; exact t3) (fun i hi => by rw [xr _ _ (by omega), hN _ _ (by decide), hb]) h0 (fun i hi => by rw [xr _ _ (by omega), hN _ _ (by decide)]; exact wd i hi) hl (by rw [← hX, wr_sp (by omega), wr_sp (by omega), rd_we, if_pos ⟨rfl, rfl⟩]; rfl) (Nat.zero_le _)
    refine ⟨A, a1, ⟨Nat.zero_le _, a2, a3, a4⟩, ⟨by rw [a5 _ _ (by decide), xr _ _ (by decide), hN _ _ (by decide)]; exact t3, fun i hi => by rw [a5 _ _ (by omega), xr _ _ (by omega), hN _ _ (by decide), hb], fun i hi => by rw [a5 _ _ (by omega), xr _ _ (by omega), hN _ _ (by decide)]; exact wd i hi⟩, ⟨by rw [a5 _ _ (by decide), ← hX, wr_sp (by omega), rd_we, if_pos ⟨rfl, rfl⟩]; rfl, fun i hi => absurd hi (Nat.not_lt_zero _)⟩, ?_, ?_, ?_, fun k j z => ?_, fun k j => ?_⟩
    · rw [a5 _ _ (by decide), ← hX, rd_we, if_pos ⟨rfl, rfl⟩]
    · rw [a5 _ _ (by decide), ← hX, wr_sp (by omega), wr_sp (by omega), wr_sp (by omega), wr_sp (by omega), rd_we, if_pos ⟨rfl, rfl⟩]
    · rw [a5 _ _ (by decide), ← hX, wr_sp (by omega), wr_sp (by omega), wr_sp (by omega), rd_we, if_pos ⟨rfl, rfl⟩]
    · rw [a5 _ _ (by omega), xr _ _ (by omega)]
    · rw [a6, ← hX]; rfl
  -- the invariant, behind it
  have inv : ∀ (M1 M2 : Mem) (L' : Nat → List Ln), (∀ k j, k < 28 ∨ (36 ≤ k ∧ k ≤ 110) ∨ (k = 146 ∧ j = 10) → rd M2 k j = rd M k j) → (∀ k j, (k = 148 ∧ ((1 ≤ j ∧ j ≤ 4) ∨ j = 51)) ∨ (149 ≤ k ∧ k ≤ 164 ∧ k ≠ 163) ∨ 172 ≤ k → rd M2 k j = rd M k j) → (∀ k j, rdl M2 k j = rdl M k j) → LawsC M2 0 L' → LawsM M2 L' → LawsOk L' → rd M2 146 7 = 0 → rd M2 148 20 = 0 → rd M2 146 8 = rd M2 148 38 → rd M2 146 9 = rd M2 148 39 → Inv (c + 1) M2 := by
    intro M1 M2 L' q1 q2 q3 q4 q5 q6 q7 q8 q9 q10
    have eC : vC 0 M2 = vC 0 M := vC_eqs (fun k j z => q1 _ _ (by omega)) (fun j => q3 _ _)
    have eM : vM M2 = vM M := vM_eqs (fun k j z => q2 _ _ (by unfold keepW at z; omega))
    refine ⟨n, L', by rw [eM, eC, h1], by rw [eC]; exact h2.mono wle (Int.le_refl _), by rw [eC]; exact PB_eq (fun j => q3 _ _) h3, q4, q5, q6, ⟨⟨0, by decide, q7, q8, fun i hi => absurd hi (Nat.not_lt_zero _)⟩, q9, q10, fun i hi => by rw [q2 _ _ (by omega)]; exact wd i hi⟩, ?_⟩
    have g := Img_eq (W := wI c) (M := M) (M' := M2) (fun k j z => by
      unfold keepG at z
      rcases z with z | z | z | z | z | z | z
      · exact q1 _ _ (by omega)
      · exact q1 _ _ (by omega)
      · exact q1 _ _ (by omega)
      · exact q1 _ _ (by omega)
      · exact q2 _ _ (by omega)
      · exact q2 _ _ (by omega)
      · exact q2 _ _ (by omega)) (fun k j _ => q3 _ _) h8
    rcases g with g | ⟨g1, g2, n2, L2, g3, g4, g5⟩
    · exact Or.inl g
    · exact Or.inr ⟨g1, g2, n2, L2, g3, g4.mono wle (Int.le_refl _), g5⟩
  by_cases hk : ¬ a < 0 ∧ ¬ 3 < a
  · obtain ⟨k, k4, rfl⟩ := arg_nI (a := a) (n := 4) hk.1 (by have e : nI 4 = 4 := rfl; grind) (by decide)
    have cls : m_X5_text fu M (nI k) = (m_X3_accepts fu 147 M7 (nI t)).bind (un2 fun r_12 M_13 => if r_12 = 0 then (bnd (wr M_13 146 8 (rd M_13 111 3)) fun M_18 => bnd (wr M_18 146 9 (rd M_18 111 4)) fun M_20 => some ((-1), M_20)) else (chk (inb (nI k) 4) <| (m_X2_take (0 + 28 + ix (nI k)) 112 M_13 (rd M_13 111 1)).bind fun M_17 => some (rd M_17 111 2, M_17))) := by
      unfold m_X5_text
      rw [t2, bnd_e, bnd_e, bnd_e, bnd_e, h7, if_neg hk.1, if_pos (show nI k < 4 from nI_lt (b := 4) k4 (by decide))]
    have mdl : ∀ N A : Mem, m_X6_reads fu (wr (wr (wr (wr (wr (wr N 148 0 0) 148 38 0) 148 39 (-1)) 148 21 0) 148 32 0) 148 33 0) = some A → m_X6_text fu N (nI k) = (m_X6_readLaw fu A).bind (un2 fun r_57 M_58 => j_X6_text_54 fu M_58 (nI k) 1 r_57) := by
      intro N A hA
      unfold m_X6_text
      rw [bnd_e, bnd_e, bnd_e, isIn_is, some_bind, bnd_e, bnd_e, bnd_e, hA, some_bind, tf_t hk, if_neg (by decide)]
    rcases caccepts (fu := fu) (M := M7) (b := b) (by omega) hl (fun i hi => by rw [m7 _ _ (by omega)]; exact (t4 i hi).1) h0 with ⟨e, q, N, r1, r2, r3, r4⟩ | ⟨dn, N, r1, r2, r3, r4, r5, r6, r7⟩
    · have fr := fr_m_X3_accepts r2
      have nr : ∀ k j, ¬ (111 ≤ k ∧ k ≤ 114) → rd N k j = rd M7 k j := fun k j z => fr.1 _ _ (by unfold w_X3_accepts; omega)
      have nl : ∀ k j, rdl N k j = rdl M k j := fun k j => (fr.2 _ _ (fun z => z.elim)).trans (m7l k j)
      generalize hN2 : wr (wr N 146 8 e) 146 9 (nI q) = N2
      have n2r : ∀ k j, ¬ (k = 146 ∧ (j = 8 ∨ j = 9)) → rd N2 k j = rd N k j := fun k j z => by rw [← hN2, wr_sp (by omega), wr_sp (by omega)]
      have n2a : rd N2 146 8 = e := by rw [← hN2, wr_sp (by omega), rd_we, if_pos ⟨rfl, rfl⟩]
      have n2b : rd N2 146 9 = nI q := by rw [← hN2, rd_we, if_pos ⟨rfl, rfl⟩]
      have nall : ∀ k j, ¬ (111 ≤ k ∧ k ≤ 114) → ¬ (k = 146 ∧ (j = 7 ∨ j = 8 ∨ j = 9)) → rd N2 k j = rd M k j := fun k j z1 z2 => by rw [n2r _ _ (by omega), nr _ _ z1, m7 _ _ z2]
      have e1 : m_X5_text fu M (nI k) = some (-1, N2) := by
        rw [cls, r2, some_bind, un2_is, if_pos rfl, r3, bnd_e, wr_sp (by omega), r4, bnd_e, hN2]
      obtain ⟨A, a1, a2, a3, a4, a5, a6, a7, a8, a9⟩ := start N2 (fun k j z => nall _ _ (by omega) (by omega))
      rcases mlaw (fu := fu) (M := A) (d0 := 0) (by omega) hl h0 a3 a2 a4 a5 with ⟨B, e', q', b1, b2, b3, b4, b5⟩ | ⟨B, dn, b1, b2, -⟩
      · have : (Sum.inl (e, q) : Res) = Sum.inl (e', q') := r1.symm.trans b2
        have ee : e = e' := congrArg Prod.fst (Sum.inl.inj this)
        have qe : q = q' := congrArg Prod.snd (Sum.inl.inj this)
        subst ee; subst qe
        have e2 : m_X6_text fu N2 (nI k) = some (-1, wr (wr (wr B 148 20 0) 148 38 e) 148 39 (nI q)) := by
          rw [mdl N2 A a1, b1, some_bind, un2_is]
          unfold j_X6_text_54 j_X6_text_85
          rw [bnd_e, if_neg (by decide), if_pos rfl, wr_sp (by omega), b3, bnd_e, wr_sp (by omega), wr_sp (by omega), b4, bnd_e, if_pos rfl]
        refine ⟨-1, N2, _, e1, e2, ?_⟩
        have gr : ∀ k j, ¬ (k = 148 ∧ (j = 20 ∨ j = 38 ∨ j = 39)) → ¬ (k = 148 ∧ ((21 ≤ j ∧ j ≤ 24) ∨ j = 32 ∨ j = 33 ∨ (35 ≤ j ∧ j ≤ 37) ∨ j = 0)) → ¬ ((k = 169 ∨ k = 170) ∧ 1600 ≤ j) → ¬ ((166 ≤ k ∧ k ≤ 168) ∧ 64 ≤ j) → k ≠ 171 → rd (wr (wr (wr B 148 20 0) 148 38 e) 148 39 (nI q)) k j = rd N2 k j := fun k j z1 z2 z3 z4 z5 => by
          rw [wr_sp (by omega), wr_sp (by omega), wr_sp (by omega), b5 _ _ (by omega) z3 z4 z5, a8 _ _ (by omega)]
        have g2 := fr_m_X6_text e2
        refine inv N2 _ L (fun k j z => ?_) (fun k j z => ?_) (fun k j => ?_) ?_ ?_ h6 ?_ ?_ ?_ ?_
        · rw [gr _ _ (by omega) (by omega) (by omega) (by omega) (by omega), nall _ _ (by omega) (by omega)]
        · rw [gr _ _ (by omega) (by omega) (by omega) (by omega) (by omega), nall _ _ (by omega) (by omega)]
        · rw [g2.2 _ _ (fun z => z.elim), ← hN2]; exact nl k j
        · exact LawsC_eq (fun k j z1 z2 => by rw [gr _ _ (by omega) (by omega) (by omega) (by omega) (by omega), nall _ _ (by omega) (by omega)]) h4
        · intro i hi
          refine (h5 i hi).cong ?_ (fun l hl => ⟨?_, ?_, ?_⟩) (fun j hj => ⟨?_, ?_⟩)
          all_goals rw [gr _ _ (by omega) (by omega) (by omega) (by omega) (by omega), nall _ _ (by omega) (by omega)]
        · rw [gr _ _ (by omega) (by omega) (by omega) (by omega) (by omega), n2r _ _ (by omega), nr _ _ (by omega), m77]
        · rw [wr_sp (by omega), wr_sp (by omega), rd_we, if_pos ⟨rfl, rfl⟩]
        · rw [gr _ _ (by omega) (by omega) (by omega) (by omega) (by omega), n2a, wr_sp (by omega), rd_we, if_pos ⟨rfl, rfl⟩]
        · rw [gr _ _ (by omega) (by omega) (by omega) (by omega) (by omega), n2b, rd_we, if_pos ⟨rfl, rfl⟩]
      · have : (Sum.inl (e, q) : Res) = Sum.inr dn := r1.symm.trans b2
        exact absurd this (by intro z; cases z)
    · have fr := fr_m_X3_accepts r2
      have nr : ∀ k j, ¬ (111 ≤ k ∧ k ≤ 114) → rd N k j = rd M7 k j := fun k j z => fr.1 _ _ (by unfold w_X3_accepts; omega)
      have nl : ∀ k j, rdl N k j = rdl M k j := fun k j => (fr.2 _ _ (fun z => z.elim)).trans (m7l k j)
      have dlen : (encL dn).length ≤ 400 := by omega
      generalize hN2 : wr (cpM N 112 0 (0 + 28 + k + 4) 0 (nI (encL dn).length)) (0 + 28 + k) 1 (nI (encL dn).length) = N2
      have n2r : ∀ c j, ¬ (c = 28 + k ∧ j = 1) → c ≠ 32 + k → rd N2 c j = rd N c j := fun c j z1 z2 => by rw [← hN2, wr_sp (by omega), rd_cp, if_neg (by omega)]
      have n2l : rd N2 (28 + k) 1 = nI (encL dn).length := by rw [← hN2, rd_we, if_pos ⟨by omega, rfl⟩]
      have n2c : ∀ i, i < (encL dn).length → rd N2 (32 + k) i = (encL dn).getD i 0 := fun i hi => by
        rw [← hN2, wr_sp (by omega), rd_cp, ix_nI (by omega), if_pos ⟨by omega, hi⟩]; exact r4.2 i hi
      have nall : ∀ c j, ¬ (111 ≤ c ∧ c ≤ 114) → ¬ (c = 146 ∧ (j = 7 ∨ j = 8 ∨ j = 9)) → ¬ (c = 28 + k ∧ j = 1) → c ≠ 32 + k → rd N2 c j = rd M c j := fun c j z1 z2 z3 z4 => by rw [n2r _ _ z3 z4, nr _ _ z1, m7 _ _ z2]
      have e1 : m_X5_text fu M (nI k) = some (nI dn.length, N2) := by
        rw [cls, r2, some_bind, un2_is, if_neg (by decide), chk_is (inb_nI k4 (by decide)), ix_nI (by omega), r4.1, ctake_is dlen, some_bind, hN2, n2r _ _ (by omega) (by omega), r3]
      obtain ⟨A, a1, a2, a3, a4, a5, a6, a7, a8, a9⟩ := start N2 (fun c j z => nall _ _ (by omega) (by omega) (by omega) (by omega))
      rcases mlaw (fu := fu) (M := A) (d0 := 0) (by omega) hl h0 a3 a2 a4 a5 with ⟨B, e', q', b1, b2, -⟩ | ⟨B, dn', b1, b2, b3, b4, b5, b6, b7⟩
      · have : (Sum.inr dn : Res) = Sum.inl (e', q') := r1.symm.trans b2
        exact absurd this (by intro z; cases z)
      · have : (Sum.inr dn : Res) = Sum.inr dn' := r1.symm.trans b2
        have de := Sum.inr.inj this
        subst de
        have nn1 : nI dn.length ≠ -1 := nI_n1 (by omega)
        obtain ⟨C, c1, c2, c3, c4⟩ := cpl_is (fu := fu) (k := k) (n := dn.length) (M := wr B 148 20 0) (by omega) k4 r6
        have c32 : rd C 148 32 = nI (flt dn).length := by rw [c3 _ _ (by omega), wr_sp (by omega)]; exact b3.1
        obtain ⟨D, d1, d2, d3, d4⟩ := cpo_is (fu := fu) (k := k) (s3 := nI dn.length) (by omega) k4 b7 c32
        have e2 : m_X6_text fu N2 (nI k) = some (nI dn.length, wr D 165 k (nI dn.length)) := by
          rw [mdl N2 A a1, b1, some_bind, un2_is]
          unfold j_X6_text_54 j_X6_text_85
          rw [bnd_e, if_neg (by decide), if_neg nn1, if_neg nn1, c1, some_bind, un1_is, d1, some_bind, un1_is, chk_is (inb_nI (by omega) (by decide)), ix_nI (by omega), bnd_e]
        refine ⟨nI dn.length, N2, _, e1, e2, ?_⟩
        have g2 := fr_m_X6_text e2
        have gr : ∀ c j, ¬ (c = 148 ∧ (j = 20 ∨ j = 38 ∨ j = 39)) → ¬ (c = 148 ∧ ((21 ≤ j ∧ j ≤ 24) ∨ j = 32 ∨ j = 33 ∨ (35 ≤ j ∧ j ≤ 37) ∨ j = 0)) → ¬ ((c = 169 ∨ c = 170) ∧ (1600 ≤ j ∨ (400 * k ≤ j ∧ j < 400 * k + 400))) → ¬ ((166 ≤ c ∧ c ≤ 168) ∧ (64 ≤ j ∨ (16 * k ≤ j ∧ j < 16 * k + 16))) → c ≠ 171 → ¬ (c = 165 ∧ j = k) → rd (wr D 165 k (nI dn.length)) c j = rd N2 c j := fun c j z1 z2 z3 z4 z5 z6 => by
          rw [wr_sp z6, d3 _ _ (by omega), c3 _ _ (by omega), wr_sp (by omega), b5 _ _ (by omega) (by omega) (by omega) z5, a8 _ _ (by omega)]
        refine inv N2 _ (fun i => if i = k then dn else L i) (fun c j z => ?_) (fun c j z => ?_) (fun c j => ?_) ?_ ?_ ?_ ?_ ?_ ?_ ?_
        · rw [gr _ _ (by omega) (by omega) (by omega) (by omega) (by omega) (by omega), nall _ _ (by omega) (by omega) (by omega) (by omega)]
        · rw [gr _ _ (by omega) (by omega) (by omega) (by omega) (by omega) (by omega), nall _ _ (by omega) (by omega) (by omega) (by omega)]
        · rw [g2.2 _ _ (fun z => z.elim), ← hN2]; exact nl c j
        · intro i hi
          by_cases y : i = k
          · subst y
            show LawC _ _ (if i = i then dn else L i)
            rw [if_pos rfl]
            refine ⟨?_, dlen, fun j hj => ?_⟩
            · rw [gr _ _ (by omega) (by omega) (by omega) (by omega) (by omega) (by omega), show 0 + 28 + i = 28 + i by omega]; exact n2l
            · rw [gr _ _ (by omega) (by omega) (by omega) (by omega) (by omega) (by omega), show 0 + 32 + i = 32 + i by omega]; exact n2c j hj
          · show LawC _ _ (if i = k then dn else L i)
            rw [if_neg y]
            obtain ⟨u1, u2, u3⟩ := h4 i hi
            refine ⟨?_, u2, fun j hj => ?_⟩
            · rw [gr _ _ (by omega) (by omega) (by omega) (by omega) (by omega) (by omega), nall _ _ (by omega) (by omega) (by omega) (by omega)]; exact u1
            · rw [gr _ _ (by omega) (by omega) (by omega) (by omega) (by omega) (by omega), nall _ _ (by omega) (by omega) (by omega) (by omega)]; exact u3 j hj
        · intro i hi
          by_cases y : i = k
          · subst y
            show LawM _ _ _ _ _ _ (if i = i then dn else L i)
            rw [if_pos rfl]
            have lr : ∀ c l, 166 ≤ c → c ≤ 168 → l < dn.length → rd (wr D 165 i (nI dn.length)) c (16 * i + l) = rd B c (64 + l) := fun c l y1 y2 y3 => by
              rw [wr_sp (by omega), d3 _ _ (by omega), c2 c l y1 y2 y3, wr_sp (by omega)]
            have or' : ∀ c j, 169 ≤ c → c ≤ 170 → j < (flt dn).length → rd (wr D 165 i (nI dn.length)) c (400 * i + j) = rd B c (1600 + j) := fun c j y1 y2 y3 => by
              rw [wr_sp (by omega), d2 c j y1 y2 y3, c3 _ _ (by omega), wr_sp (by omega)]
            refine ⟨by rw [rd_we, if_pos ⟨rfl, rfl⟩], r6, fun l hl => ?_⟩
            have p1 := pre_le hl
            obtain ⟨s1, s2, s3⟩ := b4 l hl
            refine ⟨(lr 166 l (by decide) (by decide) hl).trans s1, pre dn l, by omega, (lr 167 l (by decide) (by decide) hl).trans s2, (lr 168 l (by decide) (by decide) hl).trans s3, fun j hj => ?_⟩
            have pj := pre_at hl hj
            have mc := b3.2 (pre dn l + j) (by omega)
            rw [pj] at mc
            exact ⟨(or' 169 _ (by decide) (by decide) (by omega)).trans mc.1, (or' 170 _ (by decide) (by decide) (by omega)).trans mc.2⟩
          · show LawM _ _ _ _ _ _ (if i = k then dn else L i)
            rw [if_neg y]
            refine (h5 i hi).cong ?_ (fun l hl => ⟨?_, ?_, ?_⟩) (fun j hj => ⟨?_, ?_⟩)
            all_goals rw [gr _ _ (by omega) (by omega) (by omega) (by omega) (by omega) (by omega), nall _ _ (by omega) (by omega) (by omega) (by omega)]
        · intro i hi l hl
          have hl' : l ∈ (if i = k then dn else L i) := hl
          by_cases y : i = k
          · rw [if_pos y] at hl'; exact r5 l hl'
          · rw [if_neg y] at hl'; exact h6 i hi l hl'
        · rw [gr _ _ (by omega) (by omega) (by omega) (by omega) (by omega) (by omega), n2r _ _ (by omega) (by omega), nr _ _ (by omega), m77]
        · rw [wr_sp (by omega), d3 _ _ (by omega), c3 _ _ (by omega), rd_we, if_pos ⟨rfl, rfl⟩]
        · rw [gr _ _ (by omega) (by omega) (by omega) (by omega) (by omega) (by omega), n2r _ _ (by omega) (by omega), nr _ _ (by omega), m78, wr_sp (by omega), d3 _ _ (by omega), c3 _ _ (by omega), wr_sp (by omega), b5 _ _ (by omega) (by omega) (by omega) (by omega), a6]
        · rw [gr _ _ (by omega) (by omega) (by omega) (by omega) (by omega) (by omega), n2r _ _ (by omega) (by omega), nr _ _ (by omega), m79, wr_sp (by omega), d3 _ _ (by omega), c3 _ _ (by omega), wr_sp (by omega), b5 _ _ (by omega) (by omega) (by omega) (by omega), a7]
  · obtain ⟨A, a1, a2, a3, a4, a5, a6, a7, a8, a9⟩ := start M7 (fun k j z => m7 _ _ (by omega))
    have e1 : m_X5_text fu M a = some (-1, M7) := by
      unfold m_X5_text
      rw [t2, bnd_e, bnd_e, bnd_e, bnd_e, h7]
      by_cases q : a < 0
      · rw [if_pos q]
      · rw [if_neg q, if_neg (by grind)]
    have e2 : m_X6_text fu M7 a = some (-1, wr A 148 20 0) := by
      unfold m_X6_text
      rw [bnd_e, bnd_e, bnd_e, isIn_is, some_bind, bnd_e, bnd_e, bnd_e, a1, some_bind, tf_f hk, if_pos rfl]
      unfold j_X6_text_54 j_X6_text_85
      rw [bnd_e, if_pos rfl, if_pos rfl]
    refine ⟨-1, M7, _, e1, e2, ?_⟩
    have gr : ∀ k j, ¬ (k = 148 ∧ (j = 0 ∨ (20 ≤ j ∧ j ≤ 24) ∨ j = 32 ∨ j = 33 ∨ j = 38 ∨ j = 39)) → rd (wr A 148 20 0) k j = rd M7 k j := fun k j z => by rw [wr_sp (by omega), a8 _ _ (by omega)]
    refine inv M7 _ L (fun k j z => ?_) (fun k j z => ?_) (fun k j => ?_) ?_ ?_ h6 ?_ ?_ ?_ ?_
    · rw [gr _ _ (by omega), m7 _ _ (by omega)]
    · rw [gr _ _ (by omega), m7 _ _ (by omega)]
    · rw [rdl_wr, a9]; exact m7l k j
    · exact LawsC_eq (fun k j z1 z2 => by rw [gr _ _ (by omega), m7 _ _ (by omega)]) h4
    · exact LawsM_eq (fun k j z1 z2 => by rw [gr _ _ (by omega), m7 _ _ (by omega)]) h5
    · rw [gr _ _ (by omega), m77]
    · rw [rd_we, if_pos ⟨rfl, rfl⟩]
    · rw [gr _ _ (by omega), m78, wr_sp (by omega), a6]
    · rw [gr _ _ (by omega), m79, wr_sp (by omega), a7]
