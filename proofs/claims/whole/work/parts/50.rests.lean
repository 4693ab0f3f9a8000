/-! ===== rests ===== -/
noncomputable def bestS (V : Vw) (n k f : Nat) : Int32 := (bst (fun d => meanS V n f (nI (digN n k (lfN n f))) d (nI (digN n k (rtN n f))))).2
def allN (p : Nat → Bool) : Nat → Bool
  | 0 => true
  | n + 1 => allN p n && p n
noncomputable def restB (V : Vw) (n k : Nat) : Bool := allN (fun f => decide (bestS V n k f ≤ rowS V n k f)) n
theorem allN_f {p : Nat → Bool} : ∀ {n i : Nat}, i < n → p i = false → allN p n = false
  | 0, _, h, _ => absurd h (Nat.not_lt_zero _)
  | n + 1, i, h, e => by
    unfold allN
    by_cases q : i = n
    · subst q; rw [e, Bool.and_false]
    · rw [allN_f (n := n) (by omega) e, Bool.false_and]
theorem nI4 : ∀ i : Nat, i < 16 → nI i / 4 = nI (i / 4) ∧ irem (nI i) 4 = nI (i % 4) := by decide +kernel
section FILL
variable {fu R n f : Nat} {M : Mem} {V : Vw} {W N : Int}
theorem cfill_in (hfu : 20 ≤ fu) (hV : vC R M = V) (hR : R ≤ 74) (h : Vok V n W N) (h6 : n ≤ 6) (hf : f < n) {i : Nat} (hi : i < 16) (m : Int32 → Int32) (hm : m = fun d => meanS V n f (nI (i / 4)) d (nI (i % 4))) :
    lp (b_X0_fillMeans_24 fu R (nI f) (nI i)) fu (0, 0, M) = some ((bst m).2, wr (wr (wr (wr M (118 + f) (4 * i) (m 0)) (118 + f) (4 * i + 1) (m 1)) (118 + f) (4 * i + 2) (m 2)) (118 + f) (4 * i + 3) (m 3)) := by
  have v : ∀ (M1 : Mem) (d : Int32), vC R M1 = V → m_X0_mean R M1 (nI f) (nI i / 4) d (irem (nI i) 4) = some (m d) := by
    intro M1 d e
    rw [(nI4 i hi).1, (nI4 i hi).2, cmean_is e h.1.1 h.1.2.2 h.1.2.1 hf h.heavy, hm]
  have kp : ∀ (M1 : Mem) (j : Nat) (x : Int32), vC R M1 = V → vC R (wr M1 (118 + f) j x) = V := fun M1 j x e => by rw [w_out (by omega)]; exact e
  have hb := inb_nI (show f < 6 by omega) (by decide : 6 ≤ 2 ^ 31)
  have hx := ix_nI (show f < 2 ^ 31 by omega)
  have g : ∀ o : Nat, o < 4 → inb ((4 * nI i) + nI o) 64 = true ∧ ix ((4 * nI i) + nI o) = 4 * i + o := by
    intro o ho
    have e : (4 * nI i) + nI o = nI (4 * i + o) := by rw [show (4 : Int32) = nI 4 from rfl, pk_mul, nI_add]
    rw [e]
    exact ⟨inb_nI (by omega) (by decide), ix_nI (by omega)⟩
  have g0 := g 0 (by decide)
  have g1 := g 1 (by decide)
  have g2 := g 2 (by decide)
  have g3 := g 3 (by decide)
  rw [nI3.1] at g0
  rw [nI3.2.1] at g1
  rw [nI3.2.2.1] at g2
  rw [nI3.2.2.2] at g3
  have e0 := kp M (4 * i) (m 0) hV
  have e1 := kp _ (4 * i + 1) (m 1) e0
  have e2 := kp _ (4 * i + 2) (m 2) e1
  have v0 := v M 0 hV
  have v1 := v _ 1 e0
  have v2 := v _ 2 e1
  have v3 := v _ 3 e2
  obtain ⟨fu, rfl⟩ : ∃ k, fu = k + 1 + 1 + 1 + 1 + 1 := ⟨fu - 5, by omega⟩
  clear v hm kp g
  unfold bst
  dsimp only
  rw [lp_inl (s' := (m 0, (1 : Int32), wr M (118 + f) (4 * i) (m 0))) (by
    simp only [b_X0_fillMeans_24, un3_is, v0, some_bind, hb, hx, g0.1, g0.2, chk_t, bnd_is]; rfl)]
  rw [lp_inl (s' := ((if m 0 < m 1 then ((1 : Int32), m 1) else (0, m 0)).2, (2 : Int32), wr (wr M (118 + f) (4 * i) (m 0)) (118 + f) (4 * i + 1) (m 1))) (by
    simp only [b_X0_fillMeans_24, un3_is, v1, some_bind, hb, hx, g1.1, g1.2, chk_t, bnd_is]
    rw [if_neg (by decide), if_neg (by decide)]
    split <;> rfl)]
  generalize (if m 0 < m 1 then ((1 : Int32), m 1) else (0, m 0)) = b1
  rw [lp_inl (s' := ((if b1.2 < m 2 then ((2 : Int32), m 2) else b1).2, (3 : Int32), wr (wr (wr M (118 + f) (4 * i) (m 0)) (118 + f) (4 * i + 1) (m 1)) (118 + f) (4 * i + 2) (m 2))) (by
    simp only [b_X0_fillMeans_24, un3_is, v2, some_bind, hb, hx, g2.1, g2.2, chk_t, bnd_is]
    rw [if_neg (by decide), if_neg (by decide)]
    split <;> rfl)]
  generalize (if b1.2 < m 2 then ((2 : Int32), m 2) else b1) = b2
  rw [lp_inl (s' := ((if b2.2 < m 3 then ((3 : Int32), m 3) else b2).2, (4 : Int32), wr (wr (wr (wr M (118 + f) (4 * i) (m 0)) (118 + f) (4 * i + 1) (m 1)) (118 + f) (4 * i + 2) (m 2)) (118 + f) (4 * i + 3) (m 3))) (by
    simp only [b_X0_fillMeans_24, un3_is, v3, some_bind, hb, hx, g3.1, g3.2, chk_t, bnd_is]
    rw [if_neg (by decide), if_neg (by decide)]
    split <;> rfl)]
  rw [lp_inr (x := ((if b2.2 < m 3 then ((3 : Int32), m 3) else b2).2, wr (wr (wr (wr M (118 + f) (4 * i) (m 0)) (118 + f) (4 * i + 1) (m 1)) (118 + f) (4 * i + 2) (m 2)) (118 + f) (4 * i + 3) (m 3))) (by simp only [b_X0_fillMeans_24, un3_is]; rfl)]
/-- the row of farm f is filled up to i -/
def Fld (V : Vw) (n f i : Nat) (M : Mem) : Prop := ∀ i', i' < i → (∀ o, o < 4 → rd M (118 + f) (4 * i' + o) = meanS V n f (nI (i' / 4)) (nI o) (nI (i' % 4))) ∧ rd M (124 + f) i' = (bst (fun d => meanS V n f (nI (i' / 4)) d (nI (i' % 4)))).2
theorem cfill_mid (hfu : 20 ≤ fu) (hV : vC R M = V) (hR : R ≤ 74) (h : Vok V n W N) (h6 : n ≤ 6) (hf : f < n) : ∃ M', lp (b_X0_fillMeans_12 fu R (nI f)) fu (0, M) = some M' ∧ Fld V n f 16 M' ∧ vC R M' = V ∧ ∀ k j, k ≠ 118 + f → k ≠ 124 + f → rd M' k j = rd M k j := by
  have hb := inb_nI (show f < 6 by omega) (by decide : 6 ≤ 2 ^ 31)
  have hx := ix_nI (show f < 2 ^ 31 by omega)
  exact lp_up (body := b_X0_fillMeans_12 fu R (nI f)) 16 (fun i s => s.1 = nI i ∧ Fld V n f i s.2 ∧ vC R s.2 = V ∧ ∀ k j, k ≠ 118 + f → k ≠ 124 + f → rd s.2 k j = rd M k j) (fun M' => Fld V n f 16 M' ∧ vC R M' = V ∧ ∀ k j, k ≠ 118 + f → k ≠ 124 + f → rd M' k j = rd M k j)
    (fun i s hi hs => by
      obtain ⟨s1, s2⟩ := s
      obtain ⟨e1, e2, e3, e4⟩ := hs
      dsimp only at e1 e2 e3 e4
      subst e1
      left
      obtain ⟨m, hm⟩ : ∃ m : Int32 → Int32, m = fun d => meanS V n f (nI (i / 4)) d (nI (i % 4)) := ⟨_, rfl⟩
      have q := cfill_in hfu e3 hR h h6 hf hi m hm
      simp only [b_X0_fillMeans_12, un2_is, if_neg (show ¬ (16 : Int32) ≤ nI i from nI_ge (b := 16) hi (by decide)), q, some_bind, hb, hx, chk_t, bnd_is, inb_nI hi (by decide), ix_nI (show i < 2 ^ 31 by omega), nI_1]
      refine ⟨_, rfl, rfl, ?_, ?_, ?_⟩
      · intro i' hi'
        by_cases z : i' = i
        · subst z
          refine ⟨fun o ho => ?_, ?_⟩
          · simp only [rd_wr, if_neg (show ¬ (118 + f = 124 + f ∧ 4 * i' + o = i') by omega)]
            have hmo : meanS V n f (nI (i' / 4)) (nI o) (nI (i' % 4)) = m (nI o) := by rw [hm]
            rw [hmo]
            rcases (by omega : o = 0 ∨ o = 1 ∨ o = 2 ∨ o = 3) with rfl | rfl | rfl | rfl
            all_goals simp [nI3.1, nI3.2.1, nI3.2.2.1, nI3.2.2.2]
          · rw [rd_wr, if_pos ⟨rfl, rfl⟩, hm]
        · have g := e2 i' (by omega)
          refine ⟨fun o ho => ?_, ?_⟩
          · rw [rd_wr, if_neg (by omega), rd_wr, if_neg (by omega), rd_wr, if_neg (by omega), rd_wr, if_neg (by omega), rd_wr, if_neg (by omega)]; exact g.1 o ho
          · rw [rd_wr, if_neg (by omega), rd_wr, if_neg (by omega), rd_wr, if_neg (by omega), rd_wr, if_neg (by omega), rd_wr, if_neg (by omega)]; exact g.2
      · show vC R (wr (wr (wr (wr (wr s2 (118 + f) (4 * i) (m 0)) (118 + f) (4 * i + 1) (m 1)) (118 + f) (4 * i + 2) (m 2)) (118 + f) (4 * i + 3) (m 3)) (124 + f) i (bst m).2) = V
        rw [w_out (by omega), w_out (by omega), w_out (by omega), w_out (by omega), w_out (by omega)]; exact e3
      · intro k j k1 k2
        rw [← e4 k j k1 k2]
        simp only [rd_wr, if_neg (fun z : k = 124 + f ∧ j = i => k2 z.1), if_neg (fun z : k = 118 + f ∧ j = 4 * i + 3 => k1 z.1), if_neg (fun z : k = 118 + f ∧ j = 4 * i + 2 => k1 z.1), if_neg (fun z : k = 118 + f ∧ j = 4 * i + 1 => k1 z.1), if_neg (fun z : k = 118 + f ∧ j = 4 * i => k1 z.1)])
    (fun s hs => by
      obtain ⟨s1, s2⟩ := s
      obtain ⟨e1, e2⟩ := hs
      dsimp only at e1 e2
      subst e1
      exact ⟨s2, by simp only [b_X0_fillMeans_12, un2_is]; rw [if_pos (show (16 : Int32) ≤ nI 16 from by decide)], e2⟩)
    fu 0 (0, M) (by omega) (by omega) ⟨rfl, fun i' hi' => absurd hi' (Nat.not_lt_zero _), hV, fun _ _ _ _ => rfl⟩
theorem cfill_is (hfu : 20 ≤ fu) (hV : vC R M = V) (hR : R ≤ 74) (h : Vok V n W N) (h6 : n ≤ 6) : ∃ M', m_X0_fillMeans fu R M = some M' ∧ (∀ f, f < n → Fld V n f 16 M') ∧ vC R M' = V := by
  obtain ⟨M', e1, e2⟩ := lp_up (body := b_X0_fillMeans_2 fu R) n (fun i s => s.1 = nI i ∧ (∀ f, f < i → Fld V n f 16 s.2) ∧ vC R s.2 = V) (fun M' => (∀ f, f < n → Fld V n f 16 M') ∧ vC R M' = V)
    (fun i s hi hs => by
      obtain ⟨s1, s2⟩ := s
      obtain ⟨e1, e2, e3⟩ := hs
      dsimp only at e1 e2 e3
      subst e1
      left
      obtain ⟨M', q1, q2, q3, q4⟩ := cfill_mid hfu e3 hR h h6 hi
      simp only [b_X0_fillMeans_2, un2_is, (c_n e3).trans h.1.1, if_neg (nI_ge hi (by omega : n < 2 ^ 31)), q1, some_bind, un1_is, bnd_is, nI_1]
      refine ⟨_, rfl, rfl, fun f hf => ?_, q3⟩
      by_cases z : f = i
      · subst z; exact q2
      · intro i' hi'
        have g := e2 f (by omega) i' hi'
        refine ⟨fun o ho => ?_, ?_⟩
        · show rd M' _ _ = _
          rw [q4 _ _ (by omega) (by omega)]; exact g.1 o ho
        · show rd M' _ _ = _
          rw [q4 _ _ (by omega) (by omega)]; exact g.2)
    (fun s hs => by
      obtain ⟨s1, s2⟩ := s
      obtain ⟨e1, e2, e3⟩ := hs
      dsimp only at e1 e2 e3
      subst e1
      exact ⟨s2, by simp only [b_X0_fillMeans_2, un2_is, (c_n e3).trans h.1.1]; rw [if_pos (nI_le (Nat.le_refl _) (by omega))], e2, e3⟩)
    fu 0 (0, M) (by omega) (by omega) ⟨rfl, fun f hf => absurd hf (Nat.not_lt_zero _), hV⟩
  exact ⟨M', by unfold m_X0_fillMeans; rw [e1]; rfl, e2⟩
end FILL
section CREST
variable {fu R n k : Nat} {M : Mem} {V : Vw} {W N : Int}
theorem dig_lt (n k f : Nat) : digN n k f < 4 := Nat.mod_lt _ (by decide)
theorem caround_is (hn : rd M R 0 = nI n) (h10 : n ≤ 10) {f : Nat} (hf : f < n) (hk : k < 2 ^ 31) : m_X0_around R M (nI k) (nI f) = some (nI (4 * digN n k (lfN n f) + digN n k (rtN n f))) := by
  unfold m_X0_around
  rw [cleft_is hn hf h10, some_bind, cdigit_is hn h10 (lfN_lt hf) hk, some_bind, cright_is hn hf h10, some_bind, cdigit_is hn h10 (rtN_lt hf) hk, some_bind, show (4 : Int32) = nI 4 from rfl, pk_mul, nI_add]
theorem fld_get (hF : ∀ f, f < n → Fld V n f 16 M) {f : Nat} (hf : f < n) : rd M (118 + f) (4 * (4 * digN n k (lfN n f) + digN n k (rtN n f)) + digN n k f) = rowS V n k f ∧ rd M (124 + f) (4 * digN n k (lfN n f) + digN n k (rtN n f)) = bestS V n k f := by
  have d1 := dig_lt n k (lfN n f)
  have d2 := dig_lt n k (rtN n f)
  have g := hF f hf (4 * digN n k (lfN n f) + digN n k (rtN n f)) (by omega)
  have e1 : (4 * digN n k (lfN n f) + digN n k (rtN n f)) / 4 = digN n k (lfN n f) := by omega
  have e2 : (4 * digN n k (lfN n f) + digN n k (rtN n f)) % 4 = digN n k (rtN n f) := by omega
  rw [e1, e2] at g
  exact ⟨g.1 _ (dig_lt n k f), g.2⟩
theorem cnobody_is (hfu : 20 ≤ fu) (hn : rd M R 0 = nI n) (h6 : n ≤ 6) (hF : ∀ f, f < n → Fld V n f 16 M) (hk : k < 2 ^ 31) : m_X0_nobodyWouldRather fu R M (nI k) = some (if restB V n k = true then 1 else 0) := by
  have body : ∀ i, i < n → b_X0_nobodyWouldRather_2 fu R M (nI k) (nI i) = some (if bestS V n k i ≤ rowS V n k i then .inl (nI (i + 1)) else .inr (.inl ())) := by
    intro i hi
    have d0 := dig_lt n k i
    have d1 := dig_lt n k (lfN n i)
    have d2 := dig_lt n k (rtN n i)
    have g := fld_get (k := k) hF hi
    have e : (4 * nI (4 * digN n k (lfN n i) + digN n k (rtN n i))) + nI (digN n k i) = nI (4 * (4 * digN n k (lfN n i) + digN n k (rtN n i)) + digN n k i) := by rw [show (4 : Int32) = nI 4 from rfl, pk_mul, nI_add]
    unfold b_X0_nobodyWouldRather_2
    rw [un1_is, hn, if_neg (nI_ge hi (by omega)), caround_is hn (by omega) hi hk, some_bind, chk_is (inb_nI (by omega : i < 6) (by decide)), cdigit_is hn (by omega) hi hk, some_bind, e, chk_is (inb_nI (by omega) (by decide)), chk_is (inb_nI (by omega) (by decide)), ix_nI (by omega), ix_nI (by omega), ix_nI (by omega), g.1, g.2, bnd_is, nI_1]
    split <;> rfl
  obtain ⟨x, e1, e2⟩ := lp_up (body := b_X0_nobodyWouldRather_2 fu R M (nI k)) n (fun i s => s = nI i ∧ allN (fun f => decide (bestS V n k f ≤ rowS V n k f)) i = true) (fun x => x = if restB V n k = true then .inr () else .inl ())
    (fun i s hi hs => by
      obtain ⟨rfl, e⟩ := hs
      rw [body i hi]
      by_cases q : bestS V n k i ≤ rowS V n k i
      · left
        rw [if_pos q]
        exact ⟨_, rfl, rfl, by unfold allN; rw [e]; simpa using q⟩
      · right
        rw [if_neg q]
        refine ⟨_, rfl, ?_⟩
        rw [if_neg]
        unfold restB
        rw [allN_f hi (by simpa using q)]; decide)
    (fun s hs => by
      obtain ⟨rfl, e⟩ := hs
      refine ⟨.inr (), ?_, ?_⟩
      · unfold b_X0_nobodyWouldRather_2
        rw [un1_is, hn, if_pos (nI_le (Nat.le_refl _) (by omega))]
      · rw [if_pos]; exact e)
    fu 0 0 (by omega) (by omega) ⟨rfl, rfl⟩
  unfold m_X0_nobodyWouldRather
  rw [e1, e2]
  by_cases q : restB V n k = true
  · rw [if_pos q, if_pos q]; rfl
  · rw [if_neg q, if_neg q]; rfl
theorem cmadd_is (hfu : 20 ≤ fu) (hn : rd M R 0 = nI n) (h6 : n ≤ 6) (hF : ∀ f, f < n → Fld V n f 16 M) (hk : k < 2 ^ 31) : m_X0_meansAdded fu R M (nI k) = some (smI (rowS V n k) n) := by
  have := lp_fn (body := b_X0_meansAdded_5 fu R M (nI k)) n (fun i => (smI (rowS V n k) i, nI i)) (smI (rowS V n k) n) (fun i hi => by
    have d0 := dig_lt n k i
    have d1 := dig_lt n k (lfN n i)
    have d2 := dig_lt n k (rtN n i)
    have g := fld_get (k := k) hF hi
    have e : (4 * nI (4 * digN n k (lfN n i) + digN n k (rtN n i))) + nI (digN n k i) = nI (4 * (4 * digN n k (lfN n i) + digN n k (rtN n i)) + digN n k i) := by rw [show (4 : Int32) = nI 4 from rfl, pk_mul, nI_add]
    unfold b_X0_meansAdded_5
    rw [un2_is, hn, if_neg (nI_ge hi (by omega)), chk_is (inb_nI (by omega : i < 6) (by decide)), caround_is hn (by omega) hi hk, some_bind, cdigit_is hn (by omega) hi hk, some_bind, e, chk_is (inb_nI (by omega) (by decide)), ix_nI (by omega), ix_nI (by omega), g.1, bnd_is, bnd_is, nI_1]
    rfl) (by
    unfold b_X0_meansAdded_5
    rw [un2_is, hn, if_pos (nI_le (Nat.le_refl _) (by omega))]) fu (by omega)
  unfold m_X0_meansAdded
  rw [show ((0 : Int32), (0 : Int32)) = (smI (rowS V n k) 0, nI 0) from rfl, this]
  rfl
theorem msum_is (hfu : 20 ≤ fu) (hV : vM M = V) (h : Vok V n W N) (hW : W ≤ 100000) (hr : ∀ j, j < n → rd M 176 j = nI (digN n k j)) : m_X6_sumOf fu M = some (smI (rowS V n k) n) := by
  have h10 := h.1.2.2
  have := lp_fn (body := b_X6_sumOf_4 fu M) n (fun i => (smI (rowS V n k) i, nI i)) (smI (rowS V n k) n) (fun i hi => by
    unfold b_X6_sumOf_4
    rw [un2_is, (m_n hV).trans h.1.1, if_neg (nI_ge hi (by omega)), m_row_is hV h hW hi hr, some_bind, bnd_is, bnd_is, nI_1]
    rfl) (by
    unfold b_X6_sumOf_4
    rw [un2_is, (m_n hV).trans h.1.1, if_pos (nI_le (Nat.le_refl _) (by omega))]) fu (by omega)
  unfold m_X6_sumOf
  rw [show ((0 : Int32), (0 : Int32)) = (smI (rowS V n k) 0, nI 0) from rfl, this]
  rfl
theorem mrest_is (hfu : 20 ≤ fu) (hV : vM M = V) (h : Vok V n W N) (hW : W ≤ 100000) (hr : ∀ j, j < n → rd M 176 j = nI (digN n k j)) : ∃ M', m_X6_isRest fu M = some (if restB V n k = true then 1 else 0, M') ∧ vM M' = V ∧ ∀ j, rd M' 176 j = rd M 176 j := by
  have h10 := h.1.2.2
  have h2 := h.1.2.1
  have body : ∀ i (M1 : Mem), i < n → vM M1 = V → (∀ j, rd M1 176 j = rd M 176 j) → ∃ M2, b_X6_isRest_2 fu (nI i, M1) = some (if bestS V n k i ≤ rowS V n k i then .inl (nI (i + 1), M2) else .inr (.inl M2)) ∧ vM M2 = V ∧ ∀ j, rd M2 176 j = rd M 176 j := by
    intro i M1 hi e1 e2
    have hr1 : ∀ j, j < n → rd M1 176 j = nI (digN n k j) := fun j hj => (e2 j).trans (hr j hj)
    have nl : lfN n i ≠ i := by unfold lfN; split <;> omega
    have nr : rtN n i ≠ i := by unfold rtN; split <;> omega
    obtain ⟨M2, q1, q2, q3⟩ := mreply_is hfu e1 h hW hi
    rw [hr1 _ (lfN_lt hi), hr1 _ (rtN_lt hi)] at q1
    generalize hm : (fun d => meanS V n i (nI (digN n k (lfN n i))) d (nI (digN n k (rtN n i)))) = m at q1
    have hb := bst_of m
    have vb : m_X6_valueOf (wr M2 176 i (bst m).1) (nI i) = some (bestS V n k i) := by
      have ef : rd (wr M2 176 i (bst m).1) 176 i = (bst m).1 := by rw [rd_wr, if_pos ⟨rfl, rfl⟩]
      rw [mval_is (by rw [vM_out (by omega)]; exact q3) h hW hi (by rw [ef]; exact hb.2), ef, rd_wr, if_neg (fun z => nl z.2), rd_wr, if_neg (fun z => nr z.2), q2, q2, hr1 _ (lfN_lt hi), hr1 _ (rtN_lt hi)]
      unfold bestS
      rw [hm, hb.1, ← hm]
    refine ⟨wr (wr M2 176 i (bst m).1) 176 i (rd M1 176 i), ?_, ?_, ?_⟩
    · unfold b_X6_isRest_2
      rw [un2_is, (m_n e1).trans h.1.1, if_neg (nI_ge hi (by omega)), m_row_is e1 h hW hi hr1, some_bind, chk_is (inb_nI (by omega : i < 10) (by decide)), bnd_is, q1, some_bind, un2_is, ix_nI (by omega), bnd_is, vb, some_bind, bnd_is, bnd_is, nI_1]
      split <;> rfl
    · rw [vM_out (by omega), vM_out (by omega)]; exact q3
    · intro j
      rw [rd_wr]
      by_cases z : j = i
      · subst z; rw [if_pos ⟨rfl, rfl⟩]; exact e2 j
      · rw [if_neg (fun y => z y.2), rd_wr, if_neg (fun y => z y.2), q2]; exact e2 j
  obtain ⟨x, e1, e2⟩ := lp_up (body := b_X6_isRest_2 fu) n (fun i s => s.1 = nI i ∧ vM s.2 = V ∧ (∀ j, rd s.2 176 j = rd M 176 j) ∧ allN (fun f => decide (bestS V n k f ≤ rowS V n k f)) i = true) (fun x => ∃ M2, (x = if restB V n k = true then .inr M2 else .inl M2) ∧ vM M2 = V ∧ ∀ j, rd M2 176 j = rd M 176 j)
    (fun i s hi hs => by
      obtain ⟨s1, s2⟩ := s
      obtain ⟨e1, e2, e3, e⟩ := hs
      dsimp only at e1 e2 e3
      subst e1
      obtain ⟨M2, q1, q2, q3⟩ := body i s2 hi e2 e3
      rw [q1]
      by_cases q : bestS V n k i ≤ rowS V n k i
      · left
        rw [if_pos q]
        exact ⟨_, rfl, rfl, q2, q3, by unfold allN; rw [e]; simpa using q⟩
      · right
        rw [if_neg q]
        refine ⟨_, rfl, M2, ?_, q2, q3⟩
        rw [if_neg]
        unfold restB
        rw [allN_f hi (by simpa using q)]; decide)
    (fun s hs => by
      obtain ⟨s1, s2⟩ := s
      obtain ⟨e1, e2, e3, e⟩ := hs
      dsimp only at e1 e2 e3
      subst e1
      refine ⟨.inr s2, ?_, s2, ?_, e2, e3⟩
      · unfold b_X6_isRest_2
        rw [un2_is, (m_n e2).trans h.1.1, if_pos (nI_le (Nat.le_refl _) (by omega))]
      · rw [if_pos]; exact e)
    fu 0 (0, M) (by omega) (by omega) ⟨rfl, hV, fun _ => rfl, rfl⟩
  obtain ⟨M2, e3, e4, e5⟩ := e2
  refine ⟨M2, ?_, e4, e5⟩
  unfold m_X6_isRest
  rw [e1, e3]
  by_cases q : restB V n k = true
  · rw [if_pos q, if_pos q]; rfl
  · rw [if_neg q, if_neg q]; rfl
end CREST
