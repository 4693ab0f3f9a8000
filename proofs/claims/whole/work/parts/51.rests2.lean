/-! ===== rests: the loop over all rows ===== -/
/-- count, first, best, most, alike, behind v rows -/
noncomputable def rsS (V : Vw) (n : Nat) (al : Int32) : Nat → Int32 × Int32 × Int32 × Int32 × Int32
  | 0 => (0, -1, -1, 0, 0)
  | v + 1 =>
    let s := rsS V n al v
    if restB V n v = true then
      (s.1 + 1, if s.1 = 0 then nI v else s.2.1, if s.1 = 0 ∨ s.2.2.2.1 < smI (rowS V n v) n then nI v else s.2.2.1,
        if s.1 = 0 ∨ s.2.2.2.1 < smI (rowS V n v) n then smI (rowS V n v) n else s.2.2.2.1,
        if irem (nI v) al = 0 then s.2.2.2.2 ||| ishl 1 (nI v / al) else s.2.2.2.2)
    else s
theorem rsS_fact (V : Vw) (n : Nat) (al : Int32) : ∀ v, v ≤ 4096 → ∃ c : Nat, c ≤ v ∧ (rsS V n al v).1 = nI c ∧ (c = 0 → (rsS V n al v).2.1 = -1 ∧ (rsS V n al v).2.2.1 = -1) ∧ (c ≠ 0 → (rsS V n al v).2.1 ≠ -1 ∧ (rsS V n al v).2.2.1 ≠ -1)
  | 0, _ => ⟨0, Nat.le_refl _, rfl, fun _ => ⟨rfl, rfl⟩, fun h => absurd rfl h⟩
  | v + 1, hv => by
    obtain ⟨c, h1, h2, h3, h4⟩ := rsS_fact V n al v (by omega)
    have hm : nI v ≠ -1 := by have := nI_pos' (n := v) (by omega); grind
    unfold rsS
    dsimp only
    by_cases q : restB V n v = true
    · rw [if_pos q]
      refine ⟨c + 1, by omega, by rw [h2, nI_1], fun h => by omega, fun _ => ?_⟩
      dsimp only
      by_cases z : c = 0
      · subst z
        have e : (rsS V n al v).1 = 0 := h2
        rw [if_pos e, if_pos (Or.inl e)]; exact ⟨hm, hm⟩
      · have e : ¬ (rsS V n al v).1 = 0 := by rw [h2]; exact nI_ne0 (by omega) (by omega)
        have g := h4 z
        rw [if_neg e]
        refine ⟨g.1, ?_⟩
        split
        · exact hm
        · exact g.2
    · rw [if_neg q]
      exact ⟨c, by omega, h2, h3, h4⟩
section LOOP
variable {fu n : Nat} {M : Mem} {V : Vw} {W N : Int}
theorem al_nz : ∀ n : Nat, n < 7 → 2 ≤ n → (!decide ((nI (2 ^ (2 * n)) - 1) / 3 = 0)) = true := by decide +kernel
theorem ww {V : Vw} {M : Mem} {R j : Nat} {x : Int32} (hR : R ≤ 74) (h : vC R M = V) : vC R (wr M 115 j x) = V := by rw [w_out (by omega)]; exact h
theorem fw {V : Vw} {M : Mem} {n j : Nat} {x : Int32} (h : ∀ f, f < n → Fld V n f 16 M) : ∀ f, f < n → Fld V n f 16 (wr M 115 j x) := by
  intro f hf i hi
  have g := h f hf i hi
  refine ⟨fun o ho => ?_, ?_⟩
  · rw [rd_wr, if_neg (by omega)]; exact g.1 o ho
  · rw [rd_wr, if_neg (by omega)]; exact g.2
/-- a row is one in which all do the same: told by its first farm's doing -/
def dgB (n v : Nat) : Bool := decide (nI v = nI (digN n v 0) * ((nI (2 ^ (2 * n)) - 1) / 3)) == decide (irem (nI v) ((nI (2 ^ (2 * n)) - 1) / 3) = 0) && (!decide (irem (nI v) ((nI (2 ^ (2 * n)) - 1) / 3) = 0) || decide (nI (digN n v 0) = nI v / ((nI (2 ^ (2 * n)) - 1) / 3)))
theorem dg_all : ∀ n : Nat, n < 7 → 2 ≤ n → (List.range (2 ^ (2 * n))).all (dgB n) = true := by decide +kernel
theorem dg_is {n v : Nat} (h2 : 2 ≤ n) (h6 : n ≤ 6) (hv : v < 2 ^ (2 * n)) : (nI v = nI (digN n v 0) * ((nI (2 ^ (2 * n)) - 1) / 3) ↔ irem (nI v) ((nI (2 ^ (2 * n)) - 1) / 3) = 0) ∧ (irem (nI v) ((nI (2 ^ (2 * n)) - 1) / 3) = 0 → nI (digN n v 0) = nI v / ((nI (2 ^ (2 * n)) - 1) / 3)) := by
  have h := List.all_eq_true.mp (dg_all n (by omega) h2) v (List.mem_range.mpr hv)
  unfold dgB at h
  simp only [Bool.and_eq_true, beq_iff_eq, Bool.or_eq_true, Bool.not_eq_true', decide_eq_decide, decide_eq_false_iff_not, decide_eq_true_eq] at h
  exact ⟨h.1, fun q => h.2.elim (fun w => absurd q w) id⟩
/-- what the counsel's cells hold behind v rows -/
def Cs (V : Vw) (n R : Nat) (s : Int32 × Int32 × Int32 × Int32 × Int32) (M : Mem) : Prop := vC R M = V ∧ (∀ f, f < n → Fld V n f 16 M) ∧ rd M 115 0 = s.1 ∧ rd M 115 1 = s.2.1 ∧ rd M 115 2 = s.2.2.1 ∧ rd M 115 3 = s.2.2.2.2
theorem crests_is {R : Nat} (hfu : 5000 ≤ fu) (hV : vC R M = V) (hR : R ≤ 74) (h : Vok V n W N) (h6 : n ≤ 6) : ∃ M', m_X0_findRests fu R M = some M' ∧ Cs V n R (rsS V n ((nI (2 ^ (2 * n)) - 1) / 3) (2 ^ (2 * n))) M' := by
  obtain ⟨M1, e1, e2, e3⟩ := cfill_is (fu := fu) (by omega) hV hR h h6
  have hp : 2 ^ (2 * n) ≤ 2 ^ 12 := Nat.pow_le_pow_right (by decide) (by omega)
  have hz := al_nz n (by omega) h.1.2.1
  generalize hal : (nI (2 ^ (2 * n)) - 1) / 3 = al at hz ⊢
  obtain ⟨x, q1, q2⟩ := lp_up (body := b_X0_findRests_46 fu R (nI (2 ^ (2 * n))) al) (2 ^ (2 * n)) (fun v s => s.1 = (rsS V n al v).2.2.2.1 ∧ s.2.1 = nI v ∧ Cs V n R (rsS V n al v) s.2.2) (fun x => Cs V n R (rsS V n al (2 ^ (2 * n))) x)
    (fun v s hi hs => by
      obtain ⟨s1, s2, s3⟩ := s
      obtain ⟨g1, g2, g3, g4, g5, g6, g7, g8⟩ := hs
      dsimp only at g1 g2 g3 g4 g5 g6 g7 g8
      subst g2
      left
      have hn : rd s3 R 0 = nI n := (c_n g3).trans h.1.1
      unfold b_X0_findRests_46
      rw [un3_is, if_neg (nI_ge hi (by omega)), cnobody_is (by omega) hn h6 g4 (by omega), some_bind]
      unfold rsS
      dsimp only
      generalize rsS V n al v = t at g1 g5 g6 g7 g8 ⊢
      obtain ⟨t1, t2, t3, t4, t5⟩ := t
      dsimp only at g1 g5 g6 g7 g8 ⊢
      by_cases q : restB V n v = true
      · rw [if_pos q, if_pos q, if_neg (by decide), cmadd_is (by omega) hn h6 g4 (by omega), some_bind]
        generalize smI (rowS V n v) n = sm
        have key : ∀ M' : Mem, vC R M' = V → ∀ c : Int32, j_X0_findRests_111i fu R M' (nI (2 ^ (2 * n))) al c (nI v) = if irem (nI v) al = 0 then j_X0_findRests_142i fu R (wr M' 115 3 (rd M' 115 3 ||| ishl 1 (nI v / al))) (nI (2 ^ (2 * n))) al c (nI v) else j_X0_findRests_142i fu R M' (nI (2 ^ (2 * n))) al c (nI v) := by
          intro M' e c
          have e0 : m_X0_digit R M' (nI v) 0 = some (nI (digN n v 0)) := cdigit_is (f := 0) ((c_n e).trans h.1.1) (by omega) (by have := h.1.2.1; omega) (by omega)
          have dg := dg_is h.1.2.1 h6 hi
          rw [hal] at dg
          unfold j_X0_findRests_111i
          rw [e0, some_bind]
          by_cases y : irem (nI v) al = 0
          · rw [if_pos (dg.1.mpr y), if_pos y, dg.2 y, bnd_is]
          · rw [if_neg (fun q => y (dg.1.mp q)), if_neg y]
        have key1 : ∀ (j : Nat) (x : Int32) (c : Int32), _ := fun j x => key _ (ww (j := j) (x := x) hR g3)
        have key2 : ∀ (j : Nat) (x : Int32) (i : Nat) (y : Int32) (c : Int32), _ := fun j x i y => key _ (ww (j := i) (x := y) hR (ww (j := j) (x := x) hR g3))
        unfold j_X0_findRests_87i j_X0_findRests_101i
        simp only [bnd_is, key s3 g3, key1, key2]
        unfold j_X0_findRests_142i
        simp only [bnd_is, nI_1, rd_wr, g5, g6, g7, g8, g1]
        by_cases z : t1 = 0
        · simp only [z, if_true, true_or]
          by_cases y : irem (nI v) al = 0
          · simp only [y, if_true]
            refine ⟨_, rfl, rfl, rfl, ww hR (ww hR (ww hR (ww hR g3))), fw (fw (fw (fw g4))), ?_, ?_, ?_, ?_⟩ <;> simp [rd_wr, g5, g8, z]
          · simp only [if_neg y]
            refine ⟨_, rfl, rfl, rfl, ww hR (ww hR (ww hR g3)), fw (fw (fw g4)), ?_, ?_, ?_, ?_⟩ <;> simp [rd_wr, g5, g8, z]
        · simp only [z, if_false, false_or]
          by_cases w : t4 < sm
          · have w2 : ¬ sm ≤ t4 := by grind
            simp only [w, w2, if_true, if_false]
            by_cases y : irem (nI v) al = 0
            · simp only [y, if_true]
              refine ⟨_, rfl, rfl, rfl, ww hR (ww hR (ww hR g3)), fw (fw (fw g4)), ?_, ?_, ?_, ?_⟩ <;> simp [rd_wr, g5, g6, g8]
            · simp only [if_neg y]
              refine ⟨_, rfl, rfl, rfl, ww hR (ww hR g3), fw (fw g4), ?_, ?_, ?_, ?_⟩ <;> simp [rd_wr, g5, g6, g8]
          · have w2 : sm ≤ t4 := by grind
            simp only [w, w2, if_true, if_false]
            by_cases y : irem (nI v) al = 0
            · simp only [y, if_true]
              refine ⟨_, rfl, rfl, rfl, ww hR (ww hR g3), fw (fw g4), ?_, ?_, ?_, ?_⟩ <;> simp [rd_wr, g5, g6, g7, g8]
            · simp only [if_neg y]
              refine ⟨_, rfl, rfl, rfl, ww hR g3, fw g4, ?_, ?_, ?_, ?_⟩ <;> simp [rd_wr, g5, g6, g7, g8]
      · rw [if_neg q, if_neg q, if_pos rfl, bnd_is, nI_1]
        exact ⟨_, rfl, g1, rfl, g3, g4, g5, g6, g7, g8⟩)
    (fun s hs => by
      obtain ⟨s1, s2, s3⟩ := s
      obtain ⟨g1, g2, g3⟩ := hs
      dsimp only at g1 g2 g3
      subst g2
      exact ⟨s3, by unfold b_X0_findRests_46; rw [un3_is, if_pos (nI_le (Nat.le_refl _) (by omega))], g3⟩)
    fu 0 (0, 0, wr (wr (wr (wr M1 115 0 0) 115 1 (-1)) 115 2 (-1)) 115 3 0) (Nat.zero_le _) (by omega) ⟨rfl, rfl, ww hR (ww hR (ww hR (ww hR e3))), fw (fw (fw (fw e2))), by simp [rd_wr, rsS], by simp [rd_wr, rsS], by simp [rd_wr, rsS], by simp [rd_wr, rsS]⟩
  refine ⟨x, ?_, q2⟩
  unfold m_X0_findRests
  rw [e1, some_bind]
  simp only [bnd_is]
  have hn : rd (wr (wr (wr (wr M1 115 0 0) 115 1 (-1)) 115 2 (-1)) 115 3 0) R 0 = nI n := (c_n (ww hR (ww hR (ww hR (ww hR e3))))).trans h.1.1
  rw [hn, rows_n n (by omega), hal, q1]; rfl
theorem mrests_is {s1 : Int32} (hfu : 5000 ≤ fu) (hV : vM M = V) (h : Vok V n W N) (hW : W ≤ 100000) (h6 : n ≤ 6) : ∃ M' m, lp (b_X6_rests_56 fu s1 ((nI (2 ^ (2 * n)) - 1) / 3)) fu (0, (-1), (-1), 0, 0, 0, M) = some ((rsS V n ((nI (2 ^ (2 * n)) - 1) / 3) (2 ^ (2 * n))).1, (rsS V n ((nI (2 ^ (2 * n)) - 1) / 3) (2 ^ (2 * n))).2.1, (rsS V n ((nI (2 ^ (2 * n)) - 1) / 3) (2 ^ (2 * n))).2.2.1, (rsS V n ((nI (2 ^ (2 * n)) - 1) / 3) (2 ^ (2 * n))).2.2.2.2, M') ∧ vM M' = m := by
  have hp : 2 ^ (2 * n) ≤ 2 ^ 12 := Nat.pow_le_pow_right (by decide) (by omega)
  have hz := al_nz n (by omega) h.1.2.1
  generalize hal : (nI (2 ^ (2 * n)) - 1) / 3 = al at hz ⊢
  obtain ⟨x, q1, q2⟩ := lp_up (body := b_X6_rests_56 fu s1 al) (2 ^ (2 * n)) (fun v s => s.1 = (rsS V n al v).1 ∧ s.2.1 = (rsS V n al v).2.1 ∧ s.2.2.1 = (rsS V n al v).2.2.1 ∧ ((rsS V n al v).1 ≠ 0 → s.2.2.2.1 = (rsS V n al v).2.2.2.1) ∧ s.2.2.2.2.1 = (rsS V n al v).2.2.2.2 ∧ s.2.2.2.2.2.1 = nI v ∧ vM s.2.2.2.2.2.2 = V) (fun x => ∃ M', x = ((rsS V n al (2 ^ (2 * n))).1, (rsS V n al (2 ^ (2 * n))).2.1, (rsS V n al (2 ^ (2 * n))).2.2.1, (rsS V n al (2 ^ (2 * n))).2.2.2.2, M'))
    (fun v s hi hs => by
      obtain ⟨s1, s2, s3, s4, s5, s6, s7⟩ := s
      obtain ⟨g1, g2, g3, g4, g5, g6, g7⟩ := hs
      dsimp only at g1 g2 g3 g4 g5 g6 g7
      subst g6
      left
      have hn : rd s7 148 2 = nI n := (m_n g7).trans h.1.1
      obtain ⟨M1, e1, e2⟩ := mtakes_is (fu := fu) (by omega) hn (by omega : n ≤ 10) (show v < 2 ^ 31 by omega)
      have eM : vM M1 = V := by rw [vM_fr (fr_m_X6_takesRow e1) (fun k j z => by unfold w_X6_takesRow at z; omega)]; exact g7
      obtain ⟨M2, e3, e4, e5⟩ := mrest_is (fu := fu) (by omega) eM h hW e2
      have hr : ∀ j, j < n → rd M2 176 j = nI (digN n v j) := fun j hj => (e5 j).trans (e2 j hj)
      have sm := msum_is (fu := fu) (by omega) e4 h hW hr
      obtain ⟨c, f1, f2, f3, f4⟩ := rsS_fact V n al v (by omega)
      unfold b_X6_rests_56
      rw [un7_is, hn, rows_n n (by omega), if_neg (nI_ge hi (by omega)), e1, some_bind, e3, some_bind, un2_is]
      unfold rsS
      dsimp only
      generalize rsS V n al v = t at g1 g2 g3 g4 g5 f2 f3 f4 ⊢
      obtain ⟨t1, t2, t3, t4, t5⟩ := t
      dsimp only at g1 g2 g3 g4 g5 f2 f3 f4 ⊢
      subst g1 g2 g3 g5
      by_cases q : restB V n v = true
      · rw [if_pos q, if_pos q, if_neg (by decide)]
        unfold j_X6_rests_100i j_X6_rests_121i j_X6_rests_139i
        simp only [bnd_is, hz, chk_t, nI_1, sm, some_bind]
        generalize smI (rowS V n v) n = sm
        by_cases z : c = 0
        · subst z
          have f3 := f3 rfl
          have e0 : s1 = 0 := f2
          simp only [f3.1, f3.2, if_true, e0, true_or]
          have z1 : (0 : Int32) + 1 ≠ 0 := by decide
          by_cases y : irem (nI v) al = 0
          · simp only [y, if_true]
            exact ⟨_, rfl, rfl, rfl, rfl, fun _ => rfl, rfl, rfl, e4⟩
          · simp only [if_neg y]
            exact ⟨_, rfl, rfl, rfl, rfl, fun _ => rfl, rfl, rfl, e4⟩
        · have f4 := f4 z
          have e0 : ¬ s1 = 0 := by rw [f2]; exact nI_ne0 (by omega) (by omega)
          have g4 := g4 e0
          subst g4
          simp only [f4.1, f4.2, e0, if_false, false_or]
          by_cases w : s4 < sm
          · simp only [w, if_true]
            by_cases y : irem (nI v) al = 0
            · simp only [y, if_true]
              exact ⟨_, rfl, rfl, rfl, rfl, fun _ => rfl, rfl, rfl, e4⟩
            · simp only [if_neg y]
              exact ⟨_, rfl, rfl, rfl, rfl, fun _ => rfl, rfl, rfl, e4⟩
          · simp only [w, if_false]
            by_cases y : irem (nI v) al = 0
            · simp only [y, if_true]
              exact ⟨_, rfl, rfl, rfl, rfl, fun _ => rfl, rfl, rfl, e4⟩
            · simp only [if_neg y]
              exact ⟨_, rfl, rfl, rfl, rfl, fun _ => rfl, rfl, rfl, e4⟩
      · rw [if_neg q, if_neg q, if_pos rfl, bnd_is, nI_1]
        exact ⟨_, rfl, rfl, rfl, rfl, g4, rfl, rfl, e4⟩)
    (fun s hs => by
      obtain ⟨s1, s2, s3, s4, s5, s6, s7⟩ := s
      obtain ⟨g1, g2, g3, g4, g5, g6, g7⟩ := hs
      dsimp only at g1 g2 g3 g4 g5 g6 g7
      subst g6 g1 g2 g3 g5
      exact ⟨_, by unfold b_X6_rests_56; rw [un7_is, (m_n g7).trans h.1.1, rows_n n (by omega), if_pos (nI_le (Nat.le_refl _) (by omega))], s7, rfl⟩)
    fu 0 (0, (-1), (-1), 0, 0, 0, M) (Nat.zero_le _) (by omega) ⟨rfl, rfl, rfl, fun _ => rfl, rfl, rfl, hV⟩
  obtain ⟨M', q3⟩ := q2
  exact ⟨M', _, by rw [q1, q3], rfl⟩
end LOOP
theorem op_rests {fu c : Nat} {M : Mem} (hf : 5000 ≤ fu) (hc : c ≤ 512) (h : Inv c M) (a : Int32) : ∃ r M1 M2, m_X5_rests fu M a = some (r, M1) ∧ m_X6_rests fu M1 a = some (r, M2) ∧ Inv (c + 1) M2 := by
  obtain ⟨n, L, h1, h2, -⟩ := id h
  have hV : vC 0 M = vM M := h1.symm
  have hn : vM M 148 2 = nI n := by rw [h1]; exact h2.1.1
  have h10 : n ≤ 10 := h2.1.2.2
  have hc0 : rd M 0 0 = nI n := (c_n hV).trans hn
  have hm0 : rd (wr M 148 0 0) 148 2 = nI n := by rw [rd_t0 (by omega)]; exact hn
  by_cases q6 : n ≤ 6
  · by_cases q : ¬ a < 0 ∧ ¬ 3 < a
    · obtain ⟨k, hk, rfl⟩ := arg_nI (a := a) (n := 4) q.1 (by have e : nI 4 = 4 := rfl; grind) (by decide)
      obtain ⟨M1, e1, e2, e3, e4, e5, e6, e7⟩ := crests_is hf rfl (by decide : 0 ≤ 74) h2 q6
      have g1 := fr_m_X0_findRests e1
      have eM : vM (wr M1 148 0 0) = vC 0 M := by rw [vM_t0, vM_fr g1 (fun k j z => by unfold w_X0_findRests at z; omega), h1]
      obtain ⟨M2, m, e8, -⟩ := mrests_is (s1 := nI k) hf eM h2 (wI_le hc) q6
      have hm1 : rd (wr M1 148 0 0) 148 2 = nI n := (m_n eM).trans h2.1.1
      have c6 : ¬ (6 : Int32) < nI n := nI_nlt (b := n) (a := 6) q6 (by decide)
      generalize rsS (vC 0 M) n ((nI (2 ^ (2 * n)) - 1) / 3) (2 ^ (2 * n)) = t at e4 e5 e6 e7 e8
      have k1 : nI k ≤ 3 := nI_le (b := 3) (by omega) (by decide)
      obtain ⟨r, s1, s2⟩ : ∃ r, m_X5_rests fu M (nI k) = some (r, M1) ∧ m_X6_rests fu M1 (nI k) = some (r, M2) := by
        unfold m_X5_rests m_X6_rests
        simp only [hc0, if_neg c6, if_neg q.1, if_pos k1, e1, some_bind, bnd_is, hm1, isIn_is, tf_0, if_neg (fun z : ¬ (¬ nI k < 0 ∧ ¬ 3 < nI k) => z q), rows_n n (by omega), e8, un5_is, e4, e5, e6, e7]
        rcases (by omega : k = 0 ∨ k = 1 ∨ k = 2 ∨ k = 3) with rfl | rfl | rfl | rfl
        · exact ⟨_, rfl, rfl⟩
        · exact ⟨_, rfl, rfl⟩
        · exact ⟨_, rfl, rfl⟩
        · exact ⟨_, rfl, rfl⟩
      refine ⟨r, M1, M2, s1, s2, (h.fr2 (fr_m_X5_rests s1) (fr_m_X6_rests s2) (fun k j q => ?_) (fun _ _ q => q.elim) (fun k j q => ?_) (fun _ _ q => q.elim)).mono (Nat.le_succ c)⟩
      · unfold w_X5_rests at q; unfold keepI keepL keepX keepG keepV keepW; omega
      · unfold w_X6_rests at q; unfold keepI keepL keepX keepG keepV keepW; omega
    · refine ⟨-1, M, wr M 148 0 0, ?_, ?_, h.t0⟩
      · unfold m_X5_rests
        rw [hc0, if_neg (show ¬ (6 : Int32) < nI n from nI_nlt (b := n) (a := 6) q6 (by decide))]
        by_cases q1 : a < 0
        · rw [if_pos q1]
        · rw [if_neg q1, if_neg (by grind)]
      · unfold m_X6_rests
        rw [bnd_is, hm0, if_neg (show ¬ (6 : Int32) < nI n from nI_nlt (b := n) (a := 6) q6 (by decide)), isIn_is, some_bind]
        simp only [tf_0]
        rw [if_pos q]
  · have c6 : (6 : Int32) < nI n := nI_lt (a := 6) (b := n) (by omega) (by omega)
    refine ⟨-1, M, wr M 148 0 0, ?_, ?_, h.t0⟩
    · unfold m_X5_rests
      rw [hc0, if_pos c6]
    · unfold m_X6_rests
      rw [bnd_is, hm0, if_pos c6]
