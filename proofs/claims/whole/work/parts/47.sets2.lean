/-! ===== border, set, was, ring, feed ===== -/
theorem op_was {c : Nat} {M : Mem} (h : Inv c M) (a x : Int32) : ∃ r M1 M2, m_X5_was M a x = some (r, M1) ∧ m_X6_was M1 a x = some (r, M2) ∧ Inv (c + 1) M2 := by
  obtain ⟨n, L, h1, h2, -⟩ := id h
  have hV : vC 0 M = vM M := h1.symm
  have hn : vM M 148 2 = nI n := by rw [h1]; exact h2.1.1
  have h10 : n ≤ 10 := h2.1.2.2
  have hc0 : rd M 0 0 = nI n := (c_n hV).trans hn
  have hm0 : rd (wr M 148 0 0) 148 2 = nI n := by rw [rd_t0 (by omega)]; exact hn
  by_cases q : ¬ a < 0 ∧ ¬ nI n ≤ a
  · obtain ⟨f, hf, rfl⟩ := arg_nI q.1 q.2 (by omega)
    have hf10 : f < 10 := by omega
    have hb : inb (nI f) 10 = true := inb_nI hf10 (by decide)
    have hx : ix (nI f) = f := ix_nI (by omega)
    by_cases g : ¬ x < -1 ∧ ¬ 60 < x
    · have hm1 : rd (wr (wr M (0 + 8 + f) 8 x) 148 0 0) 148 2 = nI n := by rw [rd_t0 (by omega), rd_wr, if_neg (by omega)]; exact hn
      refine ⟨1, wr M (0 + 8 + f) 8 x, wr (wr (wr M (0 + 8 + f) 8 x) 148 0 0) 161 f x, ?_, ?_, ?_⟩
      · unfold m_X5_was
        simp only [has_is, some_bind, tf_0, hc0, if_neg (fun z : ¬ (¬ nI f < 0 ∧ ¬ nI n ≤ nI f) => z q), hb, hx, chk_t, bnd_is, ix_8]
        rw [if_neg g.1, if_pos (by grind)]
      · unfold m_X6_was
        simp only [bnd_is, isFarm_is, isIn_is, some_bind, tf_0, hm1, if_neg (fun z : ¬ (¬ nI f < 0 ∧ ¬ nI n ≤ nI f) => z q), hb, hx, chk_t]
        rw [if_neg (fun z => z g)]
      · have f0 : Fr (fun k j => 8 ≤ k ∧ k < 28 ∨ (149 ≤ k ∧ k ≤ 162) ∨ k = 148 ∧ j = 0) (fun _ _ => False) M (wr (wr (wr M (0 + 8 + f) 8 x) 148 0 0) 161 f x) := ((Fr.wr (by omega)).tr (Fr.wr (by omega))).tr (Fr.wr (by omega))
        refine h.vfr f0 (fun k j z => by omega) (fun _ _ z => z) (vs (vC 0 M) 161 f x) ?_ (fun e => ?_) (fun m hm => ⟨m, (hm.free (by decide)).mono (by rw [wI_s]; omega) (Int.le_refl _)⟩) (vs_nk (by omega))
        · rw [w_out (by omega), w_out (by omega), w_was hf10]
        · rw [vM_wr (by omega), vM_out (by omega), vM_out (by omega), e]
    · refine ⟨0, M, wr M 148 0 0, ?_, ?_, h.t0⟩
      · unfold m_X5_was
        simp only [has_is, some_bind, tf_0, hc0, if_neg (fun z : ¬ (¬ nI f < 0 ∧ ¬ nI n ≤ nI f) => z q)]
        by_cases q1 : x < -1
        · rw [if_pos q1]
        · rw [if_neg q1, if_neg (by grind)]
      · unfold m_X6_was
        simp only [bnd_is, isFarm_is, isIn_is, some_bind, tf_0, hm0, if_neg (fun z : ¬ (¬ nI f < 0 ∧ ¬ nI n ≤ nI f) => z q)]
        rw [if_pos g]
  · refine ⟨0, M, wr M 148 0 0, ?_, ?_, h.t0⟩
    · unfold m_X5_was
      simp only [has_is, some_bind, tf_0, hc0]
      rw [if_pos q]
    · unfold m_X6_was
      simp only [bnd_is, isFarm_is, some_bind, tf_0, hm0]
      rw [if_pos q]
theorem mayBe_bad {i : Nat} {M : Mem} {b x : Int32} (hN : stN i < 2 ^ 31) (z : ¬ (¬ b < 0 ∧ ¬ (nI (stN i)) ≤ b ∧ ¬ x < 0 ∧ ¬ stV i (ix b) < x)) : m_X5_mayBe i M b x = some 0 := by
  unfold m_X5_mayBe
  by_cases b1 : b < 0
  · rw [if_pos b1]
  rw [if_neg b1]
  by_cases b2 : Int32.ofNat (stN i) ≤ b
  · rw [if_pos b2]
  rw [if_neg b2]
  by_cases b3 : x < 0
  · rw [if_pos b3]
  obtain ⟨g, hg, rfl⟩ := arg_nI (n := stN i) b1 b2 hN
  rw [if_neg b3, chk_is (inb_nI (n := stN i) hg (by omega)), if_pos (Classical.not_not.mp (fun w => z ⟨b1, b2, b3, w⟩))]
theorem mayBe_ok {i p : Nat} {M : Mem} {x : Int32} (hN : stN i < 2 ^ 31) (hp : p < stN i) (h0 : ¬ x < 0) (h1 : ¬ stV i p < x) : m_X5_mayBe i M (nI p) x = some 1 := by
  unfold m_X5_mayBe
  rw [if_neg (nI_pos (by omega)), if_neg (show ¬ Int32.ofNat (stN i) ≤ nI p from nI_ge hp hN), if_neg h0, chk_is (inb_nI (n := stN i) hp (by omega)), ix_nI (by omega), if_neg h1]
theorem op_border {c : Nat} {M : Mem} (h : Inv c M) (a b x : Int32) : ∃ r M1 M2, m_X5_border M a b x = some (r, M1) ∧ m_X6_border M1 a b x = some (r, M2) ∧ Inv (c + 1) M2 := by
  obtain ⟨n, L, h1, h2, -⟩ := id h
  have hV : vC 0 M = vM M := h1.symm
  have hn : vM M 148 2 = nI n := by rw [h1]; exact h2.1.1
  have h10 : n ≤ 10 := h2.1.2.2
  have hc0 : rd M 0 0 = nI n := (c_n hV).trans hn
  have hm0 : rd (wr M 148 0 0) 148 2 = nI n := by rw [rd_t0 (by omega)]; exact hn
  by_cases q : ¬ a < 0 ∧ ¬ nI n ≤ a
  · obtain ⟨f, hf, rfl⟩ := arg_nI q.1 q.2 (by omega)
    have hf10 : f < 10 := by omega
    have hb : inb (nI f) 10 = true := inb_nI hf10 (by decide)
    have hx : ix (nI f) = f := ix_nI (by omega)
    by_cases g : ¬ b < 0 ∧ ¬ (nI 2) ≤ b ∧ ¬ x < 0 ∧ ¬ stV 1 (ix b) < x
    · obtain ⟨p, hp, rfl⟩ := arg_nI (n := 2) g.1 g.2.1 (by decide)
      have hx0 : 0 ≤ x := by have := g.2.2.1; grind
      rw [ix_nI (by omega)] at g
      have hm1 : rd (wr (wr (wr M (0 + 18 + f) p x) (0 + 18 + f) 2 0) 148 0 0) 148 2 = nI n := by rw [rd_t0 (by omega), rd_wr, if_neg (by omega), rd_wr, if_neg (by omega)]; exact hn
      refine ⟨1, wr (wr M (0 + 18 + f) p x) (0 + 18 + f) 2 0, wr (wr (wr (wr (wr M (0 + 18 + f) p x) (0 + 18 + f) 2 0) 148 0 0) (157 + p) f x) 159 f 0, ?_, ?_, ?_⟩
      · unfold m_X5_border
        simp only [has_is, some_bind, tf_0, hc0, if_neg (fun z : ¬ (¬ nI f < 0 ∧ ¬ nI n ≤ nI f) => z q), mayBe_ok (M := M) (i := 1) (by decide) hp g.2.2.1 g.2.2.2, hb, chk_t, inb_nI (show p < 4 by omega) (by decide), hx, ix_nI (show p < 2 ^ 31 by omega), bnd_is, ix_2]
        rfl
      · unfold m_X6_border j_X6_border_35 j_X6_border_64
        simp only [bnd_is, isFarm_is, isIn_is, some_bind, tf_0, hm1, if_neg (fun z : ¬ (¬ nI f < 0 ∧ ¬ nI n ≤ nI f) => z q), hb, chk_t, hx]
        rcases (by omega : p = 0 ∨ p = 1) with rfl | rfl
        · have gg : ¬ x < 0 ∧ ¬ 1 < x := ⟨g.2.2.1, g.2.2.2⟩
          simp [show nI 0 = 0 from rfl, gg]
        · have gg : ¬ x < 0 ∧ ¬ 3 < x := ⟨g.2.2.1, g.2.2.2⟩
          simp [show nI 1 = 1 from rfl, gg]
      · have f0 : Fr (fun k j => 8 ≤ k ∧ k < 28 ∨ (149 ≤ k ∧ k ≤ 162) ∨ k = 148 ∧ j = 0) (fun _ _ => False) M (wr (wr (wr (wr (wr M (0 + 18 + f) p x) (0 + 18 + f) 2 0) 148 0 0) (157 + p) f x) 159 f 0) := ((((Fr.wr (by omega)).tr (Fr.wr (by omega))).tr (Fr.wr (by omega))).tr (Fr.wr (by omega))).tr (Fr.wr (by omega))
        refine h.vfr f0 (fun k j z => by omega) (fun _ _ z => z) (vs (vs (vC 0 M) (157 + p) f x) 159 f 0) ?_ (fun e => ?_) (fun m hm => ⟨m, ?_⟩) (by rw [vs_nk (by omega), vs_nk (by omega)])
        · rw [w_out (by omega), w_out (by omega), w_out (by omega), w_stake hf10 (by omega), w_stake hf10 (by omega)]
        · rw [vM_wr (by omega), vM_wr (by omega), vM_out (by omega), vM_out (by omega), vM_out (by omega), e]
        · refine (Vok.free ?_ (by decide)).mono (by rw [wI_s]; exact (show wI c ≤ wI c + 60 by omega)) (Int.le_refl _)
          rcases (by omega : p = 0 ∨ p = 1) with rfl | rfl
          · have : ¬ (1 : Int32) < x := g.2.2.2
            exact hm.setWall (by grind)
          · have : ¬ (3 : Int32) < x := g.2.2.2
            exact hm.setH ⟨hx0, by grind⟩
    · refine ⟨0, M, wr M 148 0 0, ?_, ?_, h.t0⟩
      · unfold m_X5_border
        simp only [has_is, some_bind, tf_0, hc0, if_neg (fun z : ¬ (¬ nI f < 0 ∧ ¬ nI n ≤ nI f) => z q), mayBe_bad (M := M) (i := 1) (by decide) g, if_true]
      · unfold m_X6_border j_X6_border_35
        simp only [bnd_is, isFarm_is, isIn_is, some_bind, tf_0, hm0, if_neg (fun z : ¬ (¬ nI f < 0 ∧ ¬ nI n ≤ nI f) => z q)]
        by_cases b0 : b = 0
        · subst b0
          rw [if_neg (by decide), if_pos rfl, if_pos]
          intro w; exact g ⟨by decide, by decide, w.1, w.2⟩
        by_cases b1 : b = 1
        · subst b1
          rw [if_neg (by decide), if_neg b0, if_pos]
          intro w; exact g ⟨by decide, by decide, w.1, w.2⟩
        rw [if_pos]
        intro w
        grind
  · refine ⟨0, M, wr M 148 0 0, ?_, ?_, h.t0⟩
    · unfold m_X5_border
      simp only [has_is, some_bind, tf_0, hc0]
      rw [if_pos q]
    · unfold m_X6_border
      simp only [bnd_is, isFarm_is, some_bind, tf_0, hm0]
      rw [if_pos q]
theorem op_set {c : Nat} {M : Mem} (h : Inv c M) (b x : Int32) : ∃ r M1 M2, m_X5_set M b x = some (r, M1) ∧ m_X6_set M1 b x = some (r, M2) ∧ Inv (c + 1) M2 := by
  by_cases g : ¬ b < 0 ∧ ¬ (nI 10) ≤ b ∧ ¬ x < 0 ∧ ¬ stV 2 (ix b) < x
  · obtain ⟨p, hp, rfl⟩ := arg_nI (n := 10) g.1 g.2.1 (by decide)
    have hx0 : 0 ≤ x := by have := g.2.2.1; grind
    rw [ix_nI (by omega)] at g
    refine ⟨1, wr M (0 + 1) p x, wr (wr (wr M (0 + 1) p x) 148 0 0) 162 p x, ?_, ?_, ?_⟩
    · unfold m_X5_set
      simp only [some_bind, mayBe_ok (M := M) (i := 2) (by decide) hp g.2.2.1 g.2.2.2, chk_t, inb_nI hp (by decide), ix_nI (show p < 2 ^ 31 by omega), bnd_is]
      rfl
    · unfold m_X6_set j_X6_set_29
      simp only [bnd_is, isIn_is, some_bind, tf_0, chk_t, inb_nI hp (by decide), ix_nI (show p < 2 ^ 31 by omega)]
      have g2 := g.2.2
      rcases (by omega : p = 0 ∨ p = 1 ∨ p = 2 ∨ p = 3 ∨ p = 4 ∨ p = 5 ∨ p = 6 ∨ p = 7 ∨ p = 8 ∨ p = 9) with rfl | rfl | rfl | rfl | rfl | rfl | rfl | rfl | rfl | rfl
      · rw [if_neg (by decide), if_pos (by decide), if_neg (by decide), if_neg (fun z => z g2)]
      · rw [if_neg (by decide), if_pos (by decide), if_neg (by decide), if_neg (fun z => z g2)]
      · rw [if_neg (by decide), if_pos (by decide), if_neg (by decide), if_neg (fun z => z g2)]
      · rw [if_neg (by decide), if_pos (by decide), if_neg (by decide), if_neg (fun z => z g2)]
      · rw [if_neg (by decide), if_pos (by decide), if_neg (by decide), if_neg (fun z => z g2)]
      · rw [if_neg (by decide), if_pos (by decide), if_neg (by decide), if_neg (fun z => z g2)]
      · rw [if_neg (by decide), if_pos (by decide), if_neg (by decide), if_neg (fun z => z g2)]
      · rw [if_neg (by decide), if_neg (by decide), if_neg (by decide), if_neg (fun z => z g2)]
      · rw [if_neg (by decide), if_neg (by decide), if_neg (by decide), if_neg (fun z => z g2)]
      · rw [if_pos (by decide), if_neg (by decide), if_neg (fun z => z g2)]
    · have f0 : Fr (fun k j => k = 1 ∨ (149 ≤ k ∧ k ≤ 162) ∨ k = 148 ∧ j = 0) (fun _ _ => False) M (wr (wr (wr M (0 + 1) p x) 148 0 0) 162 p x) := ((Fr.wr (by omega)).tr (Fr.wr (by omega))).tr (Fr.wr (by omega))
      have g2 := g.2.2.2
      refine h.vfr f0 (fun k j z => by omega) (fun _ _ z => z) (vs (vC 0 M) 162 p x) ?_ (fun e => ?_) (fun m hm => ⟨m, (hm.setS hx0 ?_ ?_ ?_).mono (by rw [wI_s]; omega) (Int.le_refl _)⟩) (vs_nk (by omega))
      · rw [w_out (by omega), w_out (by omega), w_set hp]
      · rw [vM_wr (by omega), vM_out (by omega), vM_out (by omega), e]
      · intro hp7
        rcases (by omega : p = 0 ∨ p = 1 ∨ p = 2 ∨ p = 3 ∨ p = 4 ∨ p = 5 ∨ p = 6) with rfl | rfl | rfl | rfl | rfl | rfl | rfl <;> (have : ¬ (99 : Int32) < x := g2; grind)
      · intro hp9
        rcases (by omega : p = 0 ∨ p = 1 ∨ p = 2 ∨ p = 3 ∨ p = 4 ∨ p = 5 ∨ p = 6 ∨ p = 7 ∨ p = 8) with rfl | rfl | rfl | rfl | rfl | rfl | rfl | rfl | rfl
        all_goals first
          | (have : ¬ (99 : Int32) < x := g2; grind)
          | (have : ¬ (1000 : Int32) < x := g2; grind)
      · rintro rfl
        have : ¬ (5 : Int32) < x := g2
        grind
  · refine ⟨0, M, wr M 148 0 0, ?_, ?_, h.t0⟩
    · unfold m_X5_set
      simp only [some_bind, mayBe_bad (M := M) (i := 2) (by decide) g, if_true]
    · unfold m_X6_set j_X6_set_29
      simp only [bnd_is, isIn_is, some_bind, tf_0]
      by_cases q : ¬ b < 0 ∧ ¬ 9 < b
      · obtain ⟨p, hp, rfl⟩ := arg_nI (a := b) (n := 10) q.1 (by have e : nI 10 = 10 := rfl; grind) (by decide)
        rw [ix_nI (by omega)] at g
        have g2 : ¬ (¬ x < 0 ∧ ¬ stV 2 p < x) := fun w => g ⟨q.1, nI_ge hp (by decide), w.1, w.2⟩
        rcases (by omega : p = 0 ∨ p = 1 ∨ p = 2 ∨ p = 3 ∨ p = 4 ∨ p = 5 ∨ p = 6 ∨ p = 7 ∨ p = 8 ∨ p = 9) with rfl | rfl | rfl | rfl | rfl | rfl | rfl | rfl | rfl | rfl
        · rw [if_neg (by decide), if_pos (by decide), if_neg (by decide)]; exact if_pos g2
        · rw [if_neg (by decide), if_pos (by decide), if_neg (by decide)]; exact if_pos g2
        · rw [if_neg (by decide), if_pos (by decide), if_neg (by decide)]; exact if_pos g2
        · rw [if_neg (by decide), if_pos (by decide), if_neg (by decide)]; exact if_pos g2
        · rw [if_neg (by decide), if_pos (by decide), if_neg (by decide)]; exact if_pos g2
        · rw [if_neg (by decide), if_pos (by decide), if_neg (by decide)]; exact if_pos g2
        · rw [if_neg (by decide), if_pos (by decide), if_neg (by decide)]; exact if_pos g2
        · rw [if_neg (by decide), if_neg (by decide), if_neg (by decide)]; exact if_pos g2
        · rw [if_neg (by decide), if_neg (by decide), if_neg (by decide)]; exact if_pos g2
        · rw [if_pos (by decide), if_neg (by decide)]; exact if_pos g2
      · simp only [if_pos q]
        split <;> (try split) <;> rfl
/-! ring -/
def fillM (M : Mem) (k n : Nat) (x : Int32) : Mem := (fun a b => if a = k ∧ b < n then x else M.1 a b, M.2)
theorem rd_fill (M : Mem) (k n a b : Nat) (x : Int32) : rd (fillM M k n x) a b = if a = k ∧ b < n then x else rd M a b := rfl
theorem rdl_fill (M : Mem) (k n a b : Nat) (x : Int32) : rdl (fillM M k n x) a b = rdl M a b := rfl
theorem fill_is {fu k n : Nat} {M : Mem} {x : Int32} (hf : n < fu) (hn : n < 2 ^ 31) : m_J7_fill_53178 fu k n M x = some (fillM M k n x) := by
  have := lp_fn (body := b_J7_fill_53178_5 fu k n x (Int32.ofNat n)) n (fun i => (nI i, fillM M k i x)) (fillM M k n x) (fun i hi => by
    simp only [b_J7_fill_53178_5, un2_is, if_neg (show ¬ Int32.ofNat n ≤ nI i from nI_ge hi hn), inb_nI (n := n) hi (by omega), chk_t, bnd_is, ix_nI (show i < 2 ^ 31 by omega), nI_1]
    congr 3
    unfold wr fillM
    simp only [Prod.mk.injEq, and_true]
    funext a b; grind) (by simp only [b_J7_fill_53178_5, un2_is]; rw [if_pos (show Int32.ofNat n ≤ nI n from nI_le (Nat.le_refl _) hn)]) fu hf
  unfold m_J7_fill_53178
  rw [bnd_is, show ((0 : Int32), M) = (nI 0, fillM M k 0 x) from by
    congr 1
    unfold fillM
    simp, this]
  rfl
def iniV (k j : Nat) : Int32 := if k = 149 then 10 else if k = 151 then nI j else if k = 154 then 99 else if k = 156 ∨ k = 160 ∨ k = 161 then -1 else 0
def begV (V : Vw) (i : Nat) : Vw := fun k j => if 149 ≤ k ∧ k ≤ 161 ∧ j < i then iniV k j else V k j
theorem begin_is {fu R m : Nat} {M : Mem} (hf : 20 ≤ fu) : ∃ M', m_X4_begin fu R M (nI m) = some M' ∧ vC R M' = vs (begV (vC R M) 10) 148 2 (nI m) ∧ ∀ j, j < 10 → rdl M' (R + 36) j = 0 := by
  obtain ⟨x, hx, hp⟩ := lp_up (body := b_X4_begin_7 fu R) 10 (fun i s => s.1 = nI i ∧ vC R s.2 = vs (begV (vC R M) i) 148 2 (nI m) ∧ ∀ j, j < i → rdl s.2 (R + 36) j = 0) (fun x => vC R x = vs (begV (vC R M) 10) 148 2 (nI m) ∧ ∀ j, j < 10 → rdl x (R + 36) j = 0)
    (fun i s hi hs => by
      obtain ⟨s1, s2⟩ := s
      obtain ⟨e1, e2, e3⟩ := hs
      dsimp only at e1 e2 e3
      subst e1
      left
      simp only [b_X4_begin_7, un2_is, if_neg (show ¬ (10 : Int32) ≤ nI i from nI_ge (b := 10) hi (by decide)), inb_nI hi (by decide), chk_t, bnd_is, some_bind, ix_nI (show i < 2 ^ 31 by omega), fill_is (show 9 < fu by omega) (by decide), fill_is (show 4 < fu by omega) (by decide), ix_0, ix_2, ix_3, ix_5, ix_7, ix_8, nI_1]
      refine ⟨_, rfl, rfl, ?_, ?_⟩
      · funext a b
        have e4 := congrFun (congrFun e2 a) b
        simp only [vC, vs, begV, rd_wr, rdl_wr, rd_wrl, rdl_wrl, rd_fill, rdl_fill, iniV] at e4 ⊢
        clear e2 hf
        by_cases hab : 149 ≤ a ∧ a ≤ 162 ∧ b < 10
        · by_cases hb : b = i
          · subst hb
            rcases (by omega : a = 149 ∨ a = 150 ∨ a = 151 ∨ a = 152 ∨ a = 153 ∨ a = 154 ∨ a = 155 ∨ a = 156 ∨ a = 157 ∨ a = 158 ∨ a = 159 ∨ a = 160 ∨ a = 161 ∨ a = 162) with rfl | rfl | rfl | rfl | rfl | rfl | rfl | rfl | rfl | rfl | rfl | rfl | rfl | rfl <;> simp_all <;> grind
          · rcases (by omega : a = 149 ∨ a = 150 ∨ a = 151 ∨ a = 152 ∨ a = 153 ∨ a = 154 ∨ a = 155 ∨ a = 156 ∨ a = 157 ∨ a = 158 ∨ a = 159 ∨ a = 160 ∨ a = 161 ∨ a = 162) with rfl | rfl | rfl | rfl | rfl | rfl | rfl | rfl | rfl | rfl | rfl | rfl | rfl | rfl <;> simp_all <;> grind
        · grind
      · intro j hj
        simp only [rdl_wr, rdl_wrl, rdl_fill]
        by_cases q : j = i
        · subst q; simp
        · rw [if_neg (by omega)]; exact e3 j (by omega))
    (fun s hs => by
      obtain ⟨s1, s2⟩ := s
      obtain ⟨e1, e2, e3⟩ := hs
      dsimp only at e1 e2 e3
      subst e1
      exact ⟨s2, by simp only [b_X4_begin_7, un2_is]; rw [if_pos (show (10 : Int32) ≤ nI 10 from by decide)], e2, e3⟩)
    fu 0 (0, wr M R 0 (nI m)) (by omega) (by omega) ⟨rfl, by
      show vC R (wr M R 0 (nI m)) = _
      rw [w_n]
      congr 1
      funext a b; simp [begV], fun j hj => absurd hj (by omega)⟩
  refine ⟨x, ?_, hp⟩
  unfold m_X4_begin
  rw [bnd_is, hx]; rfl
theorem mring_is {fu : Nat} {M : Mem} (hf : 20 ≤ fu) : ∃ M', lp (b_X6_ring_25 fu) fu (0, M) = some M' ∧ vM M' = begV (vM M) 10 := by
  obtain ⟨x, hx, hp⟩ := lp_up (body := b_X6_ring_25 fu) 10 (fun i s => s.1 = nI i ∧ vM s.2 = begV (vM M) i) (fun x => vM x = begV (vM M) 10)
    (fun i s hi hs => by
      obtain ⟨s1, s2⟩ := s
      obtain ⟨e1, e2⟩ := hs
      dsimp only at e1 e2
      subst e1
      left
      simp only [b_X6_ring_25, un2_is, if_neg (show ¬ (10 : Int32) ≤ nI i from nI_ge (b := 10) hi (by decide)), inb_nI hi (by decide), chk_t, bnd_is, ix_nI (show i < 2 ^ 31 by omega), nI_1]
      refine ⟨_, rfl, rfl, ?_⟩
      funext a b
      have e4 := congrFun (congrFun e2 a) b
      simp only [vM, begV, rd_wr, iniV] at e4 ⊢
      clear e2 hf
      by_cases hab : 149 ≤ a ∧ a ≤ 162 ∧ b < 10
      · rcases (by omega : a = 149 ∨ a = 150 ∨ a = 151 ∨ a = 152 ∨ a = 153 ∨ a = 154 ∨ a = 155 ∨ a = 156 ∨ a = 157 ∨ a = 158 ∨ a = 159 ∨ a = 160 ∨ a = 161 ∨ a = 162) with rfl | rfl | rfl | rfl | rfl | rfl | rfl | rfl | rfl | rfl | rfl | rfl | rfl | rfl <;> simp_all <;> grind
      · grind)
    (fun s hs => by
      obtain ⟨s1, s2⟩ := s
      obtain ⟨e1, e2⟩ := hs
      dsimp only at e1 e2
      subst e1
      exact ⟨s2, by simp only [b_X6_ring_25, un2_is]; rw [if_pos (show (10 : Int32) ≤ nI 10 from by decide)], e2⟩)
    fu 0 (0, M) (by omega) (by omega) ⟨rfl, by
      show vM M = _
      funext a b; simp [begV]⟩
  exact ⟨x, hx, hp⟩
theorem tot_const {V : Vw} {x : Int32} : ∀ {n : Nat}, (∀ f, f < n → V 149 f = x) → tot V n = n * x.toInt
  | 0, _ => by simp [tot]
  | n + 1, h => by unfold tot; rw [tot_const (fun f hf => h f (by omega)), h n (by omega), Int.natCast_add]; simp [Int.add_mul]
theorem Vok.ring {V : Vw} {n m : Nat} {W N : Int} (h : Vok V n W N) (h2 : 2 ≤ m) (h10 : m ≤ 10) (hW : 100 ≤ W) : Vok (vs (begV V 10) 148 2 (nI m)) m W N := by
  obtain ⟨a, b, c, d, e, g, i, j, l, o, p, q⟩ := h
  have r : ∀ a b, a ≠ 148 → vs (begV V 10) 148 2 (nI m) a b = begV V 10 a b := fun a b z => vs_nk z
  have r3 : vs (begV V 10) 148 2 (nI m) 148 3 = V 148 3 := by rw [vs_ne (by omega)]; simp [begV]
  have r162 : ∀ b, begV V 10 162 b = V 162 b := fun b => by simp [begV]
  unfold Vok
  simp only [r 149 _ (by decide), r 150 _ (by decide), r 152 _ (by decide), r 157 _ (by decide), r 158 _ (by decide), r 162 _ (by decide), vs_at, r3, r162]
  refine ⟨⟨trivial, h2, h10⟩, fun f hf => ?_, ?_, fun f hf => ⟨0, by decide, by simp [begV, iniV, hf]; rfl⟩, fun f hf => Or.inl (by simp [begV, iniV, hf]), fun f hf => Or.inl (by simp [begV, iniV, hf]), fun f hf => by simp [begV, iniV, hf], j, l, o, p, q⟩
  · simp [begV, iniV, hf]
  · rw [tot_const (x := 10) (fun f hf => by rw [r 149 _ (by decide)]; simp [begV, iniV, hf])]
    have : (10 : Int32).toInt = 10 := rfl
    omega
theorem op_ring {fu c : Nat} {M : Mem} (hf : 20 ≤ fu) (h : Inv c M) (a : Int32) : ∃ r M1 M2, m_X5_ring fu M a = some (r, M1) ∧ m_X6_ring fu M1 a = some (r, M2) ∧ Inv (c + 1) M2 := by
  by_cases q : ¬ a < 2 ∧ ¬ 10 < a
  · obtain ⟨m, hm, rfl⟩ := arg_nI (a := a) (n := 11) (by grind) (by have e : nI 11 = 11 := rfl; grind) (by decide)
    have h2 : 2 ≤ m := by
      have : ¬ m < 2 := fun z => q.1 (nI_lt (b := 2) z (by decide))
      omega
    obtain ⟨M1, e1, e2, e3⟩ := begin_is (fu := fu) (R := 0) (m := m) (M := M) hf
    have g1 := fr_m_X4_begin e1
    obtain ⟨M2, e4, e5⟩ := mring_is (fu := fu) (M := wr (wr M1 148 0 0) 148 2 (nI m)) hf
    have e6 : m_X6_ring fu M1 (nI m) = some (1, M2) := by
      unfold m_X6_ring
      simp only [bnd_is, isIn_is, some_bind, tf_0]
      rw [if_neg (fun z => z q), e4]; rfl
    have g2 := fr_m_X6_ring e6
    refine ⟨1, M1, M2, ?_, e6, ?_⟩
    · unfold m_X5_ring
      rw [if_neg q.1, if_pos (by grind), e1]; rfl
    · have eC : vC 0 M2 = vs (begV (vC 0 M) 10) 148 2 (nI m) := by
        rw [vC_fr g2 (fun k j z => by unfold w_X6_ring at z; omega) (fun k j z => z.elim)]; exact e2
      have eM : vM M2 = vs (begV (vM M) 10) 148 2 (nI m) := by
        rw [e5]
        have e7 : vM (wr (wr M1 148 0 0) 148 2 (nI m)) = vs (vM M) 148 2 (nI m) := by
          rw [vM_wr (by omega), vM_out (by omega), vM_fr g1 (fun k j z => by unfold w_X4_begin at z; omega)]
        rw [e7]
        funext a b; simp only [begV, vs]; grind
      have ep : ∀ j, j < 10 → rdl M2 (0 + 36) j = 0 := fun j hj => by rw [g2.2 _ _ (fun z => z.elim)]; exact e3 j hj
      have n3 : vC 0 M2 148 3 = vC 0 M 148 3 := by rw [eC, vs_ne (by omega)]; simp [begV]
      obtain ⟨n, L, h1, h2', -⟩ := id h
      have kI : ∀ k j, ¬ w_X4_begin 0 k j → ¬ w_X6_ring k j → rd M2 k j = rd M k j := fun k j z1 z2 => (g2.1 k j z2).trans (g1.1 k j z1)
      refine h.upd (Nat.le_succ c) (fun e => by rw [eC, eM, e]) (fun n hn => ⟨m, by rw [eC]; exact (hn.ring h2 (by omega) (by unfold wI; omega)).mono (by rw [wI_s]; omega) (Int.le_refl _)⟩) (fun _ f hf => ?_) (fun k j z => (g2.2 _ _ (fun y => y.elim)).trans (g1.2 _ _ (fun y => by unfold v_X4_begin at y; omega))) (fun k j z => kI k j (by unfold keepL at z; unfold w_X4_begin; omega) (by unfold keepL at z; unfold w_X6_ring; omega)) (fun k j z => kI k j (by unfold keepX at z; unfold w_X4_begin; omega) (by unfold keepX at z; unfold w_X6_ring; omega)) (fun k j z => kI k j (by unfold keepG at z; unfold w_X4_begin; omega) (by unfold keepG at z; unfold w_X6_ring; omega))
      rw [ep f hf, n3]
      have := h2'.2.2.2.2.2.2.2.2.2.2.1
      have e0 : (0 : Int64).toInt = 0 := rfl
      omega
  · refine ⟨0, M, wr M 148 0 0, ?_, ?_, h.t0⟩
    · unfold m_X5_ring
      by_cases q1 : a < 2
      · rw [if_pos q1]
      · rw [if_neg q1, if_neg (by grind)]
    · unfold m_X6_ring
      simp only [bnd_is, isIn_is, some_bind, tf_0]
      rw [if_pos q]
