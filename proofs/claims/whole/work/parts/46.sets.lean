/-! ===== farm, border, set, was, ring ===== -/
theorem Inv.vfr {c : Nat} {M M' : Mem} {w v : Nat → Nat → Prop} (h : Inv c M) (f : Fr w v M M') (hw : ∀ k j, w k j → k < 28 ∨ (149 ≤ k ∧ k ≤ 162) ∨ (k = 148 ∧ j < 5)) (hv : ∀ k j, v k j → False) (V' : Vw) (hC : vC 0 M' = V') (hM : vM M = vC 0 M → vM M' = V') (hV : ∀ n, Vok (vC 0 M) n (wI c) 9999 → ∃ n', Vok V' n' (wI (c + 1)) 9999) (h3 : V' 148 3 = vC 0 M 148 3) : Inv (c + 1) M' := by
  refine h.upd (Nat.le_succ c) (fun q => by rw [hC, hM q]) (fun n q => by rw [hC]; exact hV n q) (PB_up (fun j => f.2 _ _ (fun z => hv _ _ z)) (by rw [hC]; exact h3)) (f.eql (fun k j z => (hv _ _ z).elim)) (f.eqs (fun k j z => ?_)) (f.eqs (fun k j z => ?_)) (f.eqs (fun k j z => ?_))
  · have := hw k j z; unfold keepL; omega
  · have := hw k j z; unfold keepX; omega
  · have := hw k j z; unfold keepG; omega
section VOK
variable {V : Vw} {n f : Nat} {W N : Int} {x : Int32}
theorem Vok.free (h : Vok V n W N) {k : Nat} (hk : k ≠ 148 ∧ k ≠ 149 ∧ k ≠ 150 ∧ k ≠ 152 ∧ k ≠ 157 ∧ k ≠ 158 ∧ k ≠ 162) : Vok (vs V k f x) n W N := by
  obtain ⟨a, b, c, d, e, g, i, j, l, m, o, p⟩ := h
  obtain ⟨q1, q2, q3, q4, q5, q6, q7⟩ := hk
  have r : ∀ a b, a ≠ k → vs V k f x a b = V a b := fun a b z => vs_nk z
  unfold Vok
  simp only [r 148 _ q1.symm, r 149 _ q2.symm, r 150 _ q3.symm, r 152 _ q4.symm, r 157 _ q5.symm, r 158 _ q6.symm, r 162 _ q7.symm]
  exact ⟨a, b, by rw [tot_same (fun f _ => r 149 f q2.symm)]; exact c, d, e, g, i, j, l, m, o, p⟩
theorem Vok.setW (h : Vok V n W N) (hf : f < 10) (h0 : 0 ≤ x) (h1 : x ≤ 60) : Vok (vs V 149 f x) n (W + 60) N := by
  obtain ⟨a, b, c, d, e, g, i, j, l, m, o, p⟩ := h
  have r : ∀ a b, a ≠ 149 → vs V 149 f x a b = V a b := fun a b z => vs_nk z
  have x0 := I_le.mp h0
  have x1 := I_le.mp h1
  rw [tI_0] at x0
  rw [tI_60] at x1
  unfold Vok
  simp only [r 148 _ (by decide), r 150 _ (by decide), r 152 _ (by decide), r 157 _ (by decide), r 158 _ (by decide), r 162 _ (by decide)]
  refine ⟨a, fun g hg => ?_, ?_, d, e, g, i, j, l, m, o, p⟩
  · rw [vs_if]; split
    · exact x0
    · exact b g hg
  · rw [tot_vs hf]; have := b f hf; omega
theorem Vok.setL (h : Vok V n W N) {k : Nat} (hk : k < 4) : Vok (vs V 150 f (nI k)) n W N := by
  obtain ⟨a, b, c, d, e, g, i, j, l, m, o, p⟩ := h
  have r : ∀ a b, a ≠ 150 → vs V 150 f (nI k) a b = V a b := fun a b z => vs_nk z
  unfold Vok
  simp only [r 148 _ (by decide), r 149 _ (by decide), r 152 _ (by decide), r 157 _ (by decide), r 158 _ (by decide), r 162 _ (by decide)]
  refine ⟨a, b, by rw [tot_same (fun f _ => r 149 f (by decide))]; exact c, fun g hg => ?_, e, g, i, j, l, m, o, p⟩
  rw [vs_if]; split
  · exact ⟨k, hk, rfl⟩
  · exact d g hg
theorem Vok.setD (h : Vok V n W N) (hx : x = 0 ∨ x = 1) : Vok (vs V 152 f x) n W N := by
  obtain ⟨a, b, c, d, e, g, i, j, l, m, o, p⟩ := h
  have r : ∀ a b, a ≠ 152 → vs V 152 f x a b = V a b := fun a b z => vs_nk z
  unfold Vok
  simp only [r 148 _ (by decide), r 149 _ (by decide), r 150 _ (by decide), r 157 _ (by decide), r 158 _ (by decide), r 162 _ (by decide)]
  refine ⟨a, b, by rw [tot_same (fun f _ => r 149 f (by decide))]; exact c, d, fun g hg => ?_, g, i, j, l, m, o, p⟩
  rw [vs_if]; split
  · exact hx
  · exact e g hg
theorem Vok.setWall (h : Vok V n W N) (hx : x = 0 ∨ x = 1) : Vok (vs V 157 f x) n W N := by
  obtain ⟨a, b, c, d, e, g, i, j, l, m, o, p⟩ := h
  have r : ∀ a b, a ≠ 157 → vs V 157 f x a b = V a b := fun a b z => vs_nk z
  unfold Vok
  simp only [r 148 _ (by decide), r 149 _ (by decide), r 150 _ (by decide), r 152 _ (by decide), r 158 _ (by decide), r 162 _ (by decide)]
  refine ⟨a, b, by rw [tot_same (fun f _ => r 149 f (by decide))]; exact c, d, e, fun z hz => ?_, i, j, l, m, o, p⟩
  rw [vs_if]; split
  · exact hx
  · exact g z hz
theorem Vok.setH (h : Vok V n W N) (hx : 0 ≤ x ∧ x ≤ 3) : Vok (vs V 158 f x) n W N := by
  obtain ⟨a, b, c, d, e, g, i, j, l, m, o, p⟩ := h
  have r : ∀ a b, a ≠ 158 → vs V 158 f x a b = V a b := fun a b z => vs_nk z
  unfold Vok
  simp only [r 148 _ (by decide), r 149 _ (by decide), r 150 _ (by decide), r 152 _ (by decide), r 157 _ (by decide), r 162 _ (by decide)]
  refine ⟨a, b, by rw [tot_same (fun f _ => r 149 f (by decide))]; exact c, d, e, g, fun z hz => ?_, j, l, m, o, p⟩
  rw [vs_if]; split
  · exact hx
  · exact i z hz
theorem Vok.setS (h : Vok V n W N) (hx : 0 ≤ x) (h1 : f < 7 → x ≤ 99) (h2 : f < 9 → x ≤ 1000) (h3 : f = 9 → x ≤ 5) : Vok (vs V 162 f x) n W N := by
  obtain ⟨a, b, c, d, e, g, i, j, l, m, o, p⟩ := h
  have r : ∀ a b, a ≠ 162 → vs V 162 f x a b = V a b := fun a b z => vs_nk z
  unfold Vok
  simp only [r 148 _ (by decide), r 149 _ (by decide), r 150 _ (by decide), r 152 _ (by decide), r 157 _ (by decide), r 158 _ (by decide)]
  refine ⟨a, b, by rw [tot_same (fun f _ => r 149 f (by decide))]; exact c, d, e, g, i, fun z hz => ?_, fun z hz => ?_, ?_, o, p⟩
  · rw [vs_if]; split
    · next q => subst q; exact ⟨hx, h2 hz⟩
    · exact j z hz
  · rw [vs_if]; split
    · next q => subst q; exact h1 hz
    · exact l z hz
  · rw [vs_if]; split
    · next q => exact ⟨hx, h3 q.symm⟩
    · exact m
end VOK
theorem wI_s (c : Nat) : wI (c + 1) = wI c + 60 := by unfold wI; omega
theorem op_farm {c : Nat} {M : Mem} (h : Inv c M) (a b x : Int32) : ∃ r M1 M2, m_X5_farm M a b x = some (r, M1) ∧ m_X6_farm M1 a b x = some (r, M2) ∧ Inv (c + 1) M2 := by
  obtain ⟨n, L, h1, h2, -⟩ := id h
  have hV : vC 0 M = vM M := h1.symm
  have hn : vM M 148 2 = nI n := by rw [h1]; exact h2.1.1
  have h10 : n ≤ 10 := h2.1.2.2
  have hc0 : rd M 0 0 = nI n := (c_n hV).trans hn
  by_cases q : ¬ a < 0 ∧ ¬ nI n ≤ a
  · obtain ⟨f, hf, rfl⟩ := arg_nI q.1 q.2 (by omega)
    have hf10 : f < 10 := by omega
    have hb : inb (nI f) 10 = true := inb_nI hf10 (by decide)
    have hx : ix (nI f) = f := ix_nI (by omega)
    have key : ∀ (k p : Nat) (M' : Mem), k = 149 + p → p < 4 → M' = wr (wr (wr M (0 + 8 + f) p x) 148 0 0) k f x → (∀ n, Vok (vC 0 M) n (wI c) 9999 → ∃ n', Vok (vs (vC 0 M) k f x) n' (wI (c + 1)) 9999) → Inv (c + 1) M' := by
      intro k p M' hk hp hM' hv
      have f0 : Fr (fun k j => 8 ≤ k ∧ k < 28 ∨ (149 ≤ k ∧ k ≤ 162) ∨ k = 148 ∧ j = 0) (fun _ _ => False) M M' := by
        rw [hM']; exact ((Fr.wr (by omega)).tr (Fr.wr (by omega))).tr (Fr.wr (by omega))
      refine h.vfr f0 (fun k j z => by omega) (fun _ _ z => z) (vs (vC 0 M) k f x) ?_ (fun e => ?_) hv (vs_nk (by omega))
      · rw [hM', w_out (by omega), w_out (by omega), w_land hf10 (by omega) (by omega), hk]
      · rw [hM', vM_wr (by omega), vM_out (by omega), vM_out (by omega), e]
    have hbad : (¬ (¬ b < 0 ∧ ¬ (nI 4) ≤ b ∧ ¬ x < 0 ∧ ¬ stV 0 (ix b) < x)) → m_X5_farm M (nI f) b x = some (0, M) ∧ m_X6_farm M (nI f) b x = some (0, wr M 148 0 0) := by
      intro z
      have e1 : m_X5_mayBe 0 M b x = some 0 := by
        unfold m_X5_mayBe
        by_cases b1 : b < 0
        · rw [if_pos b1]
        rw [if_neg b1]
        by_cases b2 : Int32.ofNat (stN 0) ≤ b
        · rw [if_pos b2]
        rw [if_neg b2]
        by_cases b3 : x < 0
        · rw [if_pos b3]
        obtain ⟨g, hg, rfl⟩ := arg_nI (n := 4) b1 b2 (by decide)
        rw [if_neg b3, chk_is (inb_nI (n := stN 0) hg (by decide)), if_pos (Classical.not_not.mp (fun w => z ⟨b1, b2, b3, w⟩))]
      constructor
      · unfold m_X5_farm
        simp only [has_is, some_bind, tf_0, hc0, if_neg (fun z : ¬ (¬ nI f < 0 ∧ ¬ nI n ≤ nI f) => z q), e1, if_true]
      · have hm0 : rd (wr M 148 0 0) 148 2 = nI n := by rw [rd_t0 (by omega)]; exact hn
        unfold m_X6_farm j_X6_farm_34
        simp only [bnd_is, isFarm_is, isIn_is, some_bind, tf_0, hm0, if_neg (fun z : ¬ (¬ nI f < 0 ∧ ¬ nI n ≤ nI f) => z q)]
        by_cases b0 : b = 0
        · subst b0
          rw [if_pos rfl, if_neg (by decide), if_pos]
          intro w; exact z ⟨by decide, by decide, w.1, w.2⟩
        rw [if_neg b0]
        by_cases b1 : b = 1
        · subst b1
          rw [if_pos rfl, if_neg (by decide), if_pos]
          intro w; exact z ⟨by decide, by decide, w.1, w.2⟩
        rw [if_neg b1]
        by_cases b2 : b = 2
        · subst b2
          rw [if_pos rfl, if_neg (by decide), if_pos]
          intro w; exact z ⟨by decide, by decide, w.1, w.2⟩
        rw [if_neg b2]
        by_cases b3 : b = 3
        · subst b3
          rw [if_neg (by decide), if_pos]
          intro w; exact z ⟨by decide, by decide, w.1, w.2⟩
        rw [if_pos]
        intro w
        grind
    by_cases g : ¬ b < 0 ∧ ¬ (nI 4) ≤ b ∧ ¬ x < 0 ∧ ¬ stV 0 (ix b) < x
    · obtain ⟨p, hp, rfl⟩ := arg_nI (n := 4) g.1 g.2.1 (by decide)
      have hx0 : 0 ≤ x := by have := g.2.2.1; grind
      rw [ix_nI (by omega)] at g
      have e1 : m_X5_mayBe 0 M (nI p) x = some 1 := by
        unfold m_X5_mayBe
        rw [if_neg g.1, if_neg (show ¬ Int32.ofNat (stN 0) ≤ nI p from g.2.1), if_neg g.2.2.1, chk_is (inb_nI (n := stN 0) hp (by decide)), ix_nI (by omega), if_neg g.2.2.2]
      have e2 : m_X5_farm M (nI f) (nI p) x = some (1, wr M (0 + 8 + f) p x) := by
        unfold m_X5_farm
        simp only [has_is, some_bind, tf_0, hc0, if_neg (fun z : ¬ (¬ nI f < 0 ∧ ¬ nI n ≤ nI f) => z q), e1, hb, chk_t, inb_nI (show p < 9 by omega) (by decide), hx, ix_nI (show p < 2 ^ 31 by omega), bnd_is]
        rfl
      have hm0 : rd (wr (wr M (0 + 8 + f) p x) 148 0 0) 148 2 = nI n := by rw [rd_t0 (by omega), rd_wr, if_neg (by omega)]; exact hn
      refine ⟨1, _, _, e2, ?_, key (149 + p) p _ rfl hp rfl (fun m hm => ?_)⟩
      · unfold m_X6_farm j_X6_farm_34 j_X6_farm_78 j_X6_farm_90 j_X6_farm_102
        simp only [bnd_is, isFarm_is, isIn_is, some_bind, tf_0, hm0, if_neg (fun z : ¬ (¬ nI f < 0 ∧ ¬ nI n ≤ nI f) => z q), hb, chk_t, hx]
        rcases (by omega : p = 0 ∨ p = 1 ∨ p = 2 ∨ p = 3) with rfl | rfl | rfl | rfl
        · have gg : ¬ x < 0 ∧ ¬ 60 < x := ⟨g.2.2.1, g.2.2.2⟩
          simp [show nI 0 = 0 from rfl, gg]
        · have gg : ¬ x < 0 ∧ ¬ 3 < x := ⟨g.2.2.1, g.2.2.2⟩
          simp [show nI 1 = 1 from rfl, gg]
        · have gg : ¬ x < 0 ∧ ¬ 9 < x := ⟨g.2.2.1, g.2.2.2⟩
          simp [show nI 2 = 2 from rfl, gg]
        · have gg : ¬ x < 0 ∧ ¬ 1 < x := ⟨g.2.2.1, g.2.2.2⟩
          simp [show nI 3 = 3 from rfl, gg]
      · refine ⟨m, ?_⟩
        rw [wI_s]
        rcases (by omega : p = 0 ∨ p = 1 ∨ p = 2 ∨ p = 3) with rfl | rfl | rfl | rfl
        · have : ¬ (60 : Int32) < x := g.2.2.2
          exact hm.setW hf10 hx0 (by grind)
        · have : ¬ (3 : Int32) < x := g.2.2.2
          obtain ⟨k, hk, rfl⟩ := arg_nI (n := 4) g.2.2.1 (by have e : nI 4 = 4 := rfl; grind) (by decide)
          exact (hm.setL hk).mono (by omega) (Int.le_refl _)
        · exact (hm.free (by decide)).mono (by omega) (Int.le_refl _)
        · have : ¬ (1 : Int32) < x := g.2.2.2
          exact (hm.setD (by grind)).mono (by omega) (Int.le_refl _)
    · exact ⟨0, _, _, (hbad g).1, (hbad g).2, h.t0⟩
  · refine ⟨0, M, wr M 148 0 0, ?_, ?_, h.t0⟩
    · unfold m_X5_farm
      simp only [has_is, some_bind, tf_0, hc0]
      rw [if_pos q]
    · have hm0 : rd (wr M 148 0 0) 148 2 = nI n := by rw [rd_t0 (by omega)]; exact hn
      unfold m_X6_farm j_X6_farm_34
      simp only [bnd_is, isFarm_is, some_bind, tf_0, hm0, if_pos q]
      split <;> (try split) <;> (try split) <;> rfl
