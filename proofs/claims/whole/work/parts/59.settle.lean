/-! ===== the end of a night; what stays of a view ===== -/
def setS (V : Vw) (D lo : Nat → Int32) (f : Nat) : Vw :=
  if V 149 f = 0 ∧ V 156 f = -1 then vs (vs (vs V 153 f (V 153 f + (worthS V (V 149 f) - costS V f (D f)))) 154 f (if lo f = 0 then (if V 154 f + 1 < 99 then V 154 f + 1 else 99) else 0)) 156 f (V 148 3)
  else vs (vs V 153 f (V 153 f + (worthS V (V 149 f) - costS V f (D f)))) 154 f (if lo f = 0 then (if V 154 f + 1 < 99 then V 154 f + 1 else 99) else 0)
section SET
variable {R n f : Nat} {M : Mem} {V : Vw} {D lo : Nat → Int32} {W N : Int}
theorem csettle_is (hV : vC R M = V) (hf : f < 10) (hD : rd M (R + 5) f = D f) (hlo : rd M (R + 6) f = lo f) : ∃ M', m_X4_settle R M (nI f) = some M' ∧ vC R M' = setS V D lo f ∧ (∀ k j, ¬ (R + 8 ≤ k ∧ k < R + 18) → rd M' k j = rd M k j) ∧ (∀ g, g ≠ f → rdl M' (R + 36) g = rdl M (R + 36) g) ∧ rdl M' (R + 36) f = rdl M (R + 36) f + (worthS V (V 149 f) - costS V f (D f)).toInt64 := by
  have hx := ix_nI (show f < 2 ^ 31 by omega)
  have hp : (rdl M (R + 36) f).toInt32 = V 153 f := c_pur hV hf
  unfold m_X4_settle
  rw [chk_is (inb_nI hf (by decide)), hx, ix_0, c_wide hV hf, cworth_is hV, some_bind, hD, ccost_is hV hf, some_bind, bnd_e]
  generalize hw : worthS V (V 149 f) - costS V f (D f) = w
  have eV : vC R (wrl M (R + 36) f (rdl M (R + 36) f + w.toInt64)) = vs V 153 f (V 153 f + w) := by rw [w_pur hf, hV, l_add, hp]
  have k1 : ∀ k j, rd (wrl M (R + 36) f (rdl M (R + 36) f + w.toInt64)) k j = rd M k j := fun _ _ => rfl
  have kf : rdl (wrl M (R + 36) f (rdl M (R + 36) f + w.toInt64)) (R + 36) f = rdl M (R + 36) f + w.toInt64 := by rw [rdl_wrl, if_pos ⟨rfl, rfl⟩]
  have kg : ∀ g, g ≠ f → rdl (wrl M (R + 36) f (rdl M (R + 36) f + w.toInt64)) (R + 36) g = rdl M (R + 36) g := fun g hg => by rw [rdl_wrl, if_neg (fun z => hg z.2)]
  generalize wrl M (R + 36) f (rdl M (R + 36) f + w.toInt64) = M1 at eV k1 kf kg
  have tail : ∀ h2 : Int32, ∃ M', j_X4_settle_61 R M1 (R + 8 + f) (R + 8 + f) 5 h2 = some M' ∧ vC R M' = (if V 149 f = 0 ∧ V 156 f = -1 then vs (vs (vs V 153 f (V 153 f + w)) 154 f h2) 156 f (V 148 3) else vs (vs V 153 f (V 153 f + w)) 154 f h2) ∧ (∀ k j, ¬ (R + 8 ≤ k ∧ k < R + 18) → rd M' k j = rd M k j) ∧ (∀ g, g ≠ f → rdl M' (R + 36) g = rdl M (R + 36) g) ∧ rdl M' (R + 36) f = rdl M (R + 36) f + w.toInt64 := by
    intro h2
    have e2 : vC R (wr M1 (R + 8 + f) 5 h2) = vs (vs V 153 f (V 153 f + w)) 154 f h2 := by rw [w_land hf (by decide) (by decide), eV]
    have q0 : vs (vs V 153 f (V 153 f + w)) 154 f h2 149 f = V 149 f := by rw [vs_nk (by decide), vs_nk (by decide)]
    have q7 : vs (vs V 153 f (V 153 f + w)) 154 f h2 156 f = V 156 f := by rw [vs_nk (by decide), vs_nk (by decide)]
    have q3 : vs (vs V 153 f (V 153 f + w)) 154 f h2 148 3 = V 148 3 := by rw [vs_nk (by decide), vs_nk (by decide)]
    unfold j_X4_settle_61
    rw [chk_is (by decide), ix_5, bnd_e, ix_0, ix_7, c_wide e2 hf, c_eat e2 hf, c_ni e2, q0, q7, q3]
    have o : ∀ k j, ¬ (R + 8 ≤ k ∧ k < R + 18) → rd (wr M1 (R + 8 + f) 5 h2) k j = rd M k j := fun k j q => by rw [rd_we, if_neg (by omega)]; exact k1 k j
    by_cases a : V 149 f = 0
    · by_cases b : V 156 f = -1
      · rw [if_pos a, if_pos b, if_pos ⟨a, b⟩, bnd_e]
        exact ⟨_, rfl, by rw [w_land hf (by decide) (by decide), e2], fun k j q => by rw [rd_we, if_neg (by omega)]; exact o k j q, fun g hg => kg g hg, kf⟩
      · rw [if_pos a, if_neg b, if_neg (fun z => b z.2)]
        exact ⟨_, rfl, e2, o, fun g hg => kg g hg, kf⟩
    · rw [if_neg a, if_neg (fun z => a z.1)]
      exact ⟨_, rfl, e2, o, fun g hg => kg g hg, kf⟩
  rw [k1, hlo, ix_5, show rd M1 (R + 8 + f) 5 = V 154 f from (k1 _ _).trans (c_hit hV hf)]
  unfold setS
  rw [hw]
  by_cases z : lo f = 0
  · rw [if_pos z, if_pos z]; exact tail _
  · rw [if_neg z, if_neg z]; exact tail _
theorem msettle_is {fu : Nat} (hV : vM M = V) (h : Vok V n W N) (hf : f < n) (hD : rd M 174 f = D f) (hlo : rd M 175 f = lo f) : ∃ M', b_X6_goesBy_98 fu (nI f, M) = some (.inl (nI (f + 1), M')) ∧ vM M' = setS V D lo f ∧ (∀ j, rd M' 174 j = rd M 174 j) ∧ ∀ j, rd M' 175 j = rd M 175 j := by
  have h10 := h.1.2.2
  have hf10 : f < 10 := by omega
  have hx := ix_nI (show f < 2 ^ 31 by omega)
  have hb := inb_nI hf10 (by decide : 10 ≤ 2 ^ 31)
  have hw0 := h.wide hf10
  have hdog := h.2.2.2.2.1 f hf10
  have fin : ∀ (h2 p : Int32), ∃ M', j_X6_goesBy_223i fu (wr M 153 f p) (nI f) (nI f) h2 = some (.inl (nI (f + 1), M')) ∧ vM M' = (if V 149 f = 0 ∧ V 156 f = -1 then vs (vs (vs V 153 f p) 154 f h2) 156 f (V 148 3) else vs (vs V 153 f p) 154 f h2) ∧ (∀ j, rd M' 174 j = rd M 174 j) ∧ ∀ j, rd M' 175 j = rd M 175 j := by
    intro h2 p
    have e2 : vM (wr (wr M 153 f p) 154 f h2) = vs (vs V 153 f p) 154 f h2 := by rw [vM_wr (by omega), vM_wr (by omega), hV]
    have q0 : vs (vs V 153 f p) 154 f h2 149 f = V 149 f := by rw [vs_nk (by decide), vs_nk (by decide)]
    have q7 : vs (vs V 153 f p) 154 f h2 156 f = V 156 f := by rw [vs_nk (by decide), vs_nk (by decide)]
    have q3 : vs (vs V 153 f p) 154 f h2 148 3 = V 148 3 := by rw [vs_nk (by decide), vs_nk (by decide)]
    unfold j_X6_goesBy_223i
    rw [chk_is hb, hx, bnd_e, chk_is hb, m_at e2 (k := 149) (by decide) (by decide) hf10, m_at e2 (k := 156) (by decide) (by decide) hf10, m_ni e2, q0, q7, q3]
    simp only [bnd_e, nI_1]
    have o : ∀ k j, k ≠ 153 → k ≠ 154 → rd (wr (wr M 153 f p) 154 f h2) k j = rd M k j := fun k j q r => by rw [rd_we, if_neg (fun z => r z.1), rd_we, if_neg (fun z => q z.1)]
    by_cases a : V 149 f = 0
    · by_cases b : V 156 f = -1
      · rw [if_pos a, if_pos b, if_pos ⟨a, b⟩]
        exact ⟨_, rfl, by rw [vM_wr (by omega), e2], fun j => by rw [rd_we, if_neg (by omega)]; exact o _ j (by decide) (by decide), fun j => by rw [rd_we, if_neg (by omega)]; exact o _ j (by decide) (by decide)⟩
      · rw [if_pos a, if_neg b, if_neg (fun z => b z.2)]
        exact ⟨_, rfl, e2, fun j => o _ j (by decide) (by decide), fun j => o _ j (by decide) (by decide)⟩
    · rw [if_neg a, if_neg (fun z => a z.1)]
      exact ⟨_, rfl, e2, fun j => o _ j (by decide) (by decide), fun j => o _ j (by decide) (by decide)⟩
  have mid : ∀ (p c : Int32), ∃ M', j_X6_goesBy_189i fu M (nI f) (nI f) p c = some (.inl (nI (f + 1), M')) ∧ vM M' = (if V 149 f = 0 ∧ V 156 f = -1 then vs (vs (vs V 153 f (p - c)) 154 f (if lo f = 0 then (if V 154 f + 1 < 99 then V 154 f + 1 else 99) else 0)) 156 f (V 148 3) else vs (vs V 153 f (p - c)) 154 f (if lo f = 0 then (if V 154 f + 1 < 99 then V 154 f + 1 else 99) else 0)) ∧ (∀ j, rd M' 174 j = rd M 174 j) ∧ ∀ j, rd M' 175 j = rd M 175 j := by
    intro p c
    unfold j_X6_goesBy_189i
    have r1 : rd (wr M 153 f (p - c)) 175 f = lo f := by rw [rd_we, if_neg (by omega)]; exact hlo
    have r2 : rd (wr M 153 f (p - c)) 154 f = V 154 f := by rw [rd_we, if_neg (by omega)]; exact m_at hV (k := 154) (by decide) (by decide) hf10
    rw [chk_is hb, hx, bnd_e, chk_is hb, r1, r2, less_is, some_bind]
    have e : (if V 154 f + 1 ≤ 99 then V 154 f + 1 else 99) = (if V 154 f + 1 < 99 then V 154 f + 1 else 99) := by grind
    by_cases z : lo f = 0
    · rw [if_pos z, if_pos z, e]; exact fin _ _
    · rw [if_neg z, if_neg z]; exact fin _ _
  have top : ∀ t : Int32, t = (if D f = 1 then V 162 4 else if D f = 0 then 0 else V 162 3) → ∃ M', j_X6_goesBy_144i fu M (nI f) t = some (.inl (nI (f + 1), M')) ∧ vM M' = setS V D lo f ∧ (∀ j, rd M' 174 j = rd M 174 j) ∧ ∀ j, rd M' 175 j = rd M 175 j := by
    intro t ht
    unfold j_X6_goesBy_144i setS costS
    rw [chk_is hb, hx, m_at hV (k := 149) (by decide) (by decide) hf10, mworth_is hV hw0, some_bind, m_at hV (k := 152) (by decide) (by decide) hf10, m_at hV (k := 153) (by decide) (by decide) hf10, ix_5, m_at hV (k := 162) (by decide) (by decide) (by decide), ← ht]
    rcases hdog with e | e
    · have r : V 153 f + (worthS V (V 149 f) - ((if V 152 f = 0 then 0 else V 162 5) + t)) = ((V 153 f + worthS V (V 149 f)) - t) - 0 := by rw [if_pos e]; grind
      rw [r, if_neg (by rw [e]; decide)]; exact mid _ _
    · have r : V 153 f + (worthS V (V 149 f) - ((if V 152 f = 0 then 0 else V 162 5) + t)) = ((V 153 f + worthS V (V 149 f)) - t) - V 162 5 := by rw [if_neg (by rw [e]; decide)]; grind
      rw [r, if_pos e]; exact mid _ _
  unfold b_X6_goesBy_98
  rw [un2_is, (m_n hV).trans h.1.1, if_neg (nI_ge hf (by omega)), chk_is hb, hx, hD, ix_4, ix_3, m_at hV (k := 162) (f := 4) (by decide) (by decide) (by decide), m_at hV (k := 162) (f := 3) (by decide) (by decide) (by decide)]
  by_cases a : D f = 1
  · rw [if_pos a]; exact top _ (by rw [if_pos a])
  · rw [if_neg a]
    by_cases b : D f = 0
    · rw [if_pos b]; exact top _ (by rw [if_neg a, if_pos b])
    · rw [if_neg b]; exact top _ (by rw [if_neg a, if_neg b])
end SET
/-! what stays -/
section STAY
variable {V : Vw} {n f b o : Nat} {W N : Int} {D lo : Nat → Int32}
theorem Vok.sc (h : Vok V n W N) {j : Nat} {x : Int32} (hj : j ≠ 2 ∧ j ≠ 3) : Vok (vs V 148 j x) n W N := by
  obtain ⟨a, b, c, d, e, g, i, k, l, m, p, q⟩ := h
  have r : ∀ a b, a ≠ 148 → vs V 148 j x a b = V a b := fun a b z => vs_nk z
  have r2 : vs V 148 j x 148 2 = V 148 2 := vs_ne (fun z => hj.1 z.2.symm)
  have r3 : vs V 148 j x 148 3 = V 148 3 := vs_ne (fun z => hj.2 z.2.symm)
  unfold Vok
  simp only [r2, r3, r 149 _ (by decide), r 150 _ (by decide), r 152 _ (by decide), r 157 _ (by decide), r 158 _ (by decide), r 162 _ (by decide)]
  exact ⟨a, b, by rw [tot_same (fun f _ => r 149 f (by decide))]; exact c, d, e, g, i, k, l, m, p, q⟩
theorem Vok.shift {g : Int32} (h : Vok V n W N) (hW : W ≤ 100000) (hf : f < 10) (ho : o < 10) (hfo : f ≠ o) (h0 : 0 ≤ g) (h1 : g ≤ V 149 o) : Vok (vs (vs V 149 o (V 149 o - g)) 149 f (V 149 f + g)) n W N := by
  have wo := V_le h ho
  have wf := V_le h hf
  obtain ⟨a, b, c, d, e, p, i, k, l, m, q, s⟩ := h
  have r : ∀ x y, x ≠ 149 → vs (vs V 149 o (V 149 o - g)) 149 f (V 149 f + g) x y = V x y := fun x y z => by rw [vs_nk z, vs_nk z]
  have bo := b o ho
  have bf := b f hf
  have g0 := I_le.mp h0
  have g1 := I_le.mp h1
  rw [tI_0] at g0
  have e1 : (V 149 o - g).toInt = (V 149 o).toInt - g.toInt := I_sub (by omega) (by omega)
  have e2 : (V 149 f + g).toInt = (V 149 f).toInt + g.toInt := I_add (by omega) (by omega)
  unfold Vok
  simp only [r 148 _ (by decide), r 150 _ (by decide), r 152 _ (by decide), r 157 _ (by decide), r 158 _ (by decide), r 162 _ (by decide)]
  refine ⟨a, fun x hx => ?_, ?_, d, e, p, i, k, l, m, q, s⟩
  · rw [vs_if]; split
    · rw [e2]; omega
    · rw [vs_if]; split
      · rw [e1]; omega
      · exact b x hx
  · rw [tot_vs hf, vs_ne (fun z => hfo z.2), tot_vs ho, e1, e2]; omega
theorem mnS_le {a b : Int32} : mnS a b ≤ b := by unfold mnS; grind
theorem mnS_nn {a b : Int32} (ha : 0 ≤ a) (hb : 0 ≤ b) : 0 ≤ mnS a b := by unfold mnS; grind
theorem Vok.push (h : Vok V n W N) : Vok (pushS V f b) n W N := (h.free (by decide)).free (by decide)
theorem Vok.move (h : Vok V n W N) (hW : W ≤ 100000) (hf : f < 10) (ho : o < 10) (hfo : f ≠ o) : Vok (moveS V f b o) n W N := by
  have h9 := h.2.2.2.2.2.2.2.2.2.1
  have h1 : Vok (vs V 159 b 0) n W N := h.free (by decide)
  have q : vs (vs (vs V 159 b 0) 149 o (vs V 159 b 0 149 o - mnS (V 162 9) (V 149 o))) 149 f (vs V 159 b 0 149 f + mnS (V 162 9) (V 149 o)) = vs (vs (vs V 159 b 0) 149 o (V 149 o - mnS (V 162 9) (V 149 o))) 149 f (V 149 f + mnS (V 162 9) (V 149 o)) := by rw [vs_nk (a := 149) (k := 159) (by decide), vs_nk (a := 149) (k := 159) (by decide)]
  have h2 := h1.shift hW hf ho hfo (g := mnS (V 162 9) (V 149 o)) (mnS_nn h9.1 (h.wide ho)) (by rw [vs_nk (by decide)]; exact mnS_le)
  rw [q] at h2
  exact h2.sc ⟨by decide, by decide⟩
theorem Vok.creep (h : Vok V n W N) (hW : W ≤ 100000) (hf : f < 10) (ho : o < 10) (hfo : f ≠ o) : Vok (creepS V D f b o).1 n W N := by
  have hs : Vok (stopS V D o).1 n W N := by
    have e : Vok (drwS V) n W N := h.sc ⟨by decide, by decide⟩
    unfold stopS
    split
    · exact e
    · split
      · exact h
      · exact e
  unfold creepS
  split
  · unfold goS
    split
    · exact ((hs.free (by decide)).free (by decide)).free (by decide)
    · split
      · exact hs.push
      · exact hs.push.move hW hf ho hfo
  · exact h
theorem settle_ok (h : Vok V n W N) : Vok (setS V D lo f) n W N := by
  unfold setS
  split
  · exact ((h.free (by decide)).free (by decide)).free (by decide)
  · exact (h.free (by decide)).free (by decide)
theorem Vok.night (h : Vok V n W N) (hN : N ≤ 100000) : Vok (vs V 148 3 (V 148 3 + 1)) n W (N + 1) := by
  obtain ⟨a, b, c, d, e, g, i, k, l, m, p, q⟩ := h
  have r : ∀ x y, x ≠ 148 → vs V 148 3 (V 148 3 + 1) x y = V x y := fun x y z => vs_nk z
  have r2 : vs V 148 3 (V 148 3 + 1) 148 2 = V 148 2 := vs_ne (by decide)
  have e1 : (V 148 3 + 1).toInt = (V 148 3).toInt + 1 := by rw [I_add (by rw [tI_1]; omega) (by rw [tI_1]; omega), tI_1]
  unfold Vok
  simp only [r2, vs_at, r 149 _ (by decide), r 150 _ (by decide), r 152 _ (by decide), r 157 _ (by decide), r 158 _ (by decide), r 162 _ (by decide)]
  refine ⟨a, b, by rw [tot_same (fun f _ => r 149 f (by decide))]; exact c, d, e, g, i, k, l, m, by rw [e1]; omega, by rw [e1]; omega⟩
end STAY
/-! how much a night brings -/
theorem sI_nn {x : Int32} (h0 : 0 ≤ x) (h1 : x ≤ 99) : ∃ k, k ≤ 99 ∧ x = nI k := nI_of_le (m := 99) h0 h1 (by decide)
theorem worthN (V : Vw) {k : Nat} (hk : k < 2 ^ 20) : worthS V (nI k) = V 162 0 * nI (min k 10) + V 162 1 * nI (min k 30 - min k 10) + V 162 2 * nI (k - min k 30) := by
  unfold worthS
  rw [show (10 : Int32) = nI 10 from rfl, show (30 : Int32) = nI 30 from rfl, show (0 : Int32) = nI 0 from rfl]
  by_cases h1 : 10 < k
  · by_cases h2 : 30 < k
    · rw [if_pos (nI_lt h1 (by omega)), if_pos (nI_lt h2 (by omega)), pk_sub (by decide), if_pos (nI_lt (by decide) (by decide)), pk_sub (by omega), if_pos (nI_lt (by omega) (by omega)), Nat.min_eq_right (by omega), Nat.min_eq_right (by omega)]
    · rw [if_pos (nI_lt h1 (by omega)), if_neg (nI_nlt (by omega) (by decide)), pk_sub (by omega), if_pos (nI_lt (by omega) (by omega)), Nat.min_eq_right (by omega), Nat.min_eq_left (by omega), Nat.sub_self]
      by_cases h3 : k = 30
      · subst h3
        rw [pk_sub (Nat.le_refl _), if_neg (nI_nlt (by decide) (by decide))]
      · rw [if_neg]
        intro h
        have q := I_lt.mp h
        rw [pk_sub_toInt (by omega) (by omega), nI_toInt (by decide)] at q
        omega
  · rw [if_neg (nI_nlt (by omega) (by decide)), if_neg (nI_nlt (by omega) (by decide)), Nat.min_eq_left (by omega), Nat.min_eq_left (by omega), Nat.sub_self]
    have a1 : ¬ nI 0 < nI k - nI 10 := by
      intro h
      have q := I_lt.mp h
      rw [pk_sub_toInt (by omega) (by omega), nI_toInt (by decide)] at q
      omega
    have a2 : ¬ nI 0 < nI k - nI 30 := by
      intro h
      have q := I_lt.mp h
      rw [pk_sub_toInt (by omega) (by omega), nI_toInt (by decide)] at q
      omega
    rw [if_neg a1, if_neg a2]
theorem worth_bd {V : Vw} {n : Nat} {W N : Int} (h : Vok V n W N) {w : Int32} (h0 : 0 ≤ w.toInt) (h1 : w.toInt ≤ 100000) : ∃ s : Nat, worthS V w = nI s ∧ (s : Int) ≤ 99 * w.toInt := by
  have st := h.2.2.2.2.2.2.2.1
  have s9 := h.2.2.2.2.2.2.2.2.1
  obtain ⟨k, hk, rfl⟩ := nI_of_le (x := w) (m := 100000) (I_le.mpr h0) (I_le.mpr h1) (by decide)
  obtain ⟨t0, a0, b0⟩ := sI_nn (st 0 (by decide)).1 (s9 0 (by decide))
  obtain ⟨t1, a1, b1⟩ := sI_nn (st 1 (by decide)).1 (s9 1 (by decide))
  obtain ⟨t2, a2, b2⟩ := sI_nn (st 2 (by decide)).1 (s9 2 (by decide))
  rw [worthN V (by omega), b0, b1, b2, pk_mul, pk_mul, pk_mul, nI_add, nI_add, nI_toInt (by omega)]
  refine ⟨_, rfl, ?_⟩
  have c0 : t0 * min k 10 ≤ 99 * min k 10 := Nat.mul_le_mul_right _ a0
  have c1 : t1 * (min k 30 - min k 10) ≤ 99 * (min k 30 - min k 10) := Nat.mul_le_mul_right _ a1
  have c2 : t2 * (k - min k 30) ≤ 99 * (k - min k 30) := Nat.mul_le_mul_right _ a2
  have : min k 10 + (min k 30 - min k 10) + (k - min k 30) = k := by omega
  omega
theorem cost_bd {V : Vw} {n f : Nat} {W N : Int} (h : Vok V n W N) {d : Int32} : ∃ s : Nat, costS V f d = nI s ∧ s ≤ 198 := by
  have st := h.2.2.2.2.2.2.2.1
  have s9 := h.2.2.2.2.2.2.2.2.1
  obtain ⟨t3, a3, b3⟩ := sI_nn (st 3 (by decide)).1 (s9 3 (by decide))
  obtain ⟨t4, a4, b4⟩ := sI_nn (st 4 (by decide)).1 (s9 4 (by decide))
  obtain ⟨t5, a5, b5⟩ := sI_nn (st 5 (by decide)).1 (s9 5 (by decide))
  unfold costS
  rw [b3, b4, b5]
  have e1 : ∃ a, a ≤ 99 ∧ (if V 152 f = 0 then 0 else nI t5) = nI a := by
    split
    · exact ⟨0, by decide, rfl⟩
    · exact ⟨t5, a5, rfl⟩
  have e2 : ∃ a, a ≤ 99 ∧ (if d = 1 then nI t4 else if d = 0 then 0 else nI t3) = nI a := by
    split
    · exact ⟨t4, a4, rfl⟩
    · split
      · exact ⟨0, by decide, rfl⟩
      · exact ⟨t3, a3, rfl⟩
  obtain ⟨a, ha, ea⟩ := e1
  obtain ⟨b, hb, eb⟩ := e2
  rw [ea, eb, nI_add]
  exact ⟨a + b, rfl, by omega⟩
theorem net_bd {V : Vw} {n f : Nat} {W N : Int} (h : Vok V n W N) (hW : W ≤ 100000) (hf : f < 10) {d : Int32} : -198 ≤ (worthS V (V 149 f) - costS V f d).toInt ∧ (worthS V (V 149 f) - costS V f d).toInt ≤ 99 * (V 149 f).toInt := by
  obtain ⟨s, e1, e2⟩ := worth_bd h (h.2.1 f hf) (Int.le_trans (V_le h hf) hW)
  obtain ⟨c, e3, e4⟩ := cost_bd (f := f) (d := d) h
  have := V_le h hf
  rw [e1, e3, pk_sub_toInt (by omega) (by omega)]
  omega
