/-! ===== what is put aside ===== -/
def pkN (q : Nat) : Nat := if q < 4 then 148 else if (q - 4) % 14 = 0 then 162 else 148 + (q - 4) % 14
def pjN (q : Nat) : Nat := if q < 4 then q + 1 else (q - 4) / 14
def qN (k j : Nat) : Nat := if k = 148 then j - 1 else if k = 162 then 4 + 14 * j else 4 + 14 * j + (k - 148)
theorem qN_is {k j : Nat} (h : k = 148 ∧ 1 ≤ j ∧ j ≤ 4 ∨ 149 ≤ k ∧ k ≤ 162 ∧ j < 10) : qN k j < 144 ∧ pkN (qN k j) = k ∧ pjN (qN k j) = j := by
  unfold qN pkN pjN
  by_cases a : k = 148
  · simp only [if_pos a]
    rw [if_pos (by omega), if_pos (by omega)]; omega
  · by_cases b : k = 162
    · simp only [if_neg a, if_pos b]
      rw [if_neg (by omega), if_pos (by omega), if_neg (by omega)]; omega
    · simp only [if_neg a, if_neg b]
      rw [if_neg (by omega), if_neg (by omega), if_neg (by omega)]; omega
theorem pos_in {p : Nat} (hp : p < 144) : pkN p = 148 ∧ 1 ≤ pjN p ∧ pjN p ≤ 4 ∨ 149 ≤ pkN p ∧ pkN p ≤ 162 ∧ pjN p < 10 := by
  unfold pkN pjN
  by_cases a : p < 4
  · rw [if_pos a, if_pos a]; omega
  · rw [if_neg a, if_neg a]
    by_cases b : (p - 4) % 14 = 0
    · rw [if_pos b]; omega
    · rw [if_neg b]; omega
theorem pos_ne {p q : Nat} (hp : p < 144) (h : q < p) : ¬ (pkN q = pkN p ∧ pjN q = pjN p) := by
  unfold pkN pjN
  by_cases a : p < 4
  · rw [if_pos a, if_pos a, if_pos (by omega), if_pos (by omega)]; omega
  · rw [if_neg a, if_neg a]
    by_cases c : q < 4
    · rw [if_pos c, if_pos c]
      by_cases b : (p - 4) % 14 = 0
      · rw [if_pos b]; omega
      · rw [if_neg b]; omega
    · rw [if_neg c, if_neg c]
      by_cases b : (p - 4) % 14 = 0
      · by_cases d : (q - 4) % 14 = 0
        · rw [if_pos b, if_pos d]; omega
        · rw [if_pos b, if_neg d]; omega
      · by_cases d : (q - 4) % 14 = 0
        · rw [if_neg b, if_pos d]; omega
        · rw [if_neg b, if_neg d]; omega
theorem pos_0 (c : Nat) : pkN (4 + 14 * c) = 162 ∧ pjN (4 + 14 * c) = c := by
  unfold pkN pjN
  rw [if_neg (by omega), if_pos (by omega), if_neg (by omega)]; omega
theorem pos_i {c i : Nat} (h0 : 0 < i) (h : i < 14) : pkN (4 + 14 * c + i) = 148 + i ∧ pjN (4 + 14 * c + i) = c := by
  unfold pkN pjN
  rw [if_neg (by omega), if_neg (by omega), if_neg (by omega)]; omega
def AStep (P : Nat → Mem → Prop) : Prop := ∀ p M, p < 144 → P p M → ∃ M', P (p + 1) M' ∧ ∀ {β : Type} (F : Mem → Option β), (m_X6_putAside M (rd M (pkN p) (pjN p))).bind (un2 fun r M1 => bnd (wr M1 (pkN p) (pjN p) r) F) = F M'
theorem AStep.at {P : Nat → Mem → Prop} (h : AStep P) {p k j : Nat} {M : Mem} (hq : P p M) (hp : p < 144) (hk : pkN p = k) (hj : pjN p = j) : ∃ M', P (p + 1) M' ∧ ∀ {β : Type} (F : Mem → Option β), (m_X6_putAside M (rd M k j)).bind (un2 fun r M1 => bnd (wr M1 k j r) F) = F M' := by
  subst hk; subst hj; exact h p M hp hq
theorem AStep.row {P : Nat → Mem → Prop} (h : AStep P) {c i k : Nat} {M : Mem} (hq : P (4 + 14 * c + i) M) (hc : c < 10) (h0 : 0 < i) (hi : i < 14) (hk : 148 + i = k) : ∃ M', P (4 + 14 * c + (i + 1)) M' ∧ ∀ {β : Type} (F : Mem → Option β), (m_X6_putAside M (rd M k c)).bind (un2 fun r M1 => bnd (wr M1 k c r) F) = F M' :=
  h.at (p := 4 + 14 * c + i) hq (by omega) ((pos_i h0 hi).1.trans hk) (pos_i h0 hi).2
theorem asides_is {P : Nat → Mem → Prop} {fu : Nat} {a : Int32} {M : Mem} (hfu : 20 ≤ fu) (h : AStep P) (ha : isB a = true) (h0 : P 0 (wr (wr M 148 48 a) 148 49 0)) : ∃ M', m_X6_asides fu M a = some M' ∧ P 144 M' := by
  obtain ⟨M1, p1, e1⟩ := h.at h0 (by decide) (k := 148) (j := 1) rfl rfl
  obtain ⟨M2, p2, e2⟩ := h.at p1 (by decide) (k := 148) (j := 2) rfl rfl
  obtain ⟨M3, p3, e3⟩ := h.at p2 (by decide) (k := 148) (j := 3) rfl rfl
  obtain ⟨M4, p4, e4⟩ := h.at p3 (by decide) (k := 148) (j := 4) rfl rfl
  obtain ⟨M', e, r⟩ := lp_up (body := b_X6_asides_60 fu) 10 (fun i s => ∃ M1, s = (nI i, M1) ∧ P (4 + 14 * i) M1) (fun M' => P 144 M') (by
    rintro i s hi ⟨N0, rfl, q0⟩
    left
    have hx := ix_nI (show i < 2 ^ 31 by omega)
    have hb := inb_nI hi (by decide : 10 ≤ 2 ^ 31)
    obtain ⟨N1, r1, f1⟩ := h.at q0 (by omega) (pos_0 i).1 (pos_0 i).2
    obtain ⟨N2, r2, f2⟩ := h.row (i := 1) (k := 149) r1 hi (by decide) (by decide) rfl
    obtain ⟨N3, r3, f3⟩ := h.row (i := 2) (k := 150) r2 hi (by decide) (by decide) rfl
    obtain ⟨N4, r4, f4⟩ := h.row (i := 3) (k := 151) r3 hi (by decide) (by decide) rfl
    obtain ⟨N5, r5, f5⟩ := h.row (i := 4) (k := 152) r4 hi (by decide) (by decide) rfl
    obtain ⟨N6, r6, f6⟩ := h.row (i := 5) (k := 153) r5 hi (by decide) (by decide) rfl
    obtain ⟨N7, r7, f7⟩ := h.row (i := 6) (k := 154) r6 hi (by decide) (by decide) rfl
    obtain ⟨N8, r8, f8⟩ := h.row (i := 7) (k := 155) r7 hi (by decide) (by decide) rfl
    obtain ⟨N9, r9, f9⟩ := h.row (i := 8) (k := 156) r8 hi (by decide) (by decide) rfl
    obtain ⟨N10, r10, f10⟩ := h.row (i := 9) (k := 157) r9 hi (by decide) (by decide) rfl
    obtain ⟨N11, r11, f11⟩ := h.row (i := 10) (k := 158) r10 hi (by decide) (by decide) rfl
    obtain ⟨N12, r12, f12⟩ := h.row (i := 11) (k := 159) r11 hi (by decide) (by decide) rfl
    obtain ⟨N13, r13, f13⟩ := h.row (i := 12) (k := 160) r12 hi (by decide) (by decide) rfl
    obtain ⟨N14, r14, f14⟩ := h.row (i := 13) (k := 161) r13 hi (by decide) (by decide) rfl
    refine ⟨(nI (i + 1), N14), ?_, N14, rfl, ?_⟩
    · unfold b_X6_asides_60
      rw [un2_is, if_neg (show ¬ (10 : Int32) ≤ nI i from nI_ge hi (by decide)), chk_is hb, hx, f1, f2, f3, f4, f5, f6, f7, f8, f9, f10, f11, f12, f13, f14, bnd_e, nI_1]
    · rw [show 4 + 14 * (i + 1) = 4 + 14 * i + (13 + 1) by omega]; exact r14) (by
    rintro s ⟨N0, rfl, q0⟩
    refine ⟨N0, ?_, q0⟩
    unfold b_X6_asides_60
    rw [un2_is, if_pos (show (10 : Int32) ≤ nI 10 from nI_le (Nat.le_refl _) (by decide))]) fu 0 (0, M4) (Nat.zero_le _) (by omega) ⟨M4, rfl, p4⟩
  refine ⟨M', ?_, r⟩
  unfold m_X6_asides
  rw [chk_is ha, bnd_e, bnd_e, e1, e2, e3, e4, e, some_bind, un1_is]
/-- put aside -/
def AsS (M0 : Mem) (p : Nat) (M : Mem) : Prop := rd M 148 48 = 1 ∧ rd M 148 49 = nI p ∧ (∀ k j, k ≠ 180 → ¬ (k = 148 ∧ (j = 48 ∨ j = 49)) → rd M k j = rd M0 k j) ∧ (∀ q, q < p → rd M 180 q = rd M0 (pkN q) (pjN q)) ∧ ∀ k j, rdl M k j = rdl M0 k j
/-- taken back -/
def AsR (M0 : Mem) (p : Nat) (M : Mem) : Prop := rd M 148 48 = 0 ∧ rd M 148 49 = nI p ∧ (∀ j, rd M 180 j = rd M0 180 j) ∧ (∀ q, q < p → rd M (pkN q) (pjN q) = rd M0 180 q) ∧ ∀ k j, rdl M k j = rdl M0 k j
theorem nI_s1 (p : Nat) : nI (p + 1) - 1 = nI p := by rw [← nI_1]; grind
theorem asS_step (M0 : Mem) : AStep (AsS M0) := by
  intro p M hp h
  have z := pos_in hp
  obtain ⟨a, b, d, e, g⟩ := h
  generalize hK : pkN p = K at *
  generalize hJ : pjN p = J at *
  have r49 : rd (wr M 148 49 (nI (p + 1))) 148 49 = nI (p + 1) := by rw [rd_we, if_pos ⟨rfl, rfl⟩]
  have r48 : rd (wr M 148 49 (nI (p + 1))) 148 48 = 1 := by rw [rd_we, if_neg (by omega)]; exact a
  refine ⟨wr (wr (wr M 148 49 (nI (p + 1))) 180 p (rd M K J)) K J (rd M K J), ⟨?_, ?_, fun k j q1 q2 => ?_, fun q hq => ?_, g⟩, fun F => ?_⟩
  · rw [rd_we, if_neg (by omega), rd_we, if_neg (by omega), rd_we, if_neg (by omega)]; exact a
  · rw [rd_we, if_neg (by omega), rd_we, if_neg (by omega), rd_we, if_pos ⟨rfl, rfl⟩]
  · rw [rd_we]
    by_cases y : k = K ∧ j = J
    · rw [if_pos y, y.1, y.2]; exact d K J (by omega) (by omega)
    · rw [if_neg y, rd_we, if_neg (by omega), rd_we, if_neg (by omega)]; exact d k j q1 q2
  · rw [rd_we, if_neg (by omega), rd_we]
    by_cases y : q = p
    · rw [if_pos ⟨rfl, y⟩, y, hK, hJ]; exact d K J (by omega) (by omega)
    · rw [if_neg (fun x => y x.2), rd_we, if_neg (by omega)]; exact e q (by omega)
  · unfold m_X6_putAside
    rw [b, nI_1, bnd_e, r48, if_neg (by decide), r49, nI_s1, chk_is (inb_nI (by omega) (by decide)), bnd_e, ix_nI (by omega), some_bind, un2_is, bnd_e]
theorem asR_step (M0 : Mem) : AStep (AsR M0) := by
  intro p M hp h
  have z := pos_in hp
  have ne := fun q => pos_ne (q := q) hp
  obtain ⟨a, b, d, e, g⟩ := h
  generalize hK : pkN p = K at *
  generalize hJ : pjN p = J at *
  have r49 : rd (wr M 148 49 (nI (p + 1))) 148 49 = nI (p + 1) := by rw [rd_we, if_pos ⟨rfl, rfl⟩]
  have r48 : rd (wr M 148 49 (nI (p + 1))) 148 48 = 0 := by rw [rd_we, if_neg (by omega)]; exact a
  refine ⟨wr (wr M 148 49 (nI (p + 1))) K J (rd M 180 p), ⟨?_, ?_, fun j => ?_, fun q hq => ?_, g⟩, fun F => ?_⟩
  · rw [rd_we, if_neg (by omega), rd_we, if_neg (by omega)]; exact a
  · rw [rd_we, if_neg (by omega), rd_we, if_pos ⟨rfl, rfl⟩]
  · rw [rd_we, if_neg (by omega), rd_we, if_neg (by omega)]; exact d j
  · rw [rd_we]
    by_cases y : q = p
    · rw [if_pos (by rw [y]; exact ⟨hK, hJ⟩), y]; exact d p
    · have z2 := pos_in (p := q) (by omega)
      rw [if_neg (ne q (by omega)), rd_we, if_neg (by omega)]; exact e q (by omega)
  · unfold m_X6_putAside
    rw [b, nI_1, bnd_e, r48, if_pos rfl, r49, nI_s1, chk_is (inb_nI (by omega) (by decide)), ix_nI (by omega), rd_we (k := 148), if_neg (by omega), some_bind, un2_is, bnd_e]
theorem save_is {fu : Nat} (hfu : 20 ≤ fu) (M : Mem) : ∃ M', m_X6_asides fu M 1 = some M' ∧ AsS M 144 M' :=
  asides_is hfu (asS_step M) (by decide) ⟨by rw [rd_we, if_neg (by omega), rd_we, if_pos ⟨rfl, rfl⟩], by rw [rd_we, if_pos ⟨rfl, rfl⟩]; rfl, fun k j q1 q2 => by rw [rd_we, if_neg (by omega), rd_we, if_neg (by omega)], fun q hq => absurd hq (Nat.not_lt_zero _), fun _ _ => rfl⟩
theorem back_is {fu : Nat} (hfu : 20 ≤ fu) (M : Mem) : ∃ M', m_X6_asides fu M 0 = some M' ∧ AsR M 144 M' :=
  asides_is hfu (asR_step M) (by decide) ⟨by rw [rd_we, if_neg (by omega), rd_we, if_pos ⟨rfl, rfl⟩], by rw [rd_we, if_pos ⟨rfl, rfl⟩]; rfl, fun j => by rw [rd_we, if_neg (by omega), rd_we, if_neg (by omega)], fun q hq => absurd hq (Nat.not_lt_zero _), fun _ _ => rfl⟩
/-- what row A keeps of a view -/
def vA (A : Nat) (M : Mem) : Vw := fun k j => if k = 148 ∧ 1 ≤ j ∧ j ≤ 4 ∨ 149 ≤ k ∧ k ≤ 162 ∧ j < 10 then rd M A (qN k j) else 0
theorem vM_if (M : Mem) (k j : Nat) : vM M k j = if k = 148 ∧ 1 ≤ j ∧ j ≤ 4 ∨ 149 ≤ k ∧ k ≤ 162 ∧ j < 10 then rd M k j else 0 := by
  unfold vM
  by_cases a : k = 148
  · rw [if_pos a]
    by_cases b : 1 ≤ j ∧ j ≤ 4
    · rw [if_pos b, if_pos (Or.inl ⟨a, b⟩), a]
    · rw [if_neg b, if_neg (by omega)]
  · rw [if_neg a]
    by_cases b : 149 ≤ k ∧ k ≤ 162 ∧ j < 10
    · rw [if_pos b, if_pos (Or.inr b)]
    · rw [if_neg b, if_neg (by omega)]
theorem vA_save {M0 M : Mem} (h : AsS M0 144 M) : vA 180 M = vM M0 := by
  funext k j
  rw [vM_if]; unfold vA
  by_cases b : k = 148 ∧ 1 ≤ j ∧ j ≤ 4 ∨ 149 ≤ k ∧ k ≤ 162 ∧ j < 10
  · obtain ⟨q1, q2, q3⟩ := qN_is b
    rw [if_pos b, if_pos b, h.2.2.2.1 _ q1, q2, q3]
  · rw [if_neg b, if_neg b]
theorem vM_save {M0 M : Mem} (h : AsS M0 144 M) : vM M = vM M0 := by
  funext k j
  rw [vM_if, vM_if]
  by_cases b : k = 148 ∧ 1 ≤ j ∧ j ≤ 4 ∨ 149 ≤ k ∧ k ≤ 162 ∧ j < 10
  · rw [if_pos b, if_pos b]; exact h.2.2.1 _ _ (by omega) (by omega)
  · rw [if_neg b, if_neg b]
theorem vM_back {M0 M : Mem} (h : AsR M0 144 M) : vM M = vA 180 M0 := by
  funext k j
  rw [vM_if]; unfold vA
  by_cases b : k = 148 ∧ 1 ≤ j ∧ j ≤ 4 ∨ 149 ≤ k ∧ k ≤ 162 ∧ j < 10
  · obtain ⟨q1, q2, q3⟩ := qN_is b
    have := h.2.2.2.1 _ q1
    rw [q2, q3] at this
    rw [if_pos b, if_pos b, this]
  · rw [if_neg b, if_neg b]
/-! ===== thinks ===== -/
def qS (V : Vw) (n : Nat) (w : Int32) : Int32 := if w = 0 then smI (fun f => V 153 f) n else if w = 1 then V 148 4 else if w = 2 then smI (fun f => V 155 f) n else smI (fun f => if V 156 f = -1 then 0 else 1) n
def qS0 (V : Vw) (n : Nat) (w : Int32) : Int32 := if w = 0 then smI (fun f => V 153 f) n else if w = 1 then V 148 4 else if w = 2 then smI (fun f => V 155 f) n else 0
theorem mthink_is {fu n d : Nat} {M : Mem} {V : Vw} {W N : Int} {L : Nat → List Ln} {ft w : Int32} (hfu : 500 ≤ fu) (hV : vM M = V) (h : Vok V n W N) (hW : W ≤ 100000) (hN : N ≤ 20000) (hL : LawsM M L) (hO : LawsOk L) (hd : d ≤ 60) (hft : 0 ≤ ft ∧ ft ≤ 5) : ∃ M', m_X6_thinks fu M (nI d) ft w = some (qS (nightsS (vs V 162 9 ft) n L d) n w - qS0 V n w, M') ∧ vM M' = V ∧ LawsM M' L := by
  have h10 := h.1.2.2
  obtain ⟨M1, a1, a2⟩ := save_is (by omega : 20 ≤ fu) M
  have v1 : vM M1 = V := (vM_save a2).trans hV
  have v2 : vM (wr M1 162 9 ft) = vs V 162 9 ft := by rw [vM_wr (by omega), v1]
  have ok2 : Vok (vs V 162 9 ft) n W N := h.setS hft.1 (fun z => absurd z (by decide)) (fun z => absurd z (by decide)) (fun _ => hft.2)
  have l2 : LawsM (wr M1 162 9 ft) L := LawsM_eq (fun k j z1 z2 => by rw [rd_we, if_neg (by omega)]; exact a2.2.2.1 _ _ (by omega) (by omega)) hL
  have fin : ∀ t : Int32, ∃ M', j_X6_thinks_36 fu M (nI d) ft w t = some (qS (nightsS (vs V 162 9 ft) n L d) n w - t, M') ∧ vM M' = V := by
    intro t
    obtain ⟨M2, b1, b2, b3, b4⟩ := mpass_is (body := b_X6_thinks_54 fu (nI d) w t) (c := d) (fun i M1 hi => by unfold b_X6_thinks_54; rw [un2_is, if_neg (nI_ge hi (by omega))]; simp only [bnd_is, nI_1]) (fun M1 => by unfold b_X6_thinks_54; rw [un2_is, if_pos (nI_le (Nat.le_refl _) (by omega))]) hfu v2 ok2 hW hN l2 hO (by omega)
    obtain ⟨M3, c1, c2⟩ := back_is (by omega : 20 ≤ fu) M2
    have n2 : rd M2 148 2 = nI n := by rw [m_n b2]; exact (nights_ok ok2 hW hN d (by omega)).1.1
    have e9 : ∀ t0 : Int32, j_X6_thinks_109 fu M2 t t0 = some (t0 - t, M3) := by
      intro t0
      unfold j_X6_thinks_109
      rw [c1, some_bind]
    refine ⟨M3, ?_, ?_⟩
    · unfold j_X6_thinks_36 qS
      rw [a1, some_bind, ix_9, bnd_e, b1, some_bind, un1_is]
      by_cases w0 : w = 0
      · rw [if_pos w0, if_pos w0, mpurses_is (by omega) n2 h10, some_bind, e9]
        rw [smI_cong (fun i hi => m_at b2 (k := 153) (by decide) (by decide) (by omega))]
      · rw [if_neg w0, if_neg w0]
        by_cases w1 : w = 1
        · rw [if_pos w1, if_pos w1, e9, m_mo b2]
        · rw [if_neg w1, if_neg w1]
          by_cases w2 : w = 2
          · rw [if_pos w2, if_pos w2, mcaught_is (by omega) n2 h10, some_bind, e9]
            rw [smI_cong (fun i hi => m_at b2 (k := 155) (by decide) (by decide) (by omega))]
          · rw [if_neg w2, if_neg w2, meaten_is (by omega) n2 h10, some_bind, e9]
            rw [smI_cong (fun i hi => by rw [m_at b2 (k := 156) (by decide) (by decide) (by omega)])]
    · rw [vM_back c2]
      have : vA 180 M2 = vA 180 M1 := by
        funext k j
        have e : rd M2 180 (qN k j) = rd M1 180 (qN k j) := by rw [b4.1 _ _ (by unfold w_X6_goesBy; omega), rd_we, if_neg (by omega)]
        unfold vA
        rw [e]
      rw [this, vA_save a2, hV]
  have n0 : rd M 148 2 = nI n := (m_n hV).trans h.1.1
  have top : ∃ M', m_X6_thinks fu M (nI d) ft w = some (qS (nightsS (vs V 162 9 ft) n L d) n w - qS0 V n w, M') ∧ vM M' = V := by
    unfold m_X6_thinks qS0
    by_cases w0 : w = 0
    · rw [if_pos w0, if_pos w0, mpurses_is (by omega) n0 h10, some_bind, smI_cong (fun i hi => m_at hV (k := 153) (by decide) (by decide) (by omega))]
      exact fin _
    · rw [if_neg w0, if_neg w0]
      by_cases w1 : w = 1
      · rw [if_pos w1, if_pos w1, m_mo hV]; exact fin _
      · rw [if_neg w1, if_neg w1]
        by_cases w2 : w = 2
        · rw [if_pos w2, if_pos w2, mcaught_is (by omega) n0 h10, some_bind, smI_cong (fun i hi => m_at hV (k := 155) (by decide) (by decide) (by omega))]
          exact fin _
        · rw [if_neg w2, if_neg w2]; exact fin _
  obtain ⟨M', e1, e2⟩ := top
  have fr := fr_m_X6_thinks e1
  exact ⟨M', e1, e2, LawsM_eq (fun k j z1 z2 => fr.1 _ _ (by unfold w_X6_thinks; omega)) hL⟩
