/-! ===== nights ===== -/
def crS (V : Vw) (D : Nat → Int32) (n : Nat) : Nat → Vw × (Nat → Int32)
  | 0 => (V, fun _ => 0)
  | i + 1 =>
    if D i = 2 then ((creepS (crS V D n i).1 D i (lfN n i) (lfN n i)).1, fun j => if (creepS (crS V D n i).1 D i (lfN n i) (lfN n i)).2 = true ∧ j = lfN n i then 1 else (crS V D n i).2 j)
    else if D i = 3 then ((creepS (crS V D n i).1 D i i (rtN n i)).1, fun j => if (creepS (crS V D n i).1 D i i (rtN n i)).2 = true ∧ j = rtN n i then 1 else (crS V D n i).2 j)
    else crS V D n i
theorem crS_s (V : Vw) (D : Nat → Int32) (n i : Nat) : crS V D n (i + 1) = (if D i = 2 then ((creepS (crS V D n i).1 D i (lfN n i) (lfN n i)).1, fun j => if (creepS (crS V D n i).1 D i (lfN n i) (lfN n i)).2 = true ∧ j = lfN n i then 1 else (crS V D n i).2 j)
    else if D i = 3 then ((creepS (crS V D n i).1 D i i (rtN n i)).1, fun j => if (creepS (crS V D n i).1 D i i (rtN n i)).2 = true ∧ j = rtN n i then 1 else (crS V D n i).2 j)
    else crS V D n i) := rfl
def stS (V : Vw) (D lo : Nat → Int32) : Nat → Vw
  | 0 => V
  | i + 1 => setS (stS V D lo i) D lo i
theorem stS_s (V : Vw) (D lo : Nat → Int32) (i : Nat) : stS V D lo (i + 1) = setS (stS V D lo i) D lo i := rfl
def endS (V : Vw) : Vw := vs V 148 3 (V 148 3 + 1)
def nightS (V : Vw) (n : Nat) (L : Nat → List Ln) : Vw := endS (stS (crS V (doesS V n L) n n).1 (doesS V n L) (crS V (doesS V n L) n n).2 n)
def nightsS (V : Vw) (n : Nat) (L : Nat → List Ln) : Nat → Vw
  | 0 => V
  | i + 1 => nightS (nightsS V n L i) n L
theorem nightsS_s (V : Vw) (n : Nat) (L : Nat → List Ln) (i : Nat) : nightsS V n L (i + 1) = nightS (nightsS V n L i) n L := rfl
theorem lf_ne {n f : Nat} (h : f < n) (h2 : 2 ≤ n) : f ≠ lfN n f := by unfold lfN; split <;> omega
theorem rt_ne {n f : Nat} (h : f < n) (h2 : 2 ≤ n) : f ≠ rtN n f := by unfold rtN; split <;> omega
section SPEC
variable {V : Vw} {n f b o : Nat} {W N : Int} {D lo : Nat → Int32}
theorem creep_kp {k j : Nat} (hk : k ≠ 149 ∧ k ≠ 153 ∧ k ≠ 155 ∧ k ≠ 159 ∧ k ≠ 160 ∧ ¬ (k = 148 ∧ (j = 1 ∨ j = 4))) : (creepS V D f b o).1 k j = V k j := by
  have d : drwS V k j = V k j := vs_ne (by omega)
  have st : (stopS V D o).1 k j = V k j := by
    unfold stopS
    split
    · exact d
    · split
      · rfl
      · exact d
  have go : ∀ (V : Vw) (s : Bool), (goS V f b o s).1 k j = V k j := by
    intro V s
    have p : pushS V f b k j = V k j := by unfold pushS; rw [vs_ne (by omega), vs_ne (by omega)]
    unfold goS
    split
    · unfold fineS; dsimp only; rw [vs_ne (by omega), vs_ne (by omega), vs_ne (by omega)]
    · split
      · exact p
      · unfold moveS; dsimp only; rw [vs_ne (by omega), vs_ne (by omega), vs_ne (by omega), vs_ne (by omega)]; exact p
  unfold creepS
  split
  · exact (go _ _).trans st
  · rfl
theorem crS_ok (h : Vok V n W N) (hW : W ≤ 100000) : ∀ i, i ≤ n → Vok (crS V D n i).1 n W N
  | 0, _ => h
  | i + 1, hi => by
    have ih := crS_ok h hW i (by omega)
    have h10 := h.1.2.2
    have hl := lfN_lt (show i < n by omega)
    have hr := rtN_lt (show i < n by omega)
    have h1 := lf_ne (show i < n by omega) h.1.2.1
    have h2 := rt_ne (show i < n by omega) h.1.2.1
    rw [crS_s]
    split
    · exact ih.creep hW (by omega) (by omega) h1
    · split
      · exact ih.creep hW (by omega) (by omega) h2
      · exact ih
theorem crS_kp {k j : Nat} (hk : k ≠ 149 ∧ k ≠ 153 ∧ k ≠ 155 ∧ k ≠ 159 ∧ k ≠ 160 ∧ ¬ (k = 148 ∧ (j = 1 ∨ j = 4))) : ∀ i, (crS V D n i).1 k j = V k j
  | 0 => rfl
  | i + 1 => by
    rw [crS_s]
    split
    · exact (creep_kp hk).trans (crS_kp hk i)
    · split
      · exact (creep_kp hk).trans (crS_kp hk i)
      · exact crS_kp hk i
theorem setS_kp {k j : Nat} (hk : k ≠ 153 ∧ k ≠ 154 ∧ k ≠ 156) : setS V D lo f k j = V k j := by
  unfold setS
  split
  · rw [vs_nk hk.2.2, vs_nk hk.2.1, vs_nk hk.1]
  · rw [vs_nk hk.2.1, vs_nk hk.1]
theorem stS_kp {k j : Nat} (hk : k ≠ 153 ∧ k ≠ 154 ∧ k ≠ 156) : ∀ i, stS V D lo i k j = V k j
  | 0 => rfl
  | i + 1 => (setS_kp hk).trans (stS_kp hk i)
theorem stS_ok (h : Vok V n W N) : ∀ i, Vok (stS V D lo i) n W N
  | 0 => h
  | i + 1 => settle_ok (stS_ok h i)
theorem night_ok {L : Nat → List Ln} (h : Vok V n W N) (hW : W ≤ 100000) (hN : N ≤ 100000) : Vok (nightS V n L) n W (N + 1) := (stS_ok (crS_ok h hW n (Nat.le_refl _)) n).night hN
theorem night_3 {L : Nat → List Ln} : nightS V n L 148 3 = V 148 3 + 1 := by
  unfold nightS endS
  rw [vs_at, stS_kp (by decide), crS_kp (by decide)]
theorem nights_ok {L : Nat → List Ln} (h : Vok V n W N) (hW : W ≤ 100000) (hN : N ≤ 20000) : ∀ i, i ≤ 1000 → Vok (nightsS V n L i) n W (N + i)
  | 0, _ => by rw [show N + ((0 : Nat) : Int) = N by omega]; exact h
  | i + 1, hi => by
    have := nights_ok (L := L) h hW hN i (by omega)
    rw [show N + ((i + 1 : Nat) : Int) = N + i + 1 by omega]
    exact night_ok this hW (by omega)
theorem nights_3 {L : Nat → List Ln} : ∀ i, nightsS V n L i 148 3 = V 148 3 + nI i
  | 0 => by show V 148 3 = V 148 3 + 0; grind
  | i + 1 => by rw [nightsS_s, night_3, nights_3 i, ← nI_1]; grind
end SPEC
theorem L_add {a : Int64} {x : Int32} (h1 : -1000000000000000000 ≤ a.toInt) (h2 : a.toInt ≤ 1000000000000000000) : (a + x.toInt64).toInt = a.toInt + x.toInt := by
  have := Int32.toInt_lt x
  have := Int32.le_toInt x
  rw [Int64.toInt_add, Int32.toInt_toInt64]; exact Int.bmod_eq_of_le (by omega) (by omega)
theorem L_sub {a : Int64} {x : Int32} (h1 : -1000000000000000000 ≤ a.toInt) (h2 : a.toInt ≤ 1000000000000000000) : (a - x.toInt64).toInt = a.toInt - x.toInt := by
  have := Int32.toInt_lt x
  have := Int32.le_toInt x
  rw [Int64.toInt_sub, Int32.toInt_toInt64]; exact Int.bmod_eq_of_le (by omega) (by omega)
section CNIGHT
variable {fu R n : Nat} {M : Mem} {V : Vw} {W N : Int} {L : Nat → List Ln} {D lo : Nat → Int32} {s1 s2 : Int32}
theorem cn1 (hfu : 500 ≤ fu) (hV : vC R M = V) (h : Vok V n W N) (hW : W ≤ 100000) (hL : LawsC M R L) (hO : LawsOk L) : ∃ M', lp (b_X4_pass_9 fu R s1 s2) fu (0, M) = some M' ∧ vC R M' = V ∧ (∀ j, j < n → rd M' (R + 5) j = doesS V n L j ∧ rd M' (R + 6) j = 0) ∧ ∀ k j, rdl M' k j = rdl M k j := by
  have h10 := h.1.2.2
  refine lp_up n (fun i s => ∃ M1, s = (nI i, M1) ∧ vC R M1 = V ∧ LawsC M1 R L ∧ (∀ j, j < i → rd M1 (R + 5) j = doesS V n L j ∧ rd M1 (R + 6) j = 0) ∧ ∀ k j, rdl M1 k j = rdl M k j) (fun M' => vC R M' = V ∧ (∀ j, j < n → rd M' (R + 5) j = doesS V n L j ∧ rd M' (R + 6) j = 0) ∧ ∀ k j, rdl M' k j = rdl M k j) ?_ ?_ fu 0 (0, M) (Nat.zero_le _) (by omega) ⟨M, rfl, hV, hL, fun j hj => absurd hj (Nat.not_lt_zero _), fun _ _ => rfl⟩
  · rintro i s hi ⟨M1, rfl, q1, q2, q3, q4⟩
    left
    obtain ⟨M2, e1, e2⟩ := cdoes_is hfu q1 h hW q2 hO hi
    refine ⟨(nI (i + 1), wr (wr M2 (R + 5) i (doesS V n L i)) (R + 6) i 0), ?_, _, rfl, ?_, ?_, fun j hj => ?_, fun k j => ?_⟩
    · unfold b_X4_pass_9
      rw [un2_is, (c_n q1).trans h.1.1, if_neg (nI_ge hi (by omega)), e1, some_bind, un2_is, chk_is (inb_nI (by omega : i < 10) (by decide)), ix_nI (by omega), bnd_e, bnd_e, bnd_e, nI_1]
    · rw [w_out (by omega), w_out (by omega), e2.vC]; exact q1
    · exact LawsC_eq (fun k j h1 h2 => by rw [rd_we, if_neg (by omega), rd_we, if_neg (by omega)]; exact e2.1 _ _ (by omega)) q2
    · have c5 : rd (wr (wr M2 (R + 5) i (doesS V n L i)) (R + 6) i 0) (R + 5) j = if j = i then doesS V n L i else rd M1 (R + 5) j := by
        rw [rd_we, if_neg (by omega), rd_we]
        by_cases z : j = i
        · rw [if_pos ⟨rfl, z⟩, if_pos z]
        · rw [if_neg (fun y => z y.2), if_neg z]; exact e2.1 _ _ (by omega)
      have c6 : rd (wr (wr M2 (R + 5) i (doesS V n L i)) (R + 6) i 0) (R + 6) j = if j = i then 0 else rd M1 (R + 6) j := by
        rw [rd_we]
        by_cases z : j = i
        · rw [if_pos ⟨rfl, z⟩, if_pos z]
        · rw [if_neg (fun y => z y.2), if_neg z, rd_we, if_neg (by omega)]; exact e2.1 _ _ (by omega)
      rw [c5, c6]
      by_cases z : j = i
      · rw [if_pos z, if_pos z, z]; exact ⟨rfl, rfl⟩
      · rw [if_neg z, if_neg z]; exact q3 j (by omega)
    · rw [rdl_wr, rdl_wr, e2.2]; exact q4 k j
  · rintro s ⟨M1, rfl, q1, q2, q3, q4⟩
    refine ⟨M1, ?_, q1, q3, q4⟩
    unfold b_X4_pass_9
    rw [un2_is, (c_n q1).trans h.1.1, if_pos (nI_le (Nat.le_refl _) (by omega))]
theorem ccr2 {i : Nat} (hV : vC R M = V) (h : Vok V n W N) (hi : i < n) (hD : rd M (R + 5) i = 2) : m_X4_creep R M (nI i) = j_X4_creep_43 R M (nI i) (nI (lfN n i)) (nI (lfN n i)) := by
  have h10 := h.1.2.2
  unfold m_X4_creep j_X4_creep_23
  rw [chk_is (inb_nI (by omega : i < 10) (by decide)), ix_nI (by omega), hD, if_pos rfl, cleft_is ((c_n hV).trans h.1.1) hi h10, some_bind, chk_is (inb_nI (by omega : i < 10) (by decide)), if_pos rfl]
theorem ccr3 {i : Nat} (hV : vC R M = V) (h : Vok V n W N) (hi : i < n) (hD : rd M (R + 5) i = 3) : m_X4_creep R M (nI i) = j_X4_creep_43 R M (nI i) (nI (rtN n i)) (nI i) := by
  have h10 := h.1.2.2
  unfold m_X4_creep j_X4_creep_23
  rw [chk_is (inb_nI (by omega : i < 10) (by decide)), ix_nI (by omega), hD, if_neg (by decide), cright_is ((c_n hV).trans h.1.1) hi h10, some_bind, chk_is (inb_nI (by omega : i < 10) (by decide)), if_neg (by decide)]
theorem cn2 (hfu : 500 ≤ fu) (hV : vC R M = V) (h : Vok V n W N) (hW : W ≤ 100000) (hD : ∀ j, j < n → rd M (R + 5) j = D j ∧ rd M (R + 6) j = 0) : ∃ M', lp (b_X4_pass_43 fu R s1 s2) fu (0, M) = some M' ∧ vC R M' = (crS V D n n).1 ∧ (∀ j, j < n → rd M' (R + 5) j = D j ∧ rd M' (R + 6) j = (crS V D n n).2 j) ∧ ∀ g, rdl M' (R + 36) g = rdl M (R + 36) g ∨ rdl M' (R + 36) g = rdl M (R + 36) g - (V 162 6).toInt64 := by
  have h10 := h.1.2.2
  refine lp_up n (fun i s => ∃ M1, s = (nI i, M1) ∧ vC R M1 = (crS V D n i).1 ∧ (∀ j, j < n → rd M1 (R + 5) j = D j ∧ rd M1 (R + 6) j = (crS V D n i).2 j) ∧ (∀ g, i ≤ g → rdl M1 (R + 36) g = rdl M (R + 36) g) ∧ ∀ g, rdl M1 (R + 36) g = rdl M (R + 36) g ∨ rdl M1 (R + 36) g = rdl M (R + 36) g - (V 162 6).toInt64) (fun M' => vC R M' = (crS V D n n).1 ∧ (∀ j, j < n → rd M' (R + 5) j = D j ∧ rd M' (R + 6) j = (crS V D n n).2 j) ∧ ∀ g, rdl M' (R + 36) g = rdl M (R + 36) g ∨ rdl M' (R + 36) g = rdl M (R + 36) g - (V 162 6).toInt64) ?_ ?_ fu 0 (0, M) (Nat.zero_le _) (by omega) ⟨M, rfl, hV, hD, fun _ _ => rfl, fun _ => Or.inl rfl⟩
  · rintro i s hi ⟨M1, rfl, q1, q2, q3, q4⟩
    left
    have ok := crS_ok (D := D) h hW i (by omega)
    have hl := lfN_lt hi
    have hr := rtN_lt hi
    have pre : b_X4_pass_43 fu R s1 s2 (nI i, M1) = if D i = 2 then j_X4_pass_71i fu R M1 s1 s2 (nI i) else if D i = 3 then j_X4_pass_71i fu R M1 s1 s2 (nI i) else some (.inl (nI (i + 1), M1)) := by
      unfold b_X4_pass_43
      rw [un2_is, (c_n q1).trans ok.1.1, if_neg (nI_ge hi (by omega)), chk_is (inb_nI (by omega : i < 10) (by decide)), ix_nI (by omega), (q2 i hi).1, bnd_e, nI_1]
    have s6 : (crS V D n i).1 162 6 = V 162 6 := crS_kp (by decide) i
    have run : ∀ b o, b < 10 → o < 10 → i ≠ o → rd M1 (R + 5) o = D o → m_X4_creep R M1 (nI i) = j_X4_creep_43 R M1 (nI i) (nI o) (nI b) → ∃ s', j_X4_pass_71i fu R M1 s1 s2 (nI i) = some (.inl s') ∧ ∃ M2, s' = (nI (i + 1), M2) ∧ vC R M2 = (creepS (crS V D n i).1 D i b o).1 ∧ (∀ j, j < n → rd M2 (R + 5) j = D j ∧ rd M2 (R + 6) j = if (creepS (crS V D n i).1 D i b o).2 = true ∧ j = o then 1 else (crS V D n i).2 j) ∧ (∀ g, i + 1 ≤ g → rdl M2 (R + 36) g = rdl M (R + 36) g) ∧ ∀ g, rdl M2 (R + 36) g = rdl M (R + 36) g ∨ rdl M2 (R + 36) g = rdl M (R + 36) g - (V 162 6).toInt64 := by
      intro b o hb ho hio hDo hc
      obtain ⟨M2, e1, e2, e3, e4, e5, e6⟩ := ccreep_is (D := D) q1 (by omega : i < 10) hb ho hio hDo
      refine ⟨(nI (i + 1), M2), by unfold j_X4_pass_71i; rw [hc, e1, some_bind, bnd_e, nI_1], M2, rfl, e2, fun j hj => ⟨by rw [e4]; exact (q2 j hj).1, by rw [e3, (q2 j hj).2]⟩, fun g hg => by rw [e5 g (by omega)]; exact q3 g (by omega), fun g => ?_⟩
      by_cases z : g = i
      · rw [z, ← q3 i (Nat.le_refl _), ← s6]; exact e6
      · rw [e5 g z]; exact q4 g
    rw [pre, crS_s]
    by_cases a : D i = 2
    · rw [if_pos a, if_pos a]
      exact run _ _ (by omega) (by omega) (lf_ne hi h.1.2.1) (q2 _ hl).1 (ccr2 q1 ok hi ((q2 i hi).1.trans a))
    · rw [if_neg a, if_neg a]
      by_cases b : D i = 3
      · rw [if_pos b, if_pos b]
        exact run _ _ (by omega) (by omega) (rt_ne hi h.1.2.1) (q2 _ hr).1 (ccr3 q1 ok hi ((q2 i hi).1.trans b))
      · rw [if_neg b, if_neg b]
        exact ⟨_, rfl, M1, rfl, q1, q2, fun g hg => q3 g (by omega), q4⟩
  · rintro s ⟨M1, rfl, q1, q2, q3, q4⟩
    refine ⟨M1, ?_, q1, q2, q4⟩
    unfold b_X4_pass_43
    rw [un2_is, (c_n q1).trans (crS_ok (D := D) h hW n (Nat.le_refl _)).1.1, if_pos (nI_le (Nat.le_refl _) (by omega))]
theorem cn3 (hfu : 500 ≤ fu) (hV : vC R M = V) (h : Vok V n W N) (hW : W ≤ 100000) (hD : ∀ j, j < n → rd M (R + 5) j = D j ∧ rd M (R + 6) j = lo j) : ∃ M', lp (b_X4_pass_84 fu R s1 s2) fu (0, M) = some M' ∧ vC R M' = stS V D lo n ∧ ∀ g, ∃ x : Int32, -198 ≤ x.toInt ∧ x.toInt ≤ 99 * W ∧ rdl M' (R + 36) g = rdl M (R + 36) g + x.toInt64 := by
  have h10 := h.1.2.2
  have hW0 : 0 ≤ W := Int.le_trans (h.2.1 0 (by decide)) (V_le h (by decide))
  have z64 : ∀ a : Int64, a = a + (0 : Int32).toInt64 := fun a => by simp
  refine lp_up n (fun i s => ∃ M1, s = (nI i, M1) ∧ vC R M1 = stS V D lo i ∧ (∀ j, j < n → rd M1 (R + 5) j = D j ∧ rd M1 (R + 6) j = lo j) ∧ (∀ g, i ≤ g → rdl M1 (R + 36) g = rdl M (R + 36) g) ∧ ∀ g, ∃ x : Int32, -198 ≤ x.toInt ∧ x.toInt ≤ 99 * W ∧ rdl M1 (R + 36) g = rdl M (R + 36) g + x.toInt64) (fun M' => vC R M' = stS V D lo n ∧ ∀ g, ∃ x : Int32, -198 ≤ x.toInt ∧ x.toInt ≤ 99 * W ∧ rdl M' (R + 36) g = rdl M (R + 36) g + x.toInt64) ?_ ?_ fu 0 (0, M) (Nat.zero_le _) (by omega) ⟨M, rfl, hV, hD, fun _ _ => rfl, fun g => ⟨0, by decide, by rw [tI_0]; omega, z64 _⟩⟩
  · rintro i s hi ⟨M1, rfl, q1, q2, q3, q4⟩
    left
    have ok := stS_ok (D := D) (lo := lo) h i
    obtain ⟨M2, e1, e2, e3, e4, e5⟩ := csettle_is q1 (by omega : i < 10) (q2 i hi).1 (q2 i hi).2
    refine ⟨(nI (i + 1), M2), ?_, M2, rfl, e2, fun j hj => by rw [e3 _ _ (by omega), e3 _ _ (by omega)]; exact q2 j hj, fun g hg => by rw [e4 g (by omega)]; exact q3 g (by omega), fun g => ?_⟩
    · unfold b_X4_pass_84
      rw [un2_is, (c_n q1).trans ok.1.1, if_neg (nI_ge hi (by omega)), e1, some_bind, bnd_e, nI_1]
    · by_cases z : g = i
      · have nb := net_bd ok hW (by omega : i < 10) (d := D i)
        have wb := V_le ok (by omega : i < 10)
        rw [z]
        exact ⟨_, nb.1, by omega, by rw [e5, q3 i (Nat.le_refl _)]⟩
      · rw [e4 g z]; exact q4 g
  · rintro s ⟨M1, rfl, q1, q2, q3, q4⟩
    refine ⟨M1, ?_, q1, q4⟩
    unfold b_X4_pass_84
    rw [un2_is, (c_n q1).trans (stS_ok (D := D) (lo := lo) h n).1.1, if_pos (nI_le (Nat.le_refl _) (by omega))]
theorem cnight_is {i : Nat} (hfu : 500 ≤ fu) (hV : vC R M = V) (h : Vok V n W N) (hW : W ≤ 31320) (hL : LawsC M R L) (hO : LawsOk L) (hi : ¬ s1 ≤ nI i) (hp : ∀ g, g < 10 → -1000000000000 ≤ (rdl M (R + 36) g).toInt ∧ (rdl M (R + 36) g).toInt ≤ 1000000000000) : ∃ M', b_X4_pass_2 fu R s1 (nI i, M) = some (.inl (nI (i + 1), M')) ∧ vC R M' = nightS V n L ∧ LawsC M' R L ∧ ∀ g, g < 10 → -3100680 ≤ (rdl M' (R + 36) g).toInt - (rdl M (R + 36) g).toInt ∧ (rdl M' (R + 36) g).toInt - (rdl M (R + 36) g).toInt ≤ 3100680 := by
  obtain ⟨M1, a1, a2, a3, a4⟩ := cn1 (s1 := s1) (s2 := nI i) hfu hV h (by omega) hL hO
  obtain ⟨M2, b1, b2, b3, b4⟩ := cn2 (s1 := s1) (s2 := nI i) hfu a2 h (by omega) a3
  obtain ⟨M3, c1, c2, c3⟩ := cn3 (s1 := s1) (s2 := nI i) hfu b2 (crS_ok h (by omega) n (Nat.le_refl _)) (by omega) b3
  have e : b_X4_pass_2 fu R s1 (nI i, M) = some (.inl (nI (i + 1), wr M3 R 2 (rd M3 R 2 + 1))) := by
    unfold b_X4_pass_2
    rw [un2_is, if_neg hi, a1, some_bind, un1_is, b1, some_bind, un1_is, c1, some_bind, un1_is, bnd_e, bnd_e, nI_1]
  have fr := fr_b_X4_pass_2 e
  refine ⟨_, e, ?_, LawsC_eq (fun k j h1 h2 => fr.1 _ _ (by unfold w_X4_pass; omega)) hL, fun g hg => ?_⟩
  · rw [w_ni, c2, c_ni c2]; rfl
  · obtain ⟨x, x1, x2, x3⟩ := c3 g
    have st := h.2.2.2.2.2.2.2.1 6 (by decide)
    have s9 := h.2.2.2.2.2.2.2.2.1 6 (by decide)
    have g0 := I_le.mp st.1
    have g1 := I_le.mp s9
    rw [tI_0] at g0
    rw [tI_99] at g1
    have p := hp g hg
    rw [rdl_wr, x3]
    rcases b4 g with y | y
    · rw [y, a4, L_add (by omega) (by omega)]; omega
    · have : (rdl M (R + 36) g - (V 162 6).toInt64).toInt = (rdl M (R + 36) g).toInt - (V 162 6).toInt := L_sub (by omega) (by omega)
      rw [y, a4, L_add (by omega) (by omega), this]; omega
/-- some nights -/
theorem cpass_is {c : Nat} (hfu : 500 ≤ fu) (hV : vC R M = V) (h : Vok V n W N) (hW : W ≤ 31320) (hN : N ≤ 20000) (hL : LawsC M R L) (hO : LawsOk L) (hc : c ≤ 99) (hp : ∀ g, g < 10 → -100000000000 ≤ (rdl M (R + 36) g).toInt ∧ (rdl M (R + 36) g).toInt ≤ 100000000000) : ∃ M', m_X4_pass fu R M (nI c) = some M' ∧ vC R M' = nightsS V n L c ∧ LawsC M' R L ∧ ∀ g, g < 10 → -(3100680 * (c : Int)) ≤ (rdl M' (R + 36) g).toInt - (rdl M (R + 36) g).toInt ∧ (rdl M' (R + 36) g).toInt - (rdl M (R + 36) g).toInt ≤ 3100680 * (c : Int) := by
  obtain ⟨M', e, r⟩ := lp_up (body := b_X4_pass_2 fu R (nI c)) c (fun i s => ∃ M1, s = (nI i, M1) ∧ vC R M1 = nightsS V n L i ∧ LawsC M1 R L ∧ ∀ g, g < 10 → -(3100680 * (i : Int)) ≤ (rdl M1 (R + 36) g).toInt - (rdl M (R + 36) g).toInt ∧ (rdl M1 (R + 36) g).toInt - (rdl M (R + 36) g).toInt ≤ 3100680 * (i : Int)) (fun M' => vC R M' = nightsS V n L c ∧ LawsC M' R L ∧ ∀ g, g < 10 → -(3100680 * (c : Int)) ≤ (rdl M' (R + 36) g).toInt - (rdl M (R + 36) g).toInt ∧ (rdl M' (R + 36) g).toInt - (rdl M (R + 36) g).toInt ≤ 3100680 * (c : Int)) (by
    rintro i s hi ⟨M1, rfl, q1, q2, q3⟩
    left
    obtain ⟨M2, e1, e2, e3, e4⟩ := cnight_is (s1 := nI c) (i := i) hfu q1 (nights_ok h (by omega) hN i (by omega)) hW q2 hO (nI_ge hi (by omega)) (fun g hg => by have := q3 g hg; have := hp g hg; omega)
    exact ⟨_, e1, M2, rfl, e2, e3, fun g hg => by have := q3 g hg; have := e4 g hg; omega⟩) (by
    rintro s ⟨M1, rfl, q1, q2, q3⟩
    refine ⟨M1, ?_, q1, q2, q3⟩
    unfold b_X4_pass_2
    rw [un2_is, if_pos (nI_le (Nat.le_refl _) (by omega))]) fu 0 (0, M) (Nat.zero_le _) (by omega) ⟨M, rfl, hV, hL, fun g hg => by omega⟩
  refine ⟨M', ?_, r⟩
  unfold m_X4_pass
  rw [e, some_bind, un1_is]
end CNIGHT
