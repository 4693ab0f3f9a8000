/-! ===== sums of purses ===== -/
def smL (f : Nat → Int64) : Nat → Int64
  | 0 => 0
  | n + 1 => smL f n + f n
def smZ (f : Nat → Int) : Nat → Int
  | 0 => 0
  | n + 1 => smZ f n + f n
theorem smL_cong {f h : Nat → Int64} : ∀ {n : Nat}, (∀ i, i < n → f i = h i) → smL f n = smL h n
  | 0, _ => rfl
  | n + 1, q => by unfold smL; rw [smL_cong (fun i hi => q i (by omega)), q n (by omega)]
theorem smL_32 (f : Nat → Int64) : ∀ n, (smL f n).toInt32 = smI (fun i => (f i).toInt32) n
  | 0 => rfl
  | n + 1 => by unfold smL smI; rw [← smL_32 f n]; simp
theorem smL_int {f : Nat → Int64} {n : Nat} (hn : n ≤ 10) (h : ∀ i, i < n → -200000000000 ≤ (f i).toInt ∧ (f i).toInt ≤ 200000000000) : ∀ m, m ≤ n → (smL f m).toInt = smZ (fun i => (f i).toInt) m ∧ -(200000000000 * (m : Int)) ≤ (smL f m).toInt ∧ (smL f m).toInt ≤ 200000000000 * (m : Int)
  | 0, _ => by
    have e : (smL f 0).toInt = 0 := rfl
    exact ⟨rfl, by omega, by omega⟩
  | m + 1, hm => by
    obtain ⟨a, b, d⟩ := smL_int hn h m (by omega)
    have q := h m (by omega)
    have e : (smL f m + f m).toInt = (smL f m).toInt + (f m).toInt := by
      rw [Int64.toInt_add]; exact Int.bmod_eq_of_le (by omega) (by omega)
    unfold smL smZ
    rw [e, a]
    rw [a] at b d
    exact ⟨rfl, by omega, by omega⟩
theorem smZ_diff {f g : Nat → Int} {D : Int} : ∀ {n : Nat}, (∀ i, i < n → -D ≤ f i - g i ∧ f i - g i ≤ D) → -(D * n) ≤ smZ f n - smZ g n ∧ smZ f n - smZ g n ≤ D * n
  | 0, _ => by
    have a : smZ f 0 = 0 := rfl
    have b : smZ g 0 = 0 := rfl
    rw [a, b]; omega
  | n + 1, h => by
    have q := smZ_diff (n := n) (fun i hi => h i (by omega))
    have r := h n (by omega)
    have a : smZ f (n + 1) = smZ f n + f n := rfl
    have b : smZ g (n + 1) = smZ g n + g n := rfl
    have c : D * ((n + 1 : Nat) : Int) = D * n + D := by rw [Int.natCast_add, Int.mul_add]; omega
    rw [a, b, c]; omega
theorem allp_is {fu R n : Nat} {M : Mem} (hf : 20 ≤ fu) (hn : rd M R 0 = nI n) (h10 : n ≤ 10) : m_X4_allPurses fu R M = some (smL (fun f => rdl M (R + 36) f) n) := by
  have := lp_fn (body := b_X4_allPurses_4 fu R M) n (fun i => (smL (fun f => rdl M (R + 36) f) i, nI i)) (smL (fun f => rdl M (R + 36) f) n) (fun i hi => by
    simp only [b_X4_allPurses_4, un2_is, hn, if_neg (nI_ge hi (by omega : n < 2 ^ 31)), inb_nI (show i < 10 by omega) (by decide), chk_t, bnd_is, ix_nI (show i < 2 ^ 31 by omega), nI_1]
    rfl) (by simp only [b_X4_allPurses_4, un2_is, hn]; rw [if_pos (nI_le (Nat.le_refl _) (by omega))]) fu (by omega)
  unfold m_X4_allPurses
  rw [show ((0 : Int64), (0 : Int32)) = (smL (fun f => rdl M (R + 36) f) 0, nI 0) from rfl, this]
  rfl
theorem lg_le {a b : Int64} : lg_cmp a b ≤ 0 ↔ a.toInt ≤ b.toInt := by
  unfold lg_cmp
  by_cases h : a > b
  · rw [if_pos h]
    have : ¬ a.toInt ≤ b.toInt := by have := Int64.lt_iff_toInt_lt.mp h; omega
    exact ⟨fun q => absurd q (by decide), fun q => absurd q this⟩
  · rw [if_neg h]
    have q : a.toInt ≤ b.toInt := by
      have := mt Int64.lt_iff_toInt_lt.mpr h; omega
    by_cases e : a = b
    · rw [if_pos e]; exact ⟨fun _ => q, fun _ => by decide⟩
    · rw [if_neg e]; exact ⟨fun _ => q, fun _ => by decide⟩
/-! a thought of the class -/
section CTHINK
variable {fu n d : Nat} {M : Mem} {V : Vw} {L : Nat → List Ln}
theorem Vok.ft {W N : Int} {ft : Int32} (h : Vok V n W N) (h0 : 0 ≤ ft ∧ ft ≤ 5) : Vok (vs V 162 9 ft) n W N := h.setS h0.1 (fun z => absurd z (by decide)) (fun z => absurd z (by decide)) (fun _ => h0.2)
theorem cpassD_is {W : Int} {P : Mem} (hfu : 500 ≤ fu) (hV : vC 74 P = V) (h : Vok V n W 9999) (hW : W ≤ 31320) (hL : LawsC P 74 L) (hO : LawsOk L) (hd : d ≤ 60) (hp : ∀ g, g < 10 → -100000000000 ≤ (rdl P (74 + 36) g).toInt ∧ (rdl P (74 + 36) g).toInt ≤ 100000000000) : ∃ M', m_X4_pass fu 74 P (nI d) = some M' ∧ vC 74 M' = nightsS V n L d ∧ (∀ k j, k < 74 ∨ 110 < k → rd M' k j = rd P k j) ∧ (∀ k j, k ≠ 110 → rdl M' k j = rdl P k j) ∧ m_X4_allPurses fu 74 M' = some (smL (fun f => rdl M' 110 f) n) ∧ (∀ i, i < n → -200000000000 ≤ (rdl M' 110 i).toInt ∧ (rdl M' 110 i).toInt ≤ 200000000000) ∧ ∀ i, i < n → -186040800 ≤ (rdl M' 110 i).toInt - (rdl P 110 i).toInt ∧ (rdl M' 110 i).toInt - (rdl P 110 i).toInt ≤ 186040800 := by
  have h10 := h.1.2.2
  obtain ⟨M', a1, a2, a3, a4⟩ := cpass_is (c := d) hfu hV h hW (by omega) hL hO (by omega) hp
  have fr := fr_m_X4_pass a1
  refine ⟨M', a1, a2, fun k j q => fr.1 _ _ (by unfold w_X4_pass; omega), fun k j q => fr.2 _ _ (by unfold v_X4_pass; omega), allp_is (by omega) ((c_n a2).trans (nights_ok h (by omega) (by omega) d (by omega)).1.1) h10, fun i hi => ?_, fun i hi => ?_⟩
  · have t1 := a4 i (by omega)
    have t2 := hp i (by omega)
    rw [show (74 + 36 : Nat) = 110 from rfl] at t1 t2
    omega
  · have t1 := a4 i (by omega)
    rw [show (74 + 36 : Nat) = 110 from rfl] at t1
    omega
end CTHINK
theorem op_thought {fu c : Nat} {M : Mem} (hf : 5000 ≤ fu) (hc : c ≤ 512) (h : Inv c M) (a b : Int32) : ∃ r M1 M2, m_X5_thought fu M a b = some (r, M1) ∧ m_X6_thought fu M1 a b = some (r, M2) ∧ Inv (c + 1) M2 := by
  obtain ⟨n, L, h1, h2, h3, h4, h5, h6, h7, h8⟩ := id h
  have hwI : wI c ≤ 31320 := by unfold wI; omega
  have h10 := h2.1.2.2
  by_cases q : (¬ a < 1 ∧ ¬ 60 < a) ∧ (¬ b < 0 ∧ ¬ 3 < b)
  · obtain ⟨d, hd, rfl⟩ := arg_nI (a := a) (n := 61) (by grind) (by have e : nI 61 = 61 := rfl; grind) (by decide)
    obtain ⟨C, c1, c2, c3, c4⟩ := ccopy_is (fu := fu) (P := 74) (R := 0) (by omega) (by omega) h4
    have g0 := fr_m_X4_copy c1
    have hp : ∀ g, g < 10 → -100000000000 ≤ (rdl C (74 + 36) g).toInt ∧ (rdl C (74 + 36) g).toInt ≤ 100000000000 := fun g hg => by rw [c4 g hg]; exact PBg (c := c) h3 h2 g hg
    have okC : Vok (vC 74 C) n (wI c) 9999 := by rw [c2]; exact h2
    obtain ⟨M1, a1, a2, a3, a4, a5, a6, a7⟩ := cpassD_is (d := d) (by omega : 500 ≤ fu) rfl okC hwI c3 h6 (by omega) hp
    have e0 : ∀ k j, k < 74 ∨ 110 < k → rd M1 k j = rd M k j := fun k j z => (a3 k j z).trans (g0.1 _ _ (by unfold w_X4_copy; omega))
    have l0 : ∀ k j, k ≠ 110 → rdl M1 k j = rdl M k j := fun k j z => (a4 k j z).trans (g0.2 _ _ (by unfold v_X4_copy; omega))
    have g1 : Fr (fun k j => 74 ≤ k ∧ k ≤ 110) (fun k _ => k = 110) M M1 := ⟨fun k j z => e0 k j (by omega), fun k j z => l0 k j z⟩
    have v1 : vC 0 M1 = vC 0 M := vC_fr g1 (fun k j z => by omega) (fun k j z => by omega)
    have m1 : vM M1 = vC 0 M := (vM_fr g1 (fun k j z => by omega)).trans h1
    have m2 : vM (wr M1 148 0 0) = vC 0 M := (vM_t0 M1).trans m1
    have hL1 : LawsM (wr M1 148 0 0) L := LawsM_eq (fun k j z1 z2 => by rw [rd_t0 (by omega)]; exact e0 _ _ (by omega)) h5
    have ft := h2.2.2.2.2.2.2.2.2.2.1
    obtain ⟨M2, b1, b2, b3⟩ := mthink_is (d := d) (ft := vC 0 M 162 9) (w := b) (by omega : 500 ≤ fu) m2 h2 (by omega) (by omega) hL1 h6 (by omega) ft
    have vsame : vs (vC 0 M) 162 9 (vC 0 M 162 9) = vC 0 M := by
      funext x y
      by_cases z : x = 162 ∧ y = 9
      · rw [z.1, z.2, vs_at]
      · rw [vs_ne z]
    rw [vsame] at b1
    have n0 : rd M1 0 0 = nI n := (c_n v1).trans h2.1.1
    have n1 : rd M1 74 0 = nI n := (c_n a2).trans (by rw [c2]; exact (nights_ok h2 (by omega) (by omega) d (by omega)).1.1)
    rw [c2] at a2
    have e2 : m_X6_thought fu M1 (nI d) b = some (qS (nightsS (vC 0 M) n L d) n b - qS0 (vC 0 M) n b, M2) := by
      unfold m_X6_thought
      rw [bnd_e, isIn_is, some_bind, if_neg (by rw [tf_0]; exact fun z => z q.1), isIn_is, some_bind, if_neg (by rw [tf_0]; exact fun z => z q.2), ix_9, m_at m2 (k := 162) (by decide) (by decide) (by decide), b1, some_bind, un2_is]
    have e1 : m_X5_thought fu M (nI d) b = some (qS (nightsS (vC 0 M) n L d) n b - qS0 (vC 0 M) n b, M1) := by
      unfold m_X5_thought
      rw [if_neg q.1.1, if_neg q.1.2, if_neg q.2.1, if_pos (by grind), c1, some_bind, a1, some_bind]
      unfold qS qS0
      by_cases w0 : b = 0
      · rw [if_pos w0, if_pos w0, if_pos w0, a5, some_bind, allp_is (by omega) n0 h10, some_bind]
        have s1 : (smL (fun f => rdl M1 110 f) n).toInt32 = smI (fun f => nightsS (vC 0 M) n L d 153 f) n := by
          rw [smL_32]; exact smI_cong (fun i hi => c_pur a2 (by omega))
        have s2 : (smL (fun f => rdl M1 (0 + 36) f) n).toInt32 = smI (fun f => vC 0 M 153 f) n := by
          rw [smL_32]; exact smI_cong (fun i hi => c_pur v1 (by omega))
        rw [← s1, ← s2]
        simp
      · rw [if_neg w0, if_neg w0, if_neg w0]
        by_cases w1 : b = 1
        · rw [if_pos w1, if_pos w1, if_pos w1, c_mo a2, c_mo v1]
        · rw [if_neg w1, if_neg w1, if_neg w1]
          by_cases w2 : b = 2
          · rw [if_pos w2, if_pos w2, if_pos w2, show (6 : Int32) = nI 6 from rfl, cadded_is (by omega) n1 h10 (by decide), some_bind, cadded_is (by omega) n0 h10 (by decide), some_bind]
            rw [smI_cong (fun i hi => c_cau a2 (by omega : i < 10)), smI_cong (fun i hi => c_cau v1 (by omega : i < 10))]
          · rw [if_neg w2, if_neg w2, if_neg w2, ceaten_is (by omega) n1 h10, some_bind]
            rw [smI_cong (fun i hi => by rw [c_eat a2 (by omega : i < 10)])]
            simp
    have g2 := fr_m_X6_thought e2
    refine ⟨_, M1, M2, e1, e2, ?_⟩
    have eC : vC 0 M2 = vC 0 M := (vC_fr g2 (fun k j z => by unfold w_X6_thought at z; omega) (fun k j z => z.elim)).trans v1
    exact (h.keep eC (b2.trans h1.symm) (fun k j z => (g2.2 _ _ (fun y => y.elim)).trans (l0 _ _ (by omega))) (fun k j z => (g2.1 _ _ (by unfold keepL at z; unfold w_X6_thought; omega)).trans (e0 _ _ (by unfold keepL at z; omega))) (fun k j z => (g2.1 _ _ (by unfold keepX at z; unfold w_X6_thought; omega)).trans (e0 _ _ (by unfold keepX at z; omega))) (fun k j z => (g2.1 _ _ (by unfold keepG at z; unfold w_X6_thought; omega)).trans (e0 _ _ (by unfold keepG at z; omega)))).mono (Nat.le_succ c)
  · refine ⟨-100000000, M, wr M 148 0 0, ?_, ?_, h.t0⟩
    · unfold m_X5_thought
      by_cases q1 : a < 1
      · rw [if_pos q1]
      · by_cases q2 : 60 < a
        · rw [if_neg q1, if_pos q2]
        · by_cases q3 : b < 0
          · rw [if_neg q1, if_neg q2, if_pos q3]
          · rw [if_neg q1, if_neg q2, if_neg q3, if_neg (fun z => q ⟨⟨q1, q2⟩, q3, by grind⟩)]
    · unfold m_X6_thought
      rw [bnd_e, isIn_is, some_bind]
      by_cases q1 : ¬ a < 1 ∧ ¬ 60 < a
      · rw [if_neg (by rw [tf_0]; exact fun z => z q1), isIn_is, some_bind, if_pos (by rw [tf_0]; exact fun z => q ⟨q1, z⟩)]
      · rw [if_pos (by rw [tf_0]; exact q1)]
