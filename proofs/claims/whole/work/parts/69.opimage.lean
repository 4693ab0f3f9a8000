theorem wr_sp {M : Mem} {x : Int32} {k j k' j' : Nat} (h : ¬ (k' = k ∧ j' = j)) : rd (wr M k j x) k' j' = rd M k' j' := by rw [rd_we, if_neg h]
theorem img_29 {fu : Nat} {s1 : Int32} {M1 : Mem} {i : Nat} (hi : i < 160) : b_X6_image_29 fu s1 (nI i, M1) = some (.inl (nI (i + 1), wr M1 180 i (rd M1 181 i))) := by
  unfold b_X6_image_29
  rw [un2_is, if_neg (show ¬ (160 : Int32) ≤ nI i from nI_ge hi (by decide)), chk_is (inb_nI hi (by decide)), ix_nI (by omega), bnd_e, bnd_e, nI_1]
theorem img_29e {fu : Nat} {s1 : Int32} {M1 : Mem} : b_X6_image_29 fu s1 (nI 160, M1) = some (.inr M1) := by
  unfold b_X6_image_29
  rw [un2_is, if_pos (show (160 : Int32) ≤ nI 160 from nI_le (Nat.le_refl _) (by decide))]
theorem img_65 {fu : Nat} {M1 : Mem} {i : Nat} (hi : i < 160) : b_X6_image_65 fu (nI i, M1) = some (.inl (nI (i + 1), wr M1 181 i (rd M1 180 i))) := by
  unfold b_X6_image_65
  rw [un2_is, if_neg (show ¬ (160 : Int32) ≤ nI i from nI_ge hi (by decide)), chk_is (inb_nI hi (by decide)), ix_nI (by omega), bnd_e, bnd_e, nI_1]
theorem img_65e {fu : Nat} {M1 : Mem} : b_X6_image_65 fu (nI 160, M1) = some (.inr M1) := by
  unfold b_X6_image_65
  rw [un2_is, if_pos (show (160 : Int32) ≤ nI 160 from nI_le (Nat.le_refl _) (by decide))]
theorem vA_eq {A B : Nat} {M M' : Mem} (h : ∀ j, j < 144 → rd M' A j = rd M B j) : vA A M' = vA B M := by
  funext k j
  unfold vA
  by_cases b : k = 148 ∧ 1 ≤ j ∧ j ≤ 4 ∨ 149 ≤ k ∧ k ≤ 162 ∧ j < 10
  · rw [if_pos b, if_pos b, h _ (qN_is b).1]
  · rw [if_neg b, if_neg b]
theorem mtake_is {fu : Nat} {M : Mem} (hfu : 2000 ≤ fu) : ∃ T M2, m_X6_image fu M 1 = some (1, M2) ∧ KS T 3396 M2 ∧ (∀ k j, k ≠ 180 → k ≠ 181 → ¬ (k = 148 ∧ (j = 0 ∨ j = 48 ∨ j = 49 ∨ j = 51)) → rd T k j = rd M k j) ∧ rd T 148 51 = 1 ∧ vA 181 T = vM M ∧ ∀ k j, rdl T k j = rdl M k j := by
  obtain ⟨S, s1, s2⟩ := save_is (by omega : 20 ≤ fu) (wr (wr M 148 0 0) 148 51 1)
  obtain ⟨T, t1, t2, t3, t4⟩ := cp160_is (body := b_X6_image_65 fu) (A := 181) (B := 180) (M := S) hfu (by decide) (fun i M1 hi => img_65 hi) (fun M1 => img_65e)
  have t48 : rd T 148 48 = 1 := (t3 _ _ (by decide)).trans s2.1
  obtain ⟨M2, e, q⟩ := kept_is (M := T) hfu (KS_step T) ⟨(wr_sp (by omega)).trans t48, by rw [rd_we, if_pos ⟨rfl, rfl⟩]; rfl, fun k j q1 q2 => wr_sp q2, fun q hq => absurd hq (Nat.not_lt_zero _), fun _ _ => rfl⟩
  refine ⟨T, M2, ?_, q, fun k j q1 q2 q3 => ?_, ?_, ?_, fun k j => (t4 k j).trans (s2.2.2.2.2 k j)⟩
  · unfold m_X6_image j_X6_image_18 j_X6_image_54
    rw [bnd_e, if_neg (by decide), bnd_e, if_neg (by decide), s1, some_bind, if_neg (by decide), t1, some_bind, un1_is, e]
  · rw [t3 k j q2, s2.2.2.1 k j q1 (by omega), wr_sp (by omega), wr_sp (by omega)]
  · rw [t3 _ _ (by decide), s2.2.2.1 _ _ (by decide) (by decide), rd_we, if_pos ⟨rfl, rfl⟩]
  · rw [vA_eq (A := 181) (B := 180) (M := S) (fun j hj => t2 j (by omega)), vA_save s2, vM_out (by omega), vM_out (by omega)]
theorem mback_is {fu : Nat} {M : Mem} (hfu : 2000 ≤ fu) (h1 : rd M 148 51 ≠ 0) : ∃ S M2, m_X6_image fu M 0 = some (1, M2) ∧ KR S 3396 M2 ∧ (∀ k j, k ≠ 180 → ¬ (149 ≤ k ∧ k ≤ 162) → ¬ (k = 148 ∧ (j ≤ 4 ∨ j = 48 ∨ j = 49 ∨ j = 51)) → rd S k j = rd M k j) ∧ rd S 148 51 = 1 ∧ vM S = vA 181 M ∧ ∀ k j, rdl S k j = rdl M k j := by
  obtain ⟨T, t1, t2, t3, t4⟩ := cp160_is (body := b_X6_image_29 fu 0) (A := 180) (B := 181) (M := wr (wr M 148 0 0) 148 51 1) hfu (by decide) (fun i M1 hi => img_29 hi) (fun M1 => img_29e)
  obtain ⟨S, s1, s2⟩ := back_is (by omega : 20 ≤ fu) T
  have fs := fr_m_X6_asides s1
  obtain ⟨M2, e, q⟩ := kept_is (M := S) hfu (KR_step S) ⟨(wr_sp (by omega)).trans s2.1, by rw [rd_we, if_pos ⟨rfl, rfl⟩]; rfl, fun k j q1 q2 => wr_sp q2, fun q hq => absurd hq (Nat.not_lt_zero _), fun _ _ => rfl⟩
  refine ⟨S, M2, ?_, q, fun k j q1 q2 q3 => ?_, ?_, ?_, fun k j => (s2.2.2.2.2 k j).trans (t4 k j)⟩
  · unfold m_X6_image j_X6_image_18 j_X6_image_54
    rw [bnd_e, if_pos rfl, if_neg (by rw [wr_sp (by omega)]; exact h1), bnd_e, if_pos rfl, t1, some_bind, un1_is, s1, some_bind, if_pos rfl, e]
  · rw [fs.1 k j (by unfold w_X6_asides; omega), t3 k j q1, wr_sp (by omega), wr_sp (by omega)]
  · rw [fs.1 _ _ (by unfold w_X6_asides; omega), t3 _ _ (by decide), rd_we, if_pos ⟨rfl, rfl⟩]
  · rw [vM_back s2]
    exact vA_eq (A := 180) (B := 181) (fun j hj => by rw [t2 j (by omega), wr_sp (by omega), wr_sp (by omega)])
theorem WB_eq {M M' : Mem} (h : WB M) (h1 : ∀ j, rd M' 161 j = rd M 161 j) (h2 : rd M' 148 51 = rd M 148 51) (h3 : ∀ j, rd M' 181 j = rd M 181 j) : WB M' := by
  unfold WB
  simp only [h1, h2, h3]
  exact h
theorem op_image {fu c : Nat} {M : Mem} (hf : 5000 ≤ fu) (h : Inv c M) (hw : WB M) (a : Int32) (ha : a = 0 ∨ a = 1) : ∃ r M1 M2, m_X5_image fu M a = some (r, M1) ∧ m_X6_image fu M1 a = some (r, M2) ∧ Inv (c + 1) M2 ∧ WB M2 := by
  obtain ⟨n, L, h1, h2, h3, h4, h5, h6, h7, h8⟩ := id h
  rcases ha with rfl | rfl
  · rcases h8 with ⟨z1, z2⟩ | ⟨z1, z2, m, K, k1, k2, k3, k4, k5, k6⟩
    · refine ⟨0, M, wr M 148 0 0, ?_, ?_, h.t0, WB_eq hw (fun j => wr_sp (by omega)) (wr_sp (by omega)) (fun j => wr_sp (by omega))⟩
      · unfold m_X5_image
        rw [if_pos rfl, z1, if_pos rfl, chk_is (by decide)]
      · unfold m_X6_image
        rw [bnd_e, if_pos rfl, wr_sp (by omega), z2, if_pos rfl]
    · obtain ⟨C, c1, c2, c3, c4⟩ := ccopy_is (fu := fu) (P := 0) (R := 37) (by omega) (by omega) k4
      have g0 := fr_m_X4_copy c1
      have e0 : ∀ k j, 37 ≤ k → rd C k j = rd M k j := fun k j z => g0.1 _ _ (by unfold w_X4_copy; omega)
      have l0 : ∀ k j, k ≠ 36 → rdl C k j = rdl M k j := fun k j z => g0.2 _ _ (by unfold v_X4_copy; omega)
      obtain ⟨S, M2, a1, a2, a3, a4, a5, a6⟩ := mback_is (fu := fu) (M := C) (by omega) (by rw [e0 _ _ (by decide), z2]; decide)
      have e1 : m_X5_image fu M 0 = some (1, C) := by
        unfold m_X5_image
        rw [if_pos rfl, z1, if_neg (by decide), c1, some_bind, e0 _ _ (by decide), z1, chk_is (by decide)]
      have r2 : ∀ k j, k ≠ 180 → ¬ (149 ≤ k ∧ k ≤ 170) → ¬ (k = 148 ∧ (j ≤ 4 ∨ j = 48 ∨ j = 49 ∨ j = 51 ∨ j = 54)) → rd M2 k j = rd C k j := fun k j q1 q2 q3 => (a2.2.2.1 k j (by omega) (by omega)).trans (a3 k j q1 (by omega) (by omega))
      have l2 : ∀ k j, rdl M2 k j = rdl C k j := fun k j => (a2.2.2.2.2 k j).trans (a6 k j)
      have r51 : rd M2 148 51 = 1 := (a2.2.2.1 _ _ (by omega) (by omega)).trans a4
      have r10 : rd M2 146 10 = 1 := by rw [r2 _ _ (by decide) (by decide) (by decide), e0 _ _ (by decide), z1]
      have eC : vC 0 M2 = vC 37 M := (vC_eqs (fun k j z => r2 _ _ (by omega) (by omega) (by omega)) (fun j => l2 _ _)).trans c2
      have eK : vC 37 M2 = vC 37 M := vC_eqs (fun k j z => (r2 _ _ (by omega) (by omega) (by omega)).trans (e0 _ _ (by omega))) (fun j => (l2 _ _).trans (l0 _ _ (by omega)))
      have eI : ∀ j, rd M2 181 j = rd M 181 j := fun j => (r2 _ _ (by omega) (by omega) (by omega)).trans (e0 _ _ (by omega))
      have eI2 : ∀ j, rd M2 182 j = rd M 182 j := fun j => (r2 _ _ (by omega) (by omega) (by omega)).trans (e0 _ _ (by omega))
      have vMS : vM M2 = vM S := by
        funext k j
        rw [vM_if, vM_if]
        by_cases b : k = 148 ∧ 1 ≤ j ∧ j ≤ 4 ∨ 149 ≤ k ∧ k ≤ 162 ∧ j < 10
        · rw [if_pos b, if_pos b]; exact a2.2.2.1 _ _ (by omega) (by omega)
        · rw [if_neg b, if_neg b]
      have eA : vA 181 C = vI M := by rw [vI_A]; exact vA_eq (fun j _ => e0 _ _ (by decide))
      have eM : vM M2 = vC 37 M := by rw [vMS, a5, eA, k1]
      have hS : LawsI S K := LawsI_eq (fun j => (a3 _ _ (by omega) (by omega) (by omega)).trans (e0 _ _ (by omega))) k5
      have wle : wI c ≤ wI (c + 1) := by rw [wI_s]; omega
      refine ⟨1, C, M2, e1, a1, ⟨m, K, by rw [eM, eC], by rw [eC]; exact k2.mono wle (Int.le_refl _), ?_, LawsC_eq (fun k j q1 q2 => r2 _ _ (by omega) (by omega) (by omega)) c3, LawsM_back a2 hS, k6, Misc_eq (fun k j z => ?_) h7, Or.inr ⟨r10, r51, m, K, by rw [vI_eq eI, eK, k1], by rw [eK]; exact k2.mono wle (Int.le_refl _), ?_, ?_, LawsI_eq eI2 k5, k6⟩⟩, ?_⟩
      · intro f hf
        rw [eC, l2, c4 f hf]; exact k3 f hf
      · unfold keepX at z
        rcases (by omega : (k = 163 ∨ k = 164) ∨ ¬ (149 ≤ k ∧ k ≤ 170)) with y | y
        · exact ((a2.2.2.1 k j (by omega) (by omega)).trans (a3 k j (by omega) (by omega) (by omega))).trans (e0 _ _ (by omega))
        · exact (r2 _ _ (by omega) y (by omega)).trans (e0 _ _ (by omega))
      · rw [eK]; exact PB_eq (fun j => (l2 _ _).trans (l0 _ _ (by omega))) k3
      · exact LawsC_eq (fun k j q1 q2 => (r2 _ _ (by omega) (by omega) (by omega)).trans (e0 _ _ (by omega))) k4
      · refine ⟨fun f hf => ?_, fun _ f hf => by rw [eI]; exact hw.2 z2 f hf⟩
        have q := hw.2 z2 f hf
        have e : rd M2 161 f = rd M 181 (4 + 14 * f + 13) := by
          have t : vM M2 161 f = vI M 161 f := by rw [eM, k1]
          rw [vM_if, if_pos (by omega)] at t
          rw [t]
          unfold vI
          rw [if_neg (by decide), if_pos ⟨by decide, by decide, hf⟩, if_neg (by decide)]
        rw [e]; exact q
  · obtain ⟨C, c1, c2, c3, c4⟩ := ccopy_is (fu := fu) (P := 37) (R := 0) (by omega) (by omega) h4
    have g0 := fr_m_X4_copy c1
    have e0 : ∀ k j, ¬ (37 ≤ k ∧ k ≤ 73) → rd C k j = rd M k j := fun k j z => g0.1 _ _ (by unfold w_X4_copy; omega)
    have l0 : ∀ k j, k ≠ 73 → rdl C k j = rdl M k j := fun k j z => g0.2 _ _ (by unfold v_X4_copy; omega)
    obtain ⟨T, M2, a1, a2, a3, a4, a5, a6⟩ := mtake_is (fu := fu) (M := wr C 146 10 1) (by omega)
    have e1 : m_X5_image fu M 1 = some (1, wr C 146 10 1) := by
      unfold m_X5_image
      rw [if_neg (by decide), c1, some_bind, bnd_e, rd_we, if_pos ⟨rfl, rfl⟩, chk_is (by decide)]
    have r2 : ∀ k j, ¬ (180 ≤ k ∧ k ≤ 182) → ¬ (k = 148 ∧ (j = 0 ∨ j = 48 ∨ j = 49 ∨ j = 51 ∨ j = 54)) → ¬ (k = 146 ∧ j = 10) → rd M2 k j = rd C k j := fun k j q1 q2 q3 => ((a2.2.2.1 k j (by omega) (by omega)).trans (a3 k j (by omega) (by omega) (by omega))).trans (wr_sp q3)
    have l2 : ∀ k j, rdl M2 k j = rdl C k j := fun k j => (a2.2.2.2.2 k j).trans (a6 k j)
    have r51 : rd M2 148 51 = 1 := (a2.2.2.1 _ _ (by omega) (by omega)).trans a4
    have r10 : rd M2 146 10 = 1 := by rw [a2.2.2.1 _ _ (by decide) (by decide), a3 _ _ (by decide) (by decide) (by decide), rd_we, if_pos ⟨rfl, rfl⟩]
    have rM : ∀ k j, ¬ (37 ≤ k ∧ k ≤ 73) → ¬ (180 ≤ k ∧ k ≤ 182) → ¬ (k = 148 ∧ (j = 0 ∨ j = 48 ∨ j = 49 ∨ j = 51 ∨ j = 54)) → ¬ (k = 146 ∧ j = 10) → rd M2 k j = rd M k j := fun k j q0 q1 q2 q3 => (r2 k j q1 q2 q3).trans (e0 k j q0)
    have eC : vC 0 M2 = vC 0 M := vC_eqs (fun k j z => rM _ _ (by omega) (by omega) (by omega) (by omega)) (fun j => (l2 _ _).trans (l0 _ _ (by omega)))
    have eK : vC 37 M2 = vC 0 M := (vC_eqs (fun k j z => r2 _ _ (by omega) (by omega) (by omega)) (fun j => l2 _ _)).trans c2
    have eM : vM M2 = vM M := vM_eqs (fun k j z => rM _ _ (by unfold keepW at z; omega) (by unfold keepW at z; omega) (by unfold keepW at z; omega) (by unfold keepW at z; omega))
    have eT : vM (wr C 146 10 1) = vM M := vM_eqs (fun k j z => (wr_sp (by unfold keepW at z; omega)).trans (e0 _ _ (by unfold keepW at z; omega)))
    have eI : vI M2 = vC 0 M := by
      rw [vI_A, vA_eq (A := 181) (B := 181) (M := T) (fun j _ => a2.2.2.1 _ _ (by omega) (by omega)), a5, eT, h1]
    have hT : LawsM T L := LawsM_eq (fun k j q1 q2 => ((a3 _ _ (by omega) (by omega) (by omega)).trans (wr_sp (by omega))).trans (e0 _ _ (by omega))) h5
    have wle : wI c ≤ wI (c + 1) := by rw [wI_s]; omega
    refine ⟨1, wr C 146 10 1, M2, e1, a1, ⟨n, L, by rw [eM, eC, h1], by rw [eC]; exact h2.mono wle (Int.le_refl _), ?_, LawsC_eq (fun k j q1 q2 => rM _ _ (by omega) (by omega) (by omega) (by omega)) h4, LawsM_eq (fun k j q1 q2 => rM _ _ (by omega) (by omega) (by omega) (by omega)) h5, h6, Misc_eq (fun k j z => rM _ _ (by unfold keepX at z; omega) (by unfold keepX at z; omega) (by unfold keepX at z; omega) (by unfold keepX at z; omega)) h7, Or.inr ⟨r10, r51, n, L, by rw [eI, eK], by rw [eK]; exact h2.mono wle (Int.le_refl _), ?_, LawsC_eq (fun k j q1 q2 => r2 _ _ (by omega) (by omega) (by omega)) c3, LawsI_save a2 hT, h6⟩⟩, ?_⟩
    · rw [eC]; exact PB_eq (fun j => (l2 _ _).trans (l0 _ _ (by omega))) h3
    · intro f hf
      rw [eK, l2, c4 f hf]; exact h3 f hf
    · have e161 : ∀ j, rd M2 161 j = rd M 161 j := fun j => rM _ _ (by omega) (by omega) (by omega) (by omega)
      refine ⟨fun f hf => by rw [e161]; exact hw.1 f hf, fun _ f hf => ?_⟩
      have q := hw.1 f hf
      have e : rd M2 181 (4 + 14 * f + 13) = rd M 161 f := by
        have t : vI M2 161 f = vM M 161 f := by rw [eI, h1]
        rw [vM_if, if_pos (by omega)] at t
        rw [← t]
        unfold vI
        rw [if_neg (by decide), if_pos ⟨by decide, by decide, hf⟩, if_neg (by decide)]
      rw [e]; exact q
