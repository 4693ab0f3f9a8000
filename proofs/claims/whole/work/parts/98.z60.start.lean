/-! ===== what the constructors leave keeps what holds between calls ===== -/
def MB : Mem := (bM, fun _ _ => 0)
def V0 : Vw := fun k j => if k = 148 then (if j = 2 then 4 else 0) else if 149 ≤ k ∧ k ≤ 161 ∧ j < 10 then iniV k j else if k = 162 ∧ j < 10 then stV 3 j else 0
theorem MB_rz {r0 : Nat} (h : r0 + 37 ≤ 111) : RZ MB r0 := by
  intro o ho j
  refine ⟨bM_nil (k := r0 + o) ?_, rfl⟩
  have hk : r0 + o < 111 := by omega
  generalize r0 + o = k at hk
  exact (by decide : ∀ k, k < 111 → bL k = []) k hk
theorem start_is {fu : Nat} (hf : 20 ≤ fu) : ∃ M1 M2 M3, m_X4_begin fu 0 (toldM MB 0) 4 = some M1 ∧ m_X4_begin fu 37 (toldM M1 37) 4 = some M2 ∧ m_X4_begin fu 74 (toldM M2 74) 4 = some M3 ∧ vC 0 M1 = V0 ∧ ∀ j, j < 10 → rdl M1 36 j = 0 := by
  obtain ⟨M1, h1, h2, h3⟩ := begin_is (fu := fu) (R := 0) (m := 4) (M := toldM MB 0) hf
  obtain ⟨M2, g1, -, -⟩ := begin_is (fu := fu) (R := 37) (m := 4) (M := toldM M1 37) hf
  obtain ⟨M3, e1, -, -⟩ := begin_is (fu := fu) (R := 74) (m := 4) (M := toldM M2 74) hf
  refine ⟨M1, M2, M3, h1, g1, e1, ?_, fun j hj => by have := h3 j hj; rwa [Nat.zero_add] at this⟩
  rw [h2]
  funext k j
  have hz := MB_rz (r0 := 0) (by decide)
  simp only [vs, begV, V0]
  by_cases h148 : k = 148
  · subst h148
    simp only [true_and, if_true]
    by_cases h2' : j = 2
    · rw [if_pos h2', if_pos h2']
      rfl
    · simp only [h2', if_false]
      rw [if_neg (by omega)]
      simp only [vC, if_true]
      have z1 : rd (toldM MB 0) 0 1 = 0 := rfl
      have z2 : rd (toldM MB 0) 0 2 = 0 := rfl
      have z3 : rd (toldM MB 0) 0 3 = 0 := rfl
      simp [h2', z1, z2, z3]
  · rw [if_neg (fun q => h148 q.1), if_neg h148]
    by_cases hk : 149 ≤ k ∧ k ≤ 161 ∧ j < 10
    · rw [if_pos hk, if_pos hk]
    · rw [if_neg hk, if_neg hk]
      by_cases h162 : k = 162 ∧ j < 10
      · obtain ⟨rfl, hj⟩ := h162
        rw [if_pos ⟨rfl, hj⟩]
        simp [vC, hj, toldM, rd]
      · rw [if_neg h162]
        simp only [vC, if_neg h148]
        rw [if_neg (by omega)]
theorem vM_0 {M : Mem} (hM : ∀ k j, 111 ≤ k → rd M k j = bM k j) : vM M = V0 := by
  funext k j
  simp only [vM, V0]
  by_cases h148 : k = 148
  · subst h148
    simp only [if_true]
    by_cases hj : 1 ≤ j ∧ j ≤ 4
    · rw [if_pos hj, hM 148 j (by decide)]
      rcases (by omega : j = 1 ∨ j = 2 ∨ j = 3 ∨ j = 4) with rfl | rfl | rfl | rfl <;> rfl
    · rw [if_neg hj, if_neg (by omega)]
  · rw [if_neg h148, if_neg h148]
    by_cases hk : 149 ≤ k ∧ k ≤ 162 ∧ j < 10
    · rw [if_pos hk, hM k j (by omega)]
      obtain ⟨h1, h2, h3⟩ := hk
      by_cases h162 : k = 162
      · subst h162
        rw [if_neg (by omega), if_pos ⟨rfl, h3⟩]
        rcases (by omega : j = 0 ∨ j = 1 ∨ j = 2 ∨ j = 3 ∨ j = 4 ∨ j = 5 ∨ j = 6 ∨ j = 7 ∨ j = 8 ∨ j = 9) with rfl | rfl | rfl | rfl | rfl | rfl | rfl | rfl | rfl | rfl <;> rfl
      · rw [if_pos ⟨h1, by omega, h3⟩]
        rcases (by omega : k = 149 ∨ k = 150 ∨ k = 151 ∨ k = 152 ∨ k = 153 ∨ k = 154 ∨ k = 155 ∨ k = 156 ∨ k = 157 ∨ k = 158 ∨ k = 159 ∨ k = 160 ∨ k = 161) with rfl | rfl | rfl | rfl | rfl | rfl | rfl | rfl | rfl | rfl | rfl | rfl | rfl <;>
          rcases (by omega : j = 0 ∨ j = 1 ∨ j = 2 ∨ j = 3 ∨ j = 4 ∨ j = 5 ∨ j = 6 ∨ j = 7 ∨ j = 8 ∨ j = 9) with rfl | rfl | rfl | rfl | rfl | rfl | rfl | rfl | rfl | rfl <;> rfl
    · rw [if_neg hk, if_neg (by omega), if_neg (by omega)]
theorem V0_ok : Vok V0 4 (wI 0) 9999 := by
  refine ⟨⟨rfl, by decide, by decide⟩, by decide, by decide, fun f hf => ⟨0, by decide, (by decide : ∀ f, f < 10 → V0 150 f = nI 0) f hf⟩, by decide, by decide, by decide, by decide, by decide, ⟨by decide, by decide⟩, by decide, by decide⟩
theorem inv_start {fu : Nat} (hf : 20 ≤ fu) : ∃ M1 M2 M3, m_X4_begin fu 0 (toldM MB 0) 4 = some M1 ∧ m_X4_begin fu 37 (toldM M1 37) 4 = some M2 ∧ m_X4_begin fu 74 (toldM M2 74) 4 = some M3 ∧ (∀ k j, 111 ≤ k → rd M3 k j = bM k j) ∧ (∀ k j, 111 ≤ k → rdl M3 k j = 0) ∧ Inv 0 M3 ∧ WB M3 := by
  obtain ⟨M1, M2, M3, h1, h2, h3, hv, hp⟩ := start_is hf
  have hM3 : ∀ k j, 111 ≤ k → rd M3 k j = bM k j := fun k j hk => by rw [(bg_fr h3 (Or.inr hk)).1, (bg_fr h2 (Or.inr (by omega))).1, (bg_fr h1 (Or.inr (by omega))).1]; rfl
  have hMl3 : ∀ k j, 111 ≤ k → rdl M3 k j = 0 := fun k j hk => by rw [(bg_fr h3 (Or.inr hk)).2, (bg_fr h2 (Or.inr (by omega))).2, (bg_fr h1 (Or.inr (by omega))).2]; rfl
  have h13 : ∀ k, k < 37 → (∀ j, rd M3 k j = rd M1 k j) ∧ ∀ j, rdl M3 k j = rdl M1 k j := fun k hk => ⟨fun j => by rw [(bg_fr h3 (Or.inl (by omega))).1, (bg_fr h2 (Or.inl (by omega))).1], fun j => by rw [(bg_fr h3 (Or.inl (by omega))).2, (bg_fr h2 (Or.inl (by omega))).2]⟩
  have hv3 : vC 0 M3 = V0 := (vC_eqs (fun k j q => (h13 k (by omega)).1 j) (fun j => (h13 36 (by decide)).2 j)).trans hv
  have hlaw : ∀ k j, 28 ≤ k → k < 36 → rd M3 k j = 0 := fun k j q1 q2 => by
    rw [(h13 k (by omega)).1, (fr_m_X4_begin h1).1 k j (fun z => by rcases z with z | z <;> omega)]
    exact (MB_rz (r0 := 0) (by decide) k (by omega) j).1 ▸ (by rw [Nat.zero_add]; exact if_neg (show ¬ k = 0 + 1 by omega))
  refine ⟨M1, M2, M3, h1, h2, h3, hM3, hMl3, ⟨4, fun _ => [], by rw [hv3]; exact vM_0 hM3, by rw [hv3]; exact V0_ok, ?_, ?_, ?_, ?_, ?_, ?_⟩, ?_, ?_⟩
  · intro f hf2
    rw [hv3, show (0 : Nat) + 36 = 36 from rfl, (h13 36 (by decide)).2, hp f hf2]
    decide
  · intro k hk
    refine ⟨hlaw _ _ (by omega) (by omega), (show (encL []).length ≤ 400 by decide), fun i hi => absurd hi (Nat.not_lt_zero i)⟩
  · intro k hk
    refine ⟨(hM3 165 k (by decide)).trans (bM_nil rfl), Nat.zero_le _, fun i hi => absurd hi (Nat.not_lt_zero i)⟩
  · intro k hk q hq
    cases hq
  · refine ⟨⟨0, by decide, (hM3 146 7 (by decide)).trans rfl, (hM3 148 20 (by decide)).trans rfl, fun i hi => absurd hi (Nat.not_lt_zero i)⟩, ?_, ?_, fun i _ => ?_⟩
    · rw [hM3 146 8 (by decide), hM3 148 38 (by decide)]; rfl
    · rw [hM3 146 9 (by decide), hM3 148 39 (by decide)]; rfl
    · rw [hM3 164 i (by decide)]; rfl
  · exact Or.inl ⟨(hM3 146 10 (by decide)).trans rfl, (hM3 148 51 (by decide)).trans rfl⟩
  · intro f hf2
    rw [hM3 161 f (by decide)]
    exact (by decide : ∀ f, f < 10 → -1 ≤ bM 161 f ∧ bM 161 f ≤ 60) f hf2
  · intro h
    rw [hM3 148 51 (by decide)] at h
    exact absurd h (by decide)
