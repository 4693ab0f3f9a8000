section MTWO2
variable {fu a F : Nat} {V : Vw} {W N : Int} {L : Nat → List Ln}
theorem lg_pk {x : Int64 × Int32} {y : Int64} {o : Int32} : pkS x y o = if 0 < lg_cmp y x.1 then (y, o) else x := by
  unfold pkS
  by_cases g : lg_cmp y x.1 ≤ 0
  · rw [if_pos g, if_neg (by grind)]
  · rw [if_neg g, if_pos (by grind)]
/-- the best of three, by any worth -/
noncomputable def b3F (fd : Int32 → Int64) : Int64 × Int32 := pkS (pkS (fd 0, 0) (fd 1) 1) (fd 3) 3
theorem b3F_is (V : Vw) (a F : Nat) (L : Nat → List Ln) (p : Int32) (l : Nat → Int64) (w : Nat) : b3F (fdS V a F L p l w) = b3S V a F L p l w := rfl
noncomputable def a4F (fd : Int32 → Int64) : Nat → Int64 × Int32
  | 0 => (0, 0)
  | 1 => (fd (nI 0), nI 0)
  | 2 => pkS (fd (nI 0), nI 0) (fd (nI 1)) (nI 1)
  | 3 => pkS (fd (nI 0), nI 0) (fd (nI 1)) (nI 1)
  | _ => pkS (pkS (fd (nI 0), nI 0) (fd (nI 1)) (nI 1)) (fd (nI 3)) (nI 3)
theorem a4F_b (fd : Int32 → Int64) : a4F fd 4 = b3F fd := by
  show pkS (pkS (fd (nI 0), nI 0) (fd (nI 1)) (nI 1)) (fd (nI 3)) (nI 3) = _
  rw [nI3.1, nI3.2.1, nI3.2.2.2]; rfl
theorem mrowF {w : Nat} {p oo : Int32} {M : Mem} {fd : Int32 → Int64} (hfu : 20 ≤ fu)
    (step : ∀ (i : Nat) (Z : Mem), (i = 0 ∨ i = 1 ∨ i = 3) → (∀ k j, k ≠ 176 → ¬ (k = 179 ∧ j = w) → rd Z k j = rd M k j) → (∀ k j, ¬ (k = 178 ∧ j = w) → rdl Z k j = rdl M k j) → ∃ X, (∀ k j, k ≠ 176 → rd X k j = rd Z k j) ∧ (∀ k j, rdl X k j = rdl Z k j) ∧ b_X6_findsTwo_33 fu p (nI a) (nI w) oo (nI i, Z) = if nI i ≤ 0 then some (.inl (nI (i + 1), wr (wrl X 178 w (fd (nI i))) 179 w (nI i))) else if 0 < lg_cmp (fd (nI i)) (rdl X 178 w) then some (.inl (nI (i + 1), wr (wrl X 178 w (fd (nI i))) 179 w (nI i))) else some (.inl (nI (i + 1), X))) :
    ∃ M', lp (b_X6_findsTwo_33 fu p (nI a) (nI w) oo) fu (0, M) = some M' ∧ rdl M' 178 w = (b3F fd).1 ∧ rd M' 179 w = (b3F fd).2 ∧ (∀ k j, k ≠ 176 → ¬ (k = 179 ∧ j = w) → rd M' k j = rd M k j) ∧ ∀ k j, ¬ (k = 178 ∧ j = w) → rdl M' k j = rdl M k j := by
  refine lp_up 4 (fun i s => ∃ Z, s = (nI i, Z) ∧ (i ≠ 0 → rdl Z 178 w = (a4F fd i).1 ∧ rd Z 179 w = (a4F fd i).2) ∧ (∀ k j, k ≠ 176 → ¬ (k = 179 ∧ j = w) → rd Z k j = rd M k j) ∧ ∀ k j, ¬ (k = 178 ∧ j = w) → rdl Z k j = rdl M k j) (fun M' => rdl M' 178 w = (b3F fd).1 ∧ rd M' 179 w = (b3F fd).2 ∧ (∀ k j, k ≠ 176 → ¬ (k = 179 ∧ j = w) → rd M' k j = rd M k j) ∧ ∀ k j, ¬ (k = 178 ∧ j = w) → rdl M' k j = rdl M k j) ?_ ?_ fu 0 (0, M) (Nat.zero_le _) (by omega) ⟨M, rfl, fun z => absurd rfl z, fun _ _ _ _ => rfl, fun _ _ _ => rfl⟩
  · rintro i s hi ⟨Z, rfl, z1, z2, z3⟩
    left
    by_cases i2 : i = 2
    · subst i2
      have e : b_X6_findsTwo_33 fu p (nI a) (nI w) oo (nI 2, Z) = some (.inl (nI (2 + 1), Z)) := by
        unfold b_X6_findsTwo_33
        rw [un2_is, if_neg (show ¬ (4 : Int32) ≤ nI 2 from nI_ge (b := 4) hi (by decide)), if_pos (show nI 2 = 2 from rfl), bnd_e, nI_1]
      exact ⟨_, e, Z, rfl, fun _ => z1 (by decide), z2, z3⟩
    · obtain ⟨X, x1, x2, x3⟩ := step i Z (by omega) z2 z3
      have setd : ∃ Z2, Z2 = wr (wrl X 178 w (fd (nI i))) 179 w (nI i) ∧ (rdl Z2 178 w = fd (nI i) ∧ rd Z2 179 w = nI i) ∧ (∀ k j, k ≠ 176 → ¬ (k = 179 ∧ j = w) → rd Z2 k j = rd M k j) ∧ ∀ k j, ¬ (k = 178 ∧ j = w) → rdl Z2 k j = rdl M k j := by
        refine ⟨_, rfl, ⟨?_, ?_⟩, fun k j q1 q2 => ?_, fun k j q => ?_⟩
        · rw [rdl_wr, rdl_wrl, if_pos ⟨rfl, rfl⟩]
        · rw [rd_we, if_pos ⟨rfl, rfl⟩]
        · rw [wr_sp q2, rd_wrl, x1 _ _ q1]; exact z2 k j q1 q2
        · rw [rdl_wr, rdl_wrl, if_neg q, x2]; exact z3 k j q
      obtain ⟨Z2, s1, s2, s3, s4⟩ := setd
      rw [← s1] at x3
      rw [x3]
      by_cases i0 : i = 0
      · subst i0
        rw [if_pos (show nI 0 ≤ 0 by decide)]
        exact ⟨_, rfl, Z2, rfl, fun _ => s2, s3, s4⟩
      · rw [if_neg (show ¬ nI i ≤ 0 from nI_ge (a := 0) (by omega) (by omega)), x2]
        obtain ⟨y1, y2⟩ := z1 i0
        have acd : a4F fd (i + 1) = pkS (a4F fd i) (fd (nI i)) (nI i) := by
          rcases (by omega : i = 1 ∨ i = 3) with e | e
          · rw [e]; rfl
          · rw [e]; rfl
        rw [lg_pk] at acd
        rw [y1]
        by_cases g : 0 < lg_cmp (fd (nI i)) (a4F fd i).1
        · rw [if_pos g] at acd ⊢
          exact ⟨_, rfl, Z2, rfl, fun _ => by rw [acd]; exact s2, s3, s4⟩
        · rw [if_neg g] at acd ⊢
          exact ⟨_, rfl, X, rfl, fun _ => by rw [acd, x2, x1 _ _ (by decide)]; exact ⟨y1, y2⟩, fun k j q1 q2 => by rw [x1 _ _ q1]; exact z2 k j q1 q2, fun k j q => by rw [x2]; exact z3 k j q⟩
  · rintro s ⟨Z, rfl, z1, z2, z3⟩
    have z1' := z1 (by decide)
    rw [a4F_b] at z1'
    refine ⟨Z, ?_, z1'.1, z1'.2, z2, z3⟩
    unfold b_X6_findsTwo_33
    rw [un2_is, if_pos (show (4 : Int32) ≤ nI 4 from nI_le (Nat.le_refl _) (by decide))]
theorem m119 {X : Mem} {w i : Nat} {p o c e v : Int32} {q f : Int64} (hw : w ≤ 60) (hv : m_X6_valueOf X 0 = some v) (hq : m_X6_nextOf X (nI w) (nI a) c e = some q) (hf : (1000 * v.toInt64) + flS (p.toInt64 * q) 1000 = f) : j_X6_findsTwo_119i fu X p (nI a) (nI w) o (nI i) c e = if nI i ≤ 0 then some (.inl (nI (i + 1), wr (wrl X 178 w f) 179 w (nI i))) else if 0 < lg_cmp f (rdl X 178 w) then some (.inl (nI (i + 1), wr (wrl X 178 w f) 179 w (nI i))) else some (.inl (nI (i + 1), X)) := by
  unfold j_X6_findsTwo_119i j_X6_findsTwo_174i
  rw [hv, some_bind, hq, some_bind, mlow_is (by decide), some_bind, hf, bnd_e, chk_is (inb_nI (by omega) (by decide)), chk_is (inb_nI (by omega) (by decide)), ix_nI (by omega), bnd_e, bnd_e, bnd_e, nI_1, bnd_e]
end MTWO2
