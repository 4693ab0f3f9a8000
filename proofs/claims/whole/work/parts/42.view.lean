/-! ===== the view: what a ring of the class, and the model, hold in common, by the model's cells ===== -/
abbrev Vw : Type := Nat → Nat → Int32
def vs (V : Vw) (k j : Nat) (x : Int32) : Vw := fun a b => if a = k ∧ b = j then x else V a b
/-- the model's view -/
def vM (M : Mem) : Vw := fun k j => if k = 148 then (if 1 ≤ j ∧ j ≤ 4 then rd M 148 j else 0) else if 149 ≤ k ∧ k ≤ 162 ∧ j < 10 then rd M k j else 0
/-- a ring's view -/
def vC (R : Nat) (M : Mem) : Vw := fun k j =>
  if k = 148 then (if j = 1 then rd M R 1 else if j = 2 then rd M R 0 else if j = 3 then rd M R 2 else if j = 4 then rd M R 3 else 0)
  else if 149 ≤ k ∧ k ≤ 162 ∧ j < 10 then
    (if k = 153 then (rdl M (R + 36) j).toInt32 else if k ≤ 156 then rd M (R + 8 + j) (k - 149) else if k ≤ 160 then rd M (R + 18 + j) (k - 157) else if k = 161 then rd M (R + 8 + j) 8 else rd M (R + 1) j)
  else 0
theorem vs_at (V : Vw) (k j : Nat) (x : Int32) : vs V k j x k j = x := by simp [vs]
theorem vs_ne {V : Vw} {k j a b : Nat} {x : Int32} (h : ¬ (a = k ∧ b = j)) : vs V k j x a b = V a b := by simp only [vs, if_neg h]
theorem vs_nk {V : Vw} {k j a b : Nat} {x : Int32} (h : a ≠ k) : vs V k j x a b = V a b := vs_ne (fun q => h q.1)
theorem vs_if (V : Vw) (k j b : Nat) (x : Int32) : vs V k j x k b = if b = j then x else V k b := by simp [vs]
section READ
variable {M : Mem} {V : Vw} {R f : Nat}
theorem m_n (h : vM M = V) : rd M 148 2 = V 148 2 := by rw [← h]; rfl
theorem m_dr (h : vM M = V) : rd M 148 1 = V 148 1 := by rw [← h]; rfl
theorem m_ni (h : vM M = V) : rd M 148 3 = V 148 3 := by rw [← h]; rfl
theorem m_mo (h : vM M = V) : rd M 148 4 = V 148 4 := by rw [← h]; rfl
theorem m_at (h : vM M = V) {k : Nat} (h1 : 149 ≤ k) (h2 : k ≤ 162) (hf : f < 10) : rd M k f = V k f := by
  rw [← h]; unfold vM; rw [if_neg (by omega), if_pos ⟨h1, h2, hf⟩]
theorem c_n (h : vC R M = V) : rd M R 0 = V 148 2 := by rw [← h]; rfl
theorem c_dr (h : vC R M = V) : rd M R 1 = V 148 1 := by rw [← h]; rfl
theorem c_ni (h : vC R M = V) : rd M R 2 = V 148 3 := by rw [← h]; rfl
theorem c_mo (h : vC R M = V) : rd M R 3 = V 148 4 := by rw [← h]; rfl
theorem c_wide (h : vC R M = V) (hf : f < 10) : rd M (R + 8 + f) 0 = V 149 f := by rw [← h]; simp [vC, hf]
theorem c_law (h : vC R M = V) (hf : f < 10) : rd M (R + 8 + f) 1 = V 150 f := by rw [← h]; simp [vC, hf]
theorem c_fam (h : vC R M = V) (hf : f < 10) : rd M (R + 8 + f) 2 = V 151 f := by rw [← h]; simp [vC, hf]
theorem c_dog (h : vC R M = V) (hf : f < 10) : rd M (R + 8 + f) 3 = V 152 f := by rw [← h]; simp [vC, hf]
theorem c_pur (h : vC R M = V) (hf : f < 10) : (rdl M (R + 36) f).toInt32 = V 153 f := by rw [← h]; simp [vC, hf]
theorem c_hit (h : vC R M = V) (hf : f < 10) : rd M (R + 8 + f) 5 = V 154 f := by rw [← h]; simp [vC, hf]
theorem c_cau (h : vC R M = V) (hf : f < 10) : rd M (R + 8 + f) 6 = V 155 f := by rw [← h]; simp [vC, hf]
theorem c_eat (h : vC R M = V) (hf : f < 10) : rd M (R + 8 + f) 7 = V 156 f := by rw [← h]; simp [vC, hf]
theorem c_was (h : vC R M = V) (hf : f < 10) : rd M (R + 8 + f) 8 = V 161 f := by rw [← h]; simp [vC, hf]
theorem c_wall (h : vC R M = V) (hf : f < 10) : rd M (R + 18 + f) 0 = V 157 f := by rw [← h]; simp [vC, hf]
theorem c_heavy (h : vC R M = V) (hf : f < 10) : rd M (R + 18 + f) 1 = V 158 f := by rw [← h]; simp [vC, hf]
theorem c_push (h : vC R M = V) (hf : f < 10) : rd M (R + 18 + f) 2 = V 159 f := by rw [← h]; simp [vC, hf]
theorem c_by (h : vC R M = V) (hf : f < 10) : rd M (R + 18 + f) 3 = V 160 f := by rw [← h]; simp [vC, hf]
theorem c_set (h : vC R M = V) (hf : f < 10) : rd M (R + 1) f = V 162 f := by rw [← h]; simp [vC, hf]
end READ
section WRITE
variable {M : Mem} {R f : Nat} {x : Int32}
theorem vM_wr {k j : Nat} (h : k = 148 ∧ 1 ≤ j ∧ j ≤ 4 ∨ 149 ≤ k ∧ k ≤ 162 ∧ j < 10) : vM (wr M k j x) = vs (vM M) k j x := by
  funext a b; simp only [vM, vs, rd_wr]; grind
theorem vM_out {k j : Nat} (h : ¬ (k = 148 ∧ 1 ≤ j ∧ j ≤ 4 ∨ 149 ≤ k ∧ k ≤ 162 ∧ j < 10)) : vM (wr M k j x) = vM M := by
  funext a b; simp only [vM, rd_wr]; grind
theorem w_n : vC R (wr M R 0 x) = vs (vC R M) 148 2 x := by funext a b; simp only [vC, vs, rd_wr, rdl_wr]; grind
theorem w_dr : vC R (wr M R 1 x) = vs (vC R M) 148 1 x := by funext a b; simp only [vC, vs, rd_wr, rdl_wr]; grind
theorem w_ni : vC R (wr M R 2 x) = vs (vC R M) 148 3 x := by funext a b; simp only [vC, vs, rd_wr, rdl_wr]; grind
theorem w_mo : vC R (wr M R 3 x) = vs (vC R M) 148 4 x := by funext a b; simp only [vC, vs, rd_wr, rdl_wr]; grind
theorem w_land {p : Nat} (hf : f < 10) (hp : p < 8) (h4 : p ≠ 4) : vC R (wr M (R + 8 + f) p x) = vs (vC R M) (149 + p) f x := by
  funext a b; simp only [vC, vs, rd_wr, rdl_wr]; grind
theorem w_land4 : vC R (wr M (R + 8 + f) 4 x) = vC R M := by
  funext a b; simp only [vC, rd_wr, rdl_wr]; grind
theorem w_was (hf : f < 10) : vC R (wr M (R + 8 + f) 8 x) = vs (vC R M) 161 f x := by
  funext a b; simp only [vC, vs, rd_wr, rdl_wr]; grind
theorem w_stake {p : Nat} (hf : f < 10) (hp : p < 4) : vC R (wr M (R + 18 + f) p x) = vs (vC R M) (157 + p) f x := by
  funext a b; simp only [vC, vs, rd_wr, rdl_wr]; grind
theorem w_set (hf : f < 10) : vC R (wr M (R + 1) f x) = vs (vC R M) 162 f x := by
  funext a b; simp only [vC, vs, rd_wr, rdl_wr]; grind
theorem w_pur {x : Int64} (hf : f < 10) : vC R (wrl M (R + 36) f x) = vs (vC R M) 153 f x.toInt32 := by
  funext a b; simp only [vC, vs, rd_wrl, rdl_wrl]; grind
theorem w_out {k j : Nat} (h : ¬ (k = R ∧ j < 4 ∨ k = R + 1 ∨ R + 8 ≤ k ∧ k < R + 28)) : vC R (wr M k j x) = vC R M := by
  funext a b; simp only [vC, rd_wr, rdl_wr]; grind
end WRITE
/-- a view stays where nothing of it is written -/
theorem vM_fr {w v : Nat → Nat → Prop} {M M' : Mem} (h : Fr w v M M') (hw : ∀ k j, w k j → ¬ (k = 148 ∧ 1 ≤ j ∧ j ≤ 4 ∨ 149 ≤ k ∧ k ≤ 162)) : vM M' = vM M := by
  funext a b
  unfold vM
  split
  · next e => split
              · next e2 => rw [h.1]; exact fun q => hw _ _ q (Or.inl ⟨rfl, e2⟩)
              · rfl
  · split
    · next e2 => rw [h.1]; exact fun q => hw _ _ q (Or.inr ⟨e2.1, e2.2.1⟩)
    · rfl
theorem vC_fr {R : Nat} {w v : Nat → Nat → Prop} {M M' : Mem} (h : Fr w v M M') (hw : ∀ k j, w k j → ¬ (k = R ∧ j < 4 ∨ k = R + 1 ∨ R + 8 ≤ k ∧ k < R + 28)) (hv : ∀ k j, v k j → k ≠ R + 36) : vC R M' = vC R M := by
  funext a b
  have e1 : ∀ j, j < 4 → rd M' R j = rd M R j := fun j hj => h.1 _ _ (fun q => hw _ _ q (Or.inl ⟨rfl, hj⟩))
  have e2 : ∀ j, rd M' (R + 1) j = rd M (R + 1) j := fun j => h.1 _ _ (fun q => hw _ _ q (Or.inr (Or.inl rfl)))
  have e3 : ∀ k j, R + 8 ≤ k → k < R + 28 → rd M' k j = rd M k j := fun k j h1 h2 => h.1 _ _ (fun q => hw _ _ q (Or.inr (Or.inr ⟨h1, h2⟩)))
  have e4 : ∀ j, rdl M' (R + 36) j = rdl M (R + 36) j := fun j => h.2 _ _ (fun q => hv _ _ q rfl)
  unfold vC
  rw [e1 0 (by omega), e1 1 (by omega), e1 2 (by omega), e1 3 (by omega), e2, e4]
  by_cases ha : 149 ≤ a ∧ a ≤ 162 ∧ b < 10
  · rw [e3 (R + 8 + b) (a - 149) (by omega) (by omega), e3 (R + 8 + b) 8 (by omega) (by omega), e3 (R + 18 + b) (a - 157) (by omega) (by omega)]
  · rw [if_neg ha, if_neg ha]
/-! ===== what holds of a view ===== -/
def tot (V : Vw) : Nat → Int
  | 0 => 0
  | n + 1 => tot V n + (V 149 n).toInt
/-- n farms, at most W feet in all, at most N nights -/
def Vok (V : Vw) (n : Nat) (W N : Int) : Prop :=
  (V 148 2 = nI n ∧ 2 ≤ n ∧ n ≤ 10) ∧ (∀ f, f < 10 → 0 ≤ (V 149 f).toInt) ∧ tot V 10 ≤ W ∧ (∀ f, f < 10 → ∃ k, k < 4 ∧ V 150 f = nI k) ∧
  (∀ f, f < 10 → V 152 f = 0 ∨ V 152 f = 1) ∧ (∀ f, f < 10 → V 157 f = 0 ∨ V 157 f = 1) ∧ (∀ f, f < 10 → 0 ≤ V 158 f ∧ V 158 f ≤ 3) ∧
  (∀ j, j < 9 → 0 ≤ V 162 j ∧ V 162 j ≤ 1000) ∧ (∀ j, j < 7 → V 162 j ≤ 99) ∧ (0 ≤ V 162 9 ∧ V 162 9 ≤ 5) ∧ 0 ≤ (V 148 3).toInt ∧ (V 148 3).toInt ≤ N
theorem tot_le {V : Vw} (h : ∀ f, f < 10 → 0 ≤ (V 149 f).toInt) : ∀ {n f : Nat}, n ≤ 10 → f < n → (V 149 f).toInt ≤ tot V n
  | 0, _, _, hf => absurd hf (Nat.not_lt_zero _)
  | n + 1, f, hn, hf => by
    have h0 : ∀ m, m ≤ 10 → 0 ≤ tot V m := fun m => by
      induction m with
      | zero => intro _; exact Int.le_refl 0
      | succ m ih => intro hm; have := ih (by omega); have := h m (by omega); unfold tot; omega
    unfold tot
    by_cases e : f = n
    · subst e; have := h0 f (by omega); omega
    · have := tot_le h (n := n) (f := f) (by omega) (by omega); have := h n (by omega); omega
theorem tot_same {V V' : Vw} : ∀ {n : Nat}, (∀ f, f < n → V' 149 f = V 149 f) → tot V' n = tot V n
  | 0, _ => rfl
  | n + 1, h => by unfold tot; rw [tot_same (fun f hf => h f (by omega)), h n (by omega)]
theorem tot_vs {V : Vw} {f : Nat} {x : Int32} : ∀ {n : Nat}, f < n → tot (vs V 149 f x) n = tot V n - (V 149 f).toInt + x.toInt
  | 0, hf => absurd hf (Nat.not_lt_zero _)
  | n + 1, hf => by
    unfold tot
    by_cases e : f = n
    · subst e
      rw [vs_at, tot_same (V := V) (V' := vs V 149 f x) (fun g hg => vs_ne (fun q => by omega))]; omega
    · rw [tot_vs (n := n) (by omega), vs_ne (fun q => e q.2.symm)]; omega
