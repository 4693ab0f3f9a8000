/-! ===== two: the model ===== -/
section MTWO
variable {fu a F : Nat} {V : Vw} {W N : Int} {L : Nat → List Ln}
theorem i64_0 : (0 : Int32).toInt64 = 0 := by decide
theorem mnext_is {M : Mem} {w : Nat} {c e : Int32} {l : Nat → Int64} (hV : rd M 162 9 = nI F) (hw : w ≤ a) (ha6 : a ≤ 60) (hF : F ≤ 5) (hc : 0 ≤ c.toInt ∧ c.toInt ≤ 1000) (he : 0 ≤ e.toInt ∧ e.toInt ≤ 1000) (hl : ∀ x, x ≤ a → rdl M 177 x = l x) : m_X6_nextOf M (nI w) (nI a) c e = some (nxS F a w c e l) := by
  have g1 : min F (a - w) ≤ a - w := Nat.min_le_right _ _
  have g2 : min F w ≤ w := Nat.min_le_right _ _
  have mn : ∀ y : Nat, y ≤ 60 → (if nI y ≤ nI F then nI y else nI F) = nI (min F y) := by
    intro y hy
    by_cases z : y ≤ F
    · rw [if_pos (nI_le z (by omega)), Nat.min_eq_right z]
    · rw [if_neg (nI_ge (by omega) (by omega)), Nat.min_eq_left (by omega)]
  have c0 : c ≤ 0 → c = 0 := fun z => by
    have := I_le.mp z
    rw [tI_0] at this
    exact I_eq.mpr (by rw [tI_0]; omega)
  have e0 : e ≤ 0 → e = 0 := fun z => by
    have := I_le.mp z
    rw [tI_0] at this
    exact I_eq.mpr (by rw [tI_0]; omega)
  have last : ∀ (t0 t1 : Int64) (x : Nat), x ≤ a → j_X6_nextOf_126 M (nI w) c e t0 t1 (nI x) = some (flS ((t0 + t1 * l x) + (((1000 - c.toInt64) * (1000 - e.toInt64)) * l w)) 1000000) := by
    intro t0 t1 x hx
    unfold j_X6_nextOf_126
    rw [chk_is (inb_nI (by omega) (by decide)), ix_nI (by omega), hl x hx, bnd_e, chk_is (inb_nI (by omega) (by decide)), ix_nI (by omega), hl w hw, bnd_e, bnd_e, i64_sub hc.1 hc.2, i64_sub he.1 he.2]
    exact mfl_is _ _
  have third : ∀ (t0 t1 : Int64) (x : Nat), x ≤ a → j_X6_nextOf_92 M (nI w) c e (nI (min F w)) t0 t1 (nI x) = some (flS (((t0 + t1 * l x) + (((1000 - c.toInt64) * e.toInt64) * l (w - min F w))) + (((1000 - c.toInt64) * (1000 - e.toInt64)) * l w)) 1000000) := by
    intro t0 t1 x hx
    unfold j_X6_nextOf_92
    rw [chk_is (inb_nI (by omega) (by decide)), ix_nI (by omega), hl x hx, bnd_e, i64_sub hc.1 hc.2, pk_sub g2]
    by_cases z : e ≤ 0
    · rw [if_pos z, last _ _ _ hw, e0 z, i64_0]
      congr 3
      grind
    · rw [if_neg z, last _ _ _ (by omega)]
  have second : ∀ (t0 : Int64) (x : Nat), x ≤ a → j_X6_nextOf_60 M (nI w) c e (nI (min F (a - w))) (nI (min F w)) t0 (nI x) = some (flS ((((t0 * l x) + ((c.toInt64 * (1000 - e.toInt64)) * l (w + min F (a - w)))) + (((1000 - c.toInt64) * e.toInt64) * l (w - min F w))) + (((1000 - c.toInt64) * (1000 - e.toInt64)) * l w)) 1000000) := by
    intro t0 x hx
    unfold j_X6_nextOf_60
    rw [chk_is (inb_nI (by omega) (by decide)), ix_nI (by omega), hl x hx, bnd_e, i64_sub he.1 he.2, nI_add]
    by_cases z : c ≤ 0
    · rw [if_pos z, third _ _ _ hw, c0 z, i64_0]
      congr 4
      grind
    · rw [if_neg z, third _ _ _ (by omega)]
  unfold m_X6_nextOf j_X6_nextOf_59
  rw [ix_9, hV, pk_sub hw, less_is, some_bind, less_is, some_bind, mn _ (by omega), mn _ (by omega), nI_add, pk_sub (by omega)]
  unfold nxS
  by_cases z : c ≤ 0
  · rw [if_pos z, second _ _ hw, c0 z, i64_0]
    congr 5
    grind
  · rw [if_neg z]
    by_cases z2 : e ≤ 0
    · rw [if_pos z2, second _ _ hw, e0 z2, i64_0]
      congr 5
      grind
    · rw [if_neg z2, second _ _ (by omega)]
end MTWO
