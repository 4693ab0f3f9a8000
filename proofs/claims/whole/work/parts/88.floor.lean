/-! ===== two: floors ===== -/
theorem neg_msb (x : Int64) : x < 0 ↔ x.toBitVec.msb = true := by
  show x.toBitVec.slt (0#64) = true ↔ _
  rw [BitVec.slt_zero_eq_msb]
theorem lg_0 (a : Int64) : 0 ≤ lg_cmp a 0 ↔ ¬ a < 0 := by
  unfold lg_cmp
  by_cases h : a > 0
  · rw [if_pos h]
    refine ⟨fun _ z => ?_, fun _ => by decide⟩
    have h1 := Int64.lt_iff_toInt_lt.mp h
    have h2 := Int64.lt_iff_toInt_lt.mp z
    omega
  · rw [if_neg h]
    by_cases e : a = 0
    · rw [if_pos e, e]; exact ⟨fun _ => by decide, fun _ => by decide⟩
    · rw [if_neg e]
      refine ⟨fun z => absurd z (by decide), fun z => ?_⟩
      exfalso
      have h1 := mt Int64.lt_iff_toInt_lt.mpr h
      have h2 := mt Int64.lt_iff_toInt_lt.mpr z
      have e0 : (0 : Int64).toInt = 0 := rfl
      exact e (Int64.toInt_inj.mp (by omega))
theorem lg_eq (a c : Int64) : lg_cmp a c = 0 ↔ a = c := by
  unfold lg_cmp
  by_cases h : a > c
  · rw [if_pos h]
    refine ⟨fun z => absurd z (by decide), fun z => ?_⟩
    rw [z] at h
    have := Int64.lt_iff_toInt_lt.mp h
    omega
  · rw [if_neg h]
    by_cases e : a = c
    · rw [if_pos e]; exact ⟨fun _ => e, fun _ => rfl⟩
    · rw [if_neg e]; exact ⟨fun z => absurd z (by decide), fun z => absurd z e⟩
noncomputable def flS (v d : Int64) : Int64 := if v / d * d = v then v / d else if v < 0 then v / d - 1 else v / d
theorem cfl_is {M : Mem} {v d : Int64} (hd : (!decide (d = 0)) = true) (hp : ¬ d < 0) : m_J9_floorDiv_f86c9 M v d = some (flS v d) := by
  unfold m_J9_floorDiv_f86c9 flS
  rw [chk_is hd, bnd_e]
  have x : (v ^^^ d) < 0 ↔ v < 0 := by
    rw [neg_msb, neg_msb, Int64.toBitVec_xor, BitVec.msb_xor]
    have : d.toBitVec.msb = false := by
      have := mt (neg_msb d).mpr hp
      simpa using this
    rw [this, Bool.xor_false]
  by_cases n : v < 0
  · rw [if_neg (fun z => (lg_0 _).mp z (x.mpr n))]
    by_cases e : v / d * d = v
    · rw [if_pos ((lg_eq _ _).mpr e), if_pos e]
    · rw [if_neg (fun z => e ((lg_eq _ _).mp z)), if_neg e, if_pos n]
  · rw [if_pos ((lg_0 _).mpr (fun z => n (x.mp z)))]
    by_cases e : v / d * d = v
    · rw [if_pos e]
    · rw [if_neg e, if_neg n]
theorem lrem_0 (v d : Int64) : lrem v d = 0 ↔ v / d * d = v := by
  show v - v / d * d = 0 ↔ _
  constructor
  · intro h; grind
  · intro h; rw [h]; grind
theorem mfl_is (v d : Int64) : (if lg_cmp (lrem v d) 0 = 0 then some (v / d) else if 0 ≤ lg_cmp v 0 then some (v / d) else some (v / d - 1)) = some (flS v d) := by
  unfold flS
  by_cases e : v / d * d = v
  · rw [if_pos ((lg_eq _ _).mpr ((lrem_0 v d).mpr e)), if_pos e]
  · rw [if_neg (fun z => e ((lrem_0 v d).mp ((lg_eq _ _).mp z))), if_neg e]
    by_cases n : v < 0
    · rw [if_neg (fun z => (lg_0 _).mp z n), if_pos n]
    · rw [if_pos ((lg_0 _).mpr n), if_neg n]
theorem mlow_is {M : Mem} {v d : Int64} (hd : (!decide (d = 0)) = true) : m_X6_lowered M v d = some (flS v d) := by
  unfold m_X6_lowered
  rw [chk_is hd, bnd_e, chk_is hd]
  exact mfl_is v d
/-! what two farms can do -/
def wV (V : Vw) (a w : Nat) : Vw := vs (vs V 149 0 (nI w)) 149 1 (nI (a - w))
def oth (V : Vw) (a : Nat) (L : Nat → List Ln) (w : Nat) : Int32 := doesS (wV V a w) 2 L 1
def cm2 (V : Vw) (a w : Nat) : Prop := wV V a w 157 0 = 0 ∧ ¬ wV V a w 162 9 ≤ 0 ∧ ¬ wV V a w 149 0 ≤ 0 ∧ ¬ wV V a w 149 1 ≤ 0
noncomputable def mS2 (V : Vw) (a : Nat) (L : Nat → List Ln) (w : Nat) (o : Int32) : Int32 := meanS (wV V a w) 2 0 (oth V a L w) o (oth V a L w)
noncomputable def cS2 (V : Vw) (a : Nat) (L : Nat → List Ln) (w : Nat) (o : Int32) : Int32 := if tf (wV V a w 157 0 = 0 ∧ ¬ wV V a w 162 9 ≤ 0 ∧ ¬ wV V a w 149 0 ≤ 0 ∧ ¬ wV V a w 149 1 ≤ 0) = 0 then 0 else if o = 3 then chS (wV V a w) 0 1 (oth V a L w = 1) else 0
noncomputable def eS2 (V : Vw) (a : Nat) (L : Nat → List Ln) (w : Nat) (o : Int32) : Int32 := if tf (wV V a w 157 0 = 0 ∧ ¬ wV V a w 162 9 ≤ 0 ∧ ¬ wV V a w 149 0 ≤ 0 ∧ ¬ wV V a w 149 1 ≤ 0) = 0 then 0 else if oth V a L w = 2 then chS (wV V a w) 0 0 (o = 1) else 0
noncomputable def nxS (F a w : Nat) (c e : Int32) (l : Nat → Int64) : Int64 :=
  flS (((((c.toInt64 * e.toInt64) * l (w + min F (a - w) - min F w)) + ((c.toInt64 * (1000 - e.toInt64)) * l (w + min F (a - w)))) + (((1000 - c.toInt64) * e.toInt64) * l (w - min F w))) + (((1000 - c.toInt64) * (1000 - e.toInt64)) * l w)) 1000000
noncomputable def fdS (V : Vw) (a F : Nat) (L : Nat → List Ln) (p : Int32) (l : Nat → Int64) (w : Nat) (o : Int32) : Int64 := (1000 * (mS2 V a L w o).toInt64) + flS (p.toInt64 * nxS F a w (cS2 V a L w o) (eS2 V a L w o) l) 1000
noncomputable def pkS (x : Int64 × Int32) (y : Int64) (o : Int32) : Int64 × Int32 := if lg_cmp y x.1 ≤ 0 then x else (y, o)
noncomputable def b3S (V : Vw) (a F : Nat) (L : Nat → List Ln) (p : Int32) (l : Nat → Int64) (w : Nat) : Int64 × Int32 := pkS (pkS (fdS V a F L p l w 0, 0) (fdS V a F L p l w 1) 1) (fdS V a F L p l w 3) 3
noncomputable def latS (V : Vw) (a F : Nat) (L : Nat → List Ln) (p : Int32) : Nat → Nat → Int64
  | 0 => fun _ => 0
  | k + 1 => fun w => if w ≤ a then (b3S V a F L p (latS V a F L p k) w).1 else 0
theorem wV_2 (V X : Vw) (x0 x1 y0 y1 : Int32) (h : vs (vs X 149 0 0) 149 1 0 = vs (vs V 149 0 0) 149 1 0) : vs (vs X 149 0 x0) 149 1 x1 = vs (vs V 149 0 x0) 149 1 x1 := by
  funext k j
  have q := congrFun (congrFun h k) j
  simp only [vs] at q ⊢
  grind
theorem Vok.two {V : Vw} {W N : Int} {a w : Nat} (h : Vok V 2 W N) (ha : V 149 0 + V 149 1 = nI a) (ha6 : a ≤ 60) (hw : w ≤ a) (hW : W ≤ 100000) : Vok (wV V a w) 2 W N := by
  have b0 := h.2.1 0 (by decide)
  have b1 := h.2.1 1 (by decide)
  have c0 := V_le h (show (0 : Nat) < 10 by decide)
  have c1 := V_le h (show (1 : Nat) < 10 by decide)
  have es : (V 149 0).toInt + (V 149 1).toInt = a := by
    have := congrArg Int32.toInt ha
    rw [I_add (by omega) (by omega), nI_toInt (by omega)] at this
    exact this
  obtain ⟨q1, q2, q3, q4, q5, q6, q7, q8, q9, q10, q11, q12⟩ := h
  have r : ∀ x y, x ≠ 149 → wV V a w x y = V x y := fun x y z => by unfold wV; rw [vs_nk z, vs_nk z]
  unfold Vok
  simp only [r 148 _ (by decide), r 150 _ (by decide), r 152 _ (by decide), r 157 _ (by decide), r 158 _ (by decide), r 162 _ (by decide)]
  refine ⟨q1, fun f hf => ?_, ?_, q4, q5, q6, q7, q8, q9, q10, q11, q12⟩
  · unfold wV
    rw [vs_if]; split
    · rw [nI_toInt (by omega)]; omega
    · rw [vs_if]; split
      · rw [nI_toInt (by omega)]; omega
      · exact q2 f hf
  · unfold wV
    rw [tot_vs (by decide), tot_vs (by decide), vs_ne (by decide), nI_toInt (by omega), nI_toInt (by omega)]; omega
theorem ch_bd {V : Vw} {n : Nat} {W N : Int} (h : Vok V n W N) {b o : Nat} (hb : b < 10) {p : Prop} [Decidable p] : 0 ≤ (chS V b o p).toInt ∧ (chS V b o p).toInt ≤ 1000 := by
  have s7 := h.2.2.2.2.2.2.2.1 7 (by decide)
  have s8 := h.2.2.2.2.2.2.2.1 8 (by decide)
  have hv := h.heavy b hb
  have a7 := I_le.mp s7.1
  have b7 := I_le.mp s7.2
  have a8 := I_le.mp s8.1
  have b8 := I_le.mp s8.2
  rw [tI_0] at a7 a8
  rw [tI_1000] at b7 b8
  obtain ⟨hh, hh3, eh⟩ := nI_of_le (x := V 158 b) (m := 3) hv.1 hv.2 (by decide)
  have key : ∀ t : Int32, 0 ≤ t.toInt → t.toInt ≤ 1000 → 0 ≤ (t / (1 + V 158 b)).toInt ∧ (t / (1 + V 158 b)).toInt ≤ 1000 := by
    intro t t0 t1
    obtain ⟨u, hu, rfl⟩ := nI_of_le (x := t) (m := 1000) (I_le.mpr (by rw [tI_0]; exact t0)) (I_le.mpr (by rw [nI_toInt (by decide)]; exact t1)) (by decide)
    have e1 : (1 : Int32) + V 158 b = nI (hh + 1) := by rw [eh, ← nI_1]; grind
    rw [e1, Int32.toInt_div, nI_toInt (by omega), nI_toInt (by omega)]
    have e2 : ((u : Int).tdiv ((hh + 1 : Nat) : Int)) = ((u / (hh + 1) : Nat) : Int) := by rfl
    obtain ⟨z, hz, ez⟩ : ∃ z : Nat, z ≤ u ∧ u / (hh + 1) = z := ⟨_, Nat.div_le_self _ _, rfl⟩
    rw [e2, ez]
    rw [Int.bmod_eq_of_le (by omega) (by omega)]
    omega
  unfold chS
  apply key
  · split
    · rw [I_sub (by rw [tI_1000]; omega) (by rw [tI_1000]; omega), tI_1000]; omega
    · split
      · rw [tI_1000]; omega
      · rw [I_sub (by rw [tI_1000]; omega) (by rw [tI_1000]; omega), tI_1000]; omega
  · split
    · rw [I_sub (by rw [tI_1000]; omega) (by rw [tI_1000]; omega), tI_1000]; omega
    · split
      · rw [tI_1000]; omega
      · rw [I_sub (by rw [tI_1000]; omega) (by rw [tI_1000]; omega), tI_1000]; omega
theorem i64_sub {x : Int32} (h0 : 0 ≤ x.toInt) (h1 : x.toInt ≤ 1000) : (1000 - x).toInt64 = 1000 - x.toInt64 := by
  apply Int64.toInt_inj.mp
  rw [Int32.toInt_toInt64, I_sub (by rw [tI_1000]; omega) (by rw [tI_1000]; omega), tI_1000, Int64.toInt_sub, Int32.toInt_toInt64]
  have e : (1000 : Int64).toInt = 1000 := rfl
  rw [e, Int.bmod_eq_of_le (by omega) (by omega)]
theorem cS_bd {V : Vw} {W N : Int} {a w : Nat} {L : Nat → List Ln} {o : Int32} (h : Vok (wV V a w) 2 W N) : 0 ≤ (cS2 V a L w o).toInt ∧ (cS2 V a L w o).toInt ≤ 1000 := by
  unfold cS2
  split
  · rw [tI_0]; omega
  · split
    · exact ch_bd h (by decide)
    · rw [tI_0]; omega
theorem eS_bd {V : Vw} {W N : Int} {a w : Nat} {L : Nat → List Ln} {o : Int32} (h : Vok (wV V a w) 2 W N) : 0 ≤ (eS2 V a L w o).toInt ∧ (eS2 V a L w o).toInt ≤ 1000 := by
  unfold eS2
  split
  · rw [tI_0]; omega
  · split
    · exact ch_bd h (by decide)
    · rw [tI_0]; omega
