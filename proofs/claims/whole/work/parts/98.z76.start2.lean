/-! ===== the law's start: all that is the same in all calls ===== -/
theorem sx_mk {g : GT} {s : State} (hb : gb g = s.heap.size) (hK : va_K (gD g) vwCl (tyG g) s) (hT : ∀ i, i < 5 → va_Z (stC i).1 (stC i).2 "[I" (.ref (gs g i)) (fun q : Nat => s.heap.size ≤ q) s s.heap ∧ va_T .int (gs g i) (stN i) (fun j => .int (stV i j)) (fun q : Nat => s.heap.size ≤ q) s s.heap)
    (hS : vk_S 1 [kwN] [kwL] (fun _ => gs g 5) (fun _ => gs g 6) (fun q : Nat => s.heap.size ≤ q) s s.heap) (hZ : va_Z "java/lang/String" "COMPACT_STRINGS" "Z" (.int 1) (fun q : Nat => s.heap.size ≤ q) s s.heap) (hq : va_Zq "jdk/internal/util/Preconditions" "SIOOBE_FORMATTER" "Ljava/util/function/BiFunction;" (fun q : Nat => s.heap.size ≤ q) s s.heap) (hR : vk_R RX3 kwIdx kwText (gs g 5) s) : SxG g s := by
  have hA : AbG g = fun q : Nat => s.heap.size ≤ q := by unfold AbG; rw [hb]
  unfold SxG StG SkG SjG
  rw [hA]
  exact ⟨Nat.le_of_eq hb, hK, hT, ⟨hS, hZ, hq⟩, hR⟩
theorem vk_one {len : List Nat} {byt : List (List Int32)} {adK adV : Nat → Nat} {A : Nat → Prop} {U : State} {H : Heap} (h : vk_S 1 len byt adK adV A U H) : vk_S 1 len byt (fun _ => adK 0) (fun _ => adV 0) A U H :=
  ⟨fun i hi => by have e : i = 0 := by omega
                  subst e
                  exact h.1 0 (by decide), fun i j hi hj _ => by omega⟩
theorem st_all {args : Array Value} {s : State} (hts : ∀ w ∈ lw_tbl, w.before args s = true) (hs : ∀ w ∈ nwL, w.before args s = true) (hA : ∀ a : Nat, a < s.heap.size → ¬ (fun q : Nat => s.heap.size ≤ q) a) : ∀ i : Nat, ∃ t : Nat, i < 5 → va_Z (stC i).1 (stC i).2 "[I" (.ref t) (fun q : Nat => s.heap.size ≤ q) s s.heap ∧ va_T .int t (stN i) (fun j => .int (stV i j)) (fun q : Nat => s.heap.size ≤ q) s s.heap := by
  intro i
  by_cases hi : i < 5
  · obtain ⟨h1, h2, h3⟩ := nw_st i hi
    obtain ⟨t, ht, hT⟩ := va_Tof (f := fun j => .int (stV i j)) (A := fun q : Nat => s.heap.size ≤ q) (Nat.lt_trans ((by decide : ∀ i, i < 5 → stN i < 100) i hi) (by decide)) (hs _ h1) (va_eqt (hs _ h2)) (fun j hj => va_eqt (hs _ (h3 j hj))) hA
    exact ⟨t, fun _ => ⟨va_Zof (hts _ (tb_st i hi).1) (hts _ (tb_st i hi).2) ht hA, hT⟩⟩
  · exact ⟨0, fun h => absurd h hi⟩
theorem str_all {args : Array Value} {s : State} (hs : ∀ w ∈ nwL, w.before args s = true) (hA : ∀ a : Nat, a < s.heap.size → ¬ (fun q : Nat => s.heap.size ≤ q) a) : ∃ aK aV : Nat, vk_S 1 [kwN] [kwL] (fun _ => aK) (fun _ => aV) (fun q : Nat => s.heap.size ≤ q) s s.heap ∧ (Term.string "FootANight$Reader" 144).eval args s none [] s = some (.ref aK) := by
  obtain ⟨adK, adV, hS, hK⟩ := vk_Sof (args := args) (s := s) (N := 1) (tm := fun _ => .string "FootANight$Reader" 144) (len := [kwN]) (byt := [kwL]) (A := fun q : Nat => s.heap.size ≤ q) (fun i hi => by
    have e : i = 0 := by omega
    subst e
    decide) (fun _ _ => hs _ nw_str.1) (fun _ _ => hs _ nw_str.2.1) (fun _ _ => hs _ nw_str.2.2.1)
    (fun i hi => by
      have e : i = 0 := by omega
      subst e
      exact hs _ nw_str.2.2.2) (fun i hi => by
      have e : i = 0 := by omega
      subst e
      exact fun j hj => hs _ (nw_strs j hj)) (fun i j hi hj hij => absurd (show i = j by omega) hij) hA
  exact ⟨adK 0, adV 0, vk_one hS, hK 0 (by decide)⟩
theorem K_mk {s : State} {c0 c1 c2 c3 c4 c5 c6 a0 a1 a2 a3 a4 : ClassId} {i0 i1 i2 i3 i4 i5 i6 : Nat → Nat} (k0 : u_Kn s RX0 TX0 12 c0 i0) (k1 : u_Kn s RX1 TX1 8 c1 i1) (k2 : u_Kn s RX2 TX2 2 c2 i2) (k3 : u_Kn s RX3 TX3 17 c3 i3) (k4 : u_Kn s RX4 TX4 12 c4 i4) (k5 : u_Kn s RX5 TX5 11 c5 i5) (k6 : u_Kn s RX6 TX6 55 c6 i6)
    (h0 : ArrOfT s a0 .int ∧ va_RA s a0 .int) (h1 : ArrOfT s a1 .long ∧ va_RA s a1 .long) (h2 : ArrOfT s a2 .boolean ∧ va_RA s a2 .boolean) (h3 : ArrOfT s a3 (.object "FootANight$Law") ∧ va_RA s a3 (.object "FootANight$Law")) (h4 : ArrOfT s a4 (.array .int) ∧ va_RA s a4 (.array .int)) :
    va_K (fun k => match k with | 0 => c0 | 1 => c1 | 2 => c2 | 3 => c3 | 4 => c4 | 5 => c5 | _ => c6, fun k => match k with | 0 => i0 | 1 => i1 | 2 => i2 | 3 => i3 | 4 => i4 | 5 => i5 | _ => i6) vwCl [(a0, .int), (a1, .long), (a2, .boolean), (a3, .object "FootANight$Law"), (a4, .array .int)] s := by
  refine ⟨fun k q hq => ?_, fun k q hq => ?_⟩
  · match k, hq with
    | 0, hq => cases hq; exact k0
    | 1, hq => cases hq; exact k1
    | 2, hq => cases hq; exact k2
    | 3, hq => cases hq; exact k3
    | 4, hq => cases hq; exact k4
    | 5, hq => cases hq; exact k5
    | 6, hq => cases hq; exact k6
    | n + 7, hq => cases hq
  · match k, hq with
    | 0, hq => cases hq; exact h0
    | 1, hq => cases hq; exact h1
    | 2, hq => cases hq; exact h2
    | 3, hq => cases hq; exact h3
    | 4, hq => cases hq; exact h4
    | n + 5, hq => cases hq
set_option maxHeartbeats 4000000 in
set_option maxRecDepth 100000 in
theorem start_env {args : Array Value} {s : State} (hts : ∀ w ∈ lw_tbl, w.before args s = true) (hgv : (Jvm.Cond.and given_1 narrow_1).before args s = true) : ∃ g : GT, GG g ∧ gb g = s.heap.size ∧ SxG g s ∧ NwG s := by
  have hs : ∀ w ∈ nwL, w.before args s = true := flat_of_before _ hgv
  have hA : ∀ a : Nat, a < s.heap.size → ¬ (fun q : Nat => s.heap.size ≤ q) a := fun a h1 h2 => absurd h1 (Nat.not_lt.mpr h2)
  obtain ⟨c0, i0, k0⟩ := u_known (C := RX0) (T := TX0) (N := 12) (n := 12) hts inX0 (hts _ tb_inst.1)
  obtain ⟨c1, i1, k1⟩ := u_known (C := RX1) (T := TX1) (N := 8) (n := 8) hts inX1 (hts _ tb_inst.2.1)
  obtain ⟨c2, i2, k2⟩ := u_known (C := RX2) (T := TX2) (N := 2) (n := 2) hts inX2 (hts _ tb_inst.2.2.1)
  obtain ⟨c3, i3, k3⟩ := u_known (C := RX3) (T := TX3) (N := 17) (n := 17) hts inX3 (hts _ tb_inst.2.2.2.1)
  obtain ⟨c4, i4, k4⟩ := u_known (C := RX4) (T := TX4) (N := 12) (n := 12) hts inX4 (hts _ tb_inst.2.2.2.2.1)
  obtain ⟨c5, i5, k5⟩ := u_known (C := RX5) (T := TX5) (N := 11) (n := 11) hts inX5 (hts _ tb_inst.2.2.2.2.2.1)
  obtain ⟨c6, i6, k6⟩ := u_known (C := RX6) (T := TX6) (N := 55) (n := 55) hts inX6 (hts _ tb_inst.2.2.2.2.2.2)
  obtain ⟨a0, b0, d0, p0, q0, r0⟩ := Cond.arrayClass_spec (hts _ tb_arr.1)
  obtain ⟨a1, b1, d1, p1, q1, r1⟩ := Cond.arrayClass_spec (hts _ tb_arr.2.1)
  obtain ⟨a2, b2, d2, p2, q2, r2⟩ := Cond.arrayClass_spec (hts _ tb_arr.2.2)
  obtain ⟨d3, a3, b3, o3, p3, q3, r3, t3⟩ := Cond.arrayOver_spec (hts _ tb_nest.2.2.2.2.1)
  have hNw : NwG s := ⟨va_Nw.of rfl (hts _ tb_nest.1), va_Nw.of rfl (hts _ tb_nest.2.1), va_Nw.of rfl (hts _ tb_nest.2.2.1), va_Nw.of rfl (hts _ tb_nest.2.2.2.1), va_AO.of (hts _ tb_nest.2.2.2.2.1), hts _ tb_nest.2.2.2.2.2.1, va_Nw.of rfl (hts _ tb_nest.2.2.2.2.2.2)⟩
  obtain ⟨a4, b4, d4, p4, q4, r4⟩ := aoi_spec hNw.2.2.2.2.2.1
  have hK := K_mk k0 k1 k2 k3 k4 k5 k6 ⟨arr_of q0 r0, p0⟩ ⟨arr_of q1 r1, p1⟩ ⟨arr_of q2 r2, p2⟩ ⟨arr_of q3 r3, b3, d3, q3, r3, o3, t3⟩ ⟨arr_of q4 r4, p4⟩
  obtain ⟨ad, had⟩ := Classical.axiomOfChoice (st_all hts hs hA)
  obtain ⟨aK, aV, hS, hE⟩ := str_all hs hA
  have hZ := va_Zof (hts _ tb_rest.1) (hts _ tb_rest.2.1) (va_eqi (hs _ nw_rest.1)) hA
  have hq := va_Zqof (hts _ tb_rest.2.2.1) (hts _ tb_rest.2.2.2.1) (hs _ nw_rest.2) hA
  have hR := vk_R.of (hts _ tb_rest.2.2.2.2) hE
  generalize hD : ((fun k => match k with | 0 => c0 | 1 => c1 | 2 => c2 | 3 => c3 | 4 => c4 | 5 => c5 | _ => c6, fun k => match k with | 0 => i0 | 1 => i1 | 2 => i2 | 3 => i3 | 4 => i4 | 5 => i5 | _ => i6) : va_G) = D at hK
  obtain ⟨g, hg⟩ : ∃ g : GT, g = (D, fun k => s.heap.size + offk k, s.heap.size, fun k => if k = 0 then a0 else if k = 1 then a1 else if k = 2 then a2 else if k = 3 then a3 else a4, (List.range 183).map pmk, fun i => if i = 5 then aK else if i = 6 then aV else ad i) := ⟨_, rfl⟩
  have g1 : gD g = D := by rw [hg]; rfl
  have g2 : tyG g = [(a0, .int), (a1, .long), (a2, .boolean), (a3, .object "FootANight$Law"), (a4, .array .int)] := by rw [hg]; rfl
  have g3 : gb g = s.heap.size := by rw [hg]; rfl
  have g4 : gl g = (List.range 183).map pmk := by rw [hg]; rfl
  have g5 : ∀ k, ga g k = s.heap.size + offk k := fun k => by rw [hg]; rfl
  have g6 : gs g 5 = aK := by rw [hg]; rfl
  have g7 : gs g 6 = aV := by rw [hg]; rfl
  have g8 : ∀ i, i < 5 → gs g i = ad i := fun i hi => by
    rw [hg]
    show (if i = 5 then aK else if i = 6 then aV else ad i) = ad i
    rw [if_neg (by omega), if_neg (by omega)]
  clear hg
  exact ⟨g, ⟨g4, fun i hi => by rw [g5, g3, offk_pmk i hi]⟩, g3, sx_mk g3 (by rw [g1, g2]; exact hK) (fun i hi => by rw [g8 i hi]; exact had i hi) (by rw [g6, g7]; exact hS) hZ hq (by rw [g6]; exact hR), hNw⟩
