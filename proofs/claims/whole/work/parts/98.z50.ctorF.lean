/-! ===== the class's constructor, walked ===== -/
theorem bg_fr {fu r0 : Nat} {M M' : Mem} (hm : m_X4_begin fu r0 (toldM M r0) 4 = some M') {k : Nat} (h : k < r0 ∨ r0 + 37 ≤ k) : (∀ j, rd M' k j = rd M k j) ∧ (∀ j, rdl M' k j = rdl M k j) := by
  have hF := fr_m_X4_begin hm
  refine ⟨fun j => (hF.1 k j (fun q => ?_)).trans (if_neg (show ¬ k = r0 + 1 by omega)), fun j => hF.2 k j (fun q => ?_)⟩
  · rcases q with ⟨h1, -⟩ | ⟨h1, h2⟩
    · omega
    · omega
  · have h1 : k = r0 + 36 := q
    omega
theorem fan_conv {g : GT} {M M' : Mem} {b n j : Nat} {f : Nat → va_E} {ef : va_E} {H : Heap} (hP : va_P (gD g) vwCl (cwl (gb g) (fun i => if i < b then fu1 (kW g M 0 f (.inr (5, stF g M 146 fl_fan j)) 0 eN) b ef i else encG g M' (pmk i)) n) H) (hb : 0 < b) (h146 : ∀ i, rd M' 146 i = rd M 146 i) (hk : ∀ i, 0 < i → i < b → (∀ j, rd M' (pmk i) j = rd M (pmk i) j) ∧ (∀ j, rdl M' (pmk i) j = rdl M (pmk i) j)) : va_P (gD g) vwCl (cwl (gb g) (kW g M' 0 f (.inr (5, stF g M' 146 fl_fan j)) 0 eN) n) H :=
  cwl_re hP (fun i hi => by
    by_cases h1 : i < b
    · rw [if_pos h1]
      unfold fu1
      rw [if_neg (by omega)]
      by_cases h2 : i = 0
      · subst h2
        rw [kW_b, kW_b, stF_mem h146]
      · rw [kW_n (by omega) h2, kW_n (by omega) h2]
        exact (encG_eq (hk i (by omega) h1).1 (hk i (by omega) h1).2).symm
    · rw [if_neg h1, kW_n (by omega) (by omega)])
theorem fan_pm0 : ∀ i, 0 < i → i < 1 → (pmk i < 0 ∨ 0 + 37 ≤ pmk i) := fun i h1 h2 => by omega
theorem fan_pm1 (i : Nat) (h1 : 0 < i) (h2 : i < 38) : pmk i < 37 ∨ 37 + 37 ≤ pmk i := (by decide : ∀ i, i < 38 → 0 < i → (pmk i < 37 ∨ 37 + 37 ≤ pmk i)) i h2 h1
theorem fan_pm2 (i : Nat) (h1 : 0 < i) (h2 : i < 75) : pmk i < 74 ∨ 74 + 37 ≤ pmk i := (by decide : ∀ i, i < 75 → 0 < i → (pmk i < 74 ∨ 74 + 37 ≤ pmk i)) i h2 h1
theorem RB0 {g : GT} (hG : GG g) : RB g 1 0 := RB.of hG (by decide) (Or.inl rfl) (by decide)
theorem RB1 {g : GT} (hG : GG g) : RB g 38 37 := RB.of hG (by decide) (Or.inr (Or.inl rfl)) (by decide)
theorem RB2 {g : GT} (hG : GG g) : RB g 75 74 := RB.of hG (by decide) (Or.inr (Or.inr rfl)) (by decide)
theorem RZ.bg {fu r0 r1 : Nat} {M M' : Mem} (hz : RZ M r1) (hm : m_X4_begin fu r0 (toldM M r0) 4 = some M') (h : r1 + 37 ≤ r0 ∨ r0 + 37 ≤ r1) : RZ M' r1 := fun o ho j => ⟨by rw [(bg_fr hm (by omega)).1]; exact (hz o ho j).1, by rw [(bg_fr hm (by omega)).2]; exact (hz o ho j).2⟩
def rmX5_init : Room := { frames := 3, cells := 147, slots := 9512, locals := 67 }
theorem uX5_init_X5 : ∀ w ∈ wsX50, w ∈ wsX5_init := by decide +kernel
theorem uX5_init_X4 : ∀ w ∈ wsX40, w ∈ wsX5_init := by decide +kernel
theorem uX5_init_X3 : ∀ w ∈ wsX30, w ∈ wsX5_init := by decide +kernel
theorem uX5_init_X0 : ∀ w ∈ wsX00, w ∈ wsX5_init := by decide +kernel
theorem uX5_init_X1 : ∀ w ∈ wsX10, w ∈ wsX5_init := by decide +kernel
theorem mbX5_init_1 : Cond.methodLink RX5 3 objectInit ∈ wsX5_init := by decide +kernel
theorem mbX5_init_2 : Cond.instanceMethod objectInit ∈ wsX5_init := by decide +kernel
theorem mbX5_init_3 : Cond.code objectInit ⟨#[0xb1]⟩ 1 none ∈ wsX5_init := by decide +kernel
theorem mbX5_init_4 : Cond.classLink RX5 9 RX4 ∈ wsX5_init := by decide +kernel
theorem mbX5_init_5 : Cond.instantiable RX4 12 ∈ wsX5_init := by decide +kernel
theorem mbX5_init_6 : Cond.initialized RX4 ∈ wsX5_init := by decide +kernel
theorem mbX5_init_7 : Cond.methodLink RX5 11 yX4_init ∈ wsX5_init := by decide +kernel
theorem mbX5_init_8 : Cond.instanceMethod yX4_init ∈ wsX5_init := by decide +kernel
theorem mbX5_init_9 : Cond.fieldLink RX5 12 "FootANight" "now" "LFootANight$Ring;" ∈ wsX5_init := by decide +kernel
theorem mbX5_init_10 : Cond.fieldLink RX5 16 "FootANight" "kept" "LFootANight$Ring;" ∈ wsX5_init := by decide +kernel
theorem mbX5_init_11 : Cond.fieldLink RX5 19 "FootANight" "dream" "LFootANight$Ring;" ∈ wsX5_init := by decide +kernel
theorem mbX5_init_12 : Cond.classLink RX5 22 RX3 ∈ wsX5_init := by decide +kernel
theorem mbX5_init_13 : Cond.instantiable RX3 17 ∈ wsX5_init := by decide +kernel
theorem mbX5_init_14 : Cond.initialized RX3 ∈ wsX5_init := by decide +kernel
theorem mbX5_init_15 : Cond.instanceMethod yX3_init ∈ wsX5_init := by decide +kernel
theorem mbX5_init_16 : Cond.fieldLink RX5 25 "FootANight" "reader" "LFootANight$Reader;" ∈ wsX5_init := by decide +kernel
theorem mbX5_init_17 : Cond.classLink RX5 29 RX0 ∈ wsX5_init := by decide +kernel
theorem mbX5_init_18 : Cond.instantiable RX0 12 ∈ wsX5_init := by decide +kernel
theorem mbX5_init_19 : Cond.initialized RX0 ∈ wsX5_init := by decide +kernel
theorem mbX5_init_20 : Cond.instanceMethod yX0_init ∈ wsX5_init := by decide +kernel
theorem mbX5_init_21 : Cond.fieldLink RX5 32 "FootANight" "counsel" "LFootANight$Counsel;" ∈ wsX5_init := by decide +kernel
theorem mbX5_init_22 : Cond.classLink RX5 36 RX1 ∈ wsX5_init := by decide +kernel
theorem mbX5_init_23 : Cond.instantiable RX1 8 ∈ wsX5_init := by decide +kernel
theorem mbX5_init_24 : Cond.initialized RX1 ∈ wsX5_init := by decide +kernel
theorem mbX5_init_25 : Cond.instanceMethod yX1_init ∈ wsX5_init := by decide +kernel
theorem mbX5_init_26 : Cond.fieldLink RX5 39 "FootANight" "duel" "LFootANight$Duel;" ∈ wsX5_init := by decide +kernel
theorem mbX5_init_27 : Cond.arrayClass .int ∈ wsX5_init := by decide +kernel
theorem mbX5_init_28 : Cond.fieldLink RX5 43 "FootANight" "tape" "[I" ∈ wsX5_init := by decide +kernel
theorem mbX5_init_29 : Cond.fieldLink RX5 47 "FootANight" "tapeLength" "I" ∈ wsX5_init := by decide +kernel
theorem mbX5_init_30 : Cond.fieldLink RX5 51 "FootANight" "faultKind" "I" ∈ wsX5_init := by decide +kernel
theorem mbX5_init_31 : Cond.fieldLink RX5 54 "FootANight" "faultPlace" "I" ∈ wsX5_init := by decide +kernel
theorem mbX5_init_32 : Cond.fieldLink RX5 57 "FootANight" "hasImage" "Z" ∈ wsX5_init := by decide +kernel
set_option maxHeartbeats 4000000 in
set_option maxRecDepth 100000 in
theorem c_X5_init (l : Launch) {g : GT} (hG : GG g) {M M1 M2 M3 : Mem} (hz0 : RZ M 0) (hz1 : RZ M 37) (hz2 : RZ M 74) (hM : ∀ k j, 111 ≤ k → rd M k j = bM k j) (hMl : ∀ k j, 111 ≤ k → rdl M k j = 0) {fu : Nat} (hm0 : m_X4_begin fu 0 (toldM M 0) 4 = some M1) (hm1 : m_X4_begin fu 37 (toldM M1 37) 4 = some M2) (hm2 : m_X4_begin fu 74 (toldM M2 74) 4 = some M3) {f : Nat → va_E} (hf : f 0 = .inr (5, stF g M 146 fl_fan 0)) : CN l yX5_init wsX5_init rmX5_init g [.ref (gb g + 0)] f 1 (fun i => if i < 0 then f i else encG g M3 (pmk i)) 148 147 9512 := by
  have hB0 := RB0 hG
  have hB1 := RB1 hG
  have hB2 := RB2 hG
  replace hz1 := hz1.bg hm0 (Or.inr (by decide))
  replace hz2 := (hz2.bg hm0 (Or.inr (by decide))).bg hm1 (Or.inr (by decide))
  have hM3 : ∀ k j, 111 ≤ k → rd M3 k j = bM k j := fun k j hk => by rw [(bg_fr hm2 (Or.inr hk)).1, (bg_fr hm1 (Or.inr (by omega))).1, (bg_fr hm0 (Or.inr (by omega))).1]; exact hM k j hk
  have hMl3 : ∀ k j, 111 ≤ k → rdl M3 k j = 0 := fun k j hk => by rw [(bg_fr hm2 (Or.inr hk)).2, (bg_fr hm1 (Or.inr (by omega))).2, (bg_fr hm0 (Or.inr (by omega))).2]; exact hMl k j hk
  refine Met.ofW (cc := cX5_init) (maxL := 1) (ret := none) (by decide) rfl ?_
  intro p e s m args below meth c s₁ B hml hv
  obtain ⟨rfl, hSx, hW0, hsz, hP⟩ := hv
  have hr := B.returns
  have hlocks := B.notSynchronized
  have hname : meth.name = "<init>" := (name_of_methodNamed B.named B.method).1
  have X : CxG g p s m _ c cX5_init 1 RX5 wsX5_init := ⟨⟨B.exec, B.bytes, hml, findClass_of_methodNamed B.named, atoms_spec (ws := wsX5_init) B.pre⟩, hSx, hG.ax⟩
  have hS : va_S (AbG g) s.heap s.heap [] := va_S.rf
  have hl := lv_entry (([.ref (gb g + 0)] : List Value)) (n := 1) (Nat.le_of_ble_eq_true rfl)
  rw [lg_entry_eq]
  generalize (lg_sl (([.ref (gb g + 0)] : List Value)) ++ List.replicate (1 - (lg_sl (([.ref (gb g + 0)] : List Value))).length) Slot.unset).toArray = ls at hl ⊢
  have hl : lv_has ls 1 [(0, .ref (gb g + 0))] := hl
  obtain ⟨⟨hx, hb, hml, hown, hts⟩, -, -⟩ := id X
  have hP : va_P (gD g) vwCl (cwl (gb g) (kW g M 0 f (.inr (5, stF g M 146 fl_fan 0)) 0 eN) 1) s.heap := cwl_re hP (fun i hi => kW_0 hi hf)
  refine lv_aload_n hx hb dX5_init_0 rfl (lv_at hl 0 rfl) ?_
  refine W.objInit hx hb hown (hts _ mbX5_init_1) (hts _ mbX5_init_2) (hts _ mbX5_init_3) rfl (by rw [hml]; exact hl.1) rfl dX5_init_1 (Nat.le_of_ble_eq_true rfl) (Nat.le_of_ble_eq_true rfl) ?_
  refine W.eq (g2 := F0 m 4 ls []) rfl ?_
  refine lv_aload_n hx hb dX5_init_4 rfl (lv_at hl 0 rfl) ?_
  refine k_new (n := 1) (ci := 4) (C := RX4) (T := TX4) (N := 12) (ty := tyX4) (fs := stF g M 0 (flRing 0) 0) X hP hS (by omega) uX5_init_X4 tyX4_ok mbX5_init_4 mbX5_init_5 mbX5_init_6 rfl (fun j hj => match j, hj with | 0, _ => rfl | 1, _ => rfl | 2, _ => rfl | 3, _ => rfl | 4, _ => rfl | 5, _ => rfl | 6, _ => rfl | 7, _ => rfl | 8, _ => rfl | 9, _ => rfl | 10, _ => rfl | 11, _ => rfl) (Nat.le_of_ble_eq_true rfl) (Nat.le_of_ble_eq_true rfl) dX5_init_5 (fun H hP hS => ?_)
  refine lv_dup hx hb dX5_init_8 rfl ?_
  refine k_init (n := 2) X hW0 hP hS (by omega) (by decide) (c_X4_init l X.2.2 (b := 1) (r0 := 0) hB0 hz0 hm0 (if_pos rfl)) (cwI 0 hts gX5_init_X4_init rfl rfl rfl (hts _ mbX5_init_6) (hts _ mbX5_init_7) (hts _ mbX5_init_8) rfl (by decide +kernel) ⟨Nat.le_of_ble_eq_true rfl, Nat.le_of_ble_eq_true rfl⟩) hl.1 (Nat.le_of_ble_eq_true rfl) dX5_init_9 ⟨Nat.le_of_ble_eq_true rfl, Nat.le_of_ble_eq_true rfl⟩ (fun H locs hP hS => ?_)
  have hP := fan_conv (M' := M1) (j := 0) (n := 38) hP (by decide) (bg_fr hm0 (k := 146) (by decide)).1 (fun i h1 h2 => bg_fr hm0 (fan_pm0 i h1 h2))
  refine kc_put (n := 38) X (ci := 5) (C := RX5) (T := TX5) (N := 11) (j := 0) hP hS (by decide) rfl uX5_init_X5 tyX5_ok nmX5 (by decide) (by decide) mbX5_init_9 hname rfl (fv_ref (hB0.a (lo := 0) (by decide) rfl) rfl) rfl rfl dX5_init_12 (fun H locs hP hS => ?_)
  refine lv_aload_n hx hb dX5_init_15 rfl (lv_at hl 0 rfl) ?_
  refine k_new (n := 38) (ci := 4) (C := RX4) (T := TX4) (N := 12) (ty := tyX4) (fs := stF g M1 37 (flRing 37) 0) X hP hS (by omega) uX5_init_X4 tyX4_ok mbX5_init_4 mbX5_init_5 mbX5_init_6 rfl (fun j hj => match j, hj with | 0, _ => rfl | 1, _ => rfl | 2, _ => rfl | 3, _ => rfl | 4, _ => rfl | 5, _ => rfl | 6, _ => rfl | 7, _ => rfl | 8, _ => rfl | 9, _ => rfl | 10, _ => rfl | 11, _ => rfl) (Nat.le_of_ble_eq_true rfl) (Nat.le_of_ble_eq_true rfl) dX5_init_16 (fun H hP hS => ?_)
  refine lv_dup hx hb dX5_init_19 rfl ?_
  refine k_init (n := 39) X hW0 hP hS (by omega) (by decide) (c_X4_init l X.2.2 (b := 38) (r0 := 37) hB1 hz1 hm1 (if_pos rfl)) (cwI 0 hts gX5_init_X4_init rfl rfl rfl (hts _ mbX5_init_6) (hts _ mbX5_init_7) (hts _ mbX5_init_8) rfl (by decide +kernel) ⟨Nat.le_of_ble_eq_true rfl, Nat.le_of_ble_eq_true rfl⟩) hl.1 (Nat.le_of_ble_eq_true rfl) dX5_init_20 ⟨Nat.le_of_ble_eq_true rfl, Nat.le_of_ble_eq_true rfl⟩ (fun H locs hP hS => ?_)
  have hP := fan_conv (M' := M2) (j := 1) (n := 75) hP (by decide) (bg_fr hm1 (k := 146) (by decide)).1 (fun i h1 h2 => bg_fr hm1 (fan_pm1 i h1 h2))
  refine kc_put (n := 75) X (ci := 5) (C := RX5) (T := TX5) (N := 11) (j := 1) hP hS (by decide) rfl uX5_init_X5 tyX5_ok nmX5 (by decide) (by decide) mbX5_init_10 hname rfl (fv_ref (hB1.a (lo := 0) (by decide) rfl) rfl) rfl rfl dX5_init_23 (fun H locs hP hS => ?_)
  refine lv_aload_n hx hb dX5_init_26 rfl (lv_at hl 0 rfl) ?_
  refine k_new (n := 75) (ci := 4) (C := RX4) (T := TX4) (N := 12) (ty := tyX4) (fs := stF g M2 74 (flRing 74) 0) X hP hS (by omega) uX5_init_X4 tyX4_ok mbX5_init_4 mbX5_init_5 mbX5_init_6 rfl (fun j hj => match j, hj with | 0, _ => rfl | 1, _ => rfl | 2, _ => rfl | 3, _ => rfl | 4, _ => rfl | 5, _ => rfl | 6, _ => rfl | 7, _ => rfl | 8, _ => rfl | 9, _ => rfl | 10, _ => rfl | 11, _ => rfl) (Nat.le_of_ble_eq_true rfl) (Nat.le_of_ble_eq_true rfl) dX5_init_27 (fun H hP hS => ?_)
  refine lv_dup hx hb dX5_init_30 rfl ?_
  refine k_init (n := 76) X hW0 hP hS (by omega) (by decide) (c_X4_init l X.2.2 (b := 75) (r0 := 74) hB2 hz2 hm2 (if_pos rfl)) (cwI 0 hts gX5_init_X4_init rfl rfl rfl (hts _ mbX5_init_6) (hts _ mbX5_init_7) (hts _ mbX5_init_8) rfl (by decide +kernel) ⟨Nat.le_of_ble_eq_true rfl, Nat.le_of_ble_eq_true rfl⟩) hl.1 (Nat.le_of_ble_eq_true rfl) dX5_init_31 ⟨Nat.le_of_ble_eq_true rfl, Nat.le_of_ble_eq_true rfl⟩ (fun H locs hP hS => ?_)
  have hP := fan_conv (M' := M3) (j := 2) (n := 112) hP (by decide) (bg_fr hm2 (k := 146) (by decide)).1 (fun i h1 h2 => bg_fr hm2 (fan_pm2 i h1 h2))
  refine kc_put (n := 112) X (ci := 5) (C := RX5) (T := TX5) (N := 11) (j := 2) hP hS (by decide) rfl uX5_init_X5 tyX5_ok nmX5 (by decide) (by decide) mbX5_init_11 hname rfl (fv_ref (hB2.a (lo := 0) (by decide) rfl) rfl) rfl rfl dX5_init_34 (fun H locs hP hS => ?_)
  refine lv_aload_n hx hb dX5_init_37 rfl (lv_at hl 0 rfl) ?_
  refine k_new (n := 112) (ci := 3) (C := RX3) (T := TX3) (N := 17) (ty := tyX3) (fs := stF g M3 111 fl_reader 0) X hP hS (by omega) uX5_init_X3 tyX3_ok mbX5_init_12 mbX5_init_13 mbX5_init_14 rfl (fun j hj => match j, hj with | 0, _ => rfl | 1, _ => rfl | 2, _ => rfl | 3, _ => rfl | 4, _ => rfl | 5, _ => rfl | 6, _ => rfl | 7, _ => rfl | 8, _ => rfl | 9, _ => rfl | 10, _ => rfl | 11, _ => rfl | 12, _ => rfl | 13, _ => rfl | 14, _ => rfl | 15, _ => rfl | 16, _ => rfl | q + 17, hq => absurd hq (by omega)) (Nat.le_of_ble_eq_true rfl) (Nat.le_of_ble_eq_true rfl) dX5_init_38 (fun H hP hS => ?_)
  refine lv_dup hx hb dX5_init_41 rfl ?_
  refine k_initN (n := 113) X hW0 hP hS (by omega) (by decide) (c_X3_init l hG hM3 hMl3 (if_pos rfl)) ⟨va_cnB 0 hts gX5_init_X3_init_n24 rfl rfl rfl hW0.2.1 (hts _ mbX5_init_14) (by decide +kernel) ⟨Nat.le_of_ble_eq_true rfl, Nat.le_of_ble_eq_true rfl⟩, rfl, hts _ mbX5_init_15⟩ hl.1 (Nat.le_of_ble_eq_true rfl) dX5_init_42 ⟨Nat.le_of_ble_eq_true rfl, Nat.le_of_ble_eq_true rfl⟩ (fun H locs hP hS => ?_)
  have hP := fan_conv (M' := M3) (j := 3) (n := 116) hP (by decide) (fun _ => rfl) (fun i h1 h2 => ⟨fun _ => rfl, fun _ => rfl⟩)
  refine kc_put (n := 116) X (ci := 5) (C := RX5) (T := TX5) (N := 11) (j := 3) hP hS (by decide) rfl uX5_init_X5 tyX5_ok nmX5 (by decide) (by decide) mbX5_init_16 hname rfl (fv_ref (hG.at (i := 112) (by decide) rfl) rfl) rfl rfl dX5_init_45 (fun H locs hP hS => ?_)
  refine lv_aload_n hx hb dX5_init_48 rfl (lv_at hl 0 rfl) ?_
  refine k_new (n := 116) (ci := 0) (C := RX0) (T := TX0) (N := 12) (ty := tyX0) (fs := stF g M3 115 fl_counsel 0) X hP hS (by omega) uX5_init_X0 tyX0_ok mbX5_init_17 mbX5_init_18 mbX5_init_19 rfl (fun j hj => match j, hj with | 0, _ => rfl | 1, _ => rfl | 2, _ => rfl | 3, _ => rfl | 4, _ => rfl | 5, _ => rfl | 6, _ => rfl | 7, _ => rfl | 8, _ => rfl | 9, _ => rfl | 10, _ => rfl | 11, _ => rfl | q + 12, hq => absurd hq (by omega)) (Nat.le_of_ble_eq_true rfl) (Nat.le_of_ble_eq_true rfl) dX5_init_49 (fun H hP hS => ?_)
  refine lv_dup hx hb dX5_init_52 rfl ?_
  refine k_initN (n := 117) X hW0 hP hS (by omega) (by decide) (c_X0_init l hG hM3 hMl3 (if_pos rfl)) ⟨va_cnB 0 hts gX5_init_X0_init_n31 rfl rfl rfl hW0.2.2.1 (hts _ mbX5_init_19) (by decide +kernel) ⟨Nat.le_of_ble_eq_true rfl, Nat.le_of_ble_eq_true rfl⟩, rfl, hts _ mbX5_init_20⟩ hl.1 (Nat.le_of_ble_eq_true rfl) dX5_init_53 ⟨Nat.le_of_ble_eq_true rfl, Nat.le_of_ble_eq_true rfl⟩ (fun H locs hP hS => ?_)
  have hP := fan_conv (M' := M3) (j := 4) (n := 131) hP (by decide) (fun _ => rfl) (fun i h1 h2 => ⟨fun _ => rfl, fun _ => rfl⟩)
  refine kc_put (n := 131) X (ci := 5) (C := RX5) (T := TX5) (N := 11) (j := 4) hP hS (by decide) rfl uX5_init_X5 tyX5_ok nmX5 (by decide) (by decide) mbX5_init_21 hname rfl (fv_ref (hG.at (i := 116) (by decide) rfl) rfl) rfl rfl dX5_init_56 (fun H locs hP hS => ?_)
  refine lv_aload_n hx hb dX5_init_59 rfl (lv_at hl 0 rfl) ?_
  refine k_new (n := 131) (ci := 1) (C := RX1) (T := TX1) (N := 8) (ty := tyX1) (fs := stF g M3 130 fl_duel 0) X hP hS (by omega) uX5_init_X1 tyX1_ok mbX5_init_22 mbX5_init_23 mbX5_init_24 rfl (fun j hj => match j, hj with | 0, _ => rfl | 1, _ => rfl | 2, _ => rfl | 3, _ => rfl | 4, _ => rfl | 5, _ => rfl | 6, _ => rfl | 7, _ => rfl | q + 8, hq => absurd hq (by omega)) (Nat.le_of_ble_eq_true rfl) (Nat.le_of_ble_eq_true rfl) dX5_init_60 (fun H hP hS => ?_)
  refine lv_dup hx hb dX5_init_63 rfl ?_
  refine k_initN (n := 132) X hW0 hP hS (by omega) (by decide) (c_X1_init l hG hM3 hMl3 (if_pos rfl)) ⟨va_cnB 0 hts gX5_init_X1_init_n38 rfl rfl rfl hW0.2.2.2.1 (hts _ mbX5_init_24) (by decide +kernel) ⟨Nat.le_of_ble_eq_true rfl, Nat.le_of_ble_eq_true rfl⟩, rfl, hts _ mbX5_init_25⟩ hl.1 (Nat.le_of_ble_eq_true rfl) dX5_init_64 ⟨Nat.le_of_ble_eq_true rfl, Nat.le_of_ble_eq_true rfl⟩ (fun H locs hP hS => ?_)
  have hP := fan_conv (M' := M3) (j := 5) (n := 147) hP (by decide) (fun _ => rfl) (fun i h1 h2 => ⟨fun _ => rfl, fun _ => rfl⟩)
  refine kc_put (n := 147) X (ci := 5) (C := RX5) (T := TX5) (N := 11) (j := 5) hP hS (by decide) rfl uX5_init_X5 tyX5_ok nmX5 (by decide) (by decide) mbX5_init_26 hname rfl (fv_ref (hG.at (i := 131) (by decide) rfl) rfl) rfl rfl dX5_init_67 (fun H locs hP hS => ?_)
  refine lv_aload_n hx hb dX5_init_70 rfl (lv_at hl 0 rfl) ?_
  refine lv_sipush (v := 400) hx hb dX5_init_71 (by decide) ?_
  refine kc_newa (n := 147) (atype := .int) (ty := .int) (t := 0) (N := 400) X hP hS (by omega) (by decide) (by decide) rfl rfl (fun _ => rfl) (enc_z rfl (fun i => (hM3 _ i (by decide)).trans (bM_nil rfl)) (fun i => hMl3 _ i (by decide))) (by decide) rfl (by decide) mbX5_init_27 (Nat.le_of_ble_eq_true rfl) (Nat.le_of_ble_eq_true rfl) dX5_init_74 (fun H hP hS => ?_)
  refine kc_put (n := 148) X (ci := 5) (C := RX5) (T := TX5) (N := 11) (j := 6) hP hS (by decide) rfl uX5_init_X5 tyX5_ok nmX5 (by decide) (by decide) mbX5_init_28 hname rfl (fv_ref (hG.at (i := 147) (by decide) rfl) rfl) rfl rfl dX5_init_76 (fun H locs hP hS => ?_)
  refine lv_aload_n hx hb dX5_init_79 rfl (lv_at hl 0 rfl) ?_
  refine lv_iconst (v := 0) hx hb dX5_init_80 (by decide) ?_
  refine kc_put (n := 148) X (ci := 5) (C := RX5) (T := TX5) (N := 11) (j := 7) hP hS (by decide) rfl uX5_init_X5 tyX5_ok nmX5 (by decide) (by decide) mbX5_init_29 hname rfl (fv_int ((hM3 146 7 (by decide)).trans rfl) rfl) rfl rfl dX5_init_81 (fun H locs hP hS => ?_)
  refine lv_aload_n hx hb dX5_init_84 rfl (lv_at hl 0 rfl) ?_
  refine lv_iconst (v := 0) hx hb dX5_init_85 (by decide) ?_
  refine kc_put (n := 148) X (ci := 5) (C := RX5) (T := TX5) (N := 11) (j := 8) hP hS (by decide) rfl uX5_init_X5 tyX5_ok nmX5 (by decide) (by decide) mbX5_init_30 hname rfl (fv_int ((hM3 146 8 (by decide)).trans rfl) rfl) rfl rfl dX5_init_86 (fun H locs hP hS => ?_)
  refine lv_aload_n hx hb dX5_init_89 rfl (lv_at hl 0 rfl) ?_
  refine lv_iconst (v := (-1)) hx hb dX5_init_90 (by decide) ?_
  refine kc_put (n := 148) X (ci := 5) (C := RX5) (T := TX5) (N := 11) (j := 9) hP hS (by decide) rfl uX5_init_X5 tyX5_ok nmX5 (by decide) (by decide) mbX5_init_31 hname rfl (fv_int ((hM3 146 9 (by decide)).trans rfl) rfl) rfl rfl dX5_init_91 (fun H locs hP hS => ?_)
  refine lv_aload_n hx hb dX5_init_94 rfl (lv_at hl 0 rfl) ?_
  refine lv_iconst (v := 0) hx hb dX5_init_95 (by decide) ?_
  refine kc_put (n := 148) X (ci := 5) (C := RX5) (T := TX5) (N := 11) (j := 10) hP hS (by decide) rfl uX5_init_X5 tyX5_ok nmX5 (by decide) (by decide) mbX5_init_32 hname rfl (fv_int ((hM3 146 10 (by decide)).trans rfl) rfl) rfl rfl dX5_init_96 (fun H locs hP hS => ?_)
  exact kc_ret X (kW_end hP rfl rfl) hS hr hlocks dX5_init_99
