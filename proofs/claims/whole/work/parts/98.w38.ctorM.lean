
/-! X6_init -/
def rmX6_init : Room := { frames := 1, cells := 34, slots := 9292, locals := 12 }
theorem uX6_init_X6 : ∀ w ∈ wsX60, w ∈ wsX6_init := by decide +kernel
theorem mbX6_init_1 : Cond.methodLink RX6 1 objectInit ∈ wsX6_init := by decide +kernel
theorem mbX6_init_2 : Cond.instanceMethod objectInit ∈ wsX6_init := by decide +kernel
theorem mbX6_init_3 : Cond.code objectInit ⟨#[0xb1]⟩ 1 none ∈ wsX6_init := by decide +kernel
theorem mbX6_init_4 : Cond.fieldLink RX6 7 "FootANightModel" "n" "I" ∈ wsX6_init := by decide +kernel
theorem mbX6_init_5 : Cond.arrayClass .int ∈ wsX6_init := by decide +kernel
theorem mbX6_init_6 : Cond.fieldLink RX6 13 "FootANightModel" "wide" "[I" ∈ wsX6_init := by decide +kernel
theorem mbX6_init_7 : Cond.fieldLink RX6 17 "FootANightModel" "lawOf" "[I" ∈ wsX6_init := by decide +kernel
theorem mbX6_init_8 : Cond.fieldLink RX6 20 "FootANightModel" "familyOf" "[I" ∈ wsX6_init := by decide +kernel
theorem mbX6_init_9 : Cond.fieldLink RX6 23 "FootANightModel" "dogOf" "[I" ∈ wsX6_init := by decide +kernel
theorem mbX6_init_10 : Cond.fieldLink RX6 26 "FootANightModel" "purse" "[I" ∈ wsX6_init := by decide +kernel
theorem mbX6_init_11 : Cond.fieldLink RX6 29 "FootANightModel" "hit" "[I" ∈ wsX6_init := by decide +kernel
theorem mbX6_init_12 : Cond.fieldLink RX6 32 "FootANightModel" "caught" "[I" ∈ wsX6_init := by decide +kernel
theorem mbX6_init_13 : Cond.fieldLink RX6 35 "FootANightModel" "eaten" "[I" ∈ wsX6_init := by decide +kernel
theorem mbX6_init_14 : Cond.fieldLink RX6 38 "FootANightModel" "wallOf" "[I" ∈ wsX6_init := by decide +kernel
theorem mbX6_init_15 : Cond.fieldLink RX6 41 "FootANightModel" "heavyOf" "[I" ∈ wsX6_init := by decide +kernel
theorem mbX6_init_16 : Cond.fieldLink RX6 44 "FootANightModel" "pushOf" "[I" ∈ wsX6_init := by decide +kernel
theorem mbX6_init_17 : Cond.fieldLink RX6 47 "FootANightModel" "pushedBy" "[I" ∈ wsX6_init := by decide +kernel
theorem mbX6_init_18 : Cond.fieldLink RX6 50 "FootANightModel" "wasWide" "[I" ∈ wsX6_init := by decide +kernel
theorem mbX6_init_19 : Cond.fieldLink RX6 53 "FootANightModel" "settings" "[I" ∈ wsX6_init := by decide +kernel
theorem mbX6_init_20 : Cond.fieldLink RX6 56 "FootANightModel" "tape" "[I" ∈ wsX6_init := by decide +kernel
theorem mbX6_init_21 : Cond.fieldLink RX6 59 "FootANightModel" "words" "[I" ∈ wsX6_init := by decide +kernel
theorem mbX6_init_22 : Cond.fieldLink RX6 62 "FootANightModel" "lineMany" "[I" ∈ wsX6_init := by decide +kernel
theorem mbX6_init_23 : Cond.fieldLink RX6 65 "FootANightModel" "lineDoing" "[I" ∈ wsX6_init := by decide +kernel
theorem mbX6_init_24 : Cond.fieldLink RX6 68 "FootANightModel" "lineFrom" "[I" ∈ wsX6_init := by decide +kernel
theorem mbX6_init_25 : Cond.fieldLink RX6 71 "FootANightModel" "lineTo" "[I" ∈ wsX6_init := by decide +kernel
theorem mbX6_init_26 : Cond.fieldLink RX6 74 "FootANightModel" "op" "[I" ∈ wsX6_init := by decide +kernel
theorem mbX6_init_27 : Cond.fieldLink RX6 77 "FootANightModel" "arg" "[I" ∈ wsX6_init := by decide +kernel
theorem mbX6_init_28 : Cond.fieldLink RX6 80 "FootANightModel" "pending" "[I" ∈ wsX6_init := by decide +kernel
theorem mbX6_init_29 : Cond.fieldLink RX6 83 "FootANightModel" "faultPlace" "I" ∈ wsX6_init := by decide +kernel
theorem mbX6_init_30 : Cond.fieldLink RX6 86 "FootANightModel" "asked" "[I" ∈ wsX6_init := by decide +kernel
theorem mbX6_init_31 : Cond.fieldLink RX6 89 "FootANightModel" "stack" "[I" ∈ wsX6_init := by decide +kernel
theorem mbX6_init_32 : Cond.fieldLink RX6 92 "FootANightModel" "doing" "[I" ∈ wsX6_init := by decide +kernel
theorem mbX6_init_33 : Cond.arrayClass .boolean ∈ wsX6_init := by decide +kernel
theorem mbX6_init_34 : Cond.fieldLink RX6 95 "FootANightModel" "lost" "[Z" ∈ wsX6_init := by decide +kernel
theorem mbX6_init_35 : Cond.fieldLink RX6 99 "FootANightModel" "row" "[I" ∈ wsX6_init := by decide +kernel
theorem mbX6_init_36 : Cond.arrayClass .long ∈ wsX6_init := by decide +kernel
theorem mbX6_init_37 : Cond.fieldLink RX6 102 "FootANightModel" "best" "[J" ∈ wsX6_init := by decide +kernel
theorem mbX6_init_38 : Cond.fieldLink RX6 106 "FootANightModel" "nextBest" "[J" ∈ wsX6_init := by decide +kernel
theorem mbX6_init_39 : Cond.fieldLink RX6 109 "FootANightModel" "bestDoing" "[I" ∈ wsX6_init := by decide +kernel
theorem mbX6_init_40 : Cond.fieldLink RX6 112 "FootANightModel" "aside" "[I" ∈ wsX6_init := by decide +kernel
theorem mbX6_init_41 : Cond.fieldLink RX6 115 "FootANightModel" "images" "[I" ∈ wsX6_init := by decide +kernel
theorem mbX6_init_42 : Cond.fieldLink RX6 118 "FootANightModel" "imageTexts" "[I" ∈ wsX6_init := by decide +kernel
section SX6
variable {p : Program} {l : Launch} {e : Env} {s : State} {m : MethodId} {args : Array Value} {below : List Frame} {meth : Method} {c : Code} {g : GT} {Q : State → Prop}
set_option maxHeartbeats 4000000 in
set_option maxRecDepth 100000 in
theorem iX6_3 (X : CxG g p s m args c cX6_init 1 RX6 wsX6_init) (hname : meth.name = "<init>") (hG : GG g) {M : Mem} (hM : ∀ k j, 111 ≤ k → rd M k j = bM k j) (hMl : ∀ k j, 111 ≤ k → rdl M k j = 0) {f : Nat → va_E} (hW0 : NwG s) (hz0 : s.heap.size = gb g + 149) (hr : meth.sig.returnType = none) (hlocks : meth.locks = false) : ∀ (H : Heap) (locs : List Loc) (ls : Array Slot), va_P (gD g) vwCl (cwl (gb g) (kW g M 148 f (.inr (6, stF g M 148 fl_model 26)) 148 eN) 165) H → va_S (AbG g) s.heap H locs → lv_has ls 1 [(0, .ref (gb g + 148))] → W p l e rmX6_init s m args below meth c H locs 16 639 (MQ below (va_Qv (fun (_ : Unit) => True) (fun _ t => va_P (gD g) vwCl (cwl (gb g) (fun i => if i < 148 then f i else encG g M (pmk i)) 183) t.heap) (AbG g)) args s 34 9292 (AbG g)) (F0 m 1065 ls []) := by
  intro H locs ls hP hS hl
  obtain ⟨⟨hx, hb, hml, hown, hts⟩, -, -⟩ := id X
  refine lv_aload_n hx hb dX6_init_1065 rfl (lv_at hl 0 rfl) ?_
  refine lv_iconst (v := 5) hx hb dX6_init_1066 (by decide) ?_
  refine kc_newa (atype := .int) (ty := .int) (t := 0) (N := 5) X hP hS (by omega) (by decide) (by decide) rfl rfl (fun _ => rfl) (enc_z rfl (fun i => (hM _ i (by decide)).trans (bM_nil rfl)) (fun i => hMl _ i (by decide))) (by decide) rfl (by decide) mbX6_init_5 (Nat.le_of_ble_eq_true rfl) (Nat.le_of_ble_eq_true rfl) dX6_init_1067 (fun H hP hS => ?_)
  refine kc_put X (ci := 6) (C := RX6) (T := TX6) (N := 55) (j := 26) hP hS (by decide) rfl uX6_init_X6 tyX6_ok nmX6 (by decide) (by decide) mbX6_init_22 hname rfl (fv_ref (hG.at (i := 165) (by decide) (by decide)) rfl) rfl rfl dX6_init_1069 (fun H locs hP hS => ?_)
  refine lv_aload_n hx hb dX6_init_1072 rfl (lv_at hl 0 rfl) ?_
  refine lv_bipush (v := 80) hx hb dX6_init_1073 (by decide) ?_
  refine kc_newa (atype := .int) (ty := .int) (t := 0) (N := 80) X hP hS (by omega) (by decide) (by decide) rfl rfl (fun _ => rfl) (enc_z rfl (fun i => (hM _ i (by decide)).trans (bM_nil rfl)) (fun i => hMl _ i (by decide))) (by decide) rfl (by decide) mbX6_init_5 (Nat.le_of_ble_eq_true rfl) (Nat.le_of_ble_eq_true rfl) dX6_init_1075 (fun H hP hS => ?_)
  refine kc_put X (ci := 6) (C := RX6) (T := TX6) (N := 55) (j := 27) hP hS (by decide) rfl uX6_init_X6 tyX6_ok nmX6 (by decide) (by decide) mbX6_init_23 hname rfl (fv_ref (hG.at (i := 166) (by decide) (by decide)) rfl) rfl rfl dX6_init_1077 (fun H locs hP hS => ?_)
  refine lv_aload_n hx hb dX6_init_1080 rfl (lv_at hl 0 rfl) ?_
  refine lv_bipush (v := 80) hx hb dX6_init_1081 (by decide) ?_
  refine kc_newa (atype := .int) (ty := .int) (t := 0) (N := 80) X hP hS (by omega) (by decide) (by decide) rfl rfl (fun _ => rfl) (enc_z rfl (fun i => (hM _ i (by decide)).trans (bM_nil rfl)) (fun i => hMl _ i (by decide))) (by decide) rfl (by decide) mbX6_init_5 (Nat.le_of_ble_eq_true rfl) (Nat.le_of_ble_eq_true rfl) dX6_init_1083 (fun H hP hS => ?_)
  refine kc_put X (ci := 6) (C := RX6) (T := TX6) (N := 55) (j := 28) hP hS (by decide) rfl uX6_init_X6 tyX6_ok nmX6 (by decide) (by decide) mbX6_init_24 hname rfl (fv_ref (hG.at (i := 167) (by decide) (by decide)) rfl) rfl rfl dX6_init_1085 (fun H locs hP hS => ?_)
  refine lv_aload_n hx hb dX6_init_1088 rfl (lv_at hl 0 rfl) ?_
  refine lv_bipush (v := 80) hx hb dX6_init_1089 (by decide) ?_
  refine kc_newa (atype := .int) (ty := .int) (t := 0) (N := 80) X hP hS (by omega) (by decide) (by decide) rfl rfl (fun _ => rfl) (enc_z rfl (fun i => (hM _ i (by decide)).trans (bM_nil rfl)) (fun i => hMl _ i (by decide))) (by decide) rfl (by decide) mbX6_init_5 (Nat.le_of_ble_eq_true rfl) (Nat.le_of_ble_eq_true rfl) dX6_init_1091 (fun H hP hS => ?_)
  refine kc_put X (ci := 6) (C := RX6) (T := TX6) (N := 55) (j := 29) hP hS (by decide) rfl uX6_init_X6 tyX6_ok nmX6 (by decide) (by decide) mbX6_init_25 hname rfl (fv_ref (hG.at (i := 168) (by decide) (by decide)) rfl) rfl rfl dX6_init_1093 (fun H locs hP hS => ?_)
  refine lv_aload_n hx hb dX6_init_1096 rfl (lv_at hl 0 rfl) ?_
  refine lv_sipush (v := 2000) hx hb dX6_init_1097 (by decide) ?_
  refine kc_newa (atype := .int) (ty := .int) (t := 0) (N := 2000) X hP hS (by omega) (by decide) (by decide) rfl rfl (fun _ => rfl) (enc_z rfl (fun i => (hM _ i (by decide)).trans (bM_nil rfl)) (fun i => hMl _ i (by decide))) (by decide) rfl (by decide) mbX6_init_5 (Nat.le_of_ble_eq_true rfl) (Nat.le_of_ble_eq_true rfl) dX6_init_1100 (fun H hP hS => ?_)
  refine kc_put X (ci := 6) (C := RX6) (T := TX6) (N := 55) (j := 30) hP hS (by decide) rfl uX6_init_X6 tyX6_ok nmX6 (by decide) (by decide) mbX6_init_26 hname rfl (fv_ref (hG.at (i := 169) (by decide) (by decide)) rfl) rfl rfl dX6_init_1102 (fun H locs hP hS => ?_)
  refine lv_aload_n hx hb dX6_init_1105 rfl (lv_at hl 0 rfl) ?_
  refine lv_sipush (v := 2000) hx hb dX6_init_1106 (by decide) ?_
  refine kc_newa (atype := .int) (ty := .int) (t := 0) (N := 2000) X hP hS (by omega) (by decide) (by decide) rfl rfl (fun _ => rfl) (enc_z rfl (fun i => (hM _ i (by decide)).trans (bM_nil rfl)) (fun i => hMl _ i (by decide))) (by decide) rfl (by decide) mbX6_init_5 (Nat.le_of_ble_eq_true rfl) (Nat.le_of_ble_eq_true rfl) dX6_init_1109 (fun H hP hS => ?_)
  refine kc_put X (ci := 6) (C := RX6) (T := TX6) (N := 55) (j := 31) hP hS (by decide) rfl uX6_init_X6 tyX6_ok nmX6 (by decide) (by decide) mbX6_init_27 hname rfl (fv_ref (hG.at (i := 170) (by decide) (by decide)) rfl) rfl rfl dX6_init_1111 (fun H locs hP hS => ?_)
  refine lv_aload_n hx hb dX6_init_1114 rfl (lv_at hl 0 rfl) ?_
  refine lv_bipush (v := 40) hx hb dX6_init_1115 (by decide) ?_
  refine kc_newa (atype := .int) (ty := .int) (t := 0) (N := 40) X hP hS (by omega) (by decide) (by decide) rfl rfl (fun _ => rfl) (enc_z rfl (fun i => (hM _ i (by decide)).trans (bM_nil rfl)) (fun i => hMl _ i (by decide))) (by decide) rfl (by decide) mbX6_init_5 (Nat.le_of_ble_eq_true rfl) (Nat.le_of_ble_eq_true rfl) dX6_init_1117 (fun H hP hS => ?_)
  have hP := kc_skip hP (show Value.int (rd M 148 32) = Value.int 0 from congrArg Value.int ((hM _ _ (by decide)).trans rfl))
  have hP := kc_skip hP (show Value.int (rd M 148 33) = Value.int 0 from congrArg Value.int ((hM _ _ (by decide)).trans rfl))
  refine kc_put X (ci := 6) (C := RX6) (T := TX6) (N := 55) (j := 34) hP hS (by decide) rfl uX6_init_X6 tyX6_ok nmX6 (by decide) (by decide) mbX6_init_28 hname rfl (fv_ref (hG.at (i := 171) (by decide) (by decide)) rfl) rfl rfl dX6_init_1119 (fun H locs hP hS => ?_)
  refine lv_aload_n hx hb dX6_init_1122 rfl (lv_at hl 0 rfl) ?_
  refine lv_iconst (v := (-1)) hx hb dX6_init_1123 (by decide) ?_
  have hP := kc_skip hP (show Value.int (rd M 148 35) = Value.int 0 from congrArg Value.int ((hM _ _ (by decide)).trans rfl))
  have hP := kc_skip hP (show Value.int (rd M 148 36) = Value.int 0 from congrArg Value.int ((hM _ _ (by decide)).trans rfl))
  have hP := kc_skip hP (show Value.int (rd M 148 37) = Value.int 0 from congrArg Value.int ((hM _ _ (by decide)).trans rfl))
  have hP := kc_skip hP (show Value.int (rd M 148 38) = Value.int 0 from congrArg Value.int ((hM _ _ (by decide)).trans rfl))
  refine kc_put X (ci := 6) (C := RX6) (T := TX6) (N := 55) (j := 39) hP hS (by decide) rfl uX6_init_X6 tyX6_ok nmX6 (by decide) (by decide) mbX6_init_29 hname rfl (fv_int ((hM 148 39 (by decide)).trans rfl) rfl) rfl rfl dX6_init_1124 (fun H locs hP hS => ?_)
  refine lv_aload_n hx hb dX6_init_1127 rfl (lv_at hl 0 rfl) ?_
  refine lv_bipush (v := 15) hx hb dX6_init_1128 (by decide) ?_
  refine kc_newa (atype := .int) (ty := .int) (t := 0) (N := 15) X hP hS (by omega) (by decide) (by decide) rfl rfl (fun _ => rfl) (enc_z rfl (fun i => (hM _ i (by decide)).trans (bM_nil rfl)) (fun i => hMl _ i (by decide))) (by decide) rfl (by decide) mbX6_init_5 (Nat.le_of_ble_eq_true rfl) (Nat.le_of_ble_eq_true rfl) dX6_init_1130 (fun H hP hS => ?_)
  refine kc_put X (ci := 6) (C := RX6) (T := TX6) (N := 55) (j := 40) hP hS (by decide) rfl uX6_init_X6 tyX6_ok nmX6 (by decide) (by decide) mbX6_init_30 hname rfl (fv_ref (hG.at (i := 172) (by decide) (by decide)) rfl) rfl rfl dX6_init_1132 (fun H locs hP hS => ?_)
  refine lv_aload_n hx hb dX6_init_1135 rfl (lv_at hl 0 rfl) ?_
  refine lv_sipush (v := 420) hx hb dX6_init_1136 (by decide) ?_
  refine kc_newa (atype := .int) (ty := .int) (t := 0) (N := 420) X hP hS (by omega) (by decide) (by decide) rfl rfl (fun _ => rfl) (enc_z rfl (fun i => (hM _ i (by decide)).trans (bM_nil rfl)) (fun i => hMl _ i (by decide))) (by decide) rfl (by decide) mbX6_init_5 (Nat.le_of_ble_eq_true rfl) (Nat.le_of_ble_eq_true rfl) dX6_init_1139 (fun H hP hS => ?_)
  refine kc_put X (ci := 6) (C := RX6) (T := TX6) (N := 55) (j := 41) hP hS (by decide) rfl uX6_init_X6 tyX6_ok nmX6 (by decide) (by decide) mbX6_init_31 hname rfl (fv_ref (hG.at (i := 173) (by decide) (by decide)) rfl) rfl rfl dX6_init_1141 (fun H locs hP hS => ?_)
  refine lv_aload_n hx hb dX6_init_1144 rfl (lv_at hl 0 rfl) ?_
  refine lv_bipush (v := 10) hx hb dX6_init_1145 (by decide) ?_
  refine kc_newa (atype := .int) (ty := .int) (t := 0) (N := 10) X hP hS (by omega) (by decide) (by decide) rfl rfl (fun _ => rfl) (enc_z rfl (fun i => (hM _ i (by decide)).trans (bM_nil rfl)) (fun i => hMl _ i (by decide))) (by decide) rfl (by decide) mbX6_init_5 (Nat.le_of_ble_eq_true rfl) (Nat.le_of_ble_eq_true rfl) dX6_init_1147 (fun H hP hS => ?_)
  refine kc_put X (ci := 6) (C := RX6) (T := TX6) (N := 55) (j := 42) hP hS (by decide) rfl uX6_init_X6 tyX6_ok nmX6 (by decide) (by decide) mbX6_init_32 hname rfl (fv_ref (hG.at (i := 174) (by decide) (by decide)) rfl) rfl rfl dX6_init_1149 (fun H locs hP hS => ?_)
  refine lv_aload_n hx hb dX6_init_1152 rfl (lv_at hl 0 rfl) ?_
  refine lv_bipush (v := 10) hx hb dX6_init_1153 (by decide) ?_
  refine kc_newa (atype := .boolean) (ty := .boolean) (t := 2) (N := 10) X hP hS (by omega) (by decide) (by decide) rfl rfl (fun _ => rfl) (enc_z rfl (fun i => (hM _ i (by decide)).trans (bM_nil rfl)) (fun i => hMl _ i (by decide))) (by decide) rfl (by decide) mbX6_init_33 (Nat.le_of_ble_eq_true rfl) (Nat.le_of_ble_eq_true rfl) dX6_init_1155 (fun H hP hS => ?_)
  refine kc_put X (ci := 6) (C := RX6) (T := TX6) (N := 55) (j := 43) hP hS (by decide) rfl uX6_init_X6 tyX6_ok nmX6 (by decide) (by decide) mbX6_init_34 hname rfl (fv_ref (hG.at (i := 175) (by decide) (by decide)) rfl) rfl rfl dX6_init_1157 (fun H locs hP hS => ?_)
  refine lv_aload_n hx hb dX6_init_1160 rfl (lv_at hl 0 rfl) ?_
  refine lv_bipush (v := 10) hx hb dX6_init_1161 (by decide) ?_
  refine kc_newa (atype := .int) (ty := .int) (t := 0) (N := 10) X hP hS (by omega) (by decide) (by decide) rfl rfl (fun _ => rfl) (enc_z rfl (fun i => (hM _ i (by decide)).trans (bM_nil rfl)) (fun i => hMl _ i (by decide))) (by decide) rfl (by decide) mbX6_init_5 (Nat.le_of_ble_eq_true rfl) (Nat.le_of_ble_eq_true rfl) dX6_init_1163 (fun H hP hS => ?_)
  refine kc_put X (ci := 6) (C := RX6) (T := TX6) (N := 55) (j := 44) hP hS (by decide) rfl uX6_init_X6 tyX6_ok nmX6 (by decide) (by decide) mbX6_init_35 hname rfl (fv_ref (hG.at (i := 176) (by decide) (by decide)) rfl) rfl rfl dX6_init_1165 (fun H locs hP hS => ?_)
  refine lv_aload_n hx hb dX6_init_1168 rfl (lv_at hl 0 rfl) ?_
  refine lv_bipush (v := 61) hx hb dX6_init_1169 (by decide) ?_
  refine kc_newa (atype := .long) (ty := .long) (t := 1) (N := 61) X hP hS (by omega) (by decide) (by decide) rfl rfl (fun _ => rfl) (enc_z rfl (fun i => (hM _ i (by decide)).trans (bM_nil rfl)) (fun i => hMl _ i (by decide))) (by decide) rfl (by decide) mbX6_init_36 (Nat.le_of_ble_eq_true rfl) (Nat.le_of_ble_eq_true rfl) dX6_init_1171 (fun H hP hS => ?_)
  refine kc_put X (ci := 6) (C := RX6) (T := TX6) (N := 55) (j := 45) hP hS (by decide) rfl uX6_init_X6 tyX6_ok nmX6 (by decide) (by decide) mbX6_init_37 hname rfl (fv_ref (hG.at (i := 177) (by decide) (by decide)) rfl) rfl rfl dX6_init_1173 (fun H locs hP hS => ?_)
  refine lv_aload_n hx hb dX6_init_1176 rfl (lv_at hl 0 rfl) ?_
  refine lv_bipush (v := 61) hx hb dX6_init_1177 (by decide) ?_
  refine kc_newa (atype := .long) (ty := .long) (t := 1) (N := 61) X hP hS (by omega) (by decide) (by decide) rfl rfl (fun _ => rfl) (enc_z rfl (fun i => (hM _ i (by decide)).trans (bM_nil rfl)) (fun i => hMl _ i (by decide))) (by decide) rfl (by decide) mbX6_init_36 (Nat.le_of_ble_eq_true rfl) (Nat.le_of_ble_eq_true rfl) dX6_init_1179 (fun H hP hS => ?_)
  refine kc_put X (ci := 6) (C := RX6) (T := TX6) (N := 55) (j := 46) hP hS (by decide) rfl uX6_init_X6 tyX6_ok nmX6 (by decide) (by decide) mbX6_init_38 hname rfl (fv_ref (hG.at (i := 178) (by decide) (by decide)) rfl) rfl rfl dX6_init_1181 (fun H locs hP hS => ?_)
  refine lv_aload_n hx hb dX6_init_1184 rfl (lv_at hl 0 rfl) ?_
  refine lv_bipush (v := 61) hx hb dX6_init_1185 (by decide) ?_
  refine kc_newa (atype := .int) (ty := .int) (t := 0) (N := 61) X hP hS (by omega) (by decide) (by decide) rfl rfl (fun _ => rfl) (enc_z rfl (fun i => (hM _ i (by decide)).trans (bM_nil rfl)) (fun i => hMl _ i (by decide))) (by decide) rfl (by decide) mbX6_init_5 (Nat.le_of_ble_eq_true rfl) (Nat.le_of_ble_eq_true rfl) dX6_init_1187 (fun H hP hS => ?_)
  refine kc_put X (ci := 6) (C := RX6) (T := TX6) (N := 55) (j := 47) hP hS (by decide) rfl uX6_init_X6 tyX6_ok nmX6 (by decide) (by decide) mbX6_init_39 hname rfl (fv_ref (hG.at (i := 179) (by decide) (by decide)) rfl) rfl rfl dX6_init_1189 (fun H locs hP hS => ?_)
  refine lv_aload_n hx hb dX6_init_1192 rfl (lv_at hl 0 rfl) ?_
  refine lv_sipush (v := 160) hx hb dX6_init_1193 (by decide) ?_
  refine kc_newa (atype := .int) (ty := .int) (t := 0) (N := 160) X hP hS (by omega) (by decide) (by decide) rfl rfl (fun _ => rfl) (enc_z rfl (fun i => (hM _ i (by decide)).trans (bM_nil rfl)) (fun i => hMl _ i (by decide))) (by decide) rfl (by decide) mbX6_init_5 (Nat.le_of_ble_eq_true rfl) (Nat.le_of_ble_eq_true rfl) dX6_init_1196 (fun H hP hS => ?_)
  have hP := kc_skip hP (show Value.int (rd M 148 48) = Value.int 0 from congrArg Value.int ((hM _ _ (by decide)).trans rfl))
  have hP := kc_skip hP (show Value.int (rd M 148 49) = Value.int 0 from congrArg Value.int ((hM _ _ (by decide)).trans rfl))
  refine kc_put X (ci := 6) (C := RX6) (T := TX6) (N := 55) (j := 50) hP hS (by decide) rfl uX6_init_X6 tyX6_ok nmX6 (by decide) (by decide) mbX6_init_40 hname rfl (fv_ref (hG.at (i := 180) (by decide) (by decide)) rfl) rfl rfl dX6_init_1198 (fun H locs hP hS => ?_)
  refine lv_aload_n hx hb dX6_init_1201 rfl (lv_at hl 0 rfl) ?_
  refine lv_sipush (v := 160) hx hb dX6_init_1202 (by decide) ?_
  refine kc_newa (atype := .int) (ty := .int) (t := 0) (N := 160) X hP hS (by omega) (by decide) (by decide) rfl rfl (fun _ => rfl) (enc_z rfl (fun i => (hM _ i (by decide)).trans (bM_nil rfl)) (fun i => hMl _ i (by decide))) (by decide) rfl (by decide) mbX6_init_5 (Nat.le_of_ble_eq_true rfl) (Nat.le_of_ble_eq_true rfl) dX6_init_1205 (fun H hP hS => ?_)
  have hP := kc_skip hP (show Value.int (rd M 148 51) = Value.int 0 from congrArg Value.int ((hM _ _ (by decide)).trans rfl))
  refine kc_put X (ci := 6) (C := RX6) (T := TX6) (N := 55) (j := 52) hP hS (by decide) rfl uX6_init_X6 tyX6_ok nmX6 (by decide) (by decide) mbX6_init_41 hname rfl (fv_ref (hG.at (i := 181) (by decide) (by decide)) rfl) rfl rfl dX6_init_1207 (fun H locs hP hS => ?_)
  refine lv_aload_n hx hb dX6_init_1210 rfl (lv_at hl 0 rfl) ?_
  refine lv_sipush (v := 3400) hx hb dX6_init_1211 (by decide) ?_
  refine kc_newa (atype := .int) (ty := .int) (t := 0) (N := 3400) X hP hS (by omega) (by decide) (by decide) rfl rfl (fun _ => rfl) (enc_z rfl (fun i => (hM _ i (by decide)).trans (bM_nil rfl)) (fun i => hMl _ i (by decide))) (by decide) rfl (by decide) mbX6_init_5 (Nat.le_of_ble_eq_true rfl) (Nat.le_of_ble_eq_true rfl) dX6_init_1214 (fun H hP hS => ?_)
  refine kc_put X (ci := 6) (C := RX6) (T := TX6) (N := 55) (j := 53) hP hS (by decide) rfl uX6_init_X6 tyX6_ok nmX6 (by decide) (by decide) mbX6_init_42 hname rfl (fv_ref (hG.at (i := 182) (by decide) (by decide)) rfl) rfl rfl dX6_init_1216 (fun H locs hP hS => ?_)
  have hP := kc_skip hP (show Value.int (rd M 148 54) = Value.int 0 from congrArg Value.int ((hM _ _ (by decide)).trans rfl))
  exact kc_ret X (kW_end hP rfl rfl) hS hr hlocks dX6_init_1219
set_option maxHeartbeats 4000000 in
set_option maxRecDepth 100000 in
theorem iX6_2 (X : CxG g p s m args c cX6_init 1 RX6 wsX6_init) (hname : meth.name = "<init>") (hG : GG g) {M : Mem} (hM : ∀ k j, 111 ≤ k → rd M k j = bM k j) (hMl : ∀ k j, 111 ≤ k → rdl M k j = 0) {f : Nat → va_E} (hW0 : NwG s) (hz0 : s.heap.size = gb g + 149) (kk : ∀ (H : Heap) (locs : List Loc) (ls : Array Slot), va_P (gD g) vwCl (cwl (gb g) (kW g M 148 f (.inr (6, stF g M 148 fl_model 26)) 148 eN) 165) H → va_S (AbG g) s.heap H locs → lv_has ls 1 [(0, .ref (gb g + 148))] → W p l e rmX6_init s m args below meth c H locs 16 639 Q (F0 m 1065 ls [])) : ∀ (H : Heap) (locs : List Loc) (ls : Array Slot), va_P (gD g) vwCl (cwl (gb g) (kW g M 148 f (.inr (6, stF g M 148 fl_model 18)) 148 eN) 162) H → va_S (AbG g) s.heap H locs → lv_has ls 1 [(0, .ref (gb g + 148))] → W p l e rmX6_init s m args below meth c H locs 13 130 Q (F0 m 401 ls []) := by
  intro H locs ls hP hS hl
  obtain ⟨⟨hx, hb, hml, hown, hts⟩, -, -⟩ := id X
  refine lv_aload_n hx hb dX6_init_401 rfl (lv_at hl 0 rfl) ?_
  refine lv_bipush (v := 10) hx hb dX6_init_402 (by decide) ?_
  refine kc_newS (N := 10) X hP hS (by omega) (by decide) (by decide) rfl (by decide) mbX6_init_5 (Nat.le_of_ble_eq_true rfl) (Nat.le_of_ble_eq_true rfl) dX6_init_404 (fun H hP hS => ?_)
  refine lv_dup hx hb dX6_init_406 rfl ?_
  refine lv_iconst (v := 0) hx hb dX6_init_407 (by decide) ?_
  refine lv_bipush (v := 20) hx hb dX6_init_408 (by decide) ?_
  refine kc_iast (i0 := 0) X hP hS (by decide) (by decide) rfl rfl ((hM _ 0 (by decide)).trans rfl) dX6_init_410 (fun H locs hP hS => ?_)
  refine lv_dup hx hb dX6_init_411 rfl ?_
  refine lv_iconst (v := 1) hx hb dX6_init_412 (by decide) ?_
  refine lv_bipush (v := 10) hx hb dX6_init_413 (by decide) ?_
  refine kc_iast (i0 := 1) X hP hS (by decide) (by decide) rfl rfl ((hM _ 1 (by decide)).trans rfl) dX6_init_415 (fun H locs hP hS => ?_)
  refine lv_dup hx hb dX6_init_416 rfl ?_
  refine lv_iconst (v := 2) hx hb dX6_init_417 (by decide) ?_
  refine lv_iconst (v := 5) hx hb dX6_init_418 (by decide) ?_
  refine kc_iast (i0 := 2) X hP hS (by decide) (by decide) rfl rfl ((hM _ 2 (by decide)).trans rfl) dX6_init_419 (fun H locs hP hS => ?_)
  refine lv_dup hx hb dX6_init_420 rfl ?_
  refine lv_iconst (v := 3) hx hb dX6_init_421 (by decide) ?_
  refine lv_iconst (v := 3) hx hb dX6_init_422 (by decide) ?_
  refine kc_iast (i0 := 3) X hP hS (by decide) (by decide) rfl rfl ((hM _ 3 (by decide)).trans rfl) dX6_init_423 (fun H locs hP hS => ?_)
  refine lv_dup hx hb dX6_init_424 rfl ?_
  refine lv_iconst (v := 4) hx hb dX6_init_425 (by decide) ?_
  refine lv_iconst (v := 5) hx hb dX6_init_426 (by decide) ?_
  refine kc_iast (i0 := 4) X hP hS (by decide) (by decide) rfl rfl ((hM _ 4 (by decide)).trans rfl) dX6_init_427 (fun H locs hP hS => ?_)
  refine lv_dup hx hb dX6_init_428 rfl ?_
  refine lv_iconst (v := 5) hx hb dX6_init_429 (by decide) ?_
  refine lv_iconst (v := 1) hx hb dX6_init_430 (by decide) ?_
  refine kc_iast (i0 := 5) X hP hS (by decide) (by decide) rfl rfl ((hM _ 5 (by decide)).trans rfl) dX6_init_431 (fun H locs hP hS => ?_)
  refine lv_dup hx hb dX6_init_432 rfl ?_
  refine lv_bipush (v := 6) hx hb dX6_init_433 (by decide) ?_
  refine lv_bipush (v := 10) hx hb dX6_init_435 (by decide) ?_
  refine kc_iast (i0 := 6) X hP hS (by decide) (by decide) rfl rfl ((hM _ 6 (by decide)).trans rfl) dX6_init_437 (fun H locs hP hS => ?_)
  refine lv_dup hx hb dX6_init_438 rfl ?_
  refine lv_bipush (v := 7) hx hb dX6_init_439 (by decide) ?_
  refine lv_sipush (v := 900) hx hb dX6_init_441 (by decide) ?_
  refine kc_iast (i0 := 7) X hP hS (by decide) (by decide) rfl rfl ((hM _ 7 (by decide)).trans rfl) dX6_init_444 (fun H locs hP hS => ?_)
  refine lv_dup hx hb dX6_init_445 rfl ?_
  refine lv_bipush (v := 8) hx hb dX6_init_446 (by decide) ?_
  refine lv_sipush (v := 300) hx hb dX6_init_448 (by decide) ?_
  refine kc_iast (i0 := 8) X hP hS (by decide) (by decide) rfl rfl ((hM _ 8 (by decide)).trans rfl) dX6_init_451 (fun H locs hP hS => ?_)
  refine lv_dup hx hb dX6_init_452 rfl ?_
  refine lv_bipush (v := 9) hx hb dX6_init_453 (by decide) ?_
  refine lv_iconst (v := 1) hx hb dX6_init_455 (by decide) ?_
  refine kc_iast (i0 := 9) X hP hS (by decide) (by decide) rfl rfl ((hM _ 9 (by decide)).trans rfl) dX6_init_456 (fun H locs hP hS => ?_)
  have hP := kc_full (n' := 10) (e1 := eN) hP (by decide) rfl (fun i hi => (hM _ i (by decide)).trans (bM_end (n := 10) (by decide) hi))
  refine kc_put X (ci := 6) (C := RX6) (T := TX6) (N := 55) (j := 18) hP hS (by decide) rfl uX6_init_X6 tyX6_ok nmX6 (by decide) (by decide) mbX6_init_19 hname rfl (fv_ref (hG.at (i := 162) (by decide) (by decide)) rfl) rfl rfl dX6_init_457 (fun H locs hP hS => ?_)
  refine lv_aload_n hx hb dX6_init_460 rfl (lv_at hl 0 rfl) ?_
  refine lv_sipush (v := 400) hx hb dX6_init_461 (by decide) ?_
  refine kc_newa (atype := .int) (ty := .int) (t := 0) (N := 400) X hP hS (by omega) (by decide) (by decide) rfl rfl (fun _ => rfl) (enc_z rfl (fun i => (hM _ i (by decide)).trans (bM_nil rfl)) (fun i => hMl _ i (by decide))) (by decide) rfl (by decide) mbX6_init_5 (Nat.le_of_ble_eq_true rfl) (Nat.le_of_ble_eq_true rfl) dX6_init_464 (fun H hP hS => ?_)
  refine kc_put X (ci := 6) (C := RX6) (T := TX6) (N := 55) (j := 19) hP hS (by decide) rfl uX6_init_X6 tyX6_ok nmX6 (by decide) (by decide) mbX6_init_20 hname rfl (fv_ref (hG.at (i := 163) (by decide) (by decide)) rfl) rfl rfl dX6_init_466 (fun H locs hP hS => ?_)
  refine lv_aload_n hx hb dX6_init_469 rfl (lv_at hl 0 rfl) ?_
  refine lv_bipush (v := 99) hx hb dX6_init_470 (by decide) ?_
  refine kc_newS (N := 99) X hP hS (by omega) (by decide) (by decide) rfl (by decide) mbX6_init_5 (Nat.le_of_ble_eq_true rfl) (Nat.le_of_ble_eq_true rfl) dX6_init_472 (fun H hP hS => ?_)
  refine lv_dup hx hb dX6_init_474 rfl ?_
  refine lv_iconst (v := 0) hx hb dX6_init_475 (by decide) ?_
  refine lv_bipush (v := 32) hx hb dX6_init_476 (by decide) ?_
  refine kc_iast (i0 := 0) X hP hS (by decide) (by decide) rfl rfl ((hM _ 0 (by decide)).trans rfl) dX6_init_478 (fun H locs hP hS => ?_)
  refine lv_dup hx hb dX6_init_479 rfl ?_
  refine lv_iconst (v := 1) hx hb dX6_init_480 (by decide) ?_
  refine lv_bipush (v := 100) hx hb dX6_init_481 (by decide) ?_
  refine kc_iast (i0 := 1) X hP hS (by decide) (by decide) rfl rfl ((hM _ 1 (by decide)).trans rfl) dX6_init_483 (fun H locs hP hS => ?_)
  refine lv_dup hx hb dX6_init_484 rfl ?_
  refine lv_iconst (v := 2) hx hb dX6_init_485 (by decide) ?_
  refine lv_bipush (v := 111) hx hb dX6_init_486 (by decide) ?_
  refine kc_iast (i0 := 2) X hP hS (by decide) (by decide) rfl rfl ((hM _ 2 (by decide)).trans rfl) dX6_init_488 (fun H locs hP hS => ?_)
  refine lv_dup hx hb dX6_init_489 rfl ?_
  refine lv_iconst (v := 3) hx hb dX6_init_490 (by decide) ?_
  refine lv_bipush (v := 32) hx hb dX6_init_491 (by decide) ?_
  refine kc_iast (i0 := 3) X hP hS (by decide) (by decide) rfl rfl ((hM _ 3 (by decide)).trans rfl) dX6_init_493 (fun H locs hP hS => ?_)
  refine lv_dup hx hb dX6_init_494 rfl ?_
  refine lv_iconst (v := 4) hx hb dX6_init_495 (by decide) ?_
  refine lv_bipush (v := 119) hx hb dX6_init_496 (by decide) ?_
  refine kc_iast (i0 := 4) X hP hS (by decide) (by decide) rfl rfl ((hM _ 4 (by decide)).trans rfl) dX6_init_498 (fun H locs hP hS => ?_)
  refine lv_dup hx hb dX6_init_499 rfl ?_
  refine lv_iconst (v := 5) hx hb dX6_init_500 (by decide) ?_
  refine lv_bipush (v := 104) hx hb dX6_init_501 (by decide) ?_
  refine kc_iast (i0 := 5) X hP hS (by decide) (by decide) rfl rfl ((hM _ 5 (by decide)).trans rfl) dX6_init_503 (fun H locs hP hS => ?_)
  refine lv_dup hx hb dX6_init_504 rfl ?_
  refine lv_bipush (v := 6) hx hb dX6_init_505 (by decide) ?_
  refine lv_bipush (v := 101) hx hb dX6_init_507 (by decide) ?_
  refine kc_iast (i0 := 6) X hP hS (by decide) (by decide) rfl rfl ((hM _ 6 (by decide)).trans rfl) dX6_init_509 (fun H locs hP hS => ?_)
  refine lv_dup hx hb dX6_init_510 rfl ?_
  refine lv_bipush (v := 7) hx hb dX6_init_511 (by decide) ?_
  refine lv_bipush (v := 110) hx hb dX6_init_513 (by decide) ?_
  refine kc_iast (i0 := 7) X hP hS (by decide) (by decide) rfl rfl ((hM _ 7 (by decide)).trans rfl) dX6_init_515 (fun H locs hP hS => ?_)
  refine lv_dup hx hb dX6_init_516 rfl ?_
  refine lv_bipush (v := 8) hx hb dX6_init_517 (by decide) ?_
  refine lv_bipush (v := 32) hx hb dX6_init_519 (by decide) ?_
  refine kc_iast (i0 := 8) X hP hS (by decide) (by decide) rfl rfl ((hM _ 8 (by decide)).trans rfl) dX6_init_521 (fun H locs hP hS => ?_)
  refine lv_dup hx hb dX6_init_522 rfl ?_
  refine lv_bipush (v := 9) hx hb dX6_init_523 (by decide) ?_
  refine lv_bipush (v := 111) hx hb dX6_init_525 (by decide) ?_
  refine kc_iast (i0 := 9) X hP hS (by decide) (by decide) rfl rfl ((hM _ 9 (by decide)).trans rfl) dX6_init_527 (fun H locs hP hS => ?_)
  refine lv_dup hx hb dX6_init_528 rfl ?_
  refine lv_bipush (v := 10) hx hb dX6_init_529 (by decide) ?_
  refine lv_bipush (v := 114) hx hb dX6_init_531 (by decide) ?_
  refine kc_iast (i0 := 10) X hP hS (by decide) (by decide) rfl rfl ((hM _ 10 (by decide)).trans rfl) dX6_init_533 (fun H locs hP hS => ?_)
  refine lv_dup hx hb dX6_init_534 rfl ?_
  refine lv_bipush (v := 11) hx hb dX6_init_535 (by decide) ?_
  refine lv_bipush (v := 32) hx hb dX6_init_537 (by decide) ?_
  refine kc_iast (i0 := 11) X hP hS (by decide) (by decide) rfl rfl ((hM _ 11 (by decide)).trans rfl) dX6_init_539 (fun H locs hP hS => ?_)
  refine lv_dup hx hb dX6_init_540 rfl ?_
  refine lv_bipush (v := 12) hx hb dX6_init_541 (by decide) ?_
  refine lv_bipush (v := 97) hx hb dX6_init_543 (by decide) ?_
  refine kc_iast (i0 := 12) X hP hS (by decide) (by decide) rfl rfl ((hM _ 12 (by decide)).trans rfl) dX6_init_545 (fun H locs hP hS => ?_)
  refine lv_dup hx hb dX6_init_546 rfl ?_
  refine lv_bipush (v := 13) hx hb dX6_init_547 (by decide) ?_
  refine lv_bipush (v := 110) hx hb dX6_init_549 (by decide) ?_
  refine kc_iast (i0 := 13) X hP hS (by decide) (by decide) rfl rfl ((hM _ 13 (by decide)).trans rfl) dX6_init_551 (fun H locs hP hS => ?_)
  refine lv_dup hx hb dX6_init_552 rfl ?_
  refine lv_bipush (v := 14) hx hb dX6_init_553 (by decide) ?_
  refine lv_bipush (v := 100) hx hb dX6_init_555 (by decide) ?_
  refine kc_iast (i0 := 14) X hP hS (by decide) (by decide) rfl rfl ((hM _ 14 (by decide)).trans rfl) dX6_init_557 (fun H locs hP hS => ?_)
  refine lv_dup hx hb dX6_init_558 rfl ?_
  refine lv_bipush (v := 15) hx hb dX6_init_559 (by decide) ?_
  refine lv_bipush (v := 32) hx hb dX6_init_561 (by decide) ?_
  refine kc_iast (i0 := 15) X hP hS (by decide) (by decide) rfl rfl ((hM _ 15 (by decide)).trans rfl) dX6_init_563 (fun H locs hP hS => ?_)
  refine lv_dup hx hb dX6_init_564 rfl ?_
  refine lv_bipush (v := 16) hx hb dX6_init_565 (by decide) ?_
  refine lv_bipush (v := 110) hx hb dX6_init_567 (by decide) ?_
  refine kc_iast (i0 := 16) X hP hS (by decide) (by decide) rfl rfl ((hM _ 16 (by decide)).trans rfl) dX6_init_569 (fun H locs hP hS => ?_)
  refine lv_dup hx hb dX6_init_570 rfl ?_
  refine lv_bipush (v := 17) hx hb dX6_init_571 (by decide) ?_
  refine lv_bipush (v := 111) hx hb dX6_init_573 (by decide) ?_
  refine kc_iast (i0 := 17) X hP hS (by decide) (by decide) rfl rfl ((hM _ 17 (by decide)).trans rfl) dX6_init_575 (fun H locs hP hS => ?_)
  refine lv_dup hx hb dX6_init_576 rfl ?_
  refine lv_bipush (v := 18) hx hb dX6_init_577 (by decide) ?_
  refine lv_bipush (v := 116) hx hb dX6_init_579 (by decide) ?_
  refine kc_iast (i0 := 18) X hP hS (by decide) (by decide) rfl rfl ((hM _ 18 (by decide)).trans rfl) dX6_init_581 (fun H locs hP hS => ?_)
  refine lv_dup hx hb dX6_init_582 rfl ?_
  refine lv_bipush (v := 19) hx hb dX6_init_583 (by decide) ?_
  refine lv_bipush (v := 32) hx hb dX6_init_585 (by decide) ?_
  refine kc_iast (i0 := 19) X hP hS (by decide) (by decide) rfl rfl ((hM _ 19 (by decide)).trans rfl) dX6_init_587 (fun H locs hP hS => ?_)
  refine lv_dup hx hb dX6_init_588 rfl ?_
  refine lv_bipush (v := 20) hx hb dX6_init_589 (by decide) ?_
  refine lv_bipush (v := 119) hx hb dX6_init_591 (by decide) ?_
  refine kc_iast (i0 := 20) X hP hS (by decide) (by decide) rfl rfl ((hM _ 20 (by decide)).trans rfl) dX6_init_593 (fun H locs hP hS => ?_)
  refine lv_dup hx hb dX6_init_594 rfl ?_
  refine lv_bipush (v := 21) hx hb dX6_init_595 (by decide) ?_
  refine lv_bipush (v := 105) hx hb dX6_init_597 (by decide) ?_
  refine kc_iast (i0 := 21) X hP hS (by decide) (by decide) rfl rfl ((hM _ 21 (by decide)).trans rfl) dX6_init_599 (fun H locs hP hS => ?_)
  refine lv_dup hx hb dX6_init_600 rfl ?_
  refine lv_bipush (v := 22) hx hb dX6_init_601 (by decide) ?_
  refine lv_bipush (v := 100) hx hb dX6_init_603 (by decide) ?_
  refine kc_iast (i0 := 22) X hP hS (by decide) (by decide) rfl rfl ((hM _ 22 (by decide)).trans rfl) dX6_init_605 (fun H locs hP hS => ?_)
  refine lv_dup hx hb dX6_init_606 rfl ?_
  refine lv_bipush (v := 23) hx hb dX6_init_607 (by decide) ?_
  refine lv_bipush (v := 101) hx hb dX6_init_609 (by decide) ?_
  refine kc_iast (i0 := 23) X hP hS (by decide) (by decide) rfl rfl ((hM _ 23 (by decide)).trans rfl) dX6_init_611 (fun H locs hP hS => ?_)
  refine lv_dup hx hb dX6_init_612 rfl ?_
  refine lv_bipush (v := 24) hx hb dX6_init_613 (by decide) ?_
  refine lv_bipush (v := 32) hx hb dX6_init_615 (by decide) ?_
  refine kc_iast (i0 := 24) X hP hS (by decide) (by decide) rfl rfl ((hM _ 24 (by decide)).trans rfl) dX6_init_617 (fun H locs hP hS => ?_)
  refine lv_dup hx hb dX6_init_618 rfl ?_
  refine lv_bipush (v := 25) hx hb dX6_init_619 (by decide) ?_
  refine lv_bipush (v := 108) hx hb dX6_init_621 (by decide) ?_
  refine kc_iast (i0 := 25) X hP hS (by decide) (by decide) rfl rfl ((hM _ 25 (by decide)).trans rfl) dX6_init_623 (fun H locs hP hS => ?_)
  refine lv_dup hx hb dX6_init_624 rfl ?_
  refine lv_bipush (v := 26) hx hb dX6_init_625 (by decide) ?_
  refine lv_bipush (v := 119) hx hb dX6_init_627 (by decide) ?_
  refine kc_iast (i0 := 26) X hP hS (by decide) (by decide) rfl rfl ((hM _ 26 (by decide)).trans rfl) dX6_init_629 (fun H locs hP hS => ?_)
  refine lv_dup hx hb dX6_init_630 rfl ?_
  refine lv_bipush (v := 27) hx hb dX6_init_631 (by decide) ?_
  refine lv_bipush (v := 105) hx hb dX6_init_633 (by decide) ?_
  refine kc_iast (i0 := 27) X hP hS (by decide) (by decide) rfl rfl ((hM _ 27 (by decide)).trans rfl) dX6_init_635 (fun H locs hP hS => ?_)
  refine lv_dup hx hb dX6_init_636 rfl ?_
  refine lv_bipush (v := 28) hx hb dX6_init_637 (by decide) ?_
  refine lv_bipush (v := 100) hx hb dX6_init_639 (by decide) ?_
  refine kc_iast (i0 := 28) X hP hS (by decide) (by decide) rfl rfl ((hM _ 28 (by decide)).trans rfl) dX6_init_641 (fun H locs hP hS => ?_)
  refine lv_dup hx hb dX6_init_642 rfl ?_
  refine lv_bipush (v := 29) hx hb dX6_init_643 (by decide) ?_
  refine lv_bipush (v := 101) hx hb dX6_init_645 (by decide) ?_
  refine kc_iast (i0 := 29) X hP hS (by decide) (by decide) rfl rfl ((hM _ 29 (by decide)).trans rfl) dX6_init_647 (fun H locs hP hS => ?_)
  refine lv_dup hx hb dX6_init_648 rfl ?_
  refine lv_bipush (v := 30) hx hb dX6_init_649 (by decide) ?_
  refine lv_bipush (v := 32) hx hb dX6_init_651 (by decide) ?_
  refine kc_iast (i0 := 30) X hP hS (by decide) (by decide) rfl rfl ((hM _ 30 (by decide)).trans rfl) dX6_init_653 (fun H locs hP hS => ?_)
  refine lv_dup hx hb dX6_init_654 rfl ?_
  refine lv_bipush (v := 31) hx hb dX6_init_655 (by decide) ?_
  refine lv_bipush (v := 114) hx hb dX6_init_657 (by decide) ?_
  refine kc_iast (i0 := 31) X hP hS (by decide) (by decide) rfl rfl ((hM _ 31 (by decide)).trans rfl) dX6_init_659 (fun H locs hP hS => ?_)
  refine lv_dup hx hb dX6_init_660 rfl ?_
  refine lv_bipush (v := 32) hx hb dX6_init_661 (by decide) ?_
  refine lv_bipush (v := 119) hx hb dX6_init_663 (by decide) ?_
  refine kc_iast (i0 := 32) X hP hS (by decide) (by decide) rfl rfl ((hM _ 32 (by decide)).trans rfl) dX6_init_665 (fun H locs hP hS => ?_)
  refine lv_dup hx hb dX6_init_666 rfl ?_
  refine lv_bipush (v := 33) hx hb dX6_init_667 (by decide) ?_
  refine lv_bipush (v := 105) hx hb dX6_init_669 (by decide) ?_
  refine kc_iast (i0 := 33) X hP hS (by decide) (by decide) rfl rfl ((hM _ 33 (by decide)).trans rfl) dX6_init_671 (fun H locs hP hS => ?_)
  refine lv_dup hx hb dX6_init_672 rfl ?_
  refine lv_bipush (v := 34) hx hb dX6_init_673 (by decide) ?_
  refine lv_bipush (v := 100) hx hb dX6_init_675 (by decide) ?_
  refine kc_iast (i0 := 34) X hP hS (by decide) (by decide) rfl rfl ((hM _ 34 (by decide)).trans rfl) dX6_init_677 (fun H locs hP hS => ?_)
  refine lv_dup hx hb dX6_init_678 rfl ?_
  refine lv_bipush (v := 35) hx hb dX6_init_679 (by decide) ?_
  refine lv_bipush (v := 101) hx hb dX6_init_681 (by decide) ?_
  refine kc_iast (i0 := 35) X hP hS (by decide) (by decide) rfl rfl ((hM _ 35 (by decide)).trans rfl) dX6_init_683 (fun H locs hP hS => ?_)
  refine lv_dup hx hb dX6_init_684 rfl ?_
  refine lv_bipush (v := 36) hx hb dX6_init_685 (by decide) ?_
  refine lv_bipush (v := 32) hx hb dX6_init_687 (by decide) ?_
  refine kc_iast (i0 := 36) X hP hS (by decide) (by decide) rfl rfl ((hM _ 36 (by decide)).trans rfl) dX6_init_689 (fun H locs hP hS => ?_)
  refine lv_dup hx hb dX6_init_690 rfl ?_
  refine lv_bipush (v := 37) hx hb dX6_init_691 (by decide) ?_
  refine lv_bipush (v := 103) hx hb dX6_init_693 (by decide) ?_
  refine kc_iast (i0 := 37) X hP hS (by decide) (by decide) rfl rfl ((hM _ 37 (by decide)).trans rfl) dX6_init_695 (fun H locs hP hS => ?_)
  refine lv_dup hx hb dX6_init_696 rfl ?_
  refine lv_bipush (v := 38) hx hb dX6_init_697 (by decide) ?_
  refine lv_bipush (v := 97) hx hb dX6_init_699 (by decide) ?_
  refine kc_iast (i0 := 38) X hP hS (by decide) (by decide) rfl rfl ((hM _ 38 (by decide)).trans rfl) dX6_init_701 (fun H locs hP hS => ?_)
  refine lv_dup hx hb dX6_init_702 rfl ?_
  refine lv_bipush (v := 39) hx hb dX6_init_703 (by decide) ?_
  refine lv_bipush (v := 105) hx hb dX6_init_705 (by decide) ?_
  refine kc_iast (i0 := 39) X hP hS (by decide) (by decide) rfl rfl ((hM _ 39 (by decide)).trans rfl) dX6_init_707 (fun H locs hP hS => ?_)
  refine lv_dup hx hb dX6_init_708 rfl ?_
  refine lv_bipush (v := 40) hx hb dX6_init_709 (by decide) ?_
  refine lv_bipush (v := 110) hx hb dX6_init_711 (by decide) ?_
  refine kc_iast (i0 := 40) X hP hS (by decide) (by decide) rfl rfl ((hM _ 40 (by decide)).trans rfl) dX6_init_713 (fun H locs hP hS => ?_)
  refine lv_dup hx hb dX6_init_714 rfl ?_
  refine lv_bipush (v := 41) hx hb dX6_init_715 (by decide) ?_
  refine lv_bipush (v := 32) hx hb dX6_init_717 (by decide) ?_
  refine kc_iast (i0 := 41) X hP hS (by decide) (by decide) rfl rfl ((hM _ 41 (by decide)).trans rfl) dX6_init_719 (fun H locs hP hS => ?_)
  refine lv_dup hx hb dX6_init_720 rfl ?_
  refine lv_bipush (v := 42) hx hb dX6_init_721 (by decide) ?_
  refine lv_bipush (v := 108) hx hb dX6_init_723 (by decide) ?_
  refine kc_iast (i0 := 42) X hP hS (by decide) (by decide) rfl rfl ((hM _ 42 (by decide)).trans rfl) dX6_init_725 (fun H locs hP hS => ?_)
  refine lv_dup hx hb dX6_init_726 rfl ?_
  refine lv_bipush (v := 43) hx hb dX6_init_727 (by decide) ?_
  refine lv_bipush (v := 111) hx hb dX6_init_729 (by decide) ?_
  refine kc_iast (i0 := 43) X hP hS (by decide) (by decide) rfl rfl ((hM _ 43 (by decide)).trans rfl) dX6_init_731 (fun H locs hP hS => ?_)
  refine lv_dup hx hb dX6_init_732 rfl ?_
  refine lv_bipush (v := 44) hx hb dX6_init_733 (by decide) ?_
  refine lv_bipush (v := 115) hx hb dX6_init_735 (by decide) ?_
  refine kc_iast (i0 := 44) X hP hS (by decide) (by decide) rfl rfl ((hM _ 44 (by decide)).trans rfl) dX6_init_737 (fun H locs hP hS => ?_)
  refine lv_dup hx hb dX6_init_738 rfl ?_
  refine lv_bipush (v := 45) hx hb dX6_init_739 (by decide) ?_
  refine lv_bipush (v := 115) hx hb dX6_init_741 (by decide) ?_
  refine kc_iast (i0 := 45) X hP hS (by decide) (by decide) rfl rfl ((hM _ 45 (by decide)).trans rfl) dX6_init_743 (fun H locs hP hS => ?_)
  refine lv_dup hx hb dX6_init_744 rfl ?_
  refine lv_bipush (v := 46) hx hb dX6_init_745 (by decide) ?_
  refine lv_bipush (v := 32) hx hb dX6_init_747 (by decide) ?_
  refine kc_iast (i0 := 46) X hP hS (by decide) (by decide) rfl rfl ((hM _ 46 (by decide)).trans rfl) dX6_init_749 (fun H locs hP hS => ?_)
  refine lv_dup hx hb dX6_init_750 rfl ?_
  refine lv_bipush (v := 47) hx hb dX6_init_751 (by decide) ?_
  refine lv_bipush (v := 110) hx hb dX6_init_753 (by decide) ?_
  refine kc_iast (i0 := 47) X hP hS (by decide) (by decide) rfl rfl ((hM _ 47 (by decide)).trans rfl) dX6_init_755 (fun H locs hP hS => ?_)
  refine lv_dup hx hb dX6_init_756 rfl ?_
  refine lv_bipush (v := 48) hx hb dX6_init_757 (by decide) ?_
  refine lv_bipush (v := 105) hx hb dX6_init_759 (by decide) ?_
  refine kc_iast (i0 := 48) X hP hS (by decide) (by decide) rfl rfl ((hM _ 48 (by decide)).trans rfl) dX6_init_761 (fun H locs hP hS => ?_)
  refine lv_dup hx hb dX6_init_762 rfl ?_
  refine lv_bipush (v := 49) hx hb dX6_init_763 (by decide) ?_
  refine lv_bipush (v := 103) hx hb dX6_init_765 (by decide) ?_
  refine kc_iast (i0 := 49) X hP hS (by decide) (by decide) rfl rfl ((hM _ 49 (by decide)).trans rfl) dX6_init_767 (fun H locs hP hS => ?_)
  refine lv_dup hx hb dX6_init_768 rfl ?_
  refine lv_bipush (v := 50) hx hb dX6_init_769 (by decide) ?_
  refine lv_bipush (v := 104) hx hb dX6_init_771 (by decide) ?_
  refine kc_iast (i0 := 50) X hP hS (by decide) (by decide) rfl rfl ((hM _ 50 (by decide)).trans rfl) dX6_init_773 (fun H locs hP hS => ?_)
  refine lv_dup hx hb dX6_init_774 rfl ?_
  refine lv_bipush (v := 51) hx hb dX6_init_775 (by decide) ?_
  refine lv_bipush (v := 116) hx hb dX6_init_777 (by decide) ?_
  refine kc_iast (i0 := 51) X hP hS (by decide) (by decide) rfl rfl ((hM _ 51 (by decide)).trans rfl) dX6_init_779 (fun H locs hP hS => ?_)
  refine lv_dup hx hb dX6_init_780 rfl ?_
  refine lv_bipush (v := 52) hx hb dX6_init_781 (by decide) ?_
  refine lv_bipush (v := 32) hx hb dX6_init_783 (by decide) ?_
  refine kc_iast (i0 := 52) X hP hS (by decide) (by decide) rfl rfl ((hM _ 52 (by decide)).trans rfl) dX6_init_785 (fun H locs hP hS => ?_)
  refine lv_dup hx hb dX6_init_786 rfl ?_
  refine lv_bipush (v := 53) hx hb dX6_init_787 (by decide) ?_
  refine lv_bipush (v := 104) hx hb dX6_init_789 (by decide) ?_
  refine kc_iast (i0 := 53) X hP hS (by decide) (by decide) rfl rfl ((hM _ 53 (by decide)).trans rfl) dX6_init_791 (fun H locs hP hS => ?_)
  refine lv_dup hx hb dX6_init_792 rfl ?_
  refine lv_bipush (v := 54) hx hb dX6_init_793 (by decide) ?_
  refine lv_bipush (v := 105) hx hb dX6_init_795 (by decide) ?_
  refine kc_iast (i0 := 54) X hP hS (by decide) (by decide) rfl rfl ((hM _ 54 (by decide)).trans rfl) dX6_init_797 (fun H locs hP hS => ?_)
  refine lv_dup hx hb dX6_init_798 rfl ?_
  refine lv_bipush (v := 55) hx hb dX6_init_799 (by decide) ?_
  refine lv_bipush (v := 116) hx hb dX6_init_801 (by decide) ?_
  refine kc_iast (i0 := 55) X hP hS (by decide) (by decide) rfl rfl ((hM _ 55 (by decide)).trans rfl) dX6_init_803 (fun H locs hP hS => ?_)
  refine lv_dup hx hb dX6_init_804 rfl ?_
  refine lv_bipush (v := 56) hx hb dX6_init_805 (by decide) ?_
  refine lv_bipush (v := 32) hx hb dX6_init_807 (by decide) ?_
  refine kc_iast (i0 := 56) X hP hS (by decide) (by decide) rfl rfl ((hM _ 56 (by decide)).trans rfl) dX6_init_809 (fun H locs hP hS => ?_)
  refine lv_dup hx hb dX6_init_810 rfl ?_
  refine lv_bipush (v := 57) hx hb dX6_init_811 (by decide) ?_
  refine lv_bipush (v := 100) hx hb dX6_init_813 (by decide) ?_
  refine kc_iast (i0 := 57) X hP hS (by decide) (by decide) rfl rfl ((hM _ 57 (by decide)).trans rfl) dX6_init_815 (fun H locs hP hS => ?_)
  refine lv_dup hx hb dX6_init_816 rfl ?_
  refine lv_bipush (v := 58) hx hb dX6_init_817 (by decide) ?_
  refine lv_bipush (v := 111) hx hb dX6_init_819 (by decide) ?_
  refine kc_iast (i0 := 58) X hP hS (by decide) (by decide) rfl rfl ((hM _ 58 (by decide)).trans rfl) dX6_init_821 (fun H locs hP hS => ?_)
  refine lv_dup hx hb dX6_init_822 rfl ?_
  refine lv_bipush (v := 59) hx hb dX6_init_823 (by decide) ?_
  refine lv_bipush (v := 103) hx hb dX6_init_825 (by decide) ?_
  refine kc_iast (i0 := 59) X hP hS (by decide) (by decide) rfl rfl ((hM _ 59 (by decide)).trans rfl) dX6_init_827 (fun H locs hP hS => ?_)
  refine lv_dup hx hb dX6_init_828 rfl ?_
  refine lv_bipush (v := 60) hx hb dX6_init_829 (by decide) ?_
  refine lv_bipush (v := 32) hx hb dX6_init_831 (by decide) ?_
  refine kc_iast (i0 := 60) X hP hS (by decide) (by decide) rfl rfl ((hM _ 60 (by decide)).trans rfl) dX6_init_833 (fun H locs hP hS => ?_)
  refine lv_dup hx hb dX6_init_834 rfl ?_
  refine lv_bipush (v := 61) hx hb dX6_init_835 (by decide) ?_
  refine lv_bipush (v := 108) hx hb dX6_init_837 (by decide) ?_
  refine kc_iast (i0 := 61) X hP hS (by decide) (by decide) rfl rfl ((hM _ 61 (by decide)).trans rfl) dX6_init_839 (fun H locs hP hS => ?_)
  refine lv_dup hx hb dX6_init_840 rfl ?_
  refine lv_bipush (v := 62) hx hb dX6_init_841 (by decide) ?_
  refine lv_bipush (v := 100) hx hb dX6_init_843 (by decide) ?_
  refine kc_iast (i0 := 62) X hP hS (by decide) (by decide) rfl rfl ((hM _ 62 (by decide)).trans rfl) dX6_init_845 (fun H locs hP hS => ?_)
  refine lv_dup hx hb dX6_init_846 rfl ?_
  refine lv_bipush (v := 63) hx hb dX6_init_847 (by decide) ?_
  refine lv_bipush (v := 111) hx hb dX6_init_849 (by decide) ?_
  refine kc_iast (i0 := 63) X hP hS (by decide) (by decide) rfl rfl ((hM _ 63 (by decide)).trans rfl) dX6_init_851 (fun H locs hP hS => ?_)
  refine lv_dup hx hb dX6_init_852 rfl ?_
  refine lv_bipush (v := 64) hx hb dX6_init_853 (by decide) ?_
  refine lv_bipush (v := 103) hx hb dX6_init_855 (by decide) ?_
  refine kc_iast (i0 := 64) X hP hS (by decide) (by decide) rfl rfl ((hM _ 64 (by decide)).trans rfl) dX6_init_857 (fun H locs hP hS => ?_)
  refine lv_dup hx hb dX6_init_858 rfl ?_
  refine lv_bipush (v := 65) hx hb dX6_init_859 (by decide) ?_
  refine lv_bipush (v := 32) hx hb dX6_init_861 (by decide) ?_
  refine kc_iast (i0 := 65) X hP hS (by decide) (by decide) rfl rfl ((hM _ 65 (by decide)).trans rfl) dX6_init_863 (fun H locs hP hS => ?_)
  refine lv_dup hx hb dX6_init_864 rfl ?_
  refine lv_bipush (v := 66) hx hb dX6_init_865 (by decide) ?_
  refine lv_bipush (v := 114) hx hb dX6_init_867 (by decide) ?_
  refine kc_iast (i0 := 66) X hP hS (by decide) (by decide) rfl rfl ((hM _ 66 (by decide)).trans rfl) dX6_init_869 (fun H locs hP hS => ?_)
  refine lv_dup hx hb dX6_init_870 rfl ?_
  refine lv_bipush (v := 67) hx hb dX6_init_871 (by decide) ?_
  refine lv_bipush (v := 100) hx hb dX6_init_873 (by decide) ?_
  refine kc_iast (i0 := 67) X hP hS (by decide) (by decide) rfl rfl ((hM _ 67 (by decide)).trans rfl) dX6_init_875 (fun H locs hP hS => ?_)
  refine lv_dup hx hb dX6_init_876 rfl ?_
  refine lv_bipush (v := 68) hx hb dX6_init_877 (by decide) ?_
  refine lv_bipush (v := 111) hx hb dX6_init_879 (by decide) ?_
  refine kc_iast (i0 := 68) X hP hS (by decide) (by decide) rfl rfl ((hM _ 68 (by decide)).trans rfl) dX6_init_881 (fun H locs hP hS => ?_)
  refine lv_dup hx hb dX6_init_882 rfl ?_
  refine lv_bipush (v := 69) hx hb dX6_init_883 (by decide) ?_
  refine lv_bipush (v := 103) hx hb dX6_init_885 (by decide) ?_
  refine kc_iast (i0 := 69) X hP hS (by decide) (by decide) rfl rfl ((hM _ 69 (by decide)).trans rfl) dX6_init_887 (fun H locs hP hS => ?_)
  refine lv_dup hx hb dX6_init_888 rfl ?_
  refine lv_bipush (v := 70) hx hb dX6_init_889 (by decide) ?_
  refine lv_bipush (v := 32) hx hb dX6_init_891 (by decide) ?_
  refine kc_iast (i0 := 70) X hP hS (by decide) (by decide) rfl rfl ((hM _ 70 (by decide)).trans rfl) dX6_init_893 (fun H locs hP hS => ?_)
  refine lv_dup hx hb dX6_init_894 rfl ?_
  refine lv_bipush (v := 71) hx hb dX6_init_895 (by decide) ?_
  refine lv_bipush (v := 108) hx hb dX6_init_897 (by decide) ?_
  refine kc_iast (i0 := 71) X hP hS (by decide) (by decide) rfl rfl ((hM _ 71 (by decide)).trans rfl) dX6_init_899 (fun H locs hP hS => ?_)
  refine lv_dup hx hb dX6_init_900 rfl ?_
  refine lv_bipush (v := 72) hx hb dX6_init_901 (by decide) ?_
  refine lv_bipush (v := 107) hx hb dX6_init_903 (by decide) ?_
  refine kc_iast (i0 := 72) X hP hS (by decide) (by decide) rfl rfl ((hM _ 72 (by decide)).trans rfl) dX6_init_905 (fun H locs hP hS => ?_)
  refine lv_dup hx hb dX6_init_906 rfl ?_
  refine lv_bipush (v := 73) hx hb dX6_init_907 (by decide) ?_
  refine lv_bipush (v := 105) hx hb dX6_init_909 (by decide) ?_
  refine kc_iast (i0 := 73) X hP hS (by decide) (by decide) rfl rfl ((hM _ 73 (by decide)).trans rfl) dX6_init_911 (fun H locs hP hS => ?_)
  refine lv_dup hx hb dX6_init_912 rfl ?_
  refine lv_bipush (v := 74) hx hb dX6_init_913 (by decide) ?_
  refine lv_bipush (v := 110) hx hb dX6_init_915 (by decide) ?_
  refine kc_iast (i0 := 74) X hP hS (by decide) (by decide) rfl rfl ((hM _ 74 (by decide)).trans rfl) dX6_init_917 (fun H locs hP hS => ?_)
  refine lv_dup hx hb dX6_init_918 rfl ?_
  refine lv_bipush (v := 75) hx hb dX6_init_919 (by decide) ?_
  refine lv_bipush (v := 32) hx hb dX6_init_921 (by decide) ?_
  refine kc_iast (i0 := 75) X hP hS (by decide) (by decide) rfl rfl ((hM _ 75 (by decide)).trans rfl) dX6_init_923 (fun H locs hP hS => ?_)
  refine lv_dup hx hb dX6_init_924 rfl ?_
  refine lv_bipush (v := 76) hx hb dX6_init_925 (by decide) ?_
  refine lv_bipush (v := 114) hx hb dX6_init_927 (by decide) ?_
  refine kc_iast (i0 := 76) X hP hS (by decide) (by decide) rfl rfl ((hM _ 76 (by decide)).trans rfl) dX6_init_929 (fun H locs hP hS => ?_)
  refine lv_dup hx hb dX6_init_930 rfl ?_
  refine lv_bipush (v := 77) hx hb dX6_init_931 (by decide) ?_
  refine lv_bipush (v := 107) hx hb dX6_init_933 (by decide) ?_
  refine kc_iast (i0 := 77) X hP hS (by decide) (by decide) rfl rfl ((hM _ 77 (by decide)).trans rfl) dX6_init_935 (fun H locs hP hS => ?_)
  refine lv_dup hx hb dX6_init_936 rfl ?_
  refine lv_bipush (v := 78) hx hb dX6_init_937 (by decide) ?_
  refine lv_bipush (v := 105) hx hb dX6_init_939 (by decide) ?_
  refine kc_iast (i0 := 78) X hP hS (by decide) (by decide) rfl rfl ((hM _ 78 (by decide)).trans rfl) dX6_init_941 (fun H locs hP hS => ?_)
  refine lv_dup hx hb dX6_init_942 rfl ?_
  refine lv_bipush (v := 79) hx hb dX6_init_943 (by decide) ?_
  refine lv_bipush (v := 110) hx hb dX6_init_945 (by decide) ?_
  refine kc_iast (i0 := 79) X hP hS (by decide) (by decide) rfl rfl ((hM _ 79 (by decide)).trans rfl) dX6_init_947 (fun H locs hP hS => ?_)
  refine lv_dup hx hb dX6_init_948 rfl ?_
  refine lv_bipush (v := 80) hx hb dX6_init_949 (by decide) ?_
  refine lv_bipush (v := 32) hx hb dX6_init_951 (by decide) ?_
  refine kc_iast (i0 := 80) X hP hS (by decide) (by decide) rfl rfl ((hM _ 80 (by decide)).trans rfl) dX6_init_953 (fun H locs hP hS => ?_)
  refine lv_dup hx hb dX6_init_954 rfl ?_
  refine lv_bipush (v := 81) hx hb dX6_init_955 (by decide) ?_
  refine lv_bipush (v := 108) hx hb dX6_init_957 (by decide) ?_
  refine kc_iast (i0 := 81) X hP hS (by decide) (by decide) rfl rfl ((hM _ 81 (by decide)).trans rfl) dX6_init_959 (fun H locs hP hS => ?_)
  refine lv_dup hx hb dX6_init_960 rfl ?_
  refine lv_bipush (v := 82) hx hb dX6_init_961 (by decide) ?_
  refine lv_bipush (v := 119) hx hb dX6_init_963 (by decide) ?_
  refine kc_iast (i0 := 82) X hP hS (by decide) (by decide) rfl rfl ((hM _ 82 (by decide)).trans rfl) dX6_init_965 (fun H locs hP hS => ?_)
  refine lv_dup hx hb dX6_init_966 rfl ?_
  refine lv_bipush (v := 83) hx hb dX6_init_967 (by decide) ?_
  refine lv_bipush (v := 97) hx hb dX6_init_969 (by decide) ?_
  refine kc_iast (i0 := 83) X hP hS (by decide) (by decide) rfl rfl ((hM _ 83 (by decide)).trans rfl) dX6_init_971 (fun H locs hP hS => ?_)
  refine lv_dup hx hb dX6_init_972 rfl ?_
  refine lv_bipush (v := 84) hx hb dX6_init_973 (by decide) ?_
  refine lv_bipush (v := 108) hx hb dX6_init_975 (by decide) ?_
  refine kc_iast (i0 := 84) X hP hS (by decide) (by decide) rfl rfl ((hM _ 84 (by decide)).trans rfl) dX6_init_977 (fun H locs hP hS => ?_)
  refine lv_dup hx hb dX6_init_978 rfl ?_
  refine lv_bipush (v := 85) hx hb dX6_init_979 (by decide) ?_
  refine lv_bipush (v := 108) hx hb dX6_init_981 (by decide) ?_
  refine kc_iast (i0 := 85) X hP hS (by decide) (by decide) rfl rfl ((hM _ 85 (by decide)).trans rfl) dX6_init_983 (fun H locs hP hS => ?_)
  refine lv_dup hx hb dX6_init_984 rfl ?_
  refine lv_bipush (v := 86) hx hb dX6_init_985 (by decide) ?_
  refine lv_bipush (v := 32) hx hb dX6_init_987 (by decide) ?_
  refine kc_iast (i0 := 86) X hP hS (by decide) (by decide) rfl rfl ((hM _ 86 (by decide)).trans rfl) dX6_init_989 (fun H locs hP hS => ?_)
  refine lv_dup hx hb dX6_init_990 rfl ?_
  refine lv_bipush (v := 87) hx hb dX6_init_991 (by decide) ?_
  refine lv_bipush (v := 114) hx hb dX6_init_993 (by decide) ?_
  refine kc_iast (i0 := 87) X hP hS (by decide) (by decide) rfl rfl ((hM _ 87 (by decide)).trans rfl) dX6_init_995 (fun H locs hP hS => ?_)
  refine lv_dup hx hb dX6_init_996 rfl ?_
  refine lv_bipush (v := 88) hx hb dX6_init_997 (by decide) ?_
  refine lv_bipush (v := 119) hx hb dX6_init_999 (by decide) ?_
  refine kc_iast (i0 := 88) X hP hS (by decide) (by decide) rfl rfl ((hM _ 88 (by decide)).trans rfl) dX6_init_1001 (fun H locs hP hS => ?_)
  refine lv_dup hx hb dX6_init_1002 rfl ?_
  refine lv_bipush (v := 89) hx hb dX6_init_1003 (by decide) ?_
  refine lv_bipush (v := 97) hx hb dX6_init_1005 (by decide) ?_
  refine kc_iast (i0 := 89) X hP hS (by decide) (by decide) rfl rfl ((hM _ 89 (by decide)).trans rfl) dX6_init_1007 (fun H locs hP hS => ?_)
  refine lv_dup hx hb dX6_init_1008 rfl ?_
  refine lv_bipush (v := 90) hx hb dX6_init_1009 (by decide) ?_
  refine lv_bipush (v := 108) hx hb dX6_init_1011 (by decide) ?_
  refine kc_iast (i0 := 90) X hP hS (by decide) (by decide) rfl rfl ((hM _ 90 (by decide)).trans rfl) dX6_init_1013 (fun H locs hP hS => ?_)
  refine lv_dup hx hb dX6_init_1014 rfl ?_
  refine lv_bipush (v := 91) hx hb dX6_init_1015 (by decide) ?_
  refine lv_bipush (v := 108) hx hb dX6_init_1017 (by decide) ?_
  refine kc_iast (i0 := 91) X hP hS (by decide) (by decide) rfl rfl ((hM _ 91 (by decide)).trans rfl) dX6_init_1019 (fun H locs hP hS => ?_)
  refine lv_dup hx hb dX6_init_1020 rfl ?_
  refine lv_bipush (v := 92) hx hb dX6_init_1021 (by decide) ?_
  refine lv_bipush (v := 32) hx hb dX6_init_1023 (by decide) ?_
  refine kc_iast (i0 := 92) X hP hS (by decide) (by decide) rfl rfl ((hM _ 92 (by decide)).trans rfl) dX6_init_1025 (fun H locs hP hS => ?_)
  refine lv_dup hx hb dX6_init_1026 rfl ?_
  refine lv_bipush (v := 93) hx hb dX6_init_1027 (by decide) ?_
  refine lv_bipush (v := 112) hx hb dX6_init_1029 (by decide) ?_
  refine kc_iast (i0 := 93) X hP hS (by decide) (by decide) rfl rfl ((hM _ 93 (by decide)).trans rfl) dX6_init_1031 (fun H locs hP hS => ?_)
  refine lv_dup hx hb dX6_init_1032 rfl ?_
  refine lv_bipush (v := 94) hx hb dX6_init_1033 (by decide) ?_
  refine lv_bipush (v := 117) hx hb dX6_init_1035 (by decide) ?_
  refine kc_iast (i0 := 94) X hP hS (by decide) (by decide) rfl rfl ((hM _ 94 (by decide)).trans rfl) dX6_init_1037 (fun H locs hP hS => ?_)
  refine lv_dup hx hb dX6_init_1038 rfl ?_
  refine lv_bipush (v := 95) hx hb dX6_init_1039 (by decide) ?_
  refine lv_bipush (v := 114) hx hb dX6_init_1041 (by decide) ?_
  refine kc_iast (i0 := 95) X hP hS (by decide) (by decide) rfl rfl ((hM _ 95 (by decide)).trans rfl) dX6_init_1043 (fun H locs hP hS => ?_)
  refine lv_dup hx hb dX6_init_1044 rfl ?_
  refine lv_bipush (v := 96) hx hb dX6_init_1045 (by decide) ?_
  refine lv_bipush (v := 115) hx hb dX6_init_1047 (by decide) ?_
  refine kc_iast (i0 := 96) X hP hS (by decide) (by decide) rfl rfl ((hM _ 96 (by decide)).trans rfl) dX6_init_1049 (fun H locs hP hS => ?_)
  refine lv_dup hx hb dX6_init_1050 rfl ?_
  refine lv_bipush (v := 97) hx hb dX6_init_1051 (by decide) ?_
  refine lv_bipush (v := 101) hx hb dX6_init_1053 (by decide) ?_
  refine kc_iast (i0 := 97) X hP hS (by decide) (by decide) rfl rfl ((hM _ 97 (by decide)).trans rfl) dX6_init_1055 (fun H locs hP hS => ?_)
  refine lv_dup hx hb dX6_init_1056 rfl ?_
  refine lv_bipush (v := 98) hx hb dX6_init_1057 (by decide) ?_
  refine lv_bipush (v := 32) hx hb dX6_init_1059 (by decide) ?_
  refine kc_iast (i0 := 98) X hP hS (by decide) (by decide) rfl rfl ((hM _ 98 (by decide)).trans rfl) dX6_init_1061 (fun H locs hP hS => ?_)
  have hP := kc_full (n' := 99) (e1 := eN) hP (by decide) rfl (fun i hi => (hM _ i (by decide)).trans (bM_end (n := 99) (by decide) hi))
  have hP := kc_skip hP (show Value.int (rd M 148 20) = Value.int 0 from congrArg Value.int ((hM _ _ (by decide)).trans rfl))
  have hP := kc_skip hP (show Value.int (rd M 148 21) = Value.int 0 from congrArg Value.int ((hM _ _ (by decide)).trans rfl))
  have hP := kc_skip hP (show Value.int (rd M 148 22) = Value.int 0 from congrArg Value.int ((hM _ _ (by decide)).trans rfl))
  have hP := kc_skip hP (show Value.int (rd M 148 23) = Value.int 0 from congrArg Value.int ((hM _ _ (by decide)).trans rfl))
  have hP := kc_skip hP (show Value.int (rd M 148 24) = Value.int 0 from congrArg Value.int ((hM _ _ (by decide)).trans rfl))
  refine kc_put X (ci := 6) (C := RX6) (T := TX6) (N := 55) (j := 25) hP hS (by decide) rfl uX6_init_X6 tyX6_ok nmX6 (by decide) (by decide) mbX6_init_21 hname rfl (fv_ref (hG.at (i := 164) (by decide) (by decide)) rfl) rfl rfl dX6_init_1062 (fun H locs hP hS => ?_)
  exact kk _ _ _ hP hS hl
set_option maxHeartbeats 4000000 in
set_option maxRecDepth 100000 in
theorem iX6_1 (X : CxG g p s m args c cX6_init 1 RX6 wsX6_init) (hname : meth.name = "<init>") (hG : GG g) {M : Mem} (hM : ∀ k j, 111 ≤ k → rd M k j = bM k j) (hMl : ∀ k j, 111 ≤ k → rdl M k j = 0) {f : Nat → va_E} (hW0 : NwG s) (hz0 : s.heap.size = gb g + 149) (kk : ∀ (H : Heap) (locs : List Loc) (ls : Array Slot), va_P (gD g) vwCl (cwl (gb g) (kW g M 148 f (.inr (6, stF g M 148 fl_model 18)) 148 eN) 162) H → va_S (AbG g) s.heap H locs → lv_has ls 1 [(0, .ref (gb g + 148))] → W p l e rmX6_init s m args below meth c H locs 13 130 Q (F0 m 401 ls [])) : ∀ (H : Heap) (locs : List Loc) (ls : Array Slot), va_P (gD g) vwCl (cwl (gb g) (kW g M 148 f (.inr (6, stF g M 148 fl_model 11)) 148 eN) 155) H → va_S (AbG g) s.heap H locs → lv_has ls 1 [(0, .ref (gb g + 148))] → W p l e rmX6_init s m args below meth c H locs 6 60 Q (F0 m 213 ls []) := by
  intro H locs ls hP hS hl
  obtain ⟨⟨hx, hb, hml, hown, hts⟩, -, -⟩ := id X
  refine lv_aload_n hx hb dX6_init_213 rfl (lv_at hl 0 rfl) ?_
  refine lv_bipush (v := 10) hx hb dX6_init_214 (by decide) ?_
  refine kc_newa (atype := .int) (ty := .int) (t := 0) (N := 10) X hP hS (by omega) (by decide) (by decide) rfl rfl (fun _ => rfl) (enc_z rfl (fun i => (hM _ i (by decide)).trans (bM_nil rfl)) (fun i => hMl _ i (by decide))) (by decide) rfl (by decide) mbX6_init_5 (Nat.le_of_ble_eq_true rfl) (Nat.le_of_ble_eq_true rfl) dX6_init_216 (fun H hP hS => ?_)
  refine kc_put X (ci := 6) (C := RX6) (T := TX6) (N := 55) (j := 11) hP hS (by decide) rfl uX6_init_X6 tyX6_ok nmX6 (by decide) (by decide) mbX6_init_12 hname rfl (fv_ref (hG.at (i := 155) (by decide) (by decide)) rfl) rfl rfl dX6_init_218 (fun H locs hP hS => ?_)
  refine lv_aload_n hx hb dX6_init_221 rfl (lv_at hl 0 rfl) ?_
  refine lv_bipush (v := 10) hx hb dX6_init_222 (by decide) ?_
  refine kc_newS (N := 10) X hP hS (by omega) (by decide) (by decide) rfl (by decide) mbX6_init_5 (Nat.le_of_ble_eq_true rfl) (Nat.le_of_ble_eq_true rfl) dX6_init_224 (fun H hP hS => ?_)
  refine lv_dup hx hb dX6_init_226 rfl ?_
  refine lv_iconst (v := 0) hx hb dX6_init_227 (by decide) ?_
  refine lv_iconst (v := (-1)) hx hb dX6_init_228 (by decide) ?_
  refine kc_iast (i0 := 0) X hP hS (by decide) (by decide) rfl rfl ((hM _ 0 (by decide)).trans rfl) dX6_init_229 (fun H locs hP hS => ?_)
  refine lv_dup hx hb dX6_init_230 rfl ?_
  refine lv_iconst (v := 1) hx hb dX6_init_231 (by decide) ?_
  refine lv_iconst (v := (-1)) hx hb dX6_init_232 (by decide) ?_
  refine kc_iast (i0 := 1) X hP hS (by decide) (by decide) rfl rfl ((hM _ 1 (by decide)).trans rfl) dX6_init_233 (fun H locs hP hS => ?_)
  refine lv_dup hx hb dX6_init_234 rfl ?_
  refine lv_iconst (v := 2) hx hb dX6_init_235 (by decide) ?_
  refine lv_iconst (v := (-1)) hx hb dX6_init_236 (by decide) ?_
  refine kc_iast (i0 := 2) X hP hS (by decide) (by decide) rfl rfl ((hM _ 2 (by decide)).trans rfl) dX6_init_237 (fun H locs hP hS => ?_)
  refine lv_dup hx hb dX6_init_238 rfl ?_
  refine lv_iconst (v := 3) hx hb dX6_init_239 (by decide) ?_
  refine lv_iconst (v := (-1)) hx hb dX6_init_240 (by decide) ?_
  refine kc_iast (i0 := 3) X hP hS (by decide) (by decide) rfl rfl ((hM _ 3 (by decide)).trans rfl) dX6_init_241 (fun H locs hP hS => ?_)
  refine lv_dup hx hb dX6_init_242 rfl ?_
  refine lv_iconst (v := 4) hx hb dX6_init_243 (by decide) ?_
  refine lv_iconst (v := (-1)) hx hb dX6_init_244 (by decide) ?_
  refine kc_iast (i0 := 4) X hP hS (by decide) (by decide) rfl rfl ((hM _ 4 (by decide)).trans rfl) dX6_init_245 (fun H locs hP hS => ?_)
  refine lv_dup hx hb dX6_init_246 rfl ?_
  refine lv_iconst (v := 5) hx hb dX6_init_247 (by decide) ?_
  refine lv_iconst (v := (-1)) hx hb dX6_init_248 (by decide) ?_
  refine kc_iast (i0 := 5) X hP hS (by decide) (by decide) rfl rfl ((hM _ 5 (by decide)).trans rfl) dX6_init_249 (fun H locs hP hS => ?_)
  refine lv_dup hx hb dX6_init_250 rfl ?_
  refine lv_bipush (v := 6) hx hb dX6_init_251 (by decide) ?_
  refine lv_iconst (v := (-1)) hx hb dX6_init_253 (by decide) ?_
  refine kc_iast (i0 := 6) X hP hS (by decide) (by decide) rfl rfl ((hM _ 6 (by decide)).trans rfl) dX6_init_254 (fun H locs hP hS => ?_)
  refine lv_dup hx hb dX6_init_255 rfl ?_
  refine lv_bipush (v := 7) hx hb dX6_init_256 (by decide) ?_
  refine lv_iconst (v := (-1)) hx hb dX6_init_258 (by decide) ?_
  refine kc_iast (i0 := 7) X hP hS (by decide) (by decide) rfl rfl ((hM _ 7 (by decide)).trans rfl) dX6_init_259 (fun H locs hP hS => ?_)
  refine lv_dup hx hb dX6_init_260 rfl ?_
  refine lv_bipush (v := 8) hx hb dX6_init_261 (by decide) ?_
  refine lv_iconst (v := (-1)) hx hb dX6_init_263 (by decide) ?_
  refine kc_iast (i0 := 8) X hP hS (by decide) (by decide) rfl rfl ((hM _ 8 (by decide)).trans rfl) dX6_init_264 (fun H locs hP hS => ?_)
  refine lv_dup hx hb dX6_init_265 rfl ?_
  refine lv_bipush (v := 9) hx hb dX6_init_266 (by decide) ?_
  refine lv_iconst (v := (-1)) hx hb dX6_init_268 (by decide) ?_
  refine kc_iast (i0 := 9) X hP hS (by decide) (by decide) rfl rfl ((hM _ 9 (by decide)).trans rfl) dX6_init_269 (fun H locs hP hS => ?_)
  have hP := kc_full (n' := 10) (e1 := eN) hP (by decide) rfl (fun i hi => (hM _ i (by decide)).trans (bM_end (n := 10) (by decide) hi))
  refine kc_put X (ci := 6) (C := RX6) (T := TX6) (N := 55) (j := 12) hP hS (by decide) rfl uX6_init_X6 tyX6_ok nmX6 (by decide) (by decide) mbX6_init_13 hname rfl (fv_ref (hG.at (i := 156) (by decide) (by decide)) rfl) rfl rfl dX6_init_270 (fun H locs hP hS => ?_)
  refine lv_aload_n hx hb dX6_init_273 rfl (lv_at hl 0 rfl) ?_
  refine lv_bipush (v := 10) hx hb dX6_init_274 (by decide) ?_
  refine kc_newa (atype := .int) (ty := .int) (t := 0) (N := 10) X hP hS (by omega) (by decide) (by decide) rfl rfl (fun _ => rfl) (enc_z rfl (fun i => (hM _ i (by decide)).trans (bM_nil rfl)) (fun i => hMl _ i (by decide))) (by decide) rfl (by decide) mbX6_init_5 (Nat.le_of_ble_eq_true rfl) (Nat.le_of_ble_eq_true rfl) dX6_init_276 (fun H hP hS => ?_)
  refine kc_put X (ci := 6) (C := RX6) (T := TX6) (N := 55) (j := 13) hP hS (by decide) rfl uX6_init_X6 tyX6_ok nmX6 (by decide) (by decide) mbX6_init_14 hname rfl (fv_ref (hG.at (i := 157) (by decide) (by decide)) rfl) rfl rfl dX6_init_278 (fun H locs hP hS => ?_)
  refine lv_aload_n hx hb dX6_init_281 rfl (lv_at hl 0 rfl) ?_
  refine lv_bipush (v := 10) hx hb dX6_init_282 (by decide) ?_
  refine kc_newa (atype := .int) (ty := .int) (t := 0) (N := 10) X hP hS (by omega) (by decide) (by decide) rfl rfl (fun _ => rfl) (enc_z rfl (fun i => (hM _ i (by decide)).trans (bM_nil rfl)) (fun i => hMl _ i (by decide))) (by decide) rfl (by decide) mbX6_init_5 (Nat.le_of_ble_eq_true rfl) (Nat.le_of_ble_eq_true rfl) dX6_init_284 (fun H hP hS => ?_)
  refine kc_put X (ci := 6) (C := RX6) (T := TX6) (N := 55) (j := 14) hP hS (by decide) rfl uX6_init_X6 tyX6_ok nmX6 (by decide) (by decide) mbX6_init_15 hname rfl (fv_ref (hG.at (i := 158) (by decide) (by decide)) rfl) rfl rfl dX6_init_286 (fun H locs hP hS => ?_)
  refine lv_aload_n hx hb dX6_init_289 rfl (lv_at hl 0 rfl) ?_
  refine lv_bipush (v := 10) hx hb dX6_init_290 (by decide) ?_
  refine kc_newa (atype := .int) (ty := .int) (t := 0) (N := 10) X hP hS (by omega) (by decide) (by decide) rfl rfl (fun _ => rfl) (enc_z rfl (fun i => (hM _ i (by decide)).trans (bM_nil rfl)) (fun i => hMl _ i (by decide))) (by decide) rfl (by decide) mbX6_init_5 (Nat.le_of_ble_eq_true rfl) (Nat.le_of_ble_eq_true rfl) dX6_init_292 (fun H hP hS => ?_)
  refine kc_put X (ci := 6) (C := RX6) (T := TX6) (N := 55) (j := 15) hP hS (by decide) rfl uX6_init_X6 tyX6_ok nmX6 (by decide) (by decide) mbX6_init_16 hname rfl (fv_ref (hG.at (i := 159) (by decide) (by decide)) rfl) rfl rfl dX6_init_294 (fun H locs hP hS => ?_)
  refine lv_aload_n hx hb dX6_init_297 rfl (lv_at hl 0 rfl) ?_
  refine lv_bipush (v := 10) hx hb dX6_init_298 (by decide) ?_
  refine kc_newS (N := 10) X hP hS (by omega) (by decide) (by decide) rfl (by decide) mbX6_init_5 (Nat.le_of_ble_eq_true rfl) (Nat.le_of_ble_eq_true rfl) dX6_init_300 (fun H hP hS => ?_)
  refine lv_dup hx hb dX6_init_302 rfl ?_
  refine lv_iconst (v := 0) hx hb dX6_init_303 (by decide) ?_
  refine lv_iconst (v := (-1)) hx hb dX6_init_304 (by decide) ?_
  refine kc_iast (i0 := 0) X hP hS (by decide) (by decide) rfl rfl ((hM _ 0 (by decide)).trans rfl) dX6_init_305 (fun H locs hP hS => ?_)
  refine lv_dup hx hb dX6_init_306 rfl ?_
  refine lv_iconst (v := 1) hx hb dX6_init_307 (by decide) ?_
  refine lv_iconst (v := (-1)) hx hb dX6_init_308 (by decide) ?_
  refine kc_iast (i0 := 1) X hP hS (by decide) (by decide) rfl rfl ((hM _ 1 (by decide)).trans rfl) dX6_init_309 (fun H locs hP hS => ?_)
  refine lv_dup hx hb dX6_init_310 rfl ?_
  refine lv_iconst (v := 2) hx hb dX6_init_311 (by decide) ?_
  refine lv_iconst (v := (-1)) hx hb dX6_init_312 (by decide) ?_
  refine kc_iast (i0 := 2) X hP hS (by decide) (by decide) rfl rfl ((hM _ 2 (by decide)).trans rfl) dX6_init_313 (fun H locs hP hS => ?_)
  refine lv_dup hx hb dX6_init_314 rfl ?_
  refine lv_iconst (v := 3) hx hb dX6_init_315 (by decide) ?_
  refine lv_iconst (v := (-1)) hx hb dX6_init_316 (by decide) ?_
  refine kc_iast (i0 := 3) X hP hS (by decide) (by decide) rfl rfl ((hM _ 3 (by decide)).trans rfl) dX6_init_317 (fun H locs hP hS => ?_)
  refine lv_dup hx hb dX6_init_318 rfl ?_
  refine lv_iconst (v := 4) hx hb dX6_init_319 (by decide) ?_
  refine lv_iconst (v := (-1)) hx hb dX6_init_320 (by decide) ?_
  refine kc_iast (i0 := 4) X hP hS (by decide) (by decide) rfl rfl ((hM _ 4 (by decide)).trans rfl) dX6_init_321 (fun H locs hP hS => ?_)
  refine lv_dup hx hb dX6_init_322 rfl ?_
  refine lv_iconst (v := 5) hx hb dX6_init_323 (by decide) ?_
  refine lv_iconst (v := (-1)) hx hb dX6_init_324 (by decide) ?_
  refine kc_iast (i0 := 5) X hP hS (by decide) (by decide) rfl rfl ((hM _ 5 (by decide)).trans rfl) dX6_init_325 (fun H locs hP hS => ?_)
  refine lv_dup hx hb dX6_init_326 rfl ?_
  refine lv_bipush (v := 6) hx hb dX6_init_327 (by decide) ?_
  refine lv_iconst (v := (-1)) hx hb dX6_init_329 (by decide) ?_
  refine kc_iast (i0 := 6) X hP hS (by decide) (by decide) rfl rfl ((hM _ 6 (by decide)).trans rfl) dX6_init_330 (fun H locs hP hS => ?_)
  refine lv_dup hx hb dX6_init_331 rfl ?_
  refine lv_bipush (v := 7) hx hb dX6_init_332 (by decide) ?_
  refine lv_iconst (v := (-1)) hx hb dX6_init_334 (by decide) ?_
  refine kc_iast (i0 := 7) X hP hS (by decide) (by decide) rfl rfl ((hM _ 7 (by decide)).trans rfl) dX6_init_335 (fun H locs hP hS => ?_)
  refine lv_dup hx hb dX6_init_336 rfl ?_
  refine lv_bipush (v := 8) hx hb dX6_init_337 (by decide) ?_
  refine lv_iconst (v := (-1)) hx hb dX6_init_339 (by decide) ?_
  refine kc_iast (i0 := 8) X hP hS (by decide) (by decide) rfl rfl ((hM _ 8 (by decide)).trans rfl) dX6_init_340 (fun H locs hP hS => ?_)
  refine lv_dup hx hb dX6_init_341 rfl ?_
  refine lv_bipush (v := 9) hx hb dX6_init_342 (by decide) ?_
  refine lv_iconst (v := (-1)) hx hb dX6_init_344 (by decide) ?_
  refine kc_iast (i0 := 9) X hP hS (by decide) (by decide) rfl rfl ((hM _ 9 (by decide)).trans rfl) dX6_init_345 (fun H locs hP hS => ?_)
  have hP := kc_full (n' := 10) (e1 := eN) hP (by decide) rfl (fun i hi => (hM _ i (by decide)).trans (bM_end (n := 10) (by decide) hi))
  refine kc_put X (ci := 6) (C := RX6) (T := TX6) (N := 55) (j := 16) hP hS (by decide) rfl uX6_init_X6 tyX6_ok nmX6 (by decide) (by decide) mbX6_init_17 hname rfl (fv_ref (hG.at (i := 160) (by decide) (by decide)) rfl) rfl rfl dX6_init_346 (fun H locs hP hS => ?_)
  refine lv_aload_n hx hb dX6_init_349 rfl (lv_at hl 0 rfl) ?_
  refine lv_bipush (v := 10) hx hb dX6_init_350 (by decide) ?_
  refine kc_newS (N := 10) X hP hS (by omega) (by decide) (by decide) rfl (by decide) mbX6_init_5 (Nat.le_of_ble_eq_true rfl) (Nat.le_of_ble_eq_true rfl) dX6_init_352 (fun H hP hS => ?_)
  refine lv_dup hx hb dX6_init_354 rfl ?_
  refine lv_iconst (v := 0) hx hb dX6_init_355 (by decide) ?_
  refine lv_iconst (v := (-1)) hx hb dX6_init_356 (by decide) ?_
  refine kc_iast (i0 := 0) X hP hS (by decide) (by decide) rfl rfl ((hM _ 0 (by decide)).trans rfl) dX6_init_357 (fun H locs hP hS => ?_)
  refine lv_dup hx hb dX6_init_358 rfl ?_
  refine lv_iconst (v := 1) hx hb dX6_init_359 (by decide) ?_
  refine lv_iconst (v := (-1)) hx hb dX6_init_360 (by decide) ?_
  refine kc_iast (i0 := 1) X hP hS (by decide) (by decide) rfl rfl ((hM _ 1 (by decide)).trans rfl) dX6_init_361 (fun H locs hP hS => ?_)
  refine lv_dup hx hb dX6_init_362 rfl ?_
  refine lv_iconst (v := 2) hx hb dX6_init_363 (by decide) ?_
  refine lv_iconst (v := (-1)) hx hb dX6_init_364 (by decide) ?_
  refine kc_iast (i0 := 2) X hP hS (by decide) (by decide) rfl rfl ((hM _ 2 (by decide)).trans rfl) dX6_init_365 (fun H locs hP hS => ?_)
  refine lv_dup hx hb dX6_init_366 rfl ?_
  refine lv_iconst (v := 3) hx hb dX6_init_367 (by decide) ?_
  refine lv_iconst (v := (-1)) hx hb dX6_init_368 (by decide) ?_
  refine kc_iast (i0 := 3) X hP hS (by decide) (by decide) rfl rfl ((hM _ 3 (by decide)).trans rfl) dX6_init_369 (fun H locs hP hS => ?_)
  refine lv_dup hx hb dX6_init_370 rfl ?_
  refine lv_iconst (v := 4) hx hb dX6_init_371 (by decide) ?_
  refine lv_iconst (v := (-1)) hx hb dX6_init_372 (by decide) ?_
  refine kc_iast (i0 := 4) X hP hS (by decide) (by decide) rfl rfl ((hM _ 4 (by decide)).trans rfl) dX6_init_373 (fun H locs hP hS => ?_)
  refine lv_dup hx hb dX6_init_374 rfl ?_
  refine lv_iconst (v := 5) hx hb dX6_init_375 (by decide) ?_
  refine lv_iconst (v := (-1)) hx hb dX6_init_376 (by decide) ?_
  refine kc_iast (i0 := 5) X hP hS (by decide) (by decide) rfl rfl ((hM _ 5 (by decide)).trans rfl) dX6_init_377 (fun H locs hP hS => ?_)
  refine lv_dup hx hb dX6_init_378 rfl ?_
  refine lv_bipush (v := 6) hx hb dX6_init_379 (by decide) ?_
  refine lv_iconst (v := (-1)) hx hb dX6_init_381 (by decide) ?_
  refine kc_iast (i0 := 6) X hP hS (by decide) (by decide) rfl rfl ((hM _ 6 (by decide)).trans rfl) dX6_init_382 (fun H locs hP hS => ?_)
  refine lv_dup hx hb dX6_init_383 rfl ?_
  refine lv_bipush (v := 7) hx hb dX6_init_384 (by decide) ?_
  refine lv_iconst (v := (-1)) hx hb dX6_init_386 (by decide) ?_
  refine kc_iast (i0 := 7) X hP hS (by decide) (by decide) rfl rfl ((hM _ 7 (by decide)).trans rfl) dX6_init_387 (fun H locs hP hS => ?_)
  refine lv_dup hx hb dX6_init_388 rfl ?_
  refine lv_bipush (v := 8) hx hb dX6_init_389 (by decide) ?_
  refine lv_iconst (v := (-1)) hx hb dX6_init_391 (by decide) ?_
  refine kc_iast (i0 := 8) X hP hS (by decide) (by decide) rfl rfl ((hM _ 8 (by decide)).trans rfl) dX6_init_392 (fun H locs hP hS => ?_)
  refine lv_dup hx hb dX6_init_393 rfl ?_
  refine lv_bipush (v := 9) hx hb dX6_init_394 (by decide) ?_
  refine lv_iconst (v := (-1)) hx hb dX6_init_396 (by decide) ?_
  refine kc_iast (i0 := 9) X hP hS (by decide) (by decide) rfl rfl ((hM _ 9 (by decide)).trans rfl) dX6_init_397 (fun H locs hP hS => ?_)
  have hP := kc_full (n' := 10) (e1 := eN) hP (by decide) rfl (fun i hi => (hM _ i (by decide)).trans (bM_end (n := 10) (by decide) hi))
  refine kc_put X (ci := 6) (C := RX6) (T := TX6) (N := 55) (j := 17) hP hS (by decide) rfl uX6_init_X6 tyX6_ok nmX6 (by decide) (by decide) mbX6_init_18 hname rfl (fv_ref (hG.at (i := 161) (by decide) (by decide)) rfl) rfl rfl dX6_init_398 (fun H locs hP hS => ?_)
  exact kk _ _ _ hP hS hl
end SX6
set_option maxHeartbeats 4000000 in
set_option maxRecDepth 100000 in
theorem c_X6_init (l : Launch) {g : GT} (hG : GG g) {M : Mem} (hM : ∀ k j, 111 ≤ k → rd M k j = bM k j) (hMl : ∀ k j, 111 ≤ k → rdl M k j = 0) {f : Nat → va_E} (hf : f 148 = .inr (6, stF g M 148 fl_model 0)) : CN l yX6_init wsX6_init rmX6_init g [.ref (gb g + 148)] f 149 (fun i => if i < 148 then f i else encG g M (pmk i)) 183 34 9292 := by
  refine Met.ofW (cc := cX6_init) (maxL := 1) (ret := none) (by decide) rfl ?_
  intro p e s m args below meth c s₁ B hml hv
  obtain ⟨rfl, hSx, hW0, hsz, hP⟩ := hv
  have hr := B.returns
  have hlocks := B.notSynchronized
  have hname : meth.name = "<init>" := (name_of_methodNamed B.named B.method).1
  have X : CxG g p s m _ c cX6_init 1 RX6 wsX6_init := ⟨⟨B.exec, B.bytes, hml, findClass_of_methodNamed B.named, atoms_spec (ws := wsX6_init) B.pre⟩, hSx, hG.ax⟩
  have hS : va_S (AbG g) s.heap s.heap [] := va_S.rf
  have hl := lv_entry (([.ref (gb g + 148)] : List Value)) (n := 1) (Nat.le_of_ble_eq_true rfl)
  rw [lg_entry_eq]
  generalize (lg_sl (([.ref (gb g + 148)] : List Value)) ++ List.replicate (1 - (lg_sl (([.ref (gb g + 148)] : List Value))).length) Slot.unset).toArray = ls at hl ⊢
  have hl : lv_has ls 1 [(0, .ref (gb g + 148))] := hl
  obtain ⟨⟨hx, hb, hml, hown, hts⟩, -, -⟩ := id X
  have hP : va_P (gD g) vwCl (cwl (gb g) (kW g M 148 f (.inr (6, stF g M 148 fl_model 0)) 148 eN) 149) s.heap := cwl_re hP (fun i hi => kW_0 hi hf)
  refine lv_aload_n hx hb dX6_init_0 rfl (lv_at hl 0 rfl) ?_
  refine W.objInit hx hb hown (hts _ mbX6_init_1) (hts _ mbX6_init_2) (hts _ mbX6_init_3) rfl (by rw [hml]; exact hl.1) rfl dX6_init_1 (Nat.le_of_ble_eq_true rfl) (Nat.le_of_ble_eq_true rfl) ?_
  refine W.eq (g2 := F0 m 4 ls []) rfl ?_
  refine lv_aload_n hx hb dX6_init_4 rfl (lv_at hl 0 rfl) ?_
  refine lv_iconst (v := 4) hx hb dX6_init_5 (by decide) ?_
  have hP := kc_skip hP (show Value.int (rd M 148 0) = Value.int 0 from congrArg Value.int ((hM _ _ (by decide)).trans rfl))
  have hP := kc_skip hP (show Value.int (rd M 148 1) = Value.int 0 from congrArg Value.int ((hM _ _ (by decide)).trans rfl))
  refine kc_put X (ci := 6) (C := RX6) (T := TX6) (N := 55) (j := 2) hP hS (by decide) rfl uX6_init_X6 tyX6_ok nmX6 (by decide) (by decide) mbX6_init_4 hname rfl (fv_int ((hM 148 2 (by decide)).trans rfl) rfl) rfl rfl dX6_init_6 (fun H locs hP hS => ?_)
  refine lv_aload_n hx hb dX6_init_9 rfl (lv_at hl 0 rfl) ?_
  refine lv_bipush (v := 10) hx hb dX6_init_10 (by decide) ?_
  refine kc_newS (N := 10) X hP hS (by omega) (by decide) (by decide) rfl (by decide) mbX6_init_5 (Nat.le_of_ble_eq_true rfl) (Nat.le_of_ble_eq_true rfl) dX6_init_12 (fun H hP hS => ?_)
  refine lv_dup hx hb dX6_init_14 rfl ?_
  refine lv_iconst (v := 0) hx hb dX6_init_15 (by decide) ?_
  refine lv_bipush (v := 10) hx hb dX6_init_16 (by decide) ?_
  refine kc_iast (i0 := 0) X hP hS (by decide) (by decide) rfl rfl ((hM _ 0 (by decide)).trans rfl) dX6_init_18 (fun H locs hP hS => ?_)
  refine lv_dup hx hb dX6_init_19 rfl ?_
  refine lv_iconst (v := 1) hx hb dX6_init_20 (by decide) ?_
  refine lv_bipush (v := 10) hx hb dX6_init_21 (by decide) ?_
  refine kc_iast (i0 := 1) X hP hS (by decide) (by decide) rfl rfl ((hM _ 1 (by decide)).trans rfl) dX6_init_23 (fun H locs hP hS => ?_)
  refine lv_dup hx hb dX6_init_24 rfl ?_
  refine lv_iconst (v := 2) hx hb dX6_init_25 (by decide) ?_
  refine lv_bipush (v := 10) hx hb dX6_init_26 (by decide) ?_
  refine kc_iast (i0 := 2) X hP hS (by decide) (by decide) rfl rfl ((hM _ 2 (by decide)).trans rfl) dX6_init_28 (fun H locs hP hS => ?_)
  refine lv_dup hx hb dX6_init_29 rfl ?_
  refine lv_iconst (v := 3) hx hb dX6_init_30 (by decide) ?_
  refine lv_bipush (v := 10) hx hb dX6_init_31 (by decide) ?_
  refine kc_iast (i0 := 3) X hP hS (by decide) (by decide) rfl rfl ((hM _ 3 (by decide)).trans rfl) dX6_init_33 (fun H locs hP hS => ?_)
  refine lv_dup hx hb dX6_init_34 rfl ?_
  refine lv_iconst (v := 4) hx hb dX6_init_35 (by decide) ?_
  refine lv_bipush (v := 10) hx hb dX6_init_36 (by decide) ?_
  refine kc_iast (i0 := 4) X hP hS (by decide) (by decide) rfl rfl ((hM _ 4 (by decide)).trans rfl) dX6_init_38 (fun H locs hP hS => ?_)
  refine lv_dup hx hb dX6_init_39 rfl ?_
  refine lv_iconst (v := 5) hx hb dX6_init_40 (by decide) ?_
  refine lv_bipush (v := 10) hx hb dX6_init_41 (by decide) ?_
  refine kc_iast (i0 := 5) X hP hS (by decide) (by decide) rfl rfl ((hM _ 5 (by decide)).trans rfl) dX6_init_43 (fun H locs hP hS => ?_)
  refine lv_dup hx hb dX6_init_44 rfl ?_
  refine lv_bipush (v := 6) hx hb dX6_init_45 (by decide) ?_
  refine lv_bipush (v := 10) hx hb dX6_init_47 (by decide) ?_
  refine kc_iast (i0 := 6) X hP hS (by decide) (by decide) rfl rfl ((hM _ 6 (by decide)).trans rfl) dX6_init_49 (fun H locs hP hS => ?_)
  refine lv_dup hx hb dX6_init_50 rfl ?_
  refine lv_bipush (v := 7) hx hb dX6_init_51 (by decide) ?_
  refine lv_bipush (v := 10) hx hb dX6_init_53 (by decide) ?_
  refine kc_iast (i0 := 7) X hP hS (by decide) (by decide) rfl rfl ((hM _ 7 (by decide)).trans rfl) dX6_init_55 (fun H locs hP hS => ?_)
  refine lv_dup hx hb dX6_init_56 rfl ?_
  refine lv_bipush (v := 8) hx hb dX6_init_57 (by decide) ?_
  refine lv_bipush (v := 10) hx hb dX6_init_59 (by decide) ?_
  refine kc_iast (i0 := 8) X hP hS (by decide) (by decide) rfl rfl ((hM _ 8 (by decide)).trans rfl) dX6_init_61 (fun H locs hP hS => ?_)
  refine lv_dup hx hb dX6_init_62 rfl ?_
  refine lv_bipush (v := 9) hx hb dX6_init_63 (by decide) ?_
  refine lv_bipush (v := 10) hx hb dX6_init_65 (by decide) ?_
  refine kc_iast (i0 := 9) X hP hS (by decide) (by decide) rfl rfl ((hM _ 9 (by decide)).trans rfl) dX6_init_67 (fun H locs hP hS => ?_)
  have hP := kc_full (n' := 10) (e1 := eN) hP (by decide) rfl (fun i hi => (hM _ i (by decide)).trans (bM_end (n := 10) (by decide) hi))
  have hP := kc_skip hP (show Value.int (rd M 148 3) = Value.int 0 from congrArg Value.int ((hM _ _ (by decide)).trans rfl))
  have hP := kc_skip hP (show Value.int (rd M 148 4) = Value.int 0 from congrArg Value.int ((hM _ _ (by decide)).trans rfl))
  refine kc_put X (ci := 6) (C := RX6) (T := TX6) (N := 55) (j := 5) hP hS (by decide) rfl uX6_init_X6 tyX6_ok nmX6 (by decide) (by decide) mbX6_init_6 hname rfl (fv_ref (hG.at (i := 149) (by decide) (by decide)) rfl) rfl rfl dX6_init_68 (fun H locs hP hS => ?_)
  refine lv_aload_n hx hb dX6_init_71 rfl (lv_at hl 0 rfl) ?_
  refine lv_bipush (v := 10) hx hb dX6_init_72 (by decide) ?_
  refine kc_newa (atype := .int) (ty := .int) (t := 0) (N := 10) X hP hS (by omega) (by decide) (by decide) rfl rfl (fun _ => rfl) (enc_z rfl (fun i => (hM _ i (by decide)).trans (bM_nil rfl)) (fun i => hMl _ i (by decide))) (by decide) rfl (by decide) mbX6_init_5 (Nat.le_of_ble_eq_true rfl) (Nat.le_of_ble_eq_true rfl) dX6_init_74 (fun H hP hS => ?_)
  refine kc_put X (ci := 6) (C := RX6) (T := TX6) (N := 55) (j := 6) hP hS (by decide) rfl uX6_init_X6 tyX6_ok nmX6 (by decide) (by decide) mbX6_init_7 hname rfl (fv_ref (hG.at (i := 150) (by decide) (by decide)) rfl) rfl rfl dX6_init_76 (fun H locs hP hS => ?_)
  refine lv_aload_n hx hb dX6_init_79 rfl (lv_at hl 0 rfl) ?_
  refine lv_bipush (v := 10) hx hb dX6_init_80 (by decide) ?_
  refine kc_newS (N := 10) X hP hS (by omega) (by decide) (by decide) rfl (by decide) mbX6_init_5 (Nat.le_of_ble_eq_true rfl) (Nat.le_of_ble_eq_true rfl) dX6_init_82 (fun H hP hS => ?_)
  refine lv_dup hx hb dX6_init_84 rfl ?_
  refine lv_iconst (v := 0) hx hb dX6_init_85 (by decide) ?_
  refine lv_iconst (v := 0) hx hb dX6_init_86 (by decide) ?_
  refine kc_iast (i0 := 0) X hP hS (by decide) (by decide) rfl rfl ((hM _ 0 (by decide)).trans rfl) dX6_init_87 (fun H locs hP hS => ?_)
  refine lv_dup hx hb dX6_init_88 rfl ?_
  refine lv_iconst (v := 1) hx hb dX6_init_89 (by decide) ?_
  refine lv_iconst (v := 1) hx hb dX6_init_90 (by decide) ?_
  refine kc_iast (i0 := 1) X hP hS (by decide) (by decide) rfl rfl ((hM _ 1 (by decide)).trans rfl) dX6_init_91 (fun H locs hP hS => ?_)
  refine lv_dup hx hb dX6_init_92 rfl ?_
  refine lv_iconst (v := 2) hx hb dX6_init_93 (by decide) ?_
  refine lv_iconst (v := 2) hx hb dX6_init_94 (by decide) ?_
  refine kc_iast (i0 := 2) X hP hS (by decide) (by decide) rfl rfl ((hM _ 2 (by decide)).trans rfl) dX6_init_95 (fun H locs hP hS => ?_)
  refine lv_dup hx hb dX6_init_96 rfl ?_
  refine lv_iconst (v := 3) hx hb dX6_init_97 (by decide) ?_
  refine lv_iconst (v := 3) hx hb dX6_init_98 (by decide) ?_
  refine kc_iast (i0 := 3) X hP hS (by decide) (by decide) rfl rfl ((hM _ 3 (by decide)).trans rfl) dX6_init_99 (fun H locs hP hS => ?_)
  refine lv_dup hx hb dX6_init_100 rfl ?_
  refine lv_iconst (v := 4) hx hb dX6_init_101 (by decide) ?_
  refine lv_iconst (v := 4) hx hb dX6_init_102 (by decide) ?_
  refine kc_iast (i0 := 4) X hP hS (by decide) (by decide) rfl rfl ((hM _ 4 (by decide)).trans rfl) dX6_init_103 (fun H locs hP hS => ?_)
  refine lv_dup hx hb dX6_init_104 rfl ?_
  refine lv_iconst (v := 5) hx hb dX6_init_105 (by decide) ?_
  refine lv_iconst (v := 5) hx hb dX6_init_106 (by decide) ?_
  refine kc_iast (i0 := 5) X hP hS (by decide) (by decide) rfl rfl ((hM _ 5 (by decide)).trans rfl) dX6_init_107 (fun H locs hP hS => ?_)
  refine lv_dup hx hb dX6_init_108 rfl ?_
  refine lv_bipush (v := 6) hx hb dX6_init_109 (by decide) ?_
  refine lv_bipush (v := 6) hx hb dX6_init_111 (by decide) ?_
  refine kc_iast (i0 := 6) X hP hS (by decide) (by decide) rfl rfl ((hM _ 6 (by decide)).trans rfl) dX6_init_113 (fun H locs hP hS => ?_)
  refine lv_dup hx hb dX6_init_114 rfl ?_
  refine lv_bipush (v := 7) hx hb dX6_init_115 (by decide) ?_
  refine lv_bipush (v := 7) hx hb dX6_init_117 (by decide) ?_
  refine kc_iast (i0 := 7) X hP hS (by decide) (by decide) rfl rfl ((hM _ 7 (by decide)).trans rfl) dX6_init_119 (fun H locs hP hS => ?_)
  refine lv_dup hx hb dX6_init_120 rfl ?_
  refine lv_bipush (v := 8) hx hb dX6_init_121 (by decide) ?_
  refine lv_bipush (v := 8) hx hb dX6_init_123 (by decide) ?_
  refine kc_iast (i0 := 8) X hP hS (by decide) (by decide) rfl rfl ((hM _ 8 (by decide)).trans rfl) dX6_init_125 (fun H locs hP hS => ?_)
  refine lv_dup hx hb dX6_init_126 rfl ?_
  refine lv_bipush (v := 9) hx hb dX6_init_127 (by decide) ?_
  refine lv_bipush (v := 9) hx hb dX6_init_129 (by decide) ?_
  refine kc_iast (i0 := 9) X hP hS (by decide) (by decide) rfl rfl ((hM _ 9 (by decide)).trans rfl) dX6_init_131 (fun H locs hP hS => ?_)
  have hP := kc_full (n' := 10) (e1 := eN) hP (by decide) rfl (fun i hi => (hM _ i (by decide)).trans (bM_end (n := 10) (by decide) hi))
  refine kc_put X (ci := 6) (C := RX6) (T := TX6) (N := 55) (j := 7) hP hS (by decide) rfl uX6_init_X6 tyX6_ok nmX6 (by decide) (by decide) mbX6_init_8 hname rfl (fv_ref (hG.at (i := 151) (by decide) (by decide)) rfl) rfl rfl dX6_init_132 (fun H locs hP hS => ?_)
  refine lv_aload_n hx hb dX6_init_135 rfl (lv_at hl 0 rfl) ?_
  refine lv_bipush (v := 10) hx hb dX6_init_136 (by decide) ?_
  refine kc_newa (atype := .int) (ty := .int) (t := 0) (N := 10) X hP hS (by omega) (by decide) (by decide) rfl rfl (fun _ => rfl) (enc_z rfl (fun i => (hM _ i (by decide)).trans (bM_nil rfl)) (fun i => hMl _ i (by decide))) (by decide) rfl (by decide) mbX6_init_5 (Nat.le_of_ble_eq_true rfl) (Nat.le_of_ble_eq_true rfl) dX6_init_138 (fun H hP hS => ?_)
  refine kc_put X (ci := 6) (C := RX6) (T := TX6) (N := 55) (j := 8) hP hS (by decide) rfl uX6_init_X6 tyX6_ok nmX6 (by decide) (by decide) mbX6_init_9 hname rfl (fv_ref (hG.at (i := 152) (by decide) (by decide)) rfl) rfl rfl dX6_init_140 (fun H locs hP hS => ?_)
  refine lv_aload_n hx hb dX6_init_143 rfl (lv_at hl 0 rfl) ?_
  refine lv_bipush (v := 10) hx hb dX6_init_144 (by decide) ?_
  refine kc_newa (atype := .int) (ty := .int) (t := 0) (N := 10) X hP hS (by omega) (by decide) (by decide) rfl rfl (fun _ => rfl) (enc_z rfl (fun i => (hM _ i (by decide)).trans (bM_nil rfl)) (fun i => hMl _ i (by decide))) (by decide) rfl (by decide) mbX6_init_5 (Nat.le_of_ble_eq_true rfl) (Nat.le_of_ble_eq_true rfl) dX6_init_146 (fun H hP hS => ?_)
  refine kc_put X (ci := 6) (C := RX6) (T := TX6) (N := 55) (j := 9) hP hS (by decide) rfl uX6_init_X6 tyX6_ok nmX6 (by decide) (by decide) mbX6_init_10 hname rfl (fv_ref (hG.at (i := 153) (by decide) (by decide)) rfl) rfl rfl dX6_init_148 (fun H locs hP hS => ?_)
  refine lv_aload_n hx hb dX6_init_151 rfl (lv_at hl 0 rfl) ?_
  refine lv_bipush (v := 10) hx hb dX6_init_152 (by decide) ?_
  refine kc_newS (N := 10) X hP hS (by omega) (by decide) (by decide) rfl (by decide) mbX6_init_5 (Nat.le_of_ble_eq_true rfl) (Nat.le_of_ble_eq_true rfl) dX6_init_154 (fun H hP hS => ?_)
  refine lv_dup hx hb dX6_init_156 rfl ?_
  refine lv_iconst (v := 0) hx hb dX6_init_157 (by decide) ?_
  refine lv_bipush (v := 99) hx hb dX6_init_158 (by decide) ?_
  refine kc_iast (i0 := 0) X hP hS (by decide) (by decide) rfl rfl ((hM _ 0 (by decide)).trans rfl) dX6_init_160 (fun H locs hP hS => ?_)
  refine lv_dup hx hb dX6_init_161 rfl ?_
  refine lv_iconst (v := 1) hx hb dX6_init_162 (by decide) ?_
  refine lv_bipush (v := 99) hx hb dX6_init_163 (by decide) ?_
  refine kc_iast (i0 := 1) X hP hS (by decide) (by decide) rfl rfl ((hM _ 1 (by decide)).trans rfl) dX6_init_165 (fun H locs hP hS => ?_)
  refine lv_dup hx hb dX6_init_166 rfl ?_
  refine lv_iconst (v := 2) hx hb dX6_init_167 (by decide) ?_
  refine lv_bipush (v := 99) hx hb dX6_init_168 (by decide) ?_
  refine kc_iast (i0 := 2) X hP hS (by decide) (by decide) rfl rfl ((hM _ 2 (by decide)).trans rfl) dX6_init_170 (fun H locs hP hS => ?_)
  refine lv_dup hx hb dX6_init_171 rfl ?_
  refine lv_iconst (v := 3) hx hb dX6_init_172 (by decide) ?_
  refine lv_bipush (v := 99) hx hb dX6_init_173 (by decide) ?_
  refine kc_iast (i0 := 3) X hP hS (by decide) (by decide) rfl rfl ((hM _ 3 (by decide)).trans rfl) dX6_init_175 (fun H locs hP hS => ?_)
  refine lv_dup hx hb dX6_init_176 rfl ?_
  refine lv_iconst (v := 4) hx hb dX6_init_177 (by decide) ?_
  refine lv_bipush (v := 99) hx hb dX6_init_178 (by decide) ?_
  refine kc_iast (i0 := 4) X hP hS (by decide) (by decide) rfl rfl ((hM _ 4 (by decide)).trans rfl) dX6_init_180 (fun H locs hP hS => ?_)
  refine lv_dup hx hb dX6_init_181 rfl ?_
  refine lv_iconst (v := 5) hx hb dX6_init_182 (by decide) ?_
  refine lv_bipush (v := 99) hx hb dX6_init_183 (by decide) ?_
  refine kc_iast (i0 := 5) X hP hS (by decide) (by decide) rfl rfl ((hM _ 5 (by decide)).trans rfl) dX6_init_185 (fun H locs hP hS => ?_)
  refine lv_dup hx hb dX6_init_186 rfl ?_
  refine lv_bipush (v := 6) hx hb dX6_init_187 (by decide) ?_
  refine lv_bipush (v := 99) hx hb dX6_init_189 (by decide) ?_
  refine kc_iast (i0 := 6) X hP hS (by decide) (by decide) rfl rfl ((hM _ 6 (by decide)).trans rfl) dX6_init_191 (fun H locs hP hS => ?_)
  refine lv_dup hx hb dX6_init_192 rfl ?_
  refine lv_bipush (v := 7) hx hb dX6_init_193 (by decide) ?_
  refine lv_bipush (v := 99) hx hb dX6_init_195 (by decide) ?_
  refine kc_iast (i0 := 7) X hP hS (by decide) (by decide) rfl rfl ((hM _ 7 (by decide)).trans rfl) dX6_init_197 (fun H locs hP hS => ?_)
  refine lv_dup hx hb dX6_init_198 rfl ?_
  refine lv_bipush (v := 8) hx hb dX6_init_199 (by decide) ?_
  refine lv_bipush (v := 99) hx hb dX6_init_201 (by decide) ?_
  refine kc_iast (i0 := 8) X hP hS (by decide) (by decide) rfl rfl ((hM _ 8 (by decide)).trans rfl) dX6_init_203 (fun H locs hP hS => ?_)
  refine lv_dup hx hb dX6_init_204 rfl ?_
  refine lv_bipush (v := 9) hx hb dX6_init_205 (by decide) ?_
  refine lv_bipush (v := 99) hx hb dX6_init_207 (by decide) ?_
  refine kc_iast (i0 := 9) X hP hS (by decide) (by decide) rfl rfl ((hM _ 9 (by decide)).trans rfl) dX6_init_209 (fun H locs hP hS => ?_)
  have hP := kc_full (n' := 10) (e1 := eN) hP (by decide) rfl (fun i hi => (hM _ i (by decide)).trans (bM_end (n := 10) (by decide) hi))
  refine kc_put X (ci := 6) (C := RX6) (T := TX6) (N := 55) (j := 10) hP hS (by decide) rfl uX6_init_X6 tyX6_ok nmX6 (by decide) (by decide) mbX6_init_11 hname rfl (fv_ref (hG.at (i := 154) (by decide) (by decide)) rfl) rfl rfl dX6_init_210 (fun H locs hP hS => ?_)
  exact iX6_1 X hname hG hM hMl hW0 hsz (iX6_2 X hname hG hM hMl hW0 hsz (iX6_3 X hname hG hM hMl hW0 hsz hr hlocks)) _ _ _ hP hS hl
