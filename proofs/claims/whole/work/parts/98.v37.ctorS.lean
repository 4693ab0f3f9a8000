/-! constructors: written by wip/whole/gen/ctor.py -/
/-- what the constructors leave, but in the rings -/
def bL : Nat → List Int32 := fun k => match k with
  | 111 => [0, 0, 0, 0, -1, 0, 0, 0, 0, 0, 0, 0, 0, 0, 0, 0, 0]
  | 115 => [0, -1, -1, 0, 0, 0, 0, 0, 0, 0, 0, 0]
  | 146 => [0, 0, 0, 0, 0, 0, 0, 0, 0, -1]
  | 148 => [0, 0, 4, 0, 0, 0, 0, 0, 0, 0, 0, 0, 0, 0, 0, 0, 0, 0, 0, 0, 0, 0, 0, 0, 0, 0, 0, 0, 0, 0, 0, 0, 0, 0, 0, 0, 0, 0, 0, -1]
  | 149 => [10, 10, 10, 10, 10, 10, 10, 10, 10, 10]
  | 151 => [0, 1, 2, 3, 4, 5, 6, 7, 8, 9]
  | 154 => [99, 99, 99, 99, 99, 99, 99, 99, 99, 99]
  | 156 => [-1, -1, -1, -1, -1, -1, -1, -1, -1, -1]
  | 160 => [-1, -1, -1, -1, -1, -1, -1, -1, -1, -1]
  | 161 => [-1, -1, -1, -1, -1, -1, -1, -1, -1, -1]
  | 162 => [20, 10, 5, 3, 5, 1, 10, 900, 300, 1]
  | 164 => [32, 100, 111, 32, 119, 104, 101, 110, 32, 111, 114, 32, 97, 110, 100, 32, 110, 111, 116, 32, 119, 105, 100, 101, 32, 108, 119, 105, 100, 101, 32, 114, 119, 105, 100, 101, 32, 103, 97, 105, 110, 32, 108, 111, 115, 115, 32, 110, 105, 103, 104, 116, 32, 104, 105, 116, 32, 100, 111, 103, 32, 108, 100, 111, 103, 32, 114, 100, 111, 103, 32, 108, 107, 105, 110, 32, 114, 107, 105, 110, 32, 108, 119, 97, 108, 108, 32, 114, 119, 97, 108, 108, 32, 112, 117, 114, 115, 101, 32]
  | _ => []
def bM (k j : Nat) : Int32 := (bL k).getD j 0
theorem bM_end {k n j : Nat} (h : (bL k).length ≤ n) (hj : n ≤ j) : bM k j = 0 := by
  unfold bM
  rw [List.getD_eq_getElem?_getD, List.getElem?_eq_none (by omega)]
  rfl
theorem bM_nil {k j : Nat} (h : bL k = []) : bM k j = 0 := bM_end (n := 0) (by rw [h]; exact Nat.le_refl _) (Nat.zero_le _)
def eN : va_E := .inr (0, [])
theorem kW_0 {g : GT} {M : Mem} {b i : Nat} {f : Nat → va_E} {e0 e1 : va_E} (hi : i < b + 1) (hf : f b = e0) : f i = kW g M b f e0 b e1 i := by
  unfold kW
  by_cases h : i < b
  · rw [if_pos h]
  · rw [if_neg h, if_pos (by omega), ← hf, show i = b by omega]
theorem kW_end {g : GT} {D : va_G} {cl : List vw_C} {M : Mem} {b k n ci : Nat} {f : Nat → va_E} {e1 : va_E} {fl : List (Option Nat)} {H : Heap} (hP : va_P D cl (cwl (gb g) (kW g M b f (.inr (ci, stF g M k fl fl.length)) b e1) n) H) (hk : pmk b = k) (hs : shp k = shO ci fl) : va_P D cl (cwl (gb g) (fun i => if i < b then f i else encG g M (pmk i)) n) H :=
  cwl_re hP (fun i hi => by
    unfold kW
    by_cases h : i < b
    · rw [if_pos h, if_pos h]
    · rw [if_neg h, if_neg h]
      by_cases h2 : i = b
      · rw [if_pos h2, h2, hk, enc_obj hs, stF_end]
      · rw [if_neg h2, if_neg h2])
theorem fv_int {g : GT} {M : Mem} {k j : Nat} {fl : List (Option Nat)} {x : Int32} (h : rd M k j = x) (hf : fl.getD j none = none) : Value.int x = fldV g M k j (fl.getD j none) := by
  rw [hf, ← h]
  rfl
theorem fv_ref {g : GT} {M : Mem} {k j t a : Nat} {fl : List (Option Nat)} (h : ga g t = a) (hf : fl.getD j none = some t) : Value.ref a = fldV g M k j (fl.getD j none) := by
  rw [hf, ← h]
  rfl
theorem kc_ret {p : Program} {l : Launch} {e : Env} {R : Room} {s : State} {m : MethodId} {args : Array Value} {below : List Frame} {meth : Method} {c : Code} {H : Heap} {locs : List Loc} {cells slots : Nat} {cc : ByteArray} {pc nL n : Nat} {ls : Array Slot} {g : GT} {own : String} {Ts : List Cond} {f : Nat → va_E} (X : CxG g p s m args c cc nL own Ts) (hP : va_P (gD g) vwCl (cwl (gb g) f n) H) (hS : va_S (AbG g) s.heap H locs) (hr : meth.sig.returnType = none) (hlocks : meth.locks = false) (hdg : decode cc pc = .ok (.return_, 1)) : W p l e R s m args below meth c H locs cells slots (MQ below (va_Qv (fun (_ : Unit) => True) (fun _ t => va_P (gD g) vwCl (cwl (gb g) f n) t.heap) (AbG g)) args s cells slots (AbG g)) (F0 m pc ls []) :=
  W.vret X.1.1 X.1.2.1 hr (fun t ht hW => ⟨⟨(), rfl, trivial, by show va_P (gD g) vwCl (cwl (gb g) f n) t.heap; rw [ht]; exact hP⟩, hS.F ht⟩) hS.2.2 hdg hlocks

/-! X2_init -/
def rmX2_init : Room := { frames := 1, cells := 1, slots := 400, locals := 12 }
theorem uX2_init_X2 : ∀ w ∈ wsX20, w ∈ wsX2_init := by decide +kernel
theorem mbX2_init_1 : Cond.methodLink RX2 3 objectInit ∈ wsX2_init := by decide +kernel
theorem mbX2_init_2 : Cond.instanceMethod objectInit ∈ wsX2_init := by decide +kernel
theorem mbX2_init_3 : Cond.code objectInit ⟨#[0xb1]⟩ 1 none ∈ wsX2_init := by decide +kernel
theorem mbX2_init_4 : Cond.arrayClass .int ∈ wsX2_init := by decide +kernel
theorem mbX2_init_5 : Cond.fieldLink RX2 9 "FootANight$Law" "code" "[I" ∈ wsX2_init := by decide +kernel
theorem mbX2_init_6 : Cond.fieldLink RX2 15 "FootANight$Law" "length" "I" ∈ wsX2_init := by decide +kernel
set_option maxHeartbeats 4000000 in
set_option maxRecDepth 100000 in
theorem c_X2_init (l : Launch) {g : GT} (hA : AxG g) {b L : Nat} (h0 : pmk b = L) (h1 : pmk (b + 1) = L + 4) (hs0 : shp L = shO 2 [some (L + 4), none]) (hs1 : shp (L + 4) = shA 0 400) (ha1 : ga g (L + 4) = gb g + (b + 1)) {M : Mem} (hz : ∀ j, rd M L j = 0) (hz4 : ∀ j, rd M (L + 4) j = 0) (hzl : ∀ j, rdl M (L + 4) j = 0) {f : Nat → va_E} (hf : f b = .inr (2, stF g M L [some (L + 4), none] 0)) : CN l yX2_init wsX2_init rmX2_init g [.ref (gb g + b)] f (b + 1) (fun i => if i < b then f i else encG g M (pmk i)) (b + 2) 1 400 := by
  refine Met.ofW (cc := cX2_init) (maxL := 1) (ret := none) (by decide) rfl ?_
  intro p e s m args below meth c s₁ B hml hv
  obtain ⟨rfl, hSx, hW0, hsz, hP⟩ := hv
  have hr := B.returns
  have hlocks := B.notSynchronized
  have hname : meth.name = "<init>" := (name_of_methodNamed B.named B.method).1
  have X : CxG g p s m _ c cX2_init 1 RX2 wsX2_init := ⟨⟨B.exec, B.bytes, hml, findClass_of_methodNamed B.named, atoms_spec (ws := wsX2_init) B.pre⟩, hSx, hA⟩
  have hS : va_S (AbG g) s.heap s.heap [] := va_S.rf
  have hl := lv_entry (([.ref (gb g + b)] : List Value)) (n := 1) (Nat.le_of_ble_eq_true rfl)
  rw [lg_entry_eq]
  generalize (lg_sl (([.ref (gb g + b)] : List Value)) ++ List.replicate (1 - (lg_sl (([.ref (gb g + b)] : List Value))).length) Slot.unset).toArray = ls at hl ⊢
  have hl : lv_has ls 1 [(0, .ref (gb g + b))] := hl
  obtain ⟨⟨hx, hb, hml, hown, hts⟩, -, -⟩ := id X
  have hP : va_P (gD g) vwCl (cwl (gb g) (kW g M b f (.inr (2, stF g M L [some (L + 4), none] 0)) b eN) (b + 1)) s.heap := cwl_re hP (fun i hi => kW_0 hi hf)
  refine lv_aload_n hx hb dX2_init_0 rfl (lv_at hl 0 rfl) ?_
  refine W.objInit hx hb hown (hts _ mbX2_init_1) (hts _ mbX2_init_2) (hts _ mbX2_init_3) rfl (by rw [hml]; exact hl.1) rfl dX2_init_1 (Nat.le_of_ble_eq_true rfl) (Nat.le_of_ble_eq_true rfl) ?_
  refine W.eq (g2 := F0 m 4 ls []) rfl ?_
  refine lv_aload_n hx hb dX2_init_4 rfl (lv_at hl 0 rfl) ?_
  refine lv_sipush (v := 400) hx hb dX2_init_5 (by decide) ?_
  refine kc_newa (atype := .int) (ty := .int) (t := 0) (N := 400) X hP hS (by omega) (by omega) (by omega) rfl rfl (fun _ => rfl) (enc_z (by rw [h1]; exact hs1) (fun i => by rw [h1]; exact hz4 i) (fun i => by rw [h1]; exact hzl i)) (by decide) rfl (by decide) mbX2_init_4 (Nat.le_of_ble_eq_true rfl) (Nat.le_of_ble_eq_true rfl) dX2_init_8 (fun H hP hS => ?_)
  refine kc_put X (ci := 2) (C := RX2) (T := TX2) (N := 2) (j := 0) hP hS (by omega) rfl uX2_init_X2 tyX2_ok nmX2 (by decide) (show 0 < 2 by decide) mbX2_init_5 hname rfl (fv_ref ha1 rfl) rfl rfl dX2_init_10 (fun H locs hP hS => ?_)
  refine lv_aload_n hx hb dX2_init_13 rfl (lv_at hl 0 rfl) ?_
  refine lv_iconst (v := 0) hx hb dX2_init_14 (by decide) ?_
  refine kc_put X (ci := 2) (C := RX2) (T := TX2) (N := 2) (j := 1) hP hS (by omega) rfl uX2_init_X2 tyX2_ok nmX2 (by decide) (show 1 < 2 by decide) mbX2_init_6 hname rfl (fv_int (hz 1) rfl) rfl rfl dX2_init_15 (fun H locs hP hS => ?_)
  exact kc_ret X (kW_end hP h0 hs0) hS hr hlocks dX2_init_18

/-! X3_init -/
def rmX3_init : Room := { frames := 1, cells := 3, slots := 1200, locals := 12 }
theorem uX3_init_X3 : ∀ w ∈ wsX30, w ∈ wsX3_init := by decide +kernel
theorem mbX3_init_1 : Cond.methodLink RX3 3 objectInit ∈ wsX3_init := by decide +kernel
theorem mbX3_init_2 : Cond.instanceMethod objectInit ∈ wsX3_init := by decide +kernel
theorem mbX3_init_3 : Cond.code objectInit ⟨#[0xb1]⟩ 1 none ∈ wsX3_init := by decide +kernel
theorem mbX3_init_4 : Cond.arrayClass .int ∈ wsX3_init := by decide +kernel
theorem mbX3_init_5 : Cond.fieldLink RX3 9 "FootANight$Reader" "code" "[I" ∈ wsX3_init := by decide +kernel
theorem mbX3_init_6 : Cond.fieldLink RX3 15 "FootANight$Reader" "used" "I" ∈ wsX3_init := by decide +kernel
theorem mbX3_init_7 : Cond.fieldLink RX3 19 "FootANight$Reader" "lines" "I" ∈ wsX3_init := by decide +kernel
theorem mbX3_init_8 : Cond.fieldLink RX3 22 "FootANight$Reader" "fault" "I" ∈ wsX3_init := by decide +kernel
theorem mbX3_init_9 : Cond.fieldLink RX3 25 "FootANight$Reader" "place" "I" ∈ wsX3_init := by decide +kernel
theorem mbX3_init_10 : Cond.fieldLink RX3 28 "FootANight$Reader" "bytes" "[I" ∈ wsX3_init := by decide +kernel
theorem mbX3_init_11 : Cond.fieldLink RX3 31 "FootANight$Reader" "length" "I" ∈ wsX3_init := by decide +kernel
theorem mbX3_init_12 : Cond.fieldLink RX3 34 "FootANight$Reader" "start" "I" ∈ wsX3_init := by decide +kernel
theorem mbX3_init_13 : Cond.fieldLink RX3 37 "FootANight$Reader" "behind" "I" ∈ wsX3_init := by decide +kernel
theorem mbX3_init_14 : Cond.fieldLink RX3 40 "FootANight$Reader" "kind" "I" ∈ wsX3_init := by decide +kernel
theorem mbX3_init_15 : Cond.fieldLink RX3 43 "FootANight$Reader" "number" "I" ∈ wsX3_init := by decide +kernel
theorem mbX3_init_16 : Cond.fieldLink RX3 46 "FootANight$Reader" "next" "I" ∈ wsX3_init := by decide +kernel
theorem mbX3_init_17 : Cond.fieldLink RX3 49 "FootANight$Reader" "doing" "I" ∈ wsX3_init := by decide +kernel
theorem mbX3_init_18 : Cond.fieldLink RX3 52 "FootANight$Reader" "compared" "Z" ∈ wsX3_init := by decide +kernel
theorem mbX3_init_19 : Cond.fieldLink RX3 56 "FootANight$Reader" "signs" "[I" ∈ wsX3_init := by decide +kernel
theorem mbX3_init_20 : Cond.fieldLink RX3 59 "FootANight$Reader" "waiting" "I" ∈ wsX3_init := by decide +kernel
theorem mbX3_init_21 : Cond.fieldLink RX3 62 "FootANight$Reader" "open" "I" ∈ wsX3_init := by decide +kernel
set_option maxHeartbeats 4000000 in
set_option maxRecDepth 100000 in
theorem c_X3_init (l : Launch) {g : GT} (hG : GG g) {M : Mem} (hM : ∀ k j, 111 ≤ k → rd M k j = bM k j) (hMl : ∀ k j, 111 ≤ k → rdl M k j = 0) {f : Nat → va_E} (hf : f 112 = .inr (3, stF g M 111 fl_reader 0)) : CN l yX3_init wsX3_init rmX3_init g [.ref (gb g + 112)] f 113 (fun i => if i < 112 then f i else encG g M (pmk i)) 116 3 1200 := by
  refine Met.ofW (cc := cX3_init) (maxL := 1) (ret := none) (by decide) rfl ?_
  intro p e s m args below meth c s₁ B hml hv
  obtain ⟨rfl, hSx, hW0, hsz, hP⟩ := hv
  have hr := B.returns
  have hlocks := B.notSynchronized
  have hname : meth.name = "<init>" := (name_of_methodNamed B.named B.method).1
  have X : CxG g p s m _ c cX3_init 1 RX3 wsX3_init := ⟨⟨B.exec, B.bytes, hml, findClass_of_methodNamed B.named, atoms_spec (ws := wsX3_init) B.pre⟩, hSx, hG.ax⟩
  have hS : va_S (AbG g) s.heap s.heap [] := va_S.rf
  have hl := lv_entry (([.ref (gb g + 112)] : List Value)) (n := 1) (Nat.le_of_ble_eq_true rfl)
  rw [lg_entry_eq]
  generalize (lg_sl (([.ref (gb g + 112)] : List Value)) ++ List.replicate (1 - (lg_sl (([.ref (gb g + 112)] : List Value))).length) Slot.unset).toArray = ls at hl ⊢
  have hl : lv_has ls 1 [(0, .ref (gb g + 112))] := hl
  obtain ⟨⟨hx, hb, hml, hown, hts⟩, -, -⟩ := id X
  have hP : va_P (gD g) vwCl (cwl (gb g) (kW g M 112 f (.inr (3, stF g M 111 fl_reader 0)) 112 eN) 113) s.heap := cwl_re hP (fun i hi => kW_0 hi hf)
  refine lv_aload_n hx hb dX3_init_0 rfl (lv_at hl 0 rfl) ?_
  refine W.objInit hx hb hown (hts _ mbX3_init_1) (hts _ mbX3_init_2) (hts _ mbX3_init_3) rfl (by rw [hml]; exact hl.1) rfl dX3_init_1 (Nat.le_of_ble_eq_true rfl) (Nat.le_of_ble_eq_true rfl) ?_
  refine W.eq (g2 := F0 m 4 ls []) rfl ?_
  refine lv_aload_n hx hb dX3_init_4 rfl (lv_at hl 0 rfl) ?_
  refine lv_sipush (v := 400) hx hb dX3_init_5 (by decide) ?_
  refine kc_newa (atype := .int) (ty := .int) (t := 0) (N := 400) X hP hS (by omega) (by decide) (by decide) rfl rfl (fun _ => rfl) (enc_z rfl (fun i => (hM _ i (by decide)).trans (bM_nil rfl)) (fun i => hMl _ i (by decide))) (by decide) rfl (by decide) mbX3_init_4 (Nat.le_of_ble_eq_true rfl) (Nat.le_of_ble_eq_true rfl) dX3_init_8 (fun H hP hS => ?_)
  refine kc_put X (ci := 3) (C := RX3) (T := TX3) (N := 17) (j := 0) hP hS (by decide) rfl uX3_init_X3 tyX3_ok nmX3 (by decide) (by decide) mbX3_init_5 hname rfl (fv_ref (hG.at (i := 113) (by decide) (by decide)) rfl) rfl rfl dX3_init_10 (fun H locs hP hS => ?_)
  refine lv_aload_n hx hb dX3_init_13 rfl (lv_at hl 0 rfl) ?_
  refine lv_iconst (v := 0) hx hb dX3_init_14 (by decide) ?_
  refine kc_put X (ci := 3) (C := RX3) (T := TX3) (N := 17) (j := 1) hP hS (by decide) rfl uX3_init_X3 tyX3_ok nmX3 (by decide) (by decide) mbX3_init_6 hname rfl (fv_int ((hM 111 1 (by decide)).trans rfl) rfl) rfl rfl dX3_init_15 (fun H locs hP hS => ?_)
  refine lv_aload_n hx hb dX3_init_18 rfl (lv_at hl 0 rfl) ?_
  refine lv_iconst (v := 0) hx hb dX3_init_19 (by decide) ?_
  refine kc_put X (ci := 3) (C := RX3) (T := TX3) (N := 17) (j := 2) hP hS (by decide) rfl uX3_init_X3 tyX3_ok nmX3 (by decide) (by decide) mbX3_init_7 hname rfl (fv_int ((hM 111 2 (by decide)).trans rfl) rfl) rfl rfl dX3_init_20 (fun H locs hP hS => ?_)
  refine lv_aload_n hx hb dX3_init_23 rfl (lv_at hl 0 rfl) ?_
  refine lv_iconst (v := 0) hx hb dX3_init_24 (by decide) ?_
  refine kc_put X (ci := 3) (C := RX3) (T := TX3) (N := 17) (j := 3) hP hS (by decide) rfl uX3_init_X3 tyX3_ok nmX3 (by decide) (by decide) mbX3_init_8 hname rfl (fv_int ((hM 111 3 (by decide)).trans rfl) rfl) rfl rfl dX3_init_25 (fun H locs hP hS => ?_)
  refine lv_aload_n hx hb dX3_init_28 rfl (lv_at hl 0 rfl) ?_
  refine lv_iconst (v := (-1)) hx hb dX3_init_29 (by decide) ?_
  refine kc_put X (ci := 3) (C := RX3) (T := TX3) (N := 17) (j := 4) hP hS (by decide) rfl uX3_init_X3 tyX3_ok nmX3 (by decide) (by decide) mbX3_init_9 hname rfl (fv_int ((hM 111 4 (by decide)).trans rfl) rfl) rfl rfl dX3_init_30 (fun H locs hP hS => ?_)
  refine lv_aload_n hx hb dX3_init_33 rfl (lv_at hl 0 rfl) ?_
  refine lv_sipush (v := 400) hx hb dX3_init_34 (by decide) ?_
  refine kc_newa (atype := .int) (ty := .int) (t := 0) (N := 400) X hP hS (by omega) (by decide) (by decide) rfl rfl (fun _ => rfl) (enc_z rfl (fun i => (hM _ i (by decide)).trans (bM_nil rfl)) (fun i => hMl _ i (by decide))) (by decide) rfl (by decide) mbX3_init_4 (Nat.le_of_ble_eq_true rfl) (Nat.le_of_ble_eq_true rfl) dX3_init_37 (fun H hP hS => ?_)
  refine kc_put X (ci := 3) (C := RX3) (T := TX3) (N := 17) (j := 5) hP hS (by decide) rfl uX3_init_X3 tyX3_ok nmX3 (by decide) (by decide) mbX3_init_10 hname rfl (fv_ref (hG.at (i := 114) (by decide) (by decide)) rfl) rfl rfl dX3_init_39 (fun H locs hP hS => ?_)
  refine lv_aload_n hx hb dX3_init_42 rfl (lv_at hl 0 rfl) ?_
  refine lv_iconst (v := 0) hx hb dX3_init_43 (by decide) ?_
  refine kc_put X (ci := 3) (C := RX3) (T := TX3) (N := 17) (j := 6) hP hS (by decide) rfl uX3_init_X3 tyX3_ok nmX3 (by decide) (by decide) mbX3_init_11 hname rfl (fv_int ((hM 111 6 (by decide)).trans rfl) rfl) rfl rfl dX3_init_44 (fun H locs hP hS => ?_)
  refine lv_aload_n hx hb dX3_init_47 rfl (lv_at hl 0 rfl) ?_
  refine lv_iconst (v := 0) hx hb dX3_init_48 (by decide) ?_
  refine kc_put X (ci := 3) (C := RX3) (T := TX3) (N := 17) (j := 7) hP hS (by decide) rfl uX3_init_X3 tyX3_ok nmX3 (by decide) (by decide) mbX3_init_12 hname rfl (fv_int ((hM 111 7 (by decide)).trans rfl) rfl) rfl rfl dX3_init_49 (fun H locs hP hS => ?_)
  refine lv_aload_n hx hb dX3_init_52 rfl (lv_at hl 0 rfl) ?_
  refine lv_iconst (v := 0) hx hb dX3_init_53 (by decide) ?_
  refine kc_put X (ci := 3) (C := RX3) (T := TX3) (N := 17) (j := 8) hP hS (by decide) rfl uX3_init_X3 tyX3_ok nmX3 (by decide) (by decide) mbX3_init_13 hname rfl (fv_int ((hM 111 8 (by decide)).trans rfl) rfl) rfl rfl dX3_init_54 (fun H locs hP hS => ?_)
  refine lv_aload_n hx hb dX3_init_57 rfl (lv_at hl 0 rfl) ?_
  refine lv_iconst (v := 0) hx hb dX3_init_58 (by decide) ?_
  refine kc_put X (ci := 3) (C := RX3) (T := TX3) (N := 17) (j := 9) hP hS (by decide) rfl uX3_init_X3 tyX3_ok nmX3 (by decide) (by decide) mbX3_init_14 hname rfl (fv_int ((hM 111 9 (by decide)).trans rfl) rfl) rfl rfl dX3_init_59 (fun H locs hP hS => ?_)
  refine lv_aload_n hx hb dX3_init_62 rfl (lv_at hl 0 rfl) ?_
  refine lv_iconst (v := 0) hx hb dX3_init_63 (by decide) ?_
  refine kc_put X (ci := 3) (C := RX3) (T := TX3) (N := 17) (j := 10) hP hS (by decide) rfl uX3_init_X3 tyX3_ok nmX3 (by decide) (by decide) mbX3_init_15 hname rfl (fv_int ((hM 111 10 (by decide)).trans rfl) rfl) rfl rfl dX3_init_64 (fun H locs hP hS => ?_)
  refine lv_aload_n hx hb dX3_init_67 rfl (lv_at hl 0 rfl) ?_
  refine lv_iconst (v := 0) hx hb dX3_init_68 (by decide) ?_
  refine kc_put X (ci := 3) (C := RX3) (T := TX3) (N := 17) (j := 11) hP hS (by decide) rfl uX3_init_X3 tyX3_ok nmX3 (by decide) (by decide) mbX3_init_16 hname rfl (fv_int ((hM 111 11 (by decide)).trans rfl) rfl) rfl rfl dX3_init_69 (fun H locs hP hS => ?_)
  refine lv_aload_n hx hb dX3_init_72 rfl (lv_at hl 0 rfl) ?_
  refine lv_iconst (v := 0) hx hb dX3_init_73 (by decide) ?_
  refine kc_put X (ci := 3) (C := RX3) (T := TX3) (N := 17) (j := 12) hP hS (by decide) rfl uX3_init_X3 tyX3_ok nmX3 (by decide) (by decide) mbX3_init_17 hname rfl (fv_int ((hM 111 12 (by decide)).trans rfl) rfl) rfl rfl dX3_init_74 (fun H locs hP hS => ?_)
  refine lv_aload_n hx hb dX3_init_77 rfl (lv_at hl 0 rfl) ?_
  refine lv_iconst (v := 0) hx hb dX3_init_78 (by decide) ?_
  refine kc_put X (ci := 3) (C := RX3) (T := TX3) (N := 17) (j := 13) hP hS (by decide) rfl uX3_init_X3 tyX3_ok nmX3 (by decide) (by decide) mbX3_init_18 hname rfl (fv_int ((hM 111 13 (by decide)).trans rfl) rfl) rfl rfl dX3_init_79 (fun H locs hP hS => ?_)
  refine lv_aload_n hx hb dX3_init_82 rfl (lv_at hl 0 rfl) ?_
  refine lv_sipush (v := 400) hx hb dX3_init_83 (by decide) ?_
  refine kc_newa (atype := .int) (ty := .int) (t := 0) (N := 400) X hP hS (by omega) (by decide) (by decide) rfl rfl (fun _ => rfl) (enc_z rfl (fun i => (hM _ i (by decide)).trans (bM_nil rfl)) (fun i => hMl _ i (by decide))) (by decide) rfl (by decide) mbX3_init_4 (Nat.le_of_ble_eq_true rfl) (Nat.le_of_ble_eq_true rfl) dX3_init_86 (fun H hP hS => ?_)
  refine kc_put X (ci := 3) (C := RX3) (T := TX3) (N := 17) (j := 14) hP hS (by decide) rfl uX3_init_X3 tyX3_ok nmX3 (by decide) (by decide) mbX3_init_19 hname rfl (fv_ref (hG.at (i := 115) (by decide) (by decide)) rfl) rfl rfl dX3_init_88 (fun H locs hP hS => ?_)
  refine lv_aload_n hx hb dX3_init_91 rfl (lv_at hl 0 rfl) ?_
  refine lv_iconst (v := 0) hx hb dX3_init_92 (by decide) ?_
  refine kc_put X (ci := 3) (C := RX3) (T := TX3) (N := 17) (j := 15) hP hS (by decide) rfl uX3_init_X3 tyX3_ok nmX3 (by decide) (by decide) mbX3_init_20 hname rfl (fv_int ((hM 111 15 (by decide)).trans rfl) rfl) rfl rfl dX3_init_93 (fun H locs hP hS => ?_)
  refine lv_aload_n hx hb dX3_init_96 rfl (lv_at hl 0 rfl) ?_
  refine lv_iconst (v := 0) hx hb dX3_init_97 (by decide) ?_
  refine kc_put X (ci := 3) (C := RX3) (T := TX3) (N := 17) (j := 16) hP hS (by decide) rfl uX3_init_X3 tyX3_ok nmX3 (by decide) (by decide) mbX3_init_21 hname rfl (fv_int ((hM 111 16 (by decide)).trans rfl) rfl) rfl rfl dX3_init_98 (fun H locs hP hS => ?_)
  exact kc_ret X (kW_end hP rfl rfl) hS hr hlocks dX3_init_101

/-! X0_init -/
def rmX0_init : Room := { frames := 1, cells := 14, slots := 492, locals := 12 }
theorem uX0_init_X0 : ∀ w ∈ wsX00, w ∈ wsX0_init := by decide +kernel
theorem mbX0_init_1 : Cond.methodLink RX0 3 objectInit ∈ wsX0_init := by decide +kernel
theorem mbX0_init_2 : Cond.instanceMethod objectInit ∈ wsX0_init := by decide +kernel
theorem mbX0_init_3 : Cond.code objectInit ⟨#[0xb1]⟩ 1 none ∈ wsX0_init := by decide +kernel
theorem mbX0_init_4 : Cond.fieldLink RX0 9 "FootANight$Counsel" "restCount" "I" ∈ wsX0_init := by decide +kernel
theorem mbX0_init_5 : Cond.fieldLink RX0 15 "FootANight$Counsel" "restFirst" "I" ∈ wsX0_init := by decide +kernel
theorem mbX0_init_6 : Cond.fieldLink RX0 18 "FootANight$Counsel" "restMost" "I" ∈ wsX0_init := by decide +kernel
theorem mbX0_init_7 : Cond.fieldLink RX0 21 "FootANight$Counsel" "restAlike" "I" ∈ wsX0_init := by decide +kernel
theorem mbX0_init_8 : Cond.fieldLink RX0 24 "FootANight$Counsel" "wallSet" "I" ∈ wsX0_init := by decide +kernel
theorem mbX0_init_9 : Cond.fieldLink RX0 27 "FootANight$Counsel" "wallWatchers" "I" ∈ wsX0_init := by decide +kernel
theorem mbX0_init_10 : Cond.classLink RX0 30 ("[" ++ (FieldType.array .int).toString) ∈ wsX0_init := by decide +kernel
theorem mbX0_init_11 : Cond.arrayClass .int ∈ wsX0_init := by decide +kernel
theorem mbX0_init_12 : Cond.fieldLink RX0 32 "FootANight$Counsel" "means" "[[I" ∈ wsX0_init := by decide +kernel
theorem mbX0_init_13 : Cond.fieldLink RX0 35 "FootANight$Counsel" "bests" "[[I" ∈ wsX0_init := by decide +kernel
theorem mbX0_init_14 : Cond.fieldLink RX0 38 "FootANight$Counsel" "leftIfAsleep" "I" ∈ wsX0_init := by decide +kernel
theorem mbX0_init_15 : Cond.fieldLink RX0 41 "FootANight$Counsel" "leftIfWatched" "I" ∈ wsX0_init := by decide +kernel
theorem mbX0_init_16 : Cond.fieldLink RX0 44 "FootANight$Counsel" "rightIfAsleep" "I" ∈ wsX0_init := by decide +kernel
theorem mbX0_init_17 : Cond.fieldLink RX0 47 "FootANight$Counsel" "rightIfWatched" "I" ∈ wsX0_init := by decide +kernel
set_option maxHeartbeats 4000000 in
set_option maxRecDepth 100000 in
theorem c_X0_init (l : Launch) {g : GT} (hG : GG g) {M : Mem} (hM : ∀ k j, 111 ≤ k → rd M k j = bM k j) (hMl : ∀ k j, 111 ≤ k → rdl M k j = 0) {f : Nat → va_E} (hf : f 116 = .inr (0, stF g M 115 fl_counsel 0)) : CN l yX0_init wsX0_init rmX0_init g [.ref (gb g + 116)] f 117 (fun i => if i < 116 then f i else encG g M (pmk i)) 131 14 492 := by
  refine Met.ofW (cc := cX0_init) (maxL := 1) (ret := none) (by decide) rfl ?_
  intro p e s m args below meth c s₁ B hml hv
  obtain ⟨rfl, hSx, hW0, hsz, hP⟩ := hv
  have hr := B.returns
  have hlocks := B.notSynchronized
  have hname : meth.name = "<init>" := (name_of_methodNamed B.named B.method).1
  have X : CxG g p s m _ c cX0_init 1 RX0 wsX0_init := ⟨⟨B.exec, B.bytes, hml, findClass_of_methodNamed B.named, atoms_spec (ws := wsX0_init) B.pre⟩, hSx, hG.ax⟩
  have hS : va_S (AbG g) s.heap s.heap [] := va_S.rf
  have hl := lv_entry (([.ref (gb g + 116)] : List Value)) (n := 1) (Nat.le_of_ble_eq_true rfl)
  rw [lg_entry_eq]
  generalize (lg_sl (([.ref (gb g + 116)] : List Value)) ++ List.replicate (1 - (lg_sl (([.ref (gb g + 116)] : List Value))).length) Slot.unset).toArray = ls at hl ⊢
  have hl : lv_has ls 1 [(0, .ref (gb g + 116))] := hl
  obtain ⟨⟨hx, hb, hml, hown, hts⟩, -, -⟩ := id X
  have hP : va_P (gD g) vwCl (cwl (gb g) (kW g M 116 f (.inr (0, stF g M 115 fl_counsel 0)) 116 eN) 117) s.heap := cwl_re hP (fun i hi => kW_0 hi hf)
  refine lv_aload_n hx hb dX0_init_0 rfl (lv_at hl 0 rfl) ?_
  refine W.objInit hx hb hown (hts _ mbX0_init_1) (hts _ mbX0_init_2) (hts _ mbX0_init_3) rfl (by rw [hml]; exact hl.1) rfl dX0_init_1 (Nat.le_of_ble_eq_true rfl) (Nat.le_of_ble_eq_true rfl) ?_
  refine W.eq (g2 := F0 m 4 ls []) rfl ?_
  refine lv_aload_n hx hb dX0_init_4 rfl (lv_at hl 0 rfl) ?_
  refine lv_iconst (v := 0) hx hb dX0_init_5 (by decide) ?_
  refine kc_put X (ci := 0) (C := RX0) (T := TX0) (N := 12) (j := 0) hP hS (by decide) rfl uX0_init_X0 tyX0_ok nmX0 (by decide) (by decide) mbX0_init_4 hname rfl (fv_int ((hM 115 0 (by decide)).trans rfl) rfl) rfl rfl dX0_init_6 (fun H locs hP hS => ?_)
  refine lv_aload_n hx hb dX0_init_9 rfl (lv_at hl 0 rfl) ?_
  refine lv_iconst (v := (-1)) hx hb dX0_init_10 (by decide) ?_
  refine kc_put X (ci := 0) (C := RX0) (T := TX0) (N := 12) (j := 1) hP hS (by decide) rfl uX0_init_X0 tyX0_ok nmX0 (by decide) (by decide) mbX0_init_5 hname rfl (fv_int ((hM 115 1 (by decide)).trans rfl) rfl) rfl rfl dX0_init_11 (fun H locs hP hS => ?_)
  refine lv_aload_n hx hb dX0_init_14 rfl (lv_at hl 0 rfl) ?_
  refine lv_iconst (v := (-1)) hx hb dX0_init_15 (by decide) ?_
  refine kc_put X (ci := 0) (C := RX0) (T := TX0) (N := 12) (j := 2) hP hS (by decide) rfl uX0_init_X0 tyX0_ok nmX0 (by decide) (by decide) mbX0_init_6 hname rfl (fv_int ((hM 115 2 (by decide)).trans rfl) rfl) rfl rfl dX0_init_16 (fun H locs hP hS => ?_)
  refine lv_aload_n hx hb dX0_init_19 rfl (lv_at hl 0 rfl) ?_
  refine lv_iconst (v := 0) hx hb dX0_init_20 (by decide) ?_
  refine kc_put X (ci := 0) (C := RX0) (T := TX0) (N := 12) (j := 3) hP hS (by decide) rfl uX0_init_X0 tyX0_ok nmX0 (by decide) (by decide) mbX0_init_7 hname rfl (fv_int ((hM 115 3 (by decide)).trans rfl) rfl) rfl rfl dX0_init_21 (fun H locs hP hS => ?_)
  refine lv_aload_n hx hb dX0_init_24 rfl (lv_at hl 0 rfl) ?_
  refine lv_iconst (v := 0) hx hb dX0_init_25 (by decide) ?_
  refine kc_put X (ci := 0) (C := RX0) (T := TX0) (N := 12) (j := 4) hP hS (by decide) rfl uX0_init_X0 tyX0_ok nmX0 (by decide) (by decide) mbX0_init_8 hname rfl (fv_int ((hM 115 4 (by decide)).trans rfl) rfl) rfl rfl dX0_init_26 (fun H locs hP hS => ?_)
  refine lv_aload_n hx hb dX0_init_29 rfl (lv_at hl 0 rfl) ?_
  refine lv_iconst (v := 0) hx hb dX0_init_30 (by decide) ?_
  refine kc_put X (ci := 0) (C := RX0) (T := TX0) (N := 12) (j := 5) hP hS (by decide) rfl uX0_init_X0 tyX0_ok nmX0 (by decide) (by decide) mbX0_init_9 hname rfl (fv_int ((hM 115 5 (by decide)).trans rfl) rfl) rfl rfl dX0_init_31 (fun H locs hP hS => ?_)
  refine lv_aload_n hx hb dX0_init_34 rfl (lv_at hl 0 rfl) ?_
  refine lv_bipush (v := 6) hx hb dX0_init_35 (by decide) ?_
  refine lv_bipush (v := 64) hx hb dX0_init_37 (by decide) ?_
  have hc39 : ∀ j, j < 6 → pmk (117 + 1 + j) = 118 + j ∧ 111 ≤ pmk (117 + 1 + j) ∧ bL (pmk (117 + 1 + j)) = [] ∧ shp (pmk (117 + 1 + j)) = shA 0 64 := fun j hj => match j, hj with | 0, _ => ⟨rfl, by decide, rfl, rfl⟩ | 1, _ => ⟨rfl, by decide, rfl, rfl⟩ | 2, _ => ⟨rfl, by decide, rfl, rfl⟩ | 3, _ => ⟨rfl, by decide, rfl, rfl⟩ | 4, _ => ⟨rfl, by decide, rfl, rfl⟩ | 5, _ => ⟨rfl, by decide, rfl, rfl⟩
  refine kc_mna (N := 6) (K := 64) (B := 118) X hP hS (by decide) (by omega) mbX0_init_10 hW0.2.2.2.2.2.1 mbX0_init_11 (fun j hj => (hG.at (i := 117 + 1 + j) (by omega) (hc39 j hj).1).trans (by omega)) rfl (fun j hj => enc_z (hc39 j hj).2.2.2 (fun i => (hM _ i (hc39 j hj).2.1).trans (bM_nil (hc39 j hj).2.2.1)) (fun i => hMl _ i (hc39 j hj).2.1)) (by decide) (by decide) rfl rfl (by decide) (by decide) (by decide) (Nat.le_of_ble_eq_true rfl) (Nat.le_of_ble_eq_true rfl) dX0_init_39 (fun H hP hS => ?_)
  refine kc_put X (ci := 0) (C := RX0) (T := TX0) (N := 12) (j := 6) hP hS (by decide) rfl uX0_init_X0 tyX0_ok nmX0 (by decide) (by decide) mbX0_init_12 hname rfl (fv_ref (hG.at (i := 117) (by decide) (by decide)) rfl) rfl rfl dX0_init_43 (fun H locs hP hS => ?_)
  refine lv_aload_n hx hb dX0_init_46 rfl (lv_at hl 0 rfl) ?_
  refine lv_bipush (v := 6) hx hb dX0_init_47 (by decide) ?_
  refine lv_bipush (v := 16) hx hb dX0_init_49 (by decide) ?_
  have hc51 : ∀ j, j < 6 → pmk (124 + 1 + j) = 124 + j ∧ 111 ≤ pmk (124 + 1 + j) ∧ bL (pmk (124 + 1 + j)) = [] ∧ shp (pmk (124 + 1 + j)) = shA 0 16 := fun j hj => match j, hj with | 0, _ => ⟨rfl, by decide, rfl, rfl⟩ | 1, _ => ⟨rfl, by decide, rfl, rfl⟩ | 2, _ => ⟨rfl, by decide, rfl, rfl⟩ | 3, _ => ⟨rfl, by decide, rfl, rfl⟩ | 4, _ => ⟨rfl, by decide, rfl, rfl⟩ | 5, _ => ⟨rfl, by decide, rfl, rfl⟩
  refine kc_mna (N := 6) (K := 16) (B := 124) X hP hS (by decide) (by omega) mbX0_init_10 hW0.2.2.2.2.2.1 mbX0_init_11 (fun j hj => (hG.at (i := 124 + 1 + j) (by omega) (hc51 j hj).1).trans (by omega)) rfl (fun j hj => enc_z (hc51 j hj).2.2.2 (fun i => (hM _ i (hc51 j hj).2.1).trans (bM_nil (hc51 j hj).2.2.1)) (fun i => hMl _ i (hc51 j hj).2.1)) (by decide) (by decide) rfl rfl (by decide) (by decide) (by decide) (Nat.le_of_ble_eq_true rfl) (Nat.le_of_ble_eq_true rfl) dX0_init_51 (fun H hP hS => ?_)
  refine kc_put X (ci := 0) (C := RX0) (T := TX0) (N := 12) (j := 7) hP hS (by decide) rfl uX0_init_X0 tyX0_ok nmX0 (by decide) (by decide) mbX0_init_13 hname rfl (fv_ref (hG.at (i := 124) (by decide) (by decide)) rfl) rfl rfl dX0_init_55 (fun H locs hP hS => ?_)
  refine lv_aload_n hx hb dX0_init_58 rfl (lv_at hl 0 rfl) ?_
  refine lv_iconst (v := 0) hx hb dX0_init_59 (by decide) ?_
  refine kc_put X (ci := 0) (C := RX0) (T := TX0) (N := 12) (j := 8) hP hS (by decide) rfl uX0_init_X0 tyX0_ok nmX0 (by decide) (by decide) mbX0_init_14 hname rfl (fv_int ((hM 115 8 (by decide)).trans rfl) rfl) rfl rfl dX0_init_60 (fun H locs hP hS => ?_)
  refine lv_aload_n hx hb dX0_init_63 rfl (lv_at hl 0 rfl) ?_
  refine lv_iconst (v := 0) hx hb dX0_init_64 (by decide) ?_
  refine kc_put X (ci := 0) (C := RX0) (T := TX0) (N := 12) (j := 9) hP hS (by decide) rfl uX0_init_X0 tyX0_ok nmX0 (by decide) (by decide) mbX0_init_15 hname rfl (fv_int ((hM 115 9 (by decide)).trans rfl) rfl) rfl rfl dX0_init_65 (fun H locs hP hS => ?_)
  refine lv_aload_n hx hb dX0_init_68 rfl (lv_at hl 0 rfl) ?_
  refine lv_iconst (v := 0) hx hb dX0_init_69 (by decide) ?_
  refine kc_put X (ci := 0) (C := RX0) (T := TX0) (N := 12) (j := 10) hP hS (by decide) rfl uX0_init_X0 tyX0_ok nmX0 (by decide) (by decide) mbX0_init_16 hname rfl (fv_int ((hM 115 10 (by decide)).trans rfl) rfl) rfl rfl dX0_init_70 (fun H locs hP hS => ?_)
  refine lv_aload_n hx hb dX0_init_73 rfl (lv_at hl 0 rfl) ?_
  refine lv_iconst (v := 0) hx hb dX0_init_74 (by decide) ?_
  refine kc_put X (ci := 0) (C := RX0) (T := TX0) (N := 12) (j := 11) hP hS (by decide) rfl uX0_init_X0 tyX0_ok nmX0 (by decide) (by decide) mbX0_init_17 hname rfl (fv_int ((hM 115 11 (by decide)).trans rfl) rfl) rfl rfl dX0_init_75 (fun H locs hP hS => ?_)
  exact kc_ret X (kW_end hP rfl rfl) hS hr hlocks dX0_init_78

/-! X1_init -/
def rmX1_init : Room := { frames := 1, cells := 15, slots := 741, locals := 12 }
theorem uX1_init_X1 : ∀ w ∈ wsX10, w ∈ wsX1_init := by decide +kernel
theorem mbX1_init_1 : Cond.methodLink RX1 3 objectInit ∈ wsX1_init := by decide +kernel
theorem mbX1_init_2 : Cond.instanceMethod objectInit ∈ wsX1_init := by decide +kernel
theorem mbX1_init_3 : Cond.code objectInit ⟨#[0xb1]⟩ 1 none ∈ wsX1_init := by decide +kernel
theorem mbX1_init_4 : Cond.arrayClass .long ∈ wsX1_init := by decide +kernel
theorem mbX1_init_5 : Cond.fieldLink RX1 9 "FootANight$Duel" "later" "[J" ∈ wsX1_init := by decide +kernel
theorem mbX1_init_6 : Cond.arrayClass .int ∈ wsX1_init := by decide +kernel
theorem mbX1_init_7 : Cond.fieldLink RX1 15 "FootANight$Duel" "doing" "[I" ∈ wsX1_init := by decide +kernel
theorem mbX1_init_8 : Cond.fieldLink RX1 19 "FootANight$Duel" "sooner" "[J" ∈ wsX1_init := by decide +kernel
theorem mbX1_init_9 : Cond.fieldLink RX1 22 "FootANight$Duel" "WAYS" "[I" ∈ wsX1_init := by decide +kernel
theorem mbX1_init_10 : Cond.classLink RX1 25 ("[" ++ (FieldType.array .int).toString) ∈ wsX1_init := by decide +kernel
theorem mbX1_init_11 : Cond.fieldLink RX1 27 "FootANight$Duel" "means" "[[I" ∈ wsX1_init := by decide +kernel
theorem mbX1_init_12 : Cond.fieldLink RX1 30 "FootANight$Duel" "wins" "[[I" ∈ wsX1_init := by decide +kernel
theorem mbX1_init_13 : Cond.fieldLink RX1 33 "FootANight$Duel" "losses" "[[I" ∈ wsX1_init := by decide +kernel
theorem mbX1_init_14 : Cond.fieldLink RX1 36 "FootANight$Duel" "all" "I" ∈ wsX1_init := by decide +kernel
theorem mbX1_init_15 : Cond.fieldLink RX1 40 "FootANight$Duel" "step" "I" ∈ wsX1_init := by decide +kernel
set_option maxHeartbeats 4000000 in
set_option maxRecDepth 100000 in
theorem c_X1_init (l : Launch) {g : GT} (hG : GG g) {M : Mem} (hM : ∀ k j, 111 ≤ k → rd M k j = bM k j) (hMl : ∀ k j, 111 ≤ k → rdl M k j = 0) {f : Nat → va_E} (hf : f 131 = .inr (1, stF g M 130 fl_duel 0)) : CN l yX1_init wsX1_init rmX1_init g [.ref (gb g + 131)] f 132 (fun i => if i < 131 then f i else encG g M (pmk i)) 147 15 741 := by
  refine Met.ofW (cc := cX1_init) (maxL := 1) (ret := none) (by decide) rfl ?_
  intro p e s m args below meth c s₁ B hml hv
  obtain ⟨rfl, hSx, hW0, hsz, hP⟩ := hv
  have hr := B.returns
  have hlocks := B.notSynchronized
  have hname : meth.name = "<init>" := (name_of_methodNamed B.named B.method).1
  have X : CxG g p s m _ c cX1_init 1 RX1 wsX1_init := ⟨⟨B.exec, B.bytes, hml, findClass_of_methodNamed B.named, atoms_spec (ws := wsX1_init) B.pre⟩, hSx, hG.ax⟩
  have hS : va_S (AbG g) s.heap s.heap [] := va_S.rf
  have hl := lv_entry (([.ref (gb g + 131)] : List Value)) (n := 1) (Nat.le_of_ble_eq_true rfl)
  rw [lg_entry_eq]
  generalize (lg_sl (([.ref (gb g + 131)] : List Value)) ++ List.replicate (1 - (lg_sl (([.ref (gb g + 131)] : List Value))).length) Slot.unset).toArray = ls at hl ⊢
  have hl : lv_has ls 1 [(0, .ref (gb g + 131))] := hl
  obtain ⟨⟨hx, hb, hml, hown, hts⟩, -, -⟩ := id X
  have hP : va_P (gD g) vwCl (cwl (gb g) (kW g M 131 f (.inr (1, stF g M 130 fl_duel 0)) 131 eN) 132) s.heap := cwl_re hP (fun i hi => kW_0 hi hf)
  refine lv_aload_n hx hb dX1_init_0 rfl (lv_at hl 0 rfl) ?_
  refine W.objInit hx hb hown (hts _ mbX1_init_1) (hts _ mbX1_init_2) (hts _ mbX1_init_3) rfl (by rw [hml]; exact hl.1) rfl dX1_init_1 (Nat.le_of_ble_eq_true rfl) (Nat.le_of_ble_eq_true rfl) ?_
  refine W.eq (g2 := F0 m 4 ls []) rfl ?_
  refine lv_aload_n hx hb dX1_init_4 rfl (lv_at hl 0 rfl) ?_
  refine lv_bipush (v := 61) hx hb dX1_init_5 (by decide) ?_
  refine kc_newa (atype := .long) (ty := .long) (t := 1) (N := 61) X hP hS (by omega) (by decide) (by decide) rfl rfl (fun _ => rfl) (enc_z rfl (fun i => (hM _ i (by decide)).trans (bM_nil rfl)) (fun i => hMl _ i (by decide))) (by decide) rfl (by decide) mbX1_init_4 (Nat.le_of_ble_eq_true rfl) (Nat.le_of_ble_eq_true rfl) dX1_init_7 (fun H hP hS => ?_)
  refine kc_put X (ci := 1) (C := RX1) (T := TX1) (N := 8) (j := 0) hP hS (by decide) rfl uX1_init_X1 tyX1_ok nmX1 (by decide) (by decide) mbX1_init_5 hname rfl (fv_ref (hG.at (i := 132) (by decide) (by decide)) rfl) rfl rfl dX1_init_9 (fun H locs hP hS => ?_)
  refine lv_aload_n hx hb dX1_init_12 rfl (lv_at hl 0 rfl) ?_
  refine lv_bipush (v := 61) hx hb dX1_init_13 (by decide) ?_
  refine kc_newa (atype := .int) (ty := .int) (t := 0) (N := 61) X hP hS (by omega) (by decide) (by decide) rfl rfl (fun _ => rfl) (enc_z rfl (fun i => (hM _ i (by decide)).trans (bM_nil rfl)) (fun i => hMl _ i (by decide))) (by decide) rfl (by decide) mbX1_init_6 (Nat.le_of_ble_eq_true rfl) (Nat.le_of_ble_eq_true rfl) dX1_init_15 (fun H hP hS => ?_)
  refine kc_put X (ci := 1) (C := RX1) (T := TX1) (N := 8) (j := 1) hP hS (by decide) rfl uX1_init_X1 tyX1_ok nmX1 (by decide) (by decide) mbX1_init_7 hname rfl (fv_ref (hG.at (i := 133) (by decide) (by decide)) rfl) rfl rfl dX1_init_17 (fun H locs hP hS => ?_)
  refine lv_aload_n hx hb dX1_init_20 rfl (lv_at hl 0 rfl) ?_
  refine lv_bipush (v := 61) hx hb dX1_init_21 (by decide) ?_
  refine kc_newa (atype := .long) (ty := .long) (t := 1) (N := 61) X hP hS (by omega) (by decide) (by decide) rfl rfl (fun _ => rfl) (enc_z rfl (fun i => (hM _ i (by decide)).trans (bM_nil rfl)) (fun i => hMl _ i (by decide))) (by decide) rfl (by decide) mbX1_init_4 (Nat.le_of_ble_eq_true rfl) (Nat.le_of_ble_eq_true rfl) dX1_init_23 (fun H hP hS => ?_)
  refine kc_put X (ci := 1) (C := RX1) (T := TX1) (N := 8) (j := 2) hP hS (by decide) rfl uX1_init_X1 tyX1_ok nmX1 (by decide) (by decide) mbX1_init_8 hname rfl (fv_ref (hG.at (i := 134) (by decide) (by decide)) rfl) rfl rfl dX1_init_25 (fun H locs hP hS => ?_)
  refine lv_aload_n hx hb dX1_init_28 rfl (lv_at hl 0 rfl) ?_
  refine x_gets X hS 4 (by decide) mbX1_init_9 dX1_init_29 ?_
  refine x_stlen X hS (i := 4) (by decide) dX1_init_32 ?_
  refine lv_bipush (v := 61) hx hb dX1_init_33 (by decide) ?_
  have hc35 : ∀ j, j < 3 → pmk (135 + 1 + j) = 137 + j ∧ 111 ≤ pmk (135 + 1 + j) ∧ bL (pmk (135 + 1 + j)) = [] ∧ shp (pmk (135 + 1 + j)) = shA 0 61 := fun j hj => match j, hj with | 0, _ => ⟨rfl, by decide, rfl, rfl⟩ | 1, _ => ⟨rfl, by decide, rfl, rfl⟩ | 2, _ => ⟨rfl, by decide, rfl, rfl⟩
  refine kc_mna (N := 3) (K := 61) (B := 137) X hP hS (by decide) (by omega) mbX1_init_10 hW0.2.2.2.2.2.1 mbX1_init_6 (fun j hj => (hG.at (i := 135 + 1 + j) (by omega) (hc35 j hj).1).trans (by omega)) rfl (fun j hj => enc_z (hc35 j hj).2.2.2 (fun i => (hM _ i (hc35 j hj).2.1).trans (bM_nil (hc35 j hj).2.2.1)) (fun i => hMl _ i (hc35 j hj).2.1)) (by decide) (by decide) rfl rfl (by decide) (by decide) (by decide) (Nat.le_of_ble_eq_true rfl) (Nat.le_of_ble_eq_true rfl) dX1_init_35 (fun H hP hS => ?_)
  refine kc_put X (ci := 1) (C := RX1) (T := TX1) (N := 8) (j := 3) hP hS (by decide) rfl uX1_init_X1 tyX1_ok nmX1 (by decide) (by decide) mbX1_init_11 hname rfl (fv_ref (hG.at (i := 135) (by decide) (by decide)) rfl) rfl rfl dX1_init_39 (fun H locs hP hS => ?_)
  refine lv_aload_n hx hb dX1_init_42 rfl (lv_at hl 0 rfl) ?_
  refine x_gets X hS 4 (by decide) mbX1_init_9 dX1_init_43 ?_
  refine x_stlen X hS (i := 4) (by decide) dX1_init_46 ?_
  refine lv_bipush (v := 61) hx hb dX1_init_47 (by decide) ?_
  have hc49 : ∀ j, j < 3 → pmk (139 + 1 + j) = 140 + j ∧ 111 ≤ pmk (139 + 1 + j) ∧ bL (pmk (139 + 1 + j)) = [] ∧ shp (pmk (139 + 1 + j)) = shA 0 61 := fun j hj => match j, hj with | 0, _ => ⟨rfl, by decide, rfl, rfl⟩ | 1, _ => ⟨rfl, by decide, rfl, rfl⟩ | 2, _ => ⟨rfl, by decide, rfl, rfl⟩
  refine kc_mna (N := 3) (K := 61) (B := 140) X hP hS (by decide) (by omega) mbX1_init_10 hW0.2.2.2.2.2.1 mbX1_init_6 (fun j hj => (hG.at (i := 139 + 1 + j) (by omega) (hc49 j hj).1).trans (by omega)) rfl (fun j hj => enc_z (hc49 j hj).2.2.2 (fun i => (hM _ i (hc49 j hj).2.1).trans (bM_nil (hc49 j hj).2.2.1)) (fun i => hMl _ i (hc49 j hj).2.1)) (by decide) (by decide) rfl rfl (by decide) (by decide) (by decide) (Nat.le_of_ble_eq_true rfl) (Nat.le_of_ble_eq_true rfl) dX1_init_49 (fun H hP hS => ?_)
  refine kc_put X (ci := 1) (C := RX1) (T := TX1) (N := 8) (j := 4) hP hS (by decide) rfl uX1_init_X1 tyX1_ok nmX1 (by decide) (by decide) mbX1_init_12 hname rfl (fv_ref (hG.at (i := 139) (by decide) (by decide)) rfl) rfl rfl dX1_init_53 (fun H locs hP hS => ?_)
  refine lv_aload_n hx hb dX1_init_56 rfl (lv_at hl 0 rfl) ?_
  refine x_gets X hS 4 (by decide) mbX1_init_9 dX1_init_57 ?_
  refine x_stlen X hS (i := 4) (by decide) dX1_init_60 ?_
  refine lv_bipush (v := 61) hx hb dX1_init_61 (by decide) ?_
  have hc63 : ∀ j, j < 3 → pmk (143 + 1 + j) = 143 + j ∧ 111 ≤ pmk (143 + 1 + j) ∧ bL (pmk (143 + 1 + j)) = [] ∧ shp (pmk (143 + 1 + j)) = shA 0 61 := fun j hj => match j, hj with | 0, _ => ⟨rfl, by decide, rfl, rfl⟩ | 1, _ => ⟨rfl, by decide, rfl, rfl⟩ | 2, _ => ⟨rfl, by decide, rfl, rfl⟩
  refine kc_mna (N := 3) (K := 61) (B := 143) X hP hS (by decide) (by omega) mbX1_init_10 hW0.2.2.2.2.2.1 mbX1_init_6 (fun j hj => (hG.at (i := 143 + 1 + j) (by omega) (hc63 j hj).1).trans (by omega)) rfl (fun j hj => enc_z (hc63 j hj).2.2.2 (fun i => (hM _ i (hc63 j hj).2.1).trans (bM_nil (hc63 j hj).2.2.1)) (fun i => hMl _ i (hc63 j hj).2.1)) (by decide) (by decide) rfl rfl (by decide) (by decide) (by decide) (Nat.le_of_ble_eq_true rfl) (Nat.le_of_ble_eq_true rfl) dX1_init_63 (fun H hP hS => ?_)
  refine kc_put X (ci := 1) (C := RX1) (T := TX1) (N := 8) (j := 5) hP hS (by decide) rfl uX1_init_X1 tyX1_ok nmX1 (by decide) (by decide) mbX1_init_13 hname rfl (fv_ref (hG.at (i := 143) (by decide) (by decide)) rfl) rfl rfl dX1_init_67 (fun H locs hP hS => ?_)
  refine lv_aload_n hx hb dX1_init_70 rfl (lv_at hl 0 rfl) ?_
  refine lv_iconst (v := 0) hx hb dX1_init_71 (by decide) ?_
  refine kc_put X (ci := 1) (C := RX1) (T := TX1) (N := 8) (j := 6) hP hS (by decide) rfl uX1_init_X1 tyX1_ok nmX1 (by decide) (by decide) mbX1_init_14 hname rfl (fv_int ((hM 130 6 (by decide)).trans rfl) rfl) rfl rfl dX1_init_72 (fun H locs hP hS => ?_)
  refine lv_aload_n hx hb dX1_init_75 rfl (lv_at hl 0 rfl) ?_
  refine lv_iconst (v := 0) hx hb dX1_init_76 (by decide) ?_
  refine kc_put X (ci := 1) (C := RX1) (T := TX1) (N := 8) (j := 7) hP hS (by decide) rfl uX1_init_X1 tyX1_ok nmX1 (by decide) (by decide) mbX1_init_15 hname rfl (fv_int ((hM 130 7 (by decide)).trans rfl) rfl) rfl rfl dX1_init_77 (fun H locs hP hS => ?_)
  exact kc_ret X (kW_end hP rfl rfl) hS hr hlocks dX1_init_80
