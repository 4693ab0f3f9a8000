/-! walks: written by wip/whole/gen/gen.py out of the printed names -/
section
variable {p : Program} {l : Launch} {e : Env} {s : State} {m : MethodId} {args : Array Value} {below : List Frame} {meth : Method} {c : Code} {Q : State → Prop} {g : GT}
/-! X4_begin -/
def rmX4_begin : Room := { frames := 1, cells := 0, slots := 0, locals := 23 }
theorem uX4_begin_X4 : ∀ w ∈ wsX40, w ∈ wsX4_begin := by decide +kernel
theorem mbX4_begin_1 : Cond.fieldLink RX4 9 "FootANight$Ring" "n" "I" ∈ wsX4_begin := by decide +kernel
theorem mbX4_begin_2 : Cond.fieldLink RX4 30 "FootANight$Ring" "lands" "[[I" ∈ wsX4_begin := by decide +kernel
theorem mbX4_begin_3 : Cond.fieldLink RX4 33 "FootANight$Ring" "purses" "[J" ∈ wsX4_begin := by decide +kernel
theorem mbX4_begin_4 : Cond.fieldLink RX4 37 "FootANight$Ring" "stakes" "[[I" ∈ wsX4_begin := by decide +kernel
set_option maxHeartbeats 4000000 in
set_option maxRecDepth 100000 in
theorem wl_X4_begin_7 (X : CxG g p s m args c cX4_begin 4 RX4 wsX4_begin) {r0 : Nat} (okr0 : okRing g r0) {fu : Nat} {x : Mem} (kx0 : ∀ (M2 : Mem) , x = M2 → ∀ (H : Heap) (locs : List Loc) (ls : Array Slot), va_P (gD g) vwCl (wlG g M2) H → va_S (AbG g) s.heap H locs → lv_has ls 4 [] → W p l e (headSpec wsX4_begin rmX4_begin).room s m args below meth c H locs 0 0 Q (F0 m 81 ls [])) {n : Nat} {q0 : Int32 × Mem} (h : lp (b_X4_begin_7 fu r0) n q0 = some x) : ∀ (H : Heap) (locs : List Loc) (ls : Array Slot), va_P (gD g) vwCl (wlG g q0.2) H → va_S (AbG g) s.heap H locs → lv_has ls 4 [(0, .ref (ga g r0)), (2, .int q0.1)] → W p l e (headSpec wsX4_begin rmX4_begin).room s m args below meth c H locs 0 0 Q (F0 m 7 ls []) := by
  refine lp_elim (P := fun q0 : Int32 × Mem => ∀ (H : Heap) (locs : List Loc) (ls : Array Slot), va_P (gD g) vwCl (wlG g q0.2) H → va_S (AbG g) s.heap H locs → lv_has ls 4 [(0, .ref (ga g r0)), (2, .int q0.1)] → W p l e (headSpec wsX4_begin rmX4_begin).room s m args below meth c H locs 0 0 Q (F0 m 7 ls [])) (fun q1 o hm hI hX => ?_) n q0 h
  obtain ⟨c2, M⟩ := q1
  have kb : ∀ (d2 : Int32) (M2 : Mem) , o = .inl (d2, M2) → ∀ (H : Heap) (locs : List Loc) (ls : Array Slot), va_P (gD g) vwCl (wlG g M2) H → va_S (AbG g) s.heap H locs → lv_has ls 4 [(0, .ref (ga g r0)), (2, .int d2)] → W p l e (headSpec wsX4_begin rmX4_begin).room s m args below meth c H locs 0 0 Q (F0 m 7 ls []) := fun d2 M2 e => hI _ e
  have kx0 : ∀ (M2 : Mem) , o = .inr M2 → ∀ (H : Heap) (locs : List Loc) (ls : Array Slot), va_P (gD g) vwCl (wlG g M2) H → va_S (AbG g) s.heap H locs → lv_has ls 4 [] → W p l e (headSpec wsX4_begin rmX4_begin).room s m args below meth c H locs 0 0 Q (F0 m 81 ls []) := fun M2 e => kx0 M2 (hX _ e).symm
  clear hI hX
  intro H locs ls hP hS hl
  obtain ⟨⟨hx, hb, hml, hown, hts⟩, -, -⟩ := id X
  have hl : lv_has ls 4 [(0, .ref (ga g r0)), (2, .int c2)] := hl
  have hP : va_P (gD g) vwCl (wlG g M) H := hP
  unfold b_X4_begin_7 at hm
  replace hm := un2_e hm
  refine lv_iload_n hx hb dX4_begin_7 rfl (lv_at hl 1 rfl) ?_
  refine lv_bipush (v := 10) hx hb dX4_begin_8 (by decide) ?_
  refine lv_icmp_ge (tgt := 81) hx hb dX4_begin_10 (by decide) (fun h_3 => ?_) (fun h_3 => ?_)
  · rw [if_pos h_3] at hm
    exact kx0 M (Option.some.inj hm).symm _ _ _ hP hS (lv_sub hl [] rfl)
  · rw [if_neg h_3] at hm
    refine lv_aload_n hx hb dX4_begin_13 rfl (lv_at hl 0 rfl) ?_
    refine xg_X4_5 X hP okr0 uX4_begin_X4 mbX4_begin_2 dX4_begin_14 ?_
    refine lv_iload_n hx hb dX4_begin_17 rfl (lv_at hl 1 rfl) ?_
    obtain ⟨hb_4, hm⟩ := chk_elim hm
    refine x_aaldI X hP okr0.lands hb_4 dX4_begin_18 ?_
    refine lv_astore_n (lv' := [(3, .ref (ga g (r0 + 8 + ix c2))), (0, .ref (ga g r0)), (2, .int c2)]) hx hb dX4_begin_19 rfl hl (by decide) rfl (fun ls hl => ?_)
    refine lv_aload_n hx hb dX4_begin_20 rfl (lv_at hl 0 rfl) ?_
    refine lv_iconst (v := 0) hx hb dX4_begin_21 (by decide) ?_
    obtain ⟨M_6, hc_5, hm⟩ := bind_elim hm
    refine x_callv (x_runS (As := [.ref (ga g (r0 + 8 + ix c2)), .int 0]) (rest := []) X hP hS (c_J7_fill_53178 l X.2.2 (okr0.land (inb_lt hb_4)) hc_5) (va_cwS 2 hts gX4_begin_J7_fill_53178 rfl rfl rfl (by decide +kernel) ⟨Nat.le_of_ble_eq_true rfl, Nat.le_of_ble_eq_true rfl⟩) rfl hl.1 rfl (Nat.le_of_ble_eq_true rfl) dX4_begin_22 ⟨Nat.zero_le _, Nat.zero_le _⟩) hS (fun H locs hP hS => ?_)
    refine lv_aload_n hx hb dX4_begin_25 rfl (lv_at hl 0 rfl) ?_
    refine lv_iconst (v := 0) hx hb dX4_begin_26 (by decide) ?_
    refine lv_bipush (v := 10) hx hb dX4_begin_27 (by decide) ?_
    obtain ⟨M_7, hM_8, hm⟩ := bnd_elim hm
    refine x_iast X hP hS (okr0.land (inb_lt hb_4)) hM_8 (show inb 0 9 = true from rfl) dX4_begin_29 (fun H locs hP hS => ?_)
    refine lv_aload_n hx hb dX4_begin_30 rfl (lv_at hl 0 rfl) ?_
    refine lv_iconst (v := 2) hx hb dX4_begin_31 (by decide) ?_
    refine lv_iload_n hx hb dX4_begin_32 rfl (lv_at hl 2 rfl) ?_
    obtain ⟨M_9, hM_10, hm⟩ := bnd_elim hm
    refine x_iast X hP hS (okr0.land (inb_lt hb_4)) hM_10 (show inb 2 9 = true from rfl) dX4_begin_33 (fun H locs hP hS => ?_)
    refine lv_aload_n hx hb dX4_begin_34 rfl (lv_at hl 0 rfl) ?_
    refine lv_iconst (v := 5) hx hb dX4_begin_35 (by decide) ?_
    refine lv_bipush (v := 99) hx hb dX4_begin_36 (by decide) ?_
    obtain ⟨M_11, hM_12, hm⟩ := bnd_elim hm
    refine x_iast X hP hS (okr0.land (inb_lt hb_4)) hM_12 (show inb 5 9 = true from rfl) dX4_begin_38 (fun H locs hP hS => ?_)
    refine lv_aload_n hx hb dX4_begin_39 rfl (lv_at hl 0 rfl) ?_
    refine lv_bipush (v := 7) hx hb dX4_begin_40 (by decide) ?_
    refine lv_iconst (v := (-1)) hx hb dX4_begin_42 (by decide) ?_
    obtain ⟨M_13, hM_14, hm⟩ := bnd_elim hm
    refine x_iast X hP hS (okr0.land (inb_lt hb_4)) hM_14 (show inb 7 9 = true from rfl) dX4_begin_43 (fun H locs hP hS => ?_)
    refine lv_aload_n hx hb dX4_begin_44 rfl (lv_at hl 0 rfl) ?_
    refine lv_bipush (v := 8) hx hb dX4_begin_45 (by decide) ?_
    refine lv_iconst (v := (-1)) hx hb dX4_begin_47 (by decide) ?_
    obtain ⟨M_15, hM_16, hm⟩ := bnd_elim hm
    refine x_iast X hP hS (okr0.land (inb_lt hb_4)) hM_16 (show inb 8 9 = true from rfl) dX4_begin_48 (fun H locs hP hS => ?_)
    refine lv_aload_n hx hb dX4_begin_49 rfl (lv_at hl 1 rfl) ?_
    refine xg_X4_6 X hP okr0 uX4_begin_X4 mbX4_begin_3 dX4_begin_50 ?_
    refine lv_iload_n hx hb dX4_begin_53 rfl (lv_at hl 2 rfl) ?_
    refine lv_lconst (v := 0) hx hb dX4_begin_54 (by decide) ?_
    obtain ⟨M_17, hM_18, hm⟩ := bnd_elim hm
    refine x_last X hP hS okr0.purses hM_18 hb_4 dX4_begin_55 (fun H locs hP hS => ?_)
    refine lv_aload_n hx hb dX4_begin_56 rfl (lv_at hl 1 rfl) ?_
    refine xg_X4_7 X hP okr0 uX4_begin_X4 mbX4_begin_4 dX4_begin_57 ?_
    refine lv_iload_n hx hb dX4_begin_60 rfl (lv_at hl 2 rfl) ?_
    refine x_aaldI X hP okr0.stakes hb_4 dX4_begin_61 ?_
    refine lv_iconst (v := 0) hx hb dX4_begin_62 (by decide) ?_
    obtain ⟨M_20, hc_19, hm⟩ := bind_elim hm
    refine x_callv (x_runS (As := [.ref (ga g (r0 + 18 + ix c2)), .int 0]) (rest := []) X hP hS (c_J7_fill_53178 l X.2.2 (okr0.stake (inb_lt hb_4)) hc_19) (va_cwS 2 hts gX4_begin_J7_fill_53178 rfl rfl rfl (by decide +kernel) ⟨Nat.le_of_ble_eq_true rfl, Nat.le_of_ble_eq_true rfl⟩) rfl hl.1 rfl (Nat.le_of_ble_eq_true rfl) dX4_begin_63 ⟨Nat.zero_le _, Nat.zero_le _⟩) hS (fun H locs hP hS => ?_)
    refine lv_aload_n hx hb dX4_begin_66 rfl (lv_at hl 1 rfl) ?_
    refine xg_X4_7 X hP okr0 uX4_begin_X4 mbX4_begin_4 dX4_begin_67 ?_
    refine lv_iload_n hx hb dX4_begin_70 rfl (lv_at hl 2 rfl) ?_
    refine x_aaldI X hP okr0.stakes hb_4 dX4_begin_71 ?_
    refine lv_iconst (v := 3) hx hb dX4_begin_72 (by decide) ?_
    refine lv_iconst (v := (-1)) hx hb dX4_begin_73 (by decide) ?_
    obtain ⟨M_21, hM_22, hm⟩ := bnd_elim hm
    refine x_iast X hP hS (okr0.stake (inb_lt hb_4)) hM_22 (show inb 3 4 = true from rfl) dX4_begin_74 (fun H locs hP hS => ?_)
    obtain ⟨v_23, hv_24, hm⟩ := bnd_elim hm
    refine lv_iinc (v := v_23) (lv' := [(2, .int v_23), (3, .ref (ga g (r0 + 8 + ix c2))), (0, .ref (ga g r0))]) hx hb dX4_begin_75 hl (k := 2) rfl (by rw [hv_24]; rfl) (by decide) rfl (fun ls hl => ?_)
    refine lv_goto (tgt := 7) hx hb dX4_begin_78 (by decide) ?_
    exact kb v_23 M_21 (Option.some.inj hm).symm _ _ _ hP hS (lv_sub hl [2, 0] rfl)

set_option maxHeartbeats 4000000 in
set_option maxRecDepth 100000 in
theorem c_X4_begin (l : Launch) {g : GT} (hA : AxG g) {r0 : Nat} (okr0 : okRing g r0) {fu : Nat} {M : Mem} {a1 : Int32} {MM : Mem} (hm : m_X4_begin fu r0 M a1 = some MM) : CV l yX4_begin wsX4_begin rmX4_begin g [.ref (ga g r0), .int a1] M MM := by
  refine Met.ofW (cc := cX4_begin) (maxL := 4) (ret := none) (by decide) rfl ?_
  intro p e s m args below meth c s₁ B hml hv
  obtain ⟨rfl, hSx, hP⟩ := hv
  have hr := B.returns
  have hlocks := B.notSynchronized
  have X : CxG g p s m _ c cX4_begin 4 RX4 wsX4_begin := ⟨⟨B.exec, B.bytes, hml, findClass_of_methodNamed B.named, atoms_spec (ws := wsX4_begin) B.pre⟩, hSx, hA⟩
  have hS : va_S (AbG g) s.heap s.heap [] := va_S.rf
  have hl := lv_entry (([.ref (ga g r0), .int a1] : List Value)) (n := 4) (Nat.le_of_ble_eq_true rfl)
  rw [lg_entry_eq]
  generalize (lg_sl (([.ref (ga g r0), .int a1] : List Value)) ++ List.replicate (4 - (lg_sl (([.ref (ga g r0), .int a1] : List Value))).length) Slot.unset).toArray = ls at hl ⊢
  have hl : lv_has ls 4 [(0, .ref (ga g r0)), (1, .int a1)] := hl
  obtain ⟨⟨hx, hb, hml, hown, hts⟩, -, -⟩ := id X
  unfold m_X4_begin at hm
  refine lv_aload_n hx hb dX4_begin_0 rfl (lv_at hl 0 rfl) ?_
  refine lv_iload_n hx hb dX4_begin_1 rfl (lv_at hl 1 rfl) ?_
  obtain ⟨M_1, hM_2, hm⟩ := bnd_elim hm
  refine xp_X4_0 X hP okr0 uX4_begin_X4 mbX4_begin_1 hS hM_2 dX4_begin_2 (fun H locs hP hS => ?_)
  refine lv_iconst (v := 0) hx hb dX4_begin_5 (by decide) ?_
  refine lv_istore_n (lv' := [(2, .int 0), (0, .ref (ga g r0)), (1, .int a1)]) hx hb dX4_begin_6 rfl hl (by decide) rfl (fun ls hl => ?_)
  obtain ⟨M_27, hL_26, hm⟩ := bind_elim hm
  refine wl_X4_begin_7 X okr0 ?_ hL_26 _ _ _ hP hS (lv_sub hl [1, 0] rfl)
  · intro z_M_27 e_M_27 H locs ls hP hS hl
    subst e_M_27
    replace hm := un1_e hm
    cases hm
    exact x_vret X hP hS hr hlocks dX4_begin_81


/-! X4_has -/
def rmX4_has : Room := { frames := 0, cells := 0, slots := 0, locals := 0 }
theorem uX4_has_X4 : ∀ w ∈ wsX40, w ∈ wsX4_has := by decide +kernel
theorem mbX4_has_1 : Cond.fieldLink RX4 9 "FootANight$Ring" "n" "I" ∈ wsX4_has := by decide +kernel
set_option maxHeartbeats 4000000 in
set_option maxRecDepth 100000 in
theorem c_X4_has (l : Launch) {g : GT} (hA : AxG g) {r0 : Nat} (okr0 : okRing g r0) {M : Mem} {a1 : Int32} {rr : Int32} (hm : m_X4_has r0 M a1 = some rr) : CI l yX4_has wsX4_has rmX4_has g [.ref (ga g r0), .int a1] M rr M := by
  refine Met.ofW (cc := cX4_has) (maxL := 2) (ret := (some .boolean)) (by decide) rfl ?_
  intro p e s m args below meth c s₁ B hml hv
  obtain ⟨rfl, hSx, hP⟩ := hv
  have hr := B.returns
  have hlocks := B.notSynchronized
  have X : CxG g p s m _ c cX4_has 2 RX4 wsX4_has := ⟨⟨B.exec, B.bytes, hml, findClass_of_methodNamed B.named, atoms_spec (ws := wsX4_has) B.pre⟩, hSx, hA⟩
  have hS : va_S (AbG g) s.heap s.heap [] := va_S.rf
  have hl := lv_entry (([.ref (ga g r0), .int a1] : List Value)) (n := 2) (Nat.le_of_ble_eq_true rfl)
  rw [lg_entry_eq]
  generalize (lg_sl (([.ref (ga g r0), .int a1] : List Value)) ++ List.replicate (2 - (lg_sl (([.ref (ga g r0), .int a1] : List Value))).length) Slot.unset).toArray = ls at hl ⊢
  have hl : lv_has ls 2 [(0, .ref (ga g r0)), (1, .int a1)] := hl
  obtain ⟨⟨hx, hb, hml, hown, hts⟩, -, -⟩ := id X
  unfold m_X4_has at hm
  refine lv_iload_n hx hb dX4_has_0 rfl (lv_at hl 1 rfl) ?_
  refine lv_if_lt (tgt := 16) hx hb dX4_has_1 (by decide) (fun h_1 => ?_) (fun h_1 => ?_)
  · rw [if_pos h_1] at hm
    refine lv_iconst (v := 0) hx hb dX4_has_16 (by decide) ?_
    cases hm
    exact x_zret X (by decide) hP hS hr hlocks dX4_has_17
  · rw [if_neg h_1] at hm
    refine lv_iload_n hx hb dX4_has_4 rfl (lv_at hl 1 rfl) ?_
    refine lv_aload_n hx hb dX4_has_5 rfl (lv_at hl 0 rfl) ?_
    refine xg_X4_0 X hP okr0 uX4_has_X4 mbX4_has_1 dX4_has_6 ?_
    refine lv_icmp_ge (tgt := 16) hx hb dX4_has_9 (by decide) (fun h_2 => ?_) (fun h_2 => ?_)
    · rw [if_pos h_2] at hm
      refine lv_iconst (v := 0) hx hb dX4_has_16 (by decide) ?_
      cases hm
      exact x_zret X (by decide) hP hS hr hlocks dX4_has_17
    · rw [if_neg h_2] at hm
      refine lv_iconst (v := 1) hx hb dX4_has_12 (by decide) ?_
      refine lv_goto (tgt := 17) hx hb dX4_has_13 (by decide) ?_
      cases hm
      exact x_zret X (by decide) hP hS hr hlocks dX4_has_17


/-! X4_worthOf -/
def rmX4_worthOf : Room := { frames := 1, cells := 0, slots := 0, locals := 21 }
theorem uX4_worthOf_X4 : ∀ w ∈ wsX40, w ∈ wsX4_worthOf := by decide +kernel
theorem mbX4_worthOf_1 : Cond.fieldLink RX4 24 "FootANight$Ring" "told" "[I" ∈ wsX4_worthOf := by decide +kernel
theorem mbX4_worthOf_2 : Cond.methodLink RX4 85 Lib.Math.min.name ∈ wsX4_worthOf := by decide +kernel
theorem mbX4_worthOf_3 : Cond.static Lib.Math.min.name ∈ wsX4_worthOf := by decide +kernel
theorem mbX4_worthOf_4 : Cond.initialized "java/lang/Math" ∈ wsX4_worthOf := by decide +kernel
theorem mbX4_worthOf_5 : Cond.code Lib.Math.min.name Lib.Math.min.code 2 (some .int) ∈ wsX4_worthOf := by decide +kernel
theorem mbX4_worthOf_6 : Cond.methodLink RX4 91 Lib.Math.max.name ∈ wsX4_worthOf := by decide +kernel
theorem mbX4_worthOf_7 : Cond.static Lib.Math.max.name ∈ wsX4_worthOf := by decide +kernel
theorem mbX4_worthOf_8 : Cond.code Lib.Math.max.name Lib.Math.max.code 2 (some .int) ∈ wsX4_worthOf := by decide +kernel
set_option maxHeartbeats 4000000 in
set_option maxRecDepth 100000 in
theorem c_X4_worthOf (l : Launch) {g : GT} (hA : AxG g) {r0 : Nat} (okr0 : okRing g r0) {M : Mem} {a1 : Int32} {rr : Int32} (hm : m_X4_worthOf r0 M a1 = some rr) : CI l yX4_worthOf wsX4_worthOf rmX4_worthOf g [.ref (ga g r0), .int a1] M rr M := by
  refine Met.ofW (cc := cX4_worthOf) (maxL := 2) (ret := (some .int)) (by decide) rfl ?_
  intro p e s m args below meth c s₁ B hml hv
  obtain ⟨rfl, hSx, hP⟩ := hv
  have hr := B.returns
  have hlocks := B.notSynchronized
  have X : CxG g p s m _ c cX4_worthOf 2 RX4 wsX4_worthOf := ⟨⟨B.exec, B.bytes, hml, findClass_of_methodNamed B.named, atoms_spec (ws := wsX4_worthOf) B.pre⟩, hSx, hA⟩
  have hS : va_S (AbG g) s.heap s.heap [] := va_S.rf
  have hl := lv_entry (([.ref (ga g r0), .int a1] : List Value)) (n := 2) (Nat.le_of_ble_eq_true rfl)
  rw [lg_entry_eq]
  generalize (lg_sl (([.ref (ga g r0), .int a1] : List Value)) ++ List.replicate (2 - (lg_sl (([.ref (ga g r0), .int a1] : List Value))).length) Slot.unset).toArray = ls at hl ⊢
  have hl : lv_has ls 2 [(0, .ref (ga g r0)), (1, .int a1)] := hl
  obtain ⟨⟨hx, hb, hml, hown, hts⟩, -, -⟩ := id X
  unfold m_X4_worthOf at hm
  refine lv_aload_n hx hb dX4_worthOf_0 rfl (lv_at hl 0 rfl) ?_
  refine xg_X4_4 X hP okr0 uX4_worthOf_X4 mbX4_worthOf_1 dX4_worthOf_1 ?_
  refine lv_iconst (v := 0) hx hb dX4_worthOf_4 (by decide) ?_
  refine x_iald X hP okr0.told (show inb 0 10 = true from rfl) dX4_worthOf_5 ?_
  refine lv_iload_n hx hb dX4_worthOf_6 rfl (lv_at hl 1 rfl) ?_
  refine lv_bipush (v := 10) hx hb dX4_worthOf_7 (by decide) ?_
  refine va_mmin hx hb (hml.trans hl.1.symm) hown (hts _ mbX4_worthOf_2) (hts _ mbX4_worthOf_3) (hts _ mbX4_worthOf_4) (hts _ mbX4_worthOf_5) (Nat.le_of_ble_eq_true rfl) (Nat.le_of_ble_eq_true rfl) (Nat.zero_le _) (Nat.zero_le _) dX4_worthOf_9 ?_
  refine lv_imul hx hb dX4_worthOf_12 ?_
  refine lv_aload_n hx hb dX4_worthOf_13 rfl (lv_at hl 0 rfl) ?_
  refine xg_X4_4 X hP okr0 uX4_worthOf_X4 mbX4_worthOf_1 dX4_worthOf_14 ?_
  refine lv_iconst (v := 1) hx hb dX4_worthOf_17 (by decide) ?_
  refine x_iald X hP okr0.told (show inb 1 10 = true from rfl) dX4_worthOf_18 ?_
  refine lv_iconst (v := 0) hx hb dX4_worthOf_19 (by decide) ?_
  refine lv_iload_n hx hb dX4_worthOf_20 rfl (lv_at hl 1 rfl) ?_
  refine lv_bipush (v := 30) hx hb dX4_worthOf_21 (by decide) ?_
  refine va_mmin hx hb (hml.trans hl.1.symm) hown (hts _ mbX4_worthOf_2) (hts _ mbX4_worthOf_3) (hts _ mbX4_worthOf_4) (hts _ mbX4_worthOf_5) (Nat.le_of_ble_eq_true rfl) (Nat.le_of_ble_eq_true rfl) (Nat.zero_le _) (Nat.zero_le _) dX4_worthOf_23 ?_
  refine lv_bipush (v := 10) hx hb dX4_worthOf_26 (by decide) ?_
  refine lv_isub hx hb dX4_worthOf_28 ?_
  refine va_mmax hx hb (hml.trans hl.1.symm) hown (hts _ mbX4_worthOf_6) (hts _ mbX4_worthOf_7) (hts _ mbX4_worthOf_4) (hts _ mbX4_worthOf_8) (Nat.le_of_ble_eq_true rfl) (Nat.le_of_ble_eq_true rfl) (Nat.zero_le _) (Nat.zero_le _) dX4_worthOf_29 ?_
  refine lv_imul hx hb dX4_worthOf_32 ?_
  refine lv_iadd hx hb dX4_worthOf_33 ?_
  refine lv_aload_n hx hb dX4_worthOf_34 rfl (lv_at hl 0 rfl) ?_
  refine xg_X4_4 X hP okr0 uX4_worthOf_X4 mbX4_worthOf_1 dX4_worthOf_35 ?_
  refine lv_iconst (v := 2) hx hb dX4_worthOf_38 (by decide) ?_
  refine x_iald X hP okr0.told (show inb 2 10 = true from rfl) dX4_worthOf_39 ?_
  refine lv_iconst (v := 0) hx hb dX4_worthOf_40 (by decide) ?_
  refine lv_iload_n hx hb dX4_worthOf_41 rfl (lv_at hl 1 rfl) ?_
  refine lv_bipush (v := 30) hx hb dX4_worthOf_42 (by decide) ?_
  refine lv_isub hx hb dX4_worthOf_44 ?_
  refine va_mmax hx hb (hml.trans hl.1.symm) hown (hts _ mbX4_worthOf_6) (hts _ mbX4_worthOf_7) (hts _ mbX4_worthOf_4) (hts _ mbX4_worthOf_8) (Nat.le_of_ble_eq_true rfl) (Nat.le_of_ble_eq_true rfl) (Nat.zero_le _) (Nat.zero_le _) dX4_worthOf_45 ?_
  refine lv_imul hx hb dX4_worthOf_48 ?_
  refine lv_iadd hx hb dX4_worthOf_49 ?_
  cases hm
  exact x_iret X hP hS hr hlocks dX4_worthOf_50


/-! X4_purseAsInt -/
def rmX4_purseAsInt : Room := { frames := 0, cells := 0, slots := 0, locals := 0 }
theorem uX4_purseAsInt_X4 : ∀ w ∈ wsX40, w ∈ wsX4_purseAsInt := by decide +kernel
theorem mbX4_purseAsInt_1 : Cond.fieldLink RX4 33 "FootANight$Ring" "purses" "[J" ∈ wsX4_purseAsInt := by decide +kernel
set_option maxHeartbeats 4000000 in
set_option maxRecDepth 100000 in
theorem c_X4_purseAsInt (l : Launch) {g : GT} (hA : AxG g) {r0 : Nat} (okr0 : okRing g r0) {M : Mem} {a1 : Int32} {rr : Int32} (hm : m_X4_purseAsInt r0 M a1 = some rr) : CI l yX4_purseAsInt wsX4_purseAsInt rmX4_purseAsInt g [.ref (ga g r0), .int a1] M rr M := by
  refine Met.ofW (cc := cX4_purseAsInt) (maxL := 2) (ret := (some .int)) (by decide) rfl ?_
  intro p e s m args below meth c s₁ B hml hv
  obtain ⟨rfl, hSx, hP⟩ := hv
  have hr := B.returns
  have hlocks := B.notSynchronized
  have X : CxG g p s m _ c cX4_purseAsInt 2 RX4 wsX4_purseAsInt := ⟨⟨B.exec, B.bytes, hml, findClass_of_methodNamed B.named, atoms_spec (ws := wsX4_purseAsInt) B.pre⟩, hSx, hA⟩
  have hS : va_S (AbG g) s.heap s.heap [] := va_S.rf
  have hl := lv_entry (([.ref (ga g r0), .int a1] : List Value)) (n := 2) (Nat.le_of_ble_eq_true rfl)
  rw [lg_entry_eq]
  generalize (lg_sl (([.ref (ga g r0), .int a1] : List Value)) ++ List.replicate (2 - (lg_sl (([.ref (ga g r0), .int a1] : List Value))).length) Slot.unset).toArray = ls at hl ⊢
  have hl : lv_has ls 2 [(0, .ref (ga g r0)), (1, .int a1)] := hl
  obtain ⟨⟨hx, hb, hml, hown, hts⟩, -, -⟩ := id X
  unfold m_X4_purseAsInt at hm
  refine lv_aload_n hx hb dX4_purseAsInt_0 rfl (lv_at hl 0 rfl) ?_
  refine xg_X4_6 X hP okr0 uX4_purseAsInt_X4 mbX4_purseAsInt_1 dX4_purseAsInt_1 ?_
  refine lv_iload_n hx hb dX4_purseAsInt_4 rfl (lv_at hl 1 rfl) ?_
  obtain ⟨hb_1, hm⟩ := chk_elim hm
  refine x_lald X hP okr0.purses hb_1 dX4_purseAsInt_5 ?_
  refine lv_l2i (v := (rdl M (r0 + 36) (ix a1)).toInt32) hx hb dX4_purseAsInt_6 rfl ?_
  cases hm
  exact x_iret X hP hS hr hlocks dX4_purseAsInt_7


/-! X4_negate -/
def rmX4_negate : Room := { frames := 0, cells := 0, slots := 0, locals := 0 }
theorem uX4_negate_X4 : ∀ w ∈ wsX40, w ∈ wsX4_negate := by decide +kernel
theorem mbX4_negate_1 : Cond.fieldLink RX4 53 "FootANight$Ring" "stack" "[I" ∈ wsX4_negate := by decide +kernel
set_option maxHeartbeats 4000000 in
set_option maxRecDepth 100000 in
theorem wj_X4_negate_27 (X : CxG g p s m args c cX4_negate 2 RX4 wsX4_negate) {r0 : Nat} (okr0 : okRing g r0) {M : Mem} {t1 : Int32} {t2 : Int32} {MM : Mem} (hr : meth.sig.returnType = none) (hlocks : meth.locks = false) (hm : j_X4_negate_27 r0 M t1 t2 = some MM) {H : Heap} {locs : List Loc} {ls : Array Slot} (hP : va_P (gD g) vwCl (wlG g M) H) (hS : va_S (AbG g) s.heap H locs) (hl : lv_has ls 2 []) : W p l e (headSpec wsX4_negate rmX4_negate).room s m args below meth c H locs 0 0 (MQ below (va_Qv (fun (_ : Unit) => True) (fun _ t => va_P (gD g) vwCl (wlG g MM) t.heap) (AbG g)) args s 0 0 (AbG g)) (F0 m 27 ls [.int t2, .int t1, .ref (ga g (r0 + 7))]) := by
  obtain ⟨⟨hx, hb, hml, hown, hts⟩, -, -⟩ := id X
  unfold j_X4_negate_27 at hm
  obtain ⟨hb_4, hm⟩ := chk_elim hm
  obtain ⟨M_5, hM_6, hm⟩ := bnd_elim hm
  refine x_iast X hP hS okr0.stack hM_6 hb_4 dX4_negate_27 (fun H locs hP hS => ?_)
  cases hm
  exact x_vret X hP hS hr hlocks dX4_negate_28

set_option maxHeartbeats 4000000 in
set_option maxRecDepth 100000 in
theorem c_X4_negate (l : Launch) {g : GT} (hA : AxG g) {r0 : Nat} (okr0 : okRing g r0) {M : Mem} {a1 : Int32} {MM : Mem} (hm : m_X4_negate r0 M a1 = some MM) : CV l yX4_negate wsX4_negate rmX4_negate g [.ref (ga g r0), .int a1] M MM := by
  refine Met.ofW (cc := cX4_negate) (maxL := 2) (ret := none) (by decide) rfl ?_
  intro p e s m args below meth c s₁ B hml hv
  obtain ⟨rfl, hSx, hP⟩ := hv
  have hr := B.returns
  have hlocks := B.notSynchronized
  have X : CxG g p s m _ c cX4_negate 2 RX4 wsX4_negate := ⟨⟨B.exec, B.bytes, hml, findClass_of_methodNamed B.named, atoms_spec (ws := wsX4_negate) B.pre⟩, hSx, hA⟩
  have hS : va_S (AbG g) s.heap s.heap [] := va_S.rf
  have hl := lv_entry (([.ref (ga g r0), .int a1] : List Value)) (n := 2) (Nat.le_of_ble_eq_true rfl)
  rw [lg_entry_eq]
  generalize (lg_sl (([.ref (ga g r0), .int a1] : List Value)) ++ List.replicate (2 - (lg_sl (([.ref (ga g r0), .int a1] : List Value))).length) Slot.unset).toArray = ls at hl ⊢
  have hl : lv_has ls 2 [(0, .ref (ga g r0)), (1, .int a1)] := hl
  obtain ⟨⟨hx, hb, hml, hown, hts⟩, -, -⟩ := id X
  unfold m_X4_negate at hm
  refine lv_iload_n hx hb dX4_negate_0 rfl (lv_at hl 1 rfl) ?_
  refine lv_if_le (tgt := 28) hx hb dX4_negate_1 (by decide) (fun h_1 => ?_) (fun h_1 => ?_)
  · rw [if_pos h_1] at hm
    cases hm
    exact x_vret X hP hS hr hlocks dX4_negate_28
  · rw [if_neg h_1] at hm
    refine lv_aload_n hx hb dX4_negate_4 rfl (lv_at hl 0 rfl) ?_
    refine xg_X4_11 X hP okr0 uX4_negate_X4 mbX4_negate_1 dX4_negate_5 ?_
    refine lv_iload_n hx hb dX4_negate_8 rfl (lv_at hl 1 rfl) ?_
    refine lv_iconst (v := 1) hx hb dX4_negate_9 (by decide) ?_
    refine lv_isub hx hb dX4_negate_10 ?_
    refine lv_aload_n hx hb dX4_negate_11 rfl (lv_at hl 0 rfl) ?_
    refine xg_X4_11 X hP okr0 uX4_negate_X4 mbX4_negate_1 dX4_negate_12 ?_
    refine lv_iload_n hx hb dX4_negate_15 rfl (lv_at hl 1 rfl) ?_
    refine lv_iconst (v := 1) hx hb dX4_negate_16 (by decide) ?_
    refine lv_isub hx hb dX4_negate_17 ?_
    obtain ⟨hb_2, hm⟩ := chk_elim hm
    refine x_iald X hP okr0.stack hb_2 dX4_negate_18 ?_
    refine lv_if_ne (tgt := 26) hx hb dX4_negate_19 (by decide) (fun h_3 => ?_) (fun h_3 => ?_)
    · rw [if_neg h_3] at hm
      refine lv_iconst (v := 0) hx hb dX4_negate_26 (by decide) ?_
      exact wj_X4_negate_27 X okr0 hr hlocks hm hP hS (lv_sub hl [] rfl)
    · rw [if_pos h_3] at hm
      refine lv_iconst (v := 1) hx hb dX4_negate_22 (by decide) ?_
      refine lv_goto (tgt := 27) hx hb dX4_negate_23 (by decide) ?_
      exact wj_X4_negate_27 X okr0 hr hlocks hm hP hS (lv_sub hl [] rfl)


/-! X4_join -/
def rmX4_join : Room := { frames := 1, cells := 0, slots := 0, locals := 22 }
theorem uX4_join_X4 : ∀ w ∈ wsX40, w ∈ wsX4_join := by decide +kernel
theorem mbX4_join_1 : Cond.fieldLink RX4 53 "FootANight$Ring" "stack" "[I" ∈ wsX4_join := by decide +kernel
set_option maxHeartbeats 4000000 in
set_option maxRecDepth 100000 in
theorem c_X4_join (l : Launch) {g : GT} (hA : AxG g) {r0 : Nat} (okr0 : okRing g r0) {M : Mem} {a1 : Int32} {a2 : Int32} {rr : Int32} {MM : Mem} (hm : m_X4_join r0 M a1 a2 = some (rr, MM)) : CI l yX4_join wsX4_join rmX4_join g [.ref (ga g r0), .int a1, .int a2] M rr MM := by
  refine Met.ofW (cc := cX4_join) (maxL := 3) (ret := (some .int)) (by decide) rfl ?_
  intro p e s m args below meth c s₁ B hml hv
  obtain ⟨rfl, hSx, hP⟩ := hv
  have hr := B.returns
  have hlocks := B.notSynchronized
  have X : CxG g p s m _ c cX4_join 3 RX4 wsX4_join := ⟨⟨B.exec, B.bytes, hml, findClass_of_methodNamed B.named, atoms_spec (ws := wsX4_join) B.pre⟩, hSx, hA⟩
  have hS : va_S (AbG g) s.heap s.heap [] := va_S.rf
  have hl := lv_entry (([.ref (ga g r0), .int a1, .int a2] : List Value)) (n := 3) (Nat.le_of_ble_eq_true rfl)
  rw [lg_entry_eq]
  generalize (lg_sl (([.ref (ga g r0), .int a1, .int a2] : List Value)) ++ List.replicate (3 - (lg_sl (([.ref (ga g r0), .int a1, .int a2] : List Value))).length) Slot.unset).toArray = ls at hl ⊢
  have hl : lv_has ls 3 [(0, .ref (ga g r0)), (1, .int a1), (2, .int a2)] := hl
  obtain ⟨⟨hx, hb, hml, hown, hts⟩, -, -⟩ := id X
  unfold m_X4_join at hm
  refine lv_iload_n hx hb dX4_join_0 rfl (lv_at hl 2 rfl) ?_
  refine lv_iconst (v := 2) hx hb dX4_join_1 (by decide) ?_
  refine lv_icmp_ge (tgt := 7) hx hb dX4_join_2 (by decide) (fun h_1 => ?_) (fun h_1 => ?_)
  · rw [if_pos h_1] at hm
    refine lv_aload_n hx hb dX4_join_7 rfl (lv_at hl 0 rfl) ?_
    refine xg_X4_11 X hP okr0 uX4_join_X4 mbX4_join_1 dX4_join_8 ?_
    refine lv_iload_n hx hb dX4_join_11 rfl (lv_at hl 2 rfl) ?_
    refine lv_iconst (v := 2) hx hb dX4_join_12 (by decide) ?_
    refine lv_isub hx hb dX4_join_13 ?_
    refine lv_iload_n hx hb dX4_join_14 rfl (lv_at hl 1 rfl) ?_
    refine lv_aload_n hx hb dX4_join_15 rfl (lv_at hl 0 rfl) ?_
    refine xg_X4_11 X hP okr0 uX4_join_X4 mbX4_join_1 dX4_join_16 ?_
    refine lv_iload_n hx hb dX4_join_19 rfl (lv_at hl 2 rfl) ?_
    refine lv_iconst (v := 2) hx hb dX4_join_20 (by decide) ?_
    refine lv_isub hx hb dX4_join_21 ?_
    obtain ⟨hb_2, hm⟩ := chk_elim hm
    refine x_iald X hP okr0.stack hb_2 dX4_join_22 ?_
    refine lv_aload_n hx hb dX4_join_23 rfl (lv_at hl 0 rfl) ?_
    refine xg_X4_11 X hP okr0 uX4_join_X4 mbX4_join_1 dX4_join_24 ?_
    refine lv_iload_n hx hb dX4_join_27 rfl (lv_at hl 2 rfl) ?_
    refine lv_iconst (v := 1) hx hb dX4_join_28 (by decide) ?_
    refine lv_isub hx hb dX4_join_29 ?_
    obtain ⟨hb_3, hm⟩ := chk_elim hm
    refine x_iald X hP okr0.stack hb_3 dX4_join_30 ?_
    obtain ⟨r_5, hc_4, hm⟩ := bind_elim hm
    refine x_calli (x_runS (As := [.int a1, .int (rd M (r0 + 7) (ix (a2 - 2))), .int (rd M (r0 + 7) (ix (a2 - 1)))]) (rest := [.int (a2 - 2), .ref (ga g (r0 + 7))]) X hP hS (c_X2_joined l X.2.2 hc_4) (va_cwS 3 hts gX4_join_X2_joined rfl rfl rfl (by decide +kernel) ⟨Nat.le_of_ble_eq_true rfl, Nat.le_of_ble_eq_true rfl⟩) rfl hl.1 rfl (Nat.le_of_ble_eq_true rfl) dX4_join_31 ⟨Nat.zero_le _, Nat.zero_le _⟩) hS (fun H locs hP hS => ?_)
    obtain ⟨M_6, hM_7, hm⟩ := bnd_elim hm
    refine x_iast X hP hS okr0.stack hM_7 hb_2 dX4_join_34 (fun H locs hP hS => ?_)
    refine lv_iload_n hx hb dX4_join_35 rfl (lv_at hl 2 rfl) ?_
    refine lv_iconst (v := 1) hx hb dX4_join_36 (by decide) ?_
    refine lv_isub hx hb dX4_join_37 ?_
    cases hm
    exact x_iret X hP hS hr hlocks dX4_join_38
  · rw [if_neg h_1] at hm
    refine lv_iload_n hx hb dX4_join_5 rfl (lv_at hl 2 rfl) ?_
    cases hm
    exact x_iret X hP hS hr hlocks dX4_join_6


/-! X4_leftOf -/
def rmX4_leftOf : Room := { frames := 0, cells := 0, slots := 0, locals := 0 }
theorem uX4_leftOf_X4 : ∀ w ∈ wsX40, w ∈ wsX4_leftOf := by decide +kernel
theorem mbX4_leftOf_1 : Cond.fieldLink RX4 9 "FootANight$Ring" "n" "I" ∈ wsX4_leftOf := by decide +kernel
set_option maxHeartbeats 4000000 in
set_option maxRecDepth 100000 in
theorem c_X4_leftOf (l : Launch) {g : GT} (hA : AxG g) {r0 : Nat} (okr0 : okRing g r0) {M : Mem} {a1 : Int32} {rr : Int32} (hm : m_X4_leftOf r0 M a1 = some rr) : CI l yX4_leftOf wsX4_leftOf rmX4_leftOf g [.ref (ga g r0), .int a1] M rr M := by
  refine Met.ofW (cc := cX4_leftOf) (maxL := 2) (ret := (some .int)) (by decide) rfl ?_
  intro p e s m args below meth c s₁ B hml hv
  obtain ⟨rfl, hSx, hP⟩ := hv
  have hr := B.returns
  have hlocks := B.notSynchronized
  have X : CxG g p s m _ c cX4_leftOf 2 RX4 wsX4_leftOf := ⟨⟨B.exec, B.bytes, hml, findClass_of_methodNamed B.named, atoms_spec (ws := wsX4_leftOf) B.pre⟩, hSx, hA⟩
  have hS : va_S (AbG g) s.heap s.heap [] := va_S.rf
  have hl := lv_entry (([.ref (ga g r0), .int a1] : List Value)) (n := 2) (Nat.le_of_ble_eq_true rfl)
  rw [lg_entry_eq]
  generalize (lg_sl (([.ref (ga g r0), .int a1] : List Value)) ++ List.replicate (2 - (lg_sl (([.ref (ga g r0), .int a1] : List Value))).length) Slot.unset).toArray = ls at hl ⊢
  have hl : lv_has ls 2 [(0, .ref (ga g r0)), (1, .int a1)] := hl
  obtain ⟨⟨hx, hb, hml, hown, hts⟩, -, -⟩ := id X
  unfold m_X4_leftOf at hm
  refine lv_iload_n hx hb dX4_leftOf_0 rfl (lv_at hl 1 rfl) ?_
  refine lv_if_ne (tgt := 13) hx hb dX4_leftOf_1 (by decide) (fun h_1 => ?_) (fun h_1 => ?_)
  · rw [if_neg h_1] at hm
    refine lv_iload_n hx hb dX4_leftOf_13 rfl (lv_at hl 1 rfl) ?_
    refine lv_iconst (v := 1) hx hb dX4_leftOf_14 (by decide) ?_
    refine lv_isub hx hb dX4_leftOf_15 ?_
    cases hm
    exact x_iret X hP hS hr hlocks dX4_leftOf_16
  · rw [if_pos h_1] at hm
    refine lv_aload_n hx hb dX4_leftOf_4 rfl (lv_at hl 0 rfl) ?_
    refine xg_X4_0 X hP okr0 uX4_leftOf_X4 mbX4_leftOf_1 dX4_leftOf_5 ?_
    refine lv_iconst (v := 1) hx hb dX4_leftOf_8 (by decide) ?_
    refine lv_isub hx hb dX4_leftOf_9 ?_
    refine lv_goto (tgt := 16) hx hb dX4_leftOf_10 (by decide) ?_
    cases hm
    exact x_iret X hP hS hr hlocks dX4_leftOf_16


/-! X4_rightOf -/
def rmX4_rightOf : Room := { frames := 0, cells := 0, slots := 0, locals := 0 }
theorem uX4_rightOf_X4 : ∀ w ∈ wsX40, w ∈ wsX4_rightOf := by decide +kernel
theorem mbX4_rightOf_1 : Cond.fieldLink RX4 9 "FootANight$Ring" "n" "I" ∈ wsX4_rightOf := by decide +kernel
set_option maxHeartbeats 4000000 in
set_option maxRecDepth 100000 in
theorem c_X4_rightOf (l : Launch) {g : GT} (hA : AxG g) {r0 : Nat} (okr0 : okRing g r0) {M : Mem} {a1 : Int32} {rr : Int32} (hm : m_X4_rightOf r0 M a1 = some rr) : CI l yX4_rightOf wsX4_rightOf rmX4_rightOf g [.ref (ga g r0), .int a1] M rr M := by
  refine Met.ofW (cc := cX4_rightOf) (maxL := 2) (ret := (some .int)) (by decide) rfl ?_
  intro p e s m args below meth c s₁ B hml hv
  obtain ⟨rfl, hSx, hP⟩ := hv
  have hr := B.returns
  have hlocks := B.notSynchronized
  have X : CxG g p s m _ c cX4_rightOf 2 RX4 wsX4_rightOf := ⟨⟨B.exec, B.bytes, hml, findClass_of_methodNamed B.named, atoms_spec (ws := wsX4_rightOf) B.pre⟩, hSx, hA⟩
  have hS : va_S (AbG g) s.heap s.heap [] := va_S.rf
  have hl := lv_entry (([.ref (ga g r0), .int a1] : List Value)) (n := 2) (Nat.le_of_ble_eq_true rfl)
  rw [lg_entry_eq]
  generalize (lg_sl (([.ref (ga g r0), .int a1] : List Value)) ++ List.replicate (2 - (lg_sl (([.ref (ga g r0), .int a1] : List Value))).length) Slot.unset).toArray = ls at hl ⊢
  have hl : lv_has ls 2 [(0, .ref (ga g r0)), (1, .int a1)] := hl
  obtain ⟨⟨hx, hb, hml, hown, hts⟩, -, -⟩ := id X
  unfold m_X4_rightOf at hm
  refine lv_iload_n hx hb dX4_rightOf_0 rfl (lv_at hl 1 rfl) ?_
  refine lv_aload_n hx hb dX4_rightOf_1 rfl (lv_at hl 0 rfl) ?_
  refine xg_X4_0 X hP okr0 uX4_rightOf_X4 mbX4_rightOf_1 dX4_rightOf_2 ?_
  refine lv_iconst (v := 1) hx hb dX4_rightOf_5 (by decide) ?_
  refine lv_isub hx hb dX4_rightOf_6 ?_
  refine lv_icmp_ne (tgt := 14) hx hb dX4_rightOf_7 (by decide) (fun h_1 => ?_) (fun h_1 => ?_)
  · rw [if_neg h_1] at hm
    refine lv_iload_n hx hb dX4_rightOf_14 rfl (lv_at hl 1 rfl) ?_
    refine lv_iconst (v := 1) hx hb dX4_rightOf_15 (by decide) ?_
    refine lv_iadd hx hb dX4_rightOf_16 ?_
    cases hm
    exact x_iret X hP hS hr hlocks dX4_rightOf_17
  · rw [if_pos h_1] at hm
    refine lv_iconst (v := 0) hx hb dX4_rightOf_10 (by decide) ?_
    refine lv_goto (tgt := 17) hx hb dX4_rightOf_11 (by decide) ?_
    cases hm
    exact x_iret X hP hS hr hlocks dX4_rightOf_17


/-! X4_seen -/
def rmX4_seen : Room := { frames := 2, cells := 0, slots := 0, locals := 42 }
theorem uX4_seen_X4 : ∀ w ∈ wsX40, w ∈ wsX4_seen := by decide +kernel
theorem mbX4_seen_1 : Cond.fieldLink RX4 30 "FootANight$Ring" "lands" "[[I" ∈ wsX4_seen := by decide +kernel
theorem mbX4_seen_2 : Cond.fieldLink RX4 24 "FootANight$Ring" "told" "[I" ∈ wsX4_seen := by decide +kernel
theorem mbX4_seen_3 : Cond.methodLink RX4 91 Lib.Math.max.name ∈ wsX4_seen := by decide +kernel
theorem mbX4_seen_4 : Cond.static Lib.Math.max.name ∈ wsX4_seen := by decide +kernel
theorem mbX4_seen_5 : Cond.initialized "java/lang/Math" ∈ wsX4_seen := by decide +kernel
theorem mbX4_seen_6 : Cond.code Lib.Math.max.name Lib.Math.max.code 2 (some .int) ∈ wsX4_seen := by decide +kernel
theorem mbX4_seen_7 : Cond.fieldLink RX4 18 "FootANight$Ring" "night" "I" ∈ wsX4_seen := by decide +kernel
theorem mbX4_seen_8 : Cond.fieldLink RX4 37 "FootANight$Ring" "stakes" "[[I" ∈ wsX4_seen := by decide +kernel
set_option maxHeartbeats 4000000 in
set_option maxRecDepth 100000 in
theorem c_X4_seen (l : Launch) {g : GT} (hA : AxG g) {r0 : Nat} (okr0 : okRing g r0) {M : Mem} {a1 : Int32} {a2 : Int32} {rr : Int32} (hm : m_X4_seen r0 M a1 a2 = some rr) : CI l yX4_seen wsX4_seen rmX4_seen g [.ref (ga g r0), .int a1, .int a2] M rr M := by
  refine Met.ofW (cc := cX4_seen) (maxL := 7) (ret := (some .int)) (by decide) rfl ?_
  intro p e s m args below meth c s₁ B hml hv
  obtain ⟨rfl, hSx, hP⟩ := hv
  have hr := B.returns
  have hlocks := B.notSynchronized
  have X : CxG g p s m _ c cX4_seen 7 RX4 wsX4_seen := ⟨⟨B.exec, B.bytes, hml, findClass_of_methodNamed B.named, atoms_spec (ws := wsX4_seen) B.pre⟩, hSx, hA⟩
  have hS : va_S (AbG g) s.heap s.heap [] := va_S.rf
  have hl := lv_entry (([.ref (ga g r0), .int a1, .int a2] : List Value)) (n := 7) (Nat.le_of_ble_eq_true rfl)
  rw [lg_entry_eq]
  generalize (lg_sl (([.ref (ga g r0), .int a1, .int a2] : List Value)) ++ List.replicate (7 - (lg_sl (([.ref (ga g r0), .int a1, .int a2] : List Value))).length) Slot.unset).toArray = ls at hl ⊢
  have hl : lv_has ls 7 [(0, .ref (ga g r0)), (1, .int a1), (2, .int a2)] := hl
  obtain ⟨⟨hx, hb, hml, hown, hts⟩, -, -⟩ := id X
  unfold m_X4_seen at hm
  refine lv_aload_n hx hb dX4_seen_0 rfl (lv_at hl 0 rfl) ?_
  refine xg_X4_5 X hP okr0 uX4_seen_X4 mbX4_seen_1 dX4_seen_1 ?_
  refine lv_iload_n hx hb dX4_seen_4 rfl (lv_at hl 1 rfl) ?_
  obtain ⟨hb_1, hm⟩ := chk_elim hm
  refine x_aaldI X hP okr0.lands hb_1 dX4_seen_5 ?_
  refine lv_astore_n (lv' := [(3, .ref (ga g (r0 + 8 + ix a1))), (0, .ref (ga g r0)), (1, .int a1), (2, .int a2)]) hx hb dX4_seen_6 rfl hl (by decide) rfl (fun ls hl => ?_)
  refine lv_aload_n hx hb dX4_seen_7 rfl (lv_at hl 1 rfl) ?_
  refine lv_iload_n hx hb dX4_seen_8 rfl (lv_at hl 2 rfl) ?_
  obtain ⟨r_3, hc_2, hm⟩ := bind_elim hm
  refine x_calli (x_runV (As := [.int a1]) (rest := []) X hP hS (c_X4_leftOf l X.2.2 okr0 hc_2) (cwV 1 hts gX4_seen_X4_leftOf rfl rfl rfl (by decide +kernel) ⟨Nat.le_of_ble_eq_true rfl, Nat.le_of_ble_eq_true rfl⟩) (x_recv (C := RX4) (T := TX4) (N := 12) X hP okr0.obj rfl) rfl hl.1 rfl (Nat.le_of_ble_eq_true rfl) dX4_seen_9 ⟨Nat.zero_le _, Nat.zero_le _⟩) hS (fun H locs hP hS => ?_)
  refine lv_istore (lv' := [(4, .int r_3), (3, .ref (ga g (r0 + 8 + ix a1))), (0, .ref (ga g r0)), (1, .int a1), (2, .int a2)]) hx hb dX4_seen_12 hl (by decide) rfl (fun ls hl => ?_)
  refine lv_aload_n hx hb dX4_seen_14 rfl (lv_at hl 2 rfl) ?_
  refine lv_iload_n hx hb dX4_seen_15 rfl (lv_at hl 3 rfl) ?_
  obtain ⟨r_5, hc_4, hm⟩ := bind_elim hm
  refine x_calli (x_runV (As := [.int a1]) (rest := []) X hP hS (c_X4_rightOf l X.2.2 okr0 hc_4) (cwV 1 hts gX4_seen_X4_rightOf rfl rfl rfl (by decide +kernel) ⟨Nat.le_of_ble_eq_true rfl, Nat.le_of_ble_eq_true rfl⟩) (x_recv (C := RX4) (T := TX4) (N := 12) X hP okr0.obj rfl) rfl hl.1 rfl (Nat.le_of_ble_eq_true rfl) dX4_seen_16 ⟨Nat.zero_le _, Nat.zero_le _⟩) hS (fun H locs hP hS => ?_)
  refine lv_istore (lv' := [(5, .int r_5), (4, .int r_3), (3, .ref (ga g (r0 + 8 + ix a1))), (0, .ref (ga g r0)), (1, .int a1), (2, .int a2)]) hx hb dX4_seen_19 hl (by decide) rfl (fun ls hl => ?_)
  refine lv_aload_n hx hb dX4_seen_21 rfl (lv_at hl 2 rfl) ?_
  refine lv_iconst (v := 0) hx hb dX4_seen_22 (by decide) ?_
  refine x_iald X hP (okr0.land (inb_lt hb_1)) (show inb 0 9 = true from rfl) dX4_seen_23 ?_
  obtain ⟨v_6, hv_7, hm⟩ := bnd_elim hm
  refine x_name hv_7 ?_
  refine lv_istore (lv' := [(6, .int v_6), (5, .int r_5), (4, .int r_3), (3, .ref (ga g (r0 + 8 + ix a1))), (0, .ref (ga g r0)), (1, .int a1), (2, .int a2)]) hx hb dX4_seen_24 hl (by decide) rfl (fun ls hl => ?_)
  refine lv_iload_n hx hb dX4_seen_26 rfl (lv_at hl 6 rfl) ?_
  by_cases h_8 : a2 = 0
  · rw [if_pos h_8] at hm
    refine lv_tableIn (off := 69) (tgt := 96) hx hb dX4_seen_27 (by rw [h_8]; decide) (by rw [h_8]; decide) (by rw [h_8]; rfl) (by decide) ?_
    refine lv_iload hx hb dX4_seen_96 (lv_at hl 0 rfl) ?_
    cases hm
    exact x_iret X hP hS hr hlocks dX4_seen_98
  rw [if_neg h_8] at hm
  by_cases h_9 : a2 = 1
  · rw [if_pos h_9] at hm
    refine lv_tableIn (off := 72) (tgt := 99) hx hb dX4_seen_27 (by rw [h_9]; decide) (by rw [h_9]; decide) (by rw [h_9]; rfl) (by decide) ?_
    refine lv_aload_n hx hb dX4_seen_99 rfl (lv_at hl 4 rfl) ?_
    refine xg_X4_5 X hP okr0 uX4_seen_X4 mbX4_seen_1 dX4_seen_100 ?_
    refine lv_iload hx hb dX4_seen_103 (lv_at hl 2 rfl) ?_
    obtain ⟨hb_10, hm⟩ := chk_elim hm
    refine x_aaldI X hP okr0.lands hb_10 dX4_seen_105 ?_
    refine lv_iconst (v := 0) hx hb dX4_seen_106 (by decide) ?_
    refine x_iald X hP (okr0.land (inb_lt hb_10)) (show inb 0 9 = true from rfl) dX4_seen_107 ?_
    cases hm
    exact x_iret X hP hS hr hlocks dX4_seen_108
  rw [if_neg h_9] at hm
  by_cases h_11 : a2 = 2
  · rw [if_pos h_11] at hm
    refine lv_tableIn (off := 82) (tgt := 109) hx hb dX4_seen_27 (by rw [h_11]; decide) (by rw [h_11]; decide) (by rw [h_11]; rfl) (by decide) ?_
    refine lv_aload_n hx hb dX4_seen_109 rfl (lv_at hl 4 rfl) ?_
    refine xg_X4_5 X hP okr0 uX4_seen_X4 mbX4_seen_1 dX4_seen_110 ?_
    refine lv_iload hx hb dX4_seen_113 (lv_at hl 1 rfl) ?_
    obtain ⟨hb_12, hm⟩ := chk_elim hm
    refine x_aaldI X hP okr0.lands hb_12 dX4_seen_115 ?_
    refine lv_iconst (v := 0) hx hb dX4_seen_116 (by decide) ?_
    refine x_iald X hP (okr0.land (inb_lt hb_12)) (show inb 0 9 = true from rfl) dX4_seen_117 ?_
    cases hm
    exact x_iret X hP hS hr hlocks dX4_seen_118
  rw [if_neg h_11] at hm
  by_cases h_13 : a2 = 3
  · rw [if_pos h_13] at hm
    refine lv_tableIn (off := 92) (tgt := 119) hx hb dX4_seen_27 (by rw [h_13]; decide) (by rw [h_13]; decide) (by rw [h_13]; rfl) (by decide) ?_
    refine lv_aload_n hx hb dX4_seen_119 rfl (lv_at hl 4 rfl) ?_
    refine lv_iload hx hb dX4_seen_120 (lv_at hl 0 rfl) ?_
    refine lv_aload_n hx hb dX4_seen_122 rfl (lv_at hl 4 rfl) ?_
    refine xg_X4_4 X hP okr0 uX4_seen_X4 mbX4_seen_2 dX4_seen_123 ?_
    refine lv_bipush (v := 9) hx hb dX4_seen_126 (by decide) ?_
    refine x_iald X hP okr0.told (show inb 9 10 = true from rfl) dX4_seen_128 ?_
    refine lv_iadd hx hb dX4_seen_129 ?_
    obtain ⟨r_15, hc_14, hm⟩ := bind_elim hm
    refine x_calli (x_runV (As := [.int (v_6 + (rd M (r0 + 1) (ix 9)))]) (rest := []) X hP hS (c_X4_worthOf l X.2.2 okr0 hc_14) (cwV 1 hts gX4_seen_X4_worthOf rfl rfl rfl (by decide +kernel) ⟨Nat.le_of_ble_eq_true rfl, Nat.le_of_ble_eq_true rfl⟩) (x_recv (C := RX4) (T := TX4) (N := 12) X hP okr0.obj rfl) rfl hl.1 rfl (Nat.le_of_ble_eq_true rfl) dX4_seen_130 ⟨Nat.zero_le _, Nat.zero_le _⟩) hS (fun H locs hP hS => ?_)
    refine lv_aload_n hx hb dX4_seen_133 rfl (lv_at hl 4 rfl) ?_
    refine lv_iload hx hb dX4_seen_134 (lv_at hl 0 rfl) ?_
    obtain ⟨r_17, hc_16, hm⟩ := bind_elim hm
    refine x_calli (x_runV (As := [.int v_6]) (rest := [.int r_15]) X hP hS (c_X4_worthOf l X.2.2 okr0 hc_16) (cwV 1 hts gX4_seen_X4_worthOf rfl rfl rfl (by decide +kernel) ⟨Nat.le_of_ble_eq_true rfl, Nat.le_of_ble_eq_true rfl⟩) (x_recv (C := RX4) (T := TX4) (N := 12) X hP okr0.obj rfl) rfl hl.1 rfl (Nat.le_of_ble_eq_true rfl) dX4_seen_136 ⟨Nat.zero_le _, Nat.zero_le _⟩) hS (fun H locs hP hS => ?_)
    refine lv_isub hx hb dX4_seen_139 ?_
    cases hm
    exact x_iret X hP hS hr hlocks dX4_seen_140
  rw [if_neg h_13] at hm
  by_cases h_18 : a2 = 4
  · rw [if_pos h_18] at hm
    refine lv_tableIn (off := 114) (tgt := 141) hx hb dX4_seen_27 (by rw [h_18]; decide) (by rw [h_18]; decide) (by rw [h_18]; rfl) (by decide) ?_
    refine lv_aload_n hx hb dX4_seen_141 rfl (lv_at hl 4 rfl) ?_
    refine lv_iload hx hb dX4_seen_142 (lv_at hl 0 rfl) ?_
    obtain ⟨r_20, hc_19, hm⟩ := bind_elim hm
    refine x_calli (x_runV (As := [.int v_6]) (rest := []) X hP hS (c_X4_worthOf l X.2.2 okr0 hc_19) (cwV 1 hts gX4_seen_X4_worthOf rfl rfl rfl (by decide +kernel) ⟨Nat.le_of_ble_eq_true rfl, Nat.le_of_ble_eq_true rfl⟩) (x_recv (C := RX4) (T := TX4) (N := 12) X hP okr0.obj rfl) rfl hl.1 rfl (Nat.le_of_ble_eq_true rfl) dX4_seen_144 ⟨Nat.zero_le _, Nat.zero_le _⟩) hS (fun H locs hP hS => ?_)
    refine lv_aload_n hx hb dX4_seen_147 rfl (lv_at hl 4 rfl) ?_
    refine lv_iconst (v := 0) hx hb dX4_seen_148 (by decide) ?_
    refine lv_iload hx hb dX4_seen_149 (lv_at hl 0 rfl) ?_
    refine lv_aload_n hx hb dX4_seen_151 rfl (lv_at hl 4 rfl) ?_
    refine xg_X4_4 X hP okr0 uX4_seen_X4 mbX4_seen_2 dX4_seen_152 ?_
    refine lv_bipush (v := 9) hx hb dX4_seen_155 (by decide) ?_
    refine x_iald X hP okr0.told (show inb 9 10 = true from rfl) dX4_seen_157 ?_
    refine lv_isub hx hb dX4_seen_158 ?_
    refine va_mmax hx hb (hml.trans hl.1.symm) hown (hts _ mbX4_seen_3) (hts _ mbX4_seen_4) (hts _ mbX4_seen_5) (hts _ mbX4_seen_6) (Nat.le_of_ble_eq_true rfl) (Nat.le_of_ble_eq_true rfl) (Nat.zero_le _) (Nat.zero_le _) dX4_seen_159 ?_
    obtain ⟨r_22, hc_21, hm⟩ := bind_elim hm
    refine x_calli (x_runV (As := [.int (if 0 < (v_6 - (rd M (r0 + 1) (ix 9))) then v_6 - (rd M (r0 + 1) (ix 9)) else 0)]) (rest := [.int r_20]) X hP hS (c_X4_worthOf l X.2.2 okr0 hc_21) (cwV 1 hts gX4_seen_X4_worthOf rfl rfl rfl (by decide +kernel) ⟨Nat.le_of_ble_eq_true rfl, Nat.le_of_ble_eq_true rfl⟩) (x_recv (C := RX4) (T := TX4) (N := 12) X hP okr0.obj rfl) rfl hl.1 rfl (Nat.le_of_ble_eq_true rfl) dX4_seen_162 ⟨Nat.zero_le _, Nat.zero_le _⟩) hS (fun H locs hP hS => ?_)
    refine lv_isub hx hb dX4_seen_165 ?_
    cases hm
    exact x_iret X hP hS hr hlocks dX4_seen_166
  rw [if_neg h_18] at hm
  by_cases h_23 : a2 = 5
  · rw [if_pos h_23] at hm
    refine lv_tableIn (off := 140) (tgt := 167) hx hb dX4_seen_27 (by rw [h_23]; decide) (by rw [h_23]; decide) (by rw [h_23]; rfl) (by decide) ?_
    refine lv_aload_n hx hb dX4_seen_167 rfl (lv_at hl 4 rfl) ?_
    refine xg_X4_2 X hP okr0 uX4_seen_X4 mbX4_seen_7 dX4_seen_168 ?_
    cases hm
    exact x_iret X hP hS hr hlocks dX4_seen_171
  rw [if_neg h_23] at hm
  by_cases h_24 : a2 = 6
  · rw [if_pos h_24] at hm
    refine lv_tableIn (off := 145) (tgt := 172) hx hb dX4_seen_27 (by rw [h_24]; decide) (by rw [h_24]; decide) (by rw [h_24]; rfl) (by decide) ?_
    refine lv_aload_n hx hb dX4_seen_172 rfl (lv_at hl 3 rfl) ?_
    refine lv_iconst (v := 5) hx hb dX4_seen_173 (by decide) ?_
    refine x_iald X hP (okr0.land (inb_lt hb_1)) (show inb 5 9 = true from rfl) dX4_seen_174 ?_
    cases hm
    exact x_iret X hP hS hr hlocks dX4_seen_175
  rw [if_neg h_24] at hm
  by_cases h_25 : a2 = 7
  · rw [if_pos h_25] at hm
    refine lv_tableIn (off := 149) (tgt := 176) hx hb dX4_seen_27 (by rw [h_25]; decide) (by rw [h_25]; decide) (by rw [h_25]; rfl) (by decide) ?_
    refine lv_aload_n hx hb dX4_seen_176 rfl (lv_at hl 3 rfl) ?_
    refine lv_iconst (v := 3) hx hb dX4_seen_177 (by decide) ?_
    refine x_iald X hP (okr0.land (inb_lt hb_1)) (show inb 3 9 = true from rfl) dX4_seen_178 ?_
    cases hm
    exact x_iret X hP hS hr hlocks dX4_seen_179
  rw [if_neg h_25] at hm
  by_cases h_26 : a2 = 8
  · rw [if_pos h_26] at hm
    refine lv_tableIn (off := 153) (tgt := 180) hx hb dX4_seen_27 (by rw [h_26]; decide) (by rw [h_26]; decide) (by rw [h_26]; rfl) (by decide) ?_
    refine lv_aload_n hx hb dX4_seen_180 rfl (lv_at hl 4 rfl) ?_
    refine xg_X4_5 X hP okr0 uX4_seen_X4 mbX4_seen_1 dX4_seen_181 ?_
    refine lv_iload hx hb dX4_seen_184 (lv_at hl 2 rfl) ?_
    obtain ⟨hb_27, hm⟩ := chk_elim hm
    refine x_aaldI X hP okr0.lands hb_27 dX4_seen_186 ?_
    refine lv_iconst (v := 3) hx hb dX4_seen_187 (by decide) ?_
    refine x_iald X hP (okr0.land (inb_lt hb_27)) (show inb 3 9 = true from rfl) dX4_seen_188 ?_
    cases hm
    exact x_iret X hP hS hr hlocks dX4_seen_189
  rw [if_neg h_26] at hm
  by_cases h_28 : a2 = 9
  · rw [if_pos h_28] at hm
    refine lv_tableIn (off := 163) (tgt := 190) hx hb dX4_seen_27 (by rw [h_28]; decide) (by rw [h_28]; decide) (by rw [h_28]; rfl) (by decide) ?_
    refine lv_aload_n hx hb dX4_seen_190 rfl (lv_at hl 4 rfl) ?_
    refine xg_X4_5 X hP okr0 uX4_seen_X4 mbX4_seen_1 dX4_seen_191 ?_
    refine lv_iload hx hb dX4_seen_194 (lv_at hl 1 rfl) ?_
    obtain ⟨hb_29, hm⟩ := chk_elim hm
    refine x_aaldI X hP okr0.lands hb_29 dX4_seen_196 ?_
    refine lv_iconst (v := 3) hx hb dX4_seen_197 (by decide) ?_
    refine x_iald X hP (okr0.land (inb_lt hb_29)) (show inb 3 9 = true from rfl) dX4_seen_198 ?_
    cases hm
    exact x_iret X hP hS hr hlocks dX4_seen_199
  rw [if_neg h_28] at hm
  by_cases h_30 : a2 = 10
  · rw [if_pos h_30] at hm
    refine lv_tableIn (off := 173) (tgt := 200) hx hb dX4_seen_27 (by rw [h_30]; decide) (by rw [h_30]; decide) (by rw [h_30]; rfl) (by decide) ?_
    refine lv_aload_n hx hb dX4_seen_200 rfl (lv_at hl 4 rfl) ?_
    refine xg_X4_5 X hP okr0 uX4_seen_X4 mbX4_seen_1 dX4_seen_201 ?_
    refine lv_iload hx hb dX4_seen_204 (lv_at hl 2 rfl) ?_
    obtain ⟨hb_31, hm⟩ := chk_elim hm
    refine x_aaldI X hP okr0.lands hb_31 dX4_seen_206 ?_
    refine lv_iconst (v := 2) hx hb dX4_seen_207 (by decide) ?_
    refine x_iald X hP (okr0.land (inb_lt hb_31)) (show inb 2 9 = true from rfl) dX4_seen_208 ?_
    refine lv_aload_n hx hb dX4_seen_209 rfl (lv_at hl 3 rfl) ?_
    refine lv_iconst (v := 2) hx hb dX4_seen_210 (by decide) ?_
    refine x_iald X hP (okr0.land (inb_lt hb_1)) (show inb 2 9 = true from rfl) dX4_seen_211 ?_
    refine lv_icmp_ne (tgt := 219) hx hb dX4_seen_212 (by decide) (fun h_32 => ?_) (fun h_32 => ?_)
    · rw [if_neg h_32] at hm
      refine lv_iconst (v := 0) hx hb dX4_seen_219 (by decide) ?_
      cases hm
      exact x_iret X hP hS hr hlocks dX4_seen_220
    · rw [if_pos h_32] at hm
      refine lv_iconst (v := 1) hx hb dX4_seen_215 (by decide) ?_
      refine lv_goto (tgt := 220) hx hb dX4_seen_216 (by decide) ?_
      cases hm
      exact x_iret X hP hS hr hlocks dX4_seen_220
  rw [if_neg h_30] at hm
  by_cases h_33 : a2 = 11
  · rw [if_pos h_33] at hm
    refine lv_tableIn (off := 194) (tgt := 221) hx hb dX4_seen_27 (by rw [h_33]; decide) (by rw [h_33]; decide) (by rw [h_33]; rfl) (by decide) ?_
    refine lv_aload_n hx hb dX4_seen_221 rfl (lv_at hl 4 rfl) ?_
    refine xg_X4_5 X hP okr0 uX4_seen_X4 mbX4_seen_1 dX4_seen_222 ?_
    refine lv_iload hx hb dX4_seen_225 (lv_at hl 1 rfl) ?_
    obtain ⟨hb_34, hm⟩ := chk_elim hm
    refine x_aaldI X hP okr0.lands hb_34 dX4_seen_227 ?_
    refine lv_iconst (v := 2) hx hb dX4_seen_228 (by decide) ?_
    refine x_iald X hP (okr0.land (inb_lt hb_34)) (show inb 2 9 = true from rfl) dX4_seen_229 ?_
    refine lv_aload_n hx hb dX4_seen_230 rfl (lv_at hl 3 rfl) ?_
    refine lv_iconst (v := 2) hx hb dX4_seen_231 (by decide) ?_
    refine x_iald X hP (okr0.land (inb_lt hb_1)) (show inb 2 9 = true from rfl) dX4_seen_232 ?_
    refine lv_icmp_ne (tgt := 240) hx hb dX4_seen_233 (by decide) (fun h_35 => ?_) (fun h_35 => ?_)
    · rw [if_neg h_35] at hm
      refine lv_iconst (v := 0) hx hb dX4_seen_240 (by decide) ?_
      cases hm
      exact x_iret X hP hS hr hlocks dX4_seen_241
    · rw [if_pos h_35] at hm
      refine lv_iconst (v := 1) hx hb dX4_seen_236 (by decide) ?_
      refine lv_goto (tgt := 241) hx hb dX4_seen_237 (by decide) ?_
      cases hm
      exact x_iret X hP hS hr hlocks dX4_seen_241
  rw [if_neg h_33] at hm
  by_cases h_36 : a2 = 12
  · rw [if_pos h_36] at hm
    refine lv_tableIn (off := 215) (tgt := 242) hx hb dX4_seen_27 (by rw [h_36]; decide) (by rw [h_36]; decide) (by rw [h_36]; rfl) (by decide) ?_
    refine lv_aload_n hx hb dX4_seen_242 rfl (lv_at hl 4 rfl) ?_
    refine xg_X4_7 X hP okr0 uX4_seen_X4 mbX4_seen_8 dX4_seen_243 ?_
    refine lv_iload hx hb dX4_seen_246 (lv_at hl 2 rfl) ?_
    obtain ⟨hb_37, hm⟩ := chk_elim hm
    refine x_aaldI X hP okr0.stakes hb_37 dX4_seen_248 ?_
    refine lv_iconst (v := 0) hx hb dX4_seen_249 (by decide) ?_
    refine x_iald X hP (okr0.stake (inb_lt hb_37)) (show inb 0 4 = true from rfl) dX4_seen_250 ?_
    cases hm
    exact x_iret X hP hS hr hlocks dX4_seen_251
  rw [if_neg h_36] at hm
  by_cases h_38 : a2 = 13
  · rw [if_pos h_38] at hm
    refine lv_tableIn (off := 225) (tgt := 252) hx hb dX4_seen_27 (by rw [h_38]; decide) (by rw [h_38]; decide) (by rw [h_38]; rfl) (by decide) ?_
    refine lv_aload_n hx hb dX4_seen_252 rfl (lv_at hl 4 rfl) ?_
    refine xg_X4_7 X hP okr0 uX4_seen_X4 mbX4_seen_8 dX4_seen_253 ?_
    refine lv_iload_n hx hb dX4_seen_256 rfl (lv_at hl 5 rfl) ?_
    refine x_aaldI X hP okr0.stakes hb_1 dX4_seen_257 ?_
    refine lv_iconst (v := 0) hx hb dX4_seen_258 (by decide) ?_
    refine x_iald X hP (okr0.stake (inb_lt hb_1)) (show inb 0 4 = true from rfl) dX4_seen_259 ?_
    cases hm
    exact x_iret X hP hS hr hlocks dX4_seen_260
  rw [if_neg h_38] at hm
  refine lv_tableOut (tgt := 261) hx hb dX4_seen_27 (by
      have zh_8 := lv_neT h_8 (a := 0) (by decide)
      have zh_9 := lv_neT h_9 (a := 1) (by decide)
      have zh_11 := lv_neT h_11 (a := 2) (by decide)
      have zh_13 := lv_neT h_13 (a := 3) (by decide)
      have zh_18 := lv_neT h_18 (a := 4) (by decide)
      have zh_23 := lv_neT h_23 (a := 5) (by decide)
      have zh_24 := lv_neT h_24 (a := 6) (by decide)
      have zh_25 := lv_neT h_25 (a := 7) (by decide)
      have zh_26 := lv_neT h_26 (a := 8) (by decide)
      have zh_28 := lv_neT h_28 (a := 9) (by decide)
      have zh_30 := lv_neT h_30 (a := 10) (by decide)
      have zh_33 := lv_neT h_33 (a := 11) (by decide)
      have zh_36 := lv_neT h_36 (a := 12) (by decide)
      have zh_38 := lv_neT h_38 (a := 13) (by decide)
      omega) (by decide) ?_
  refine lv_aload_n hx hb dX4_seen_261 rfl (lv_at hl 4 rfl) ?_
  refine lv_iload_n hx hb dX4_seen_262 rfl (lv_at hl 5 rfl) ?_
  obtain ⟨r_40, hc_39, hm⟩ := bind_elim hm
  refine x_calli (x_runV (As := [.int a1]) (rest := []) X hP hS (c_X4_purseAsInt l X.2.2 okr0 hc_39) (cwV 1 hts gX4_seen_X4_purseAsInt rfl rfl rfl (by decide +kernel) ⟨Nat.le_of_ble_eq_true rfl, Nat.le_of_ble_eq_true rfl⟩) (x_recv (C := RX4) (T := TX4) (N := 12) X hP okr0.obj rfl) rfl hl.1 rfl (Nat.le_of_ble_eq_true rfl) dX4_seen_263 ⟨Nat.zero_le _, Nat.zero_le _⟩) hS (fun H locs hP hS => ?_)
  cases hm
  exact x_iret X hP hS hr hlocks dX4_seen_266


/-! X4_does -/
def rmX4_does : Room := { frames := 3, cells := 0, slots := 0, locals := 68 }
theorem uX4_does_X4 : ∀ w ∈ wsX40, w ∈ wsX4_does := by decide +kernel
theorem mbX4_does_1 : Cond.fieldLink RX4 30 "FootANight$Ring" "lands" "[[I" ∈ wsX4_does := by decide +kernel
theorem mbX4_does_2 : Cond.fieldLink RX4 42 "FootANight$Ring" "laws" "[LFootANight$Law;" ∈ wsX4_does := by decide +kernel
theorem uX4_does_X2 : ∀ w ∈ wsX20, w ∈ wsX4_does := by decide +kernel
theorem mbX4_does_4 : Cond.fieldLink RX4 79 "FootANight$Law" "length" "I" ∈ wsX4_does := by decide +kernel
theorem mbX4_does_5 : Cond.fieldLink RX4 76 "FootANight$Law" "code" "[I" ∈ wsX4_does := by decide +kernel
theorem mbX4_does_6 : Cond.fieldLink RX4 53 "FootANight$Ring" "stack" "[I" ∈ wsX4_does := by decide +kernel
set_option maxHeartbeats 4000000 in
set_option maxRecDepth 100000 in
theorem wj_X4_does_162i (X : CxG g p s m args c cX4_does 6 RX4 wsX4_does) {r0 : Nat} (okr0 : okRing g r0) {fu : Nat} {M : Mem} {s1 : Int32} {s2 : Nat} {s3 : Int32} {s4 : Int32} {t1 : Int32} {t2 : Int32} (ok_s2 : okLaw g s2) {o : (Int32 × Int32 × Mem) ⊕ ((Int32 × Mem) ⊕ (Mem))} (kb : ∀ (d3 : Int32) (d4 : Int32) (M2 : Mem) , o = .inl (d3, d4, M2) → ∀ (H : Heap) (locs : List Loc) (ls : Array Slot), va_P (gD g) vwCl (wlG g M2) H → va_S (AbG g) s.heap H locs → lv_has ls 6 [(0, .ref (ga g r0)), (1, .int s1), (2, .ref (ga g s2)), (3, .int d3), (4, .int d4)] → W p l e (headSpec wsX4_does rmX4_does).room s m args below meth c H locs 0 0 Q (F0 m 32 ls [])) (kx0 : ∀ (d5 : Int32) (M2 : Mem) , o = .inr (.inl (d5, M2)) → ∀ (H : Heap) (locs : List Loc) (ls : Array Slot), va_P (gD g) vwCl (wlG g M2) H → va_S (AbG g) s.heap H locs → lv_has ls 6 [(5, .int d5)] → W p l e (headSpec wsX4_does rmX4_does).room s m args below meth c H locs 0 0 Q (F0 m 73 ls [])) (kx1 : ∀ (M2 : Mem) , o = .inr (.inr M2) → ∀ (H : Heap) (locs : List Loc) (ls : Array Slot), va_P (gD g) vwCl (wlG g M2) H → va_S (AbG g) s.heap H locs → lv_has ls 6 [] → W p l e (headSpec wsX4_does rmX4_does).room s m args below meth c H locs 0 0 Q (F0 m 172 ls [])) (hm : j_X4_does_162i fu r0 M s1 s2 s3 s4 t1 t2 = some o) {H : Heap} {locs : List Loc} {ls : Array Slot} (hP : va_P (gD g) vwCl (wlG g M) H) (hS : va_S (AbG g) s.heap H locs) (hl : lv_has ls 6 [(0, .ref (ga g r0)), (1, .int s1), (2, .ref (ga g s2)), (3, .int s3), (4, .int s4)]) : W p l e (headSpec wsX4_does rmX4_does).room s m args below meth c H locs 0 0 Q (F0 m 162 ls [.int t2, .int t1, .ref (ga g (r0 + 7))]) := by
  obtain ⟨⟨hx, hb, hml, hown, hts⟩, -, -⟩ := id X
  unfold j_X4_does_162i at hm
  obtain ⟨hb_15, hm⟩ := chk_elim hm
  obtain ⟨M_16, hM_17, hm⟩ := bnd_elim hm
  refine x_iast X hP hS okr0.stack hM_17 hb_15 dX4_does_162 (fun H locs hP hS => ?_)
  obtain ⟨v_18, hv_19, hm⟩ := bnd_elim hm
  refine lv_iinc (v := v_18) (lv' := [(3, .int v_18), (0, .ref (ga g r0)), (1, .int s1), (2, .ref (ga g s2)), (4, .int s4)]) hx hb dX4_does_163 hl (k := 3) rfl (by rw [hv_19]; rfl) (by decide) rfl (fun ls hl => ?_)
  obtain ⟨v_20, hv_21, hm⟩ := bnd_elim hm
  refine lv_iinc (v := v_20) (lv' := [(4, .int v_20), (3, .int v_18), (0, .ref (ga g r0)), (1, .int s1), (2, .ref (ga g s2))]) hx hb dX4_does_166 hl (k := 4) rfl (by rw [hv_21]; rfl) (by decide) rfl (fun ls hl => ?_)
  refine lv_goto (tgt := 32) hx hb dX4_does_169 (by decide) ?_
  exact kb v_18 v_20 M_16 (Option.some.inj hm).symm _ _ _ hP hS (lv_sub hl [2, 3, 4, 1, 0] rfl)

set_option maxHeartbeats 4000000 in
set_option maxRecDepth 100000 in
theorem wj_X4_does_80i (X : CxG g p s m args c cX4_does 6 RX4 wsX4_does) {r0 : Nat} (okr0 : okRing g r0) {fu : Nat} {M : Mem} {s1 : Int32} {s2 : Nat} {s4 : Int32} (ok_s2 : okLaw g s2) {o : (Int32 × Int32 × Mem) ⊕ ((Int32 × Mem) ⊕ (Mem))} (kb : ∀ (d3 : Int32) (d4 : Int32) (M2 : Mem) , o = .inl (d3, d4, M2) → ∀ (H : Heap) (locs : List Loc) (ls : Array Slot), va_P (gD g) vwCl (wlG g M2) H → va_S (AbG g) s.heap H locs → lv_has ls 6 [(0, .ref (ga g r0)), (1, .int s1), (2, .ref (ga g s2)), (3, .int d3), (4, .int d4)] → W p l e (headSpec wsX4_does rmX4_does).room s m args below meth c H locs 0 0 Q (F0 m 32 ls [])) (kx0 : ∀ (d5 : Int32) (M2 : Mem) , o = .inr (.inl (d5, M2)) → ∀ (H : Heap) (locs : List Loc) (ls : Array Slot), va_P (gD g) vwCl (wlG g M2) H → va_S (AbG g) s.heap H locs → lv_has ls 6 [(5, .int d5)] → W p l e (headSpec wsX4_does rmX4_does).room s m args below meth c H locs 0 0 Q (F0 m 73 ls [])) (kx1 : ∀ (M2 : Mem) , o = .inr (.inr M2) → ∀ (H : Heap) (locs : List Loc) (ls : Array Slot), va_P (gD g) vwCl (wlG g M2) H → va_S (AbG g) s.heap H locs → lv_has ls 6 [] → W p l e (headSpec wsX4_does rmX4_does).room s m args below meth c H locs 0 0 Q (F0 m 172 ls [])) (hm : j_X4_does_80i fu r0 M s1 s2 s4 = some o) {H : Heap} {locs : List Loc} {ls : Array Slot} (hP : va_P (gD g) vwCl (wlG g M) H) (hS : va_S (AbG g) s.heap H locs) (hl : lv_has ls 6 [(0, .ref (ga g r0)), (1, .int s1), (2, .ref (ga g s2)), (4, .int s4)]) : W p l e (headSpec wsX4_does rmX4_does).room s m args below meth c H locs 0 0 Q (F0 m 80 ls []) := by
  obtain ⟨⟨hx, hb, hml, hown, hts⟩, -, -⟩ := id X
  unfold j_X4_does_80i at hm
  refine lv_iconst (v := 0) hx hb dX4_does_80 (by decide) ?_
  refine lv_istore_n (lv' := [(3, .int 0), (0, .ref (ga g r0)), (1, .int s1), (2, .ref (ga g s2)), (4, .int s4)]) hx hb dX4_does_81 rfl hl (by decide) rfl (fun ls hl => ?_)
  refine lv_goto (tgt := 166) hx hb dX4_does_82 (by decide) ?_
  obtain ⟨v_34, hv_35, hm⟩ := bnd_elim hm
  refine lv_iinc (v := v_34) (lv' := [(4, .int v_34), (3, .int 0), (0, .ref (ga g r0)), (1, .int s1), (2, .ref (ga g s2))]) hx hb dX4_does_166 hl (k := 4) rfl (by rw [hv_35]; rfl) (by decide) rfl (fun ls hl => ?_)
  refine lv_goto (tgt := 32) hx hb dX4_does_169 (by decide) ?_
  exact kb 0 v_34 M (Option.some.inj hm).symm _ _ _ hP hS (lv_sub hl [2, 3, 4, 1, 0] rfl)

set_option maxHeartbeats 4000000 in
set_option maxRecDepth 100000 in
theorem wl_X4_does_32 (X : CxG g p s m args c cX4_does 6 RX4 wsX4_does) {r0 : Nat} (okr0 : okRing g r0) {fu : Nat} {s1 : Int32} {s2 : Nat} (ok_s2 : okLaw g s2) {x : (Int32 × Mem) ⊕ (Mem)} (kx0 : ∀ (d5 : Int32) (M2 : Mem) , x = .inl (d5, M2) → ∀ (H : Heap) (locs : List Loc) (ls : Array Slot), va_P (gD g) vwCl (wlG g M2) H → va_S (AbG g) s.heap H locs → lv_has ls 6 [(5, .int d5)] → W p l e (headSpec wsX4_does rmX4_does).room s m args below meth c H locs 0 0 Q (F0 m 73 ls [])) (kx1 : ∀ (M2 : Mem) , x = .inr M2 → ∀ (H : Heap) (locs : List Loc) (ls : Array Slot), va_P (gD g) vwCl (wlG g M2) H → va_S (AbG g) s.heap H locs → lv_has ls 6 [] → W p l e (headSpec wsX4_does rmX4_does).room s m args below meth c H locs 0 0 Q (F0 m 172 ls [])) {n : Nat} {q0 : Int32 × Int32 × Mem} (h : lp (b_X4_does_32 fu r0 s1 s2) n q0 = some x) : ∀ (H : Heap) (locs : List Loc) (ls : Array Slot), va_P (gD g) vwCl (wlG g q0.2.2) H → va_S (AbG g) s.heap H locs → lv_has ls 6 [(0, .ref (ga g r0)), (1, .int s1), (2, .ref (ga g s2)), (3, .int q0.1), (4, .int q0.2.1)] → W p l e (headSpec wsX4_does rmX4_does).room s m args below meth c H locs 0 0 Q (F0 m 32 ls []) := by
  refine lp_elim (P := fun q0 : Int32 × Int32 × Mem => ∀ (H : Heap) (locs : List Loc) (ls : Array Slot), va_P (gD g) vwCl (wlG g q0.2.2) H → va_S (AbG g) s.heap H locs → lv_has ls 6 [(0, .ref (ga g r0)), (1, .int s1), (2, .ref (ga g s2)), (3, .int q0.1), (4, .int q0.2.1)] → W p l e (headSpec wsX4_does rmX4_does).room s m args below meth c H locs 0 0 Q (F0 m 32 ls [])) (fun q1 o hm hI hX => ?_) n q0 h
  obtain ⟨c3, c4, M⟩ := q1
  have kb : ∀ (d3 : Int32) (d4 : Int32) (M2 : Mem) , o = .inl (d3, d4, M2) → ∀ (H : Heap) (locs : List Loc) (ls : Array Slot), va_P (gD g) vwCl (wlG g M2) H → va_S (AbG g) s.heap H locs → lv_has ls 6 [(0, .ref (ga g r0)), (1, .int s1), (2, .ref (ga g s2)), (3, .int d3), (4, .int d4)] → W p l e (headSpec wsX4_does rmX4_does).room s m args below meth c H locs 0 0 Q (F0 m 32 ls []) := fun d3 d4 M2 e => hI _ e
  have kx0 : ∀ (d5 : Int32) (M2 : Mem) , o = .inr (.inl (d5, M2)) → ∀ (H : Heap) (locs : List Loc) (ls : Array Slot), va_P (gD g) vwCl (wlG g M2) H → va_S (AbG g) s.heap H locs → lv_has ls 6 [(5, .int d5)] → W p l e (headSpec wsX4_does rmX4_does).room s m args below meth c H locs 0 0 Q (F0 m 73 ls []) := fun d5 M2 e => kx0 d5 M2 (hX _ e).symm
  have kx1 : ∀ (M2 : Mem) , o = .inr (.inr M2) → ∀ (H : Heap) (locs : List Loc) (ls : Array Slot), va_P (gD g) vwCl (wlG g M2) H → va_S (AbG g) s.heap H locs → lv_has ls 6 [] → W p l e (headSpec wsX4_does rmX4_does).room s m args below meth c H locs 0 0 Q (F0 m 172 ls []) := fun M2 e => kx1 M2 (hX _ e).symm
  clear hI hX
  intro H locs ls hP hS hl
  obtain ⟨⟨hx, hb, hml, hown, hts⟩, -, -⟩ := id X
  have hl : lv_has ls 6 [(0, .ref (ga g r0)), (1, .int s1), (2, .ref (ga g s2)), (3, .int c3), (4, .int c4)] := hl
  have hP : va_P (gD g) vwCl (wlG g M) H := hP
  unfold b_X4_does_32 at hm
  replace hm := un3_e hm
  refine lv_iload hx hb dX4_does_32 (lv_at hl 4 rfl) ?_
  refine lv_aload_n hx hb dX4_does_34 rfl (lv_at hl 2 rfl) ?_
  refine xg_X2_1 X hP ok_s2 uX4_does_X2 mbX4_does_4 dX4_does_35 ?_
  refine lv_icmp_ge (tgt := 172) hx hb dX4_does_38 (by decide) (fun h_4 => ?_) (fun h_4 => ?_)
  · rw [if_pos h_4] at hm
    exact kx1 M (Option.some.inj hm).symm _ _ _ hP hS (lv_sub hl [] rfl)
  · rw [if_neg h_4] at hm
    refine lv_aload_n hx hb dX4_does_41 rfl (lv_at hl 2 rfl) ?_
    refine xg_X2_0 X hP ok_s2 uX4_does_X2 mbX4_does_5 dX4_does_42 ?_
    refine lv_iload hx hb dX4_does_45 (lv_at hl 4 rfl) ?_
    obtain ⟨hb_5, hm⟩ := chk_elim hm
    refine x_iald X hP ok_s2.2 hb_5 dX4_does_47 ?_
    obtain ⟨v_6, hv_7, hm⟩ := bnd_elim hm
    refine x_name hv_7 ?_
    refine lv_istore (lv' := [(5, .int v_6), (0, .ref (ga g r0)), (1, .int s1), (2, .ref (ga g s2)), (3, .int c3), (4, .int c4)]) hx hb dX4_does_48 hl (by decide) rfl (fun ls hl => ?_)
    refine lv_iload hx hb dX4_does_50 (lv_at hl 0 rfl) ?_
    refine lv_sipush (v := 10400) hx hb dX4_does_52 (by decide) ?_
    refine lv_icmp_lt (tgt := 85) hx hb dX4_does_55 (by decide) (fun h_8 => ?_) (fun h_8 => ?_)
    · rw [if_pos h_8] at hm
      refine lv_iload hx hb dX4_does_85 (lv_at hl 0 rfl) ?_
      refine lv_sipush (v := 10304) hx hb dX4_does_87 (by decide) ?_
      refine lv_icmp_ne (tgt := 101) hx hb dX4_does_90 (by decide) (fun h_9 => ?_) (fun h_9 => ?_)
      · rw [if_neg h_9] at hm
        refine lv_iload hx hb dX4_does_101 (lv_at hl 0 rfl) ?_
        refine lv_sipush (v := 10100) hx hb dX4_does_103 (by decide) ?_
        refine lv_icmp_lt (tgt := 124) hx hb dX4_does_106 (by decide) (fun h_10 => ?_) (fun h_10 => ?_)
        · rw [if_pos h_10] at hm
          refine lv_iload_n hx hb dX4_does_124 rfl (lv_at hl 4 rfl) ?_
          refine lv_aload_n hx hb dX4_does_125 rfl (lv_at hl 1 rfl) ?_
          refine xg_X4_11 X hP okr0 uX4_does_X4 mbX4_does_6 dX4_does_126 ?_
          refine x_alen X hP okr0.stack (by decide) dX4_does_129 ?_
          refine lv_icmp_ge (tgt := 166) hx hb dX4_does_130 (by decide) (fun h_11 => ?_) (fun h_11 => ?_)
          · rw [if_pos h_11] at hm
            obtain ⟨v_12, hv_13, hm⟩ := bnd_elim hm
            refine lv_iinc (v := v_12) (lv' := [(4, .int v_12), (5, .int v_6), (0, .ref (ga g r0)), (1, .int s1), (2, .ref (ga g s2)), (3, .int c3)]) hx hb dX4_does_166 hl (k := 5) rfl (by rw [hv_13]; rfl) (by decide) rfl (fun ls hl => ?_)
            refine lv_goto (tgt := 32) hx hb dX4_does_169 (by decide) ?_
            exact kb c3 v_12 M (Option.some.inj hm).symm _ _ _ hP hS (lv_sub hl [2, 3, 4, 5, 0] rfl)
          · rw [if_neg h_11] at hm
            refine lv_aload_n hx hb dX4_does_133 rfl (lv_at hl 1 rfl) ?_
            refine xg_X4_11 X hP okr0 uX4_does_X4 mbX4_does_6 dX4_does_134 ?_
            refine lv_iload_n hx hb dX4_does_137 rfl (lv_at hl 4 rfl) ?_
            refine lv_iload hx hb dX4_does_138 (lv_at hl 0 rfl) ?_
            refine lv_sipush (v := 10000) hx hb dX4_does_140 (by decide) ?_
            refine lv_icmp_lt (tgt := 160) hx hb dX4_does_143 (by decide) (fun h_14 => ?_) (fun h_14 => ?_)
            · rw [if_pos h_14] at hm
              refine lv_iload hx hb dX4_does_160 (lv_at hl 0 rfl) ?_
              exact wj_X4_does_162i X okr0 ok_s2 kb kx0 kx1 hm hP hS (lv_sub hl [1, 2, 3, 4, 5] rfl)
            · rw [if_neg h_14] at hm
              refine lv_aload_n hx hb dX4_does_146 rfl (lv_at hl 1 rfl) ?_
              refine lv_iload_n hx hb dX4_does_147 rfl (lv_at hl 2 rfl) ?_
              refine lv_iload hx hb dX4_does_148 (lv_at hl 0 rfl) ?_
              refine lv_sipush (v := 10000) hx hb dX4_does_150 (by decide) ?_
              refine lv_isub hx hb dX4_does_153 ?_
              obtain ⟨r_23, hc_22, hm⟩ := bind_elim hm
              refine x_calli (x_runV (As := [.int s1, .int (v_6 - 10000)]) (rest := [.int c3, .ref (ga g (r0 + 7))]) X hP hS (c_X4_seen l X.2.2 okr0 hc_22) (cwV 2 hts gX4_does_X4_seen rfl rfl rfl (by decide +kernel) ⟨Nat.le_of_ble_eq_true rfl, Nat.le_of_ble_eq_true rfl⟩) (x_recv (C := RX4) (T := TX4) (N := 12) X hP okr0.obj rfl) rfl hl.1 rfl (Nat.le_of_ble_eq_true rfl) dX4_does_154 ⟨Nat.zero_le _, Nat.zero_le _⟩) hS (fun H locs hP hS => ?_)
              refine lv_goto (tgt := 162) hx hb dX4_does_157 (by decide) ?_
              exact wj_X4_does_162i X okr0 ok_s2 kb kx0 kx1 hm hP hS (lv_sub hl [1, 2, 3, 4, 5] rfl)
        · rw [if_neg h_10] at hm
          refine lv_aload_n hx hb dX4_does_109 rfl (lv_at hl 1 rfl) ?_
          refine lv_iload hx hb dX4_does_110 (lv_at hl 0 rfl) ?_
          refine lv_sipush (v := 10100) hx hb dX4_does_112 (by decide) ?_
          refine lv_isub hx hb dX4_does_115 ?_
          refine lv_iload_n hx hb dX4_does_116 rfl (lv_at hl 4 rfl) ?_
          obtain ⟨⟨r_25, M_26⟩, hc_24, hm⟩ := bind_elim hm
          replace hm := un2_e hm
          refine x_calli (x_runV (As := [.int (v_6 - 10100), .int c3]) (rest := []) X hP hS (c_X4_join l X.2.2 okr0 hc_24) (cwV 2 hts gX4_does_X4_join rfl rfl rfl (by decide +kernel) ⟨Nat.le_of_ble_eq_true rfl, Nat.le_of_ble_eq_true rfl⟩) (x_recv (C := RX4) (T := TX4) (N := 12) X hP okr0.obj rfl) rfl hl.1 rfl (Nat.le_of_ble_eq_true rfl) dX4_does_117 ⟨Nat.zero_le _, Nat.zero_le _⟩) hS (fun H locs hP hS => ?_)
          refine lv_istore_n (lv' := [(3, .int r_25), (5, .int v_6), (0, .ref (ga g r0)), (1, .int s1), (2, .ref (ga g s2)), (4, .int c4)]) hx hb dX4_does_120 rfl hl (by decide) rfl (fun ls hl => ?_)
          refine lv_goto (tgt := 166) hx hb dX4_does_121 (by decide) ?_
          obtain ⟨v_27, hv_28, hm⟩ := bnd_elim hm
          refine lv_iinc (v := v_27) (lv' := [(4, .int v_27), (3, .int r_25), (5, .int v_6), (0, .ref (ga g r0)), (1, .int s1), (2, .ref (ga g s2))]) hx hb dX4_does_166 hl (k := 5) rfl (by rw [hv_28]; rfl) (by decide) rfl (fun ls hl => ?_)
          refine lv_goto (tgt := 32) hx hb dX4_does_169 (by decide) ?_
          exact kb r_25 v_27 M_26 (Option.some.inj hm).symm _ _ _ hP hS (lv_sub hl [3, 4, 5, 1, 0] rfl)
      · rw [if_pos h_9] at hm
        refine lv_aload_n hx hb dX4_does_93 rfl (lv_at hl 1 rfl) ?_
        refine lv_iload_n hx hb dX4_does_94 rfl (lv_at hl 4 rfl) ?_
        obtain ⟨M_30, hc_29, hm⟩ := bind_elim hm
        refine x_callv (x_runV (As := [.int c3]) (rest := []) X hP hS (c_X4_negate l X.2.2 okr0 hc_29) (cwV 1 hts gX4_does_X4_negate rfl rfl rfl (by decide +kernel) ⟨Nat.le_of_ble_eq_true rfl, Nat.le_of_ble_eq_true rfl⟩) (x_recv (C := RX4) (T := TX4) (N := 12) X hP okr0.obj rfl) rfl hl.1 rfl (Nat.le_of_ble_eq_true rfl) dX4_does_95 ⟨Nat.zero_le _, Nat.zero_le _⟩) hS (fun H locs hP hS => ?_)
        refine lv_goto (tgt := 166) hx hb dX4_does_98 (by decide) ?_
        obtain ⟨v_31, hv_32, hm⟩ := bnd_elim hm
        refine lv_iinc (v := v_31) (lv' := [(4, .int v_31), (5, .int v_6), (0, .ref (ga g r0)), (1, .int s1), (2, .ref (ga g s2)), (3, .int c3)]) hx hb dX4_does_166 hl (k := 5) rfl (by rw [hv_32]; rfl) (by decide) rfl (fun ls hl => ?_)
        refine lv_goto (tgt := 32) hx hb dX4_does_169 (by decide) ?_
        exact kb c3 v_31 M_30 (Option.some.inj hm).symm _ _ _ hP hS (lv_sub hl [2, 3, 4, 5, 0] rfl)
    · rw [if_neg h_8] at hm
      refine lv_iload_n hx hb dX4_does_58 rfl (lv_at hl 4 rfl) ?_
      refine lv_if_le (tgt := 80) hx hb dX4_does_59 (by decide) (fun h_33 => ?_) (fun h_33 => ?_)
      · rw [if_pos h_33] at hm
        exact wj_X4_does_80i X okr0 ok_s2 kb kx0 kx1 hm hP hS (lv_sub hl [1, 2, 3, 5] rfl)
      · rw [if_neg h_33] at hm
        refine lv_aload_n hx hb dX4_does_62 rfl (lv_at hl 1 rfl) ?_
        refine xg_X4_11 X hP okr0 uX4_does_X4 mbX4_does_6 dX4_does_63 ?_
        refine lv_iload_n hx hb dX4_does_66 rfl (lv_at hl 4 rfl) ?_
        refine lv_iconst (v := 1) hx hb dX4_does_67 (by decide) ?_
        refine lv_isub hx hb dX4_does_68 ?_
        obtain ⟨hb_36, hm⟩ := chk_elim hm
        refine x_iald X hP okr0.stack hb_36 dX4_does_69 ?_
        refine lv_if_eq (tgt := 80) hx hb dX4_does_70 (by decide) (fun h_37 => ?_) (fun h_37 => ?_)
        · rw [if_pos h_37] at hm
          exact wj_X4_does_80i X okr0 ok_s2 kb kx0 kx1 hm hP hS (lv_sub hl [1, 2, 3, 5] rfl)
        · rw [if_neg h_37] at hm
          exact kx0 v_6 M (Option.some.inj hm).symm _ _ _ hP hS (lv_sub hl [0] rfl)

set_option maxHeartbeats 4000000 in
set_option maxRecDepth 100000 in
theorem c_X4_does (l : Launch) {g : GT} (hA : AxG g) {r0 : Nat} (okr0 : okRing g r0) {fu : Nat} {M : Mem} {a1 : Int32} {rr : Int32} {MM : Mem} (hm : m_X4_does fu r0 M a1 = some (rr, MM)) : CI l yX4_does wsX4_does rmX4_does g [.ref (ga g r0), .int a1] M rr MM := by
  refine Met.ofW (cc := cX4_does) (maxL := 6) (ret := (some .int)) (by decide) rfl ?_
  intro p e s m args below meth c s₁ B hml hv
  obtain ⟨rfl, hSx, hP⟩ := hv
  have hr := B.returns
  have hlocks := B.notSynchronized
  have X : CxG g p s m _ c cX4_does 6 RX4 wsX4_does := ⟨⟨B.exec, B.bytes, hml, findClass_of_methodNamed B.named, atoms_spec (ws := wsX4_does) B.pre⟩, hSx, hA⟩
  have hS : va_S (AbG g) s.heap s.heap [] := va_S.rf
  have hl := lv_entry (([.ref (ga g r0), .int a1] : List Value)) (n := 6) (Nat.le_of_ble_eq_true rfl)
  rw [lg_entry_eq]
  generalize (lg_sl (([.ref (ga g r0), .int a1] : List Value)) ++ List.replicate (6 - (lg_sl (([.ref (ga g r0), .int a1] : List Value))).length) Slot.unset).toArray = ls at hl ⊢
  have hl : lv_has ls 6 [(0, .ref (ga g r0)), (1, .int a1)] := hl
  obtain ⟨⟨hx, hb, hml, hown, hts⟩, -, -⟩ := id X
  unfold m_X4_does at hm
  refine lv_aload_n hx hb dX4_does_0 rfl (lv_at hl 0 rfl) ?_
  refine xg_X4_5 X hP okr0 uX4_does_X4 mbX4_does_1 dX4_does_1 ?_
  refine lv_iload_n hx hb dX4_does_4 rfl (lv_at hl 1 rfl) ?_
  obtain ⟨hb_1, hm⟩ := chk_elim hm
  refine x_aaldI X hP okr0.lands hb_1 dX4_does_5 ?_
  refine lv_iconst (v := 0) hx hb dX4_does_6 (by decide) ?_
  refine x_iald X hP (okr0.land (inb_lt hb_1)) (show inb 0 9 = true from rfl) dX4_does_7 ?_
  refine lv_if_ne (tgt := 13) hx hb dX4_does_8 (by decide) (fun h_2 => ?_) (fun h_2 => ?_)
  · rw [if_neg h_2] at hm
    refine lv_aload_n hx hb dX4_does_13 rfl (lv_at hl 0 rfl) ?_
    refine xg_X4_8 X hP okr0 uX4_does_X4 mbX4_does_2 dX4_does_14 ?_
    refine lv_aload_n hx hb dX4_does_17 rfl (lv_at hl 0 rfl) ?_
    refine xg_X4_5 X hP okr0 uX4_does_X4 mbX4_does_1 dX4_does_18 ?_
    refine lv_iload_n hx hb dX4_does_21 rfl (lv_at hl 1 rfl) ?_
    refine x_aaldI X hP okr0.lands hb_1 dX4_does_22 ?_
    refine lv_iconst (v := 1) hx hb dX4_does_23 (by decide) ?_
    refine x_iald X hP (okr0.land (inb_lt hb_1)) (show inb 1 9 = true from rfl) dX4_does_24 ?_
    obtain ⟨hb_3, hm⟩ := chk_elim hm
    refine x_aaldL X hP okr0.laws hb_3 dX4_does_25 ?_
    refine lv_astore_n (lv' := [(2, .ref (ga g (r0 + 28 + ix (rd M (r0 + 8 + ix a1) (ix 1))))), (0, .ref (ga g r0)), (1, .int a1)]) hx hb dX4_does_26 rfl hl (by decide) rfl (fun ls hl => ?_)
    refine lv_iconst (v := 0) hx hb dX4_does_27 (by decide) ?_
    refine lv_istore_n (lv' := [(3, .int 0), (2, .ref (ga g (r0 + 28 + ix (rd M (r0 + 8 + ix a1) (ix 1))))), (0, .ref (ga g r0)), (1, .int a1)]) hx hb dX4_does_28 rfl hl (by decide) rfl (fun ls hl => ?_)
    refine lv_iconst (v := 0) hx hb dX4_does_29 (by decide) ?_
    refine lv_istore (lv' := [(4, .int 0), (3, .int 0), (2, .ref (ga g (r0 + 28 + ix (rd M (r0 + 8 + ix a1) (ix 1))))), (0, .ref (ga g r0)), (1, .int a1)]) hx hb dX4_does_30 hl (by decide) rfl (fun ls hl => ?_)
    obtain ⟨x_38, hL_39, hm⟩ := bind_elim hm
    refine wl_X4_does_32 X okr0 (okr0.law (inb_lt hb_3)) ?_ ?_ hL_39 _ _ _ hP hS (lv_sub hl [3, 4, 2, 1, 0] rfl)
    · intro v_40 M_41 e_x_38 H locs ls hP hS hl
      subst e_x_38
      replace hm := unS_l hm
      replace hm := un2_e hm
      refine lv_iload hx hb dX4_does_73 (lv_at hl 0 rfl) ?_
      refine lv_sipush (v := 10400) hx hb dX4_does_75 (by decide) ?_
      refine lv_isub hx hb dX4_does_78 ?_
      cases hm
      exact x_iret X hP hS hr hlocks dX4_does_79
    · intro M_42 e_x_38 H locs ls hP hS hl
      subst e_x_38
      replace hm := unS_r hm
      replace hm := un1_e hm
      refine lv_iconst (v := 0) hx hb dX4_does_172 (by decide) ?_
      cases hm
      exact x_iret X hP hS hr hlocks dX4_does_173
  · rw [if_pos h_2] at hm
    refine lv_iconst (v := 0) hx hb dX4_does_11 (by decide) ?_
    cases hm
    exact x_iret X hP hS hr hlocks dX4_does_12


/-! X4_draw -/
def rmX4_draw : Room := { frames := 0, cells := 0, slots := 0, locals := 0 }
theorem mbX4_draw_0 : Cond.constant RX4 142 (1664525) ∈ wsX4_draw := by decide +kernel
theorem uX4_draw_X4 : ∀ w ∈ wsX40, w ∈ wsX4_draw := by decide +kernel
theorem mbX4_draw_2 : Cond.fieldLink RX4 15 "FootANight$Ring" "drawn" "I" ∈ wsX4_draw := by decide +kernel
theorem mbX4_draw_3 : Cond.constant RX4 143 (1013904223) ∈ wsX4_draw := by decide +kernel
set_option maxHeartbeats 4000000 in
set_option maxRecDepth 100000 in
theorem c_X4_draw (l : Launch) {g : GT} (hA : AxG g) {r0 : Nat} (okr0 : okRing g r0) {M : Mem} {rr : Int32} {MM : Mem} (hm : m_X4_draw r0 M = some (rr, MM)) : CI l yX4_draw wsX4_draw rmX4_draw g [.ref (ga g r0)] M rr MM := by
  refine Met.ofW (cc := cX4_draw) (maxL := 1) (ret := (some .int)) (by decide) rfl ?_
  intro p e s m args below meth c s₁ B hml hv
  obtain ⟨rfl, hSx, hP⟩ := hv
  have hr := B.returns
  have hlocks := B.notSynchronized
  have X : CxG g p s m _ c cX4_draw 1 RX4 wsX4_draw := ⟨⟨B.exec, B.bytes, hml, findClass_of_methodNamed B.named, atoms_spec (ws := wsX4_draw) B.pre⟩, hSx, hA⟩
  have hS : va_S (AbG g) s.heap s.heap [] := va_S.rf
  have hl := lv_entry (([.ref (ga g r0)] : List Value)) (n := 1) (Nat.le_of_ble_eq_true rfl)
  rw [lg_entry_eq]
  generalize (lg_sl (([.ref (ga g r0)] : List Value)) ++ List.replicate (1 - (lg_sl (([.ref (ga g r0)] : List Value))).length) Slot.unset).toArray = ls at hl ⊢
  have hl : lv_has ls 1 [(0, .ref (ga g r0))] := hl
  obtain ⟨⟨hx, hb, hml, hown, hts⟩, -, -⟩ := id X
  unfold m_X4_draw at hm
  refine lv_aload_n hx hb dX4_draw_0 rfl (lv_at hl 0 rfl) ?_
  refine lv_ldc (v := 1664525) hx hb hown (hts _ mbX4_draw_0) dX4_draw_1 ?_
  refine lv_aload_n hx hb dX4_draw_3 rfl (lv_at hl 0 rfl) ?_
  refine xg_X4_1 X hP okr0 uX4_draw_X4 mbX4_draw_2 dX4_draw_4 ?_
  refine lv_imul hx hb dX4_draw_7 ?_
  refine lv_ldc (v := 1013904223) hx hb hown (hts _ mbX4_draw_3) dX4_draw_8 ?_
  refine lv_iadd hx hb dX4_draw_10 ?_
  obtain ⟨M_1, hM_2, hm⟩ := bnd_elim hm
  refine xp_X4_1 X hP okr0 uX4_draw_X4 mbX4_draw_2 hS hM_2 dX4_draw_11 (fun H locs hP hS => ?_)
  refine lv_aload_n hx hb dX4_draw_14 rfl (lv_at hl 0 rfl) ?_
  refine xg_X4_1 X hP okr0 uX4_draw_X4 mbX4_draw_2 dX4_draw_15 ?_
  refine lv_bipush (v := 8) hx hb dX4_draw_18 (by decide) ?_
  refine lv_iushr (v := ushr (rd M_1 r0 1) 8) hx hb dX4_draw_20 rfl ?_
  refine lv_sipush (v := 1000) hx hb dX4_draw_21 (by decide) ?_
  refine lv_irem hx hb dX4_draw_24 (by decide) ?_
  cases hm
  exact x_iret X hP hS hr hlocks dX4_draw_25


/-! X4_stopsOne -/
def rmX4_stopsOne : Room := { frames := 1, cells := 0, slots := 0, locals := 20 }
theorem uX4_stopsOne_X4 : ∀ w ∈ wsX40, w ∈ wsX4_stopsOne := by decide +kernel
theorem mbX4_stopsOne_1 : Cond.fieldLink RX4 46 "FootANight$Ring" "doing" "[I" ∈ wsX4_stopsOne := by decide +kernel
theorem mbX4_stopsOne_2 : Cond.fieldLink RX4 30 "FootANight$Ring" "lands" "[[I" ∈ wsX4_stopsOne := by decide +kernel
theorem mbX4_stopsOne_3 : Cond.fieldLink RX4 24 "FootANight$Ring" "told" "[I" ∈ wsX4_stopsOne := by decide +kernel
set_option maxHeartbeats 4000000 in
set_option maxRecDepth 100000 in
theorem c_X4_stopsOne (l : Launch) {g : GT} (hA : AxG g) {r0 : Nat} (okr0 : okRing g r0) {M : Mem} {a1 : Int32} {rr : Int32} {MM : Mem} (hm : m_X4_stopsOne r0 M a1 = some (rr, MM)) : CI l yX4_stopsOne wsX4_stopsOne rmX4_stopsOne g [.ref (ga g r0), .int a1] M rr MM := by
  refine Met.ofW (cc := cX4_stopsOne) (maxL := 2) (ret := (some .boolean)) (by decide) rfl ?_
  intro p e s m args below meth c s₁ B hml hv
  obtain ⟨rfl, hSx, hP⟩ := hv
  have hr := B.returns
  have hlocks := B.notSynchronized
  have X : CxG g p s m _ c cX4_stopsOne 2 RX4 wsX4_stopsOne := ⟨⟨B.exec, B.bytes, hml, findClass_of_methodNamed B.named, atoms_spec (ws := wsX4_stopsOne) B.pre⟩, hSx, hA⟩
  have hS : va_S (AbG g) s.heap s.heap [] := va_S.rf
  have hl := lv_entry (([.ref (ga g r0), .int a1] : List Value)) (n := 2) (Nat.le_of_ble_eq_true rfl)
  rw [lg_entry_eq]
  generalize (lg_sl (([.ref (ga g r0), .int a1] : List Value)) ++ List.replicate (2 - (lg_sl (([.ref (ga g r0), .int a1] : List Value))).length) Slot.unset).toArray = ls at hl ⊢
  have hl : lv_has ls 2 [(0, .ref (ga g r0)), (1, .int a1)] := hl
  obtain ⟨⟨hx, hb, hml, hown, hts⟩, -, -⟩ := id X
  unfold m_X4_stopsOne at hm
  refine lv_aload_n hx hb dX4_stopsOne_0 rfl (lv_at hl 0 rfl) ?_
  refine xg_X4_9 X hP okr0 uX4_stopsOne_X4 mbX4_stopsOne_1 dX4_stopsOne_1 ?_
  refine lv_iload_n hx hb dX4_stopsOne_4 rfl (lv_at hl 1 rfl) ?_
  obtain ⟨hb_1, hm⟩ := chk_elim hm
  refine x_iald X hP okr0.doing hb_1 dX4_stopsOne_5 ?_
  refine lv_iconst (v := 1) hx hb dX4_stopsOne_6 (by decide) ?_
  refine lv_icmp_ne (tgt := 30) hx hb dX4_stopsOne_7 (by decide) (fun h_2 => ?_) (fun h_2 => ?_)
  · rw [if_neg h_2] at hm
    refine lv_aload_n hx hb dX4_stopsOne_30 rfl (lv_at hl 0 rfl) ?_
    refine xg_X4_5 X hP okr0 uX4_stopsOne_X4 mbX4_stopsOne_2 dX4_stopsOne_31 ?_
    refine lv_iload_n hx hb dX4_stopsOne_34 rfl (lv_at hl 1 rfl) ?_
    refine x_aaldI X hP okr0.lands hb_1 dX4_stopsOne_35 ?_
    refine lv_iconst (v := 3) hx hb dX4_stopsOne_36 (by decide) ?_
    refine x_iald X hP (okr0.land (inb_lt hb_1)) (show inb 3 9 = true from rfl) dX4_stopsOne_37 ?_
    refine lv_if_eq (tgt := 59) hx hb dX4_stopsOne_38 (by decide) (fun h_3 => ?_) (fun h_3 => ?_)
    · rw [if_pos h_3] at hm
      refine lv_iconst (v := 0) hx hb dX4_stopsOne_59 (by decide) ?_
      cases hm
      exact x_zret X (by decide) hP hS hr hlocks dX4_stopsOne_60
    · rw [if_neg h_3] at hm
      refine lv_aload_n hx hb dX4_stopsOne_41 rfl (lv_at hl 0 rfl) ?_
      obtain ⟨⟨r_5, M_6⟩, hc_4, hm⟩ := bind_elim hm
      replace hm := un2_e hm
      refine x_calli (x_runV (As := []) (rest := []) X hP hS (c_X4_draw l X.2.2 okr0 hc_4) (cwV 0 hts gX4_stopsOne_X4_draw rfl rfl rfl (by decide +kernel) ⟨Nat.le_of_ble_eq_true rfl, Nat.le_of_ble_eq_true rfl⟩) (x_recv (C := RX4) (T := TX4) (N := 12) X hP okr0.obj rfl) rfl hl.1 rfl (Nat.le_of_ble_eq_true rfl) dX4_stopsOne_42 ⟨Nat.zero_le _, Nat.zero_le _⟩) hS (fun H locs hP hS => ?_)
      refine lv_aload_n hx hb dX4_stopsOne_45 rfl (lv_at hl 0 rfl) ?_
      refine xg_X4_4 X hP okr0 uX4_stopsOne_X4 mbX4_stopsOne_3 dX4_stopsOne_46 ?_
      refine lv_bipush (v := 8) hx hb dX4_stopsOne_49 (by decide) ?_
      refine x_iald X hP okr0.told (show inb 8 10 = true from rfl) dX4_stopsOne_51 ?_
      refine lv_icmp_ge (tgt := 59) hx hb dX4_stopsOne_52 (by decide) (fun h_7 => ?_) (fun h_7 => ?_)
      · rw [if_pos h_7] at hm
        refine lv_iconst (v := 0) hx hb dX4_stopsOne_59 (by decide) ?_
        cases hm
        exact x_zret X (by decide) hP hS hr hlocks dX4_stopsOne_60
      · rw [if_neg h_7] at hm
        refine lv_iconst (v := 1) hx hb dX4_stopsOne_55 (by decide) ?_
        refine lv_goto (tgt := 60) hx hb dX4_stopsOne_56 (by decide) ?_
        cases hm
        exact x_zret X (by decide) hP hS hr hlocks dX4_stopsOne_60
  · rw [if_pos h_2] at hm
    refine lv_aload_n hx hb dX4_stopsOne_10 rfl (lv_at hl 0 rfl) ?_
    obtain ⟨⟨r_9, M_10⟩, hc_8, hm⟩ := bind_elim hm
    replace hm := un2_e hm
    refine x_calli (x_runV (As := []) (rest := []) X hP hS (c_X4_draw l X.2.2 okr0 hc_8) (cwV 0 hts gX4_stopsOne_X4_draw rfl rfl rfl (by decide +kernel) ⟨Nat.le_of_ble_eq_true rfl, Nat.le_of_ble_eq_true rfl⟩) (x_recv (C := RX4) (T := TX4) (N := 12) X hP okr0.obj rfl) rfl hl.1 rfl (Nat.le_of_ble_eq_true rfl) dX4_stopsOne_11 ⟨Nat.zero_le _, Nat.zero_le _⟩) hS (fun H locs hP hS => ?_)
    refine lv_aload_n hx hb dX4_stopsOne_14 rfl (lv_at hl 0 rfl) ?_
    refine xg_X4_4 X hP okr0 uX4_stopsOne_X4 mbX4_stopsOne_3 dX4_stopsOne_15 ?_
    refine lv_bipush (v := 7) hx hb dX4_stopsOne_18 (by decide) ?_
    refine x_iald X hP okr0.told (show inb 7 10 = true from rfl) dX4_stopsOne_20 ?_
    refine lv_icmp_ge (tgt := 28) hx hb dX4_stopsOne_21 (by decide) (fun h_11 => ?_) (fun h_11 => ?_)
    · rw [if_pos h_11] at hm
      refine lv_iconst (v := 0) hx hb dX4_stopsOne_28 (by decide) ?_
      cases hm
      exact x_zret X (by decide) hP hS hr hlocks dX4_stopsOne_29
    · rw [if_neg h_11] at hm
      refine lv_iconst (v := 1) hx hb dX4_stopsOne_24 (by decide) ?_
      refine lv_goto (tgt := 29) hx hb dX4_stopsOne_25 (by decide) ?_
      cases hm
      exact x_zret X (by decide) hP hS hr hlocks dX4_stopsOne_29


/-! X4_creep -/
def rmX4_creep : Room := { frames := 2, cells := 0, slots := 0, locals := 41 }
theorem uX4_creep_X4 : ∀ w ∈ wsX40, w ∈ wsX4_creep := by decide +kernel
theorem mbX4_creep_1 : Cond.fieldLink RX4 46 "FootANight$Ring" "doing" "[I" ∈ wsX4_creep := by decide +kernel
theorem mbX4_creep_2 : Cond.fieldLink RX4 37 "FootANight$Ring" "stakes" "[[I" ∈ wsX4_creep := by decide +kernel
theorem mbX4_creep_3 : Cond.fieldLink RX4 30 "FootANight$Ring" "lands" "[[I" ∈ wsX4_creep := by decide +kernel
theorem mbX4_creep_4 : Cond.fieldLink RX4 24 "FootANight$Ring" "told" "[I" ∈ wsX4_creep := by decide +kernel
theorem mbX4_creep_5 : Cond.methodLink RX4 85 Lib.Math.min.name ∈ wsX4_creep := by decide +kernel
theorem mbX4_creep_6 : Cond.static Lib.Math.min.name ∈ wsX4_creep := by decide +kernel
theorem mbX4_creep_7 : Cond.initialized "java/lang/Math" ∈ wsX4_creep := by decide +kernel
theorem mbX4_creep_8 : Cond.code Lib.Math.min.name Lib.Math.min.code 2 (some .int) ∈ wsX4_creep := by decide +kernel
theorem mbX4_creep_9 : Cond.fieldLink RX4 21 "FootANight$Ring" "moved" "I" ∈ wsX4_creep := by decide +kernel
theorem mbX4_creep_10 : Cond.fieldLink RX4 49 "FootANight$Ring" "lost" "[Z" ∈ wsX4_creep := by decide +kernel
theorem mbX4_creep_11 : Cond.fieldLink RX4 33 "FootANight$Ring" "purses" "[J" ∈ wsX4_creep := by decide +kernel
set_option maxHeartbeats 4000000 in
set_option maxRecDepth 100000 in
theorem wj_X4_creep_138 (X : CxG g p s m args c cX4_creep 6 RX4 wsX4_creep) {r0 : Nat} (okr0 : okRing g r0) {M : Mem} {s1 : Int32} {s2 : Int32} {s3 : Nat} {s4 : Nat} {t0 : Nat} {t1 : Int32} {t2 : Int32} (ok_s3 : okA g s3 0 4) (ok_s4 : okA g s4 0 9) (ok_t0 : okA g t0 0 4) {MM : Mem} (hr : meth.sig.returnType = none) (hlocks : meth.locks = false) (hm : j_X4_creep_138 r0 M s1 s2 s3 s4 t0 t1 t2 = some MM) {H : Heap} {locs : List Loc} {ls : Array Slot} (hP : va_P (gD g) vwCl (wlG g M) H) (hS : va_S (AbG g) s.heap H locs) (hl : lv_has ls 6 [(0, .ref (ga g r0)), (1, .int s1), (2, .int s2), (3, .ref (ga g s3)), (4, .ref (ga g s4))]) : W p l e (headSpec wsX4_creep rmX4_creep).room s m args below meth c H locs 0 0 (MQ below (va_Qv (fun (_ : Unit) => True) (fun _ t => va_P (gD g) vwCl (wlG g MM) t.heap) (AbG g)) args s 0 0 (AbG g)) (F0 m 138 ls [.int t2, .int t1, .ref (ga g t0)]) := by
  obtain ⟨⟨hx, hb, hml, hown, hts⟩, -, -⟩ := id X
  unfold j_X4_creep_138 at hm
  obtain ⟨hb_18, hm⟩ := chk_elim hm
  obtain ⟨M_19, hM_20, hm⟩ := bnd_elim hm
  refine x_iast X hP hS ok_t0 hM_20 hb_18 dX4_creep_138 (fun H locs hP hS => ?_)
  refine lv_aload_n hx hb dX4_creep_139 rfl (lv_at hl 3 rfl) ?_
  refine lv_iconst (v := 3) hx hb dX4_creep_140 (by decide) ?_
  refine lv_iload_n hx hb dX4_creep_141 rfl (lv_at hl 1 rfl) ?_
  obtain ⟨M_21, hM_22, hm⟩ := bnd_elim hm
  refine x_iast X hP hS ok_s3 hM_22 (show inb 3 4 = true from rfl) dX4_creep_142 (fun H locs hP hS => ?_)
  refine lv_aload_n hx hb dX4_creep_143 rfl (lv_at hl 3 rfl) ?_
  refine lv_iconst (v := 2) hx hb dX4_creep_144 (by decide) ?_
  refine x_iald X hP ok_s3 (show inb 2 4 = true from rfl) dX4_creep_145 ?_
  refine lv_aload_n hx hb dX4_creep_146 rfl (lv_at hl 3 rfl) ?_
  refine lv_iconst (v := 1) hx hb dX4_creep_147 (by decide) ?_
  refine x_iald X hP ok_s3 (show inb 1 4 = true from rfl) dX4_creep_148 ?_
  refine lv_icmp_le (tgt := 216) hx hb dX4_creep_149 (by decide) (fun h_23 => ?_) (fun h_23 => ?_)
  · rw [if_pos h_23] at hm
    cases hm
    exact x_vret X hP hS hr hlocks dX4_creep_216
  · rw [if_neg h_23] at hm
    refine lv_aload_n hx hb dX4_creep_152 rfl (lv_at hl 3 rfl) ?_
    refine lv_iconst (v := 2) hx hb dX4_creep_153 (by decide) ?_
    refine lv_iconst (v := 0) hx hb dX4_creep_154 (by decide) ?_
    obtain ⟨M_24, hM_25, hm⟩ := bnd_elim hm
    refine x_iast X hP hS ok_s3 hM_25 (show inb 2 4 = true from rfl) dX4_creep_155 (fun H locs hP hS => ?_)
    refine lv_aload_n hx hb dX4_creep_156 rfl (lv_at hl 0 rfl) ?_
    refine xg_X4_4 X hP okr0 uX4_creep_X4 mbX4_creep_4 dX4_creep_157 ?_
    refine lv_bipush (v := 9) hx hb dX4_creep_160 (by decide) ?_
    refine x_iald X hP okr0.told (show inb 9 10 = true from rfl) dX4_creep_162 ?_
    refine lv_aload_n hx hb dX4_creep_163 rfl (lv_at hl 0 rfl) ?_
    refine xg_X4_5 X hP okr0 uX4_creep_X4 mbX4_creep_3 dX4_creep_164 ?_
    refine lv_iload_n hx hb dX4_creep_167 rfl (lv_at hl 2 rfl) ?_
    obtain ⟨hb_26, hm⟩ := chk_elim hm
    refine x_aaldI X hP okr0.lands hb_26 dX4_creep_168 ?_
    refine lv_iconst (v := 0) hx hb dX4_creep_169 (by decide) ?_
    refine x_iald X hP (okr0.land (inb_lt hb_26)) (show inb 0 9 = true from rfl) dX4_creep_170 ?_
    refine va_mmin hx hb (hml.trans hl.1.symm) hown (hts _ mbX4_creep_5) (hts _ mbX4_creep_6) (hts _ mbX4_creep_7) (hts _ mbX4_creep_8) (Nat.le_of_ble_eq_true rfl) (Nat.le_of_ble_eq_true rfl) (Nat.zero_le _) (Nat.zero_le _) dX4_creep_171 ?_
    obtain ⟨v_27, hv_28, hm⟩ := bnd_elim hm
    refine x_name hv_28 ?_
    refine lv_istore (lv' := [(5, .int v_27), (0, .ref (ga g r0)), (1, .int s1), (2, .int s2), (3, .ref (ga g s3)), (4, .ref (ga g s4))]) hx hb dX4_creep_174 hl (by decide) rfl (fun ls hl => ?_)
    refine lv_aload_n hx hb dX4_creep_176 rfl (lv_at hl 1 rfl) ?_
    refine xg_X4_5 X hP okr0 uX4_creep_X4 mbX4_creep_3 dX4_creep_177 ?_
    refine lv_iload_n hx hb dX4_creep_180 rfl (lv_at hl 3 rfl) ?_
    refine x_aaldI X hP okr0.lands hb_26 dX4_creep_181 ?_
    refine lv_iconst (v := 0) hx hb dX4_creep_182 (by decide) ?_
    refine lv_dup2_11 hx hb dX4_creep_183 rfl rfl ?_
    refine x_iald X hP (okr0.land (inb_lt hb_26)) (show inb 0 9 = true from rfl) dX4_creep_184 ?_
    refine lv_iload hx hb dX4_creep_185 (lv_at hl 0 rfl) ?_
    refine lv_isub hx hb dX4_creep_187 ?_
    obtain ⟨M_29, hM_30, hm⟩ := bnd_elim hm
    refine x_iast X hP hS (okr0.land (inb_lt hb_26)) hM_30 (show inb 0 9 = true from rfl) dX4_creep_188 (fun H locs hP hS => ?_)
    refine lv_aload hx hb dX4_creep_189 (lv_at hl 5 rfl) ?_
    refine lv_iconst (v := 0) hx hb dX4_creep_191 (by decide) ?_
    refine lv_dup2_11 hx hb dX4_creep_192 rfl rfl ?_
    refine x_iald X hP ok_s4 (show inb 0 9 = true from rfl) dX4_creep_193 ?_
    refine lv_iload hx hb dX4_creep_194 (lv_at hl 0 rfl) ?_
    refine lv_iadd hx hb dX4_creep_196 ?_
    obtain ⟨M_31, hM_32, hm⟩ := bnd_elim hm
    refine x_iast X hP hS ok_s4 hM_32 (show inb 0 9 = true from rfl) dX4_creep_197 (fun H locs hP hS => ?_)
    refine lv_aload_n hx hb dX4_creep_198 rfl (lv_at hl 1 rfl) ?_
    refine lv_dup hx hb dX4_creep_199 rfl ?_
    refine xg_X4_3 X hP okr0 uX4_creep_X4 mbX4_creep_9 dX4_creep_200 ?_
    refine lv_iload hx hb dX4_creep_203 (lv_at hl 0 rfl) ?_
    refine lv_iadd hx hb dX4_creep_205 ?_
    obtain ⟨M_33, hM_34, hm⟩ := bnd_elim hm
    refine xp_X4_3 X hP okr0 uX4_creep_X4 mbX4_creep_9 hS hM_34 dX4_creep_206 (fun H locs hP hS => ?_)
    refine lv_aload_n hx hb dX4_creep_209 rfl (lv_at hl 1 rfl) ?_
    refine xg_X4_10 X hP okr0 uX4_creep_X4 mbX4_creep_10 dX4_creep_210 ?_
    refine lv_iload_n hx hb dX4_creep_213 rfl (lv_at hl 3 rfl) ?_
    refine lv_iconst (v := 1) hx hb dX4_creep_214 (by decide) ?_
    obtain ⟨M_35, hM_36, hm⟩ := bnd_elim hm
    refine x_zast X hP hS okr0.lost hM_36 hb_26 rfl dX4_creep_215 (fun H locs hP hS => ?_)
    cases hm
    exact x_vret X hP hS hr hlocks dX4_creep_216

set_option maxHeartbeats 4000000 in
set_option maxRecDepth 100000 in
theorem wj_X4_creep_43 (X : CxG g p s m args c cX4_creep 6 RX4 wsX4_creep) {r0 : Nat} (okr0 : okRing g r0) {M : Mem} {s1 : Int32} {s2 : Int32} {t1 : Int32} {MM : Mem} (hr : meth.sig.returnType = none) (hlocks : meth.locks = false) (hm : j_X4_creep_43 r0 M s1 s2 t1 = some MM) {H : Heap} {locs : List Loc} {ls : Array Slot} (hP : va_P (gD g) vwCl (wlG g M) H) (hS : va_S (AbG g) s.heap H locs) (hl : lv_has ls 6 [(0, .ref (ga g r0)), (1, .int s1), (2, .int s2)]) : W p l e (headSpec wsX4_creep rmX4_creep).room s m args below meth c H locs 0 0 (MQ below (va_Qv (fun (_ : Unit) => True) (fun _ t => va_P (gD g) vwCl (wlG g MM) t.heap) (AbG g)) args s 0 0 (AbG g)) (F0 m 43 ls [.int t1, .ref (ga g (r0 + 3))]) := by
  obtain ⟨⟨hx, hb, hml, hown, hts⟩, -, -⟩ := id X
  unfold j_X4_creep_43 at hm
  obtain ⟨hb_7, hm⟩ := chk_elim hm
  refine x_aaldI X hP okr0.stakes hb_7 dX4_creep_43 ?_
  refine lv_astore_n (lv' := [(3, .ref (ga g (r0 + 18 + ix t1))), (0, .ref (ga g r0)), (1, .int s1), (2, .int s2)]) hx hb dX4_creep_44 rfl hl (by decide) rfl (fun ls hl => ?_)
  refine lv_aload_n hx hb dX4_creep_45 rfl (lv_at hl 1 rfl) ?_
  refine xg_X4_5 X hP okr0 uX4_creep_X4 mbX4_creep_3 dX4_creep_46 ?_
  refine lv_iload_n hx hb dX4_creep_49 rfl (lv_at hl 2 rfl) ?_
  obtain ⟨hb_8, hm⟩ := chk_elim hm
  refine x_aaldI X hP okr0.lands hb_8 dX4_creep_50 ?_
  refine lv_astore (lv' := [(4, .ref (ga g (r0 + 8 + ix s1))), (3, .ref (ga g (r0 + 18 + ix t1))), (0, .ref (ga g r0)), (1, .int s1), (2, .int s2)]) hx hb dX4_creep_51 hl (by decide) rfl (fun ls hl => ?_)
  refine lv_aload_n hx hb dX4_creep_53 rfl (lv_at hl 1 rfl) ?_
  refine lv_iconst (v := 0) hx hb dX4_creep_54 (by decide) ?_
  refine x_iald X hP (okr0.stake (inb_lt hb_7)) (show inb 0 4 = true from rfl) dX4_creep_55 ?_
  refine lv_if_ne (tgt := 80) hx hb dX4_creep_56 (by decide) (fun h_9 => ?_) (fun h_9 => ?_)
  · rw [if_neg h_9] at hm
    cases hm
    exact x_vret X hP hS hr hlocks dX4_creep_80
  · rw [if_pos h_9] at hm
    refine lv_aload_n hx hb dX4_creep_59 rfl (lv_at hl 2 rfl) ?_
    refine xg_X4_4 X hP okr0 uX4_creep_X4 mbX4_creep_4 dX4_creep_60 ?_
    refine lv_bipush (v := 9) hx hb dX4_creep_63 (by decide) ?_
    refine x_iald X hP okr0.told (show inb 9 10 = true from rfl) dX4_creep_65 ?_
    refine lv_if_eq (tgt := 80) hx hb dX4_creep_66 (by decide) (fun h_10 => ?_) (fun h_10 => ?_)
    · rw [if_pos h_10] at hm
      cases hm
      exact x_vret X hP hS hr hlocks dX4_creep_80
    · rw [if_neg h_10] at hm
      refine lv_aload_n hx hb dX4_creep_69 rfl (lv_at hl 2 rfl) ?_
      refine xg_X4_5 X hP okr0 uX4_creep_X4 mbX4_creep_3 dX4_creep_70 ?_
      refine lv_iload_n hx hb dX4_creep_73 rfl (lv_at hl 4 rfl) ?_
      obtain ⟨hb_11, hm⟩ := chk_elim hm
      refine x_aaldI X hP okr0.lands hb_11 dX4_creep_74 ?_
      refine lv_iconst (v := 0) hx hb dX4_creep_75 (by decide) ?_
      refine x_iald X hP (okr0.land (inb_lt hb_11)) (show inb 0 9 = true from rfl) dX4_creep_76 ?_
      refine lv_if_ne (tgt := 81) hx hb dX4_creep_77 (by decide) (fun h_12 => ?_) (fun h_12 => ?_)
      · rw [if_neg h_12] at hm
        refine lv_aload_n hx hb dX4_creep_81 rfl (lv_at hl 2 rfl) ?_
        refine lv_iload_n hx hb dX4_creep_82 rfl (lv_at hl 4 rfl) ?_
        obtain ⟨⟨r_14, M_15⟩, hc_13, hm⟩ := bind_elim hm
        replace hm := un2_e hm
        refine x_calli (x_runV (As := [.int s2]) (rest := []) X hP hS (c_X4_stopsOne l X.2.2 okr0 hc_13) (cwV 1 hts gX4_creep_X4_stopsOne rfl rfl rfl (by decide +kernel) ⟨Nat.le_of_ble_eq_true rfl, Nat.le_of_ble_eq_true rfl⟩) (x_recv (C := RX4) (T := TX4) (N := 12) X hP okr0.obj rfl) rfl hl.1 rfl (Nat.le_of_ble_eq_true rfl) dX4_creep_83 ⟨Nat.zero_le _, Nat.zero_le _⟩) hS (fun H locs hP hS => ?_)
        refine lv_if_eq (tgt := 120) hx hb dX4_creep_86 (by decide) (fun h_16 => ?_) (fun h_16 => ?_)
        · rw [if_pos h_16] at hm
          refine lv_aload_n hx hb dX4_creep_120 rfl (lv_at hl 1 rfl) ?_
          refine lv_iconst (v := 2) hx hb dX4_creep_121 (by decide) ?_
          refine lv_aload_n hx hb dX4_creep_122 rfl (lv_at hl 1 rfl) ?_
          refine lv_iconst (v := 3) hx hb dX4_creep_123 (by decide) ?_
          refine x_iald X hP (okr0.stake (inb_lt hb_7)) (show inb 3 4 = true from rfl) dX4_creep_124 ?_
          refine lv_iload_n hx hb dX4_creep_125 rfl (lv_at hl 3 rfl) ?_
          refine lv_icmp_ne (tgt := 137) hx hb dX4_creep_126 (by decide) (fun h_17 => ?_) (fun h_17 => ?_)
          · rw [if_neg h_17] at hm
            refine lv_iconst (v := 1) hx hb dX4_creep_137 (by decide) ?_
            exact wj_X4_creep_138 X okr0 (okr0.stake (inb_lt hb_7)) (okr0.land (inb_lt hb_8)) (okr0.stake (inb_lt hb_7)) hr hlocks hm hP hS (lv_sub hl [2, 3, 4, 1, 0] rfl)
          · rw [if_pos h_17] at hm
            refine lv_aload_n hx hb dX4_creep_129 rfl (lv_at hl 1 rfl) ?_
            refine lv_iconst (v := 2) hx hb dX4_creep_130 (by decide) ?_
            refine x_iald X hP (okr0.stake (inb_lt hb_7)) (show inb 2 4 = true from rfl) dX4_creep_131 ?_
            refine lv_iconst (v := 1) hx hb dX4_creep_132 (by decide) ?_
            refine lv_iadd hx hb dX4_creep_133 ?_
            refine lv_goto (tgt := 138) hx hb dX4_creep_134 (by decide) ?_
            exact wj_X4_creep_138 X okr0 (okr0.stake (inb_lt hb_7)) (okr0.land (inb_lt hb_8)) (okr0.stake (inb_lt hb_7)) hr hlocks hm hP hS (lv_sub hl [2, 3, 4, 1, 0] rfl)
        · rw [if_neg h_16] at hm
          refine lv_aload hx hb dX4_creep_89 (lv_at hl 0 rfl) ?_
          refine lv_bipush (v := 6) hx hb dX4_creep_91 (by decide) ?_
          refine lv_dup2_11 hx hb dX4_creep_93 rfl rfl ?_
          refine x_iald X hP (okr0.land (inb_lt hb_8)) (show inb 6 9 = true from rfl) dX4_creep_94 ?_
          refine lv_iconst (v := 1) hx hb dX4_creep_95 (by decide) ?_
          refine lv_iadd hx hb dX4_creep_96 ?_
          obtain ⟨M_37, hM_38, hm⟩ := bnd_elim hm
          refine x_iast X hP hS (okr0.land (inb_lt hb_8)) hM_38 (show inb 6 9 = true from rfl) dX4_creep_97 (fun H locs hP hS => ?_)
          refine lv_aload_n hx hb dX4_creep_98 rfl (lv_at hl 2 rfl) ?_
          refine xg_X4_6 X hP okr0 uX4_creep_X4 mbX4_creep_11 dX4_creep_99 ?_
          refine lv_iload_n hx hb dX4_creep_102 rfl (lv_at hl 3 rfl) ?_
          refine lv_dup2_11 hx hb dX4_creep_103 rfl rfl ?_
          refine x_lald X hP okr0.purses hb_8 dX4_creep_104 ?_
          refine lv_aload_n hx hb dX4_creep_105 rfl (lv_at hl 2 rfl) ?_
          refine xg_X4_4 X hP okr0 uX4_creep_X4 mbX4_creep_4 dX4_creep_106 ?_
          refine lv_bipush (v := 6) hx hb dX4_creep_109 (by decide) ?_
          refine x_iald X hP okr0.told (show inb 6 10 = true from rfl) dX4_creep_111 ?_
          refine lv_i2l (v := (rd M_37 (r0 + 1) (ix 6)).toInt64) hx hb dX4_creep_112 rfl ?_
          refine lv_lsub hx hb dX4_creep_113 ?_
          obtain ⟨M_39, hM_40, hm⟩ := bnd_elim hm
          refine x_last X hP hS okr0.purses hM_40 hb_8 dX4_creep_114 (fun H locs hP hS => ?_)
          refine lv_aload_n hx hb dX4_creep_115 rfl (lv_at hl 1 rfl) ?_
          refine lv_iconst (v := 2) hx hb dX4_creep_116 (by decide) ?_
          refine lv_iconst (v := 0) hx hb dX4_creep_117 (by decide) ?_
          obtain ⟨M_41, hM_42, hm⟩ := bnd_elim hm
          refine x_iast X hP hS (okr0.stake (inb_lt hb_7)) hM_42 (show inb 2 4 = true from rfl) dX4_creep_118 (fun H locs hP hS => ?_)
          cases hm
          exact x_vret X hP hS hr hlocks dX4_creep_119
      · rw [if_pos h_12] at hm
        cases hm
        exact x_vret X hP hS hr hlocks dX4_creep_80

set_option maxHeartbeats 4000000 in
set_option maxRecDepth 100000 in
theorem wj_X4_creep_23 (X : CxG g p s m args c cX4_creep 6 RX4 wsX4_creep) {r0 : Nat} (okr0 : okRing g r0) {M : Mem} {s1 : Int32} {t0 : Int32} {MM : Mem} (hr : meth.sig.returnType = none) (hlocks : meth.locks = false) (hm : j_X4_creep_23 r0 M s1 t0 = some MM) {H : Heap} {locs : List Loc} {ls : Array Slot} (hP : va_P (gD g) vwCl (wlG g M) H) (hS : va_S (AbG g) s.heap H locs) (hl : lv_has ls 6 [(0, .ref (ga g r0)), (1, .int s1)]) : W p l e (headSpec wsX4_creep rmX4_creep).room s m args below meth c H locs 0 0 (MQ below (va_Qv (fun (_ : Unit) => True) (fun _ t => va_P (gD g) vwCl (wlG g MM) t.heap) (AbG g)) args s 0 0 (AbG g)) (F0 m 23 ls [.int t0]) := by
  obtain ⟨⟨hx, hb, hml, hown, hts⟩, -, -⟩ := id X
  unfold j_X4_creep_23 at hm
  refine lv_istore_n (lv' := [(2, .int t0), (0, .ref (ga g r0)), (1, .int s1)]) hx hb dX4_creep_23 rfl hl (by decide) rfl (fun ls hl => ?_)
  refine lv_aload_n hx hb dX4_creep_24 rfl (lv_at hl 1 rfl) ?_
  refine xg_X4_7 X hP okr0 uX4_creep_X4 mbX4_creep_2 dX4_creep_25 ?_
  refine lv_aload_n hx hb dX4_creep_28 rfl (lv_at hl 1 rfl) ?_
  refine xg_X4_9 X hP okr0 uX4_creep_X4 mbX4_creep_1 dX4_creep_29 ?_
  refine lv_iload_n hx hb dX4_creep_32 rfl (lv_at hl 2 rfl) ?_
  obtain ⟨hb_5, hm⟩ := chk_elim hm
  refine x_iald X hP okr0.doing hb_5 dX4_creep_33 ?_
  refine lv_iconst (v := 2) hx hb dX4_creep_34 (by decide) ?_
  refine lv_icmp_ne (tgt := 42) hx hb dX4_creep_35 (by decide) (fun h_6 => ?_) (fun h_6 => ?_)
  · rw [if_neg h_6] at hm
    refine lv_iload_n hx hb dX4_creep_42 rfl (lv_at hl 2 rfl) ?_
    exact wj_X4_creep_43 X okr0 hr hlocks hm hP hS (lv_sub hl [1, 2, 0] rfl)
  · rw [if_pos h_6] at hm
    refine lv_iload_n hx hb dX4_creep_38 rfl (lv_at hl 0 rfl) ?_
    refine lv_goto (tgt := 43) hx hb dX4_creep_39 (by decide) ?_
    exact wj_X4_creep_43 X okr0 hr hlocks hm hP hS (lv_sub hl [1, 2, 0] rfl)

set_option maxHeartbeats 4000000 in
set_option maxRecDepth 100000 in
theorem c_X4_creep (l : Launch) {g : GT} (hA : AxG g) {r0 : Nat} (okr0 : okRing g r0) {M : Mem} {a1 : Int32} {MM : Mem} (hm : m_X4_creep r0 M a1 = some MM) : CV l yX4_creep wsX4_creep rmX4_creep g [.ref (ga g r0), .int a1] M MM := by
  refine Met.ofW (cc := cX4_creep) (maxL := 6) (ret := none) (by decide) rfl ?_
  intro p e s m args below meth c s₁ B hml hv
  obtain ⟨rfl, hSx, hP⟩ := hv
  have hr := B.returns
  have hlocks := B.notSynchronized
  have X : CxG g p s m _ c cX4_creep 6 RX4 wsX4_creep := ⟨⟨B.exec, B.bytes, hml, findClass_of_methodNamed B.named, atoms_spec (ws := wsX4_creep) B.pre⟩, hSx, hA⟩
  have hS : va_S (AbG g) s.heap s.heap [] := va_S.rf
  have hl := lv_entry (([.ref (ga g r0), .int a1] : List Value)) (n := 6) (Nat.le_of_ble_eq_true rfl)
  rw [lg_entry_eq]
  generalize (lg_sl (([.ref (ga g r0), .int a1] : List Value)) ++ List.replicate (6 - (lg_sl (([.ref (ga g r0), .int a1] : List Value))).length) Slot.unset).toArray = ls at hl ⊢
  have hl : lv_has ls 6 [(0, .ref (ga g r0)), (1, .int a1)] := hl
  obtain ⟨⟨hx, hb, hml, hown, hts⟩, -, -⟩ := id X
  unfold m_X4_creep at hm
  refine lv_aload_n hx hb dX4_creep_0 rfl (lv_at hl 0 rfl) ?_
  refine xg_X4_9 X hP okr0 uX4_creep_X4 mbX4_creep_1 dX4_creep_1 ?_
  refine lv_iload_n hx hb dX4_creep_4 rfl (lv_at hl 1 rfl) ?_
  obtain ⟨hb_1, hm⟩ := chk_elim hm
  refine x_iald X hP okr0.doing hb_1 dX4_creep_5 ?_
  refine lv_iconst (v := 2) hx hb dX4_creep_6 (by decide) ?_
  refine lv_icmp_ne (tgt := 18) hx hb dX4_creep_7 (by decide) (fun h_2 => ?_) (fun h_2 => ?_)
  · rw [if_neg h_2] at hm
    refine lv_aload_n hx hb dX4_creep_18 rfl (lv_at hl 0 rfl) ?_
    refine lv_iload_n hx hb dX4_creep_19 rfl (lv_at hl 1 rfl) ?_
    obtain ⟨r_4, hc_3, hm⟩ := bind_elim hm
    refine x_calli (x_runV (As := [.int a1]) (rest := []) X hP hS (c_X4_rightOf l X.2.2 okr0 hc_3) (cwV 1 hts gX4_creep_X4_rightOf rfl rfl rfl (by decide +kernel) ⟨Nat.le_of_ble_eq_true rfl, Nat.le_of_ble_eq_true rfl⟩) (x_recv (C := RX4) (T := TX4) (N := 12) X hP okr0.obj rfl) rfl hl.1 rfl (Nat.le_of_ble_eq_true rfl) dX4_creep_20 ⟨Nat.zero_le _, Nat.zero_le _⟩) hS (fun H locs hP hS => ?_)
    exact wj_X4_creep_23 X okr0 hr hlocks hm hP hS (lv_sub hl [0, 1] rfl)
  · rw [if_pos h_2] at hm
    refine lv_aload_n hx hb dX4_creep_10 rfl (lv_at hl 0 rfl) ?_
    refine lv_iload_n hx hb dX4_creep_11 rfl (lv_at hl 1 rfl) ?_
    obtain ⟨r_44, hc_43, hm⟩ := bind_elim hm
    refine x_calli (x_runV (As := [.int a1]) (rest := []) X hP hS (c_X4_leftOf l X.2.2 okr0 hc_43) (cwV 1 hts gX4_creep_X4_leftOf rfl rfl rfl (by decide +kernel) ⟨Nat.le_of_ble_eq_true rfl, Nat.le_of_ble_eq_true rfl⟩) (x_recv (C := RX4) (T := TX4) (N := 12) X hP okr0.obj rfl) rfl hl.1 rfl (Nat.le_of_ble_eq_true rfl) dX4_creep_12 ⟨Nat.zero_le _, Nat.zero_le _⟩) hS (fun H locs hP hS => ?_)
    refine lv_goto (tgt := 23) hx hb dX4_creep_15 (by decide) ?_
    exact wj_X4_creep_23 X okr0 hr hlocks hm hP hS (lv_sub hl [0, 1] rfl)


/-! X4_costOf -/
def rmX4_costOf : Room := { frames := 0, cells := 0, slots := 0, locals := 0 }
theorem uX4_costOf_X4 : ∀ w ∈ wsX40, w ∈ wsX4_costOf := by decide +kernel
theorem mbX4_costOf_1 : Cond.fieldLink RX4 30 "FootANight$Ring" "lands" "[[I" ∈ wsX4_costOf := by decide +kernel
theorem mbX4_costOf_2 : Cond.fieldLink RX4 24 "FootANight$Ring" "told" "[I" ∈ wsX4_costOf := by decide +kernel
set_option maxHeartbeats 4000000 in
set_option maxRecDepth 100000 in
theorem wj_X4_costOf_21 (X : CxG g p s m args c cX4_costOf 4 RX4 wsX4_costOf) {r0 : Nat} (okr0 : okRing g r0) {M : Mem} {s2 : Int32} {t0 : Int32} {rr : Int32} (hr : meth.sig.returnType = (some .int)) (hlocks : meth.locks = false) (hm : j_X4_costOf_21 r0 M s2 t0 = some rr) {H : Heap} {locs : List Loc} {ls : Array Slot} (hP : va_P (gD g) vwCl (wlG g M) H) (hS : va_S (AbG g) s.heap H locs) (hl : lv_has ls 4 [(0, .ref (ga g r0)), (2, .int s2)]) : W p l e (headSpec wsX4_costOf rmX4_costOf).room s m args below meth c H locs 0 0 (MQ below (va_Qi (fun (q : Int32) (_ : Unit) => q = rr) (fun _ t => va_P (gD g) vwCl (wlG g M) t.heap) (AbG g)) args s 0 0 (AbG g)) (F0 m 21 ls [.int t0]) := by
  obtain ⟨⟨hx, hb, hml, hown, hts⟩, -, -⟩ := id X
  unfold j_X4_costOf_21 at hm
  refine lv_istore_n (lv' := [(3, .int t0), (0, .ref (ga g r0)), (2, .int s2)]) hx hb dX4_costOf_21 rfl hl (by decide) rfl (fun ls hl => ?_)
  refine lv_iload_n hx hb dX4_costOf_22 rfl (lv_at hl 2 rfl) ?_
  refine lv_iconst (v := 1) hx hb dX4_costOf_23 (by decide) ?_
  refine lv_icmp_ne (tgt := 39) hx hb dX4_costOf_24 (by decide) (fun h_3 => ?_) (fun h_3 => ?_)
  · rw [if_neg h_3] at hm
    refine lv_iload_n hx hb dX4_costOf_39 rfl (lv_at hl 2 rfl) ?_
    refine lv_if_eq (tgt := 52) hx hb dX4_costOf_40 (by decide) (fun h_4 => ?_) (fun h_4 => ?_)
    · rw [if_pos h_4] at hm
      refine lv_iload_n hx hb dX4_costOf_52 rfl (lv_at hl 0 rfl) ?_
      cases hm
      exact x_iret X hP hS hr hlocks dX4_costOf_53
    · rw [if_neg h_4] at hm
      refine lv_iload_n hx hb dX4_costOf_43 rfl (lv_at hl 0 rfl) ?_
      refine lv_aload_n hx hb dX4_costOf_44 rfl (lv_at hl 1 rfl) ?_
      refine xg_X4_4 X hP okr0 uX4_costOf_X4 mbX4_costOf_2 dX4_costOf_45 ?_
      refine lv_iconst (v := 3) hx hb dX4_costOf_48 (by decide) ?_
      refine x_iald X hP okr0.told (show inb 3 10 = true from rfl) dX4_costOf_49 ?_
      refine lv_iadd hx hb dX4_costOf_50 ?_
      obtain ⟨v_5, hv_6, hm⟩ := bnd_elim hm
      refine x_name hv_6 ?_
      refine lv_istore_n (lv' := [(3, .int v_5), (0, .ref (ga g r0)), (2, .int s2)]) hx hb dX4_costOf_51 rfl hl (by decide) rfl (fun ls hl => ?_)
      refine lv_iload_n hx hb dX4_costOf_52 rfl (lv_at hl 0 rfl) ?_
      cases hm
      exact x_iret X hP hS hr hlocks dX4_costOf_53
  · rw [if_pos h_3] at hm
    refine lv_iload_n hx hb dX4_costOf_27 rfl (lv_at hl 0 rfl) ?_
    refine lv_aload_n hx hb dX4_costOf_28 rfl (lv_at hl 1 rfl) ?_
    refine xg_X4_4 X hP okr0 uX4_costOf_X4 mbX4_costOf_2 dX4_costOf_29 ?_
    refine lv_iconst (v := 4) hx hb dX4_costOf_32 (by decide) ?_
    refine x_iald X hP okr0.told (show inb 4 10 = true from rfl) dX4_costOf_33 ?_
    refine lv_iadd hx hb dX4_costOf_34 ?_
    obtain ⟨v_7, hv_8, hm⟩ := bnd_elim hm
    refine x_name hv_8 ?_
    refine lv_istore_n (lv' := [(3, .int v_7), (0, .ref (ga g r0)), (2, .int s2)]) hx hb dX4_costOf_35 rfl hl (by decide) rfl (fun ls hl => ?_)
    refine lv_goto (tgt := 52) hx hb dX4_costOf_36 (by decide) ?_
    refine lv_iload_n hx hb dX4_costOf_52 rfl (lv_at hl 0 rfl) ?_
    cases hm
    exact x_iret X hP hS hr hlocks dX4_costOf_53

set_option maxHeartbeats 4000000 in
set_option maxRecDepth 100000 in
theorem c_X4_costOf (l : Launch) {g : GT} (hA : AxG g) {r0 : Nat} (okr0 : okRing g r0) {M : Mem} {a1 : Int32} {a2 : Int32} {rr : Int32} (hm : m_X4_costOf r0 M a1 a2 = some rr) : CI l yX4_costOf wsX4_costOf rmX4_costOf g [.ref (ga g r0), .int a1, .int a2] M rr M := by
  refine Met.ofW (cc := cX4_costOf) (maxL := 4) (ret := (some .int)) (by decide) rfl ?_
  intro p e s m args below meth c s₁ B hml hv
  obtain ⟨rfl, hSx, hP⟩ := hv
  have hr := B.returns
  have hlocks := B.notSynchronized
  have X : CxG g p s m _ c cX4_costOf 4 RX4 wsX4_costOf := ⟨⟨B.exec, B.bytes, hml, findClass_of_methodNamed B.named, atoms_spec (ws := wsX4_costOf) B.pre⟩, hSx, hA⟩
  have hS : va_S (AbG g) s.heap s.heap [] := va_S.rf
  have hl := lv_entry (([.ref (ga g r0), .int a1, .int a2] : List Value)) (n := 4) (Nat.le_of_ble_eq_true rfl)
  rw [lg_entry_eq]
  generalize (lg_sl (([.ref (ga g r0), .int a1, .int a2] : List Value)) ++ List.replicate (4 - (lg_sl (([.ref (ga g r0), .int a1, .int a2] : List Value))).length) Slot.unset).toArray = ls at hl ⊢
  have hl : lv_has ls 4 [(0, .ref (ga g r0)), (1, .int a1), (2, .int a2)] := hl
  obtain ⟨⟨hx, hb, hml, hown, hts⟩, -, -⟩ := id X
  unfold m_X4_costOf at hm
  refine lv_aload_n hx hb dX4_costOf_0 rfl (lv_at hl 0 rfl) ?_
  refine xg_X4_5 X hP okr0 uX4_costOf_X4 mbX4_costOf_1 dX4_costOf_1 ?_
  refine lv_iload_n hx hb dX4_costOf_4 rfl (lv_at hl 1 rfl) ?_
  obtain ⟨hb_1, hm⟩ := chk_elim hm
  refine x_aaldI X hP okr0.lands hb_1 dX4_costOf_5 ?_
  refine lv_iconst (v := 3) hx hb dX4_costOf_6 (by decide) ?_
  refine x_iald X hP (okr0.land (inb_lt hb_1)) (show inb 3 9 = true from rfl) dX4_costOf_7 ?_
  refine lv_if_eq (tgt := 20) hx hb dX4_costOf_8 (by decide) (fun h_2 => ?_) (fun h_2 => ?_)
  · rw [if_pos h_2] at hm
    refine lv_iconst (v := 0) hx hb dX4_costOf_20 (by decide) ?_
    exact wj_X4_costOf_21 X okr0 hr hlocks hm hP hS (lv_sub hl [0, 2] rfl)
  · rw [if_neg h_2] at hm
    refine lv_aload_n hx hb dX4_costOf_11 rfl (lv_at hl 0 rfl) ?_
    refine xg_X4_4 X hP okr0 uX4_costOf_X4 mbX4_costOf_2 dX4_costOf_12 ?_
    refine lv_iconst (v := 5) hx hb dX4_costOf_15 (by decide) ?_
    refine x_iald X hP okr0.told (show inb 5 10 = true from rfl) dX4_costOf_16 ?_
    refine lv_goto (tgt := 21) hx hb dX4_costOf_17 (by decide) ?_
    exact wj_X4_costOf_21 X okr0 hr hlocks hm hP hS (lv_sub hl [0, 2] rfl)


/-! X4_settle -/
def rmX4_settle : Room := { frames := 2, cells := 0, slots := 0, locals := 42 }
theorem uX4_settle_X4 : ∀ w ∈ wsX40, w ∈ wsX4_settle := by decide +kernel
theorem mbX4_settle_1 : Cond.fieldLink RX4 30 "FootANight$Ring" "lands" "[[I" ∈ wsX4_settle := by decide +kernel
theorem mbX4_settle_2 : Cond.fieldLink RX4 33 "FootANight$Ring" "purses" "[J" ∈ wsX4_settle := by decide +kernel
theorem mbX4_settle_3 : Cond.fieldLink RX4 46 "FootANight$Ring" "doing" "[I" ∈ wsX4_settle := by decide +kernel
theorem mbX4_settle_4 : Cond.fieldLink RX4 49 "FootANight$Ring" "lost" "[Z" ∈ wsX4_settle := by decide +kernel
theorem mbX4_settle_5 : Cond.methodLink RX4 85 Lib.Math.min.name ∈ wsX4_settle := by decide +kernel
theorem mbX4_settle_6 : Cond.static Lib.Math.min.name ∈ wsX4_settle := by decide +kernel
theorem mbX4_settle_7 : Cond.initialized "java/lang/Math" ∈ wsX4_settle := by decide +kernel
theorem mbX4_settle_8 : Cond.code Lib.Math.min.name Lib.Math.min.code 2 (some .int) ∈ wsX4_settle := by decide +kernel
theorem mbX4_settle_9 : Cond.fieldLink RX4 18 "FootANight$Ring" "night" "I" ∈ wsX4_settle := by decide +kernel
set_option maxHeartbeats 4000000 in
set_option maxRecDepth 100000 in
theorem wj_X4_settle_61 (X : CxG g p s m args c cX4_settle 3 RX4 wsX4_settle) {r0 : Nat} (okr0 : okRing g r0) {M : Mem} {s2 : Nat} {t0 : Nat} {t1 : Int32} {t2 : Int32} (ok_s2 : okA g s2 0 9) (ok_t0 : okA g t0 0 9) {MM : Mem} (hr : meth.sig.returnType = none) (hlocks : meth.locks = false) (hm : j_X4_settle_61 r0 M s2 t0 t1 t2 = some MM) {H : Heap} {locs : List Loc} {ls : Array Slot} (hP : va_P (gD g) vwCl (wlG g M) H) (hS : va_S (AbG g) s.heap H locs) (hl : lv_has ls 3 [(0, .ref (ga g r0)), (2, .ref (ga g s2))]) : W p l e (headSpec wsX4_settle rmX4_settle).room s m args below meth c H locs 0 0 (MQ below (va_Qv (fun (_ : Unit) => True) (fun _ t => va_P (gD g) vwCl (wlG g MM) t.heap) (AbG g)) args s 0 0 (AbG g)) (F0 m 61 ls [.int t2, .int t1, .ref (ga g t0)]) := by
  obtain ⟨⟨hx, hb, hml, hown, hts⟩, -, -⟩ := id X
  unfold j_X4_settle_61 at hm
  obtain ⟨hb_9, hm⟩ := chk_elim hm
  obtain ⟨M_10, hM_11, hm⟩ := bnd_elim hm
  refine x_iast X hP hS ok_t0 hM_11 hb_9 dX4_settle_61 (fun H locs hP hS => ?_)
  refine lv_aload_n hx hb dX4_settle_62 rfl (lv_at hl 1 rfl) ?_
  refine lv_iconst (v := 0) hx hb dX4_settle_63 (by decide) ?_
  refine x_iald X hP ok_s2 (show inb 0 9 = true from rfl) dX4_settle_64 ?_
  refine lv_if_ne (tgt := 84) hx hb dX4_settle_65 (by decide) (fun h_12 => ?_) (fun h_12 => ?_)
  · rw [if_neg h_12] at hm
    cases hm
    exact x_vret X hP hS hr hlocks dX4_settle_84
  · rw [if_pos h_12] at hm
    refine lv_aload_n hx hb dX4_settle_68 rfl (lv_at hl 1 rfl) ?_
    refine lv_bipush (v := 7) hx hb dX4_settle_69 (by decide) ?_
    refine x_iald X hP ok_s2 (show inb 7 9 = true from rfl) dX4_settle_71 ?_
    refine lv_iconst (v := (-1)) hx hb dX4_settle_72 (by decide) ?_
    refine lv_icmp_ne (tgt := 84) hx hb dX4_settle_73 (by decide) (fun h_13 => ?_) (fun h_13 => ?_)
    · rw [if_neg h_13] at hm
      cases hm
      exact x_vret X hP hS hr hlocks dX4_settle_84
    · rw [if_pos h_13] at hm
      refine lv_aload_n hx hb dX4_settle_76 rfl (lv_at hl 1 rfl) ?_
      refine lv_bipush (v := 7) hx hb dX4_settle_77 (by decide) ?_
      refine lv_aload_n hx hb dX4_settle_79 rfl (lv_at hl 0 rfl) ?_
      refine xg_X4_2 X hP okr0 uX4_settle_X4 mbX4_settle_9 dX4_settle_80 ?_
      obtain ⟨M_14, hM_15, hm⟩ := bnd_elim hm
      refine x_iast X hP hS ok_s2 hM_15 (show inb 7 9 = true from rfl) dX4_settle_83 (fun H locs hP hS => ?_)
      cases hm
      exact x_vret X hP hS hr hlocks dX4_settle_84

set_option maxHeartbeats 4000000 in
set_option maxRecDepth 100000 in
theorem c_X4_settle (l : Launch) {g : GT} (hA : AxG g) {r0 : Nat} (okr0 : okRing g r0) {M : Mem} {a1 : Int32} {MM : Mem} (hm : m_X4_settle r0 M a1 = some MM) : CV l yX4_settle wsX4_settle rmX4_settle g [.ref (ga g r0), .int a1] M MM := by
  refine Met.ofW (cc := cX4_settle) (maxL := 3) (ret := none) (by decide) rfl ?_
  intro p e s m args below meth c s₁ B hml hv
  obtain ⟨rfl, hSx, hP⟩ := hv
  have hr := B.returns
  have hlocks := B.notSynchronized
  have X : CxG g p s m _ c cX4_settle 3 RX4 wsX4_settle := ⟨⟨B.exec, B.bytes, hml, findClass_of_methodNamed B.named, atoms_spec (ws := wsX4_settle) B.pre⟩, hSx, hA⟩
  have hS : va_S (AbG g) s.heap s.heap [] := va_S.rf
  have hl := lv_entry (([.ref (ga g r0), .int a1] : List Value)) (n := 3) (Nat.le_of_ble_eq_true rfl)
  rw [lg_entry_eq]
  generalize (lg_sl (([.ref (ga g r0), .int a1] : List Value)) ++ List.replicate (3 - (lg_sl (([.ref (ga g r0), .int a1] : List Value))).length) Slot.unset).toArray = ls at hl ⊢
  have hl : lv_has ls 3 [(0, .ref (ga g r0)), (1, .int a1)] := hl
  obtain ⟨⟨hx, hb, hml, hown, hts⟩, -, -⟩ := id X
  unfold m_X4_settle at hm
  refine lv_aload_n hx hb dX4_settle_0 rfl (lv_at hl 0 rfl) ?_
  refine xg_X4_5 X hP okr0 uX4_settle_X4 mbX4_settle_1 dX4_settle_1 ?_
  refine lv_iload_n hx hb dX4_settle_4 rfl (lv_at hl 1 rfl) ?_
  obtain ⟨hb_1, hm⟩ := chk_elim hm
  refine x_aaldI X hP okr0.lands hb_1 dX4_settle_5 ?_
  refine lv_astore_n (lv' := [(2, .ref (ga g (r0 + 8 + ix a1))), (0, .ref (ga g r0)), (1, .int a1)]) hx hb dX4_settle_6 rfl hl (by decide) rfl (fun ls hl => ?_)
  refine lv_aload_n hx hb dX4_settle_7 rfl (lv_at hl 1 rfl) ?_
  refine xg_X4_6 X hP okr0 uX4_settle_X4 mbX4_settle_2 dX4_settle_8 ?_
  refine lv_iload_n hx hb dX4_settle_11 rfl (lv_at hl 2 rfl) ?_
  refine lv_dup2_11 hx hb dX4_settle_12 rfl rfl ?_
  refine x_lald X hP okr0.purses hb_1 dX4_settle_13 ?_
  refine lv_aload_n hx hb dX4_settle_14 rfl (lv_at hl 1 rfl) ?_
  refine lv_aload_n hx hb dX4_settle_15 rfl (lv_at hl 0 rfl) ?_
  refine lv_iconst (v := 0) hx hb dX4_settle_16 (by decide) ?_
  refine x_iald X hP (okr0.land (inb_lt hb_1)) (show inb 0 9 = true from rfl) dX4_settle_17 ?_
  obtain ⟨r_3, hc_2, hm⟩ := bind_elim hm
  refine x_calli (x_runV (As := [.int (rd M (r0 + 8 + ix a1) (ix 0))]) (rest := [.long (rdl M (r0 + 36) (ix a1)), .int a1, .ref (ga g (r0 + 36))]) X hP hS (c_X4_worthOf l X.2.2 okr0 hc_2) (cwV 1 hts gX4_settle_X4_worthOf rfl rfl rfl (by decide +kernel) ⟨Nat.le_of_ble_eq_true rfl, Nat.le_of_ble_eq_true rfl⟩) (x_recv (C := RX4) (T := TX4) (N := 12) X hP okr0.obj rfl) rfl hl.1 rfl (Nat.le_of_ble_eq_true rfl) dX4_settle_18 ⟨Nat.zero_le _, Nat.zero_le _⟩) hS (fun H locs hP hS => ?_)
  refine lv_aload_n hx hb dX4_settle_21 rfl (lv_at hl 1 rfl) ?_
  refine lv_iload_n hx hb dX4_settle_22 rfl (lv_at hl 2 rfl) ?_
  refine lv_aload_n hx hb dX4_settle_23 rfl (lv_at hl 1 rfl) ?_
  refine xg_X4_9 X hP okr0 uX4_settle_X4 mbX4_settle_3 dX4_settle_24 ?_
  refine lv_iload_n hx hb dX4_settle_27 rfl (lv_at hl 2 rfl) ?_
  refine x_iald X hP okr0.doing hb_1 dX4_settle_28 ?_
  obtain ⟨r_5, hc_4, hm⟩ := bind_elim hm
  refine x_calli (x_runV (As := [.int a1, .int (rd M (r0 + 5) (ix a1))]) (rest := [.int r_3, .long (rdl M (r0 + 36) (ix a1)), .int a1, .ref (ga g (r0 + 36))]) X hP hS (c_X4_costOf l X.2.2 okr0 hc_4) (cwV 2 hts gX4_settle_X4_costOf rfl rfl rfl (by decide +kernel) ⟨Nat.le_of_ble_eq_true rfl, Nat.le_of_ble_eq_true rfl⟩) (x_recv (C := RX4) (T := TX4) (N := 12) X hP okr0.obj rfl) rfl hl.1 rfl (Nat.le_of_ble_eq_true rfl) dX4_settle_29 ⟨Nat.zero_le _, Nat.zero_le _⟩) hS (fun H locs hP hS => ?_)
  refine lv_isub hx hb dX4_settle_32 ?_
  refine lv_i2l (v := (r_3 - r_5).toInt64) hx hb dX4_settle_33 rfl ?_
  refine lv_ladd hx hb dX4_settle_34 ?_
  obtain ⟨M_6, hM_7, hm⟩ := bnd_elim hm
  refine x_last X hP hS okr0.purses hM_7 hb_1 dX4_settle_35 (fun H locs hP hS => ?_)
  refine lv_aload_n hx hb dX4_settle_36 rfl (lv_at hl 0 rfl) ?_
  refine lv_iconst (v := 5) hx hb dX4_settle_37 (by decide) ?_
  refine lv_aload_n hx hb dX4_settle_38 rfl (lv_at hl 1 rfl) ?_
  refine xg_X4_10 X hP okr0 uX4_settle_X4 mbX4_settle_4 dX4_settle_39 ?_
  refine lv_iload_n hx hb dX4_settle_42 rfl (lv_at hl 2 rfl) ?_
  refine x_zald X hP okr0.lost hb_1 dX4_settle_43 ?_
  refine lv_if_eq (tgt := 51) hx hb dX4_settle_44 (by decide) (fun h_8 => ?_) (fun h_8 => ?_)
  · rw [if_pos h_8] at hm
    refine lv_bipush (v := 99) hx hb dX4_settle_51 (by decide) ?_
    refine lv_aload_n hx hb dX4_settle_53 rfl (lv_at hl 0 rfl) ?_
    refine lv_iconst (v := 5) hx hb dX4_settle_54 (by decide) ?_
    refine x_iald X hP (okr0.land (inb_lt hb_1)) (show inb 5 9 = true from rfl) dX4_settle_55 ?_
    refine lv_iconst (v := 1) hx hb dX4_settle_56 (by decide) ?_
    refine lv_iadd hx hb dX4_settle_57 ?_
    refine va_mmin hx hb (hml.trans hl.1.symm) hown (hts _ mbX4_settle_5) (hts _ mbX4_settle_6) (hts _ mbX4_settle_7) (hts _ mbX4_settle_8) (Nat.le_of_ble_eq_true rfl) (Nat.le_of_ble_eq_true rfl) (Nat.zero_le _) (Nat.zero_le _) dX4_settle_58 ?_
    exact wj_X4_settle_61 X okr0 (okr0.land (inb_lt hb_1)) (okr0.land (inb_lt hb_1)) hr hlocks hm hP hS (lv_sub hl [1, 0] rfl)
  · rw [if_neg h_8] at hm
    refine lv_iconst (v := 0) hx hb dX4_settle_47 (by decide) ?_
    refine lv_goto (tgt := 61) hx hb dX4_settle_48 (by decide) ?_
    exact wj_X4_settle_61 X okr0 (okr0.land (inb_lt hb_1)) (okr0.land (inb_lt hb_1)) hr hlocks hm hP hS (lv_sub hl [1, 0] rfl)


/-! X4_pass -/
def rmX4_pass : Room := { frames := 4, cells := 0, slots := 0, locals := 93 }
theorem uX4_pass_X4 : ∀ w ∈ wsX40, w ∈ wsX4_pass := by decide +kernel
theorem mbX4_pass_1 : Cond.fieldLink RX4 9 "FootANight$Ring" "n" "I" ∈ wsX4_pass := by decide +kernel
theorem mbX4_pass_2 : Cond.fieldLink RX4 46 "FootANight$Ring" "doing" "[I" ∈ wsX4_pass := by decide +kernel
theorem mbX4_pass_3 : Cond.fieldLink RX4 49 "FootANight$Ring" "lost" "[Z" ∈ wsX4_pass := by decide +kernel
theorem mbX4_pass_4 : Cond.fieldLink RX4 18 "FootANight$Ring" "night" "I" ∈ wsX4_pass := by decide +kernel
set_option maxHeartbeats 4000000 in
set_option maxRecDepth 100000 in
theorem wl_X4_pass_9 (X : CxG g p s m args c cX4_pass 4 RX4 wsX4_pass) {r0 : Nat} (okr0 : okRing g r0) {fu : Nat} {s1 : Int32} {s2 : Int32} {x : Mem} (kx0 : ∀ (M2 : Mem) , x = M2 → ∀ (H : Heap) (locs : List Loc) (ls : Array Slot), va_P (gD g) vwCl (wlG g M2) H → va_S (AbG g) s.heap H locs → lv_has ls 4 [(0, .ref (ga g r0)), (1, .int s1), (2, .int s2)] → W p l e (headSpec wsX4_pass rmX4_pass).room s m args below meth c H locs 0 0 Q (F0 m 41 ls [])) {n : Nat} {q0 : Int32 × Mem} (h : lp (b_X4_pass_9 fu r0 s1 s2) n q0 = some x) : ∀ (H : Heap) (locs : List Loc) (ls : Array Slot), va_P (gD g) vwCl (wlG g q0.2) H → va_S (AbG g) s.heap H locs → lv_has ls 4 [(0, .ref (ga g r0)), (1, .int s1), (2, .int s2), (3, .int q0.1)] → W p l e (headSpec wsX4_pass rmX4_pass).room s m args below meth c H locs 0 0 Q (F0 m 9 ls []) := by
  refine lp_elim (P := fun q0 : Int32 × Mem => ∀ (H : Heap) (locs : List Loc) (ls : Array Slot), va_P (gD g) vwCl (wlG g q0.2) H → va_S (AbG g) s.heap H locs → lv_has ls 4 [(0, .ref (ga g r0)), (1, .int s1), (2, .int s2), (3, .int q0.1)] → W p l e (headSpec wsX4_pass rmX4_pass).room s m args below meth c H locs 0 0 Q (F0 m 9 ls [])) (fun q1 o hm hI hX => ?_) n q0 h
  obtain ⟨c3, M⟩ := q1
  have kb : ∀ (d3 : Int32) (M2 : Mem) , o = .inl (d3, M2) → ∀ (H : Heap) (locs : List Loc) (ls : Array Slot), va_P (gD g) vwCl (wlG g M2) H → va_S (AbG g) s.heap H locs → lv_has ls 4 [(0, .ref (ga g r0)), (1, .int s1), (2, .int s2), (3, .int d3)] → W p l e (headSpec wsX4_pass rmX4_pass).room s m args below meth c H locs 0 0 Q (F0 m 9 ls []) := fun d3 M2 e => hI _ e
  have kx0 : ∀ (M2 : Mem) , o = .inr M2 → ∀ (H : Heap) (locs : List Loc) (ls : Array Slot), va_P (gD g) vwCl (wlG g M2) H → va_S (AbG g) s.heap H locs → lv_has ls 4 [(0, .ref (ga g r0)), (1, .int s1), (2, .int s2)] → W p l e (headSpec wsX4_pass rmX4_pass).room s m args below meth c H locs 0 0 Q (F0 m 41 ls []) := fun M2 e => kx0 M2 (hX _ e).symm
  clear hI hX
  intro H locs ls hP hS hl
  obtain ⟨⟨hx, hb, hml, hown, hts⟩, -, -⟩ := id X
  have hl : lv_has ls 4 [(0, .ref (ga g r0)), (1, .int s1), (2, .int s2), (3, .int c3)] := hl
  have hP : va_P (gD g) vwCl (wlG g M) H := hP
  unfold b_X4_pass_9 at hm
  replace hm := un2_e hm
  refine lv_iload_n hx hb dX4_pass_9 rfl (lv_at hl 3 rfl) ?_
  refine lv_aload_n hx hb dX4_pass_10 rfl (lv_at hl 0 rfl) ?_
  refine xg_X4_0 X hP okr0 uX4_pass_X4 mbX4_pass_1 dX4_pass_11 ?_
  refine lv_icmp_ge (tgt := 41) hx hb dX4_pass_14 (by decide) (fun h_2 => ?_) (fun h_2 => ?_)
  · rw [if_pos h_2] at hm
    exact kx0 M (Option.some.inj hm).symm _ _ _ hP hS (lv_sub hl [0, 1, 2] rfl)
  · rw [if_neg h_2] at hm
    refine lv_aload_n hx hb dX4_pass_17 rfl (lv_at hl 0 rfl) ?_
    refine xg_X4_9 X hP okr0 uX4_pass_X4 mbX4_pass_2 dX4_pass_18 ?_
    refine lv_iload_n hx hb dX4_pass_21 rfl (lv_at hl 3 rfl) ?_
    refine lv_aload_n hx hb dX4_pass_22 rfl (lv_at hl 0 rfl) ?_
    refine lv_iload_n hx hb dX4_pass_23 rfl (lv_at hl 3 rfl) ?_
    obtain ⟨⟨r_4, M_5⟩, hc_3, hm⟩ := bind_elim hm
    replace hm := un2_e hm
    refine x_calli (x_runV (As := [.int c3]) (rest := [.int c3, .ref (ga g (r0 + 5))]) X hP hS (c_X4_does l X.2.2 okr0 hc_3) (cwV 1 hts gX4_pass_X4_does rfl rfl rfl (by decide +kernel) ⟨Nat.le_of_ble_eq_true rfl, Nat.le_of_ble_eq_true rfl⟩) (x_recv (C := RX4) (T := TX4) (N := 12) X hP okr0.obj rfl) rfl hl.1 rfl (Nat.le_of_ble_eq_true rfl) dX4_pass_24 ⟨Nat.zero_le _, Nat.zero_le _⟩) hS (fun H locs hP hS => ?_)
    obtain ⟨hb_6, hm⟩ := chk_elim hm
    obtain ⟨M_7, hM_8, hm⟩ := bnd_elim hm
    refine x_iast X hP hS okr0.doing hM_8 hb_6 dX4_pass_27 (fun H locs hP hS => ?_)
    refine lv_aload_n hx hb dX4_pass_28 rfl (lv_at hl 0 rfl) ?_
    refine xg_X4_10 X hP okr0 uX4_pass_X4 mbX4_pass_3 dX4_pass_29 ?_
    refine lv_iload_n hx hb dX4_pass_32 rfl (lv_at hl 3 rfl) ?_
    refine lv_iconst (v := 0) hx hb dX4_pass_33 (by decide) ?_
    obtain ⟨M_9, hM_10, hm⟩ := bnd_elim hm
    refine x_zast X hP hS okr0.lost hM_10 hb_6 rfl dX4_pass_34 (fun H locs hP hS => ?_)
    obtain ⟨v_11, hv_12, hm⟩ := bnd_elim hm
    refine lv_iinc (v := v_11) (lv' := [(3, .int v_11), (0, .ref (ga g r0)), (1, .int s1), (2, .int s2)]) hx hb dX4_pass_35 hl (k := 3) rfl (by rw [hv_12]; rfl) (by decide) rfl (fun ls hl => ?_)
    refine lv_goto (tgt := 9) hx hb dX4_pass_38 (by decide) ?_
    exact kb v_11 M_9 (Option.some.inj hm).symm _ _ _ hP hS (lv_sub hl [1, 2, 3, 0] rfl)

set_option maxHeartbeats 4000000 in
set_option maxRecDepth 100000 in
theorem wj_X4_pass_71i (X : CxG g p s m args c cX4_pass 4 RX4 wsX4_pass) {r0 : Nat} (okr0 : okRing g r0) {fu : Nat} {M : Mem} {s1 : Int32} {s2 : Int32} {s3 : Int32} {o : (Int32 × Mem) ⊕ (Mem)} (kb : ∀ (d3 : Int32) (M2 : Mem) , o = .inl (d3, M2) → ∀ (H : Heap) (locs : List Loc) (ls : Array Slot), va_P (gD g) vwCl (wlG g M2) H → va_S (AbG g) s.heap H locs → lv_has ls 4 [(0, .ref (ga g r0)), (1, .int s1), (2, .int s2), (3, .int d3)] → W p l e (headSpec wsX4_pass rmX4_pass).room s m args below meth c H locs 0 0 Q (F0 m 43 ls [])) (kx0 : ∀ (M2 : Mem) , o = .inr M2 → ∀ (H : Heap) (locs : List Loc) (ls : Array Slot), va_P (gD g) vwCl (wlG g M2) H → va_S (AbG g) s.heap H locs → lv_has ls 4 [(0, .ref (ga g r0)), (1, .int s1), (2, .int s2)] → W p l e (headSpec wsX4_pass rmX4_pass).room s m args below meth c H locs 0 0 Q (F0 m 82 ls [])) (hm : j_X4_pass_71i fu r0 M s1 s2 s3 = some o) {H : Heap} {locs : List Loc} {ls : Array Slot} (hP : va_P (gD g) vwCl (wlG g M) H) (hS : va_S (AbG g) s.heap H locs) (hl : lv_has ls 4 [(0, .ref (ga g r0)), (1, .int s1), (2, .int s2), (3, .int s3)]) : W p l e (headSpec wsX4_pass rmX4_pass).room s m args below meth c H locs 0 0 Q (F0 m 71 ls []) := by
  obtain ⟨⟨hx, hb, hml, hown, hts⟩, -, -⟩ := id X
  unfold j_X4_pass_71i at hm
  refine lv_aload_n hx hb dX4_pass_71 rfl (lv_at hl 0 rfl) ?_
  refine lv_iload_n hx hb dX4_pass_72 rfl (lv_at hl 3 rfl) ?_
  obtain ⟨M_20, hc_19, hm⟩ := bind_elim hm
  refine x_callv (x_runV (As := [.int s3]) (rest := []) X hP hS (c_X4_creep l X.2.2 okr0 hc_19) (cwV 1 hts gX4_pass_X4_creep rfl rfl rfl (by decide +kernel) ⟨Nat.le_of_ble_eq_true rfl, Nat.le_of_ble_eq_true rfl⟩) (x_recv (C := RX4) (T := TX4) (N := 12) X hP okr0.obj rfl) rfl hl.1 rfl (Nat.le_of_ble_eq_true rfl) dX4_pass_73 ⟨Nat.zero_le _, Nat.zero_le _⟩) hS (fun H locs hP hS => ?_)
  obtain ⟨v_21, hv_22, hm⟩ := bnd_elim hm
  refine lv_iinc (v := v_21) (lv' := [(3, .int v_21), (0, .ref (ga g r0)), (1, .int s1), (2, .int s2)]) hx hb dX4_pass_76 hl (k := 3) rfl (by rw [hv_22]; rfl) (by decide) rfl (fun ls hl => ?_)
  refine lv_goto (tgt := 43) hx hb dX4_pass_79 (by decide) ?_
  exact kb v_21 M_20 (Option.some.inj hm).symm _ _ _ hP hS (lv_sub hl [1, 2, 3, 0] rfl)

set_option maxHeartbeats 4000000 in
set_option maxRecDepth 100000 in
theorem wl_X4_pass_43 (X : CxG g p s m args c cX4_pass 4 RX4 wsX4_pass) {r0 : Nat} (okr0 : okRing g r0) {fu : Nat} {s1 : Int32} {s2 : Int32} {x : Mem} (kx0 : ∀ (M2 : Mem) , x = M2 → ∀ (H : Heap) (locs : List Loc) (ls : Array Slot), va_P (gD g) vwCl (wlG g M2) H → va_S (AbG g) s.heap H locs → lv_has ls 4 [(0, .ref (ga g r0)), (1, .int s1), (2, .int s2)] → W p l e (headSpec wsX4_pass rmX4_pass).room s m args below meth c H locs 0 0 Q (F0 m 82 ls [])) {n : Nat} {q0 : Int32 × Mem} (h : lp (b_X4_pass_43 fu r0 s1 s2) n q0 = some x) : ∀ (H : Heap) (locs : List Loc) (ls : Array Slot), va_P (gD g) vwCl (wlG g q0.2) H → va_S (AbG g) s.heap H locs → lv_has ls 4 [(0, .ref (ga g r0)), (1, .int s1), (2, .int s2), (3, .int q0.1)] → W p l e (headSpec wsX4_pass rmX4_pass).room s m args below meth c H locs 0 0 Q (F0 m 43 ls []) := by
  refine lp_elim (P := fun q0 : Int32 × Mem => ∀ (H : Heap) (locs : List Loc) (ls : Array Slot), va_P (gD g) vwCl (wlG g q0.2) H → va_S (AbG g) s.heap H locs → lv_has ls 4 [(0, .ref (ga g r0)), (1, .int s1), (2, .int s2), (3, .int q0.1)] → W p l e (headSpec wsX4_pass rmX4_pass).room s m args below meth c H locs 0 0 Q (F0 m 43 ls [])) (fun q1 o hm hI hX => ?_) n q0 h
  obtain ⟨c3, M⟩ := q1
  have kb : ∀ (d3 : Int32) (M2 : Mem) , o = .inl (d3, M2) → ∀ (H : Heap) (locs : List Loc) (ls : Array Slot), va_P (gD g) vwCl (wlG g M2) H → va_S (AbG g) s.heap H locs → lv_has ls 4 [(0, .ref (ga g r0)), (1, .int s1), (2, .int s2), (3, .int d3)] → W p l e (headSpec wsX4_pass rmX4_pass).room s m args below meth c H locs 0 0 Q (F0 m 43 ls []) := fun d3 M2 e => hI _ e
  have kx0 : ∀ (M2 : Mem) , o = .inr M2 → ∀ (H : Heap) (locs : List Loc) (ls : Array Slot), va_P (gD g) vwCl (wlG g M2) H → va_S (AbG g) s.heap H locs → lv_has ls 4 [(0, .ref (ga g r0)), (1, .int s1), (2, .int s2)] → W p l e (headSpec wsX4_pass rmX4_pass).room s m args below meth c H locs 0 0 Q (F0 m 82 ls []) := fun M2 e => kx0 M2 (hX _ e).symm
  clear hI hX
  intro H locs ls hP hS hl
  obtain ⟨⟨hx, hb, hml, hown, hts⟩, -, -⟩ := id X
  have hl : lv_has ls 4 [(0, .ref (ga g r0)), (1, .int s1), (2, .int s2), (3, .int c3)] := hl
  have hP : va_P (gD g) vwCl (wlG g M) H := hP
  unfold b_X4_pass_43 at hm
  replace hm := un2_e hm
  refine lv_iload_n hx hb dX4_pass_43 rfl (lv_at hl 3 rfl) ?_
  refine lv_aload_n hx hb dX4_pass_44 rfl (lv_at hl 0 rfl) ?_
  refine xg_X4_0 X hP okr0 uX4_pass_X4 mbX4_pass_1 dX4_pass_45 ?_
  refine lv_icmp_ge (tgt := 82) hx hb dX4_pass_48 (by decide) (fun h_16 => ?_) (fun h_16 => ?_)
  · rw [if_pos h_16] at hm
    exact kx0 M (Option.some.inj hm).symm _ _ _ hP hS (lv_sub hl [0, 1, 2] rfl)
  · rw [if_neg h_16] at hm
    refine lv_aload_n hx hb dX4_pass_51 rfl (lv_at hl 0 rfl) ?_
    refine xg_X4_9 X hP okr0 uX4_pass_X4 mbX4_pass_2 dX4_pass_52 ?_
    refine lv_iload_n hx hb dX4_pass_55 rfl (lv_at hl 3 rfl) ?_
    obtain ⟨hb_17, hm⟩ := chk_elim hm
    refine x_iald X hP okr0.doing hb_17 dX4_pass_56 ?_
    refine lv_iconst (v := 2) hx hb dX4_pass_57 (by decide) ?_
    refine lv_icmp_eq (tgt := 71) hx hb dX4_pass_58 (by decide) (fun h_18 => ?_) (fun h_18 => ?_)
    · rw [if_pos h_18] at hm
      exact wj_X4_pass_71i X okr0 kb kx0 hm hP hS (lv_sub hl [0, 1, 2, 3] rfl)
    · rw [if_neg h_18] at hm
      refine lv_aload_n hx hb dX4_pass_61 rfl (lv_at hl 0 rfl) ?_
      refine xg_X4_9 X hP okr0 uX4_pass_X4 mbX4_pass_2 dX4_pass_62 ?_
      refine lv_iload_n hx hb dX4_pass_65 rfl (lv_at hl 3 rfl) ?_
      refine x_iald X hP okr0.doing hb_17 dX4_pass_66 ?_
      refine lv_iconst (v := 3) hx hb dX4_pass_67 (by decide) ?_
      refine lv_icmp_ne (tgt := 76) hx hb dX4_pass_68 (by decide) (fun h_23 => ?_) (fun h_23 => ?_)
      · rw [if_neg h_23] at hm
        obtain ⟨v_24, hv_25, hm⟩ := bnd_elim hm
        refine lv_iinc (v := v_24) (lv' := [(3, .int v_24), (0, .ref (ga g r0)), (1, .int s1), (2, .int s2)]) hx hb dX4_pass_76 hl (k := 3) rfl (by rw [hv_25]; rfl) (by decide) rfl (fun ls hl => ?_)
        refine lv_goto (tgt := 43) hx hb dX4_pass_79 (by decide) ?_
        exact kb v_24 M (Option.some.inj hm).symm _ _ _ hP hS (lv_sub hl [1, 2, 3, 0] rfl)
      · rw [if_pos h_23] at hm
        exact wj_X4_pass_71i X okr0 kb kx0 hm hP hS (lv_sub hl [0, 1, 2, 3] rfl)

set_option maxHeartbeats 4000000 in
set_option maxRecDepth 100000 in
theorem wl_X4_pass_84 (X : CxG g p s m args c cX4_pass 4 RX4 wsX4_pass) {r0 : Nat} (okr0 : okRing g r0) {fu : Nat} {s1 : Int32} {s2 : Int32} {x : Mem} (kx0 : ∀ (M2 : Mem) , x = M2 → ∀ (H : Heap) (locs : List Loc) (ls : Array Slot), va_P (gD g) vwCl (wlG g M2) H → va_S (AbG g) s.heap H locs → lv_has ls 4 [(0, .ref (ga g r0)), (1, .int s1), (2, .int s2)] → W p l e (headSpec wsX4_pass rmX4_pass).room s m args below meth c H locs 0 0 Q (F0 m 103 ls [])) {n : Nat} {q0 : Int32 × Mem} (h : lp (b_X4_pass_84 fu r0 s1 s2) n q0 = some x) : ∀ (H : Heap) (locs : List Loc) (ls : Array Slot), va_P (gD g) vwCl (wlG g q0.2) H → va_S (AbG g) s.heap H locs → lv_has ls 4 [(0, .ref (ga g r0)), (1, .int s1), (2, .int s2), (3, .int q0.1)] → W p l e (headSpec wsX4_pass rmX4_pass).room s m args below meth c H locs 0 0 Q (F0 m 84 ls []) := by
  refine lp_elim (P := fun q0 : Int32 × Mem => ∀ (H : Heap) (locs : List Loc) (ls : Array Slot), va_P (gD g) vwCl (wlG g q0.2) H → va_S (AbG g) s.heap H locs → lv_has ls 4 [(0, .ref (ga g r0)), (1, .int s1), (2, .int s2), (3, .int q0.1)] → W p l e (headSpec wsX4_pass rmX4_pass).room s m args below meth c H locs 0 0 Q (F0 m 84 ls [])) (fun q1 o hm hI hX => ?_) n q0 h
  obtain ⟨c3, M⟩ := q1
  have kb : ∀ (d3 : Int32) (M2 : Mem) , o = .inl (d3, M2) → ∀ (H : Heap) (locs : List Loc) (ls : Array Slot), va_P (gD g) vwCl (wlG g M2) H → va_S (AbG g) s.heap H locs → lv_has ls 4 [(0, .ref (ga g r0)), (1, .int s1), (2, .int s2), (3, .int d3)] → W p l e (headSpec wsX4_pass rmX4_pass).room s m args below meth c H locs 0 0 Q (F0 m 84 ls []) := fun d3 M2 e => hI _ e
  have kx0 : ∀ (M2 : Mem) , o = .inr M2 → ∀ (H : Heap) (locs : List Loc) (ls : Array Slot), va_P (gD g) vwCl (wlG g M2) H → va_S (AbG g) s.heap H locs → lv_has ls 4 [(0, .ref (ga g r0)), (1, .int s1), (2, .int s2)] → W p l e (headSpec wsX4_pass rmX4_pass).room s m args below meth c H locs 0 0 Q (F0 m 103 ls []) := fun M2 e => kx0 M2 (hX _ e).symm
  clear hI hX
  intro H locs ls hP hS hl
  obtain ⟨⟨hx, hb, hml, hown, hts⟩, -, -⟩ := id X
  have hl : lv_has ls 4 [(0, .ref (ga g r0)), (1, .int s1), (2, .int s2), (3, .int c3)] := hl
  have hP : va_P (gD g) vwCl (wlG g M) H := hP
  unfold b_X4_pass_84 at hm
  replace hm := un2_e hm
  refine lv_iload_n hx hb dX4_pass_84 rfl (lv_at hl 3 rfl) ?_
  refine lv_aload_n hx hb dX4_pass_85 rfl (lv_at hl 0 rfl) ?_
  refine xg_X4_0 X hP okr0 uX4_pass_X4 mbX4_pass_1 dX4_pass_86 ?_
  refine lv_icmp_ge (tgt := 103) hx hb dX4_pass_89 (by decide) (fun h_29 => ?_) (fun h_29 => ?_)
  · rw [if_pos h_29] at hm
    exact kx0 M (Option.some.inj hm).symm _ _ _ hP hS (lv_sub hl [0, 1, 2] rfl)
  · rw [if_neg h_29] at hm
    refine lv_aload_n hx hb dX4_pass_92 rfl (lv_at hl 0 rfl) ?_
    refine lv_iload_n hx hb dX4_pass_93 rfl (lv_at hl 3 rfl) ?_
    obtain ⟨M_31, hc_30, hm⟩ := bind_elim hm
    refine x_callv (x_runV (As := [.int c3]) (rest := []) X hP hS (c_X4_settle l X.2.2 okr0 hc_30) (cwV 1 hts gX4_pass_X4_settle rfl rfl rfl (by decide +kernel) ⟨Nat.le_of_ble_eq_true rfl, Nat.le_of_ble_eq_true rfl⟩) (x_recv (C := RX4) (T := TX4) (N := 12) X hP okr0.obj rfl) rfl hl.1 rfl (Nat.le_of_ble_eq_true rfl) dX4_pass_94 ⟨Nat.zero_le _, Nat.zero_le _⟩) hS (fun H locs hP hS => ?_)
    obtain ⟨v_32, hv_33, hm⟩ := bnd_elim hm
    refine lv_iinc (v := v_32) (lv' := [(3, .int v_32), (0, .ref (ga g r0)), (1, .int s1), (2, .int s2)]) hx hb dX4_pass_97 hl (k := 3) rfl (by rw [hv_33]; rfl) (by decide) rfl (fun ls hl => ?_)
    refine lv_goto (tgt := 84) hx hb dX4_pass_100 (by decide) ?_
    exact kb v_32 M_31 (Option.some.inj hm).symm _ _ _ hP hS (lv_sub hl [1, 2, 3, 0] rfl)

set_option maxHeartbeats 4000000 in
set_option maxRecDepth 100000 in
theorem wl_X4_pass_2 (X : CxG g p s m args c cX4_pass 4 RX4 wsX4_pass) {r0 : Nat} (okr0 : okRing g r0) {fu : Nat} {s1 : Int32} {x : Mem} (kx0 : ∀ (M2 : Mem) , x = M2 → ∀ (H : Heap) (locs : List Loc) (ls : Array Slot), va_P (gD g) vwCl (wlG g M2) H → va_S (AbG g) s.heap H locs → lv_has ls 4 [] → W p l e (headSpec wsX4_pass rmX4_pass).room s m args below meth c H locs 0 0 Q (F0 m 119 ls [])) {n : Nat} {q0 : Int32 × Mem} (h : lp (b_X4_pass_2 fu r0 s1) n q0 = some x) : ∀ (H : Heap) (locs : List Loc) (ls : Array Slot), va_P (gD g) vwCl (wlG g q0.2) H → va_S (AbG g) s.heap H locs → lv_has ls 4 [(0, .ref (ga g r0)), (1, .int s1), (2, .int q0.1)] → W p l e (headSpec wsX4_pass rmX4_pass).room s m args below meth c H locs 0 0 Q (F0 m 2 ls []) := by
  refine lp_elim (P := fun q0 : Int32 × Mem => ∀ (H : Heap) (locs : List Loc) (ls : Array Slot), va_P (gD g) vwCl (wlG g q0.2) H → va_S (AbG g) s.heap H locs → lv_has ls 4 [(0, .ref (ga g r0)), (1, .int s1), (2, .int q0.1)] → W p l e (headSpec wsX4_pass rmX4_pass).room s m args below meth c H locs 0 0 Q (F0 m 2 ls [])) (fun q1 o hm hI hX => ?_) n q0 h
  obtain ⟨c2, M⟩ := q1
  have kb : ∀ (d2 : Int32) (M2 : Mem) , o = .inl (d2, M2) → ∀ (H : Heap) (locs : List Loc) (ls : Array Slot), va_P (gD g) vwCl (wlG g M2) H → va_S (AbG g) s.heap H locs → lv_has ls 4 [(0, .ref (ga g r0)), (1, .int s1), (2, .int d2)] → W p l e (headSpec wsX4_pass rmX4_pass).room s m args below meth c H locs 0 0 Q (F0 m 2 ls []) := fun d2 M2 e => hI _ e
  have kx0 : ∀ (M2 : Mem) , o = .inr M2 → ∀ (H : Heap) (locs : List Loc) (ls : Array Slot), va_P (gD g) vwCl (wlG g M2) H → va_S (AbG g) s.heap H locs → lv_has ls 4 [] → W p l e (headSpec wsX4_pass rmX4_pass).room s m args below meth c H locs 0 0 Q (F0 m 119 ls []) := fun M2 e => kx0 M2 (hX _ e).symm
  clear hI hX
  intro H locs ls hP hS hl
  obtain ⟨⟨hx, hb, hml, hown, hts⟩, -, -⟩ := id X
  have hl : lv_has ls 4 [(0, .ref (ga g r0)), (1, .int s1), (2, .int c2)] := hl
  have hP : va_P (gD g) vwCl (wlG g M) H := hP
  unfold b_X4_pass_2 at hm
  replace hm := un2_e hm
  refine lv_iload_n hx hb dX4_pass_2 rfl (lv_at hl 2 rfl) ?_
  refine lv_iload_n hx hb dX4_pass_3 rfl (lv_at hl 1 rfl) ?_
  refine lv_icmp_ge (tgt := 119) hx hb dX4_pass_4 (by decide) (fun h_1 => ?_) (fun h_1 => ?_)
  · rw [if_pos h_1] at hm
    exact kx0 M (Option.some.inj hm).symm _ _ _ hP hS (lv_sub hl [] rfl)
  · rw [if_neg h_1] at hm
    refine lv_iconst (v := 0) hx hb dX4_pass_7 (by decide) ?_
    refine lv_istore_n (lv' := [(3, .int 0), (0, .ref (ga g r0)), (1, .int s1), (2, .int c2)]) hx hb dX4_pass_8 rfl hl (by decide) rfl (fun ls hl => ?_)
    obtain ⟨M_15, hL_14, hm⟩ := bind_elim hm
    refine wl_X4_pass_9 X okr0 ?_ hL_14 _ _ _ hP hS (lv_sub hl [1, 2, 3, 0] rfl)
    · intro z_M_15 e_M_15 H locs ls hP hS hl
      subst e_M_15
      replace hm := un1_e hm
      refine lv_iconst (v := 0) hx hb dX4_pass_41 (by decide) ?_
      refine lv_istore_n (lv' := [(3, .int 0), (0, .ref (ga g r0)), (1, .int s1), (2, .int c2)]) hx hb dX4_pass_42 rfl hl (by decide) rfl (fun ls hl => ?_)
      obtain ⟨M_28, hL_27, hm⟩ := bind_elim hm
      refine wl_X4_pass_43 X okr0 ?_ hL_27 _ _ _ hP hS (lv_sub hl [1, 2, 3, 0] rfl)
      · intro z_M_28 e_M_28 H locs ls hP hS hl
        subst e_M_28
        replace hm := un1_e hm
        refine lv_iconst (v := 0) hx hb dX4_pass_82 (by decide) ?_
        refine lv_istore_n (lv' := [(3, .int 0), (0, .ref (ga g r0)), (1, .int s1), (2, .int c2)]) hx hb dX4_pass_83 rfl hl (by decide) rfl (fun ls hl => ?_)
        obtain ⟨M_36, hL_35, hm⟩ := bind_elim hm
        refine wl_X4_pass_84 X okr0 ?_ hL_35 _ _ _ hP hS (lv_sub hl [1, 2, 3, 0] rfl)
        · intro z_M_36 e_M_36 H locs ls hP hS hl
          subst e_M_36
          replace hm := un1_e hm
          refine lv_aload_n hx hb dX4_pass_103 rfl (lv_at hl 0 rfl) ?_
          refine lv_dup hx hb dX4_pass_104 rfl ?_
          refine xg_X4_2 X hP okr0 uX4_pass_X4 mbX4_pass_4 dX4_pass_105 ?_
          refine lv_iconst (v := 1) hx hb dX4_pass_108 (by decide) ?_
          refine lv_iadd hx hb dX4_pass_109 ?_
          obtain ⟨M_37, hM_38, hm⟩ := bnd_elim hm
          refine xp_X4_2 X hP okr0 uX4_pass_X4 mbX4_pass_4 hS hM_38 dX4_pass_110 (fun H locs hP hS => ?_)
          obtain ⟨v_39, hv_40, hm⟩ := bnd_elim hm
          refine lv_iinc (v := v_39) (lv' := [(2, .int v_39), (0, .ref (ga g r0)), (1, .int s1)]) hx hb dX4_pass_113 hl (k := 2) rfl (by rw [hv_40]; rfl) (by decide) rfl (fun ls hl => ?_)
          refine lv_goto (tgt := 2) hx hb dX4_pass_116 (by decide) ?_
          exact kb v_39 M_37 (Option.some.inj hm).symm _ _ _ hP hS (lv_sub hl [1, 2, 0] rfl)

set_option maxHeartbeats 4000000 in
set_option maxRecDepth 100000 in
theorem c_X4_pass (l : Launch) {g : GT} (hA : AxG g) {r0 : Nat} (okr0 : okRing g r0) {fu : Nat} {M : Mem} {a1 : Int32} {MM : Mem} (hm : m_X4_pass fu r0 M a1 = some MM) : CV l yX4_pass wsX4_pass rmX4_pass g [.ref (ga g r0), .int a1] M MM := by
  refine Met.ofW (cc := cX4_pass) (maxL := 4) (ret := none) (by decide) rfl ?_
  intro p e s m args below meth c s₁ B hml hv
  obtain ⟨rfl, hSx, hP⟩ := hv
  have hr := B.returns
  have hlocks := B.notSynchronized
  have X : CxG g p s m _ c cX4_pass 4 RX4 wsX4_pass := ⟨⟨B.exec, B.bytes, hml, findClass_of_methodNamed B.named, atoms_spec (ws := wsX4_pass) B.pre⟩, hSx, hA⟩
  have hS : va_S (AbG g) s.heap s.heap [] := va_S.rf
  have hl := lv_entry (([.ref (ga g r0), .int a1] : List Value)) (n := 4) (Nat.le_of_ble_eq_true rfl)
  rw [lg_entry_eq]
  generalize (lg_sl (([.ref (ga g r0), .int a1] : List Value)) ++ List.replicate (4 - (lg_sl (([.ref (ga g r0), .int a1] : List Value))).length) Slot.unset).toArray = ls at hl ⊢
  have hl : lv_has ls 4 [(0, .ref (ga g r0)), (1, .int a1)] := hl
  obtain ⟨⟨hx, hb, hml, hown, hts⟩, -, -⟩ := id X
  unfold m_X4_pass at hm
  refine lv_iconst (v := 0) hx hb dX4_pass_0 (by decide) ?_
  refine lv_istore_n (lv' := [(2, .int 0), (0, .ref (ga g r0)), (1, .int a1)]) hx hb dX4_pass_1 rfl hl (by decide) rfl (fun ls hl => ?_)
  obtain ⟨M_43, hL_42, hm⟩ := bind_elim hm
  refine wl_X4_pass_2 X okr0 ?_ hL_42 _ _ _ hP hS (lv_sub hl [1, 2, 0] rfl)
  · intro z_M_43 e_M_43 H locs ls hP hS hl
    subst e_M_43
    replace hm := un1_e hm
    cases hm
    exact x_vret X hP hS hr hlocks dX4_pass_119


/-! X4_hasRow -/
def rmX4_hasRow : Room := { frames := 0, cells := 0, slots := 0, locals := 0 }
theorem uX4_hasRow_X4 : ∀ w ∈ wsX40, w ∈ wsX4_hasRow := by decide +kernel
theorem mbX4_hasRow_1 : Cond.fieldLink RX4 9 "FootANight$Ring" "n" "I" ∈ wsX4_hasRow := by decide +kernel
set_option maxHeartbeats 4000000 in
set_option maxRecDepth 100000 in
theorem c_X4_hasRow (l : Launch) {g : GT} (hA : AxG g) {r0 : Nat} (okr0 : okRing g r0) {M : Mem} {a1 : Int32} {rr : Int32} (hm : m_X4_hasRow r0 M a1 = some rr) : CI l yX4_hasRow wsX4_hasRow rmX4_hasRow g [.ref (ga g r0), .int a1] M rr M := by
  refine Met.ofW (cc := cX4_hasRow) (maxL := 2) (ret := (some .boolean)) (by decide) rfl ?_
  intro p e s m args below meth c s₁ B hml hv
  obtain ⟨rfl, hSx, hP⟩ := hv
  have hr := B.returns
  have hlocks := B.notSynchronized
  have X : CxG g p s m _ c cX4_hasRow 2 RX4 wsX4_hasRow := ⟨⟨B.exec, B.bytes, hml, findClass_of_methodNamed B.named, atoms_spec (ws := wsX4_hasRow) B.pre⟩, hSx, hA⟩
  have hS : va_S (AbG g) s.heap s.heap [] := va_S.rf
  have hl := lv_entry (([.ref (ga g r0), .int a1] : List Value)) (n := 2) (Nat.le_of_ble_eq_true rfl)
  rw [lg_entry_eq]
  generalize (lg_sl (([.ref (ga g r0), .int a1] : List Value)) ++ List.replicate (2 - (lg_sl (([.ref (ga g r0), .int a1] : List Value))).length) Slot.unset).toArray = ls at hl ⊢
  have hl : lv_has ls 2 [(0, .ref (ga g r0)), (1, .int a1)] := hl
  obtain ⟨⟨hx, hb, hml, hown, hts⟩, -, -⟩ := id X
  unfold m_X4_hasRow at hm
  refine lv_iload_n hx hb dX4_hasRow_0 rfl (lv_at hl 1 rfl) ?_
  refine lv_if_lt (tgt := 20) hx hb dX4_hasRow_1 (by decide) (fun h_1 => ?_) (fun h_1 => ?_)
  · rw [if_pos h_1] at hm
    refine lv_iconst (v := 0) hx hb dX4_hasRow_20 (by decide) ?_
    cases hm
    exact x_zret X (by decide) hP hS hr hlocks dX4_hasRow_21
  · rw [if_neg h_1] at hm
    refine lv_iload_n hx hb dX4_hasRow_4 rfl (lv_at hl 1 rfl) ?_
    refine lv_iconst (v := 1) hx hb dX4_hasRow_5 (by decide) ?_
    refine lv_iconst (v := 2) hx hb dX4_hasRow_6 (by decide) ?_
    refine lv_aload_n hx hb dX4_hasRow_7 rfl (lv_at hl 0 rfl) ?_
    refine xg_X4_0 X hP okr0 uX4_hasRow_X4 mbX4_hasRow_1 dX4_hasRow_8 ?_
    refine lv_imul hx hb dX4_hasRow_11 ?_
    refine lv_ishl hx hb dX4_hasRow_12 ?_
    refine lv_icmp_ge (tgt := 20) hx hb dX4_hasRow_13 (by decide) (fun h_2 => ?_) (fun h_2 => ?_)
    · rw [if_pos h_2] at hm
      refine lv_iconst (v := 0) hx hb dX4_hasRow_20 (by decide) ?_
      cases hm
      exact x_zret X (by decide) hP hS hr hlocks dX4_hasRow_21
    · rw [if_neg h_2] at hm
      refine lv_iconst (v := 1) hx hb dX4_hasRow_16 (by decide) ?_
      refine lv_goto (tgt := 21) hx hb dX4_hasRow_17 (by decide) ?_
      cases hm
      exact x_zret X (by decide) hP hS hr hlocks dX4_hasRow_21


/-! X4_copy -/
def rmX4_copy : Room := { frames := 2, cells := 0, slots := 0, locals := 48 }
theorem uX4_copy_X4 : ∀ w ∈ wsX40, w ∈ wsX4_copy := by decide +kernel
theorem mbX4_copy_1 : Cond.fieldLink RX4 9 "FootANight$Ring" "n" "I" ∈ wsX4_copy := by decide +kernel
theorem mbX4_copy_2 : Cond.fieldLink RX4 15 "FootANight$Ring" "drawn" "I" ∈ wsX4_copy := by decide +kernel
theorem mbX4_copy_3 : Cond.fieldLink RX4 18 "FootANight$Ring" "night" "I" ∈ wsX4_copy := by decide +kernel
theorem mbX4_copy_4 : Cond.fieldLink RX4 21 "FootANight$Ring" "moved" "I" ∈ wsX4_copy := by decide +kernel
theorem mbX4_copy_5 : Cond.fieldLink RX4 24 "FootANight$Ring" "told" "[I" ∈ wsX4_copy := by decide +kernel
theorem mbX4_copy_6 : Cond.methodLink RX4 59 arraycopyName ∈ wsX4_copy := by decide +kernel
theorem mbX4_copy_7 : Cond.native arraycopyName ∈ wsX4_copy := by decide +kernel
theorem mbX4_copy_8 : Cond.static arraycopyName ∈ wsX4_copy := by decide +kernel
theorem mbX4_copy_9 : Cond.initialized "java/lang/System" ∈ wsX4_copy := by decide +kernel
theorem mbX4_copy_10 : Cond.fieldLink RX4 33 "FootANight$Ring" "purses" "[J" ∈ wsX4_copy := by decide +kernel
theorem mbX4_copy_11 : Cond.fieldLink RX4 30 "FootANight$Ring" "lands" "[[I" ∈ wsX4_copy := by decide +kernel
theorem mbX4_copy_12 : Cond.fieldLink RX4 37 "FootANight$Ring" "stakes" "[[I" ∈ wsX4_copy := by decide +kernel
theorem mbX4_copy_13 : Cond.fieldLink RX4 42 "FootANight$Ring" "laws" "[LFootANight$Law;" ∈ wsX4_copy := by decide +kernel
theorem uX4_copy_X2 : ∀ w ∈ wsX20, w ∈ wsX4_copy := by decide +kernel
theorem mbX4_copy_15 : Cond.fieldLink RX4 76 "FootANight$Law" "code" "[I" ∈ wsX4_copy := by decide +kernel
theorem mbX4_copy_16 : Cond.fieldLink RX4 79 "FootANight$Law" "length" "I" ∈ wsX4_copy := by decide +kernel
set_option maxHeartbeats 4000000 in
set_option maxRecDepth 100000 in
theorem wl_X4_copy_64 (X : CxG g p s m args c cX4_copy 3 RX4 wsX4_copy) {r0 : Nat} {r1 : Nat} (okr0 : okRing g r0) (okr1 : okRing g r1) {fu : Nat} {x : Mem} (kx0 : ∀ (M2 : Mem) , x = M2 → ∀ (H : Heap) (locs : List Loc) (ls : Array Slot), va_P (gD g) vwCl (wlG g M2) H → va_S (AbG g) s.heap H locs → lv_has ls 3 [(0, .ref (ga g r0)), (1, .ref (ga g r1))] → W p l e (headSpec wsX4_copy rmX4_copy).room s m args below meth c H locs 0 0 Q (F0 m 113 ls [])) {n : Nat} {q0 : Int32 × Mem} (h : lp (b_X4_copy_64 fu r0 r1) n q0 = some x) : ∀ (H : Heap) (locs : List Loc) (ls : Array Slot), va_P (gD g) vwCl (wlG g q0.2) H → va_S (AbG g) s.heap H locs → lv_has ls 3 [(0, .ref (ga g r0)), (1, .ref (ga g r1)), (2, .int q0.1)] → W p l e (headSpec wsX4_copy rmX4_copy).room s m args below meth c H locs 0 0 Q (F0 m 64 ls []) := by
  refine lp_elim (P := fun q0 : Int32 × Mem => ∀ (H : Heap) (locs : List Loc) (ls : Array Slot), va_P (gD g) vwCl (wlG g q0.2) H → va_S (AbG g) s.heap H locs → lv_has ls 3 [(0, .ref (ga g r0)), (1, .ref (ga g r1)), (2, .int q0.1)] → W p l e (headSpec wsX4_copy rmX4_copy).room s m args below meth c H locs 0 0 Q (F0 m 64 ls [])) (fun q1 o hm hI hX => ?_) n q0 h
  obtain ⟨c2, M⟩ := q1
  have kb : ∀ (d2 : Int32) (M2 : Mem) , o = .inl (d2, M2) → ∀ (H : Heap) (locs : List Loc) (ls : Array Slot), va_P (gD g) vwCl (wlG g M2) H → va_S (AbG g) s.heap H locs → lv_has ls 3 [(0, .ref (ga g r0)), (1, .ref (ga g r1)), (2, .int d2)] → W p l e (headSpec wsX4_copy rmX4_copy).room s m args below meth c H locs 0 0 Q (F0 m 64 ls []) := fun d2 M2 e => hI _ e
  have kx0 : ∀ (M2 : Mem) , o = .inr M2 → ∀ (H : Heap) (locs : List Loc) (ls : Array Slot), va_P (gD g) vwCl (wlG g M2) H → va_S (AbG g) s.heap H locs → lv_has ls 3 [(0, .ref (ga g r0)), (1, .ref (ga g r1))] → W p l e (headSpec wsX4_copy rmX4_copy).room s m args below meth c H locs 0 0 Q (F0 m 113 ls []) := fun M2 e => kx0 M2 (hX _ e).symm
  clear hI hX
  intro H locs ls hP hS hl
  obtain ⟨⟨hx, hb, hml, hown, hts⟩, -, -⟩ := id X
  have hl : lv_has ls 3 [(0, .ref (ga g r0)), (1, .ref (ga g r1)), (2, .int c2)] := hl
  have hP : va_P (gD g) vwCl (wlG g M) H := hP
  unfold b_X4_copy_64 at hm
  replace hm := un2_e hm
  refine lv_iload_n hx hb dX4_copy_64 rfl (lv_at hl 2 rfl) ?_
  refine lv_bipush (v := 10) hx hb dX4_copy_65 (by decide) ?_
  refine lv_icmp_ge (tgt := 113) hx hb dX4_copy_67 (by decide) (fun h_15 => ?_) (fun h_15 => ?_)
  · rw [if_pos h_15] at hm
    exact kx0 M (Option.some.inj hm).symm _ _ _ hP hS (lv_sub hl [0, 1] rfl)
  · rw [if_neg h_15] at hm
    refine lv_aload_n hx hb dX4_copy_70 rfl (lv_at hl 1 rfl) ?_
    refine xg_X4_5 X hP okr1 uX4_copy_X4 mbX4_copy_11 dX4_copy_71 ?_
    refine lv_iload_n hx hb dX4_copy_74 rfl (lv_at hl 2 rfl) ?_
    obtain ⟨hb_16, hm⟩ := chk_elim hm
    refine x_aaldI X hP okr1.lands hb_16 dX4_copy_75 ?_
    refine lv_iconst (v := 0) hx hb dX4_copy_76 (by decide) ?_
    refine lv_aload_n hx hb dX4_copy_77 rfl (lv_at hl 0 rfl) ?_
    refine xg_X4_5 X hP okr0 uX4_copy_X4 mbX4_copy_11 dX4_copy_78 ?_
    refine lv_iload_n hx hb dX4_copy_81 rfl (lv_at hl 2 rfl) ?_
    refine x_aaldI X hP okr0.lands hb_16 dX4_copy_82 ?_
    refine lv_iconst (v := 0) hx hb dX4_copy_83 (by decide) ?_
    refine lv_bipush (v := 9) hx hb dX4_copy_84 (by decide) ?_
    obtain ⟨hc_17, hm⟩ := chk_elim hm
    obtain ⟨M_18, hM_19, hm⟩ := bnd_elim hm
    refine x_copyi X hP hS (hml.trans hl.1.symm) mbX4_copy_6 mbX4_copy_7 mbX4_copy_8 mbX4_copy_9 (okr1.land (inb_lt hb_16)) (okr0.land (inb_lt hb_16)) hc_17 hM_19 (Nat.le_of_ble_eq_true rfl) (Nat.le_of_ble_eq_true rfl) dX4_copy_86 (fun H locs hP hS => ?_)
    refine lv_aload_n hx hb dX4_copy_89 rfl (lv_at hl 1 rfl) ?_
    refine xg_X4_7 X hP okr1 uX4_copy_X4 mbX4_copy_12 dX4_copy_90 ?_
    refine lv_iload_n hx hb dX4_copy_93 rfl (lv_at hl 2 rfl) ?_
    refine x_aaldI X hP okr1.stakes hb_16 dX4_copy_94 ?_
    refine lv_iconst (v := 0) hx hb dX4_copy_95 (by decide) ?_
    refine lv_aload_n hx hb dX4_copy_96 rfl (lv_at hl 0 rfl) ?_
    refine xg_X4_7 X hP okr0 uX4_copy_X4 mbX4_copy_12 dX4_copy_97 ?_
    refine lv_iload_n hx hb dX4_copy_100 rfl (lv_at hl 2 rfl) ?_
    refine x_aaldI X hP okr0.stakes hb_16 dX4_copy_101 ?_
    refine lv_iconst (v := 0) hx hb dX4_copy_102 (by decide) ?_
    refine lv_iconst (v := 4) hx hb dX4_copy_103 (by decide) ?_
    obtain ⟨hc_20, hm⟩ := chk_elim hm
    obtain ⟨M_21, hM_22, hm⟩ := bnd_elim hm
    refine x_copyi X hP hS (hml.trans hl.1.symm) mbX4_copy_6 mbX4_copy_7 mbX4_copy_8 mbX4_copy_9 (okr1.stake (inb_lt hb_16)) (okr0.stake (inb_lt hb_16)) hc_20 hM_22 (Nat.le_of_ble_eq_true rfl) (Nat.le_of_ble_eq_true rfl) dX4_copy_104 (fun H locs hP hS => ?_)
    obtain ⟨v_23, hv_24, hm⟩ := bnd_elim hm
    refine lv_iinc (v := v_23) (lv' := [(2, .int v_23), (0, .ref (ga g r0)), (1, .ref (ga g r1))]) hx hb dX4_copy_107 hl (k := 2) rfl (by rw [hv_24]; rfl) (by decide) rfl (fun ls hl => ?_)
    refine lv_goto (tgt := 64) hx hb dX4_copy_110 (by decide) ?_
    exact kb v_23 M_21 (Option.some.inj hm).symm _ _ _ hP hS (lv_sub hl [1, 2, 0] rfl)

set_option maxHeartbeats 4000000 in
set_option maxRecDepth 100000 in
theorem wl_X4_copy_115 (X : CxG g p s m args c cX4_copy 3 RX4 wsX4_copy) {r0 : Nat} {r1 : Nat} (okr0 : okRing g r0) (okr1 : okRing g r1) {fu : Nat} {x : Mem} (kx0 : ∀ (M2 : Mem) , x = M2 → ∀ (H : Heap) (locs : List Loc) (ls : Array Slot), va_P (gD g) vwCl (wlG g M2) H → va_S (AbG g) s.heap H locs → lv_has ls 3 [] → W p l e (headSpec wsX4_copy rmX4_copy).room s m args below meth c H locs 0 0 Q (F0 m 153 ls [])) {n : Nat} {q0 : Int32 × Mem} (h : lp (b_X4_copy_115 fu r0 r1) n q0 = some x) : ∀ (H : Heap) (locs : List Loc) (ls : Array Slot), va_P (gD g) vwCl (wlG g q0.2) H → va_S (AbG g) s.heap H locs → lv_has ls 3 [(0, .ref (ga g r0)), (1, .ref (ga g r1)), (2, .int q0.1)] → W p l e (headSpec wsX4_copy rmX4_copy).room s m args below meth c H locs 0 0 Q (F0 m 115 ls []) := by
  refine lp_elim (P := fun q0 : Int32 × Mem => ∀ (H : Heap) (locs : List Loc) (ls : Array Slot), va_P (gD g) vwCl (wlG g q0.2) H → va_S (AbG g) s.heap H locs → lv_has ls 3 [(0, .ref (ga g r0)), (1, .ref (ga g r1)), (2, .int q0.1)] → W p l e (headSpec wsX4_copy rmX4_copy).room s m args below meth c H locs 0 0 Q (F0 m 115 ls [])) (fun q1 o hm hI hX => ?_) n q0 h
  obtain ⟨c2, M⟩ := q1
  have kb : ∀ (d2 : Int32) (M2 : Mem) , o = .inl (d2, M2) → ∀ (H : Heap) (locs : List Loc) (ls : Array Slot), va_P (gD g) vwCl (wlG g M2) H → va_S (AbG g) s.heap H locs → lv_has ls 3 [(0, .ref (ga g r0)), (1, .ref (ga g r1)), (2, .int d2)] → W p l e (headSpec wsX4_copy rmX4_copy).room s m args below meth c H locs 0 0 Q (F0 m 115 ls []) := fun d2 M2 e => hI _ e
  have kx0 : ∀ (M2 : Mem) , o = .inr M2 → ∀ (H : Heap) (locs : List Loc) (ls : Array Slot), va_P (gD g) vwCl (wlG g M2) H → va_S (AbG g) s.heap H locs → lv_has ls 3 [] → W p l e (headSpec wsX4_copy rmX4_copy).room s m args below meth c H locs 0 0 Q (F0 m 153 ls []) := fun M2 e => kx0 M2 (hX _ e).symm
  clear hI hX
  intro H locs ls hP hS hl
  obtain ⟨⟨hx, hb, hml, hown, hts⟩, -, -⟩ := id X
  have hl : lv_has ls 3 [(0, .ref (ga g r0)), (1, .ref (ga g r1)), (2, .int c2)] := hl
  have hP : va_P (gD g) vwCl (wlG g M) H := hP
  unfold b_X4_copy_115 at hm
  replace hm := un2_e hm
  refine lv_iload_n hx hb dX4_copy_115 rfl (lv_at hl 2 rfl) ?_
  refine lv_iconst (v := 4) hx hb dX4_copy_116 (by decide) ?_
  refine lv_icmp_ge (tgt := 153) hx hb dX4_copy_117 (by decide) (fun h_28 => ?_) (fun h_28 => ?_)
  · rw [if_pos h_28] at hm
    exact kx0 M (Option.some.inj hm).symm _ _ _ hP hS (lv_sub hl [] rfl)
  · rw [if_neg h_28] at hm
    refine lv_aload_n hx hb dX4_copy_120 rfl (lv_at hl 0 rfl) ?_
    refine xg_X4_8 X hP okr0 uX4_copy_X4 mbX4_copy_13 dX4_copy_121 ?_
    refine lv_iload_n hx hb dX4_copy_124 rfl (lv_at hl 2 rfl) ?_
    obtain ⟨hb_29, hm⟩ := chk_elim hm
    refine x_aaldL X hP okr0.laws hb_29 dX4_copy_125 ?_
    refine lv_aload_n hx hb dX4_copy_126 rfl (lv_at hl 1 rfl) ?_
    refine xg_X4_8 X hP okr1 uX4_copy_X4 mbX4_copy_13 dX4_copy_127 ?_
    refine lv_iload_n hx hb dX4_copy_130 rfl (lv_at hl 2 rfl) ?_
    refine x_aaldL X hP okr1.laws hb_29 dX4_copy_131 ?_
    refine xg_X2_0 X hP (okr1.law (inb_lt hb_29)) uX4_copy_X2 mbX4_copy_15 dX4_copy_132 ?_
    refine lv_aload_n hx hb dX4_copy_135 rfl (lv_at hl 1 rfl) ?_
    refine xg_X4_8 X hP okr1 uX4_copy_X4 mbX4_copy_13 dX4_copy_136 ?_
    refine lv_iload_n hx hb dX4_copy_139 rfl (lv_at hl 2 rfl) ?_
    refine x_aaldL X hP okr1.laws hb_29 dX4_copy_140 ?_
    refine xg_X2_1 X hP (okr1.law (inb_lt hb_29)) uX4_copy_X2 mbX4_copy_16 dX4_copy_141 ?_
    obtain ⟨M_31, hc_30, hm⟩ := bind_elim hm
    refine x_callv (x_runV (As := [.ref (ga g (r1 + 28 + ix c2 + 4)), .int (rd M (r1 + 28 + ix c2) 1)]) (rest := []) X hP hS (c_X2_take l X.2.2 (okr0.law (inb_lt hb_29)) ((okr1.law (inb_lt hb_29)).2) hc_30) (cwV 2 hts gX4_copy_X2_take rfl rfl rfl (by decide +kernel) ⟨Nat.le_of_ble_eq_true rfl, Nat.le_of_ble_eq_true rfl⟩) (x_recv (C := RX2) (T := TX2) (N := 2) X hP (okr0.law (inb_lt hb_29)).1 rfl) rfl hl.1 rfl (Nat.le_of_ble_eq_true rfl) dX4_copy_144 ⟨Nat.zero_le _, Nat.zero_le _⟩) hS (fun H locs hP hS => ?_)
    obtain ⟨v_32, hv_33, hm⟩ := bnd_elim hm
    refine lv_iinc (v := v_32) (lv' := [(2, .int v_32), (0, .ref (ga g r0)), (1, .ref (ga g r1))]) hx hb dX4_copy_147 hl (k := 2) rfl (by rw [hv_33]; rfl) (by decide) rfl (fun ls hl => ?_)
    refine lv_goto (tgt := 115) hx hb dX4_copy_150 (by decide) ?_
    exact kb v_32 M_31 (Option.some.inj hm).symm _ _ _ hP hS (lv_sub hl [1, 2, 0] rfl)

set_option maxHeartbeats 4000000 in
set_option maxRecDepth 100000 in
theorem c_X4_copy (l : Launch) {g : GT} (hA : AxG g) {r0 : Nat} {r1 : Nat} (okr0 : okRing g r0) (okr1 : okRing g r1) {fu : Nat} {M : Mem} {MM : Mem} (hm : m_X4_copy fu r0 r1 M = some MM) : CV l yX4_copy wsX4_copy rmX4_copy g [.ref (ga g r0), .ref (ga g r1)] M MM := by
  refine Met.ofW (cc := cX4_copy) (maxL := 3) (ret := none) (by decide) rfl ?_
  intro p e s m args below meth c s₁ B hml hv
  obtain ⟨rfl, hSx, hP⟩ := hv
  have hr := B.returns
  have hlocks := B.notSynchronized
  have X : CxG g p s m _ c cX4_copy 3 RX4 wsX4_copy := ⟨⟨B.exec, B.bytes, hml, findClass_of_methodNamed B.named, atoms_spec (ws := wsX4_copy) B.pre⟩, hSx, hA⟩
  have hS : va_S (AbG g) s.heap s.heap [] := va_S.rf
  have hl := lv_entry (([.ref (ga g r0), .ref (ga g r1)] : List Value)) (n := 3) (Nat.le_of_ble_eq_true rfl)
  rw [lg_entry_eq]
  generalize (lg_sl (([.ref (ga g r0), .ref (ga g r1)] : List Value)) ++ List.replicate (3 - (lg_sl (([.ref (ga g r0), .ref (ga g r1)] : List Value))).length) Slot.unset).toArray = ls at hl ⊢
  have hl : lv_has ls 3 [(0, .ref (ga g r0)), (1, .ref (ga g r1))] := hl
  obtain ⟨⟨hx, hb, hml, hown, hts⟩, -, -⟩ := id X
  unfold m_X4_copy at hm
  refine lv_aload_n hx hb dX4_copy_0 rfl (lv_at hl 0 rfl) ?_
  refine lv_aload_n hx hb dX4_copy_1 rfl (lv_at hl 1 rfl) ?_
  refine xg_X4_0 X hP okr1 uX4_copy_X4 mbX4_copy_1 dX4_copy_2 ?_
  obtain ⟨M_1, hM_2, hm⟩ := bnd_elim hm
  refine xp_X4_0 X hP okr0 uX4_copy_X4 mbX4_copy_1 hS hM_2 dX4_copy_5 (fun H locs hP hS => ?_)
  refine lv_aload_n hx hb dX4_copy_8 rfl (lv_at hl 0 rfl) ?_
  refine lv_aload_n hx hb dX4_copy_9 rfl (lv_at hl 1 rfl) ?_
  refine xg_X4_1 X hP okr1 uX4_copy_X4 mbX4_copy_2 dX4_copy_10 ?_
  obtain ⟨M_3, hM_4, hm⟩ := bnd_elim hm
  refine xp_X4_1 X hP okr0 uX4_copy_X4 mbX4_copy_2 hS hM_4 dX4_copy_13 (fun H locs hP hS => ?_)
  refine lv_aload_n hx hb dX4_copy_16 rfl (lv_at hl 0 rfl) ?_
  refine lv_aload_n hx hb dX4_copy_17 rfl (lv_at hl 1 rfl) ?_
  refine xg_X4_2 X hP okr1 uX4_copy_X4 mbX4_copy_3 dX4_copy_18 ?_
  obtain ⟨M_5, hM_6, hm⟩ := bnd_elim hm
  refine xp_X4_2 X hP okr0 uX4_copy_X4 mbX4_copy_3 hS hM_6 dX4_copy_21 (fun H locs hP hS => ?_)
  refine lv_aload_n hx hb dX4_copy_24 rfl (lv_at hl 0 rfl) ?_
  refine lv_aload_n hx hb dX4_copy_25 rfl (lv_at hl 1 rfl) ?_
  refine xg_X4_3 X hP okr1 uX4_copy_X4 mbX4_copy_4 dX4_copy_26 ?_
  obtain ⟨M_7, hM_8, hm⟩ := bnd_elim hm
  refine xp_X4_3 X hP okr0 uX4_copy_X4 mbX4_copy_4 hS hM_8 dX4_copy_29 (fun H locs hP hS => ?_)
  refine lv_aload_n hx hb dX4_copy_32 rfl (lv_at hl 1 rfl) ?_
  refine xg_X4_4 X hP okr1 uX4_copy_X4 mbX4_copy_5 dX4_copy_33 ?_
  refine lv_iconst (v := 0) hx hb dX4_copy_36 (by decide) ?_
  refine lv_aload_n hx hb dX4_copy_37 rfl (lv_at hl 0 rfl) ?_
  refine xg_X4_4 X hP okr0 uX4_copy_X4 mbX4_copy_5 dX4_copy_38 ?_
  refine lv_iconst (v := 0) hx hb dX4_copy_41 (by decide) ?_
  refine lv_bipush (v := 10) hx hb dX4_copy_42 (by decide) ?_
  obtain ⟨hc_9, hm⟩ := chk_elim hm
  obtain ⟨M_10, hM_11, hm⟩ := bnd_elim hm
  refine x_copyi X hP hS (hml.trans hl.1.symm) mbX4_copy_6 mbX4_copy_7 mbX4_copy_8 mbX4_copy_9 okr1.told okr0.told hc_9 hM_11 (Nat.le_of_ble_eq_true rfl) (Nat.le_of_ble_eq_true rfl) dX4_copy_44 (fun H locs hP hS => ?_)
  refine lv_aload_n hx hb dX4_copy_47 rfl (lv_at hl 1 rfl) ?_
  refine xg_X4_6 X hP okr1 uX4_copy_X4 mbX4_copy_10 dX4_copy_48 ?_
  refine lv_iconst (v := 0) hx hb dX4_copy_51 (by decide) ?_
  refine lv_aload_n hx hb dX4_copy_52 rfl (lv_at hl 0 rfl) ?_
  refine xg_X4_6 X hP okr0 uX4_copy_X4 mbX4_copy_10 dX4_copy_53 ?_
  refine lv_iconst (v := 0) hx hb dX4_copy_56 (by decide) ?_
  refine lv_bipush (v := 10) hx hb dX4_copy_57 (by decide) ?_
  obtain ⟨hc_12, hm⟩ := chk_elim hm
  obtain ⟨M_13, hM_14, hm⟩ := bnd_elim hm
  refine x_copyl X hP hS (hml.trans hl.1.symm) mbX4_copy_6 mbX4_copy_7 mbX4_copy_8 mbX4_copy_9 okr1.purses okr0.purses hc_12 hM_14 (Nat.le_of_ble_eq_true rfl) (Nat.le_of_ble_eq_true rfl) dX4_copy_59 (fun H locs hP hS => ?_)
  refine lv_iconst (v := 0) hx hb dX4_copy_62 (by decide) ?_
  refine lv_istore_n (lv' := [(2, .int 0), (0, .ref (ga g r0)), (1, .ref (ga g r1))]) hx hb dX4_copy_63 rfl hl (by decide) rfl (fun ls hl => ?_)
  obtain ⟨M_27, hL_26, hm⟩ := bind_elim hm
  refine wl_X4_copy_64 X okr0 okr1 ?_ hL_26 _ _ _ hP hS (lv_sub hl [1, 2, 0] rfl)
  · intro z_M_27 e_M_27 H locs ls hP hS hl
    subst e_M_27
    replace hm := un1_e hm
    refine lv_iconst (v := 0) hx hb dX4_copy_113 (by decide) ?_
    refine lv_istore_n (lv' := [(2, .int 0), (0, .ref (ga g r0)), (1, .ref (ga g r1))]) hx hb dX4_copy_114 rfl hl (by decide) rfl (fun ls hl => ?_)
    obtain ⟨M_36, hL_35, hm⟩ := bind_elim hm
    refine wl_X4_copy_115 X okr0 okr1 ?_ hL_35 _ _ _ hP hS (lv_sub hl [1, 2, 0] rfl)
    · intro z_M_36 e_M_36 H locs ls hP hS hl
      subst e_M_36
      replace hm := un1_e hm
      cases hm
      exact x_vret X hP hS hr hlocks dX4_copy_153


/-! X4_added -/
def rmX4_added : Room := { frames := 0, cells := 0, slots := 0, locals := 0 }
theorem uX4_added_X4 : ∀ w ∈ wsX40, w ∈ wsX4_added := by decide +kernel
theorem mbX4_added_1 : Cond.fieldLink RX4 9 "FootANight$Ring" "n" "I" ∈ wsX4_added := by decide +kernel
theorem mbX4_added_2 : Cond.fieldLink RX4 30 "FootANight$Ring" "lands" "[[I" ∈ wsX4_added := by decide +kernel
set_option maxHeartbeats 4000000 in
set_option maxRecDepth 100000 in
theorem wl_X4_added_4 (X : CxG g p s m args c cX4_added 4 RX4 wsX4_added) {r0 : Nat} (okr0 : okRing g r0) {fu : Nat} {M : Mem} {s1 : Int32} {x : Int32} (kx0 : ∀ (d2 : Int32) , x = d2 → ∀ (H : Heap) (locs : List Loc) (ls : Array Slot), va_P (gD g) vwCl (wlG g M) H → va_S (AbG g) s.heap H locs → lv_has ls 4 [(2, .int d2)] → W p l e (headSpec wsX4_added rmX4_added).room s m args below meth c H locs 0 0 Q (F0 m 29 ls [])) {n : Nat} {q0 : Int32 × Int32} (h : lp (b_X4_added_4 fu r0 M s1) n q0 = some x) : ∀ (H : Heap) (locs : List Loc) (ls : Array Slot), va_P (gD g) vwCl (wlG g M) H → va_S (AbG g) s.heap H locs → lv_has ls 4 [(0, .ref (ga g r0)), (1, .int s1), (2, .int q0.1), (3, .int q0.2)] → W p l e (headSpec wsX4_added rmX4_added).room s m args below meth c H locs 0 0 Q (F0 m 4 ls []) := by
  refine lp_elim (P := fun q0 : Int32 × Int32 => ∀ (H : Heap) (locs : List Loc) (ls : Array Slot), va_P (gD g) vwCl (wlG g M) H → va_S (AbG g) s.heap H locs → lv_has ls 4 [(0, .ref (ga g r0)), (1, .int s1), (2, .int q0.1), (3, .int q0.2)] → W p l e (headSpec wsX4_added rmX4_added).room s m args below meth c H locs 0 0 Q (F0 m 4 ls [])) (fun q1 o hm hI hX => ?_) n q0 h
  obtain ⟨c2, c3⟩ := q1
  have kb : ∀ (d2 : Int32) (d3 : Int32) , o = .inl (d2, d3) → ∀ (H : Heap) (locs : List Loc) (ls : Array Slot), va_P (gD g) vwCl (wlG g M) H → va_S (AbG g) s.heap H locs → lv_has ls 4 [(0, .ref (ga g r0)), (1, .int s1), (2, .int d2), (3, .int d3)] → W p l e (headSpec wsX4_added rmX4_added).room s m args below meth c H locs 0 0 Q (F0 m 4 ls []) := fun d2 d3 e => hI _ e
  have kx0 : ∀ (d2 : Int32) , o = .inr d2 → ∀ (H : Heap) (locs : List Loc) (ls : Array Slot), va_P (gD g) vwCl (wlG g M) H → va_S (AbG g) s.heap H locs → lv_has ls 4 [(2, .int d2)] → W p l e (headSpec wsX4_added rmX4_added).room s m args below meth c H locs 0 0 Q (F0 m 29 ls []) := fun d2 e => kx0 d2 (hX _ e).symm
  clear hI hX
  intro H locs ls hP hS hl
  obtain ⟨⟨hx, hb, hml, hown, hts⟩, -, -⟩ := id X
  have hl : lv_has ls 4 [(0, .ref (ga g r0)), (1, .int s1), (2, .int c2), (3, .int c3)] := hl
  have hP : va_P (gD g) vwCl (wlG g M) H := hP
  unfold b_X4_added_4 at hm
  replace hm := un2_e hm
  refine lv_iload_n hx hb dX4_added_4 rfl (lv_at hl 3 rfl) ?_
  refine lv_aload_n hx hb dX4_added_5 rfl (lv_at hl 0 rfl) ?_
  refine xg_X4_0 X hP okr0 uX4_added_X4 mbX4_added_1 dX4_added_6 ?_
  refine lv_icmp_ge (tgt := 29) hx hb dX4_added_9 (by decide) (fun h_1 => ?_) (fun h_1 => ?_)
  · rw [if_pos h_1] at hm
    exact kx0 c2 (Option.some.inj hm).symm _ _ _ hP hS (lv_sub hl [2] rfl)
  · rw [if_neg h_1] at hm
    refine lv_iload_n hx hb dX4_added_12 rfl (lv_at hl 2 rfl) ?_
    refine lv_aload_n hx hb dX4_added_13 rfl (lv_at hl 0 rfl) ?_
    refine xg_X4_5 X hP okr0 uX4_added_X4 mbX4_added_2 dX4_added_14 ?_
    refine lv_iload_n hx hb dX4_added_17 rfl (lv_at hl 3 rfl) ?_
    obtain ⟨hb_2, hm⟩ := chk_elim hm
    refine x_aaldI X hP okr0.lands hb_2 dX4_added_18 ?_
    refine lv_iload_n hx hb dX4_added_19 rfl (lv_at hl 1 rfl) ?_
    obtain ⟨hb_3, hm⟩ := chk_elim hm
    refine x_iald X hP (okr0.land (inb_lt hb_2)) hb_3 dX4_added_20 ?_
    refine lv_iadd hx hb dX4_added_21 ?_
    obtain ⟨v_4, hv_5, hm⟩ := bnd_elim hm
    refine x_name hv_5 ?_
    refine lv_istore_n (lv' := [(2, .int v_4), (0, .ref (ga g r0)), (1, .int s1), (3, .int c3)]) hx hb dX4_added_22 rfl hl (by decide) rfl (fun ls hl => ?_)
    obtain ⟨v_6, hv_7, hm⟩ := bnd_elim hm
    refine lv_iinc (v := v_6) (lv' := [(3, .int v_6), (2, .int v_4), (0, .ref (ga g r0)), (1, .int s1)]) hx hb dX4_added_23 hl (k := 3) rfl (by rw [hv_7]; rfl) (by decide) rfl (fun ls hl => ?_)
    refine lv_goto (tgt := 4) hx hb dX4_added_26 (by decide) ?_
    exact kb v_4 v_6 (Option.some.inj hm).symm _ _ _ hP hS (lv_sub hl [2, 3, 1, 0] rfl)

set_option maxHeartbeats 4000000 in
set_option maxRecDepth 100000 in
theorem c_X4_added (l : Launch) {g : GT} (hA : AxG g) {r0 : Nat} (okr0 : okRing g r0) {fu : Nat} {M : Mem} {a1 : Int32} {rr : Int32} (hm : m_X4_added fu r0 M a1 = some rr) : CI l yX4_added wsX4_added rmX4_added g [.ref (ga g r0), .int a1] M rr M := by
  refine Met.ofW (cc := cX4_added) (maxL := 4) (ret := (some .int)) (by decide) rfl ?_
  intro p e s m args below meth c s₁ B hml hv
  obtain ⟨rfl, hSx, hP⟩ := hv
  have hr := B.returns
  have hlocks := B.notSynchronized
  have X : CxG g p s m _ c cX4_added 4 RX4 wsX4_added := ⟨⟨B.exec, B.bytes, hml, findClass_of_methodNamed B.named, atoms_spec (ws := wsX4_added) B.pre⟩, hSx, hA⟩
  have hS : va_S (AbG g) s.heap s.heap [] := va_S.rf
  have hl := lv_entry (([.ref (ga g r0), .int a1] : List Value)) (n := 4) (Nat.le_of_ble_eq_true rfl)
  rw [lg_entry_eq]
  generalize (lg_sl (([.ref (ga g r0), .int a1] : List Value)) ++ List.replicate (4 - (lg_sl (([.ref (ga g r0), .int a1] : List Value))).length) Slot.unset).toArray = ls at hl ⊢
  have hl : lv_has ls 4 [(0, .ref (ga g r0)), (1, .int a1)] := hl
  obtain ⟨⟨hx, hb, hml, hown, hts⟩, -, -⟩ := id X
  unfold m_X4_added at hm
  refine lv_iconst (v := 0) hx hb dX4_added_0 (by decide) ?_
  refine lv_istore_n (lv' := [(2, .int 0), (0, .ref (ga g r0)), (1, .int a1)]) hx hb dX4_added_1 rfl hl (by decide) rfl (fun ls hl => ?_)
  refine lv_iconst (v := 0) hx hb dX4_added_2 (by decide) ?_
  refine lv_istore_n (lv' := [(3, .int 0), (2, .int 0), (0, .ref (ga g r0)), (1, .int a1)]) hx hb dX4_added_3 rfl hl (by decide) rfl (fun ls hl => ?_)
  obtain ⟨v_10, hL_9, hm⟩ := bind_elim hm
  refine wl_X4_added_4 X okr0 ?_ hL_9 _ _ _ hP hS (lv_sub hl [2, 3, 1, 0] rfl)
  · intro z_v_10 e_v_10 H locs ls hP hS hl
    subst e_v_10
    replace hm := un1_e hm
    refine lv_iload_n hx hb dX4_added_29 rfl (lv_at hl 0 rfl) ?_
    cases hm
    exact x_iret X hP hS hr hlocks dX4_added_30


/-! X4_allWidths -/
def rmX4_allWidths : Room := { frames := 1, cells := 0, slots := 0, locals := 23 }

set_option maxHeartbeats 4000000 in
set_option maxRecDepth 100000 in
theorem c_X4_allWidths (l : Launch) {g : GT} (hA : AxG g) {r0 : Nat} (okr0 : okRing g r0) {fu : Nat} {M : Mem} {rr : Int32} (hm : m_X4_allWidths fu r0 M = some rr) : CI l yX4_allWidths wsX4_allWidths rmX4_allWidths g [.ref (ga g r0)] M rr M := by
  refine Met.ofW (cc := cX4_allWidths) (maxL := 1) (ret := (some .int)) (by decide) rfl ?_
  intro p e s m args below meth c s₁ B hml hv
  obtain ⟨rfl, hSx, hP⟩ := hv
  have hr := B.returns
  have hlocks := B.notSynchronized
  have X : CxG g p s m _ c cX4_allWidths 1 RX4 wsX4_allWidths := ⟨⟨B.exec, B.bytes, hml, findClass_of_methodNamed B.named, atoms_spec (ws := wsX4_allWidths) B.pre⟩, hSx, hA⟩
  have hS : va_S (AbG g) s.heap s.heap [] := va_S.rf
  have hl := lv_entry (([.ref (ga g r0)] : List Value)) (n := 1) (Nat.le_of_ble_eq_true rfl)
  rw [lg_entry_eq]
  generalize (lg_sl (([.ref (ga g r0)] : List Value)) ++ List.replicate (1 - (lg_sl (([.ref (ga g r0)] : List Value))).length) Slot.unset).toArray = ls at hl ⊢
  have hl : lv_has ls 1 [(0, .ref (ga g r0))] := hl
  obtain ⟨⟨hx, hb, hml, hown, hts⟩, -, -⟩ := id X
  unfold m_X4_allWidths at hm
  refine lv_aload_n hx hb dX4_allWidths_0 rfl (lv_at hl 0 rfl) ?_
  refine lv_iconst (v := 0) hx hb dX4_allWidths_1 (by decide) ?_
  obtain ⟨r_2, hc_1, hm⟩ := bind_elim hm
  refine x_calli (x_runV (As := [.int 0]) (rest := []) X hP hS (c_X4_added l X.2.2 okr0 hc_1) (cwV 1 hts gX4_allWidths_X4_added rfl rfl rfl (by decide +kernel) ⟨Nat.le_of_ble_eq_true rfl, Nat.le_of_ble_eq_true rfl⟩) (x_recv (C := RX4) (T := TX4) (N := 12) X hP okr0.obj rfl) rfl hl.1 rfl (Nat.le_of_ble_eq_true rfl) dX4_allWidths_2 ⟨Nat.zero_le _, Nat.zero_le _⟩) hS (fun H locs hP hS => ?_)
  cases hm
  exact x_iret X hP hS hr hlocks dX4_allWidths_5


/-! X4_allWereTold -/
def rmX4_allWereTold : Room := { frames := 0, cells := 0, slots := 0, locals := 0 }
theorem uX4_allWereTold_X4 : ∀ w ∈ wsX40, w ∈ wsX4_allWereTold := by decide +kernel
theorem mbX4_allWereTold_1 : Cond.fieldLink RX4 9 "FootANight$Ring" "n" "I" ∈ wsX4_allWereTold := by decide +kernel
theorem mbX4_allWereTold_2 : Cond.fieldLink RX4 30 "FootANight$Ring" "lands" "[[I" ∈ wsX4_allWereTold := by decide +kernel
set_option maxHeartbeats 4000000 in
set_option maxRecDepth 100000 in
theorem wl_X4_allWereTold_2 (X : CxG g p s m args c cX4_allWereTold 2 RX4 wsX4_allWereTold) {r0 : Nat} (okr0 : okRing g r0) {fu : Nat} {M : Mem} {x : (Unit) ⊕ (Unit)} (kx0 : ∀ (_u : Unit) , x = .inl () → ∀ (H : Heap) (locs : List Loc) (ls : Array Slot), va_P (gD g) vwCl (wlG g M) H → va_S (AbG g) s.heap H locs → lv_has ls 2 [] → W p l e (headSpec wsX4_allWereTold rmX4_allWereTold).room s m args below meth c H locs 0 0 Q (F0 m 23 ls [])) (kx1 : ∀ (_u : Unit) , x = .inr () → ∀ (H : Heap) (locs : List Loc) (ls : Array Slot), va_P (gD g) vwCl (wlG g M) H → va_S (AbG g) s.heap H locs → lv_has ls 2 [] → W p l e (headSpec wsX4_allWereTold rmX4_allWereTold).room s m args below meth c H locs 0 0 Q (F0 m 31 ls [])) {n : Nat} {q0 : Int32} (h : lp (b_X4_allWereTold_2 fu r0 M) n q0 = some x) : ∀ (H : Heap) (locs : List Loc) (ls : Array Slot), va_P (gD g) vwCl (wlG g M) H → va_S (AbG g) s.heap H locs → lv_has ls 2 [(0, .ref (ga g r0)), (1, .int q0)] → W p l e (headSpec wsX4_allWereTold rmX4_allWereTold).room s m args below meth c H locs 0 0 Q (F0 m 2 ls []) := by
  refine lp_elim (P := fun q0 : Int32 => ∀ (H : Heap) (locs : List Loc) (ls : Array Slot), va_P (gD g) vwCl (wlG g M) H → va_S (AbG g) s.heap H locs → lv_has ls 2 [(0, .ref (ga g r0)), (1, .int q0)] → W p l e (headSpec wsX4_allWereTold rmX4_allWereTold).room s m args below meth c H locs 0 0 Q (F0 m 2 ls [])) (fun q1 o hm hI hX => ?_) n q0 h
  obtain ⟨c1, rfl⟩ : ∃ z, z = q1 := ⟨_, rfl⟩
  have kb : ∀ (d1 : Int32) , o = .inl d1 → ∀ (H : Heap) (locs : List Loc) (ls : Array Slot), va_P (gD g) vwCl (wlG g M) H → va_S (AbG g) s.heap H locs → lv_has ls 2 [(0, .ref (ga g r0)), (1, .int d1)] → W p l e (headSpec wsX4_allWereTold rmX4_allWereTold).room s m args below meth c H locs 0 0 Q (F0 m 2 ls []) := fun d1 e => hI _ e
  have kx0 : ∀ (_u : Unit) , o = .inr (.inl ()) → ∀ (H : Heap) (locs : List Loc) (ls : Array Slot), va_P (gD g) vwCl (wlG g M) H → va_S (AbG g) s.heap H locs → lv_has ls 2 [] → W p l e (headSpec wsX4_allWereTold rmX4_allWereTold).room s m args below meth c H locs 0 0 Q (F0 m 23 ls []) := fun _u e => kx0 _u (hX _ e).symm
  have kx1 : ∀ (_u : Unit) , o = .inr (.inr ()) → ∀ (H : Heap) (locs : List Loc) (ls : Array Slot), va_P (gD g) vwCl (wlG g M) H → va_S (AbG g) s.heap H locs → lv_has ls 2 [] → W p l e (headSpec wsX4_allWereTold rmX4_allWereTold).room s m args below meth c H locs 0 0 Q (F0 m 31 ls []) := fun _u e => kx1 _u (hX _ e).symm
  clear hI hX
  intro H locs ls hP hS hl
  obtain ⟨⟨hx, hb, hml, hown, hts⟩, -, -⟩ := id X
  have hl : lv_has ls 2 [(0, .ref (ga g r0)), (1, .int c1)] := hl
  have hP : va_P (gD g) vwCl (wlG g M) H := hP
  unfold b_X4_allWereTold_2 at hm
  replace hm := un1_e hm
  refine lv_iload_n hx hb dX4_allWereTold_2 rfl (lv_at hl 1 rfl) ?_
  refine lv_aload_n hx hb dX4_allWereTold_3 rfl (lv_at hl 0 rfl) ?_
  refine xg_X4_0 X hP okr0 uX4_allWereTold_X4 mbX4_allWereTold_1 dX4_allWereTold_4 ?_
  refine lv_icmp_ge (tgt := 31) hx hb dX4_allWereTold_7 (by decide) (fun h_1 => ?_) (fun h_1 => ?_)
  · rw [if_pos h_1] at hm
    exact kx1 () (Option.some.inj hm).symm _ _ _ hP hS (lv_sub hl [] rfl)
  · rw [if_neg h_1] at hm
    refine lv_aload_n hx hb dX4_allWereTold_10 rfl (lv_at hl 0 rfl) ?_
    refine xg_X4_5 X hP okr0 uX4_allWereTold_X4 mbX4_allWereTold_2 dX4_allWereTold_11 ?_
    refine lv_iload_n hx hb dX4_allWereTold_14 rfl (lv_at hl 1 rfl) ?_
    obtain ⟨hb_2, hm⟩ := chk_elim hm
    refine x_aaldI X hP okr0.lands hb_2 dX4_allWereTold_15 ?_
    refine lv_bipush (v := 8) hx hb dX4_allWereTold_16 (by decide) ?_
    refine x_iald X hP (okr0.land (inb_lt hb_2)) (show inb 8 9 = true from rfl) dX4_allWereTold_18 ?_
    refine lv_iconst (v := (-1)) hx hb dX4_allWereTold_19 (by decide) ?_
    refine lv_icmp_ne (tgt := 25) hx hb dX4_allWereTold_20 (by decide) (fun h_3 => ?_) (fun h_3 => ?_)
    · rw [if_neg h_3] at hm
      obtain ⟨v_4, hv_5, hm⟩ := bnd_elim hm
      refine lv_iinc (v := v_4) (lv' := [(1, .int v_4), (0, .ref (ga g r0))]) hx hb dX4_allWereTold_25 hl (k := 1) rfl (by rw [hv_5]; rfl) (by decide) rfl (fun ls hl => ?_)
      refine lv_goto (tgt := 2) hx hb dX4_allWereTold_28 (by decide) ?_
      exact kb v_4 (Option.some.inj hm).symm _ _ _ hP hS (lv_sub hl [1, 0] rfl)
    · rw [if_pos h_3] at hm
      exact kx0 () (Option.some.inj hm).symm _ _ _ hP hS (lv_sub hl [] rfl)

set_option maxHeartbeats 4000000 in
set_option maxRecDepth 100000 in
theorem c_X4_allWereTold (l : Launch) {g : GT} (hA : AxG g) {r0 : Nat} (okr0 : okRing g r0) {fu : Nat} {M : Mem} {rr : Int32} (hm : m_X4_allWereTold fu r0 M = some rr) : CI l yX4_allWereTold wsX4_allWereTold rmX4_allWereTold g [.ref (ga g r0)] M rr M := by
  refine Met.ofW (cc := cX4_allWereTold) (maxL := 2) (ret := (some .boolean)) (by decide) rfl ?_
  intro p e s m args below meth c s₁ B hml hv
  obtain ⟨rfl, hSx, hP⟩ := hv
  have hr := B.returns
  have hlocks := B.notSynchronized
  have X : CxG g p s m _ c cX4_allWereTold 2 RX4 wsX4_allWereTold := ⟨⟨B.exec, B.bytes, hml, findClass_of_methodNamed B.named, atoms_spec (ws := wsX4_allWereTold) B.pre⟩, hSx, hA⟩
  have hS : va_S (AbG g) s.heap s.heap [] := va_S.rf
  have hl := lv_entry (([.ref (ga g r0)] : List Value)) (n := 2) (Nat.le_of_ble_eq_true rfl)
  rw [lg_entry_eq]
  generalize (lg_sl (([.ref (ga g r0)] : List Value)) ++ List.replicate (2 - (lg_sl (([.ref (ga g r0)] : List Value))).length) Slot.unset).toArray = ls at hl ⊢
  have hl : lv_has ls 2 [(0, .ref (ga g r0))] := hl
  obtain ⟨⟨hx, hb, hml, hown, hts⟩, -, -⟩ := id X
  unfold m_X4_allWereTold at hm
  refine lv_iconst (v := 0) hx hb dX4_allWereTold_0 (by decide) ?_
  refine lv_istore_n (lv' := [(1, .int 0), (0, .ref (ga g r0))]) hx hb dX4_allWereTold_1 rfl hl (by decide) rfl (fun ls hl => ?_)
  obtain ⟨x_6, hL_7, hm⟩ := bind_elim hm
  refine wl_X4_allWereTold_2 X okr0 ?_ ?_ hL_7 _ _ _ hP hS (lv_sub hl [1, 0] rfl)
  · intro _u e_x_6 H locs ls hP hS hl
    subst e_x_6
    replace hm := unS_l hm
    replace hm := un0_e hm
    refine lv_iconst (v := 0) hx hb dX4_allWereTold_23 (by decide) ?_
    cases hm
    exact x_zret X (by decide) hP hS hr hlocks dX4_allWereTold_24
  · intro _u e_x_6 H locs ls hP hS hl
    subst e_x_6
    replace hm := unS_r hm
    replace hm := un0_e hm
    refine lv_iconst (v := 1) hx hb dX4_allWereTold_31 (by decide) ?_
    cases hm
    exact x_zret X (by decide) hP hS hr hlocks dX4_allWereTold_32


/-! X4_feetIfFirstMoved -/
def rmX4_feetIfFirstMoved : Room := { frames := 1, cells := 0, slots := 0, locals := 21 }
theorem uX4_feetIfFirstMoved_X4 : ∀ w ∈ wsX40, w ∈ wsX4_feetIfFirstMoved := by decide +kernel
theorem mbX4_feetIfFirstMoved_1 : Cond.fieldLink RX4 9 "FootANight$Ring" "n" "I" ∈ wsX4_feetIfFirstMoved := by decide +kernel
theorem mbX4_feetIfFirstMoved_2 : Cond.methodLink RX4 147 Lib.Math.abs.name ∈ wsX4_feetIfFirstMoved := by decide +kernel
theorem mbX4_feetIfFirstMoved_3 : Cond.static Lib.Math.abs.name ∈ wsX4_feetIfFirstMoved := by decide +kernel
theorem mbX4_feetIfFirstMoved_4 : Cond.initialized "java/lang/Math" ∈ wsX4_feetIfFirstMoved := by decide +kernel
theorem mbX4_feetIfFirstMoved_5 : Cond.code Lib.Math.abs.name Lib.Math.abs.code 1 (some .int) ∈ wsX4_feetIfFirstMoved := by decide +kernel
theorem mbX4_feetIfFirstMoved_6 : Cond.fieldLink RX4 24 "FootANight$Ring" "told" "[I" ∈ wsX4_feetIfFirstMoved := by decide +kernel
theorem mbX4_feetIfFirstMoved_7 : Cond.fieldLink RX4 37 "FootANight$Ring" "stakes" "[[I" ∈ wsX4_feetIfFirstMoved := by decide +kernel
theorem mbX4_feetIfFirstMoved_8 : Cond.fieldLink RX4 30 "FootANight$Ring" "lands" "[[I" ∈ wsX4_feetIfFirstMoved := by decide +kernel
set_option maxHeartbeats 4000000 in
set_option maxRecDepth 100000 in
theorem wj_X4_feetIfFirstMoved_44i (X : CxG g p s m args c cX4_feetIfFirstMoved 6 RX4 wsX4_feetIfFirstMoved) {r0 : Nat} (okr0 : okRing g r0) {fu : Nat} {M : Mem} {s1 : Int32} {s2 : Int32} {s3 : Int32} {s4 : Int32} {o : (Int32 × Int32 × Int32) ⊕ ((Unit) ⊕ (Int32 × Int32))} (kb : ∀ (d2 : Int32) (d3 : Int32) (d4 : Int32) , o = .inl (d2, d3, d4) → ∀ (H : Heap) (locs : List Loc) (ls : Array Slot), va_P (gD g) vwCl (wlG g M) H → va_S (AbG g) s.heap H locs → lv_has ls 6 [(0, .ref (ga g r0)), (1, .int s1), (2, .int d2), (3, .int d3), (4, .int d4)] → W p l e (headSpec wsX4_feetIfFirstMoved rmX4_feetIfFirstMoved).room s m args below meth c H locs 0 0 Q (F0 m 7 ls [])) (kx0 : ∀ (_u : Unit) , o = .inr (.inl ()) → ∀ (H : Heap) (locs : List Loc) (ls : Array Slot), va_P (gD g) vwCl (wlG g M) H → va_S (AbG g) s.heap H locs → lv_has ls 6 [] → W p l e (headSpec wsX4_feetIfFirstMoved rmX4_feetIfFirstMoved).room s m args below meth c H locs 0 0 Q (F0 m 79 ls [])) (kx1 : ∀ (d2 : Int32) (d3 : Int32) , o = .inr (.inr (d2, d3)) → ∀ (H : Heap) (locs : List Loc) (ls : Array Slot), va_P (gD g) vwCl (wlG g M) H → va_S (AbG g) s.heap H locs → lv_has ls 6 [(0, .ref (ga g r0)), (1, .int s1), (2, .int d2), (3, .int d3)] → W p l e (headSpec wsX4_feetIfFirstMoved rmX4_feetIfFirstMoved).room s m args below meth c H locs 0 0 Q (F0 m 92 ls [])) (hm : j_X4_feetIfFirstMoved_44i fu r0 M s1 s2 s3 s4 = some o) {H : Heap} {locs : List Loc} {ls : Array Slot} (hP : va_P (gD g) vwCl (wlG g M) H) (hS : va_S (AbG g) s.heap H locs) (hl : lv_has ls 6 [(0, .ref (ga g r0)), (1, .int s1), (2, .int s2), (3, .int s3), (4, .int s4)]) : W p l e (headSpec wsX4_feetIfFirstMoved rmX4_feetIfFirstMoved).room s m args below meth c H locs 0 0 Q (F0 m 44 ls []) := by
  obtain ⟨⟨hx, hb, hml, hown, hts⟩, -, -⟩ := id X
  unfold j_X4_feetIfFirstMoved_44i at hm
  refine lv_iload_n hx hb dX4_feetIfFirstMoved_44 rfl (lv_at hl 3 rfl) ?_
  refine va_mabs hx hb (hml.trans hl.1.symm) hown (hts _ mbX4_feetIfFirstMoved_2) (hts _ mbX4_feetIfFirstMoved_3) (hts _ mbX4_feetIfFirstMoved_4) (hts _ mbX4_feetIfFirstMoved_5) (Nat.le_of_ble_eq_true rfl) (Nat.le_of_ble_eq_true rfl) (Nat.zero_le _) (Nat.zero_le _) dX4_feetIfFirstMoved_45 ?_
  obtain ⟨v_3, hv_4, hm⟩ := bnd_elim hm
  refine x_name hv_4 ?_
  refine lv_istore (lv' := [(5, .int v_3), (0, .ref (ga g r0)), (1, .int s1), (2, .int s2), (3, .int s3), (4, .int s4)]) hx hb dX4_feetIfFirstMoved_48 hl (by decide) rfl (fun ls hl => ?_)
  refine lv_iload hx hb dX4_feetIfFirstMoved_50 (lv_at hl 0 rfl) ?_
  refine lv_aload_n hx hb dX4_feetIfFirstMoved_52 rfl (lv_at hl 1 rfl) ?_
  refine xg_X4_4 X hP okr0 uX4_feetIfFirstMoved_X4 mbX4_feetIfFirstMoved_6 dX4_feetIfFirstMoved_53 ?_
  refine lv_bipush (v := 9) hx hb dX4_feetIfFirstMoved_56 (by decide) ?_
  refine x_iald X hP okr0.told (show inb 9 10 = true from rfl) dX4_feetIfFirstMoved_58 ?_
  refine lv_icmp_gt (tgt := 79) hx hb dX4_feetIfFirstMoved_59 (by decide) (fun h_5 => ?_) (fun h_5 => ?_)
  · rw [if_pos h_5] at hm
    exact kx0 () (Option.some.inj hm).symm _ _ _ hP hS (lv_sub hl [] rfl)
  · rw [if_neg h_5] at hm
    refine lv_iload hx hb dX4_feetIfFirstMoved_62 (lv_at hl 0 rfl) ?_
    refine lv_if_le (tgt := 81) hx hb dX4_feetIfFirstMoved_64 (by decide) (fun h_6 => ?_) (fun h_6 => ?_)
    · rw [if_pos h_6] at hm
      refine lv_iload_n hx hb dX4_feetIfFirstMoved_81 rfl (lv_at hl 3 rfl) ?_
      refine lv_iload hx hb dX4_feetIfFirstMoved_82 (lv_at hl 0 rfl) ?_
      refine lv_iadd hx hb dX4_feetIfFirstMoved_84 ?_
      obtain ⟨v_7, hv_8, hm⟩ := bnd_elim hm
      refine x_name hv_8 ?_
      refine lv_istore_n (lv' := [(2, .int v_7), (5, .int v_3), (0, .ref (ga g r0)), (1, .int s1), (3, .int s3), (4, .int s4)]) hx hb dX4_feetIfFirstMoved_85 rfl hl (by decide) rfl (fun ls hl => ?_)
      obtain ⟨v_9, hv_10, hm⟩ := bnd_elim hm
      refine lv_iinc (v := v_9) (lv' := [(4, .int v_9), (2, .int v_7), (5, .int v_3), (0, .ref (ga g r0)), (1, .int s1), (3, .int s3)]) hx hb dX4_feetIfFirstMoved_86 hl (k := 5) rfl (by rw [hv_10]; rfl) (by decide) rfl (fun ls hl => ?_)
      refine lv_goto (tgt := 7) hx hb dX4_feetIfFirstMoved_89 (by decide) ?_
      exact kb v_7 s3 v_9 (Option.some.inj hm).symm _ _ _ hP hS (lv_sub hl [3, 4, 1, 5, 0] rfl)
    · rw [if_neg h_6] at hm
      refine lv_aload_n hx hb dX4_feetIfFirstMoved_67 rfl (lv_at hl 1 rfl) ?_
      refine xg_X4_7 X hP okr0 uX4_feetIfFirstMoved_X4 mbX4_feetIfFirstMoved_7 dX4_feetIfFirstMoved_68 ?_
      refine lv_iload hx hb dX4_feetIfFirstMoved_71 (lv_at hl 5 rfl) ?_
      obtain ⟨hb_11, hm⟩ := chk_elim hm
      refine x_aaldI X hP okr0.stakes hb_11 dX4_feetIfFirstMoved_73 ?_
      refine lv_iconst (v := 0) hx hb dX4_feetIfFirstMoved_74 (by decide) ?_
      refine x_iald X hP (okr0.stake (inb_lt hb_11)) (show inb 0 4 = true from rfl) dX4_feetIfFirstMoved_75 ?_
      refine lv_if_eq (tgt := 81) hx hb dX4_feetIfFirstMoved_76 (by decide) (fun h_12 => ?_) (fun h_12 => ?_)
      · rw [if_pos h_12] at hm
        refine lv_iload_n hx hb dX4_feetIfFirstMoved_81 rfl (lv_at hl 3 rfl) ?_
        refine lv_iload hx hb dX4_feetIfFirstMoved_82 (lv_at hl 0 rfl) ?_
        refine lv_iadd hx hb dX4_feetIfFirstMoved_84 ?_
        obtain ⟨v_13, hv_14, hm⟩ := bnd_elim hm
        refine x_name hv_14 ?_
        refine lv_istore_n (lv' := [(2, .int v_13), (5, .int v_3), (0, .ref (ga g r0)), (1, .int s1), (3, .int s3), (4, .int s4)]) hx hb dX4_feetIfFirstMoved_85 rfl hl (by decide) rfl (fun ls hl => ?_)
        obtain ⟨v_15, hv_16, hm⟩ := bnd_elim hm
        refine lv_iinc (v := v_15) (lv' := [(4, .int v_15), (2, .int v_13), (5, .int v_3), (0, .ref (ga g r0)), (1, .int s1), (3, .int s3)]) hx hb dX4_feetIfFirstMoved_86 hl (k := 5) rfl (by rw [hv_16]; rfl) (by decide) rfl (fun ls hl => ?_)
        refine lv_goto (tgt := 7) hx hb dX4_feetIfFirstMoved_89 (by decide) ?_
        exact kb v_13 s3 v_15 (Option.some.inj hm).symm _ _ _ hP hS (lv_sub hl [3, 4, 1, 5, 0] rfl)
      · rw [if_neg h_12] at hm
        exact kx0 () (Option.some.inj hm).symm _ _ _ hP hS (lv_sub hl [] rfl)

set_option maxHeartbeats 4000000 in
set_option maxRecDepth 100000 in
theorem wl_X4_feetIfFirstMoved_7 (X : CxG g p s m args c cX4_feetIfFirstMoved 6 RX4 wsX4_feetIfFirstMoved) {r0 : Nat} (okr0 : okRing g r0) {fu : Nat} {M : Mem} {s1 : Int32} {x : (Unit) ⊕ (Int32 × Int32)} (kx0 : ∀ (_u : Unit) , x = .inl () → ∀ (H : Heap) (locs : List Loc) (ls : Array Slot), va_P (gD g) vwCl (wlG g M) H → va_S (AbG g) s.heap H locs → lv_has ls 6 [] → W p l e (headSpec wsX4_feetIfFirstMoved rmX4_feetIfFirstMoved).room s m args below meth c H locs 0 0 Q (F0 m 79 ls [])) (kx1 : ∀ (d2 : Int32) (d3 : Int32) , x = .inr (d2, d3) → ∀ (H : Heap) (locs : List Loc) (ls : Array Slot), va_P (gD g) vwCl (wlG g M) H → va_S (AbG g) s.heap H locs → lv_has ls 6 [(0, .ref (ga g r0)), (1, .int s1), (2, .int d2), (3, .int d3)] → W p l e (headSpec wsX4_feetIfFirstMoved rmX4_feetIfFirstMoved).room s m args below meth c H locs 0 0 Q (F0 m 92 ls [])) {n : Nat} {q0 : Int32 × Int32 × Int32} (h : lp (b_X4_feetIfFirstMoved_7 fu r0 M s1) n q0 = some x) : ∀ (H : Heap) (locs : List Loc) (ls : Array Slot), va_P (gD g) vwCl (wlG g M) H → va_S (AbG g) s.heap H locs → lv_has ls 6 [(0, .ref (ga g r0)), (1, .int s1), (2, .int q0.1), (3, .int q0.2.1), (4, .int q0.2.2)] → W p l e (headSpec wsX4_feetIfFirstMoved rmX4_feetIfFirstMoved).room s m args below meth c H locs 0 0 Q (F0 m 7 ls []) := by
  refine lp_elim (P := fun q0 : Int32 × Int32 × Int32 => ∀ (H : Heap) (locs : List Loc) (ls : Array Slot), va_P (gD g) vwCl (wlG g M) H → va_S (AbG g) s.heap H locs → lv_has ls 6 [(0, .ref (ga g r0)), (1, .int s1), (2, .int q0.1), (3, .int q0.2.1), (4, .int q0.2.2)] → W p l e (headSpec wsX4_feetIfFirstMoved rmX4_feetIfFirstMoved).room s m args below meth c H locs 0 0 Q (F0 m 7 ls [])) (fun q1 o hm hI hX => ?_) n q0 h
  obtain ⟨c2, c3, c4⟩ := q1
  have kb : ∀ (d2 : Int32) (d3 : Int32) (d4 : Int32) , o = .inl (d2, d3, d4) → ∀ (H : Heap) (locs : List Loc) (ls : Array Slot), va_P (gD g) vwCl (wlG g M) H → va_S (AbG g) s.heap H locs → lv_has ls 6 [(0, .ref (ga g r0)), (1, .int s1), (2, .int d2), (3, .int d3), (4, .int d4)] → W p l e (headSpec wsX4_feetIfFirstMoved rmX4_feetIfFirstMoved).room s m args below meth c H locs 0 0 Q (F0 m 7 ls []) := fun d2 d3 d4 e => hI _ e
  have kx0 : ∀ (_u : Unit) , o = .inr (.inl ()) → ∀ (H : Heap) (locs : List Loc) (ls : Array Slot), va_P (gD g) vwCl (wlG g M) H → va_S (AbG g) s.heap H locs → lv_has ls 6 [] → W p l e (headSpec wsX4_feetIfFirstMoved rmX4_feetIfFirstMoved).room s m args below meth c H locs 0 0 Q (F0 m 79 ls []) := fun _u e => kx0 _u (hX _ e).symm
  have kx1 : ∀ (d2 : Int32) (d3 : Int32) , o = .inr (.inr (d2, d3)) → ∀ (H : Heap) (locs : List Loc) (ls : Array Slot), va_P (gD g) vwCl (wlG g M) H → va_S (AbG g) s.heap H locs → lv_has ls 6 [(0, .ref (ga g r0)), (1, .int s1), (2, .int d2), (3, .int d3)] → W p l e (headSpec wsX4_feetIfFirstMoved rmX4_feetIfFirstMoved).room s m args below meth c H locs 0 0 Q (F0 m 92 ls []) := fun d2 d3 e => kx1 d2 d3 (hX _ e).symm
  clear hI hX
  intro H locs ls hP hS hl
  obtain ⟨⟨hx, hb, hml, hown, hts⟩, -, -⟩ := id X
  have hl : lv_has ls 6 [(0, .ref (ga g r0)), (1, .int s1), (2, .int c2), (3, .int c3), (4, .int c4)] := hl
  have hP : va_P (gD g) vwCl (wlG g M) H := hP
  unfold b_X4_feetIfFirstMoved_7 at hm
  replace hm := un3_e hm
  refine lv_iload hx hb dX4_feetIfFirstMoved_7 (lv_at hl 4 rfl) ?_
  refine lv_aload_n hx hb dX4_feetIfFirstMoved_9 rfl (lv_at hl 0 rfl) ?_
  refine xg_X4_0 X hP okr0 uX4_feetIfFirstMoved_X4 mbX4_feetIfFirstMoved_1 dX4_feetIfFirstMoved_10 ?_
  refine lv_icmp_ge (tgt := 92) hx hb dX4_feetIfFirstMoved_13 (by decide) (fun h_1 => ?_) (fun h_1 => ?_)
  · rw [if_pos h_1] at hm
    exact kx1 c2 c3 (Option.some.inj hm).symm _ _ _ hP hS (lv_sub hl [0, 1, 2, 3] rfl)
  · rw [if_neg h_1] at hm
    refine lv_iload hx hb dX4_feetIfFirstMoved_16 (lv_at hl 4 rfl) ?_
    refine lv_if_le (tgt := 44) hx hb dX4_feetIfFirstMoved_18 (by decide) (fun h_2 => ?_) (fun h_2 => ?_)
    · rw [if_pos h_2] at hm
      exact wj_X4_feetIfFirstMoved_44i X okr0 kb kx0 kx1 hm hP hS (lv_sub hl [0, 1, 2, 3, 4] rfl)
    · rw [if_neg h_2] at hm
      refine lv_iload_n hx hb dX4_feetIfFirstMoved_21 rfl (lv_at hl 3 rfl) ?_
      refine lv_aload_n hx hb dX4_feetIfFirstMoved_22 rfl (lv_at hl 0 rfl) ?_
      refine xg_X4_5 X hP okr0 uX4_feetIfFirstMoved_X4 mbX4_feetIfFirstMoved_8 dX4_feetIfFirstMoved_23 ?_
      refine lv_iload hx hb dX4_feetIfFirstMoved_26 (lv_at hl 4 rfl) ?_
      obtain ⟨hb_17, hm⟩ := chk_elim hm
      refine x_aaldI X hP okr0.lands hb_17 dX4_feetIfFirstMoved_28 ?_
      refine lv_iconst (v := 0) hx hb dX4_feetIfFirstMoved_29 (by decide) ?_
      refine x_iald X hP (okr0.land (inb_lt hb_17)) (show inb 0 9 = true from rfl) dX4_feetIfFirstMoved_30 ?_
      refine lv_aload_n hx hb dX4_feetIfFirstMoved_31 rfl (lv_at hl 0 rfl) ?_
      refine xg_X4_5 X hP okr0 uX4_feetIfFirstMoved_X4 mbX4_feetIfFirstMoved_8 dX4_feetIfFirstMoved_32 ?_
      refine lv_iload hx hb dX4_feetIfFirstMoved_35 (lv_at hl 4 rfl) ?_
      refine x_aaldI X hP okr0.lands hb_17 dX4_feetIfFirstMoved_37 ?_
      refine lv_bipush (v := 8) hx hb dX4_feetIfFirstMoved_38 (by decide) ?_
      refine x_iald X hP (okr0.land (inb_lt hb_17)) (show inb 8 9 = true from rfl) dX4_feetIfFirstMoved_40 ?_
      refine lv_isub hx hb dX4_feetIfFirstMoved_41 ?_
      refine lv_iadd hx hb dX4_feetIfFirstMoved_42 ?_
      obtain ⟨v_18, hv_19, hm⟩ := bnd_elim hm
      refine x_name hv_19 ?_
      refine lv_istore_n (lv' := [(3, .int v_18), (0, .ref (ga g r0)), (1, .int s1), (2, .int c2), (4, .int c4)]) hx hb dX4_feetIfFirstMoved_43 rfl hl (by decide) rfl (fun ls hl => ?_)
      exact wj_X4_feetIfFirstMoved_44i X okr0 kb kx0 kx1 hm hP hS (lv_sub hl [1, 2, 3, 0, 4] rfl)

set_option maxHeartbeats 4000000 in
set_option maxRecDepth 100000 in
theorem c_X4_feetIfFirstMoved (l : Launch) {g : GT} (hA : AxG g) {r0 : Nat} (okr0 : okRing g r0) {fu : Nat} {M : Mem} {a1 : Int32} {rr : Int32} (hm : m_X4_feetIfFirstMoved fu r0 M a1 = some rr) : CI l yX4_feetIfFirstMoved wsX4_feetIfFirstMoved rmX4_feetIfFirstMoved g [.ref (ga g r0), .int a1] M rr M := by
  refine Met.ofW (cc := cX4_feetIfFirstMoved) (maxL := 6) (ret := (some .int)) (by decide) rfl ?_
  intro p e s m args below meth c s₁ B hml hv
  obtain ⟨rfl, hSx, hP⟩ := hv
  have hr := B.returns
  have hlocks := B.notSynchronized
  have X : CxG g p s m _ c cX4_feetIfFirstMoved 6 RX4 wsX4_feetIfFirstMoved := ⟨⟨B.exec, B.bytes, hml, findClass_of_methodNamed B.named, atoms_spec (ws := wsX4_feetIfFirstMoved) B.pre⟩, hSx, hA⟩
  have hS : va_S (AbG g) s.heap s.heap [] := va_S.rf
  have hl := lv_entry (([.ref (ga g r0), .int a1] : List Value)) (n := 6) (Nat.le_of_ble_eq_true rfl)
  rw [lg_entry_eq]
  generalize (lg_sl (([.ref (ga g r0), .int a1] : List Value)) ++ List.replicate (6 - (lg_sl (([.ref (ga g r0), .int a1] : List Value))).length) Slot.unset).toArray = ls at hl ⊢
  have hl : lv_has ls 6 [(0, .ref (ga g r0)), (1, .int a1)] := hl
  obtain ⟨⟨hx, hb, hml, hown, hts⟩, -, -⟩ := id X
  unfold m_X4_feetIfFirstMoved at hm
  refine lv_iconst (v := 0) hx hb dX4_feetIfFirstMoved_0 (by decide) ?_
  refine lv_istore_n (lv' := [(2, .int 0), (0, .ref (ga g r0)), (1, .int a1)]) hx hb dX4_feetIfFirstMoved_1 rfl hl (by decide) rfl (fun ls hl => ?_)
  refine lv_iload_n hx hb dX4_feetIfFirstMoved_2 rfl (lv_at hl 2 rfl) ?_
  refine lv_istore_n (lv' := [(3, .int a1), (2, .int 0), (0, .ref (ga g r0)), (1, .int a1)]) hx hb dX4_feetIfFirstMoved_3 rfl hl (by decide) rfl (fun ls hl => ?_)
  refine lv_iconst (v := 0) hx hb dX4_feetIfFirstMoved_4 (by decide) ?_
  refine lv_istore (lv' := [(4, .int 0), (3, .int a1), (2, .int 0), (0, .ref (ga g r0)), (1, .int a1)]) hx hb dX4_feetIfFirstMoved_5 hl (by decide) rfl (fun ls hl => ?_)
  obtain ⟨x_20, hL_21, hm⟩ := bind_elim hm
  refine wl_X4_feetIfFirstMoved_7 X okr0 ?_ ?_ hL_21 _ _ _ hP hS (lv_sub hl [3, 4, 2, 1, 0] rfl)
  · intro _u e_x_20 H locs ls hP hS hl
    subst e_x_20
    replace hm := unS_l hm
    replace hm := un0_e hm
    refine lv_iconst (v := (-1)) hx hb dX4_feetIfFirstMoved_79 (by decide) ?_
    cases hm
    exact x_iret X hP hS hr hlocks dX4_feetIfFirstMoved_80
  · intro v_22 v_23 e_x_20 H locs ls hP hS hl
    subst e_x_20
    replace hm := unS_r hm
    replace hm := un2_e hm
    refine lv_iload_n hx hb dX4_feetIfFirstMoved_92 rfl (lv_at hl 1 rfl) ?_
    refine lv_iload_n hx hb dX4_feetIfFirstMoved_93 rfl (lv_at hl 3 rfl) ?_
    refine lv_isub hx hb dX4_feetIfFirstMoved_94 ?_
    refine lv_aload_n hx hb dX4_feetIfFirstMoved_95 rfl (lv_at hl 0 rfl) ?_
    refine xg_X4_5 X hP okr0 uX4_feetIfFirstMoved_X4 mbX4_feetIfFirstMoved_8 dX4_feetIfFirstMoved_96 ?_
    refine lv_iconst (v := 0) hx hb dX4_feetIfFirstMoved_99 (by decide) ?_
    refine x_aaldI X hP okr0.lands (show inb 0 10 = true from rfl) dX4_feetIfFirstMoved_100 ?_
    refine lv_iconst (v := 0) hx hb dX4_feetIfFirstMoved_101 (by decide) ?_
    refine x_iald X hP (okr0.land (inb_lt (show inb 0 10 = true from rfl))) (show inb 0 9 = true from rfl) dX4_feetIfFirstMoved_102 ?_
    refine lv_aload_n hx hb dX4_feetIfFirstMoved_103 rfl (lv_at hl 0 rfl) ?_
    refine xg_X4_5 X hP okr0 uX4_feetIfFirstMoved_X4 mbX4_feetIfFirstMoved_8 dX4_feetIfFirstMoved_104 ?_
    refine lv_iconst (v := 0) hx hb dX4_feetIfFirstMoved_107 (by decide) ?_
    refine x_aaldI X hP okr0.lands (show inb 0 10 = true from rfl) dX4_feetIfFirstMoved_108 ?_
    refine lv_bipush (v := 8) hx hb dX4_feetIfFirstMoved_109 (by decide) ?_
    refine x_iald X hP (okr0.land (inb_lt (show inb 0 10 = true from rfl))) (show inb 8 9 = true from rfl) dX4_feetIfFirstMoved_111 ?_
    refine lv_isub hx hb dX4_feetIfFirstMoved_112 ?_
    refine lv_icmp_ne (tgt := 120) hx hb dX4_feetIfFirstMoved_113 (by decide) (fun h_24 => ?_) (fun h_24 => ?_)
    · rw [if_neg h_24] at hm
      refine lv_iconst (v := (-1)) hx hb dX4_feetIfFirstMoved_120 (by decide) ?_
      cases hm
      exact x_iret X hP hS hr hlocks dX4_feetIfFirstMoved_121
    · rw [if_pos h_24] at hm
      refine lv_iload_n hx hb dX4_feetIfFirstMoved_116 rfl (lv_at hl 2 rfl) ?_
      refine lv_goto (tgt := 121) hx hb dX4_feetIfFirstMoved_117 (by decide) ?_
      cases hm
      exact x_iret X hP hS hr hlocks dX4_feetIfFirstMoved_121


/-! X4_allPurses -/
def rmX4_allPurses : Room := { frames := 0, cells := 0, slots := 0, locals := 0 }
theorem uX4_allPurses_X4 : ∀ w ∈ wsX40, w ∈ wsX4_allPurses := by decide +kernel
theorem mbX4_allPurses_1 : Cond.fieldLink RX4 9 "FootANight$Ring" "n" "I" ∈ wsX4_allPurses := by decide +kernel
theorem mbX4_allPurses_2 : Cond.fieldLink RX4 33 "FootANight$Ring" "purses" "[J" ∈ wsX4_allPurses := by decide +kernel
set_option maxHeartbeats 4000000 in
set_option maxRecDepth 100000 in
theorem wl_X4_allPurses_4 (X : CxG g p s m args c cX4_allPurses 4 RX4 wsX4_allPurses) {r0 : Nat} (okr0 : okRing g r0) {fu : Nat} {M : Mem} {x : Int64} (kx0 : ∀ (d1 : Int64) , x = d1 → ∀ (H : Heap) (locs : List Loc) (ls : Array Slot), va_P (gD g) vwCl (wlG g M) H → va_S (AbG g) s.heap H locs → lv_has ls 4 [(1, .long d1)] → W p l e (headSpec wsX4_allPurses rmX4_allPurses).room s m args below meth c H locs 0 0 Q (F0 m 27 ls [])) {n : Nat} {q0 : Int64 × Int32} (h : lp (b_X4_allPurses_4 fu r0 M) n q0 = some x) : ∀ (H : Heap) (locs : List Loc) (ls : Array Slot), va_P (gD g) vwCl (wlG g M) H → va_S (AbG g) s.heap H locs → lv_has ls 4 [(0, .ref (ga g r0)), (1, .long q0.1), (3, .int q0.2)] → W p l e (headSpec wsX4_allPurses rmX4_allPurses).room s m args below meth c H locs 0 0 Q (F0 m 4 ls []) := by
  refine lp_elim (P := fun q0 : Int64 × Int32 => ∀ (H : Heap) (locs : List Loc) (ls : Array Slot), va_P (gD g) vwCl (wlG g M) H → va_S (AbG g) s.heap H locs → lv_has ls 4 [(0, .ref (ga g r0)), (1, .long q0.1), (3, .int q0.2)] → W p l e (headSpec wsX4_allPurses rmX4_allPurses).room s m args below meth c H locs 0 0 Q (F0 m 4 ls [])) (fun q1 o hm hI hX => ?_) n q0 h
  obtain ⟨c1, c3⟩ := q1
  have kb : ∀ (d1 : Int64) (d3 : Int32) , o = .inl (d1, d3) → ∀ (H : Heap) (locs : List Loc) (ls : Array Slot), va_P (gD g) vwCl (wlG g M) H → va_S (AbG g) s.heap H locs → lv_has ls 4 [(0, .ref (ga g r0)), (1, .long d1), (3, .int d3)] → W p l e (headSpec wsX4_allPurses rmX4_allPurses).room s m args below meth c H locs 0 0 Q (F0 m 4 ls []) := fun d1 d3 e => hI _ e
  have kx0 : ∀ (d1 : Int64) , o = .inr d1 → ∀ (H : Heap) (locs : List Loc) (ls : Array Slot), va_P (gD g) vwCl (wlG g M) H → va_S (AbG g) s.heap H locs → lv_has ls 4 [(1, .long d1)] → W p l e (headSpec wsX4_allPurses rmX4_allPurses).room s m args below meth c H locs 0 0 Q (F0 m 27 ls []) := fun d1 e => kx0 d1 (hX _ e).symm
  clear hI hX
  intro H locs ls hP hS hl
  obtain ⟨⟨hx, hb, hml, hown, hts⟩, -, -⟩ := id X
  have hl : lv_has ls 4 [(0, .ref (ga g r0)), (1, .long c1), (3, .int c3)] := hl
  have hP : va_P (gD g) vwCl (wlG g M) H := hP
  unfold b_X4_allPurses_4 at hm
  replace hm := un2_e hm
  refine lv_iload_n hx hb dX4_allPurses_4 rfl (lv_at hl 2 rfl) ?_
  refine lv_aload_n hx hb dX4_allPurses_5 rfl (lv_at hl 0 rfl) ?_
  refine xg_X4_0 X hP okr0 uX4_allPurses_X4 mbX4_allPurses_1 dX4_allPurses_6 ?_
  refine lv_icmp_ge (tgt := 27) hx hb dX4_allPurses_9 (by decide) (fun h_1 => ?_) (fun h_1 => ?_)
  · rw [if_pos h_1] at hm
    exact kx0 c1 (Option.some.inj hm).symm _ _ _ hP hS (lv_sub hl [1] rfl)
  · rw [if_neg h_1] at hm
    refine lv_lload_n hx hb dX4_allPurses_12 rfl (lv_at hl 1 rfl) ?_
    refine lv_aload_n hx hb dX4_allPurses_13 rfl (lv_at hl 0 rfl) ?_
    refine xg_X4_6 X hP okr0 uX4_allPurses_X4 mbX4_allPurses_2 dX4_allPurses_14 ?_
    refine lv_iload_n hx hb dX4_allPurses_17 rfl (lv_at hl 2 rfl) ?_
    obtain ⟨hb_2, hm⟩ := chk_elim hm
    refine x_lald X hP okr0.purses hb_2 dX4_allPurses_18 ?_
    refine lv_ladd hx hb dX4_allPurses_19 ?_
    obtain ⟨v_3, hv_4, hm⟩ := bnd_elim hm
    refine x_namel hv_4 ?_
    refine lv_lstore_n (lv' := [(1, .long v_3), (0, .ref (ga g r0)), (3, .int c3)]) hx hb dX4_allPurses_20 rfl hl (by decide) rfl (fun ls hl => ?_)
    obtain ⟨v_5, hv_6, hm⟩ := bnd_elim hm
    refine lv_iinc (v := v_5) (lv' := [(3, .int v_5), (1, .long v_3), (0, .ref (ga g r0))]) hx hb dX4_allPurses_21 hl (k := 2) rfl (by rw [hv_6]; rfl) (by decide) rfl (fun ls hl => ?_)
    refine lv_goto (tgt := 4) hx hb dX4_allPurses_24 (by decide) ?_
    exact kb v_3 v_5 (Option.some.inj hm).symm _ _ _ hP hS (lv_sub hl [2, 1, 0] rfl)

set_option maxHeartbeats 4000000 in
set_option maxRecDepth 100000 in
theorem c_X4_allPurses (l : Launch) {g : GT} (hA : AxG g) {r0 : Nat} (okr0 : okRing g r0) {fu : Nat} {M : Mem} {rr : Int64} (hm : m_X4_allPurses fu r0 M = some rr) : CL l yX4_allPurses wsX4_allPurses rmX4_allPurses g [.ref (ga g r0)] M rr M := by
  refine Met.ofW (cc := cX4_allPurses) (maxL := 4) (ret := (some .long)) (by decide) rfl ?_
  intro p e s m args below meth c s₁ B hml hv
  obtain ⟨rfl, hSx, hP⟩ := hv
  have hr := B.returns
  have hlocks := B.notSynchronized
  have X : CxG g p s m _ c cX4_allPurses 4 RX4 wsX4_allPurses := ⟨⟨B.exec, B.bytes, hml, findClass_of_methodNamed B.named, atoms_spec (ws := wsX4_allPurses) B.pre⟩, hSx, hA⟩
  have hS : va_S (AbG g) s.heap s.heap [] := va_S.rf
  have hl := lv_entry (([.ref (ga g r0)] : List Value)) (n := 4) (Nat.le_of_ble_eq_true rfl)
  rw [lg_entry_eq]
  generalize (lg_sl (([.ref (ga g r0)] : List Value)) ++ List.replicate (4 - (lg_sl (([.ref (ga g r0)] : List Value))).length) Slot.unset).toArray = ls at hl ⊢
  have hl : lv_has ls 4 [(0, .ref (ga g r0))] := hl
  obtain ⟨⟨hx, hb, hml, hown, hts⟩, -, -⟩ := id X
  unfold m_X4_allPurses at hm
  refine lv_lconst (v := 0) hx hb dX4_allPurses_0 (by decide) ?_
  refine lv_lstore_n (lv' := [(1, .long 0), (0, .ref (ga g r0))]) hx hb dX4_allPurses_1 rfl hl (by decide) rfl (fun ls hl => ?_)
  refine lv_iconst (v := 0) hx hb dX4_allPurses_2 (by decide) ?_
  refine lv_istore_n (lv' := [(3, .int 0), (1, .long 0), (0, .ref (ga g r0))]) hx hb dX4_allPurses_3 rfl hl (by decide) rfl (fun ls hl => ?_)
  obtain ⟨v_9, hL_8, hm⟩ := bind_elim hm
  refine wl_X4_allPurses_4 X okr0 ?_ hL_8 _ _ _ hP hS (lv_sub hl [2, 1, 0] rfl)
  · intro z_v_9 e_v_9 H locs ls hP hS hl
    subst e_v_9
    replace hm := un1_e hm
    refine lv_lload_n hx hb dX4_allPurses_27 rfl (lv_at hl 0 rfl) ?_
    cases hm
    exact x_lret X hP hS hr hlocks dX4_allPurses_28


/-! X4_countEaten -/
def rmX4_countEaten : Room := { frames := 0, cells := 0, slots := 0, locals := 0 }
theorem uX4_countEaten_X4 : ∀ w ∈ wsX40, w ∈ wsX4_countEaten := by decide +kernel
theorem mbX4_countEaten_1 : Cond.fieldLink RX4 9 "FootANight$Ring" "n" "I" ∈ wsX4_countEaten := by decide +kernel
theorem mbX4_countEaten_2 : Cond.fieldLink RX4 30 "FootANight$Ring" "lands" "[[I" ∈ wsX4_countEaten := by decide +kernel
set_option maxHeartbeats 4000000 in
set_option maxRecDepth 100000 in
theorem wl_X4_countEaten_4 (X : CxG g p s m args c cX4_countEaten 3 RX4 wsX4_countEaten) {r0 : Nat} (okr0 : okRing g r0) {fu : Nat} {M : Mem} {x : Int32} (kx0 : ∀ (d1 : Int32) , x = d1 → ∀ (H : Heap) (locs : List Loc) (ls : Array Slot), va_P (gD g) vwCl (wlG g M) H → va_S (AbG g) s.heap H locs → lv_has ls 3 [(1, .int d1)] → W p l e (headSpec wsX4_countEaten rmX4_countEaten).room s m args below meth c H locs 0 0 Q (F0 m 34 ls [])) {n : Nat} {q0 : Int32 × Int32} (h : lp (b_X4_countEaten_4 fu r0 M) n q0 = some x) : ∀ (H : Heap) (locs : List Loc) (ls : Array Slot), va_P (gD g) vwCl (wlG g M) H → va_S (AbG g) s.heap H locs → lv_has ls 3 [(0, .ref (ga g r0)), (1, .int q0.1), (2, .int q0.2)] → W p l e (headSpec wsX4_countEaten rmX4_countEaten).room s m args below meth c H locs 0 0 Q (F0 m 4 ls []) := by
  refine lp_elim (P := fun q0 : Int32 × Int32 => ∀ (H : Heap) (locs : List Loc) (ls : Array Slot), va_P (gD g) vwCl (wlG g M) H → va_S (AbG g) s.heap H locs → lv_has ls 3 [(0, .ref (ga g r0)), (1, .int q0.1), (2, .int q0.2)] → W p l e (headSpec wsX4_countEaten rmX4_countEaten).room s m args below meth c H locs 0 0 Q (F0 m 4 ls [])) (fun q1 o hm hI hX => ?_) n q0 h
  obtain ⟨c1, c2⟩ := q1
  have kb : ∀ (d1 : Int32) (d2 : Int32) , o = .inl (d1, d2) → ∀ (H : Heap) (locs : List Loc) (ls : Array Slot), va_P (gD g) vwCl (wlG g M) H → va_S (AbG g) s.heap H locs → lv_has ls 3 [(0, .ref (ga g r0)), (1, .int d1), (2, .int d2)] → W p l e (headSpec wsX4_countEaten rmX4_countEaten).room s m args below meth c H locs 0 0 Q (F0 m 4 ls []) := fun d1 d2 e => hI _ e
  have kx0 : ∀ (d1 : Int32) , o = .inr d1 → ∀ (H : Heap) (locs : List Loc) (ls : Array Slot), va_P (gD g) vwCl (wlG g M) H → va_S (AbG g) s.heap H locs → lv_has ls 3 [(1, .int d1)] → W p l e (headSpec wsX4_countEaten rmX4_countEaten).room s m args below meth c H locs 0 0 Q (F0 m 34 ls []) := fun d1 e => kx0 d1 (hX _ e).symm
  clear hI hX
  intro H locs ls hP hS hl
  obtain ⟨⟨hx, hb, hml, hown, hts⟩, -, -⟩ := id X
  have hl : lv_has ls 3 [(0, .ref (ga g r0)), (1, .int c1), (2, .int c2)] := hl
  have hP : va_P (gD g) vwCl (wlG g M) H := hP
  unfold b_X4_countEaten_4 at hm
  replace hm := un2_e hm
  refine lv_iload_n hx hb dX4_countEaten_4 rfl (lv_at hl 2 rfl) ?_
  refine lv_aload_n hx hb dX4_countEaten_5 rfl (lv_at hl 0 rfl) ?_
  refine xg_X4_0 X hP okr0 uX4_countEaten_X4 mbX4_countEaten_1 dX4_countEaten_6 ?_
  refine lv_icmp_ge (tgt := 34) hx hb dX4_countEaten_9 (by decide) (fun h_1 => ?_) (fun h_1 => ?_)
  · rw [if_pos h_1] at hm
    exact kx0 c1 (Option.some.inj hm).symm _ _ _ hP hS (lv_sub hl [1] rfl)
  · rw [if_neg h_1] at hm
    refine lv_aload_n hx hb dX4_countEaten_12 rfl (lv_at hl 0 rfl) ?_
    refine xg_X4_5 X hP okr0 uX4_countEaten_X4 mbX4_countEaten_2 dX4_countEaten_13 ?_
    refine lv_iload_n hx hb dX4_countEaten_16 rfl (lv_at hl 2 rfl) ?_
    obtain ⟨hb_2, hm⟩ := chk_elim hm
    refine x_aaldI X hP okr0.lands hb_2 dX4_countEaten_17 ?_
    refine lv_bipush (v := 7) hx hb dX4_countEaten_18 (by decide) ?_
    refine x_iald X hP (okr0.land (inb_lt hb_2)) (show inb 7 9 = true from rfl) dX4_countEaten_20 ?_
    refine lv_iconst (v := (-1)) hx hb dX4_countEaten_21 (by decide) ?_
    refine lv_icmp_eq (tgt := 28) hx hb dX4_countEaten_22 (by decide) (fun h_3 => ?_) (fun h_3 => ?_)
    · rw [if_pos h_3] at hm
      obtain ⟨v_4, hv_5, hm⟩ := bnd_elim hm
      refine lv_iinc (v := v_4) (lv' := [(2, .int v_4), (0, .ref (ga g r0)), (1, .int c1)]) hx hb dX4_countEaten_28 hl (k := 2) rfl (by rw [hv_5]; rfl) (by decide) rfl (fun ls hl => ?_)
      refine lv_goto (tgt := 4) hx hb dX4_countEaten_31 (by decide) ?_
      exact kb c1 v_4 (Option.some.inj hm).symm _ _ _ hP hS (lv_sub hl [1, 2, 0] rfl)
    · rw [if_neg h_3] at hm
      obtain ⟨v_6, hv_7, hm⟩ := bnd_elim hm
      refine lv_iinc (v := v_6) (lv' := [(1, .int v_6), (0, .ref (ga g r0)), (2, .int c2)]) hx hb dX4_countEaten_25 hl (k := 1) rfl (by rw [hv_7]; rfl) (by decide) rfl (fun ls hl => ?_)
      obtain ⟨v_8, hv_9, hm⟩ := bnd_elim hm
      refine lv_iinc (v := v_8) (lv' := [(2, .int v_8), (1, .int v_6), (0, .ref (ga g r0))]) hx hb dX4_countEaten_28 hl (k := 2) rfl (by rw [hv_9]; rfl) (by decide) rfl (fun ls hl => ?_)
      refine lv_goto (tgt := 4) hx hb dX4_countEaten_31 (by decide) ?_
      exact kb v_6 v_8 (Option.some.inj hm).symm _ _ _ hP hS (lv_sub hl [2, 1, 0] rfl)

set_option maxHeartbeats 4000000 in
set_option maxRecDepth 100000 in
theorem c_X4_countEaten (l : Launch) {g : GT} (hA : AxG g) {r0 : Nat} (okr0 : okRing g r0) {fu : Nat} {M : Mem} {rr : Int32} (hm : m_X4_countEaten fu r0 M = some rr) : CI l yX4_countEaten wsX4_countEaten rmX4_countEaten g [.ref (ga g r0)] M rr M := by
  refine Met.ofW (cc := cX4_countEaten) (maxL := 3) (ret := (some .int)) (by decide) rfl ?_
  intro p e s m args below meth c s₁ B hml hv
  obtain ⟨rfl, hSx, hP⟩ := hv
  have hr := B.returns
  have hlocks := B.notSynchronized
  have X : CxG g p s m _ c cX4_countEaten 3 RX4 wsX4_countEaten := ⟨⟨B.exec, B.bytes, hml, findClass_of_methodNamed B.named, atoms_spec (ws := wsX4_countEaten) B.pre⟩, hSx, hA⟩
  have hS : va_S (AbG g) s.heap s.heap [] := va_S.rf
  have hl := lv_entry (([.ref (ga g r0)] : List Value)) (n := 3) (Nat.le_of_ble_eq_true rfl)
  rw [lg_entry_eq]
  generalize (lg_sl (([.ref (ga g r0)] : List Value)) ++ List.replicate (3 - (lg_sl (([.ref (ga g r0)] : List Value))).length) Slot.unset).toArray = ls at hl ⊢
  have hl : lv_has ls 3 [(0, .ref (ga g r0))] := hl
  obtain ⟨⟨hx, hb, hml, hown, hts⟩, -, -⟩ := id X
  unfold m_X4_countEaten at hm
  refine lv_iconst (v := 0) hx hb dX4_countEaten_0 (by decide) ?_
  refine lv_istore_n (lv' := [(1, .int 0), (0, .ref (ga g r0))]) hx hb dX4_countEaten_1 rfl hl (by decide) rfl (fun ls hl => ?_)
  refine lv_iconst (v := 0) hx hb dX4_countEaten_2 (by decide) ?_
  refine lv_istore_n (lv' := [(2, .int 0), (1, .int 0), (0, .ref (ga g r0))]) hx hb dX4_countEaten_3 rfl hl (by decide) rfl (fun ls hl => ?_)
  obtain ⟨v_12, hL_11, hm⟩ := bind_elim hm
  refine wl_X4_countEaten_4 X okr0 ?_ hL_11 _ _ _ hP hS (lv_sub hl [2, 1, 0] rfl)
  · intro z_v_12 e_v_12 H locs ls hP hS hl
    subst e_v_12
    replace hm := un1_e hm
    refine lv_iload_n hx hb dX4_countEaten_34 rfl (lv_at hl 0 rfl) ?_
    cases hm
    exact x_iret X hP hS hr hlocks dX4_countEaten_35

end
