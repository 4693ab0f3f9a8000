/-! walks: written by wip/whole/gen/gen.py out of the printed names -/
section
variable {p : Program} {l : Launch} {e : Env} {s : State} {m : MethodId} {args : Array Value} {below : List Frame} {meth : Method} {c : Code} {Q : State → Prop} {g : GT}
/-! X6_thinks -/
def rmX6_thinks : Room := { frames := 5, cells := 0, slots := 0, locals := 116 }
theorem uX6_thinks_X6 : ∀ w ∈ wsX60, w ∈ wsX6_thinks := by decide +kernel
theorem mbX6_thinks_1 : Cond.fieldLink RX6 53 "FootANightModel" "settings" "[I" ∈ wsX6_thinks := by decide +kernel
theorem mbX6_thinks_2 : Cond.fieldLink RX6 263 "FootANightModel" "moved" "I" ∈ wsX6_thinks := by decide +kernel
set_option maxHeartbeats 4000000 in
set_option maxRecDepth 100000 in
theorem wl_X6_thinks_54 (X : CxG g p s m args c cX6_thinks 6 RX6 wsX6_thinks) (hAll : okAll g) {fu : Nat} {s1 : Int32} {s3 : Int32} {s4 : Int32} {x : Mem} (kx0 : ∀ (M2 : Mem) , x = M2 → ∀ (H : Heap) (locs : List Loc) (ls : Array Slot), va_P (gD g) vwCl (wlG g M2) H → va_S (AbG g) s.heap H locs → lv_has ls 6 [(0, .ref (ga g 145)), (3, .int s3), (4, .int s4)] → W p l e (headSpec wsX6_thinks rmX6_thinks).room s m args below meth c H locs 0 0 Q (F0 m 70 ls [])) {n : Nat} {q0 : Int32 × Mem} (h : lp (b_X6_thinks_54 fu s1 s3 s4) n q0 = some x) : ∀ (H : Heap) (locs : List Loc) (ls : Array Slot), va_P (gD g) vwCl (wlG g q0.2) H → va_S (AbG g) s.heap H locs → lv_has ls 6 [(0, .ref (ga g 145)), (1, .int s1), (3, .int s3), (4, .int s4), (5, .int q0.1)] → W p l e (headSpec wsX6_thinks rmX6_thinks).room s m args below meth c H locs 0 0 Q (F0 m 54 ls []) := by
  refine lp_elim (P := fun q0 : Int32 × Mem => ∀ (H : Heap) (locs : List Loc) (ls : Array Slot), va_P (gD g) vwCl (wlG g q0.2) H → va_S (AbG g) s.heap H locs → lv_has ls 6 [(0, .ref (ga g 145)), (1, .int s1), (3, .int s3), (4, .int s4), (5, .int q0.1)] → W p l e (headSpec wsX6_thinks rmX6_thinks).room s m args below meth c H locs 0 0 Q (F0 m 54 ls [])) (fun q1 o hm hI hX => ?_) n q0 h
  obtain ⟨c5, M⟩ := q1
  have kb : ∀ (d5 : Int32) (M2 : Mem) , o = .inl (d5, M2) → ∀ (H : Heap) (locs : List Loc) (ls : Array Slot), va_P (gD g) vwCl (wlG g M2) H → va_S (AbG g) s.heap H locs → lv_has ls 6 [(0, .ref (ga g 145)), (1, .int s1), (3, .int s3), (4, .int s4), (5, .int d5)] → W p l e (headSpec wsX6_thinks rmX6_thinks).room s m args below meth c H locs 0 0 Q (F0 m 54 ls []) := fun d5 M2 e => hI _ e
  have kx0 : ∀ (M2 : Mem) , o = .inr M2 → ∀ (H : Heap) (locs : List Loc) (ls : Array Slot), va_P (gD g) vwCl (wlG g M2) H → va_S (AbG g) s.heap H locs → lv_has ls 6 [(0, .ref (ga g 145)), (3, .int s3), (4, .int s4)] → W p l e (headSpec wsX6_thinks rmX6_thinks).room s m args below meth c H locs 0 0 Q (F0 m 70 ls []) := fun M2 e => kx0 M2 (hX _ e).symm
  clear hI hX
  intro H locs ls hP hS hl
  obtain ⟨⟨hx, hb, hml, hown, hts⟩, -, -⟩ := id X
  have hl : lv_has ls 6 [(0, .ref (ga g 145)), (1, .int s1), (3, .int s3), (4, .int s4), (5, .int c5)] := hl
  have hP : va_P (gD g) vwCl (wlG g M) H := hP
  unfold b_X6_thinks_54 at hm
  replace hm := un2_e hm
  refine lv_iload hx hb dX6_thinks_54 (lv_at hl 4 rfl) ?_
  refine lv_iload_n hx hb dX6_thinks_56 rfl (lv_at hl 1 rfl) ?_
  refine lv_icmp_ge (tgt := 70) hx hb dX6_thinks_57 (by decide) (fun h_8 => ?_) (fun h_8 => ?_)
  · rw [if_pos h_8] at hm
    exact kx0 M (Option.some.inj hm).symm _ _ _ hP hS (lv_sub hl [0, 2, 3] rfl)
  · rw [if_neg h_8] at hm
    refine lv_aload_n hx hb dX6_thinks_60 rfl (lv_at hl 0 rfl) ?_
    obtain ⟨M_10, hc_9, hm⟩ := bind_elim hm
    refine x_callv (x_runV (As := []) (rest := []) X hP hS (c_X6_goesBy l X.2.2 hAll hc_9) (cwV 0 hts gX6_thinks_X6_goesBy rfl rfl rfl (by decide +kernel) ⟨Nat.le_of_ble_eq_true rfl, Nat.le_of_ble_eq_true rfl⟩) (x_recv (C := RX6) (T := TX6) (N := 55) X hP (okc_145 hAll) rfl) rfl hl.1 rfl (Nat.le_of_ble_eq_true rfl) dX6_thinks_61 ⟨Nat.zero_le _, Nat.zero_le _⟩) hS (fun H locs hP hS => ?_)
    obtain ⟨v_11, hv_12, hm⟩ := bnd_elim hm
    refine lv_iinc (v := v_11) (lv' := [(5, .int v_11), (0, .ref (ga g 145)), (1, .int s1), (3, .int s3), (4, .int s4)]) hx hb dX6_thinks_64 hl (k := 4) rfl (by rw [hv_12]; rfl) (by decide) rfl (fun ls hl => ?_)
    refine lv_goto (tgt := 54) hx hb dX6_thinks_67 (by decide) ?_
    exact kb v_11 M_10 (Option.some.inj hm).symm _ _ _ hP hS (lv_sub hl [1, 2, 3, 4, 0] rfl)

set_option maxHeartbeats 4000000 in
set_option maxRecDepth 100000 in
theorem wj_X6_thinks_109 (X : CxG g p s m args c cX6_thinks 6 RX6 wsX6_thinks) (hAll : okAll g) {fu : Nat} {M : Mem} {s4 : Int32} {t0 : Int32} {rr : Int32} {MM : Mem} (hr : meth.sig.returnType = (some .int)) (hlocks : meth.locks = false) (hm : j_X6_thinks_109 fu M s4 t0 = some (rr, MM)) {H : Heap} {locs : List Loc} {ls : Array Slot} (hP : va_P (gD g) vwCl (wlG g M) H) (hS : va_S (AbG g) s.heap H locs) (hl : lv_has ls 6 [(0, .ref (ga g 145)), (4, .int s4)]) : W p l e (headSpec wsX6_thinks rmX6_thinks).room s m args below meth c H locs 0 0 (MQ below (va_Qi (fun (q : Int32) (_ : Unit) => q = rr) (fun _ t => va_P (gD g) vwCl (wlG g MM) t.heap) (AbG g)) args s 0 0 (AbG g)) (F0 m 109 ls [.int t0]) := by
  obtain ⟨⟨hx, hb, hml, hown, hts⟩, -, -⟩ := id X
  unfold j_X6_thinks_109 at hm
  refine lv_istore (lv' := [(5, .int t0), (0, .ref (ga g 145)), (4, .int s4)]) hx hb dX6_thinks_109 hl (by decide) rfl (fun ls hl => ?_)
  refine lv_aload_n hx hb dX6_thinks_111 rfl (lv_at hl 1 rfl) ?_
  refine lv_iconst (v := 0) hx hb dX6_thinks_112 (by decide) ?_
  obtain ⟨M_22, hc_21, hm⟩ := bind_elim hm
  refine x_callv (x_runV (As := [.int 0]) (rest := []) X hP hS (c_X6_asides l X.2.2 hAll hc_21) (cwV 1 hts gX6_thinks_X6_asides rfl rfl rfl (by decide +kernel) ⟨Nat.le_of_ble_eq_true rfl, Nat.le_of_ble_eq_true rfl⟩) (x_recv (C := RX6) (T := TX6) (N := 55) X hP (okc_145 hAll) rfl) rfl hl.1 rfl (Nat.le_of_ble_eq_true rfl) dX6_thinks_113 ⟨Nat.zero_le _, Nat.zero_le _⟩) hS (fun H locs hP hS => ?_)
  refine lv_iload hx hb dX6_thinks_116 (lv_at hl 0 rfl) ?_
  refine lv_iload hx hb dX6_thinks_118 (lv_at hl 2 rfl) ?_
  refine lv_isub hx hb dX6_thinks_120 ?_
  cases hm
  exact x_iret X hP hS hr hlocks dX6_thinks_121

set_option maxHeartbeats 4000000 in
set_option maxRecDepth 100000 in
theorem wj_X6_thinks_36 (X : CxG g p s m args c cX6_thinks 6 RX6 wsX6_thinks) (hAll : okAll g) {fu : Nat} {M : Mem} {s1 : Int32} {s2 : Int32} {s3 : Int32} {t0 : Int32} {rr : Int32} {MM : Mem} (hr : meth.sig.returnType = (some .int)) (hlocks : meth.locks = false) (hm : j_X6_thinks_36 fu M s1 s2 s3 t0 = some (rr, MM)) {H : Heap} {locs : List Loc} {ls : Array Slot} (hP : va_P (gD g) vwCl (wlG g M) H) (hS : va_S (AbG g) s.heap H locs) (hl : lv_has ls 6 [(0, .ref (ga g 145)), (1, .int s1), (2, .int s2), (3, .int s3)]) : W p l e (headSpec wsX6_thinks rmX6_thinks).room s m args below meth c H locs 0 0 (MQ below (va_Qi (fun (q : Int32) (_ : Unit) => q = rr) (fun _ t => va_P (gD g) vwCl (wlG g MM) t.heap) (AbG g)) args s 0 0 (AbG g)) (F0 m 36 ls [.int t0]) := by
  obtain ⟨⟨hx, hb, hml, hown, hts⟩, -, -⟩ := id X
  unfold j_X6_thinks_36 at hm
  refine lv_istore (lv' := [(4, .int t0), (0, .ref (ga g 145)), (1, .int s1), (2, .int s2), (3, .int s3)]) hx hb dX6_thinks_36 hl (by decide) rfl (fun ls hl => ?_)
  refine lv_aload_n hx hb dX6_thinks_38 rfl (lv_at hl 1 rfl) ?_
  refine lv_iconst (v := 1) hx hb dX6_thinks_39 (by decide) ?_
  obtain ⟨M_5, hc_4, hm⟩ := bind_elim hm
  refine x_callv (x_runV (As := [.int 1]) (rest := []) X hP hS (c_X6_asides l X.2.2 hAll hc_4) (cwV 1 hts gX6_thinks_X6_asides rfl rfl rfl (by decide +kernel) ⟨Nat.le_of_ble_eq_true rfl, Nat.le_of_ble_eq_true rfl⟩) (x_recv (C := RX6) (T := TX6) (N := 55) X hP (okc_145 hAll) rfl) rfl hl.1 rfl (Nat.le_of_ble_eq_true rfl) dX6_thinks_40 ⟨Nat.zero_le _, Nat.zero_le _⟩) hS (fun H locs hP hS => ?_)
  refine lv_aload_n hx hb dX6_thinks_43 rfl (lv_at hl 1 rfl) ?_
  refine x_getR X hP (okc_145 hAll) (j := 18) (C := RX6) (T := TX6) (N := 55) rfl uX6_thinks_X6 (by decide) rfl mbX6_thinks_1 dX6_thinks_44 ?_
  refine lv_bipush (v := 9) hx hb dX6_thinks_47 (by decide) ?_
  refine lv_iload_n hx hb dX6_thinks_49 rfl (lv_at hl 3 rfl) ?_
  obtain ⟨M_6, hM_7, hm⟩ := bnd_elim hm
  refine x_iast X hP hS (okc_159 hAll) hM_7 (show inb 9 10 = true from rfl) dX6_thinks_50 (fun H locs hP hS => ?_)
  refine lv_iconst (v := 0) hx hb dX6_thinks_51 (by decide) ?_
  refine lv_istore (lv' := [(5, .int 0), (4, .int t0), (0, .ref (ga g 145)), (1, .int s1), (2, .int s2), (3, .int s3)]) hx hb dX6_thinks_52 hl (by decide) rfl (fun ls hl => ?_)
  obtain ⟨M_15, hL_14, hm⟩ := bind_elim hm
  refine wl_X6_thinks_54 X hAll ?_ hL_14 _ _ _ hP hS (lv_sub hl [2, 3, 5, 1, 0] rfl)
  · intro z_M_15 e_M_15 H locs ls hP hS hl
    subst e_M_15
    replace hm := un1_e hm
    refine lv_iload_n hx hb dX6_thinks_70 rfl (lv_at hl 1 rfl) ?_
    refine lv_if_ne (tgt := 81) hx hb dX6_thinks_71 (by decide) (fun h_16 => ?_) (fun h_16 => ?_)
    · rw [if_neg h_16] at hm
      refine lv_iload_n hx hb dX6_thinks_81 rfl (lv_at hl 1 rfl) ?_
      refine lv_iconst (v := 1) hx hb dX6_thinks_82 (by decide) ?_
      refine lv_icmp_ne (tgt := 93) hx hb dX6_thinks_83 (by decide) (fun h_17 => ?_) (fun h_17 => ?_)
      · rw [if_neg h_17] at hm
        refine lv_iload_n hx hb dX6_thinks_93 rfl (lv_at hl 1 rfl) ?_
        refine lv_iconst (v := 2) hx hb dX6_thinks_94 (by decide) ?_
        refine lv_icmp_ne (tgt := 105) hx hb dX6_thinks_95 (by decide) (fun h_18 => ?_) (fun h_18 => ?_)
        · rw [if_neg h_18] at hm
          refine lv_aload_n hx hb dX6_thinks_105 rfl (lv_at hl 0 rfl) ?_
          obtain ⟨r_20, hc_19, hm⟩ := bind_elim hm
          refine x_calli (x_runV (As := []) (rest := []) X hP hS (c_X6_eatenAll l X.2.2 hAll hc_19) (cwV 0 hts gX6_thinks_X6_eatenAll rfl rfl rfl (by decide +kernel) ⟨Nat.le_of_ble_eq_true rfl, Nat.le_of_ble_eq_true rfl⟩) (x_recv (C := RX6) (T := TX6) (N := 55) X hP (okc_145 hAll) rfl) rfl hl.1 rfl (Nat.le_of_ble_eq_true rfl) dX6_thinks_106 ⟨Nat.zero_le _, Nat.zero_le _⟩) hS (fun H locs hP hS => ?_)
          exact wj_X6_thinks_109 X hAll hr hlocks hm hP hS (lv_sub hl [0, 2] rfl)
        · rw [if_pos h_18] at hm
          refine lv_aload_n hx hb dX6_thinks_98 rfl (lv_at hl 0 rfl) ?_
          obtain ⟨r_24, hc_23, hm⟩ := bind_elim hm
          refine x_calli (x_runV (As := []) (rest := []) X hP hS (c_X6_caughtAll l X.2.2 hAll hc_23) (cwV 0 hts gX6_thinks_X6_caughtAll rfl rfl rfl (by decide +kernel) ⟨Nat.le_of_ble_eq_true rfl, Nat.le_of_ble_eq_true rfl⟩) (x_recv (C := RX6) (T := TX6) (N := 55) X hP (okc_145 hAll) rfl) rfl hl.1 rfl (Nat.le_of_ble_eq_true rfl) dX6_thinks_99 ⟨Nat.zero_le _, Nat.zero_le _⟩) hS (fun H locs hP hS => ?_)
          refine lv_goto (tgt := 109) hx hb dX6_thinks_102 (by decide) ?_
          exact wj_X6_thinks_109 X hAll hr hlocks hm hP hS (lv_sub hl [0, 2] rfl)
      · rw [if_pos h_17] at hm
        refine lv_aload_n hx hb dX6_thinks_86 rfl (lv_at hl 0 rfl) ?_
        refine x_getI X hP (okc_145 hAll) (j := 4) (C := RX6) (T := TX6) (N := 55) rfl uX6_thinks_X6 (by decide) rfl mbX6_thinks_2 dX6_thinks_87 ?_
        refine lv_goto (tgt := 109) hx hb dX6_thinks_90 (by decide) ?_
        exact wj_X6_thinks_109 X hAll hr hlocks hm hP hS (lv_sub hl [0, 2] rfl)
    · rw [if_pos h_16] at hm
      refine lv_aload_n hx hb dX6_thinks_74 rfl (lv_at hl 0 rfl) ?_
      obtain ⟨r_26, hc_25, hm⟩ := bind_elim hm
      refine x_calli (x_runV (As := []) (rest := []) X hP hS (c_X6_purses l X.2.2 hAll hc_25) (cwV 0 hts gX6_thinks_X6_purses rfl rfl rfl (by decide +kernel) ⟨Nat.le_of_ble_eq_true rfl, Nat.le_of_ble_eq_true rfl⟩) (x_recv (C := RX6) (T := TX6) (N := 55) X hP (okc_145 hAll) rfl) rfl hl.1 rfl (Nat.le_of_ble_eq_true rfl) dX6_thinks_75 ⟨Nat.zero_le _, Nat.zero_le _⟩) hS (fun H locs hP hS => ?_)
      refine lv_goto (tgt := 109) hx hb dX6_thinks_78 (by decide) ?_
      exact wj_X6_thinks_109 X hAll hr hlocks hm hP hS (lv_sub hl [0, 2] rfl)

set_option maxHeartbeats 4000000 in
set_option maxRecDepth 100000 in
theorem c_X6_thinks (l : Launch) {g : GT} (hA : AxG g) (hAll : okAll g)   {fu : Nat} {M : Mem} {a1 : Int32} {a2 : Int32} {a3 : Int32} {rr : Int32} {MM : Mem} (hm : m_X6_thinks fu M a1 a2 a3 = some (rr, MM)) : CI l yX6_thinks wsX6_thinks rmX6_thinks g [.ref (ga g 145), .int a1, .int a2, .int a3] M rr MM := by
  refine Met.ofW (cc := cX6_thinks) (maxL := 6) (ret := (some .int)) (by decide) rfl ?_
  intro p e s m args below meth c s₁ B hml hv
  obtain ⟨rfl, hSx, hP⟩ := hv
  have hr := B.returns
  have hlocks := B.notSynchronized
  have X : CxG g p s m _ c cX6_thinks 6 RX6 wsX6_thinks := ⟨⟨B.exec, B.bytes, hml, findClass_of_methodNamed B.named, atoms_spec (ws := wsX6_thinks) B.pre⟩, hSx, hA⟩
  have hS : va_S (AbG g) s.heap s.heap [] := va_S.rf
  have hl := lv_entry (([.ref (ga g 145), .int a1, .int a2, .int a3] : List Value)) (n := 6) (Nat.le_of_ble_eq_true rfl)
  rw [lg_entry_eq]
  generalize (lg_sl (([.ref (ga g 145), .int a1, .int a2, .int a3] : List Value)) ++ List.replicate (6 - (lg_sl (([.ref (ga g 145), .int a1, .int a2, .int a3] : List Value))).length) Slot.unset).toArray = ls at hl ⊢
  have hl : lv_has ls 6 [(0, .ref (ga g 145)), (1, .int a1), (2, .int a2), (3, .int a3)] := hl
  obtain ⟨⟨hx, hb, hml, hown, hts⟩, -, -⟩ := id X
  unfold m_X6_thinks at hm
  refine lv_iload_n hx hb dX6_thinks_0 rfl (lv_at hl 3 rfl) ?_
  refine lv_if_ne (tgt := 11) hx hb dX6_thinks_1 (by decide) (fun h_1 => ?_) (fun h_1 => ?_)
  · rw [if_neg h_1] at hm
    refine lv_iload_n hx hb dX6_thinks_11 rfl (lv_at hl 3 rfl) ?_
    refine lv_iconst (v := 1) hx hb dX6_thinks_12 (by decide) ?_
    refine lv_icmp_ne (tgt := 23) hx hb dX6_thinks_13 (by decide) (fun h_2 => ?_) (fun h_2 => ?_)
    · rw [if_neg h_2] at hm
      refine lv_iload_n hx hb dX6_thinks_23 rfl (lv_at hl 3 rfl) ?_
      refine lv_iconst (v := 2) hx hb dX6_thinks_24 (by decide) ?_
      refine lv_icmp_ne (tgt := 35) hx hb dX6_thinks_25 (by decide) (fun h_3 => ?_) (fun h_3 => ?_)
      · rw [if_neg h_3] at hm
        refine lv_iconst (v := 0) hx hb dX6_thinks_35 (by decide) ?_
        exact wj_X6_thinks_36 X hAll hr hlocks hm hP hS (lv_sub hl [0, 1, 2, 3] rfl)
      · rw [if_pos h_3] at hm
        refine lv_aload_n hx hb dX6_thinks_28 rfl (lv_at hl 0 rfl) ?_
        obtain ⟨r_28, hc_27, hm⟩ := bind_elim hm
        refine x_calli (x_runV (As := []) (rest := []) X hP hS (c_X6_caughtAll l X.2.2 hAll hc_27) (cwV 0 hts gX6_thinks_X6_caughtAll rfl rfl rfl (by decide +kernel) ⟨Nat.le_of_ble_eq_true rfl, Nat.le_of_ble_eq_true rfl⟩) (x_recv (C := RX6) (T := TX6) (N := 55) X hP (okc_145 hAll) rfl) rfl hl.1 rfl (Nat.le_of_ble_eq_true rfl) dX6_thinks_29 ⟨Nat.zero_le _, Nat.zero_le _⟩) hS (fun H locs hP hS => ?_)
        refine lv_goto (tgt := 36) hx hb dX6_thinks_32 (by decide) ?_
        exact wj_X6_thinks_36 X hAll hr hlocks hm hP hS (lv_sub hl [0, 1, 2, 3] rfl)
    · rw [if_pos h_2] at hm
      refine lv_aload_n hx hb dX6_thinks_16 rfl (lv_at hl 0 rfl) ?_
      refine x_getI X hP (okc_145 hAll) (j := 4) (C := RX6) (T := TX6) (N := 55) rfl uX6_thinks_X6 (by decide) rfl mbX6_thinks_2 dX6_thinks_17 ?_
      refine lv_goto (tgt := 36) hx hb dX6_thinks_20 (by decide) ?_
      exact wj_X6_thinks_36 X hAll hr hlocks hm hP hS (lv_sub hl [0, 1, 2, 3] rfl)
  · rw [if_pos h_1] at hm
    refine lv_aload_n hx hb dX6_thinks_4 rfl (lv_at hl 0 rfl) ?_
    obtain ⟨r_30, hc_29, hm⟩ := bind_elim hm
    refine x_calli (x_runV (As := []) (rest := []) X hP hS (c_X6_purses l X.2.2 hAll hc_29) (cwV 0 hts gX6_thinks_X6_purses rfl rfl rfl (by decide +kernel) ⟨Nat.le_of_ble_eq_true rfl, Nat.le_of_ble_eq_true rfl⟩) (x_recv (C := RX6) (T := TX6) (N := 55) X hP (okc_145 hAll) rfl) rfl hl.1 rfl (Nat.le_of_ble_eq_true rfl) dX6_thinks_5 ⟨Nat.zero_le _, Nat.zero_le _⟩) hS (fun H locs hP hS => ?_)
    refine lv_goto (tgt := 36) hx hb dX6_thinks_8 (by decide) ?_
    exact wj_X6_thinks_36 X hAll hr hlocks hm hP hS (lv_sub hl [0, 1, 2, 3] rfl)


/-! X6_feet -/
def rmX6_feet : Room := { frames := 6, cells := 0, slots := 0, locals := 141 }
theorem uX6_feet_X6 : ∀ w ∈ wsX60, w ∈ wsX6_feet := by decide +kernel
theorem mbX6_feet_1 : Cond.fieldLink RX6 121 "FootANightModel" "told" "I" ∈ wsX6_feet := by decide +kernel
set_option maxHeartbeats 4000000 in
set_option maxRecDepth 100000 in
theorem wl_X6_feet_31 (X : CxG g p s m args c cX6_feet 6 RX6 wsX6_feet) (hAll : okAll g) {fu : Nat} {s1 : Int32} {x : Int32 × Mem} (kx0 : ∀ (d2 : Int32) (M2 : Mem) , x = (d2, M2) → ∀ (H : Heap) (locs : List Loc) (ls : Array Slot), va_P (gD g) vwCl (wlG g M2) H → va_S (AbG g) s.heap H locs → lv_has ls 6 [(2, .int d2)] → W p l e (headSpec wsX6_feet rmX6_feet).room s m args below meth c H locs 0 0 Q (F0 m 68 ls [])) {n : Nat} {q0 : Int32 × Int32 × Int32 × Mem} (h : lp (b_X6_feet_31 fu s1) n q0 = some x) : ∀ (H : Heap) (locs : List Loc) (ls : Array Slot), va_P (gD g) vwCl (wlG g q0.2.2.2) H → va_S (AbG g) s.heap H locs → lv_has ls 6 [(0, .ref (ga g 145)), (1, .int s1), (2, .int q0.1), (3, .int q0.2.1), (4, .int q0.2.2.1)] → W p l e (headSpec wsX6_feet rmX6_feet).room s m args below meth c H locs 0 0 Q (F0 m 31 ls []) := by
  refine lp_elim (P := fun q0 : Int32 × Int32 × Int32 × Mem => ∀ (H : Heap) (locs : List Loc) (ls : Array Slot), va_P (gD g) vwCl (wlG g q0.2.2.2) H → va_S (AbG g) s.heap H locs → lv_has ls 6 [(0, .ref (ga g 145)), (1, .int s1), (2, .int q0.1), (3, .int q0.2.1), (4, .int q0.2.2.1)] → W p l e (headSpec wsX6_feet rmX6_feet).room s m args below meth c H locs 0 0 Q (F0 m 31 ls [])) (fun q1 o hm hI hX => ?_) n q0 h
  obtain ⟨c2, c3, c4, M⟩ := q1
  have kb : ∀ (d2 : Int32) (d3 : Int32) (d4 : Int32) (M2 : Mem) , o = .inl (d2, d3, d4, M2) → ∀ (H : Heap) (locs : List Loc) (ls : Array Slot), va_P (gD g) vwCl (wlG g M2) H → va_S (AbG g) s.heap H locs → lv_has ls 6 [(0, .ref (ga g 145)), (1, .int s1), (2, .int d2), (3, .int d3), (4, .int d4)] → W p l e (headSpec wsX6_feet rmX6_feet).room s m args below meth c H locs 0 0 Q (F0 m 31 ls []) := fun d2 d3 d4 M2 e => hI _ e
  have kx0 : ∀ (d2 : Int32) (M2 : Mem) , o = .inr (d2, M2) → ∀ (H : Heap) (locs : List Loc) (ls : Array Slot), va_P (gD g) vwCl (wlG g M2) H → va_S (AbG g) s.heap H locs → lv_has ls 6 [(2, .int d2)] → W p l e (headSpec wsX6_feet rmX6_feet).room s m args below meth c H locs 0 0 Q (F0 m 68 ls []) := fun d2 M2 e => kx0 d2 M2 (hX _ e).symm
  clear hI hX
  intro H locs ls hP hS hl
  obtain ⟨⟨hx, hb, hml, hown, hts⟩, -, -⟩ := id X
  have hl : lv_has ls 6 [(0, .ref (ga g 145)), (1, .int s1), (2, .int c2), (3, .int c3), (4, .int c4)] := hl
  have hP : va_P (gD g) vwCl (wlG g M) H := hP
  unfold b_X6_feet_31 at hm
  replace hm := un4_e hm
  refine lv_iload hx hb dX6_feet_31 (lv_at hl 4 rfl) ?_
  refine lv_iconst (v := 5) hx hb dX6_feet_33 (by decide) ?_
  refine lv_icmp_gt (tgt := 68) hx hb dX6_feet_34 (by decide) (fun h_9 => ?_) (fun h_9 => ?_)
  · rw [if_pos h_9] at hm
    exact kx0 c2 M (Option.some.inj hm).symm _ _ _ hP hS (lv_sub hl [2] rfl)
  · rw [if_neg h_9] at hm
    refine lv_aload_n hx hb dX6_feet_37 rfl (lv_at hl 0 rfl) ?_
    refine lv_iload_n hx hb dX6_feet_38 rfl (lv_at hl 1 rfl) ?_
    refine lv_iload hx hb dX6_feet_39 (lv_at hl 4 rfl) ?_
    refine lv_iconst (v := 0) hx hb dX6_feet_41 (by decide) ?_
    obtain ⟨⟨r_11, M_12⟩, hc_10, hm⟩ := bind_elim hm
    replace hm := un2_e hm
    refine x_calli (x_runV (As := [.int s1, .int c4, .int 0]) (rest := []) X hP hS (c_X6_thinks l X.2.2 hAll hc_10) (cwV 3 hts gX6_feet_X6_thinks rfl rfl rfl (by decide +kernel) ⟨Nat.le_of_ble_eq_true rfl, Nat.le_of_ble_eq_true rfl⟩) (x_recv (C := RX6) (T := TX6) (N := 55) X hP (okc_145 hAll) rfl) rfl hl.1 rfl (Nat.le_of_ble_eq_true rfl) dX6_feet_42 ⟨Nat.zero_le _, Nat.zero_le _⟩) hS (fun H locs hP hS => ?_)
    refine lv_istore (lv' := [(5, .int r_11), (0, .ref (ga g 145)), (1, .int s1), (2, .int c2), (3, .int c3), (4, .int c4)]) hx hb dX6_feet_45 hl (by decide) rfl (fun ls hl => ?_)
    refine lv_iload hx hb dX6_feet_47 (lv_at hl 0 rfl) ?_
    refine lv_iload_n hx hb dX6_feet_49 rfl (lv_at hl 4 rfl) ?_
    refine lv_icmp_gt (tgt := 56) hx hb dX6_feet_50 (by decide) (fun h_13 => ?_) (fun h_13 => ?_)
    · rw [if_pos h_13] at hm
      refine lv_iload hx hb dX6_feet_56 (lv_at hl 5 rfl) ?_
      refine lv_istore_n (lv' := [(2, .int c4), (5, .int r_11), (0, .ref (ga g 145)), (1, .int s1), (3, .int c3), (4, .int c4)]) hx hb dX6_feet_58 rfl hl (by decide) rfl (fun ls hl => ?_)
      refine lv_iload hx hb dX6_feet_59 (lv_at hl 1 rfl) ?_
      refine lv_istore_n (lv' := [(3, .int r_11), (2, .int c4), (5, .int r_11), (0, .ref (ga g 145)), (1, .int s1), (4, .int c4)]) hx hb dX6_feet_61 rfl hl (by decide) rfl (fun ls hl => ?_)
      obtain ⟨v_14, hv_15, hm⟩ := bnd_elim hm
      refine lv_iinc (v := v_14) (lv' := [(4, .int v_14), (3, .int r_11), (2, .int c4), (5, .int r_11), (0, .ref (ga g 145)), (1, .int s1)]) hx hb dX6_feet_62 hl (k := 5) rfl (by rw [hv_15]; rfl) (by decide) rfl (fun ls hl => ?_)
      refine lv_goto (tgt := 31) hx hb dX6_feet_65 (by decide) ?_
      exact kb c4 r_11 v_14 M_12 (Option.some.inj hm).symm _ _ _ hP hS (lv_sub hl [4, 5, 2, 1, 0] rfl)
    · rw [if_neg h_13] at hm
      refine lv_goto (tgt := 62) hx hb dX6_feet_53 (by decide) ?_
      obtain ⟨v_16, hv_17, hm⟩ := bnd_elim hm
      refine lv_iinc (v := v_16) (lv' := [(4, .int v_16), (5, .int r_11), (0, .ref (ga g 145)), (1, .int s1), (2, .int c2), (3, .int c3)]) hx hb dX6_feet_62 hl (k := 5) rfl (by rw [hv_17]; rfl) (by decide) rfl (fun ls hl => ?_)
      refine lv_goto (tgt := 31) hx hb dX6_feet_65 (by decide) ?_
      exact kb c2 c3 v_16 M_12 (Option.some.inj hm).symm _ _ _ hP hS (lv_sub hl [2, 3, 4, 5, 0] rfl)

set_option maxHeartbeats 4000000 in
set_option maxRecDepth 100000 in
theorem c_X6_feet (l : Launch) {g : GT} (hA : AxG g) (hAll : okAll g)   {fu : Nat} {M : Mem} {a1 : Int32} {rr : Int32} {MM : Mem} (hm : m_X6_feet fu M a1 = some (rr, MM)) : CI l yX6_feet wsX6_feet rmX6_feet g [.ref (ga g 145), .int a1] M rr MM := by
  refine Met.ofW (cc := cX6_feet) (maxL := 6) (ret := (some .int)) (by decide) rfl ?_
  intro p e s m args below meth c s₁ B hml hv
  obtain ⟨rfl, hSx, hP⟩ := hv
  have hr := B.returns
  have hlocks := B.notSynchronized
  have X : CxG g p s m _ c cX6_feet 6 RX6 wsX6_feet := ⟨⟨B.exec, B.bytes, hml, findClass_of_methodNamed B.named, atoms_spec (ws := wsX6_feet) B.pre⟩, hSx, hA⟩
  have hS : va_S (AbG g) s.heap s.heap [] := va_S.rf
  have hl := lv_entry (([.ref (ga g 145), .int a1] : List Value)) (n := 6) (Nat.le_of_ble_eq_true rfl)
  rw [lg_entry_eq]
  generalize (lg_sl (([.ref (ga g 145), .int a1] : List Value)) ++ List.replicate (6 - (lg_sl (([.ref (ga g 145), .int a1] : List Value))).length) Slot.unset).toArray = ls at hl ⊢
  have hl : lv_has ls 6 [(0, .ref (ga g 145)), (1, .int a1)] := hl
  obtain ⟨⟨hx, hb, hml, hown, hts⟩, -, -⟩ := id X
  unfold m_X6_feet at hm
  refine lv_aload_n hx hb dX6_feet_0 rfl (lv_at hl 0 rfl) ?_
  refine lv_iconst (v := 0) hx hb dX6_feet_1 (by decide) ?_
  obtain ⟨M_1, hM_2, hm⟩ := bnd_elim hm
  refine x_put X hP hS (okc_145 hAll) (j := 0) hM_2 (C := RX6) (T := TX6) (N := 55) rfl uX6_feet_X6 tyX6_ok nmX6 (by decide) rfl mbX6_feet_1 rfl (ty := .int) (by decide +kernel) rfl rfl dX6_feet_2 (fun H locs hP hS => ?_)
  refine lv_aload_n hx hb dX6_feet_5 rfl (lv_at hl 0 rfl) ?_
  refine lv_iload_n hx hb dX6_feet_6 rfl (lv_at hl 1 rfl) ?_
  refine lv_iconst (v := 1) hx hb dX6_feet_7 (by decide) ?_
  refine lv_bipush (v := 60) hx hb dX6_feet_8 (by decide) ?_
  obtain ⟨r_4, hc_3, hm⟩ := bind_elim hm
  refine x_calli (x_runV (As := [.int a1, .int 1, .int 60]) (rest := []) X hP hS (c_X6_isIn l X.2.2 hc_3) (cwV 3 hts gX6_feet_X6_isIn rfl rfl rfl (by decide +kernel) ⟨Nat.le_of_ble_eq_true rfl, Nat.le_of_ble_eq_true rfl⟩) (x_recv (C := RX6) (T := TX6) (N := 55) X hP (okc_145 hAll) rfl) rfl hl.1 rfl (Nat.le_of_ble_eq_true rfl) dX6_feet_10 ⟨Nat.zero_le _, Nat.zero_le _⟩) hS (fun H locs hP hS => ?_)
  refine lv_if_ne (tgt := 18) hx hb dX6_feet_13 (by decide) (fun h_5 => ?_) (fun h_5 => ?_)
  · rw [if_neg h_5] at hm
    refine lv_iconst (v := 0) hx hb dX6_feet_18 (by decide) ?_
    refine lv_istore_n (lv' := [(2, .int 0), (0, .ref (ga g 145)), (1, .int a1)]) hx hb dX6_feet_19 rfl hl (by decide) rfl (fun ls hl => ?_)
    refine lv_aload_n hx hb dX6_feet_20 rfl (lv_at hl 1 rfl) ?_
    refine lv_iload_n hx hb dX6_feet_21 rfl (lv_at hl 2 rfl) ?_
    refine lv_iconst (v := 0) hx hb dX6_feet_22 (by decide) ?_
    refine lv_iconst (v := 0) hx hb dX6_feet_23 (by decide) ?_
    obtain ⟨⟨r_7, M_8⟩, hc_6, hm⟩ := bind_elim hm
    replace hm := un2_e hm
    refine x_calli (x_runV (As := [.int a1, .int 0, .int 0]) (rest := []) X hP hS (c_X6_thinks l X.2.2 hAll hc_6) (cwV 3 hts gX6_feet_X6_thinks rfl rfl rfl (by decide +kernel) ⟨Nat.le_of_ble_eq_true rfl, Nat.le_of_ble_eq_true rfl⟩) (x_recv (C := RX6) (T := TX6) (N := 55) X hP (okc_145 hAll) rfl) rfl hl.1 rfl (Nat.le_of_ble_eq_true rfl) dX6_feet_24 ⟨Nat.zero_le _, Nat.zero_le _⟩) hS (fun H locs hP hS => ?_)
    refine lv_istore_n (lv' := [(3, .int r_7), (2, .int 0), (0, .ref (ga g 145)), (1, .int a1)]) hx hb dX6_feet_27 rfl hl (by decide) rfl (fun ls hl => ?_)
    refine lv_iconst (v := 1) hx hb dX6_feet_28 (by decide) ?_
    refine lv_istore (lv' := [(4, .int 1), (3, .int r_7), (2, .int 0), (0, .ref (ga g 145)), (1, .int a1)]) hx hb dX6_feet_29 hl (by decide) rfl (fun ls hl => ?_)
    obtain ⟨x_18, hL_19, hm⟩ := bind_elim hm
    refine wl_X6_feet_31 X hAll ?_ hL_19 _ _ _ hP hS (lv_sub hl [3, 4, 2, 1, 0] rfl)
    · intro v_20 M_21 e_x_18 H locs ls hP hS hl
      subst e_x_18
      replace hm := un2_e hm
      refine lv_iload_n hx hb dX6_feet_68 rfl (lv_at hl 0 rfl) ?_
      cases hm
      exact x_iret X hP hS hr hlocks dX6_feet_69
  · rw [if_pos h_5] at hm
    refine lv_iconst (v := (-1)) hx hb dX6_feet_16 (by decide) ?_
    cases hm
    exact x_iret X hP hS hr hlocks dX6_feet_17


/-! X6_thought -/
def rmX6_thought : Room := { frames := 6, cells := 0, slots := 0, locals := 141 }
theorem uX6_thought_X6 : ∀ w ∈ wsX60, w ∈ wsX6_thought := by decide +kernel
theorem mbX6_thought_1 : Cond.fieldLink RX6 121 "FootANightModel" "told" "I" ∈ wsX6_thought := by decide +kernel
theorem mbX6_thought_2 : Cond.constant RX6 276 (-100000000) ∈ wsX6_thought := by decide +kernel
theorem mbX6_thought_3 : Cond.fieldLink RX6 53 "FootANightModel" "settings" "[I" ∈ wsX6_thought := by decide +kernel
set_option maxHeartbeats 4000000 in
set_option maxRecDepth 100000 in
theorem c_X6_thought (l : Launch) {g : GT} (hA : AxG g) (hAll : okAll g)   {fu : Nat} {M : Mem} {a1 : Int32} {a2 : Int32} {rr : Int32} {MM : Mem} (hm : m_X6_thought fu M a1 a2 = some (rr, MM)) : CI l yX6_thought wsX6_thought rmX6_thought g [.ref (ga g 145), .int a1, .int a2] M rr MM := by
  refine Met.ofW (cc := cX6_thought) (maxL := 3) (ret := (some .int)) (by decide) rfl ?_
  intro p e s m args below meth c s₁ B hml hv
  obtain ⟨rfl, hSx, hP⟩ := hv
  have hr := B.returns
  have hlocks := B.notSynchronized
  have X : CxG g p s m _ c cX6_thought 3 RX6 wsX6_thought := ⟨⟨B.exec, B.bytes, hml, findClass_of_methodNamed B.named, atoms_spec (ws := wsX6_thought) B.pre⟩, hSx, hA⟩
  have hS : va_S (AbG g) s.heap s.heap [] := va_S.rf
  have hl := lv_entry (([.ref (ga g 145), .int a1, .int a2] : List Value)) (n := 3) (Nat.le_of_ble_eq_true rfl)
  rw [lg_entry_eq]
  generalize (lg_sl (([.ref (ga g 145), .int a1, .int a2] : List Value)) ++ List.replicate (3 - (lg_sl (([.ref (ga g 145), .int a1, .int a2] : List Value))).length) Slot.unset).toArray = ls at hl ⊢
  have hl : lv_has ls 3 [(0, .ref (ga g 145)), (1, .int a1), (2, .int a2)] := hl
  obtain ⟨⟨hx, hb, hml, hown, hts⟩, -, -⟩ := id X
  unfold m_X6_thought at hm
  refine lv_aload_n hx hb dX6_thought_0 rfl (lv_at hl 0 rfl) ?_
  refine lv_iconst (v := 0) hx hb dX6_thought_1 (by decide) ?_
  obtain ⟨M_1, hM_2, hm⟩ := bnd_elim hm
  refine x_put X hP hS (okc_145 hAll) (j := 0) hM_2 (C := RX6) (T := TX6) (N := 55) rfl uX6_thought_X6 tyX6_ok nmX6 (by decide) rfl mbX6_thought_1 rfl (ty := .int) (by decide +kernel) rfl rfl dX6_thought_2 (fun H locs hP hS => ?_)
  refine lv_aload_n hx hb dX6_thought_5 rfl (lv_at hl 0 rfl) ?_
  refine lv_iload_n hx hb dX6_thought_6 rfl (lv_at hl 1 rfl) ?_
  refine lv_iconst (v := 1) hx hb dX6_thought_7 (by decide) ?_
  refine lv_bipush (v := 60) hx hb dX6_thought_8 (by decide) ?_
  obtain ⟨r_4, hc_3, hm⟩ := bind_elim hm
  refine x_calli (x_runV (As := [.int a1, .int 1, .int 60]) (rest := []) X hP hS (c_X6_isIn l X.2.2 hc_3) (cwV 3 hts gX6_thought_X6_isIn rfl rfl rfl (by decide +kernel) ⟨Nat.le_of_ble_eq_true rfl, Nat.le_of_ble_eq_true rfl⟩) (x_recv (C := RX6) (T := TX6) (N := 55) X hP (okc_145 hAll) rfl) rfl hl.1 rfl (Nat.le_of_ble_eq_true rfl) dX6_thought_10 ⟨Nat.zero_le _, Nat.zero_le _⟩) hS (fun H locs hP hS => ?_)
  refine lv_if_eq (tgt := 42) hx hb dX6_thought_13 (by decide) (fun h_5 => ?_) (fun h_5 => ?_)
  · rw [if_pos h_5] at hm
    refine lv_ldcw (v := (-100000000)) hx hb hown (hts _ mbX6_thought_2) dX6_thought_42 ?_
    cases hm
    exact x_iret X hP hS hr hlocks dX6_thought_45
  · rw [if_neg h_5] at hm
    refine lv_aload_n hx hb dX6_thought_16 rfl (lv_at hl 0 rfl) ?_
    refine lv_iload_n hx hb dX6_thought_17 rfl (lv_at hl 2 rfl) ?_
    refine lv_iconst (v := 0) hx hb dX6_thought_18 (by decide) ?_
    refine lv_iconst (v := 3) hx hb dX6_thought_19 (by decide) ?_
    obtain ⟨r_7, hc_6, hm⟩ := bind_elim hm
    refine x_calli (x_runV (As := [.int a2, .int 0, .int 3]) (rest := []) X hP hS (c_X6_isIn l X.2.2 hc_6) (cwV 3 hts gX6_thought_X6_isIn rfl rfl rfl (by decide +kernel) ⟨Nat.le_of_ble_eq_true rfl, Nat.le_of_ble_eq_true rfl⟩) (x_recv (C := RX6) (T := TX6) (N := 55) X hP (okc_145 hAll) rfl) rfl hl.1 rfl (Nat.le_of_ble_eq_true rfl) dX6_thought_20 ⟨Nat.zero_le _, Nat.zero_le _⟩) hS (fun H locs hP hS => ?_)
    refine lv_if_eq (tgt := 42) hx hb dX6_thought_23 (by decide) (fun h_8 => ?_) (fun h_8 => ?_)
    · rw [if_pos h_8] at hm
      refine lv_ldcw (v := (-100000000)) hx hb hown (hts _ mbX6_thought_2) dX6_thought_42 ?_
      cases hm
      exact x_iret X hP hS hr hlocks dX6_thought_45
    · rw [if_neg h_8] at hm
      refine lv_aload_n hx hb dX6_thought_26 rfl (lv_at hl 0 rfl) ?_
      refine lv_iload_n hx hb dX6_thought_27 rfl (lv_at hl 1 rfl) ?_
      refine lv_aload_n hx hb dX6_thought_28 rfl (lv_at hl 0 rfl) ?_
      refine x_getR X hP (okc_145 hAll) (j := 18) (C := RX6) (T := TX6) (N := 55) rfl uX6_thought_X6 (by decide) rfl mbX6_thought_3 dX6_thought_29 ?_
      refine lv_bipush (v := 9) hx hb dX6_thought_32 (by decide) ?_
      refine x_iald X hP (okc_159 hAll) (show inb 9 10 = true from rfl) dX6_thought_34 ?_
      refine lv_iload_n hx hb dX6_thought_35 rfl (lv_at hl 2 rfl) ?_
      obtain ⟨⟨r_10, M_11⟩, hc_9, hm⟩ := bind_elim hm
      replace hm := un2_e hm
      refine x_calli (x_runV (As := [.int a1, .int (rd M_1 159 (ix 9)), .int a2]) (rest := []) X hP hS (c_X6_thinks l X.2.2 hAll hc_9) (cwV 3 hts gX6_thought_X6_thinks rfl rfl rfl (by decide +kernel) ⟨Nat.le_of_ble_eq_true rfl, Nat.le_of_ble_eq_true rfl⟩) (x_recv (C := RX6) (T := TX6) (N := 55) X hP (okc_145 hAll) rfl) rfl hl.1 rfl (Nat.le_of_ble_eq_true rfl) dX6_thought_36 ⟨Nat.zero_le _, Nat.zero_le _⟩) hS (fun H locs hP hS => ?_)
      refine lv_goto (tgt := 45) hx hb dX6_thought_39 (by decide) ?_
      cases hm
      exact x_iret X hP hS hr hlocks dX6_thought_45


/-! X6_keptText -/
def rmX6_keptText : Room := { frames := 0, cells := 0, slots := 0, locals := 0 }
theorem uX6_keptText_X6 : ∀ w ∈ wsX60, w ∈ wsX6_keptText := by decide +kernel
theorem mbX6_keptText_1 : Cond.fieldLink RX6 370 "FootANightModel" "textAt" "I" ∈ wsX6_keptText := by decide +kernel
theorem mbX6_keptText_2 : Cond.fieldLink RX6 347 "FootANightModel" "isPutting" "Z" ∈ wsX6_keptText := by decide +kernel
theorem mbX6_keptText_3 : Cond.fieldLink RX6 118 "FootANightModel" "imageTexts" "[I" ∈ wsX6_keptText := by decide +kernel
set_option maxHeartbeats 4000000 in
set_option maxRecDepth 100000 in
theorem c_X6_keptText (l : Launch) {g : GT} (hA : AxG g) (hAll : okAll g)   {M : Mem} {a1 : Int32} {rr : Int32} {MM : Mem} (hm : m_X6_keptText M a1 = some (rr, MM)) : CI l yX6_keptText wsX6_keptText rmX6_keptText g [.ref (ga g 145), .int a1] M rr MM := by
  refine Met.ofW (cc := cX6_keptText) (maxL := 2) (ret := (some .int)) (by decide) rfl ?_
  intro p e s m args below meth c s₁ B hml hv
  obtain ⟨rfl, hSx, hP⟩ := hv
  have hr := B.returns
  have hlocks := B.notSynchronized
  have X : CxG g p s m _ c cX6_keptText 2 RX6 wsX6_keptText := ⟨⟨B.exec, B.bytes, hml, findClass_of_methodNamed B.named, atoms_spec (ws := wsX6_keptText) B.pre⟩, hSx, hA⟩
  have hS : va_S (AbG g) s.heap s.heap [] := va_S.rf
  have hl := lv_entry (([.ref (ga g 145), .int a1] : List Value)) (n := 2) (Nat.le_of_ble_eq_true rfl)
  rw [lg_entry_eq]
  generalize (lg_sl (([.ref (ga g 145), .int a1] : List Value)) ++ List.replicate (2 - (lg_sl (([.ref (ga g 145), .int a1] : List Value))).length) Slot.unset).toArray = ls at hl ⊢
  have hl : lv_has ls 2 [(0, .ref (ga g 145)), (1, .int a1)] := hl
  obtain ⟨⟨hx, hb, hml, hown, hts⟩, -, -⟩ := id X
  unfold m_X6_keptText at hm
  refine lv_aload_n hx hb dX6_keptText_0 rfl (lv_at hl 0 rfl) ?_
  refine lv_aload_n hx hb dX6_keptText_1 rfl (lv_at hl 0 rfl) ?_
  refine x_getI X hP (okc_145 hAll) (j := 54) (C := RX6) (T := TX6) (N := 55) rfl uX6_keptText_X6 (by decide) rfl mbX6_keptText_1 dX6_keptText_2 ?_
  refine lv_iconst (v := 1) hx hb dX6_keptText_5 (by decide) ?_
  refine lv_iadd hx hb dX6_keptText_6 ?_
  obtain ⟨M_1, hM_2, hm⟩ := bnd_elim hm
  refine x_put X hP hS (okc_145 hAll) (j := 54) hM_2 (C := RX6) (T := TX6) (N := 55) rfl uX6_keptText_X6 tyX6_ok nmX6 (by decide) rfl mbX6_keptText_1 rfl (ty := .int) (by decide +kernel) rfl rfl dX6_keptText_7 (fun H locs hP hS => ?_)
  refine lv_aload_n hx hb dX6_keptText_10 rfl (lv_at hl 0 rfl) ?_
  refine x_getI X hP (okc_145 hAll) (j := 48) (C := RX6) (T := TX6) (N := 55) rfl uX6_keptText_X6 (by decide) rfl mbX6_keptText_2 dX6_keptText_11 ?_
  refine lv_if_ne (tgt := 29) hx hb dX6_keptText_14 (by decide) (fun h_3 => ?_) (fun h_3 => ?_)
  · rw [if_neg h_3] at hm
    refine lv_aload_n hx hb dX6_keptText_29 rfl (lv_at hl 0 rfl) ?_
    refine x_getR X hP (okc_145 hAll) (j := 53) (C := RX6) (T := TX6) (N := 55) rfl uX6_keptText_X6 (by decide) rfl mbX6_keptText_3 dX6_keptText_30 ?_
    refine lv_aload_n hx hb dX6_keptText_33 rfl (lv_at hl 0 rfl) ?_
    refine x_getI X hP (okc_145 hAll) (j := 54) (C := RX6) (T := TX6) (N := 55) rfl uX6_keptText_X6 (by decide) rfl mbX6_keptText_1 dX6_keptText_34 ?_
    refine lv_iconst (v := 1) hx hb dX6_keptText_37 (by decide) ?_
    refine lv_isub hx hb dX6_keptText_38 ?_
    refine lv_iload_n hx hb dX6_keptText_39 rfl (lv_at hl 1 rfl) ?_
    obtain ⟨hb_4, hm⟩ := chk_elim hm
    obtain ⟨M_5, hM_6, hm⟩ := bnd_elim hm
    refine x_iast X hP hS (okc_179 hAll) hM_6 hb_4 dX6_keptText_40 (fun H locs hP hS => ?_)
    refine lv_iload_n hx hb dX6_keptText_41 rfl (lv_at hl 1 rfl) ?_
    cases hm
    exact x_iret X hP hS hr hlocks dX6_keptText_42
  · rw [if_pos h_3] at hm
    refine lv_aload_n hx hb dX6_keptText_17 rfl (lv_at hl 0 rfl) ?_
    refine x_getR X hP (okc_145 hAll) (j := 53) (C := RX6) (T := TX6) (N := 55) rfl uX6_keptText_X6 (by decide) rfl mbX6_keptText_3 dX6_keptText_18 ?_
    refine lv_aload_n hx hb dX6_keptText_21 rfl (lv_at hl 0 rfl) ?_
    refine x_getI X hP (okc_145 hAll) (j := 54) (C := RX6) (T := TX6) (N := 55) rfl uX6_keptText_X6 (by decide) rfl mbX6_keptText_1 dX6_keptText_22 ?_
    refine lv_iconst (v := 1) hx hb dX6_keptText_25 (by decide) ?_
    refine lv_isub hx hb dX6_keptText_26 ?_
    obtain ⟨hb_7, hm⟩ := chk_elim hm
    refine x_iald X hP (okc_179 hAll) hb_7 dX6_keptText_27 ?_
    cases hm
    exact x_iret X hP hS hr hlocks dX6_keptText_28


/-! X6_image -/
def rmX6_image : Room := { frames := 2, cells := 0, slots := 0, locals := 43 }
theorem uX6_image_X6 : ∀ w ∈ wsX60, w ∈ wsX6_image := by decide +kernel
theorem mbX6_image_1 : Cond.fieldLink RX6 121 "FootANightModel" "told" "I" ∈ wsX6_image := by decide +kernel
theorem mbX6_image_2 : Cond.fieldLink RX6 373 "FootANightModel" "hasImage" "Z" ∈ wsX6_image := by decide +kernel
theorem mbX6_image_3 : Cond.fieldLink RX6 370 "FootANightModel" "textAt" "I" ∈ wsX6_image := by decide +kernel
theorem mbX6_image_4 : Cond.fieldLink RX6 62 "FootANightModel" "lineMany" "[I" ∈ wsX6_image := by decide +kernel
theorem mbX6_image_5 : Cond.fieldLink RX6 65 "FootANightModel" "lineDoing" "[I" ∈ wsX6_image := by decide +kernel
theorem mbX6_image_6 : Cond.fieldLink RX6 68 "FootANightModel" "lineFrom" "[I" ∈ wsX6_image := by decide +kernel
theorem mbX6_image_7 : Cond.fieldLink RX6 71 "FootANightModel" "lineTo" "[I" ∈ wsX6_image := by decide +kernel
theorem mbX6_image_8 : Cond.fieldLink RX6 74 "FootANightModel" "op" "[I" ∈ wsX6_image := by decide +kernel
theorem mbX6_image_9 : Cond.fieldLink RX6 77 "FootANightModel" "arg" "[I" ∈ wsX6_image := by decide +kernel
theorem mbX6_image_10 : Cond.fieldLink RX6 115 "FootANightModel" "images" "[I" ∈ wsX6_image := by decide +kernel
theorem mbX6_image_11 : Cond.fieldLink RX6 112 "FootANightModel" "aside" "[I" ∈ wsX6_image := by decide +kernel
set_option maxHeartbeats 4000000 in
set_option maxRecDepth 100000 in
theorem wl_X6_image_97 (X : CxG g p s m args c cX6_image 3 RX6 wsX6_image) (hAll : okAll g) {fu : Nat} {x : Mem} (kx0 : ∀ (M2 : Mem) , x = M2 → ∀ (H : Heap) (locs : List Loc) (ls : Array Slot), va_P (gD g) vwCl (wlG g M2) H → va_S (AbG g) s.heap H locs → lv_has ls 3 [(0, .ref (ga g 145))] → W p l e (headSpec wsX6_image rmX6_image).room s m args below meth c H locs 0 0 Q (F0 m 124 ls [])) {n : Nat} {q0 : Int32 × Mem} (h : lp (b_X6_image_97 fu) n q0 = some x) : ∀ (H : Heap) (locs : List Loc) (ls : Array Slot), va_P (gD g) vwCl (wlG g q0.2) H → va_S (AbG g) s.heap H locs → lv_has ls 3 [(0, .ref (ga g 145)), (2, .int q0.1)] → W p l e (headSpec wsX6_image rmX6_image).room s m args below meth c H locs 0 0 Q (F0 m 97 ls []) := by
  refine lp_elim (P := fun q0 : Int32 × Mem => ∀ (H : Heap) (locs : List Loc) (ls : Array Slot), va_P (gD g) vwCl (wlG g q0.2) H → va_S (AbG g) s.heap H locs → lv_has ls 3 [(0, .ref (ga g 145)), (2, .int q0.1)] → W p l e (headSpec wsX6_image rmX6_image).room s m args below meth c H locs 0 0 Q (F0 m 97 ls [])) (fun q1 o hm hI hX => ?_) n q0 h
  obtain ⟨c2, M⟩ := q1
  have kb : ∀ (d2 : Int32) (M2 : Mem) , o = .inl (d2, M2) → ∀ (H : Heap) (locs : List Loc) (ls : Array Slot), va_P (gD g) vwCl (wlG g M2) H → va_S (AbG g) s.heap H locs → lv_has ls 3 [(0, .ref (ga g 145)), (2, .int d2)] → W p l e (headSpec wsX6_image rmX6_image).room s m args below meth c H locs 0 0 Q (F0 m 97 ls []) := fun d2 M2 e => hI _ e
  have kx0 : ∀ (M2 : Mem) , o = .inr M2 → ∀ (H : Heap) (locs : List Loc) (ls : Array Slot), va_P (gD g) vwCl (wlG g M2) H → va_S (AbG g) s.heap H locs → lv_has ls 3 [(0, .ref (ga g 145))] → W p l e (headSpec wsX6_image rmX6_image).room s m args below meth c H locs 0 0 Q (F0 m 124 ls []) := fun M2 e => kx0 M2 (hX _ e).symm
  clear hI hX
  intro H locs ls hP hS hl
  obtain ⟨⟨hx, hb, hml, hown, hts⟩, -, -⟩ := id X
  have hl : lv_has ls 3 [(0, .ref (ga g 145)), (2, .int c2)] := hl
  have hP : va_P (gD g) vwCl (wlG g M) H := hP
  unfold b_X6_image_97 at hm
  replace hm := un2_e hm
  refine lv_iload_n hx hb dX6_image_97 rfl (lv_at hl 1 rfl) ?_
  refine lv_iconst (v := 4) hx hb dX6_image_98 (by decide) ?_
  refine lv_icmp_ge (tgt := 124) hx hb dX6_image_99 (by decide) (fun h_12 => ?_) (fun h_12 => ?_)
  · rw [if_pos h_12] at hm
    exact kx0 M (Option.some.inj hm).symm _ _ _ hP hS (lv_sub hl [0] rfl)
  · rw [if_neg h_12] at hm
    refine lv_aload_n hx hb dX6_image_102 rfl (lv_at hl 0 rfl) ?_
    refine x_getR X hP (okc_145 hAll) (j := 26) (C := RX6) (T := TX6) (N := 55) rfl uX6_image_X6 (by decide) rfl mbX6_image_4 dX6_image_103 ?_
    refine lv_iload_n hx hb dX6_image_106 rfl (lv_at hl 1 rfl) ?_
    refine lv_aload_n hx hb dX6_image_107 rfl (lv_at hl 0 rfl) ?_
    refine lv_aload_n hx hb dX6_image_108 rfl (lv_at hl 0 rfl) ?_
    refine x_getR X hP (okc_145 hAll) (j := 26) (C := RX6) (T := TX6) (N := 55) rfl uX6_image_X6 (by decide) rfl mbX6_image_4 dX6_image_109 ?_
    refine lv_iload_n hx hb dX6_image_112 rfl (lv_at hl 1 rfl) ?_
    obtain ⟨hb_13, hm⟩ := chk_elim hm
    refine x_iald X hP (okc_162 hAll) hb_13 dX6_image_113 ?_
    obtain ⟨⟨r_15, M_16⟩, hc_14, hm⟩ := bind_elim hm
    replace hm := un2_e hm
    refine x_calli (x_runV (As := [.int (rd M 162 (ix c2))]) (rest := [.int c2, .ref (ga g 162)]) X hP hS (c_X6_keptText l X.2.2 hAll hc_14) (cwV 1 hts gX6_image_X6_keptText rfl rfl rfl (by decide +kernel) ⟨Nat.le_of_ble_eq_true rfl, Nat.le_of_ble_eq_true rfl⟩) (x_recv (C := RX6) (T := TX6) (N := 55) X hP (okc_145 hAll) rfl) rfl hl.1 rfl (Nat.le_of_ble_eq_true rfl) dX6_image_114 ⟨Nat.zero_le _, Nat.zero_le _⟩) hS (fun H locs hP hS => ?_)
    obtain ⟨M_17, hM_18, hm⟩ := bnd_elim hm
    refine x_iast X hP hS (okc_162 hAll) hM_18 hb_13 dX6_image_117 (fun H locs hP hS => ?_)
    obtain ⟨v_19, hv_20, hm⟩ := bnd_elim hm
    refine lv_iinc (v := v_19) (lv' := [(2, .int v_19), (0, .ref (ga g 145))]) hx hb dX6_image_118 hl (k := 1) rfl (by rw [hv_20]; rfl) (by decide) rfl (fun ls hl => ?_)
    refine lv_goto (tgt := 97) hx hb dX6_image_121 (by decide) ?_
    exact kb v_19 M_17 (Option.some.inj hm).symm _ _ _ hP hS (lv_sub hl [1, 0] rfl)

set_option maxHeartbeats 4000000 in
set_option maxRecDepth 100000 in
theorem wl_X6_image_126 (X : CxG g p s m args c cX6_image 3 RX6 wsX6_image) (hAll : okAll g) {fu : Nat} {x : Mem} (kx0 : ∀ (M2 : Mem) , x = M2 → ∀ (H : Heap) (locs : List Loc) (ls : Array Slot), va_P (gD g) vwCl (wlG g M2) H → va_S (AbG g) s.heap H locs → lv_has ls 3 [(0, .ref (ga g 145))] → W p l e (headSpec wsX6_image rmX6_image).room s m args below meth c H locs 0 0 Q (F0 m 186 ls [])) {n : Nat} {q0 : Int32 × Mem} (h : lp (b_X6_image_126 fu) n q0 = some x) : ∀ (H : Heap) (locs : List Loc) (ls : Array Slot), va_P (gD g) vwCl (wlG g q0.2) H → va_S (AbG g) s.heap H locs → lv_has ls 3 [(0, .ref (ga g 145)), (2, .int q0.1)] → W p l e (headSpec wsX6_image rmX6_image).room s m args below meth c H locs 0 0 Q (F0 m 126 ls []) := by
  refine lp_elim (P := fun q0 : Int32 × Mem => ∀ (H : Heap) (locs : List Loc) (ls : Array Slot), va_P (gD g) vwCl (wlG g q0.2) H → va_S (AbG g) s.heap H locs → lv_has ls 3 [(0, .ref (ga g 145)), (2, .int q0.1)] → W p l e (headSpec wsX6_image rmX6_image).room s m args below meth c H locs 0 0 Q (F0 m 126 ls [])) (fun q1 o hm hI hX => ?_) n q0 h
  obtain ⟨c2, M⟩ := q1
  have kb : ∀ (d2 : Int32) (M2 : Mem) , o = .inl (d2, M2) → ∀ (H : Heap) (locs : List Loc) (ls : Array Slot), va_P (gD g) vwCl (wlG g M2) H → va_S (AbG g) s.heap H locs → lv_has ls 3 [(0, .ref (ga g 145)), (2, .int d2)] → W p l e (headSpec wsX6_image rmX6_image).room s m args below meth c H locs 0 0 Q (F0 m 126 ls []) := fun d2 M2 e => hI _ e
  have kx0 : ∀ (M2 : Mem) , o = .inr M2 → ∀ (H : Heap) (locs : List Loc) (ls : Array Slot), va_P (gD g) vwCl (wlG g M2) H → va_S (AbG g) s.heap H locs → lv_has ls 3 [(0, .ref (ga g 145))] → W p l e (headSpec wsX6_image rmX6_image).room s m args below meth c H locs 0 0 Q (F0 m 186 ls []) := fun M2 e => kx0 M2 (hX _ e).symm
  clear hI hX
  intro H locs ls hP hS hl
  obtain ⟨⟨hx, hb, hml, hown, hts⟩, -, -⟩ := id X
  have hl : lv_has ls 3 [(0, .ref (ga g 145)), (2, .int c2)] := hl
  have hP : va_P (gD g) vwCl (wlG g M) H := hP
  unfold b_X6_image_126 at hm
  replace hm := un2_e hm
  refine lv_iload_n hx hb dX6_image_126 rfl (lv_at hl 1 rfl) ?_
  refine lv_bipush (v := 64) hx hb dX6_image_127 (by decide) ?_
  refine lv_icmp_ge (tgt := 186) hx hb dX6_image_129 (by decide) (fun h_24 => ?_) (fun h_24 => ?_)
  · rw [if_pos h_24] at hm
    exact kx0 M (Option.some.inj hm).symm _ _ _ hP hS (lv_sub hl [0] rfl)
  · rw [if_neg h_24] at hm
    refine lv_aload_n hx hb dX6_image_132 rfl (lv_at hl 0 rfl) ?_
    refine x_getR X hP (okc_145 hAll) (j := 27) (C := RX6) (T := TX6) (N := 55) rfl uX6_image_X6 (by decide) rfl mbX6_image_5 dX6_image_133 ?_
    refine lv_iload_n hx hb dX6_image_136 rfl (lv_at hl 1 rfl) ?_
    refine lv_aload_n hx hb dX6_image_137 rfl (lv_at hl 0 rfl) ?_
    refine lv_aload_n hx hb dX6_image_138 rfl (lv_at hl 0 rfl) ?_
    refine x_getR X hP (okc_145 hAll) (j := 27) (C := RX6) (T := TX6) (N := 55) rfl uX6_image_X6 (by decide) rfl mbX6_image_5 dX6_image_139 ?_
    refine lv_iload_n hx hb dX6_image_142 rfl (lv_at hl 1 rfl) ?_
    obtain ⟨hb_25, hm⟩ := chk_elim hm
    refine x_iald X hP (okc_163 hAll) hb_25 dX6_image_143 ?_
    obtain ⟨⟨r_27, M_28⟩, hc_26, hm⟩ := bind_elim hm
    replace hm := un2_e hm
    refine x_calli (x_runV (As := [.int (rd M 163 (ix c2))]) (rest := [.int c2, .ref (ga g 163)]) X hP hS (c_X6_keptText l X.2.2 hAll hc_26) (cwV 1 hts gX6_image_X6_keptText rfl rfl rfl (by decide +kernel) ⟨Nat.le_of_ble_eq_true rfl, Nat.le_of_ble_eq_true rfl⟩) (x_recv (C := RX6) (T := TX6) (N := 55) X hP (okc_145 hAll) rfl) rfl hl.1 rfl (Nat.le_of_ble_eq_true rfl) dX6_image_144 ⟨Nat.zero_le _, Nat.zero_le _⟩) hS (fun H locs hP hS => ?_)
    obtain ⟨M_29, hM_30, hm⟩ := bnd_elim hm
    refine x_iast X hP hS (okc_163 hAll) hM_30 hb_25 dX6_image_147 (fun H locs hP hS => ?_)
    refine lv_aload_n hx hb dX6_image_148 rfl (lv_at hl 0 rfl) ?_
    refine x_getR X hP (okc_145 hAll) (j := 28) (C := RX6) (T := TX6) (N := 55) rfl uX6_image_X6 (by decide) rfl mbX6_image_6 dX6_image_149 ?_
    refine lv_iload_n hx hb dX6_image_152 rfl (lv_at hl 1 rfl) ?_
    refine lv_aload_n hx hb dX6_image_153 rfl (lv_at hl 0 rfl) ?_
    refine lv_aload_n hx hb dX6_image_154 rfl (lv_at hl 0 rfl) ?_
    refine x_getR X hP (okc_145 hAll) (j := 28) (C := RX6) (T := TX6) (N := 55) rfl uX6_image_X6 (by decide) rfl mbX6_image_6 dX6_image_155 ?_
    refine lv_iload_n hx hb dX6_image_158 rfl (lv_at hl 1 rfl) ?_
    refine x_iald X hP (okc_164 hAll) hb_25 dX6_image_159 ?_
    obtain ⟨⟨r_32, M_33⟩, hc_31, hm⟩ := bind_elim hm
    replace hm := un2_e hm
    refine x_calli (x_runV (As := [.int (rd M_29 164 (ix c2))]) (rest := [.int c2, .ref (ga g 164)]) X hP hS (c_X6_keptText l X.2.2 hAll hc_31) (cwV 1 hts gX6_image_X6_keptText rfl rfl rfl (by decide +kernel) ⟨Nat.le_of_ble_eq_true rfl, Nat.le_of_ble_eq_true rfl⟩) (x_recv (C := RX6) (T := TX6) (N := 55) X hP (okc_145 hAll) rfl) rfl hl.1 rfl (Nat.le_of_ble_eq_true rfl) dX6_image_160 ⟨Nat.zero_le _, Nat.zero_le _⟩) hS (fun H locs hP hS => ?_)
    obtain ⟨M_34, hM_35, hm⟩ := bnd_elim hm
    refine x_iast X hP hS (okc_164 hAll) hM_35 hb_25 dX6_image_163 (fun H locs hP hS => ?_)
    refine lv_aload_n hx hb dX6_image_164 rfl (lv_at hl 0 rfl) ?_
    refine x_getR X hP (okc_145 hAll) (j := 29) (C := RX6) (T := TX6) (N := 55) rfl uX6_image_X6 (by decide) rfl mbX6_image_7 dX6_image_165 ?_
    refine lv_iload_n hx hb dX6_image_168 rfl (lv_at hl 1 rfl) ?_
    refine lv_aload_n hx hb dX6_image_169 rfl (lv_at hl 0 rfl) ?_
    refine lv_aload_n hx hb dX6_image_170 rfl (lv_at hl 0 rfl) ?_
    refine x_getR X hP (okc_145 hAll) (j := 29) (C := RX6) (T := TX6) (N := 55) rfl uX6_image_X6 (by decide) rfl mbX6_image_7 dX6_image_171 ?_
    refine lv_iload_n hx hb dX6_image_174 rfl (lv_at hl 1 rfl) ?_
    refine x_iald X hP (okc_165 hAll) hb_25 dX6_image_175 ?_
    obtain ⟨⟨r_37, M_38⟩, hc_36, hm⟩ := bind_elim hm
    replace hm := un2_e hm
    refine x_calli (x_runV (As := [.int (rd M_34 165 (ix c2))]) (rest := [.int c2, .ref (ga g 165)]) X hP hS (c_X6_keptText l X.2.2 hAll hc_36) (cwV 1 hts gX6_image_X6_keptText rfl rfl rfl (by decide +kernel) ⟨Nat.le_of_ble_eq_true rfl, Nat.le_of_ble_eq_true rfl⟩) (x_recv (C := RX6) (T := TX6) (N := 55) X hP (okc_145 hAll) rfl) rfl hl.1 rfl (Nat.le_of_ble_eq_true rfl) dX6_image_176 ⟨Nat.zero_le _, Nat.zero_le _⟩) hS (fun H locs hP hS => ?_)
    obtain ⟨M_39, hM_40, hm⟩ := bnd_elim hm
    refine x_iast X hP hS (okc_165 hAll) hM_40 hb_25 dX6_image_179 (fun H locs hP hS => ?_)
    obtain ⟨v_41, hv_42, hm⟩ := bnd_elim hm
    refine lv_iinc (v := v_41) (lv' := [(2, .int v_41), (0, .ref (ga g 145))]) hx hb dX6_image_180 hl (k := 1) rfl (by rw [hv_42]; rfl) (by decide) rfl (fun ls hl => ?_)
    refine lv_goto (tgt := 126) hx hb dX6_image_183 (by decide) ?_
    exact kb v_41 M_39 (Option.some.inj hm).symm _ _ _ hP hS (lv_sub hl [1, 0] rfl)

set_option maxHeartbeats 4000000 in
set_option maxRecDepth 100000 in
theorem wl_X6_image_188 (X : CxG g p s m args c cX6_image 3 RX6 wsX6_image) (hAll : okAll g) {fu : Nat} {x : Mem} (kx0 : ∀ (M2 : Mem) , x = M2 → ∀ (H : Heap) (locs : List Loc) (ls : Array Slot), va_P (gD g) vwCl (wlG g M2) H → va_S (AbG g) s.heap H locs → lv_has ls 3 [] → W p l e (headSpec wsX6_image rmX6_image).room s m args below meth c H locs 0 0 Q (F0 m 233 ls [])) {n : Nat} {q0 : Int32 × Mem} (h : lp (b_X6_image_188 fu) n q0 = some x) : ∀ (H : Heap) (locs : List Loc) (ls : Array Slot), va_P (gD g) vwCl (wlG g q0.2) H → va_S (AbG g) s.heap H locs → lv_has ls 3 [(0, .ref (ga g 145)), (2, .int q0.1)] → W p l e (headSpec wsX6_image rmX6_image).room s m args below meth c H locs 0 0 Q (F0 m 188 ls []) := by
  refine lp_elim (P := fun q0 : Int32 × Mem => ∀ (H : Heap) (locs : List Loc) (ls : Array Slot), va_P (gD g) vwCl (wlG g q0.2) H → va_S (AbG g) s.heap H locs → lv_has ls 3 [(0, .ref (ga g 145)), (2, .int q0.1)] → W p l e (headSpec wsX6_image rmX6_image).room s m args below meth c H locs 0 0 Q (F0 m 188 ls [])) (fun q1 o hm hI hX => ?_) n q0 h
  obtain ⟨c2, M⟩ := q1
  have kb : ∀ (d2 : Int32) (M2 : Mem) , o = .inl (d2, M2) → ∀ (H : Heap) (locs : List Loc) (ls : Array Slot), va_P (gD g) vwCl (wlG g M2) H → va_S (AbG g) s.heap H locs → lv_has ls 3 [(0, .ref (ga g 145)), (2, .int d2)] → W p l e (headSpec wsX6_image rmX6_image).room s m args below meth c H locs 0 0 Q (F0 m 188 ls []) := fun d2 M2 e => hI _ e
  have kx0 : ∀ (M2 : Mem) , o = .inr M2 → ∀ (H : Heap) (locs : List Loc) (ls : Array Slot), va_P (gD g) vwCl (wlG g M2) H → va_S (AbG g) s.heap H locs → lv_has ls 3 [] → W p l e (headSpec wsX6_image rmX6_image).room s m args below meth c H locs 0 0 Q (F0 m 233 ls []) := fun M2 e => kx0 M2 (hX _ e).symm
  clear hI hX
  intro H locs ls hP hS hl
  obtain ⟨⟨hx, hb, hml, hown, hts⟩, -, -⟩ := id X
  have hl : lv_has ls 3 [(0, .ref (ga g 145)), (2, .int c2)] := hl
  have hP : va_P (gD g) vwCl (wlG g M) H := hP
  unfold b_X6_image_188 at hm
  replace hm := un2_e hm
  refine lv_iload_n hx hb dX6_image_188 rfl (lv_at hl 1 rfl) ?_
  refine lv_sipush (v := 1600) hx hb dX6_image_189 (by decide) ?_
  refine lv_icmp_ge (tgt := 233) hx hb dX6_image_192 (by decide) (fun h_46 => ?_) (fun h_46 => ?_)
  · rw [if_pos h_46] at hm
    exact kx0 M (Option.some.inj hm).symm _ _ _ hP hS (lv_sub hl [] rfl)
  · rw [if_neg h_46] at hm
    refine lv_aload_n hx hb dX6_image_195 rfl (lv_at hl 0 rfl) ?_
    refine x_getR X hP (okc_145 hAll) (j := 30) (C := RX6) (T := TX6) (N := 55) rfl uX6_image_X6 (by decide) rfl mbX6_image_8 dX6_image_196 ?_
    refine lv_iload_n hx hb dX6_image_199 rfl (lv_at hl 1 rfl) ?_
    refine lv_aload_n hx hb dX6_image_200 rfl (lv_at hl 0 rfl) ?_
    refine lv_aload_n hx hb dX6_image_201 rfl (lv_at hl 0 rfl) ?_
    refine x_getR X hP (okc_145 hAll) (j := 30) (C := RX6) (T := TX6) (N := 55) rfl uX6_image_X6 (by decide) rfl mbX6_image_8 dX6_image_202 ?_
    refine lv_iload_n hx hb dX6_image_205 rfl (lv_at hl 1 rfl) ?_
    obtain ⟨hb_47, hm⟩ := chk_elim hm
    refine x_iald X hP (okc_166 hAll) hb_47 dX6_image_206 ?_
    obtain ⟨⟨r_49, M_50⟩, hc_48, hm⟩ := bind_elim hm
    replace hm := un2_e hm
    refine x_calli (x_runV (As := [.int (rd M 166 (ix c2))]) (rest := [.int c2, .ref (ga g 166)]) X hP hS (c_X6_keptText l X.2.2 hAll hc_48) (cwV 1 hts gX6_image_X6_keptText rfl rfl rfl (by decide +kernel) ⟨Nat.le_of_ble_eq_true rfl, Nat.le_of_ble_eq_true rfl⟩) (x_recv (C := RX6) (T := TX6) (N := 55) X hP (okc_145 hAll) rfl) rfl hl.1 rfl (Nat.le_of_ble_eq_true rfl) dX6_image_207 ⟨Nat.zero_le _, Nat.zero_le _⟩) hS (fun H locs hP hS => ?_)
    obtain ⟨M_51, hM_52, hm⟩ := bnd_elim hm
    refine x_iast X hP hS (okc_166 hAll) hM_52 hb_47 dX6_image_210 (fun H locs hP hS => ?_)
    refine lv_aload_n hx hb dX6_image_211 rfl (lv_at hl 0 rfl) ?_
    refine x_getR X hP (okc_145 hAll) (j := 31) (C := RX6) (T := TX6) (N := 55) rfl uX6_image_X6 (by decide) rfl mbX6_image_9 dX6_image_212 ?_
    refine lv_iload_n hx hb dX6_image_215 rfl (lv_at hl 1 rfl) ?_
    refine lv_aload_n hx hb dX6_image_216 rfl (lv_at hl 0 rfl) ?_
    refine lv_aload_n hx hb dX6_image_217 rfl (lv_at hl 0 rfl) ?_
    refine x_getR X hP (okc_145 hAll) (j := 31) (C := RX6) (T := TX6) (N := 55) rfl uX6_image_X6 (by decide) rfl mbX6_image_9 dX6_image_218 ?_
    refine lv_iload_n hx hb dX6_image_221 rfl (lv_at hl 1 rfl) ?_
    refine x_iald X hP (okc_167 hAll) hb_47 dX6_image_222 ?_
    obtain ⟨⟨r_54, M_55⟩, hc_53, hm⟩ := bind_elim hm
    replace hm := un2_e hm
    refine x_calli (x_runV (As := [.int (rd M_51 167 (ix c2))]) (rest := [.int c2, .ref (ga g 167)]) X hP hS (c_X6_keptText l X.2.2 hAll hc_53) (cwV 1 hts gX6_image_X6_keptText rfl rfl rfl (by decide +kernel) ⟨Nat.le_of_ble_eq_true rfl, Nat.le_of_ble_eq_true rfl⟩) (x_recv (C := RX6) (T := TX6) (N := 55) X hP (okc_145 hAll) rfl) rfl hl.1 rfl (Nat.le_of_ble_eq_true rfl) dX6_image_223 ⟨Nat.zero_le _, Nat.zero_le _⟩) hS (fun H locs hP hS => ?_)
    obtain ⟨M_56, hM_57, hm⟩ := bnd_elim hm
    refine x_iast X hP hS (okc_167 hAll) hM_57 hb_47 dX6_image_226 (fun H locs hP hS => ?_)
    obtain ⟨v_58, hv_59, hm⟩ := bnd_elim hm
    refine lv_iinc (v := v_58) (lv' := [(2, .int v_58), (0, .ref (ga g 145))]) hx hb dX6_image_227 hl (k := 1) rfl (by rw [hv_59]; rfl) (by decide) rfl (fun ls hl => ?_)
    refine lv_goto (tgt := 188) hx hb dX6_image_230 (by decide) ?_
    exact kb v_58 M_56 (Option.some.inj hm).symm _ _ _ hP hS (lv_sub hl [1, 0] rfl)

set_option maxHeartbeats 4000000 in
set_option maxRecDepth 100000 in
theorem wj_X6_image_90 (X : CxG g p s m args c cX6_image 3 RX6 wsX6_image) (hAll : okAll g) {fu : Nat} {M : Mem} {rr : Int32} {MM : Mem} (hr : meth.sig.returnType = (some .boolean)) (hlocks : meth.locks = false) (hm : j_X6_image_90 fu M = some (rr, MM)) {H : Heap} {locs : List Loc} {ls : Array Slot} (hP : va_P (gD g) vwCl (wlG g M) H) (hS : va_S (AbG g) s.heap H locs) (hl : lv_has ls 3 [(0, .ref (ga g 145))]) : W p l e (headSpec wsX6_image rmX6_image).room s m args below meth c H locs 0 0 (MQ below (va_Qi (fun (q : Int32) (_ : Unit) => q = rr) (fun _ t => va_P (gD g) vwCl (wlG g MM) t.heap) (AbG g)) args s 0 0 (AbG g)) (F0 m 90 ls []) := by
  obtain ⟨⟨hx, hb, hml, hown, hts⟩, -, -⟩ := id X
  unfold j_X6_image_90 at hm
  refine lv_aload_n hx hb dX6_image_90 rfl (lv_at hl 0 rfl) ?_
  refine lv_iconst (v := 0) hx hb dX6_image_91 (by decide) ?_
  obtain ⟨M_10, hM_11, hm⟩ := bnd_elim hm
  refine x_put X hP hS (okc_145 hAll) (j := 54) hM_11 (C := RX6) (T := TX6) (N := 55) rfl uX6_image_X6 tyX6_ok nmX6 (by decide) rfl mbX6_image_3 rfl (ty := .int) (by decide +kernel) rfl rfl dX6_image_92 (fun H locs hP hS => ?_)
  refine lv_iconst (v := 0) hx hb dX6_image_95 (by decide) ?_
  refine lv_istore_n (lv' := [(2, .int 0), (0, .ref (ga g 145))]) hx hb dX6_image_96 rfl hl (by decide) rfl (fun ls hl => ?_)
  obtain ⟨M_23, hL_22, hm⟩ := bind_elim hm
  refine wl_X6_image_97 X hAll ?_ hL_22 _ _ _ hP hS (lv_sub hl [1, 0] rfl)
  · intro z_M_23 e_M_23 H locs ls hP hS hl
    subst e_M_23
    replace hm := un1_e hm
    refine lv_iconst (v := 0) hx hb dX6_image_124 (by decide) ?_
    refine lv_istore_n (lv' := [(2, .int 0), (0, .ref (ga g 145))]) hx hb dX6_image_125 rfl hl (by decide) rfl (fun ls hl => ?_)
    obtain ⟨M_45, hL_44, hm⟩ := bind_elim hm
    refine wl_X6_image_126 X hAll ?_ hL_44 _ _ _ hP hS (lv_sub hl [1, 0] rfl)
    · intro z_M_45 e_M_45 H locs ls hP hS hl
      subst e_M_45
      replace hm := un1_e hm
      refine lv_iconst (v := 0) hx hb dX6_image_186 (by decide) ?_
      refine lv_istore_n (lv' := [(2, .int 0), (0, .ref (ga g 145))]) hx hb dX6_image_187 rfl hl (by decide) rfl (fun ls hl => ?_)
      obtain ⟨M_62, hL_61, hm⟩ := bind_elim hm
      refine wl_X6_image_188 X hAll ?_ hL_61 _ _ _ hP hS (lv_sub hl [1, 0] rfl)
      · intro z_M_62 e_M_62 H locs ls hP hS hl
        subst e_M_62
        replace hm := un1_e hm
        refine lv_iconst (v := 1) hx hb dX6_image_233 (by decide) ?_
        cases hm
        exact x_zret X (by decide) hP hS hr hlocks dX6_image_234

set_option maxHeartbeats 4000000 in
set_option maxRecDepth 100000 in
theorem wl_X6_image_65 (X : CxG g p s m args c cX6_image 3 RX6 wsX6_image) (hAll : okAll g) {fu : Nat} {x : Mem} (kx0 : ∀ (M2 : Mem) , x = M2 → ∀ (H : Heap) (locs : List Loc) (ls : Array Slot), va_P (gD g) vwCl (wlG g M2) H → va_S (AbG g) s.heap H locs → lv_has ls 3 [(0, .ref (ga g 145))] → W p l e (headSpec wsX6_image rmX6_image).room s m args below meth c H locs 0 0 Q (F0 m 90 ls [])) {n : Nat} {q0 : Int32 × Mem} (h : lp (b_X6_image_65 fu) n q0 = some x) : ∀ (H : Heap) (locs : List Loc) (ls : Array Slot), va_P (gD g) vwCl (wlG g q0.2) H → va_S (AbG g) s.heap H locs → lv_has ls 3 [(0, .ref (ga g 145)), (2, .int q0.1)] → W p l e (headSpec wsX6_image rmX6_image).room s m args below meth c H locs 0 0 Q (F0 m 65 ls []) := by
  refine lp_elim (P := fun q0 : Int32 × Mem => ∀ (H : Heap) (locs : List Loc) (ls : Array Slot), va_P (gD g) vwCl (wlG g q0.2) H → va_S (AbG g) s.heap H locs → lv_has ls 3 [(0, .ref (ga g 145)), (2, .int q0.1)] → W p l e (headSpec wsX6_image rmX6_image).room s m args below meth c H locs 0 0 Q (F0 m 65 ls [])) (fun q1 o hm hI hX => ?_) n q0 h
  obtain ⟨c2, M⟩ := q1
  have kb : ∀ (d2 : Int32) (M2 : Mem) , o = .inl (d2, M2) → ∀ (H : Heap) (locs : List Loc) (ls : Array Slot), va_P (gD g) vwCl (wlG g M2) H → va_S (AbG g) s.heap H locs → lv_has ls 3 [(0, .ref (ga g 145)), (2, .int d2)] → W p l e (headSpec wsX6_image rmX6_image).room s m args below meth c H locs 0 0 Q (F0 m 65 ls []) := fun d2 M2 e => hI _ e
  have kx0 : ∀ (M2 : Mem) , o = .inr M2 → ∀ (H : Heap) (locs : List Loc) (ls : Array Slot), va_P (gD g) vwCl (wlG g M2) H → va_S (AbG g) s.heap H locs → lv_has ls 3 [(0, .ref (ga g 145))] → W p l e (headSpec wsX6_image rmX6_image).room s m args below meth c H locs 0 0 Q (F0 m 90 ls []) := fun M2 e => kx0 M2 (hX _ e).symm
  clear hI hX
  intro H locs ls hP hS hl
  obtain ⟨⟨hx, hb, hml, hown, hts⟩, -, -⟩ := id X
  have hl : lv_has ls 3 [(0, .ref (ga g 145)), (2, .int c2)] := hl
  have hP : va_P (gD g) vwCl (wlG g M) H := hP
  unfold b_X6_image_65 at hm
  replace hm := un2_e hm
  refine lv_iload_n hx hb dX6_image_65 rfl (lv_at hl 1 rfl) ?_
  refine lv_sipush (v := 160) hx hb dX6_image_66 (by decide) ?_
  refine lv_icmp_ge (tgt := 90) hx hb dX6_image_69 (by decide) (fun h_63 => ?_) (fun h_63 => ?_)
  · rw [if_pos h_63] at hm
    exact kx0 M (Option.some.inj hm).symm _ _ _ hP hS (lv_sub hl [0] rfl)
  · rw [if_neg h_63] at hm
    refine lv_aload_n hx hb dX6_image_72 rfl (lv_at hl 0 rfl) ?_
    refine x_getR X hP (okc_145 hAll) (j := 52) (C := RX6) (T := TX6) (N := 55) rfl uX6_image_X6 (by decide) rfl mbX6_image_10 dX6_image_73 ?_
    refine lv_iload_n hx hb dX6_image_76 rfl (lv_at hl 1 rfl) ?_
    refine lv_aload_n hx hb dX6_image_77 rfl (lv_at hl 0 rfl) ?_
    refine x_getR X hP (okc_145 hAll) (j := 50) (C := RX6) (T := TX6) (N := 55) rfl uX6_image_X6 (by decide) rfl mbX6_image_11 dX6_image_78 ?_
    refine lv_iload_n hx hb dX6_image_81 rfl (lv_at hl 1 rfl) ?_
    obtain ⟨hb_64, hm⟩ := chk_elim hm
    refine x_iald X hP (okc_177 hAll) hb_64 dX6_image_82 ?_
    obtain ⟨M_65, hM_66, hm⟩ := bnd_elim hm
    refine x_iast X hP hS (okc_178 hAll) hM_66 hb_64 dX6_image_83 (fun H locs hP hS => ?_)
    obtain ⟨v_67, hv_68, hm⟩ := bnd_elim hm
    refine lv_iinc (v := v_67) (lv' := [(2, .int v_67), (0, .ref (ga g 145))]) hx hb dX6_image_84 hl (k := 1) rfl (by rw [hv_68]; rfl) (by decide) rfl (fun ls hl => ?_)
    refine lv_goto (tgt := 65) hx hb dX6_image_87 (by decide) ?_
    exact kb v_67 M_65 (Option.some.inj hm).symm _ _ _ hP hS (lv_sub hl [1, 0] rfl)

set_option maxHeartbeats 4000000 in
set_option maxRecDepth 100000 in
theorem wj_X6_image_54 (X : CxG g p s m args c cX6_image 3 RX6 wsX6_image) (hAll : okAll g) {fu : Nat} {M : Mem} {s1 : Int32} {rr : Int32} {MM : Mem} (hr : meth.sig.returnType = (some .boolean)) (hlocks : meth.locks = false) (hm : j_X6_image_54 fu M s1 = some (rr, MM)) {H : Heap} {locs : List Loc} {ls : Array Slot} (hP : va_P (gD g) vwCl (wlG g M) H) (hS : va_S (AbG g) s.heap H locs) (hl : lv_has ls 3 [(0, .ref (ga g 145)), (1, .int s1)]) : W p l e (headSpec wsX6_image rmX6_image).room s m args below meth c H locs 0 0 (MQ below (va_Qi (fun (q : Int32) (_ : Unit) => q = rr) (fun _ t => va_P (gD g) vwCl (wlG g MM) t.heap) (AbG g)) args s 0 0 (AbG g)) (F0 m 54 ls []) := by
  obtain ⟨⟨hx, hb, hml, hown, hts⟩, -, -⟩ := id X
  unfold j_X6_image_54 at hm
  refine lv_aload_n hx hb dX6_image_54 rfl (lv_at hl 0 rfl) ?_
  refine lv_iload_n hx hb dX6_image_55 rfl (lv_at hl 1 rfl) ?_
  obtain ⟨M_8, hc_7, hm⟩ := bind_elim hm
  refine x_callv (x_runV (As := [.int s1]) (rest := []) X hP hS (c_X6_asides l X.2.2 hAll hc_7) (cwV 1 hts gX6_image_X6_asides rfl rfl rfl (by decide +kernel) ⟨Nat.le_of_ble_eq_true rfl, Nat.le_of_ble_eq_true rfl⟩) (x_recv (C := RX6) (T := TX6) (N := 55) X hP (okc_145 hAll) rfl) rfl hl.1 rfl (Nat.le_of_ble_eq_true rfl) dX6_image_56 ⟨Nat.zero_le _, Nat.zero_le _⟩) hS (fun H locs hP hS => ?_)
  refine lv_iload_n hx hb dX6_image_59 rfl (lv_at hl 1 rfl) ?_
  refine lv_if_eq (tgt := 90) hx hb dX6_image_60 (by decide) (fun h_9 => ?_) (fun h_9 => ?_)
  · rw [if_pos h_9] at hm
    exact wj_X6_image_90 X hAll hr hlocks hm hP hS (lv_sub hl [0] rfl)
  · rw [if_neg h_9] at hm
    refine lv_iconst (v := 0) hx hb dX6_image_63 (by decide) ?_
    refine lv_istore_n (lv' := [(2, .int 0), (0, .ref (ga g 145)), (1, .int s1)]) hx hb dX6_image_64 rfl hl (by decide) rfl (fun ls hl => ?_)
    obtain ⟨M_71, hL_70, hm⟩ := bind_elim hm
    refine wl_X6_image_65 X hAll ?_ hL_70 _ _ _ hP hS (lv_sub hl [1, 0] rfl)
    · intro z_M_71 e_M_71 H locs ls hP hS hl
      subst e_M_71
      replace hm := un1_e hm
      exact wj_X6_image_90 X hAll hr hlocks hm hP hS (lv_sub hl [0] rfl)

set_option maxHeartbeats 4000000 in
set_option maxRecDepth 100000 in
theorem wl_X6_image_29 (X : CxG g p s m args c cX6_image 3 RX6 wsX6_image) (hAll : okAll g) {fu : Nat} {s1 : Int32} {x : Mem} (kx0 : ∀ (M2 : Mem) , x = M2 → ∀ (H : Heap) (locs : List Loc) (ls : Array Slot), va_P (gD g) vwCl (wlG g M2) H → va_S (AbG g) s.heap H locs → lv_has ls 3 [(0, .ref (ga g 145)), (1, .int s1)] → W p l e (headSpec wsX6_image rmX6_image).room s m args below meth c H locs 0 0 Q (F0 m 54 ls [])) {n : Nat} {q0 : Int32 × Mem} (h : lp (b_X6_image_29 fu s1) n q0 = some x) : ∀ (H : Heap) (locs : List Loc) (ls : Array Slot), va_P (gD g) vwCl (wlG g q0.2) H → va_S (AbG g) s.heap H locs → lv_has ls 3 [(0, .ref (ga g 145)), (1, .int s1), (2, .int q0.1)] → W p l e (headSpec wsX6_image rmX6_image).room s m args below meth c H locs 0 0 Q (F0 m 29 ls []) := by
  refine lp_elim (P := fun q0 : Int32 × Mem => ∀ (H : Heap) (locs : List Loc) (ls : Array Slot), va_P (gD g) vwCl (wlG g q0.2) H → va_S (AbG g) s.heap H locs → lv_has ls 3 [(0, .ref (ga g 145)), (1, .int s1), (2, .int q0.1)] → W p l e (headSpec wsX6_image rmX6_image).room s m args below meth c H locs 0 0 Q (F0 m 29 ls [])) (fun q1 o hm hI hX => ?_) n q0 h
  obtain ⟨c2, M⟩ := q1
  have kb : ∀ (d2 : Int32) (M2 : Mem) , o = .inl (d2, M2) → ∀ (H : Heap) (locs : List Loc) (ls : Array Slot), va_P (gD g) vwCl (wlG g M2) H → va_S (AbG g) s.heap H locs → lv_has ls 3 [(0, .ref (ga g 145)), (1, .int s1), (2, .int d2)] → W p l e (headSpec wsX6_image rmX6_image).room s m args below meth c H locs 0 0 Q (F0 m 29 ls []) := fun d2 M2 e => hI _ e
  have kx0 : ∀ (M2 : Mem) , o = .inr M2 → ∀ (H : Heap) (locs : List Loc) (ls : Array Slot), va_P (gD g) vwCl (wlG g M2) H → va_S (AbG g) s.heap H locs → lv_has ls 3 [(0, .ref (ga g 145)), (1, .int s1)] → W p l e (headSpec wsX6_image rmX6_image).room s m args below meth c H locs 0 0 Q (F0 m 54 ls []) := fun M2 e => kx0 M2 (hX _ e).symm
  clear hI hX
  intro H locs ls hP hS hl
  obtain ⟨⟨hx, hb, hml, hown, hts⟩, -, -⟩ := id X
  have hl : lv_has ls 3 [(0, .ref (ga g 145)), (1, .int s1), (2, .int c2)] := hl
  have hP : va_P (gD g) vwCl (wlG g M) H := hP
  unfold b_X6_image_29 at hm
  replace hm := un2_e hm
  refine lv_iload_n hx hb dX6_image_29 rfl (lv_at hl 2 rfl) ?_
  refine lv_sipush (v := 160) hx hb dX6_image_30 (by decide) ?_
  refine lv_icmp_ge (tgt := 54) hx hb dX6_image_33 (by decide) (fun h_72 => ?_) (fun h_72 => ?_)
  · rw [if_pos h_72] at hm
    exact kx0 M (Option.some.inj hm).symm _ _ _ hP hS (lv_sub hl [0, 1] rfl)
  · rw [if_neg h_72] at hm
    refine lv_aload_n hx hb dX6_image_36 rfl (lv_at hl 0 rfl) ?_
    refine x_getR X hP (okc_145 hAll) (j := 50) (C := RX6) (T := TX6) (N := 55) rfl uX6_image_X6 (by decide) rfl mbX6_image_11 dX6_image_37 ?_
    refine lv_iload_n hx hb dX6_image_40 rfl (lv_at hl 2 rfl) ?_
    refine lv_aload_n hx hb dX6_image_41 rfl (lv_at hl 0 rfl) ?_
    refine x_getR X hP (okc_145 hAll) (j := 52) (C := RX6) (T := TX6) (N := 55) rfl uX6_image_X6 (by decide) rfl mbX6_image_10 dX6_image_42 ?_
    refine lv_iload_n hx hb dX6_image_45 rfl (lv_at hl 2 rfl) ?_
    obtain ⟨hb_73, hm⟩ := chk_elim hm
    refine x_iald X hP (okc_178 hAll) hb_73 dX6_image_46 ?_
    obtain ⟨M_74, hM_75, hm⟩ := bnd_elim hm
    refine x_iast X hP hS (okc_177 hAll) hM_75 hb_73 dX6_image_47 (fun H locs hP hS => ?_)
    obtain ⟨v_76, hv_77, hm⟩ := bnd_elim hm
    refine lv_iinc (v := v_76) (lv' := [(2, .int v_76), (0, .ref (ga g 145)), (1, .int s1)]) hx hb dX6_image_48 hl (k := 2) rfl (by rw [hv_77]; rfl) (by decide) rfl (fun ls hl => ?_)
    refine lv_goto (tgt := 29) hx hb dX6_image_51 (by decide) ?_
    exact kb v_76 M_74 (Option.some.inj hm).symm _ _ _ hP hS (lv_sub hl [1, 2, 0] rfl)

set_option maxHeartbeats 4000000 in
set_option maxRecDepth 100000 in
theorem wj_X6_image_18 (X : CxG g p s m args c cX6_image 3 RX6 wsX6_image) (hAll : okAll g) {fu : Nat} {M : Mem} {s1 : Int32} {rr : Int32} {MM : Mem} (hr : meth.sig.returnType = (some .boolean)) (hlocks : meth.locks = false) (hm : j_X6_image_18 fu M s1 = some (rr, MM)) {H : Heap} {locs : List Loc} {ls : Array Slot} (hP : va_P (gD g) vwCl (wlG g M) H) (hS : va_S (AbG g) s.heap H locs) (hl : lv_has ls 3 [(0, .ref (ga g 145)), (1, .int s1)]) : W p l e (headSpec wsX6_image rmX6_image).room s m args below meth c H locs 0 0 (MQ below (va_Qi (fun (q : Int32) (_ : Unit) => q = rr) (fun _ t => va_P (gD g) vwCl (wlG g MM) t.heap) (AbG g)) args s 0 0 (AbG g)) (F0 m 18 ls []) := by
  obtain ⟨⟨hx, hb, hml, hown, hts⟩, -, -⟩ := id X
  unfold j_X6_image_18 at hm
  refine lv_aload_n hx hb dX6_image_18 rfl (lv_at hl 0 rfl) ?_
  refine lv_iconst (v := 1) hx hb dX6_image_19 (by decide) ?_
  obtain ⟨M_4, hM_5, hm⟩ := bnd_elim hm
  refine x_put X hP hS (okc_145 hAll) (j := 51) hM_5 (C := RX6) (T := TX6) (N := 55) rfl uX6_image_X6 tyX6_ok nmX6 (by decide) rfl mbX6_image_2 rfl (ty := .boolean) (by decide +kernel) rfl rfl dX6_image_20 (fun H locs hP hS => ?_)
  refine lv_iload_n hx hb dX6_image_23 rfl (lv_at hl 1 rfl) ?_
  refine lv_if_ne (tgt := 54) hx hb dX6_image_24 (by decide) (fun h_6 => ?_) (fun h_6 => ?_)
  · rw [if_neg h_6] at hm
    exact wj_X6_image_54 X hAll hr hlocks hm hP hS (lv_sub hl [0, 1] rfl)
  · rw [if_pos h_6] at hm
    refine lv_iconst (v := 0) hx hb dX6_image_27 (by decide) ?_
    refine lv_istore_n (lv' := [(2, .int 0), (0, .ref (ga g 145)), (1, .int s1)]) hx hb dX6_image_28 rfl hl (by decide) rfl (fun ls hl => ?_)
    obtain ⟨M_80, hL_79, hm⟩ := bind_elim hm
    refine wl_X6_image_29 X hAll ?_ hL_79 _ _ _ hP hS (lv_sub hl [1, 2, 0] rfl)
    · intro z_M_80 e_M_80 H locs ls hP hS hl
      subst e_M_80
      replace hm := un1_e hm
      exact wj_X6_image_54 X hAll hr hlocks hm hP hS (lv_sub hl [0, 1] rfl)

set_option maxHeartbeats 4000000 in
set_option maxRecDepth 100000 in
theorem c_X6_image (l : Launch) {g : GT} (hA : AxG g) (hAll : okAll g)   {fu : Nat} {M : Mem} {a1 : Int32} {rr : Int32} {MM : Mem} (hm : m_X6_image fu M a1 = some (rr, MM)) : CI l yX6_image wsX6_image rmX6_image g [.ref (ga g 145), .int a1] M rr MM := by
  refine Met.ofW (cc := cX6_image) (maxL := 3) (ret := (some .boolean)) (by decide) rfl ?_
  intro p e s m args below meth c s₁ B hml hv
  obtain ⟨rfl, hSx, hP⟩ := hv
  have hr := B.returns
  have hlocks := B.notSynchronized
  have X : CxG g p s m _ c cX6_image 3 RX6 wsX6_image := ⟨⟨B.exec, B.bytes, hml, findClass_of_methodNamed B.named, atoms_spec (ws := wsX6_image) B.pre⟩, hSx, hA⟩
  have hS : va_S (AbG g) s.heap s.heap [] := va_S.rf
  have hl := lv_entry (([.ref (ga g 145), .int a1] : List Value)) (n := 3) (Nat.le_of_ble_eq_true rfl)
  rw [lg_entry_eq]
  generalize (lg_sl (([.ref (ga g 145), .int a1] : List Value)) ++ List.replicate (3 - (lg_sl (([.ref (ga g 145), .int a1] : List Value))).length) Slot.unset).toArray = ls at hl ⊢
  have hl : lv_has ls 3 [(0, .ref (ga g 145)), (1, .int a1)] := hl
  obtain ⟨⟨hx, hb, hml, hown, hts⟩, -, -⟩ := id X
  unfold m_X6_image at hm
  refine lv_aload_n hx hb dX6_image_0 rfl (lv_at hl 0 rfl) ?_
  refine lv_iconst (v := 0) hx hb dX6_image_1 (by decide) ?_
  obtain ⟨M_1, hM_2, hm⟩ := bnd_elim hm
  refine x_put X hP hS (okc_145 hAll) (j := 0) hM_2 (C := RX6) (T := TX6) (N := 55) rfl uX6_image_X6 tyX6_ok nmX6 (by decide) rfl mbX6_image_1 rfl (ty := .int) (by decide +kernel) rfl rfl dX6_image_2 (fun H locs hP hS => ?_)
  refine lv_iload_n hx hb dX6_image_5 rfl (lv_at hl 1 rfl) ?_
  refine lv_if_ne (tgt := 18) hx hb dX6_image_6 (by decide) (fun h_3 => ?_) (fun h_3 => ?_)
  · rw [if_neg h_3] at hm
    exact wj_X6_image_18 X hAll hr hlocks hm hP hS (lv_sub hl [0, 1] rfl)
  · rw [if_pos h_3] at hm
    refine lv_aload_n hx hb dX6_image_9 rfl (lv_at hl 0 rfl) ?_
    refine x_getI X hP (okc_145 hAll) (j := 51) (C := RX6) (T := TX6) (N := 55) rfl uX6_image_X6 (by decide) rfl mbX6_image_2 dX6_image_10 ?_
    refine lv_if_ne (tgt := 18) hx hb dX6_image_13 (by decide) (fun h_81 => ?_) (fun h_81 => ?_)
    · rw [if_neg h_81] at hm
      exact wj_X6_image_18 X hAll hr hlocks hm hP hS (lv_sub hl [0, 1] rfl)
    · rw [if_pos h_81] at hm
      refine lv_iconst (v := 0) hx hb dX6_image_16 (by decide) ?_
      cases hm
      exact x_zret X (by decide) hP hS hr hlocks dX6_image_17


/-! X6_look -/
def rmX6_look : Room := { frames := 1, cells := 0, slots := 0, locals := 23 }
theorem uX6_look_X6 : ∀ w ∈ wsX60, w ∈ wsX6_look := by decide +kernel
theorem mbX6_look_1 : Cond.fieldLink RX6 121 "FootANightModel" "told" "I" ∈ wsX6_look := by decide +kernel
theorem mbX6_look_2 : Cond.fieldLink RX6 7 "FootANightModel" "n" "I" ∈ wsX6_look := by decide +kernel
theorem mbX6_look_3 : Cond.fieldLink RX6 13 "FootANightModel" "wide" "[I" ∈ wsX6_look := by decide +kernel
theorem mbX6_look_4 : Cond.fieldLink RX6 53 "FootANightModel" "settings" "[I" ∈ wsX6_look := by decide +kernel
theorem mbX6_look_5 : Cond.fieldLink RX6 263 "FootANightModel" "moved" "I" ∈ wsX6_look := by decide +kernel
theorem mbX6_look_6 : Cond.fieldLink RX6 251 "FootANightModel" "night" "I" ∈ wsX6_look := by decide +kernel
set_option maxHeartbeats 4000000 in
set_option maxRecDepth 100000 in
theorem wl_X6_look_77 (X : CxG g p s m args c cX6_look 4 RX6 wsX6_look) (hAll : okAll g) {fu : Nat} {M : Mem} {x : Int32} (kx0 : ∀ (d2 : Int32) , x = d2 → ∀ (H : Heap) (locs : List Loc) (ls : Array Slot), va_P (gD g) vwCl (wlG g M) H → va_S (AbG g) s.heap H locs → lv_has ls 4 [(2, .int d2)] → W p l e (headSpec wsX6_look rmX6_look).room s m args below meth c H locs 0 0 Q (F0 m 100 ls [])) {n : Nat} {q0 : Int32 × Int32} (h : lp (b_X6_look_77 fu M) n q0 = some x) : ∀ (H : Heap) (locs : List Loc) (ls : Array Slot), va_P (gD g) vwCl (wlG g M) H → va_S (AbG g) s.heap H locs → lv_has ls 4 [(0, .ref (ga g 145)), (2, .int q0.1), (3, .int q0.2)] → W p l e (headSpec wsX6_look rmX6_look).room s m args below meth c H locs 0 0 Q (F0 m 77 ls []) := by
  refine lp_elim (P := fun q0 : Int32 × Int32 => ∀ (H : Heap) (locs : List Loc) (ls : Array Slot), va_P (gD g) vwCl (wlG g M) H → va_S (AbG g) s.heap H locs → lv_has ls 4 [(0, .ref (ga g 145)), (2, .int q0.1), (3, .int q0.2)] → W p l e (headSpec wsX6_look rmX6_look).room s m args below meth c H locs 0 0 Q (F0 m 77 ls [])) (fun q1 o hm hI hX => ?_) n q0 h
  obtain ⟨c2, c3⟩ := q1
  have kb : ∀ (d2 : Int32) (d3 : Int32) , o = .inl (d2, d3) → ∀ (H : Heap) (locs : List Loc) (ls : Array Slot), va_P (gD g) vwCl (wlG g M) H → va_S (AbG g) s.heap H locs → lv_has ls 4 [(0, .ref (ga g 145)), (2, .int d2), (3, .int d3)] → W p l e (headSpec wsX6_look rmX6_look).room s m args below meth c H locs 0 0 Q (F0 m 77 ls []) := fun d2 d3 e => hI _ e
  have kx0 : ∀ (d2 : Int32) , o = .inr d2 → ∀ (H : Heap) (locs : List Loc) (ls : Array Slot), va_P (gD g) vwCl (wlG g M) H → va_S (AbG g) s.heap H locs → lv_has ls 4 [(2, .int d2)] → W p l e (headSpec wsX6_look rmX6_look).room s m args below meth c H locs 0 0 Q (F0 m 100 ls []) := fun d2 e => kx0 d2 (hX _ e).symm
  clear hI hX
  intro H locs ls hP hS hl
  obtain ⟨⟨hx, hb, hml, hown, hts⟩, -, -⟩ := id X
  have hl : lv_has ls 4 [(0, .ref (ga g 145)), (2, .int c2), (3, .int c3)] := hl
  have hP : va_P (gD g) vwCl (wlG g M) H := hP
  unfold b_X6_look_77 at hm
  replace hm := un2_e hm
  refine lv_iload_n hx hb dX6_look_77 rfl (lv_at hl 2 rfl) ?_
  refine lv_aload_n hx hb dX6_look_78 rfl (lv_at hl 0 rfl) ?_
  refine x_getI X hP (okc_145 hAll) (j := 2) (C := RX6) (T := TX6) (N := 55) rfl uX6_look_X6 (by decide) rfl mbX6_look_2 dX6_look_79 ?_
  refine lv_icmp_ge (tgt := 100) hx hb dX6_look_82 (by decide) (fun h_11 => ?_) (fun h_11 => ?_)
  · rw [if_pos h_11] at hm
    exact kx0 c2 (Option.some.inj hm).symm _ _ _ hP hS (lv_sub hl [1] rfl)
  · rw [if_neg h_11] at hm
    refine lv_iload_n hx hb dX6_look_85 rfl (lv_at hl 1 rfl) ?_
    refine lv_aload_n hx hb dX6_look_86 rfl (lv_at hl 0 rfl) ?_
    refine x_getR X hP (okc_145 hAll) (j := 5) (C := RX6) (T := TX6) (N := 55) rfl uX6_look_X6 (by decide) rfl mbX6_look_3 dX6_look_87 ?_
    refine lv_iload_n hx hb dX6_look_90 rfl (lv_at hl 2 rfl) ?_
    obtain ⟨hb_12, hm⟩ := chk_elim hm
    refine x_iald X hP (okc_146 hAll) hb_12 dX6_look_91 ?_
    refine lv_iadd hx hb dX6_look_92 ?_
    obtain ⟨v_13, hv_14, hm⟩ := bnd_elim hm
    refine x_name hv_14 ?_
    refine lv_istore_n (lv' := [(2, .int v_13), (0, .ref (ga g 145)), (3, .int c3)]) hx hb dX6_look_93 rfl hl (by decide) rfl (fun ls hl => ?_)
    obtain ⟨v_15, hv_16, hm⟩ := bnd_elim hm
    refine lv_iinc (v := v_15) (lv' := [(3, .int v_15), (2, .int v_13), (0, .ref (ga g 145))]) hx hb dX6_look_94 hl (k := 2) rfl (by rw [hv_16]; rfl) (by decide) rfl (fun ls hl => ?_)
    refine lv_goto (tgt := 77) hx hb dX6_look_97 (by decide) ?_
    exact kb v_13 v_15 (Option.some.inj hm).symm _ _ _ hP hS (lv_sub hl [2, 1, 0] rfl)

set_option maxHeartbeats 4000000 in
set_option maxRecDepth 100000 in
theorem c_X6_look (l : Launch) {g : GT} (hA : AxG g) (hAll : okAll g)   {fu : Nat} {M : Mem} {a1 : Int32} {rr : Int32} {MM : Mem} (hm : m_X6_look fu M a1 = some (rr, MM)) : CI l yX6_look wsX6_look rmX6_look g [.ref (ga g 145), .int a1] M rr MM := by
  refine Met.ofW (cc := cX6_look) (maxL := 4) (ret := (some .int)) (by decide) rfl ?_
  intro p e s m args below meth c s₁ B hml hv
  obtain ⟨rfl, hSx, hP⟩ := hv
  have hr := B.returns
  have hlocks := B.notSynchronized
  have X : CxG g p s m _ c cX6_look 4 RX6 wsX6_look := ⟨⟨B.exec, B.bytes, hml, findClass_of_methodNamed B.named, atoms_spec (ws := wsX6_look) B.pre⟩, hSx, hA⟩
  have hS : va_S (AbG g) s.heap s.heap [] := va_S.rf
  have hl := lv_entry (([.ref (ga g 145), .int a1] : List Value)) (n := 4) (Nat.le_of_ble_eq_true rfl)
  rw [lg_entry_eq]
  generalize (lg_sl (([.ref (ga g 145), .int a1] : List Value)) ++ List.replicate (4 - (lg_sl (([.ref (ga g 145), .int a1] : List Value))).length) Slot.unset).toArray = ls at hl ⊢
  have hl : lv_has ls 4 [(0, .ref (ga g 145)), (1, .int a1)] := hl
  obtain ⟨⟨hx, hb, hml, hown, hts⟩, -, -⟩ := id X
  unfold m_X6_look at hm
  refine lv_aload_n hx hb dX6_look_0 rfl (lv_at hl 0 rfl) ?_
  refine lv_iconst (v := 0) hx hb dX6_look_1 (by decide) ?_
  obtain ⟨M_1, hM_2, hm⟩ := bnd_elim hm
  refine x_put X hP hS (okc_145 hAll) (j := 0) hM_2 (C := RX6) (T := TX6) (N := 55) rfl uX6_look_X6 tyX6_ok nmX6 (by decide) rfl mbX6_look_1 rfl (ty := .int) (by decide +kernel) rfl rfl dX6_look_2 (fun H locs hP hS => ?_)
  refine lv_iload_n hx hb dX6_look_5 rfl (lv_at hl 1 rfl) ?_
  refine lv_if_ne (tgt := 14) hx hb dX6_look_6 (by decide) (fun h_3 => ?_) (fun h_3 => ?_)
  · rw [if_neg h_3] at hm
    refine lv_iload_n hx hb dX6_look_14 rfl (lv_at hl 1 rfl) ?_
    refine lv_iconst (v := 1) hx hb dX6_look_15 (by decide) ?_
    refine lv_icmp_ne (tgt := 24) hx hb dX6_look_16 (by decide) (fun h_4 => ?_) (fun h_4 => ?_)
    · rw [if_neg h_4] at hm
      refine lv_iload_n hx hb dX6_look_24 rfl (lv_at hl 1 rfl) ?_
      refine lv_iconst (v := 2) hx hb dX6_look_25 (by decide) ?_
      refine lv_icmp_ne (tgt := 34) hx hb dX6_look_26 (by decide) (fun h_5 => ?_) (fun h_5 => ?_)
      · rw [if_neg h_5] at hm
        refine lv_iload_n hx hb dX6_look_34 rfl (lv_at hl 1 rfl) ?_
        refine lv_iconst (v := 4) hx hb dX6_look_35 (by decide) ?_
        refine lv_icmp_ne (tgt := 44) hx hb dX6_look_36 (by decide) (fun h_6 => ?_) (fun h_6 => ?_)
        · rw [if_neg h_6] at hm
          refine lv_aload_n hx hb dX6_look_44 rfl (lv_at hl 0 rfl) ?_
          refine lv_iload_n hx hb dX6_look_45 rfl (lv_at hl 1 rfl) ?_
          refine lv_bipush (v := 10) hx hb dX6_look_46 (by decide) ?_
          refine lv_bipush (v := 19) hx hb dX6_look_48 (by decide) ?_
          obtain ⟨r_8, hc_7, hm⟩ := bind_elim hm
          refine x_calli (x_runV (As := [.int a1, .int 10, .int 19]) (rest := []) X hP hS (c_X6_isIn l X.2.2 hc_7) (cwV 3 hts gX6_look_X6_isIn rfl rfl rfl (by decide +kernel) ⟨Nat.le_of_ble_eq_true rfl, Nat.le_of_ble_eq_true rfl⟩) (x_recv (C := RX6) (T := TX6) (N := 55) X hP (okc_145 hAll) rfl) rfl hl.1 rfl (Nat.le_of_ble_eq_true rfl) dX6_look_50 ⟨Nat.zero_le _, Nat.zero_le _⟩) hS (fun H locs hP hS => ?_)
          refine lv_if_eq (tgt := 66) hx hb dX6_look_53 (by decide) (fun h_9 => ?_) (fun h_9 => ?_)
          · rw [if_pos h_9] at hm
            refine lv_iload_n hx hb dX6_look_66 rfl (lv_at hl 1 rfl) ?_
            refine lv_iconst (v := 3) hx hb dX6_look_67 (by decide) ?_
            refine lv_icmp_eq (tgt := 73) hx hb dX6_look_68 (by decide) (fun h_10 => ?_) (fun h_10 => ?_)
            · rw [if_pos h_10] at hm
              refine lv_iconst (v := 0) hx hb dX6_look_73 (by decide) ?_
              refine lv_istore_n (lv' := [(2, .int 0), (0, .ref (ga g 145)), (1, .int a1)]) hx hb dX6_look_74 rfl hl (by decide) rfl (fun ls hl => ?_)
              refine lv_iconst (v := 0) hx hb dX6_look_75 (by decide) ?_
              refine lv_istore_n (lv' := [(3, .int 0), (2, .int 0), (0, .ref (ga g 145)), (1, .int a1)]) hx hb dX6_look_76 rfl hl (by decide) rfl (fun ls hl => ?_)
              obtain ⟨v_19, hL_18, hm⟩ := bind_elim hm
              refine wl_X6_look_77 X hAll ?_ hL_18 _ _ _ hP hS (lv_sub hl [2, 1, 0] rfl)
              · intro z_v_19 e_v_19 H locs ls hP hS hl
                subst e_v_19
                replace hm := un1_e hm
                refine lv_iload_n hx hb dX6_look_100 rfl (lv_at hl 0 rfl) ?_
                cases hm
                exact x_iret X hP hS hr hlocks dX6_look_101
            · rw [if_neg h_10] at hm
              refine lv_iconst (v := (-1)) hx hb dX6_look_71 (by decide) ?_
              cases hm
              exact x_iret X hP hS hr hlocks dX6_look_72
          · rw [if_neg h_9] at hm
            refine lv_aload_n hx hb dX6_look_56 rfl (lv_at hl 0 rfl) ?_
            refine x_getR X hP (okc_145 hAll) (j := 18) (C := RX6) (T := TX6) (N := 55) rfl uX6_look_X6 (by decide) rfl mbX6_look_4 dX6_look_57 ?_
            refine lv_iload_n hx hb dX6_look_60 rfl (lv_at hl 1 rfl) ?_
            refine lv_bipush (v := 10) hx hb dX6_look_61 (by decide) ?_
            refine lv_isub hx hb dX6_look_63 ?_
            obtain ⟨hb_20, hm⟩ := chk_elim hm
            refine x_iald X hP (okc_159 hAll) hb_20 dX6_look_64 ?_
            cases hm
            exact x_iret X hP hS hr hlocks dX6_look_65
        · rw [if_pos h_6] at hm
          refine lv_aload_n hx hb dX6_look_39 rfl (lv_at hl 0 rfl) ?_
          obtain ⟨r_22, hc_21, hm⟩ := bind_elim hm
          refine x_calli (x_runV (As := []) (rest := []) X hP hS (c_X6_eatenAll l X.2.2 hAll hc_21) (cwV 0 hts gX6_look_X6_eatenAll rfl rfl rfl (by decide +kernel) ⟨Nat.le_of_ble_eq_true rfl, Nat.le_of_ble_eq_true rfl⟩) (x_recv (C := RX6) (T := TX6) (N := 55) X hP (okc_145 hAll) rfl) rfl hl.1 rfl (Nat.le_of_ble_eq_true rfl) dX6_look_40 ⟨Nat.zero_le _, Nat.zero_le _⟩) hS (fun H locs hP hS => ?_)
          cases hm
          exact x_iret X hP hS hr hlocks dX6_look_43
      · rw [if_pos h_5] at hm
        refine lv_aload_n hx hb dX6_look_29 rfl (lv_at hl 0 rfl) ?_
        refine x_getI X hP (okc_145 hAll) (j := 4) (C := RX6) (T := TX6) (N := 55) rfl uX6_look_X6 (by decide) rfl mbX6_look_5 dX6_look_30 ?_
        cases hm
        exact x_iret X hP hS hr hlocks dX6_look_33
    · rw [if_pos h_4] at hm
      refine lv_aload_n hx hb dX6_look_19 rfl (lv_at hl 0 rfl) ?_
      refine x_getI X hP (okc_145 hAll) (j := 3) (C := RX6) (T := TX6) (N := 55) rfl uX6_look_X6 (by decide) rfl mbX6_look_6 dX6_look_20 ?_
      cases hm
      exact x_iret X hP hS hr hlocks dX6_look_23
  · rw [if_pos h_3] at hm
    refine lv_aload_n hx hb dX6_look_9 rfl (lv_at hl 0 rfl) ?_
    refine x_getI X hP (okc_145 hAll) (j := 2) (C := RX6) (T := TX6) (N := 55) rfl uX6_look_X6 (by decide) rfl mbX6_look_2 dX6_look_10 ?_
    cases hm
    exact x_iret X hP hS hr hlocks dX6_look_13

end
