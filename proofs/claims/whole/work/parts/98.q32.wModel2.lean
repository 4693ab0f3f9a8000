/-! walks: written by wip/whole/gen/gen.py out of the printed names -/
section
variable {p : Program} {l : Launch} {e : Env} {s : State} {m : MethodId} {args : Array Value} {below : List Frame} {meth : Method} {c : Code} {Q : State → Prop} {g : GT}
/-! X6_stake -/
def rmX6_stake : Room := { frames := 1, cells := 0, slots := 0, locals := 21 }
theorem uX6_stake_X6 : ∀ w ∈ wsX60, w ∈ wsX6_stake := by decide +kernel
theorem mbX6_stake_1 : Cond.fieldLink RX6 121 "FootANightModel" "told" "I" ∈ wsX6_stake := by decide +kernel
theorem mbX6_stake_2 : Cond.fieldLink RX6 47 "FootANightModel" "pushedBy" "[I" ∈ wsX6_stake := by decide +kernel
theorem mbX6_stake_3 : Cond.fieldLink RX6 44 "FootANightModel" "pushOf" "[I" ∈ wsX6_stake := by decide +kernel
theorem mbX6_stake_4 : Cond.fieldLink RX6 41 "FootANightModel" "heavyOf" "[I" ∈ wsX6_stake := by decide +kernel
theorem mbX6_stake_5 : Cond.fieldLink RX6 38 "FootANightModel" "wallOf" "[I" ∈ wsX6_stake := by decide +kernel
set_option maxHeartbeats 4000000 in
set_option maxRecDepth 100000 in
theorem c_X6_stake (l : Launch) {g : GT} (hA : AxG g) (hAll : okAll g)   {M : Mem} {a1 : Int32} {a2 : Int32} {rr : Int32} {MM : Mem} (hm : m_X6_stake M a1 a2 = some (rr, MM)) : CI l yX6_stake wsX6_stake rmX6_stake g [.ref (ga g 148), .int a1, .int a2] M rr MM := by
  refine Met.ofW (cc := cX6_stake) (maxL := 3) (ret := (some .int)) (by decide) rfl ?_
  intro p e s m args below meth c s₁ B hml hv
  obtain ⟨rfl, hSx, hP⟩ := hv
  have hr := B.returns
  have hlocks := B.notSynchronized
  have X : CxG g p s m _ c cX6_stake 3 RX6 wsX6_stake := ⟨⟨B.exec, B.bytes, hml, findClass_of_methodNamed B.named, atoms_spec (ws := wsX6_stake) B.pre⟩, hSx, hA⟩
  have hS : va_S (AbG g) s.heap s.heap [] := va_S.rf
  have hl := lv_entry (([.ref (ga g 148), .int a1, .int a2] : List Value)) (n := 3) (Nat.le_of_ble_eq_true rfl)
  rw [lg_entry_eq]
  generalize (lg_sl (([.ref (ga g 148), .int a1, .int a2] : List Value)) ++ List.replicate (3 - (lg_sl (([.ref (ga g 148), .int a1, .int a2] : List Value))).length) Slot.unset).toArray = ls at hl ⊢
  have hl : lv_has ls 3 [(0, .ref (ga g 148)), (1, .int a1), (2, .int a2)] := hl
  obtain ⟨⟨hx, hb, hml, hown, hts⟩, -, -⟩ := id X
  unfold m_X6_stake at hm
  refine lv_aload_n hx hb dX6_stake_0 rfl (lv_at hl 0 rfl) ?_
  refine lv_iconst (v := 0) hx hb dX6_stake_1 (by decide) ?_
  obtain ⟨M_1, hM_2, hm⟩ := bnd_elim hm
  refine xp_X6_0 X hP hAll uX6_stake_X6 mbX6_stake_1 hS hM_2 dX6_stake_2 (fun H locs hP hS => ?_)
  refine lv_aload_n hx hb dX6_stake_5 rfl (lv_at hl 0 rfl) ?_
  refine lv_iload_n hx hb dX6_stake_6 rfl (lv_at hl 1 rfl) ?_
  obtain ⟨r_4, hc_3, hm⟩ := bind_elim hm
  refine x_calli (x_runV (As := [.int a1]) (rest := []) X hP hS (c_X6_isFarm l X.2.2 hAll hc_3) (cwV 1 hts gX6_stake_X6_isFarm rfl rfl rfl (by decide +kernel) ⟨Nat.le_of_ble_eq_true rfl, Nat.le_of_ble_eq_true rfl⟩) (x_recv (C := RX6) (T := TX6) (N := 55) X hP (okc_148 hAll) rfl) rfl hl.1 rfl (Nat.le_of_ble_eq_true rfl) dX6_stake_7 ⟨Nat.zero_le _, Nat.zero_le _⟩) hS (fun H locs hP hS => ?_)
  refine lv_if_ne (tgt := 16) hx hb dX6_stake_10 (by decide) (fun h_5 => ?_) (fun h_5 => ?_)
  · rw [if_neg h_5] at hm
    refine lv_iload_n hx hb dX6_stake_16 rfl (lv_at hl 2 rfl) ?_
    refine lv_if_ne (tgt := 29) hx hb dX6_stake_17 (by decide) (fun h_6 => ?_) (fun h_6 => ?_)
    · rw [if_neg h_6] at hm
      refine lv_iload_n hx hb dX6_stake_29 rfl (lv_at hl 2 rfl) ?_
      refine lv_iconst (v := 1) hx hb dX6_stake_30 (by decide) ?_
      refine lv_icmp_ne (tgt := 43) hx hb dX6_stake_31 (by decide) (fun h_7 => ?_) (fun h_7 => ?_)
      · rw [if_neg h_7] at hm
        refine lv_iload_n hx hb dX6_stake_43 rfl (lv_at hl 2 rfl) ?_
        refine lv_iconst (v := 2) hx hb dX6_stake_44 (by decide) ?_
        refine lv_icmp_ne (tgt := 57) hx hb dX6_stake_45 (by decide) (fun h_8 => ?_) (fun h_8 => ?_)
        · rw [if_neg h_8] at hm
          refine lv_iload_n hx hb dX6_stake_57 rfl (lv_at hl 2 rfl) ?_
          refine lv_iconst (v := 3) hx hb dX6_stake_58 (by decide) ?_
          refine lv_icmp_ne (tgt := 71) hx hb dX6_stake_59 (by decide) (fun h_9 => ?_) (fun h_9 => ?_)
          · rw [if_neg h_9] at hm
            refine lv_bipush (v := (-2)) hx hb dX6_stake_71 (by decide) ?_
            cases hm
            exact x_iret X hP hS hr hlocks dX6_stake_73
          · rw [if_pos h_9] at hm
            refine lv_aload_n hx hb dX6_stake_62 rfl (lv_at hl 0 rfl) ?_
            refine xg_X6_16 X hP hAll uX6_stake_X6 mbX6_stake_2 dX6_stake_63 ?_
            refine lv_iload_n hx hb dX6_stake_66 rfl (lv_at hl 1 rfl) ?_
            obtain ⟨hb_10, hm⟩ := chk_elim hm
            refine x_iald X hP (okc_160 hAll) hb_10 dX6_stake_67 ?_
            refine lv_goto (tgt := 73) hx hb dX6_stake_68 (by decide) ?_
            cases hm
            exact x_iret X hP hS hr hlocks dX6_stake_73
        · rw [if_pos h_8] at hm
          refine lv_aload_n hx hb dX6_stake_48 rfl (lv_at hl 0 rfl) ?_
          refine xg_X6_15 X hP hAll uX6_stake_X6 mbX6_stake_3 dX6_stake_49 ?_
          refine lv_iload_n hx hb dX6_stake_52 rfl (lv_at hl 1 rfl) ?_
          obtain ⟨hb_11, hm⟩ := chk_elim hm
          refine x_iald X hP (okc_159 hAll) hb_11 dX6_stake_53 ?_
          refine lv_goto (tgt := 73) hx hb dX6_stake_54 (by decide) ?_
          cases hm
          exact x_iret X hP hS hr hlocks dX6_stake_73
      · rw [if_pos h_7] at hm
        refine lv_aload_n hx hb dX6_stake_34 rfl (lv_at hl 0 rfl) ?_
        refine xg_X6_14 X hP hAll uX6_stake_X6 mbX6_stake_4 dX6_stake_35 ?_
        refine lv_iload_n hx hb dX6_stake_38 rfl (lv_at hl 1 rfl) ?_
        obtain ⟨hb_12, hm⟩ := chk_elim hm
        refine x_iald X hP (okc_158 hAll) hb_12 dX6_stake_39 ?_
        refine lv_goto (tgt := 73) hx hb dX6_stake_40 (by decide) ?_
        cases hm
        exact x_iret X hP hS hr hlocks dX6_stake_73
    · rw [if_pos h_6] at hm
      refine lv_aload_n hx hb dX6_stake_20 rfl (lv_at hl 0 rfl) ?_
      refine xg_X6_13 X hP hAll uX6_stake_X6 mbX6_stake_5 dX6_stake_21 ?_
      refine lv_iload_n hx hb dX6_stake_24 rfl (lv_at hl 1 rfl) ?_
      obtain ⟨hb_13, hm⟩ := chk_elim hm
      refine x_iald X hP (okc_157 hAll) hb_13 dX6_stake_25 ?_
      refine lv_goto (tgt := 73) hx hb dX6_stake_26 (by decide) ?_
      cases hm
      exact x_iret X hP hS hr hlocks dX6_stake_73
  · rw [if_pos h_5] at hm
    refine lv_bipush (v := (-2)) hx hb dX6_stake_13 (by decide) ?_
    cases hm
    exact x_iret X hP hS hr hlocks dX6_stake_15


/-! X6_takesRow -/
def rmX6_takesRow : Room := { frames := 0, cells := 0, slots := 0, locals := 0 }
theorem uX6_takesRow_X6 : ∀ w ∈ wsX60, w ∈ wsX6_takesRow := by decide +kernel
theorem mbX6_takesRow_1 : Cond.fieldLink RX6 7 "FootANightModel" "n" "I" ∈ wsX6_takesRow := by decide +kernel
theorem mbX6_takesRow_2 : Cond.fieldLink RX6 99 "FootANightModel" "row" "[I" ∈ wsX6_takesRow := by decide +kernel
set_option maxHeartbeats 4000000 in
set_option maxRecDepth 100000 in
theorem wl_X6_takesRow_9 (X : CxG g p s m args c cX6_takesRow 4 RX6 wsX6_takesRow) (hAll : okAll g) {fu : Nat} {x : Mem} (kx0 : ∀ (M2 : Mem) , x = M2 → ∀ (H : Heap) (locs : List Loc) (ls : Array Slot), va_P (gD g) vwCl (wlG g M2) H → va_S (AbG g) s.heap H locs → lv_has ls 4 [] → W p l e (headSpec wsX6_takesRow rmX6_takesRow).room s m args below meth c H locs 0 0 Q (F0 m 32 ls [])) {n : Nat} {q0 : Int32 × Int32 × Mem} (h : lp (b_X6_takesRow_9 fu) n q0 = some x) : ∀ (H : Heap) (locs : List Loc) (ls : Array Slot), va_P (gD g) vwCl (wlG g q0.2.2) H → va_S (AbG g) s.heap H locs → lv_has ls 4 [(0, .ref (ga g 148)), (2, .int q0.1), (3, .int q0.2.1)] → W p l e (headSpec wsX6_takesRow rmX6_takesRow).room s m args below meth c H locs 0 0 Q (F0 m 9 ls []) := by
  refine lp_elim (P := fun q0 : Int32 × Int32 × Mem => ∀ (H : Heap) (locs : List Loc) (ls : Array Slot), va_P (gD g) vwCl (wlG g q0.2.2) H → va_S (AbG g) s.heap H locs → lv_has ls 4 [(0, .ref (ga g 148)), (2, .int q0.1), (3, .int q0.2.1)] → W p l e (headSpec wsX6_takesRow rmX6_takesRow).room s m args below meth c H locs 0 0 Q (F0 m 9 ls [])) (fun q1 o hm hI hX => ?_) n q0 h
  obtain ⟨c2, c3, M⟩ := q1
  have kb : ∀ (d2 : Int32) (d3 : Int32) (M2 : Mem) , o = .inl (d2, d3, M2) → ∀ (H : Heap) (locs : List Loc) (ls : Array Slot), va_P (gD g) vwCl (wlG g M2) H → va_S (AbG g) s.heap H locs → lv_has ls 4 [(0, .ref (ga g 148)), (2, .int d2), (3, .int d3)] → W p l e (headSpec wsX6_takesRow rmX6_takesRow).room s m args below meth c H locs 0 0 Q (F0 m 9 ls []) := fun d2 d3 M2 e => hI _ e
  have kx0 : ∀ (M2 : Mem) , o = .inr M2 → ∀ (H : Heap) (locs : List Loc) (ls : Array Slot), va_P (gD g) vwCl (wlG g M2) H → va_S (AbG g) s.heap H locs → lv_has ls 4 [] → W p l e (headSpec wsX6_takesRow rmX6_takesRow).room s m args below meth c H locs 0 0 Q (F0 m 32 ls []) := fun M2 e => kx0 M2 (hX _ e).symm
  clear hI hX
  intro H locs ls hP hS hl
  obtain ⟨⟨hx, hb, hml, hown, hts⟩, -, -⟩ := id X
  have hl : lv_has ls 4 [(0, .ref (ga g 148)), (2, .int c2), (3, .int c3)] := hl
  have hP : va_P (gD g) vwCl (wlG g M) H := hP
  unfold b_X6_takesRow_9 at hm
  replace hm := un3_e hm
  refine lv_iload_n hx hb dX6_takesRow_9 rfl (lv_at hl 2 rfl) ?_
  refine lv_if_lt (tgt := 32) hx hb dX6_takesRow_10 (by decide) (fun h_3 => ?_) (fun h_3 => ?_)
  · rw [if_pos h_3] at hm
    exact kx0 M (Option.some.inj hm).symm _ _ _ hP hS (lv_sub hl [] rfl)
  · rw [if_neg h_3] at hm
    refine lv_aload_n hx hb dX6_takesRow_13 rfl (lv_at hl 0 rfl) ?_
    refine xg_X6_44 X hP hAll uX6_takesRow_X6 mbX6_takesRow_2 dX6_takesRow_14 ?_
    refine lv_iload_n hx hb dX6_takesRow_17 rfl (lv_at hl 2 rfl) ?_
    refine lv_iload_n hx hb dX6_takesRow_18 rfl (lv_at hl 1 rfl) ?_
    refine lv_iconst (v := 4) hx hb dX6_takesRow_19 (by decide) ?_
    refine lv_irem hx hb dX6_takesRow_20 (by decide) ?_
    obtain ⟨hb_4, hm⟩ := chk_elim hm
    obtain ⟨M_5, hM_6, hm⟩ := bnd_elim hm
    refine x_iast X hP hS (okc_176 hAll) hM_6 hb_4 dX6_takesRow_21 (fun H locs hP hS => ?_)
    refine lv_iload_n hx hb dX6_takesRow_22 rfl (lv_at hl 1 rfl) ?_
    refine lv_iconst (v := 4) hx hb dX6_takesRow_23 (by decide) ?_
    refine lv_idiv hx hb dX6_takesRow_24 (by decide) ?_
    obtain ⟨v_7, hv_8, hm⟩ := bnd_elim hm
    refine x_name hv_8 ?_
    refine lv_istore_n (lv' := [(2, .int v_7), (0, .ref (ga g 148)), (3, .int c3)]) hx hb dX6_takesRow_25 rfl hl (by decide) rfl (fun ls hl => ?_)
    obtain ⟨v_9, hv_10, hm⟩ := bnd_elim hm
    refine lv_iinc (v := v_9) (lv' := [(3, .int v_9), (2, .int v_7), (0, .ref (ga g 148))]) hx hb dX6_takesRow_26 hl (k := 2) rfl (by rw [hv_10]; rfl) (by decide) rfl (fun ls hl => ?_)
    refine lv_goto (tgt := 9) hx hb dX6_takesRow_29 (by decide) ?_
    exact kb v_7 v_9 M_5 (Option.some.inj hm).symm _ _ _ hP hS (lv_sub hl [2, 1, 0] rfl)

set_option maxHeartbeats 4000000 in
set_option maxRecDepth 100000 in
theorem c_X6_takesRow (l : Launch) {g : GT} (hA : AxG g) (hAll : okAll g)   {fu : Nat} {M : Mem} {a1 : Int32} {MM : Mem} (hm : m_X6_takesRow fu M a1 = some MM) : CV l yX6_takesRow wsX6_takesRow rmX6_takesRow g [.ref (ga g 148), .int a1] M MM := by
  refine Met.ofW (cc := cX6_takesRow) (maxL := 4) (ret := none) (by decide) rfl ?_
  intro p e s m args below meth c s₁ B hml hv
  obtain ⟨rfl, hSx, hP⟩ := hv
  have hr := B.returns
  have hlocks := B.notSynchronized
  have X : CxG g p s m _ c cX6_takesRow 4 RX6 wsX6_takesRow := ⟨⟨B.exec, B.bytes, hml, findClass_of_methodNamed B.named, atoms_spec (ws := wsX6_takesRow) B.pre⟩, hSx, hA⟩
  have hS : va_S (AbG g) s.heap s.heap [] := va_S.rf
  have hl := lv_entry (([.ref (ga g 148), .int a1] : List Value)) (n := 4) (Nat.le_of_ble_eq_true rfl)
  rw [lg_entry_eq]
  generalize (lg_sl (([.ref (ga g 148), .int a1] : List Value)) ++ List.replicate (4 - (lg_sl (([.ref (ga g 148), .int a1] : List Value))).length) Slot.unset).toArray = ls at hl ⊢
  have hl : lv_has ls 4 [(0, .ref (ga g 148)), (1, .int a1)] := hl
  obtain ⟨⟨hx, hb, hml, hown, hts⟩, -, -⟩ := id X
  unfold m_X6_takesRow at hm
  refine lv_iload_n hx hb dX6_takesRow_0 rfl (lv_at hl 1 rfl) ?_
  refine lv_istore_n (lv' := [(2, .int a1), (0, .ref (ga g 148)), (1, .int a1)]) hx hb dX6_takesRow_1 rfl hl (by decide) rfl (fun ls hl => ?_)
  refine lv_aload_n hx hb dX6_takesRow_2 rfl (lv_at hl 1 rfl) ?_
  refine xg_X6_2 X hP hAll uX6_takesRow_X6 mbX6_takesRow_1 dX6_takesRow_3 ?_
  refine lv_iconst (v := 1) hx hb dX6_takesRow_6 (by decide) ?_
  refine lv_isub hx hb dX6_takesRow_7 ?_
  obtain ⟨v_1, hv_2, hm⟩ := bnd_elim hm
  refine x_name hv_2 ?_
  refine lv_istore_n (lv' := [(3, .int v_1), (2, .int a1), (0, .ref (ga g 148)), (1, .int a1)]) hx hb dX6_takesRow_8 rfl hl (by decide) rfl (fun ls hl => ?_)
  obtain ⟨M_13, hL_12, hm⟩ := bind_elim hm
  refine wl_X6_takesRow_9 X hAll ?_ hL_12 _ _ _ hP hS (lv_sub hl [2, 1, 0] rfl)
  · intro z_M_13 e_M_13 H locs ls hP hS hl
    subst e_M_13
    replace hm := un1_e hm
    cases hm
    exact x_vret X hP hS hr hlocks dX6_takesRow_32


/-! X6_canMove -/
def rmX6_canMove : Room := { frames := 1, cells := 0, slots := 0, locals := 21 }
theorem uX6_canMove_X6 : ∀ w ∈ wsX60, w ∈ wsX6_canMove := by decide +kernel
theorem mbX6_canMove_1 : Cond.fieldLink RX6 38 "FootANightModel" "wallOf" "[I" ∈ wsX6_canMove := by decide +kernel
theorem mbX6_canMove_2 : Cond.fieldLink RX6 53 "FootANightModel" "settings" "[I" ∈ wsX6_canMove := by decide +kernel
theorem mbX6_canMove_3 : Cond.fieldLink RX6 13 "FootANightModel" "wide" "[I" ∈ wsX6_canMove := by decide +kernel
set_option maxHeartbeats 4000000 in
set_option maxRecDepth 100000 in
theorem c_X6_canMove (l : Launch) {g : GT} (hA : AxG g) (hAll : okAll g)   {M : Mem} {a1 : Int32} {rr : Int32} (hm : m_X6_canMove M a1 = some rr) : CI l yX6_canMove wsX6_canMove rmX6_canMove g [.ref (ga g 148), .int a1] M rr M := by
  refine Met.ofW (cc := cX6_canMove) (maxL := 2) (ret := (some .boolean)) (by decide) rfl ?_
  intro p e s m args below meth c s₁ B hml hv
  obtain ⟨rfl, hSx, hP⟩ := hv
  have hr := B.returns
  have hlocks := B.notSynchronized
  have X : CxG g p s m _ c cX6_canMove 2 RX6 wsX6_canMove := ⟨⟨B.exec, B.bytes, hml, findClass_of_methodNamed B.named, atoms_spec (ws := wsX6_canMove) B.pre⟩, hSx, hA⟩
  have hS : va_S (AbG g) s.heap s.heap [] := va_S.rf
  have hl := lv_entry (([.ref (ga g 148), .int a1] : List Value)) (n := 2) (Nat.le_of_ble_eq_true rfl)
  rw [lg_entry_eq]
  generalize (lg_sl (([.ref (ga g 148), .int a1] : List Value)) ++ List.replicate (2 - (lg_sl (([.ref (ga g 148), .int a1] : List Value))).length) Slot.unset).toArray = ls at hl ⊢
  have hl : lv_has ls 2 [(0, .ref (ga g 148)), (1, .int a1)] := hl
  obtain ⟨⟨hx, hb, hml, hown, hts⟩, -, -⟩ := id X
  unfold m_X6_canMove at hm
  refine lv_aload_n hx hb dX6_canMove_0 rfl (lv_at hl 0 rfl) ?_
  refine xg_X6_13 X hP hAll uX6_canMove_X6 mbX6_canMove_1 dX6_canMove_1 ?_
  refine lv_iload_n hx hb dX6_canMove_4 rfl (lv_at hl 1 rfl) ?_
  obtain ⟨hb_1, hm⟩ := chk_elim hm
  refine x_iald X hP (okc_157 hAll) hb_1 dX6_canMove_5 ?_
  refine lv_if_ne (tgt := 45) hx hb dX6_canMove_6 (by decide) (fun h_2 => ?_) (fun h_2 => ?_)
  · rw [if_neg h_2] at hm
    refine lv_iconst (v := 0) hx hb dX6_canMove_45 (by decide) ?_
    cases hm
    exact x_zret X (by decide) hP hS hr hlocks dX6_canMove_46
  · rw [if_pos h_2] at hm
    refine lv_aload_n hx hb dX6_canMove_9 rfl (lv_at hl 0 rfl) ?_
    refine xg_X6_18 X hP hAll uX6_canMove_X6 mbX6_canMove_2 dX6_canMove_10 ?_
    refine lv_bipush (v := 9) hx hb dX6_canMove_13 (by decide) ?_
    refine x_iald X hP (okc_162 hAll) (show inb 9 10 = true from rfl) dX6_canMove_15 ?_
    refine lv_if_le (tgt := 45) hx hb dX6_canMove_16 (by decide) (fun h_3 => ?_) (fun h_3 => ?_)
    · rw [if_pos h_3] at hm
      refine lv_iconst (v := 0) hx hb dX6_canMove_45 (by decide) ?_
      cases hm
      exact x_zret X (by decide) hP hS hr hlocks dX6_canMove_46
    · rw [if_neg h_3] at hm
      refine lv_aload_n hx hb dX6_canMove_19 rfl (lv_at hl 0 rfl) ?_
      refine xg_X6_5 X hP hAll uX6_canMove_X6 mbX6_canMove_3 dX6_canMove_20 ?_
      refine lv_iload_n hx hb dX6_canMove_23 rfl (lv_at hl 1 rfl) ?_
      refine x_iald X hP (okc_149 hAll) hb_1 dX6_canMove_24 ?_
      refine lv_if_le (tgt := 45) hx hb dX6_canMove_25 (by decide) (fun h_4 => ?_) (fun h_4 => ?_)
      · rw [if_pos h_4] at hm
        refine lv_iconst (v := 0) hx hb dX6_canMove_45 (by decide) ?_
        cases hm
        exact x_zret X (by decide) hP hS hr hlocks dX6_canMove_46
      · rw [if_neg h_4] at hm
        refine lv_aload_n hx hb dX6_canMove_28 rfl (lv_at hl 0 rfl) ?_
        refine xg_X6_5 X hP hAll uX6_canMove_X6 mbX6_canMove_3 dX6_canMove_29 ?_
        refine lv_aload_n hx hb dX6_canMove_32 rfl (lv_at hl 0 rfl) ?_
        refine lv_iload_n hx hb dX6_canMove_33 rfl (lv_at hl 1 rfl) ?_
        obtain ⟨r_6, hc_5, hm⟩ := bind_elim hm
        refine x_calli (x_runV (As := [.int a1]) (rest := [.ref (ga g 149)]) X hP hS (c_X6_rightOf l X.2.2 hAll hc_5) (cwV 1 hts gX6_canMove_X6_rightOf rfl rfl rfl (by decide +kernel) ⟨Nat.le_of_ble_eq_true rfl, Nat.le_of_ble_eq_true rfl⟩) (x_recv (C := RX6) (T := TX6) (N := 55) X hP (okc_148 hAll) rfl) rfl hl.1 rfl (Nat.le_of_ble_eq_true rfl) dX6_canMove_34 ⟨Nat.zero_le _, Nat.zero_le _⟩) hS (fun H locs hP hS => ?_)
        obtain ⟨hb_7, hm⟩ := chk_elim hm
        refine x_iald X hP (okc_149 hAll) hb_7 dX6_canMove_37 ?_
        refine lv_if_le (tgt := 45) hx hb dX6_canMove_38 (by decide) (fun h_8 => ?_) (fun h_8 => ?_)
        · rw [if_pos h_8] at hm
          refine lv_iconst (v := 0) hx hb dX6_canMove_45 (by decide) ?_
          cases hm
          exact x_zret X (by decide) hP hS hr hlocks dX6_canMove_46
        · rw [if_neg h_8] at hm
          refine lv_iconst (v := 1) hx hb dX6_canMove_41 (by decide) ?_
          refine lv_goto (tgt := 46) hx hb dX6_canMove_42 (by decide) ?_
          cases hm
          exact x_zret X (by decide) hP hS hr hlocks dX6_canMove_46


/-! X6_chanceOf -/
def rmX6_chanceOf : Room := { frames := 0, cells := 0, slots := 0, locals := 0 }
theorem uX6_chanceOf_X6 : ∀ w ∈ wsX60, w ∈ wsX6_chanceOf := by decide +kernel
theorem mbX6_chanceOf_1 : Cond.fieldLink RX6 23 "FootANightModel" "dogOf" "[I" ∈ wsX6_chanceOf := by decide +kernel
theorem mbX6_chanceOf_2 : Cond.fieldLink RX6 41 "FootANightModel" "heavyOf" "[I" ∈ wsX6_chanceOf := by decide +kernel
theorem mbX6_chanceOf_3 : Cond.fieldLink RX6 53 "FootANightModel" "settings" "[I" ∈ wsX6_chanceOf := by decide +kernel
set_option maxHeartbeats 4000000 in
set_option maxRecDepth 100000 in
theorem wj_X6_chanceOf_46 (X : CxG g p s m args c cX6_chanceOf 5 RX6 wsX6_chanceOf) (hAll : okAll g) {M : Mem} {s1 : Int32} {t0 : Int32} {rr : Int32} (hr : meth.sig.returnType = (some .int)) (hlocks : meth.locks = false) (hm : j_X6_chanceOf_46 M s1 t0 = some rr) {H : Heap} {locs : List Loc} {ls : Array Slot} (hP : va_P (gD g) vwCl (wlG g M) H) (hS : va_S (AbG g) s.heap H locs) (hl : lv_has ls 5 [(0, .ref (ga g 148)), (1, .int s1)]) : W p l e (headSpec wsX6_chanceOf rmX6_chanceOf).room s m args below meth c H locs 0 0 (MQ below (va_Qi (fun (q : Int32) (_ : Unit) => q = rr) (fun _ t => va_P (gD g) vwCl (wlG g M) t.heap) (AbG g)) args s 0 0 (AbG g)) (F0 m 46 ls [.int t0]) := by
  obtain ⟨⟨hx, hb, hml, hown, hts⟩, -, -⟩ := id X
  unfold j_X6_chanceOf_46 at hm
  refine lv_istore (lv' := [(4, .int t0), (0, .ref (ga g 148)), (1, .int s1)]) hx hb dX6_chanceOf_46 hl (by decide) rfl (fun ls hl => ?_)
  refine lv_iload hx hb dX6_chanceOf_48 (lv_at hl 0 rfl) ?_
  refine lv_aload_n hx hb dX6_chanceOf_50 rfl (lv_at hl 1 rfl) ?_
  refine xg_X6_14 X hP hAll uX6_chanceOf_X6 mbX6_chanceOf_2 dX6_chanceOf_51 ?_
  refine lv_iload_n hx hb dX6_chanceOf_54 rfl (lv_at hl 2 rfl) ?_
  obtain ⟨hb_4, hm⟩ := chk_elim hm
  refine x_iald X hP (okc_158 hAll) hb_4 dX6_chanceOf_55 ?_
  refine lv_iconst (v := 1) hx hb dX6_chanceOf_56 (by decide) ?_
  refine lv_iadd hx hb dX6_chanceOf_57 ?_
  obtain ⟨hz_5, hm⟩ := chk_elim hm
  refine lv_idiv hx hb dX6_chanceOf_58 (nz_of hz_5) ?_
  cases hm
  exact x_iret X hP hS hr hlocks dX6_chanceOf_59

set_option maxHeartbeats 4000000 in
set_option maxRecDepth 100000 in
theorem c_X6_chanceOf (l : Launch) {g : GT} (hA : AxG g) (hAll : okAll g)   {M : Mem} {a1 : Int32} {a2 : Int32} {a3 : Int32} {rr : Int32} (hm : m_X6_chanceOf M a1 a2 a3 = some rr) : CI l yX6_chanceOf wsX6_chanceOf rmX6_chanceOf g [.ref (ga g 148), .int a1, .int a2, .int a3] M rr M := by
  refine Met.ofW (cc := cX6_chanceOf) (maxL := 5) (ret := (some .int)) (by decide) rfl ?_
  intro p e s m args below meth c s₁ B hml hv
  obtain ⟨rfl, hSx, hP⟩ := hv
  have hr := B.returns
  have hlocks := B.notSynchronized
  have X : CxG g p s m _ c cX6_chanceOf 5 RX6 wsX6_chanceOf := ⟨⟨B.exec, B.bytes, hml, findClass_of_methodNamed B.named, atoms_spec (ws := wsX6_chanceOf) B.pre⟩, hSx, hA⟩
  have hS : va_S (AbG g) s.heap s.heap [] := va_S.rf
  have hl := lv_entry (([.ref (ga g 148), .int a1, .int a2, .int a3] : List Value)) (n := 5) (Nat.le_of_ble_eq_true rfl)
  rw [lg_entry_eq]
  generalize (lg_sl (([.ref (ga g 148), .int a1, .int a2, .int a3] : List Value)) ++ List.replicate (5 - (lg_sl (([.ref (ga g 148), .int a1, .int a2, .int a3] : List Value))).length) Slot.unset).toArray = ls at hl ⊢
  have hl : lv_has ls 5 [(0, .ref (ga g 148)), (1, .int a1), (2, .int a2), (3, .int a3)] := hl
  obtain ⟨⟨hx, hb, hml, hown, hts⟩, -, -⟩ := id X
  unfold m_X6_chanceOf at hm
  refine lv_iload_n hx hb dX6_chanceOf_0 rfl (lv_at hl 3 rfl) ?_
  refine lv_iconst (v := 1) hx hb dX6_chanceOf_1 (by decide) ?_
  refine lv_icmp_ne (tgt := 19) hx hb dX6_chanceOf_2 (by decide) (fun h_1 => ?_) (fun h_1 => ?_)
  · rw [if_neg h_1] at hm
    refine lv_aload_n hx hb dX6_chanceOf_19 rfl (lv_at hl 0 rfl) ?_
    refine xg_X6_8 X hP hAll uX6_chanceOf_X6 mbX6_chanceOf_1 dX6_chanceOf_20 ?_
    refine lv_iload_n hx hb dX6_chanceOf_23 rfl (lv_at hl 2 rfl) ?_
    obtain ⟨hb_2, hm⟩ := chk_elim hm
    refine x_iald X hP (okc_152 hAll) hb_2 dX6_chanceOf_24 ?_
    refine lv_iconst (v := 1) hx hb dX6_chanceOf_25 (by decide) ?_
    refine lv_icmp_ne (tgt := 43) hx hb dX6_chanceOf_26 (by decide) (fun h_3 => ?_) (fun h_3 => ?_)
    · rw [if_neg h_3] at hm
      refine lv_sipush (v := 1000) hx hb dX6_chanceOf_43 (by decide) ?_
      exact wj_X6_chanceOf_46 X hAll hr hlocks hm hP hS (lv_sub hl [0, 1] rfl)
    · rw [if_pos h_3] at hm
      refine lv_sipush (v := 1000) hx hb dX6_chanceOf_29 (by decide) ?_
      refine lv_aload_n hx hb dX6_chanceOf_32 rfl (lv_at hl 0 rfl) ?_
      refine xg_X6_18 X hP hAll uX6_chanceOf_X6 mbX6_chanceOf_3 dX6_chanceOf_33 ?_
      refine lv_bipush (v := 8) hx hb dX6_chanceOf_36 (by decide) ?_
      refine x_iald X hP (okc_162 hAll) (show inb 8 10 = true from rfl) dX6_chanceOf_38 ?_
      refine lv_isub hx hb dX6_chanceOf_39 ?_
      refine lv_goto (tgt := 46) hx hb dX6_chanceOf_40 (by decide) ?_
      exact wj_X6_chanceOf_46 X hAll hr hlocks hm hP hS (lv_sub hl [0, 1] rfl)
  · rw [if_pos h_1] at hm
    refine lv_sipush (v := 1000) hx hb dX6_chanceOf_5 (by decide) ?_
    refine lv_aload_n hx hb dX6_chanceOf_8 rfl (lv_at hl 0 rfl) ?_
    refine xg_X6_18 X hP hAll uX6_chanceOf_X6 mbX6_chanceOf_3 dX6_chanceOf_9 ?_
    refine lv_bipush (v := 7) hx hb dX6_chanceOf_12 (by decide) ?_
    refine x_iald X hP (okc_162 hAll) (show inb 7 10 = true from rfl) dX6_chanceOf_14 ?_
    refine lv_isub hx hb dX6_chanceOf_15 ?_
    refine lv_goto (tgt := 46) hx hb dX6_chanceOf_16 (by decide) ?_
    exact wj_X6_chanceOf_46 X hAll hr hlocks hm hP hS (lv_sub hl [0, 1] rfl)


/-! X6_lossBy -/
def rmX6_lossBy : Room := { frames := 2, cells := 0, slots := 0, locals := 45 }
theorem uX6_lossBy_X6 : ∀ w ∈ wsX60, w ∈ wsX6_lossBy := by decide +kernel
theorem mbX6_lossBy_1 : Cond.fieldLink RX6 53 "FootANightModel" "settings" "[I" ∈ wsX6_lossBy := by decide +kernel
theorem mbX6_lossBy_2 : Cond.fieldLink RX6 13 "FootANightModel" "wide" "[I" ∈ wsX6_lossBy := by decide +kernel
theorem mbX6_lossBy_3 : Cond.fieldLink RX6 99 "FootANightModel" "row" "[I" ∈ wsX6_lossBy := by decide +kernel
set_option maxHeartbeats 4000000 in
set_option maxRecDepth 100000 in
theorem c_X6_lossBy (l : Launch) {g : GT} (hA : AxG g) (hAll : okAll g)   {M : Mem} {a1 : Int32} {a2 : Int32} {rr : Int32} (hm : m_X6_lossBy M a1 a2 = some rr) : CI l yX6_lossBy wsX6_lossBy rmX6_lossBy g [.ref (ga g 148), .int a1, .int a2] M rr M := by
  refine Met.ofW (cc := cX6_lossBy) (maxL := 4) (ret := (some .int)) (by decide) rfl ?_
  intro p e s m args below meth c s₁ B hml hv
  obtain ⟨rfl, hSx, hP⟩ := hv
  have hr := B.returns
  have hlocks := B.notSynchronized
  have X : CxG g p s m _ c cX6_lossBy 4 RX6 wsX6_lossBy := ⟨⟨B.exec, B.bytes, hml, findClass_of_methodNamed B.named, atoms_spec (ws := wsX6_lossBy) B.pre⟩, hSx, hA⟩
  have hS : va_S (AbG g) s.heap s.heap [] := va_S.rf
  have hl := lv_entry (([.ref (ga g 148), .int a1, .int a2] : List Value)) (n := 4) (Nat.le_of_ble_eq_true rfl)
  rw [lg_entry_eq]
  generalize (lg_sl (([.ref (ga g 148), .int a1, .int a2] : List Value)) ++ List.replicate (4 - (lg_sl (([.ref (ga g 148), .int a1, .int a2] : List Value))).length) Slot.unset).toArray = ls at hl ⊢
  have hl : lv_has ls 4 [(0, .ref (ga g 148)), (1, .int a1), (2, .int a2)] := hl
  obtain ⟨⟨hx, hb, hml, hown, hts⟩, -, -⟩ := id X
  unfold m_X6_lossBy at hm
  refine lv_aload_n hx hb dX6_lossBy_0 rfl (lv_at hl 0 rfl) ?_
  refine lv_aload_n hx hb dX6_lossBy_1 rfl (lv_at hl 0 rfl) ?_
  refine xg_X6_18 X hP hAll uX6_lossBy_X6 mbX6_lossBy_1 dX6_lossBy_2 ?_
  refine lv_bipush (v := 9) hx hb dX6_lossBy_5 (by decide) ?_
  refine x_iald X hP (okc_162 hAll) (show inb 9 10 = true from rfl) dX6_lossBy_7 ?_
  refine lv_aload_n hx hb dX6_lossBy_8 rfl (lv_at hl 0 rfl) ?_
  refine xg_X6_5 X hP hAll uX6_lossBy_X6 mbX6_lossBy_2 dX6_lossBy_9 ?_
  refine lv_iload_n hx hb dX6_lossBy_12 rfl (lv_at hl 1 rfl) ?_
  obtain ⟨hb_1, hm⟩ := chk_elim hm
  refine x_iald X hP (okc_149 hAll) hb_1 dX6_lossBy_13 ?_
  obtain ⟨r_3, hc_2, hm⟩ := bind_elim hm
  refine x_calli (x_runV (As := [.int (rd M 162 (ix 9)), .int (rd M 149 (ix a1))]) (rest := []) X hP hS (c_X6_less l X.2.2 hc_2) (cwV 2 hts gX6_lossBy_X6_less rfl rfl rfl (by decide +kernel) ⟨Nat.le_of_ble_eq_true rfl, Nat.le_of_ble_eq_true rfl⟩) (x_recv (C := RX6) (T := TX6) (N := 55) X hP (okc_148 hAll) rfl) rfl hl.1 rfl (Nat.le_of_ble_eq_true rfl) dX6_lossBy_14 ⟨Nat.zero_le _, Nat.zero_le _⟩) hS (fun H locs hP hS => ?_)
  refine lv_istore_n (lv' := [(3, .int r_3), (0, .ref (ga g 148)), (1, .int a1), (2, .int a2)]) hx hb dX6_lossBy_17 rfl hl (by decide) rfl (fun ls hl => ?_)
  refine lv_aload_n hx hb dX6_lossBy_18 rfl (lv_at hl 1 rfl) ?_
  refine lv_iload_n hx hb dX6_lossBy_19 rfl (lv_at hl 3 rfl) ?_
  obtain ⟨r_5, hc_4, hm⟩ := bind_elim hm
  refine x_calli (x_runV (As := [.int a2]) (rest := []) X hP hS (c_X6_canMove l X.2.2 hAll hc_4) (cwV 1 hts gX6_lossBy_X6_canMove rfl rfl rfl (by decide +kernel) ⟨Nat.le_of_ble_eq_true rfl, Nat.le_of_ble_eq_true rfl⟩) (x_recv (C := RX6) (T := TX6) (N := 55) X hP (okc_148 hAll) rfl) rfl hl.1 rfl (Nat.le_of_ble_eq_true rfl) dX6_lossBy_20 ⟨Nat.zero_le _, Nat.zero_le _⟩) hS (fun H locs hP hS => ?_)
  refine lv_if_eq (tgt := 65) hx hb dX6_lossBy_23 (by decide) (fun h_6 => ?_) (fun h_6 => ?_)
  · rw [if_pos h_6] at hm
    refine lv_iconst (v := 0) hx hb dX6_lossBy_65 (by decide) ?_
    cases hm
    exact x_iret X hP hS hr hlocks dX6_lossBy_66
  · rw [if_neg h_6] at hm
    refine lv_aload_n hx hb dX6_lossBy_26 rfl (lv_at hl 1 rfl) ?_
    refine lv_iload_n hx hb dX6_lossBy_27 rfl (lv_at hl 3 rfl) ?_
    refine lv_iload_n hx hb dX6_lossBy_28 rfl (lv_at hl 2 rfl) ?_
    refine lv_aload_n hx hb dX6_lossBy_29 rfl (lv_at hl 1 rfl) ?_
    refine xg_X6_44 X hP hAll uX6_lossBy_X6 mbX6_lossBy_3 dX6_lossBy_30 ?_
    refine lv_iload_n hx hb dX6_lossBy_33 rfl (lv_at hl 2 rfl) ?_
    refine x_iald X hP (okc_176 hAll) hb_1 dX6_lossBy_34 ?_
    obtain ⟨r_8, hc_7, hm⟩ := bind_elim hm
    refine x_calli (x_runV (As := [.int a2, .int a1, .int (rd M 176 (ix a1))]) (rest := []) X hP hS (c_X6_chanceOf l X.2.2 hAll hc_7) (cwV 3 hts gX6_lossBy_X6_chanceOf rfl rfl rfl (by decide +kernel) ⟨Nat.le_of_ble_eq_true rfl, Nat.le_of_ble_eq_true rfl⟩) (x_recv (C := RX6) (T := TX6) (N := 55) X hP (okc_148 hAll) rfl) rfl hl.1 rfl (Nat.le_of_ble_eq_true rfl) dX6_lossBy_35 ⟨Nat.zero_le _, Nat.zero_le _⟩) hS (fun H locs hP hS => ?_)
    refine lv_aload_n hx hb dX6_lossBy_38 rfl (lv_at hl 1 rfl) ?_
    refine lv_aload_n hx hb dX6_lossBy_39 rfl (lv_at hl 1 rfl) ?_
    refine xg_X6_5 X hP hAll uX6_lossBy_X6 mbX6_lossBy_2 dX6_lossBy_40 ?_
    refine lv_iload_n hx hb dX6_lossBy_43 rfl (lv_at hl 2 rfl) ?_
    refine x_iald X hP (okc_149 hAll) hb_1 dX6_lossBy_44 ?_
    obtain ⟨r_10, hc_9, hm⟩ := bind_elim hm
    refine x_calli (x_runV (As := [.int (rd M 149 (ix a1))]) (rest := [.int r_8]) X hP hS (c_X6_worthOf l X.2.2 hAll hc_9) (cwV 1 hts gX6_lossBy_X6_worthOf rfl rfl rfl (by decide +kernel) ⟨Nat.le_of_ble_eq_true rfl, Nat.le_of_ble_eq_true rfl⟩) (x_recv (C := RX6) (T := TX6) (N := 55) X hP (okc_148 hAll) rfl) rfl hl.1 rfl (Nat.le_of_ble_eq_true rfl) dX6_lossBy_45 ⟨Nat.zero_le _, Nat.zero_le _⟩) hS (fun H locs hP hS => ?_)
    refine lv_aload_n hx hb dX6_lossBy_48 rfl (lv_at hl 1 rfl) ?_
    refine lv_aload_n hx hb dX6_lossBy_49 rfl (lv_at hl 1 rfl) ?_
    refine xg_X6_5 X hP hAll uX6_lossBy_X6 mbX6_lossBy_2 dX6_lossBy_50 ?_
    refine lv_iload_n hx hb dX6_lossBy_53 rfl (lv_at hl 2 rfl) ?_
    refine x_iald X hP (okc_149 hAll) hb_1 dX6_lossBy_54 ?_
    refine lv_iload_n hx hb dX6_lossBy_55 rfl (lv_at hl 0 rfl) ?_
    refine lv_isub hx hb dX6_lossBy_56 ?_
    obtain ⟨r_12, hc_11, hm⟩ := bind_elim hm
    refine x_calli (x_runV (As := [.int ((rd M 149 (ix a1)) - r_3)]) (rest := [.int r_10, .int r_8]) X hP hS (c_X6_worthOf l X.2.2 hAll hc_11) (cwV 1 hts gX6_lossBy_X6_worthOf rfl rfl rfl (by decide +kernel) ⟨Nat.le_of_ble_eq_true rfl, Nat.le_of_ble_eq_true rfl⟩) (x_recv (C := RX6) (T := TX6) (N := 55) X hP (okc_148 hAll) rfl) rfl hl.1 rfl (Nat.le_of_ble_eq_true rfl) dX6_lossBy_57 ⟨Nat.zero_le _, Nat.zero_le _⟩) hS (fun H locs hP hS => ?_)
    refine lv_isub hx hb dX6_lossBy_60 ?_
    refine lv_imul hx hb dX6_lossBy_61 ?_
    refine lv_goto (tgt := 66) hx hb dX6_lossBy_62 (by decide) ?_
    cases hm
    exact x_iret X hP hS hr hlocks dX6_lossBy_66


/-! X6_valueOf -/
def rmX6_valueOf : Room := { frames := 3, cells := 0, slots := 0, locals := 68 }
theorem uX6_valueOf_X6 : ∀ w ∈ wsX60, w ∈ wsX6_valueOf := by decide +kernel
theorem mbX6_valueOf_1 : Cond.fieldLink RX6 23 "FootANightModel" "dogOf" "[I" ∈ wsX6_valueOf := by decide +kernel
theorem mbX6_valueOf_2 : Cond.fieldLink RX6 99 "FootANightModel" "row" "[I" ∈ wsX6_valueOf := by decide +kernel
theorem mbX6_valueOf_3 : Cond.fieldLink RX6 53 "FootANightModel" "settings" "[I" ∈ wsX6_valueOf := by decide +kernel
theorem mbX6_valueOf_4 : Cond.fieldLink RX6 13 "FootANightModel" "wide" "[I" ∈ wsX6_valueOf := by decide +kernel
set_option maxHeartbeats 4000000 in
set_option maxRecDepth 100000 in
theorem wj_X6_valueOf_239 (X : CxG g p s m args c cX6_valueOf 9 RX6 wsX6_valueOf) (hAll : okAll g) {M : Mem} {s1 : Int32} {s2 : Int32} {s4 : Int32} {rr : Int32} (hr : meth.sig.returnType = (some .int)) (hlocks : meth.locks = false) (hm : j_X6_valueOf_239 M s1 s2 s4 = some rr) {H : Heap} {locs : List Loc} {ls : Array Slot} (hP : va_P (gD g) vwCl (wlG g M) H) (hS : va_S (AbG g) s.heap H locs) (hl : lv_has ls 9 [(0, .ref (ga g 148)), (1, .int s1), (2, .int s2), (4, .int s4)]) : W p l e (headSpec wsX6_valueOf rmX6_valueOf).room s m args below meth c H locs 0 0 (MQ below (va_Qi (fun (q : Int32) (_ : Unit) => q = rr) (fun _ t => va_P (gD g) vwCl (wlG g M) t.heap) (AbG g)) args s 0 0 (AbG g)) (F0 m 239 ls []) := by
  obtain ⟨⟨hx, hb, hml, hown, hts⟩, -, -⟩ := id X
  unfold j_X6_valueOf_239 at hm
  refine lv_aload_n hx hb dX6_valueOf_239 rfl (lv_at hl 0 rfl) ?_
  refine xg_X6_44 X hP hAll uX6_valueOf_X6 mbX6_valueOf_2 dX6_valueOf_240 ?_
  refine lv_iload hx hb dX6_valueOf_243 (lv_at hl 3 rfl) ?_
  obtain ⟨hb_15, hm⟩ := chk_elim hm
  refine x_iald X hP (okc_176 hAll) hb_15 dX6_valueOf_245 ?_
  refine lv_iconst (v := 2) hx hb dX6_valueOf_246 (by decide) ?_
  refine lv_icmp_ne (tgt := 259) hx hb dX6_valueOf_247 (by decide) (fun h_16 => ?_) (fun h_16 => ?_)
  · rw [if_neg h_16] at hm
    refine lv_iload_n hx hb dX6_valueOf_259 rfl (lv_at hl 2 rfl) ?_
    cases hm
    exact x_iret X hP hS hr hlocks dX6_valueOf_260
  · rw [if_pos h_16] at hm
    refine lv_iload_n hx hb dX6_valueOf_250 rfl (lv_at hl 2 rfl) ?_
    refine lv_aload_n hx hb dX6_valueOf_251 rfl (lv_at hl 0 rfl) ?_
    refine lv_iload_n hx hb dX6_valueOf_252 rfl (lv_at hl 1 rfl) ?_
    refine lv_iload_n hx hb dX6_valueOf_253 rfl (lv_at hl 1 rfl) ?_
    obtain ⟨r_18, hc_17, hm⟩ := bind_elim hm
    refine x_calli (x_runV (As := [.int s1, .int s1]) (rest := [.int s2]) X hP hS (c_X6_lossBy l X.2.2 hAll hc_17) (cwV 2 hts gX6_valueOf_X6_lossBy rfl rfl rfl (by decide +kernel) ⟨Nat.le_of_ble_eq_true rfl, Nat.le_of_ble_eq_true rfl⟩) (x_recv (C := RX6) (T := TX6) (N := 55) X hP (okc_148 hAll) rfl) rfl hl.1 rfl (Nat.le_of_ble_eq_true rfl) dX6_valueOf_254 ⟨Nat.zero_le _, Nat.zero_le _⟩) hS (fun H locs hP hS => ?_)
    refine lv_isub hx hb dX6_valueOf_257 ?_
    obtain ⟨v_19, hv_20, hm⟩ := bnd_elim hm
    refine x_name hv_20 ?_
    refine lv_istore_n (lv' := [(2, .int v_19), (0, .ref (ga g 148)), (1, .int s1), (4, .int s4)]) hx hb dX6_valueOf_258 rfl hl (by decide) rfl (fun ls hl => ?_)
    refine lv_iload_n hx hb dX6_valueOf_259 rfl (lv_at hl 0 rfl) ?_
    cases hm
    exact x_iret X hP hS hr hlocks dX6_valueOf_260

set_option maxHeartbeats 4000000 in
set_option maxRecDepth 100000 in
theorem wj_X6_valueOf_220 (X : CxG g p s m args c cX6_valueOf 9 RX6 wsX6_valueOf) (hAll : okAll g) {M : Mem} {s1 : Int32} {s2 : Int32} {s3 : Int32} {s4 : Int32} {rr : Int32} (hr : meth.sig.returnType = (some .int)) (hlocks : meth.locks = false) (hm : j_X6_valueOf_220 M s1 s2 s3 s4 = some rr) {H : Heap} {locs : List Loc} {ls : Array Slot} (hP : va_P (gD g) vwCl (wlG g M) H) (hS : va_S (AbG g) s.heap H locs) (hl : lv_has ls 9 [(0, .ref (ga g 148)), (1, .int s1), (2, .int s2), (3, .int s3), (4, .int s4)]) : W p l e (headSpec wsX6_valueOf rmX6_valueOf).room s m args below meth c H locs 0 0 (MQ below (va_Qi (fun (q : Int32) (_ : Unit) => q = rr) (fun _ t => va_P (gD g) vwCl (wlG g M) t.heap) (AbG g)) args s 0 0 (AbG g)) (F0 m 220 ls []) := by
  obtain ⟨⟨hx, hb, hml, hown, hts⟩, -, -⟩ := id X
  unfold j_X6_valueOf_220 at hm
  refine lv_aload_n hx hb dX6_valueOf_220 rfl (lv_at hl 0 rfl) ?_
  refine xg_X6_44 X hP hAll uX6_valueOf_X6 mbX6_valueOf_2 dX6_valueOf_221 ?_
  refine lv_iload_n hx hb dX6_valueOf_224 rfl (lv_at hl 3 rfl) ?_
  obtain ⟨hb_13, hm⟩ := chk_elim hm
  refine x_iald X hP (okc_176 hAll) hb_13 dX6_valueOf_225 ?_
  refine lv_iconst (v := 3) hx hb dX6_valueOf_226 (by decide) ?_
  refine lv_icmp_ne (tgt := 239) hx hb dX6_valueOf_227 (by decide) (fun h_14 => ?_) (fun h_14 => ?_)
  · rw [if_neg h_14] at hm
    exact wj_X6_valueOf_239 X hAll hr hlocks hm hP hS (lv_sub hl [0, 1, 2, 4] rfl)
  · rw [if_pos h_14] at hm
    refine lv_iload_n hx hb dX6_valueOf_230 rfl (lv_at hl 2 rfl) ?_
    refine lv_aload_n hx hb dX6_valueOf_231 rfl (lv_at hl 0 rfl) ?_
    refine lv_iload_n hx hb dX6_valueOf_232 rfl (lv_at hl 1 rfl) ?_
    refine lv_iload_n hx hb dX6_valueOf_233 rfl (lv_at hl 3 rfl) ?_
    obtain ⟨r_22, hc_21, hm⟩ := bind_elim hm
    refine x_calli (x_runV (As := [.int s1, .int s3]) (rest := [.int s2]) X hP hS (c_X6_lossBy l X.2.2 hAll hc_21) (cwV 2 hts gX6_valueOf_X6_lossBy rfl rfl rfl (by decide +kernel) ⟨Nat.le_of_ble_eq_true rfl, Nat.le_of_ble_eq_true rfl⟩) (x_recv (C := RX6) (T := TX6) (N := 55) X hP (okc_148 hAll) rfl) rfl hl.1 rfl (Nat.le_of_ble_eq_true rfl) dX6_valueOf_234 ⟨Nat.zero_le _, Nat.zero_le _⟩) hS (fun H locs hP hS => ?_)
    refine lv_isub hx hb dX6_valueOf_237 ?_
    obtain ⟨v_23, hv_24, hm⟩ := bnd_elim hm
    refine x_name hv_24 ?_
    refine lv_istore_n (lv' := [(2, .int v_23), (0, .ref (ga g 148)), (1, .int s1), (3, .int s3), (4, .int s4)]) hx hb dX6_valueOf_238 rfl hl (by decide) rfl (fun ls hl => ?_)
    exact wj_X6_valueOf_239 X hAll hr hlocks hm hP hS (lv_sub hl [1, 2, 0, 4] rfl)

set_option maxHeartbeats 4000000 in
set_option maxRecDepth 100000 in
theorem wj_X6_valueOf_127 (X : CxG g p s m args c cX6_valueOf 9 RX6 wsX6_valueOf) (hAll : okAll g) {M : Mem} {s1 : Int32} {s2 : Int32} {s3 : Int32} {s4 : Int32} {s5 : Int32} {t0 : Int32} {rr : Int32} (hr : meth.sig.returnType = (some .int)) (hlocks : meth.locks = false) (hm : j_X6_valueOf_127 M s1 s2 s3 s4 s5 t0 = some rr) {H : Heap} {locs : List Loc} {ls : Array Slot} (hP : va_P (gD g) vwCl (wlG g M) H) (hS : va_S (AbG g) s.heap H locs) (hl : lv_has ls 9 [(0, .ref (ga g 148)), (1, .int s1), (2, .int s2), (3, .int s3), (4, .int s4), (5, .int s5)]) : W p l e (headSpec wsX6_valueOf rmX6_valueOf).room s m args below meth c H locs 0 0 (MQ below (va_Qi (fun (q : Int32) (_ : Unit) => q = rr) (fun _ t => va_P (gD g) vwCl (wlG g M) t.heap) (AbG g)) args s 0 0 (AbG g)) (F0 m 127 ls [.int t0]) := by
  obtain ⟨⟨hx, hb, hml, hown, hts⟩, -, -⟩ := id X
  unfold j_X6_valueOf_127 at hm
  refine lv_istore (lv' := [(6, .int t0), (0, .ref (ga g 148)), (1, .int s1), (2, .int s2), (3, .int s3), (4, .int s4), (5, .int s5)]) hx hb dX6_valueOf_127 hl (by decide) rfl (fun ls hl => ?_)
  refine lv_aload_n hx hb dX6_valueOf_129 rfl (lv_at hl 1 rfl) ?_
  refine lv_iload hx hb dX6_valueOf_130 (lv_at hl 6 rfl) ?_
  obtain ⟨r_29, hc_28, hm⟩ := bind_elim hm
  refine x_calli (x_runV (As := [.int s5]) (rest := []) X hP hS (c_X6_canMove l X.2.2 hAll hc_28) (cwV 1 hts gX6_valueOf_X6_canMove rfl rfl rfl (by decide +kernel) ⟨Nat.le_of_ble_eq_true rfl, Nat.le_of_ble_eq_true rfl⟩) (x_recv (C := RX6) (T := TX6) (N := 55) X hP (okc_148 hAll) rfl) rfl hl.1 rfl (Nat.le_of_ble_eq_true rfl) dX6_valueOf_132 ⟨Nat.zero_le _, Nat.zero_le _⟩) hS (fun H locs hP hS => ?_)
  refine lv_if_eq (tgt := 220) hx hb dX6_valueOf_135 (by decide) (fun h_30 => ?_) (fun h_30 => ?_)
  · rw [if_pos h_30] at hm
    exact wj_X6_valueOf_220 X hAll hr hlocks hm hP hS (lv_sub hl [1, 2, 3, 4, 5] rfl)
  · rw [if_neg h_30] at hm
    refine lv_aload_n hx hb dX6_valueOf_138 rfl (lv_at hl 1 rfl) ?_
    refine lv_iload hx hb dX6_valueOf_139 (lv_at hl 6 rfl) ?_
    refine lv_iload hx hb dX6_valueOf_141 (lv_at hl 0 rfl) ?_
    refine lv_aload_n hx hb dX6_valueOf_143 rfl (lv_at hl 1 rfl) ?_
    refine xg_X6_44 X hP hAll uX6_valueOf_X6 mbX6_valueOf_2 dX6_valueOf_144 ?_
    refine lv_iload hx hb dX6_valueOf_147 (lv_at hl 0 rfl) ?_
    obtain ⟨hb_31, hm⟩ := chk_elim hm
    refine x_iald X hP (okc_176 hAll) hb_31 dX6_valueOf_149 ?_
    obtain ⟨r_33, hc_32, hm⟩ := bind_elim hm
    refine x_calli (x_runV (As := [.int s5, .int t0, .int (rd M 176 (ix t0))]) (rest := []) X hP hS (c_X6_chanceOf l X.2.2 hAll hc_32) (cwV 3 hts gX6_valueOf_X6_chanceOf rfl rfl rfl (by decide +kernel) ⟨Nat.le_of_ble_eq_true rfl, Nat.le_of_ble_eq_true rfl⟩) (x_recv (C := RX6) (T := TX6) (N := 55) X hP (okc_148 hAll) rfl) rfl hl.1 rfl (Nat.le_of_ble_eq_true rfl) dX6_valueOf_150 ⟨Nat.zero_le _, Nat.zero_le _⟩) hS (fun H locs hP hS => ?_)
    refine lv_istore (lv' := [(7, .int r_33), (6, .int t0), (0, .ref (ga g 148)), (1, .int s1), (2, .int s2), (3, .int s3), (4, .int s4), (5, .int s5)]) hx hb dX6_valueOf_153 hl (by decide) rfl (fun ls hl => ?_)
    refine lv_aload_n hx hb dX6_valueOf_155 rfl (lv_at hl 2 rfl) ?_
    refine lv_aload_n hx hb dX6_valueOf_156 rfl (lv_at hl 2 rfl) ?_
    refine xg_X6_18 X hP hAll uX6_valueOf_X6 mbX6_valueOf_3 dX6_valueOf_157 ?_
    refine lv_bipush (v := 9) hx hb dX6_valueOf_160 (by decide) ?_
    refine x_iald X hP (okc_162 hAll) (show inb 9 10 = true from rfl) dX6_valueOf_162 ?_
    refine lv_aload_n hx hb dX6_valueOf_163 rfl (lv_at hl 2 rfl) ?_
    refine xg_X6_5 X hP hAll uX6_valueOf_X6 mbX6_valueOf_4 dX6_valueOf_164 ?_
    refine lv_iload hx hb dX6_valueOf_167 (lv_at hl 1 rfl) ?_
    refine x_iald X hP (okc_149 hAll) hb_31 dX6_valueOf_169 ?_
    obtain ⟨r_35, hc_34, hm⟩ := bind_elim hm
    refine x_calli (x_runV (As := [.int (rd M 162 (ix 9)), .int (rd M 149 (ix t0))]) (rest := []) X hP hS (c_X6_less l X.2.2 hc_34) (cwV 2 hts gX6_valueOf_X6_less rfl rfl rfl (by decide +kernel) ⟨Nat.le_of_ble_eq_true rfl, Nat.le_of_ble_eq_true rfl⟩) (x_recv (C := RX6) (T := TX6) (N := 55) X hP (okc_148 hAll) rfl) rfl hl.1 rfl (Nat.le_of_ble_eq_true rfl) dX6_valueOf_170 ⟨Nat.zero_le _, Nat.zero_le _⟩) hS (fun H locs hP hS => ?_)
    refine lv_istore (lv' := [(8, .int r_35), (7, .int r_33), (6, .int t0), (0, .ref (ga g 148)), (1, .int s1), (2, .int s2), (3, .int s3), (4, .int s4), (5, .int s5)]) hx hb dX6_valueOf_173 hl (by decide) rfl (fun ls hl => ?_)
    refine lv_iload_n hx hb dX6_valueOf_175 rfl (lv_at hl 5 rfl) ?_
    refine lv_iload hx hb dX6_valueOf_176 (lv_at hl 1 rfl) ?_
    refine lv_aload_n hx hb dX6_valueOf_178 rfl (lv_at hl 3 rfl) ?_
    refine lv_aload_n hx hb dX6_valueOf_179 rfl (lv_at hl 3 rfl) ?_
    refine xg_X6_5 X hP hAll uX6_valueOf_X6 mbX6_valueOf_4 dX6_valueOf_180 ?_
    refine lv_iload_n hx hb dX6_valueOf_183 rfl (lv_at hl 4 rfl) ?_
    obtain ⟨hb_36, hm⟩ := chk_elim hm
    refine x_iald X hP (okc_149 hAll) hb_36 dX6_valueOf_184 ?_
    refine lv_iload hx hb dX6_valueOf_185 (lv_at hl 0 rfl) ?_
    refine lv_iadd hx hb dX6_valueOf_187 ?_
    obtain ⟨r_38, hc_37, hm⟩ := bind_elim hm
    refine x_calli (x_runV (As := [.int ((rd M 149 (ix s1)) + r_35)]) (rest := [.int r_33, .int s2]) X hP hS (c_X6_worthOf l X.2.2 hAll hc_37) (cwV 1 hts gX6_valueOf_X6_worthOf rfl rfl rfl (by decide +kernel) ⟨Nat.le_of_ble_eq_true rfl, Nat.le_of_ble_eq_true rfl⟩) (x_recv (C := RX6) (T := TX6) (N := 55) X hP (okc_148 hAll) rfl) rfl hl.1 rfl (Nat.le_of_ble_eq_true rfl) dX6_valueOf_188 ⟨Nat.zero_le _, Nat.zero_le _⟩) hS (fun H locs hP hS => ?_)
    refine lv_aload_n hx hb dX6_valueOf_191 rfl (lv_at hl 3 rfl) ?_
    refine lv_aload_n hx hb dX6_valueOf_192 rfl (lv_at hl 3 rfl) ?_
    refine xg_X6_5 X hP hAll uX6_valueOf_X6 mbX6_valueOf_4 dX6_valueOf_193 ?_
    refine lv_iload_n hx hb dX6_valueOf_196 rfl (lv_at hl 4 rfl) ?_
    refine x_iald X hP (okc_149 hAll) hb_36 dX6_valueOf_197 ?_
    obtain ⟨r_40, hc_39, hm⟩ := bind_elim hm
    refine x_calli (x_runV (As := [.int (rd M 149 (ix s1))]) (rest := [.int r_38, .int r_33, .int s2]) X hP hS (c_X6_worthOf l X.2.2 hAll hc_39) (cwV 1 hts gX6_valueOf_X6_worthOf rfl rfl rfl (by decide +kernel) ⟨Nat.le_of_ble_eq_true rfl, Nat.le_of_ble_eq_true rfl⟩) (x_recv (C := RX6) (T := TX6) (N := 55) X hP (okc_148 hAll) rfl) rfl hl.1 rfl (Nat.le_of_ble_eq_true rfl) dX6_valueOf_198 ⟨Nat.zero_le _, Nat.zero_le _⟩) hS (fun H locs hP hS => ?_)
    refine lv_isub hx hb dX6_valueOf_201 ?_
    refine lv_imul hx hb dX6_valueOf_202 ?_
    refine lv_iadd hx hb dX6_valueOf_203 ?_
    refine lv_sipush (v := 1000) hx hb dX6_valueOf_204 (by decide) ?_
    refine lv_iload hx hb dX6_valueOf_207 (lv_at hl 1 rfl) ?_
    refine lv_isub hx hb dX6_valueOf_209 ?_
    refine lv_aload_n hx hb dX6_valueOf_210 rfl (lv_at hl 3 rfl) ?_
    refine xg_X6_18 X hP hAll uX6_valueOf_X6 mbX6_valueOf_3 dX6_valueOf_211 ?_
    refine lv_bipush (v := 6) hx hb dX6_valueOf_214 (by decide) ?_
    refine x_iald X hP (okc_162 hAll) (show inb 6 10 = true from rfl) dX6_valueOf_216 ?_
    refine lv_imul hx hb dX6_valueOf_217 ?_
    refine lv_isub hx hb dX6_valueOf_218 ?_
    obtain ⟨v_41, hv_42, hm⟩ := bnd_elim hm
    refine x_name hv_42 ?_
    refine lv_istore_n (lv' := [(2, .int v_41), (8, .int r_35), (7, .int r_33), (6, .int t0), (0, .ref (ga g 148)), (1, .int s1), (3, .int s3), (4, .int s4), (5, .int s5)]) hx hb dX6_valueOf_219 rfl hl (by decide) rfl (fun ls hl => ?_)
    exact wj_X6_valueOf_220 X hAll hr hlocks hm hP hS (lv_sub hl [4, 5, 0, 6, 7] rfl)

set_option maxHeartbeats 4000000 in
set_option maxRecDepth 100000 in
theorem wj_X6_valueOf_109 (X : CxG g p s m args c cX6_valueOf 9 RX6 wsX6_valueOf) (hAll : okAll g) {M : Mem} {s1 : Int32} {s2 : Int32} {s3 : Int32} {s4 : Int32} {t0 : Int32} {rr : Int32} (hr : meth.sig.returnType = (some .int)) (hlocks : meth.locks = false) (hm : j_X6_valueOf_109 M s1 s2 s3 s4 t0 = some rr) {H : Heap} {locs : List Loc} {ls : Array Slot} (hP : va_P (gD g) vwCl (wlG g M) H) (hS : va_S (AbG g) s.heap H locs) (hl : lv_has ls 9 [(0, .ref (ga g 148)), (1, .int s1), (2, .int s2), (3, .int s3), (4, .int s4)]) : W p l e (headSpec wsX6_valueOf rmX6_valueOf).room s m args below meth c H locs 0 0 (MQ below (va_Qi (fun (q : Int32) (_ : Unit) => q = rr) (fun _ t => va_P (gD g) vwCl (wlG g M) t.heap) (AbG g)) args s 0 0 (AbG g)) (F0 m 109 ls [.int t0]) := by
  obtain ⟨⟨hx, hb, hml, hown, hts⟩, -, -⟩ := id X
  unfold j_X6_valueOf_109 at hm
  refine lv_istore (lv' := [(5, .int t0), (0, .ref (ga g 148)), (1, .int s1), (2, .int s2), (3, .int s3), (4, .int s4)]) hx hb dX6_valueOf_109 hl (by decide) rfl (fun ls hl => ?_)
  refine lv_aload_n hx hb dX6_valueOf_111 rfl (lv_at hl 1 rfl) ?_
  refine xg_X6_44 X hP hAll uX6_valueOf_X6 mbX6_valueOf_2 dX6_valueOf_112 ?_
  refine lv_iload_n hx hb dX6_valueOf_115 rfl (lv_at hl 2 rfl) ?_
  obtain ⟨hb_26, hm⟩ := chk_elim hm
  refine x_iald X hP (okc_176 hAll) hb_26 dX6_valueOf_116 ?_
  refine lv_iconst (v := 2) hx hb dX6_valueOf_117 (by decide) ?_
  refine lv_icmp_ne (tgt := 125) hx hb dX6_valueOf_118 (by decide) (fun h_27 => ?_) (fun h_27 => ?_)
  · rw [if_neg h_27] at hm
    refine lv_iload hx hb dX6_valueOf_125 (lv_at hl 5 rfl) ?_
    exact wj_X6_valueOf_127 X hAll hr hlocks hm hP hS (lv_sub hl [1, 2, 3, 4, 5, 0] rfl)
  · rw [if_pos h_27] at hm
    refine lv_iload_n hx hb dX6_valueOf_121 rfl (lv_at hl 4 rfl) ?_
    refine lv_goto (tgt := 127) hx hb dX6_valueOf_122 (by decide) ?_
    exact wj_X6_valueOf_127 X hAll hr hlocks hm hP hS (lv_sub hl [1, 2, 3, 4, 5, 0] rfl)

set_option maxHeartbeats 4000000 in
set_option maxRecDepth 100000 in
theorem wj_X6_valueOf_71 (X : CxG g p s m args c cX6_valueOf 9 RX6 wsX6_valueOf) (hAll : okAll g) {M : Mem} {s1 : Int32} {s2 : Int32} {rr : Int32} (hr : meth.sig.returnType = (some .int)) (hlocks : meth.locks = false) (hm : j_X6_valueOf_71 M s1 s2 = some rr) {H : Heap} {locs : List Loc} {ls : Array Slot} (hP : va_P (gD g) vwCl (wlG g M) H) (hS : va_S (AbG g) s.heap H locs) (hl : lv_has ls 9 [(0, .ref (ga g 148)), (1, .int s1), (2, .int s2)]) : W p l e (headSpec wsX6_valueOf rmX6_valueOf).room s m args below meth c H locs 0 0 (MQ below (va_Qi (fun (q : Int32) (_ : Unit) => q = rr) (fun _ t => va_P (gD g) vwCl (wlG g M) t.heap) (AbG g)) args s 0 0 (AbG g)) (F0 m 71 ls []) := by
  obtain ⟨⟨hx, hb, hml, hown, hts⟩, -, -⟩ := id X
  unfold j_X6_valueOf_71 at hm
  refine lv_aload_n hx hb dX6_valueOf_71 rfl (lv_at hl 0 rfl) ?_
  refine lv_iload_n hx hb dX6_valueOf_72 rfl (lv_at hl 1 rfl) ?_
  obtain ⟨r_8, hc_7, hm⟩ := bind_elim hm
  refine x_calli (x_runV (As := [.int s1]) (rest := []) X hP hS (c_X6_leftOf l X.2.2 hAll hc_7) (cwV 1 hts gX6_valueOf_X6_leftOf rfl rfl rfl (by decide +kernel) ⟨Nat.le_of_ble_eq_true rfl, Nat.le_of_ble_eq_true rfl⟩) (x_recv (C := RX6) (T := TX6) (N := 55) X hP (okc_148 hAll) rfl) rfl hl.1 rfl (Nat.le_of_ble_eq_true rfl) dX6_valueOf_73 ⟨Nat.zero_le _, Nat.zero_le _⟩) hS (fun H locs hP hS => ?_)
  refine lv_istore_n (lv' := [(3, .int r_8), (0, .ref (ga g 148)), (1, .int s1), (2, .int s2)]) hx hb dX6_valueOf_76 rfl hl (by decide) rfl (fun ls hl => ?_)
  refine lv_aload_n hx hb dX6_valueOf_77 rfl (lv_at hl 1 rfl) ?_
  refine lv_iload_n hx hb dX6_valueOf_78 rfl (lv_at hl 2 rfl) ?_
  obtain ⟨r_10, hc_9, hm⟩ := bind_elim hm
  refine x_calli (x_runV (As := [.int s1]) (rest := []) X hP hS (c_X6_rightOf l X.2.2 hAll hc_9) (cwV 1 hts gX6_valueOf_X6_rightOf rfl rfl rfl (by decide +kernel) ⟨Nat.le_of_ble_eq_true rfl, Nat.le_of_ble_eq_true rfl⟩) (x_recv (C := RX6) (T := TX6) (N := 55) X hP (okc_148 hAll) rfl) rfl hl.1 rfl (Nat.le_of_ble_eq_true rfl) dX6_valueOf_79 ⟨Nat.zero_le _, Nat.zero_le _⟩) hS (fun H locs hP hS => ?_)
  refine lv_istore (lv' := [(4, .int r_10), (3, .int r_8), (0, .ref (ga g 148)), (1, .int s1), (2, .int s2)]) hx hb dX6_valueOf_82 hl (by decide) rfl (fun ls hl => ?_)
  refine lv_aload_n hx hb dX6_valueOf_84 rfl (lv_at hl 2 rfl) ?_
  refine xg_X6_44 X hP hAll uX6_valueOf_X6 mbX6_valueOf_2 dX6_valueOf_85 ?_
  refine lv_iload_n hx hb dX6_valueOf_88 rfl (lv_at hl 3 rfl) ?_
  obtain ⟨hb_11, hm⟩ := chk_elim hm
  refine x_iald X hP (okc_176 hAll) hb_11 dX6_valueOf_89 ?_
  refine lv_iconst (v := 1) hx hb dX6_valueOf_90 (by decide) ?_
  refine lv_icmp_le (tgt := 220) hx hb dX6_valueOf_91 (by decide) (fun h_12 => ?_) (fun h_12 => ?_)
  · rw [if_pos h_12] at hm
    exact wj_X6_valueOf_220 X hAll hr hlocks hm hP hS (lv_sub hl [2, 3, 4, 1, 0] rfl)
  · rw [if_neg h_12] at hm
    refine lv_aload_n hx hb dX6_valueOf_94 rfl (lv_at hl 2 rfl) ?_
    refine xg_X6_44 X hP hAll uX6_valueOf_X6 mbX6_valueOf_2 dX6_valueOf_95 ?_
    refine lv_iload_n hx hb dX6_valueOf_98 rfl (lv_at hl 3 rfl) ?_
    refine x_iald X hP (okc_176 hAll) hb_11 dX6_valueOf_99 ?_
    refine lv_iconst (v := 2) hx hb dX6_valueOf_100 (by decide) ?_
    refine lv_icmp_ne (tgt := 108) hx hb dX6_valueOf_101 (by decide) (fun h_25 => ?_) (fun h_25 => ?_)
    · rw [if_neg h_25] at hm
      refine lv_iload_n hx hb dX6_valueOf_108 rfl (lv_at hl 3 rfl) ?_
      exact wj_X6_valueOf_109 X hAll hr hlocks hm hP hS (lv_sub hl [2, 3, 4, 1, 0] rfl)
    · rw [if_pos h_25] at hm
      refine lv_iload_n hx hb dX6_valueOf_104 rfl (lv_at hl 1 rfl) ?_
      refine lv_goto (tgt := 109) hx hb dX6_valueOf_105 (by decide) ?_
      exact wj_X6_valueOf_109 X hAll hr hlocks hm hP hS (lv_sub hl [2, 3, 4, 1, 0] rfl)

set_option maxHeartbeats 4000000 in
set_option maxRecDepth 100000 in
theorem wj_X6_valueOf_48 (X : CxG g p s m args c cX6_valueOf 9 RX6 wsX6_valueOf) (hAll : okAll g) {M : Mem} {s1 : Int32} {s2 : Int32} {rr : Int32} (hr : meth.sig.returnType = (some .int)) (hlocks : meth.locks = false) (hm : j_X6_valueOf_48 M s1 s2 = some rr) {H : Heap} {locs : List Loc} {ls : Array Slot} (hP : va_P (gD g) vwCl (wlG g M) H) (hS : va_S (AbG g) s.heap H locs) (hl : lv_has ls 9 [(0, .ref (ga g 148)), (1, .int s1), (2, .int s2)]) : W p l e (headSpec wsX6_valueOf rmX6_valueOf).room s m args below meth c H locs 0 0 (MQ below (va_Qi (fun (q : Int32) (_ : Unit) => q = rr) (fun _ t => va_P (gD g) vwCl (wlG g M) t.heap) (AbG g)) args s 0 0 (AbG g)) (F0 m 48 ls []) := by
  obtain ⟨⟨hx, hb, hml, hown, hts⟩, -, -⟩ := id X
  unfold j_X6_valueOf_48 at hm
  refine lv_aload_n hx hb dX6_valueOf_48 rfl (lv_at hl 0 rfl) ?_
  refine xg_X6_44 X hP hAll uX6_valueOf_X6 mbX6_valueOf_2 dX6_valueOf_49 ?_
  refine lv_iload_n hx hb dX6_valueOf_52 rfl (lv_at hl 1 rfl) ?_
  obtain ⟨hb_5, hm⟩ := chk_elim hm
  refine x_iald X hP (okc_176 hAll) hb_5 dX6_valueOf_53 ?_
  refine lv_iconst (v := 1) hx hb dX6_valueOf_54 (by decide) ?_
  refine lv_icmp_le (tgt := 71) hx hb dX6_valueOf_55 (by decide) (fun h_6 => ?_) (fun h_6 => ?_)
  · rw [if_pos h_6] at hm
    exact wj_X6_valueOf_71 X hAll hr hlocks hm hP hS (lv_sub hl [0, 1, 2] rfl)
  · rw [if_neg h_6] at hm
    refine lv_iload_n hx hb dX6_valueOf_58 rfl (lv_at hl 2 rfl) ?_
    refine lv_sipush (v := 1000) hx hb dX6_valueOf_59 (by decide) ?_
    refine lv_aload_n hx hb dX6_valueOf_62 rfl (lv_at hl 0 rfl) ?_
    refine xg_X6_18 X hP hAll uX6_valueOf_X6 mbX6_valueOf_3 dX6_valueOf_63 ?_
    refine lv_iconst (v := 3) hx hb dX6_valueOf_66 (by decide) ?_
    refine x_iald X hP (okc_162 hAll) (show inb 3 10 = true from rfl) dX6_valueOf_67 ?_
    refine lv_imul hx hb dX6_valueOf_68 ?_
    refine lv_isub hx hb dX6_valueOf_69 ?_
    obtain ⟨v_43, hv_44, hm⟩ := bnd_elim hm
    refine x_name hv_44 ?_
    refine lv_istore_n (lv' := [(2, .int v_43), (0, .ref (ga g 148)), (1, .int s1)]) hx hb dX6_valueOf_70 rfl hl (by decide) rfl (fun ls hl => ?_)
    exact wj_X6_valueOf_71 X hAll hr hlocks hm hP hS (lv_sub hl [1, 2, 0] rfl)

set_option maxHeartbeats 4000000 in
set_option maxRecDepth 100000 in
theorem wj_X6_valueOf_24 (X : CxG g p s m args c cX6_valueOf 9 RX6 wsX6_valueOf) (hAll : okAll g) {M : Mem} {s1 : Int32} {t0 : Int32} {rr : Int32} (hr : meth.sig.returnType = (some .int)) (hlocks : meth.locks = false) (hm : j_X6_valueOf_24 M s1 t0 = some rr) {H : Heap} {locs : List Loc} {ls : Array Slot} (hP : va_P (gD g) vwCl (wlG g M) H) (hS : va_S (AbG g) s.heap H locs) (hl : lv_has ls 9 [(0, .ref (ga g 148)), (1, .int s1)]) : W p l e (headSpec wsX6_valueOf rmX6_valueOf).room s m args below meth c H locs 0 0 (MQ below (va_Qi (fun (q : Int32) (_ : Unit) => q = rr) (fun _ t => va_P (gD g) vwCl (wlG g M) t.heap) (AbG g)) args s 0 0 (AbG g)) (F0 m 24 ls [.int t0]) := by
  obtain ⟨⟨hx, hb, hml, hown, hts⟩, -, -⟩ := id X
  unfold j_X6_valueOf_24 at hm
  refine lv_istore_n (lv' := [(2, .int t0), (0, .ref (ga g 148)), (1, .int s1)]) hx hb dX6_valueOf_24 rfl hl (by decide) rfl (fun ls hl => ?_)
  refine lv_aload_n hx hb dX6_valueOf_25 rfl (lv_at hl 1 rfl) ?_
  refine xg_X6_44 X hP hAll uX6_valueOf_X6 mbX6_valueOf_2 dX6_valueOf_26 ?_
  refine lv_iload_n hx hb dX6_valueOf_29 rfl (lv_at hl 2 rfl) ?_
  obtain ⟨hb_3, hm⟩ := chk_elim hm
  refine x_iald X hP (okc_176 hAll) hb_3 dX6_valueOf_30 ?_
  refine lv_iconst (v := 1) hx hb dX6_valueOf_31 (by decide) ?_
  refine lv_icmp_ne (tgt := 48) hx hb dX6_valueOf_32 (by decide) (fun h_4 => ?_) (fun h_4 => ?_)
  · rw [if_neg h_4] at hm
    exact wj_X6_valueOf_48 X hAll hr hlocks hm hP hS (lv_sub hl [1, 2, 0] rfl)
  · rw [if_pos h_4] at hm
    refine lv_iload_n hx hb dX6_valueOf_35 rfl (lv_at hl 0 rfl) ?_
    refine lv_sipush (v := 1000) hx hb dX6_valueOf_36 (by decide) ?_
    refine lv_aload_n hx hb dX6_valueOf_39 rfl (lv_at hl 1 rfl) ?_
    refine xg_X6_18 X hP hAll uX6_valueOf_X6 mbX6_valueOf_3 dX6_valueOf_40 ?_
    refine lv_iconst (v := 4) hx hb dX6_valueOf_43 (by decide) ?_
    refine x_iald X hP (okc_162 hAll) (show inb 4 10 = true from rfl) dX6_valueOf_44 ?_
    refine lv_imul hx hb dX6_valueOf_45 ?_
    refine lv_isub hx hb dX6_valueOf_46 ?_
    obtain ⟨v_45, hv_46, hm⟩ := bnd_elim hm
    refine x_name hv_46 ?_
    refine lv_istore_n (lv' := [(2, .int v_45), (0, .ref (ga g 148)), (1, .int s1)]) hx hb dX6_valueOf_47 rfl hl (by decide) rfl (fun ls hl => ?_)
    exact wj_X6_valueOf_48 X hAll hr hlocks hm hP hS (lv_sub hl [1, 2, 0] rfl)

set_option maxHeartbeats 4000000 in
set_option maxRecDepth 100000 in
theorem c_X6_valueOf (l : Launch) {g : GT} (hA : AxG g) (hAll : okAll g)   {M : Mem} {a1 : Int32} {rr : Int32} (hm : m_X6_valueOf M a1 = some rr) : CI l yX6_valueOf wsX6_valueOf rmX6_valueOf g [.ref (ga g 148), .int a1] M rr M := by
  refine Met.ofW (cc := cX6_valueOf) (maxL := 9) (ret := (some .int)) (by decide) rfl ?_
  intro p e s m args below meth c s₁ B hml hv
  obtain ⟨rfl, hSx, hP⟩ := hv
  have hr := B.returns
  have hlocks := B.notSynchronized
  have X : CxG g p s m _ c cX6_valueOf 9 RX6 wsX6_valueOf := ⟨⟨B.exec, B.bytes, hml, findClass_of_methodNamed B.named, atoms_spec (ws := wsX6_valueOf) B.pre⟩, hSx, hA⟩
  have hS : va_S (AbG g) s.heap s.heap [] := va_S.rf
  have hl := lv_entry (([.ref (ga g 148), .int a1] : List Value)) (n := 9) (Nat.le_of_ble_eq_true rfl)
  rw [lg_entry_eq]
  generalize (lg_sl (([.ref (ga g 148), .int a1] : List Value)) ++ List.replicate (9 - (lg_sl (([.ref (ga g 148), .int a1] : List Value))).length) Slot.unset).toArray = ls at hl ⊢
  have hl : lv_has ls 9 [(0, .ref (ga g 148)), (1, .int a1)] := hl
  obtain ⟨⟨hx, hb, hml, hown, hts⟩, -, -⟩ := id X
  unfold m_X6_valueOf at hm
  refine lv_aload_n hx hb dX6_valueOf_0 rfl (lv_at hl 0 rfl) ?_
  refine xg_X6_8 X hP hAll uX6_valueOf_X6 mbX6_valueOf_1 dX6_valueOf_1 ?_
  refine lv_iload_n hx hb dX6_valueOf_4 rfl (lv_at hl 1 rfl) ?_
  obtain ⟨hb_1, hm⟩ := chk_elim hm
  refine x_iald X hP (okc_152 hAll) hb_1 dX6_valueOf_5 ?_
  refine lv_iconst (v := 1) hx hb dX6_valueOf_6 (by decide) ?_
  refine lv_icmp_ne (tgt := 23) hx hb dX6_valueOf_7 (by decide) (fun h_2 => ?_) (fun h_2 => ?_)
  · rw [if_neg h_2] at hm
    refine lv_iconst (v := 0) hx hb dX6_valueOf_23 (by decide) ?_
    exact wj_X6_valueOf_24 X hAll hr hlocks hm hP hS (lv_sub hl [0, 1] rfl)
  · rw [if_pos h_2] at hm
    refine lv_sipush (v := (-1000)) hx hb dX6_valueOf_10 (by decide) ?_
    refine lv_aload_n hx hb dX6_valueOf_13 rfl (lv_at hl 0 rfl) ?_
    refine xg_X6_18 X hP hAll uX6_valueOf_X6 mbX6_valueOf_3 dX6_valueOf_14 ?_
    refine lv_iconst (v := 5) hx hb dX6_valueOf_17 (by decide) ?_
    refine x_iald X hP (okc_162 hAll) (show inb 5 10 = true from rfl) dX6_valueOf_18 ?_
    refine lv_imul hx hb dX6_valueOf_19 ?_
    refine lv_goto (tgt := 24) hx hb dX6_valueOf_20 (by decide) ?_
    exact wj_X6_valueOf_24 X hAll hr hlocks hm hP hS (lv_sub hl [0, 1] rfl)


/-! X6_isRow -/
def rmX6_isRow : Room := { frames := 0, cells := 0, slots := 0, locals := 0 }
theorem uX6_isRow_X6 : ∀ w ∈ wsX60, w ∈ wsX6_isRow := by decide +kernel
theorem mbX6_isRow_1 : Cond.fieldLink RX6 7 "FootANightModel" "n" "I" ∈ wsX6_isRow := by decide +kernel
set_option maxHeartbeats 4000000 in
set_option maxRecDepth 100000 in
theorem c_X6_isRow (l : Launch) {g : GT} (hA : AxG g) (hAll : okAll g)   {M : Mem} {a1 : Int32} {rr : Int32} (hm : m_X6_isRow M a1 = some rr) : CI l yX6_isRow wsX6_isRow rmX6_isRow g [.ref (ga g 148), .int a1] M rr M := by
  refine Met.ofW (cc := cX6_isRow) (maxL := 2) (ret := (some .boolean)) (by decide) rfl ?_
  intro p e s m args below meth c s₁ B hml hv
  obtain ⟨rfl, hSx, hP⟩ := hv
  have hr := B.returns
  have hlocks := B.notSynchronized
  have X : CxG g p s m _ c cX6_isRow 2 RX6 wsX6_isRow := ⟨⟨B.exec, B.bytes, hml, findClass_of_methodNamed B.named, atoms_spec (ws := wsX6_isRow) B.pre⟩, hSx, hA⟩
  have hS : va_S (AbG g) s.heap s.heap [] := va_S.rf
  have hl := lv_entry (([.ref (ga g 148), .int a1] : List Value)) (n := 2) (Nat.le_of_ble_eq_true rfl)
  rw [lg_entry_eq]
  generalize (lg_sl (([.ref (ga g 148), .int a1] : List Value)) ++ List.replicate (2 - (lg_sl (([.ref (ga g 148), .int a1] : List Value))).length) Slot.unset).toArray = ls at hl ⊢
  have hl : lv_has ls 2 [(0, .ref (ga g 148)), (1, .int a1)] := hl
  obtain ⟨⟨hx, hb, hml, hown, hts⟩, -, -⟩ := id X
  unfold m_X6_isRow at hm
  refine lv_iload_n hx hb dX6_isRow_0 rfl (lv_at hl 1 rfl) ?_
  refine lv_if_lt (tgt := 20) hx hb dX6_isRow_1 (by decide) (fun h_1 => ?_) (fun h_1 => ?_)
  · rw [if_pos h_1] at hm
    refine lv_iconst (v := 0) hx hb dX6_isRow_20 (by decide) ?_
    cases hm
    exact x_zret X (by decide) hP hS hr hlocks dX6_isRow_21
  · rw [if_neg h_1] at hm
    refine lv_iload_n hx hb dX6_isRow_4 rfl (lv_at hl 1 rfl) ?_
    refine lv_iconst (v := 1) hx hb dX6_isRow_5 (by decide) ?_
    refine lv_iconst (v := 2) hx hb dX6_isRow_6 (by decide) ?_
    refine lv_aload_n hx hb dX6_isRow_7 rfl (lv_at hl 0 rfl) ?_
    refine xg_X6_2 X hP hAll uX6_isRow_X6 mbX6_isRow_1 dX6_isRow_8 ?_
    refine lv_imul hx hb dX6_isRow_11 ?_
    refine lv_ishl hx hb dX6_isRow_12 ?_
    refine lv_icmp_ge (tgt := 20) hx hb dX6_isRow_13 (by decide) (fun h_2 => ?_) (fun h_2 => ?_)
    · rw [if_pos h_2] at hm
      refine lv_iconst (v := 0) hx hb dX6_isRow_20 (by decide) ?_
      cases hm
      exact x_zret X (by decide) hP hS hr hlocks dX6_isRow_21
    · rw [if_neg h_2] at hm
      refine lv_iconst (v := 1) hx hb dX6_isRow_16 (by decide) ?_
      refine lv_goto (tgt := 21) hx hb dX6_isRow_17 (by decide) ?_
      cases hm
      exact x_zret X (by decide) hP hS hr hlocks dX6_isRow_21


/-! X6_value -/
def rmX6_value : Room := { frames := 4, cells := 0, slots := 0, locals := 96 }
theorem uX6_value_X6 : ∀ w ∈ wsX60, w ∈ wsX6_value := by decide +kernel
theorem mbX6_value_1 : Cond.fieldLink RX6 121 "FootANightModel" "told" "I" ∈ wsX6_value := by decide +kernel
theorem mbX6_value_2 : Cond.constant RX6 276 (-100000000) ∈ wsX6_value := by decide +kernel
set_option maxHeartbeats 4000000 in
set_option maxRecDepth 100000 in
theorem c_X6_value (l : Launch) {g : GT} (hA : AxG g) (hAll : okAll g)   {fu : Nat} {M : Mem} {a1 : Int32} {a2 : Int32} {rr : Int32} {MM : Mem} (hm : m_X6_value fu M a1 a2 = some (rr, MM)) : CI l yX6_value wsX6_value rmX6_value g [.ref (ga g 148), .int a1, .int a2] M rr MM := by
  refine Met.ofW (cc := cX6_value) (maxL := 3) (ret := (some .int)) (by decide) rfl ?_
  intro p e s m args below meth c s₁ B hml hv
  obtain ⟨rfl, hSx, hP⟩ := hv
  have hr := B.returns
  have hlocks := B.notSynchronized
  have X : CxG g p s m _ c cX6_value 3 RX6 wsX6_value := ⟨⟨B.exec, B.bytes, hml, findClass_of_methodNamed B.named, atoms_spec (ws := wsX6_value) B.pre⟩, hSx, hA⟩
  have hS : va_S (AbG g) s.heap s.heap [] := va_S.rf
  have hl := lv_entry (([.ref (ga g 148), .int a1, .int a2] : List Value)) (n := 3) (Nat.le_of_ble_eq_true rfl)
  rw [lg_entry_eq]
  generalize (lg_sl (([.ref (ga g 148), .int a1, .int a2] : List Value)) ++ List.replicate (3 - (lg_sl (([.ref (ga g 148), .int a1, .int a2] : List Value))).length) Slot.unset).toArray = ls at hl ⊢
  have hl : lv_has ls 3 [(0, .ref (ga g 148)), (1, .int a1), (2, .int a2)] := hl
  obtain ⟨⟨hx, hb, hml, hown, hts⟩, -, -⟩ := id X
  unfold m_X6_value at hm
  refine lv_aload_n hx hb dX6_value_0 rfl (lv_at hl 0 rfl) ?_
  refine lv_iconst (v := 0) hx hb dX6_value_1 (by decide) ?_
  obtain ⟨M_1, hM_2, hm⟩ := bnd_elim hm
  refine xp_X6_0 X hP hAll uX6_value_X6 mbX6_value_1 hS hM_2 dX6_value_2 (fun H locs hP hS => ?_)
  refine lv_aload_n hx hb dX6_value_5 rfl (lv_at hl 0 rfl) ?_
  refine lv_iload_n hx hb dX6_value_6 rfl (lv_at hl 1 rfl) ?_
  obtain ⟨r_4, hc_3, hm⟩ := bind_elim hm
  refine x_calli (x_runV (As := [.int a1]) (rest := []) X hP hS (c_X6_isRow l X.2.2 hAll hc_3) (cwV 1 hts gX6_value_X6_isRow rfl rfl rfl (by decide +kernel) ⟨Nat.le_of_ble_eq_true rfl, Nat.le_of_ble_eq_true rfl⟩) (x_recv (C := RX6) (T := TX6) (N := 55) X hP (okc_148 hAll) rfl) rfl hl.1 rfl (Nat.le_of_ble_eq_true rfl) dX6_value_7 ⟨Nat.zero_le _, Nat.zero_le _⟩) hS (fun H locs hP hS => ?_)
  refine lv_if_eq (tgt := 21) hx hb dX6_value_10 (by decide) (fun h_5 => ?_) (fun h_5 => ?_)
  · rw [if_pos h_5] at hm
    refine lv_ldcw (v := (-100000000)) hx hb hown (hts _ mbX6_value_2) dX6_value_21 ?_
    cases hm
    exact x_iret X hP hS hr hlocks dX6_value_24
  · rw [if_neg h_5] at hm
    refine lv_aload_n hx hb dX6_value_13 rfl (lv_at hl 0 rfl) ?_
    refine lv_iload_n hx hb dX6_value_14 rfl (lv_at hl 2 rfl) ?_
    obtain ⟨r_7, hc_6, hm⟩ := bind_elim hm
    refine x_calli (x_runV (As := [.int a2]) (rest := []) X hP hS (c_X6_isFarm l X.2.2 hAll hc_6) (cwV 1 hts gX6_value_X6_isFarm rfl rfl rfl (by decide +kernel) ⟨Nat.le_of_ble_eq_true rfl, Nat.le_of_ble_eq_true rfl⟩) (x_recv (C := RX6) (T := TX6) (N := 55) X hP (okc_148 hAll) rfl) rfl hl.1 rfl (Nat.le_of_ble_eq_true rfl) dX6_value_15 ⟨Nat.zero_le _, Nat.zero_le _⟩) hS (fun H locs hP hS => ?_)
    refine lv_if_ne (tgt := 25) hx hb dX6_value_18 (by decide) (fun h_8 => ?_) (fun h_8 => ?_)
    · rw [if_neg h_8] at hm
      refine lv_aload_n hx hb dX6_value_25 rfl (lv_at hl 0 rfl) ?_
      refine lv_iload_n hx hb dX6_value_26 rfl (lv_at hl 1 rfl) ?_
      obtain ⟨M_10, hc_9, hm⟩ := bind_elim hm
      refine x_callv (x_runV (As := [.int a1]) (rest := []) X hP hS (c_X6_takesRow l X.2.2 hAll hc_9) (cwV 1 hts gX6_value_X6_takesRow rfl rfl rfl (by decide +kernel) ⟨Nat.le_of_ble_eq_true rfl, Nat.le_of_ble_eq_true rfl⟩) (x_recv (C := RX6) (T := TX6) (N := 55) X hP (okc_148 hAll) rfl) rfl hl.1 rfl (Nat.le_of_ble_eq_true rfl) dX6_value_27 ⟨Nat.zero_le _, Nat.zero_le _⟩) hS (fun H locs hP hS => ?_)
      refine lv_aload_n hx hb dX6_value_30 rfl (lv_at hl 0 rfl) ?_
      refine lv_iload_n hx hb dX6_value_31 rfl (lv_at hl 2 rfl) ?_
      obtain ⟨r_12, hc_11, hm⟩ := bind_elim hm
      refine x_calli (x_runV (As := [.int a2]) (rest := []) X hP hS (c_X6_valueOf l X.2.2 hAll hc_11) (cwV 1 hts gX6_value_X6_valueOf rfl rfl rfl (by decide +kernel) ⟨Nat.le_of_ble_eq_true rfl, Nat.le_of_ble_eq_true rfl⟩) (x_recv (C := RX6) (T := TX6) (N := 55) X hP (okc_148 hAll) rfl) rfl hl.1 rfl (Nat.le_of_ble_eq_true rfl) dX6_value_32 ⟨Nat.zero_le _, Nat.zero_le _⟩) hS (fun H locs hP hS => ?_)
      cases hm
      exact x_iret X hP hS hr hlocks dX6_value_35
    · rw [if_pos h_8] at hm
      refine lv_ldcw (v := (-100000000)) hx hb hown (hts _ mbX6_value_2) dX6_value_21 ?_
      cases hm
      exact x_iret X hP hS hr hlocks dX6_value_24


/-! X6_replyOf -/
def rmX6_replyOf : Room := { frames := 4, cells := 0, slots := 0, locals := 96 }
theorem uX6_replyOf_X6 : ∀ w ∈ wsX60, w ∈ wsX6_replyOf := by decide +kernel
theorem mbX6_replyOf_1 : Cond.fieldLink RX6 99 "FootANightModel" "row" "[I" ∈ wsX6_replyOf := by decide +kernel
set_option maxHeartbeats 4000000 in
set_option maxRecDepth 100000 in
theorem wl_X6_replyOf_15 (X : CxG g p s m args c cX6_replyOf 7 RX6 wsX6_replyOf) (hAll : okAll g) {fu : Nat} {s1 : Int32} {s2 : Int32} {x : Int32 × Mem} (kx0 : ∀ (d3 : Int32) (M2 : Mem) , x = (d3, M2) → ∀ (H : Heap) (locs : List Loc) (ls : Array Slot), va_P (gD g) vwCl (wlG g M2) H → va_S (AbG g) s.heap H locs → lv_has ls 7 [(0, .ref (ga g 148)), (1, .int s1), (2, .int s2), (3, .int d3)] → W p l e (headSpec wsX6_replyOf rmX6_replyOf).room s m args below meth c H locs 0 0 Q (F0 m 64 ls [])) {n : Nat} {q0 : Int32 × Int32 × Int32 × Mem} (h : lp (b_X6_replyOf_15 fu s1 s2) n q0 = some x) : ∀ (H : Heap) (locs : List Loc) (ls : Array Slot), va_P (gD g) vwCl (wlG g q0.2.2.2) H → va_S (AbG g) s.heap H locs → lv_has ls 7 [(0, .ref (ga g 148)), (1, .int s1), (2, .int s2), (3, .int q0.1), (4, .int q0.2.1), (5, .int q0.2.2.1)] → W p l e (headSpec wsX6_replyOf rmX6_replyOf).room s m args below meth c H locs 0 0 Q (F0 m 15 ls []) := by
  refine lp_elim (P := fun q0 : Int32 × Int32 × Int32 × Mem => ∀ (H : Heap) (locs : List Loc) (ls : Array Slot), va_P (gD g) vwCl (wlG g q0.2.2.2) H → va_S (AbG g) s.heap H locs → lv_has ls 7 [(0, .ref (ga g 148)), (1, .int s1), (2, .int s2), (3, .int q0.1), (4, .int q0.2.1), (5, .int q0.2.2.1)] → W p l e (headSpec wsX6_replyOf rmX6_replyOf).room s m args below meth c H locs 0 0 Q (F0 m 15 ls [])) (fun q1 o hm hI hX => ?_) n q0 h
  obtain ⟨c3, c4, c5, M⟩ := q1
  have kb : ∀ (d3 : Int32) (d4 : Int32) (d5 : Int32) (M2 : Mem) , o = .inl (d3, d4, d5, M2) → ∀ (H : Heap) (locs : List Loc) (ls : Array Slot), va_P (gD g) vwCl (wlG g M2) H → va_S (AbG g) s.heap H locs → lv_has ls 7 [(0, .ref (ga g 148)), (1, .int s1), (2, .int s2), (3, .int d3), (4, .int d4), (5, .int d5)] → W p l e (headSpec wsX6_replyOf rmX6_replyOf).room s m args below meth c H locs 0 0 Q (F0 m 15 ls []) := fun d3 d4 d5 M2 e => hI _ e
  have kx0 : ∀ (d3 : Int32) (M2 : Mem) , o = .inr (d3, M2) → ∀ (H : Heap) (locs : List Loc) (ls : Array Slot), va_P (gD g) vwCl (wlG g M2) H → va_S (AbG g) s.heap H locs → lv_has ls 7 [(0, .ref (ga g 148)), (1, .int s1), (2, .int s2), (3, .int d3)] → W p l e (headSpec wsX6_replyOf rmX6_replyOf).room s m args below meth c H locs 0 0 Q (F0 m 64 ls []) := fun d3 M2 e => kx0 d3 M2 (hX _ e).symm
  clear hI hX
  intro H locs ls hP hS hl
  obtain ⟨⟨hx, hb, hml, hown, hts⟩, -, -⟩ := id X
  have hl : lv_has ls 7 [(0, .ref (ga g 148)), (1, .int s1), (2, .int s2), (3, .int c3), (4, .int c4), (5, .int c5)] := hl
  have hP : va_P (gD g) vwCl (wlG g M) H := hP
  unfold b_X6_replyOf_15 at hm
  replace hm := un4_e hm
  refine lv_iload hx hb dX6_replyOf_15 (lv_at hl 5 rfl) ?_
  refine lv_iconst (v := 4) hx hb dX6_replyOf_17 (by decide) ?_
  refine lv_icmp_ge (tgt := 64) hx hb dX6_replyOf_18 (by decide) (fun h_4 => ?_) (fun h_4 => ?_)
  · rw [if_pos h_4] at hm
    exact kx0 c3 M (Option.some.inj hm).symm _ _ _ hP hS (lv_sub hl [0, 1, 2, 3] rfl)
  · rw [if_neg h_4] at hm
    refine lv_aload_n hx hb dX6_replyOf_21 rfl (lv_at hl 0 rfl) ?_
    refine xg_X6_44 X hP hAll uX6_replyOf_X6 mbX6_replyOf_1 dX6_replyOf_22 ?_
    refine lv_iload_n hx hb dX6_replyOf_25 rfl (lv_at hl 1 rfl) ?_
    refine lv_iload hx hb dX6_replyOf_26 (lv_at hl 5 rfl) ?_
    obtain ⟨hb_5, hm⟩ := chk_elim hm
    obtain ⟨M_6, hM_7, hm⟩ := bnd_elim hm
    refine x_iast X hP hS (okc_176 hAll) hM_7 hb_5 dX6_replyOf_28 (fun H locs hP hS => ?_)
    refine lv_aload_n hx hb dX6_replyOf_29 rfl (lv_at hl 0 rfl) ?_
    refine lv_iload_n hx hb dX6_replyOf_30 rfl (lv_at hl 1 rfl) ?_
    obtain ⟨r_9, hc_8, hm⟩ := bind_elim hm
    refine x_calli (x_runV (As := [.int s1]) (rest := []) X hP hS (c_X6_valueOf l X.2.2 hAll hc_8) (cwV 1 hts gX6_replyOf_X6_valueOf rfl rfl rfl (by decide +kernel) ⟨Nat.le_of_ble_eq_true rfl, Nat.le_of_ble_eq_true rfl⟩) (x_recv (C := RX6) (T := TX6) (N := 55) X hP (okc_148 hAll) rfl) rfl hl.1 rfl (Nat.le_of_ble_eq_true rfl) dX6_replyOf_31 ⟨Nat.zero_le _, Nat.zero_le _⟩) hS (fun H locs hP hS => ?_)
    refine lv_istore (lv' := [(6, .int r_9), (0, .ref (ga g 148)), (1, .int s1), (2, .int s2), (3, .int c3), (4, .int c4), (5, .int c5)]) hx hb dX6_replyOf_34 hl (by decide) rfl (fun ls hl => ?_)
    refine lv_iload hx hb dX6_replyOf_36 (lv_at hl 6 rfl) ?_
    refine lv_if_le (tgt := 51) hx hb dX6_replyOf_38 (by decide) (fun h_10 => ?_) (fun h_10 => ?_)
    · rw [if_pos h_10] at hm
      refine lv_iload hx hb dX6_replyOf_51 (lv_at hl 6 rfl) ?_
      refine lv_istore_n (lv' := [(3, .int c5), (6, .int r_9), (0, .ref (ga g 148)), (1, .int s1), (2, .int s2), (4, .int c4), (5, .int c5)]) hx hb dX6_replyOf_53 rfl hl (by decide) rfl (fun ls hl => ?_)
      refine lv_iload hx hb dX6_replyOf_54 (lv_at hl 1 rfl) ?_
      refine lv_istore (lv' := [(4, .int r_9), (3, .int c5), (6, .int r_9), (0, .ref (ga g 148)), (1, .int s1), (2, .int s2), (5, .int c5)]) hx hb dX6_replyOf_56 hl (by decide) rfl (fun ls hl => ?_)
      obtain ⟨v_11, hv_12, hm⟩ := bnd_elim hm
      refine lv_iinc (v := v_11) (lv' := [(5, .int v_11), (4, .int r_9), (3, .int c5), (6, .int r_9), (0, .ref (ga g 148)), (1, .int s1), (2, .int s2)]) hx hb dX6_replyOf_58 hl (k := 6) rfl (by rw [hv_12]; rfl) (by decide) rfl (fun ls hl => ?_)
      refine lv_goto (tgt := 15) hx hb dX6_replyOf_61 (by decide) ?_
      exact kb c5 r_9 v_11 M_6 (Option.some.inj hm).symm _ _ _ hP hS (lv_sub hl [4, 5, 6, 2, 1, 0] rfl)
    · rw [if_neg h_10] at hm
      refine lv_iload hx hb dX6_replyOf_41 (lv_at hl 0 rfl) ?_
      refine lv_iload hx hb dX6_replyOf_43 (lv_at hl 5 rfl) ?_
      refine lv_icmp_gt (tgt := 51) hx hb dX6_replyOf_45 (by decide) (fun h_13 => ?_) (fun h_13 => ?_)
      · rw [if_pos h_13] at hm
        refine lv_iload hx hb dX6_replyOf_51 (lv_at hl 6 rfl) ?_
        refine lv_istore_n (lv' := [(3, .int c5), (6, .int r_9), (0, .ref (ga g 148)), (1, .int s1), (2, .int s2), (4, .int c4), (5, .int c5)]) hx hb dX6_replyOf_53 rfl hl (by decide) rfl (fun ls hl => ?_)
        refine lv_iload hx hb dX6_replyOf_54 (lv_at hl 1 rfl) ?_
        refine lv_istore (lv' := [(4, .int r_9), (3, .int c5), (6, .int r_9), (0, .ref (ga g 148)), (1, .int s1), (2, .int s2), (5, .int c5)]) hx hb dX6_replyOf_56 hl (by decide) rfl (fun ls hl => ?_)
        obtain ⟨v_14, hv_15, hm⟩ := bnd_elim hm
        refine lv_iinc (v := v_14) (lv' := [(5, .int v_14), (4, .int r_9), (3, .int c5), (6, .int r_9), (0, .ref (ga g 148)), (1, .int s1), (2, .int s2)]) hx hb dX6_replyOf_58 hl (k := 6) rfl (by rw [hv_15]; rfl) (by decide) rfl (fun ls hl => ?_)
        refine lv_goto (tgt := 15) hx hb dX6_replyOf_61 (by decide) ?_
        exact kb c5 r_9 v_14 M_6 (Option.some.inj hm).symm _ _ _ hP hS (lv_sub hl [4, 5, 6, 2, 1, 0] rfl)
      · rw [if_neg h_13] at hm
        refine lv_goto (tgt := 58) hx hb dX6_replyOf_48 (by decide) ?_
        obtain ⟨v_16, hv_17, hm⟩ := bnd_elim hm
        refine lv_iinc (v := v_16) (lv' := [(5, .int v_16), (6, .int r_9), (0, .ref (ga g 148)), (1, .int s1), (2, .int s2), (3, .int c3), (4, .int c4)]) hx hb dX6_replyOf_58 hl (k := 6) rfl (by rw [hv_17]; rfl) (by decide) rfl (fun ls hl => ?_)
        refine lv_goto (tgt := 15) hx hb dX6_replyOf_61 (by decide) ?_
        exact kb c3 c4 v_16 M_6 (Option.some.inj hm).symm _ _ _ hP hS (lv_sub hl [2, 3, 4, 5, 6, 0] rfl)

set_option maxHeartbeats 4000000 in
set_option maxRecDepth 100000 in
theorem c_X6_replyOf (l : Launch) {g : GT} (hA : AxG g) (hAll : okAll g)   {fu : Nat} {M : Mem} {a1 : Int32} {rr : Int32} {MM : Mem} (hm : m_X6_replyOf fu M a1 = some (rr, MM)) : CI l yX6_replyOf wsX6_replyOf rmX6_replyOf g [.ref (ga g 148), .int a1] M rr MM := by
  refine Met.ofW (cc := cX6_replyOf) (maxL := 7) (ret := (some .int)) (by decide) rfl ?_
  intro p e s m args below meth c s₁ B hml hv
  obtain ⟨rfl, hSx, hP⟩ := hv
  have hr := B.returns
  have hlocks := B.notSynchronized
  have X : CxG g p s m _ c cX6_replyOf 7 RX6 wsX6_replyOf := ⟨⟨B.exec, B.bytes, hml, findClass_of_methodNamed B.named, atoms_spec (ws := wsX6_replyOf) B.pre⟩, hSx, hA⟩
  have hS : va_S (AbG g) s.heap s.heap [] := va_S.rf
  have hl := lv_entry (([.ref (ga g 148), .int a1] : List Value)) (n := 7) (Nat.le_of_ble_eq_true rfl)
  rw [lg_entry_eq]
  generalize (lg_sl (([.ref (ga g 148), .int a1] : List Value)) ++ List.replicate (7 - (lg_sl (([.ref (ga g 148), .int a1] : List Value))).length) Slot.unset).toArray = ls at hl ⊢
  have hl : lv_has ls 7 [(0, .ref (ga g 148)), (1, .int a1)] := hl
  obtain ⟨⟨hx, hb, hml, hown, hts⟩, -, -⟩ := id X
  unfold m_X6_replyOf at hm
  refine lv_aload_n hx hb dX6_replyOf_0 rfl (lv_at hl 0 rfl) ?_
  refine xg_X6_44 X hP hAll uX6_replyOf_X6 mbX6_replyOf_1 dX6_replyOf_1 ?_
  refine lv_iload_n hx hb dX6_replyOf_4 rfl (lv_at hl 1 rfl) ?_
  obtain ⟨hb_1, hm⟩ := chk_elim hm
  refine x_iald X hP (okc_176 hAll) hb_1 dX6_replyOf_5 ?_
  obtain ⟨v_2, hv_3, hm⟩ := bnd_elim hm
  refine x_name hv_3 ?_
  refine lv_istore_n (lv' := [(2, .int v_2), (0, .ref (ga g 148)), (1, .int a1)]) hx hb dX6_replyOf_6 rfl hl (by decide) rfl (fun ls hl => ?_)
  refine lv_iconst (v := 0) hx hb dX6_replyOf_7 (by decide) ?_
  refine lv_istore_n (lv' := [(3, .int 0), (2, .int v_2), (0, .ref (ga g 148)), (1, .int a1)]) hx hb dX6_replyOf_8 rfl hl (by decide) rfl (fun ls hl => ?_)
  refine lv_iconst (v := 0) hx hb dX6_replyOf_9 (by decide) ?_
  refine lv_istore (lv' := [(4, .int 0), (3, .int 0), (2, .int v_2), (0, .ref (ga g 148)), (1, .int a1)]) hx hb dX6_replyOf_10 hl (by decide) rfl (fun ls hl => ?_)
  refine lv_iconst (v := 0) hx hb dX6_replyOf_12 (by decide) ?_
  refine lv_istore (lv' := [(5, .int 0), (4, .int 0), (3, .int 0), (2, .int v_2), (0, .ref (ga g 148)), (1, .int a1)]) hx hb dX6_replyOf_13 hl (by decide) rfl (fun ls hl => ?_)
  obtain ⟨x_18, hL_19, hm⟩ := bind_elim hm
  refine wl_X6_replyOf_15 X hAll ?_ hL_19 _ _ _ hP hS (lv_sub hl [4, 5, 3, 2, 1, 0] rfl)
  · intro v_20 M_21 e_x_18 H locs ls hP hS hl
    subst e_x_18
    replace hm := un2_e hm
    refine lv_aload_n hx hb dX6_replyOf_64 rfl (lv_at hl 0 rfl) ?_
    refine xg_X6_44 X hP hAll uX6_replyOf_X6 mbX6_replyOf_1 dX6_replyOf_65 ?_
    refine lv_iload_n hx hb dX6_replyOf_68 rfl (lv_at hl 1 rfl) ?_
    refine lv_iload_n hx hb dX6_replyOf_69 rfl (lv_at hl 2 rfl) ?_
    obtain ⟨hb_22, hm⟩ := chk_elim hm
    obtain ⟨M_23, hM_24, hm⟩ := bnd_elim hm
    refine x_iast X hP hS (okc_176 hAll) hM_24 hb_22 dX6_replyOf_70 (fun H locs hP hS => ?_)
    refine lv_iload_n hx hb dX6_replyOf_71 rfl (lv_at hl 3 rfl) ?_
    cases hm
    exact x_iret X hP hS hr hlocks dX6_replyOf_72


/-! X6_reply -/
def rmX6_reply : Room := { frames := 5, cells := 0, slots := 0, locals := 122 }
theorem uX6_reply_X6 : ∀ w ∈ wsX60, w ∈ wsX6_reply := by decide +kernel
theorem mbX6_reply_1 : Cond.fieldLink RX6 121 "FootANightModel" "told" "I" ∈ wsX6_reply := by decide +kernel
set_option maxHeartbeats 4000000 in
set_option maxRecDepth 100000 in
theorem c_X6_reply (l : Launch) {g : GT} (hA : AxG g) (hAll : okAll g)   {fu : Nat} {M : Mem} {a1 : Int32} {a2 : Int32} {rr : Int32} {MM : Mem} (hm : m_X6_reply fu M a1 a2 = some (rr, MM)) : CI l yX6_reply wsX6_reply rmX6_reply g [.ref (ga g 148), .int a1, .int a2] M rr MM := by
  refine Met.ofW (cc := cX6_reply) (maxL := 3) (ret := (some .int)) (by decide) rfl ?_
  intro p e s m args below meth c s₁ B hml hv
  obtain ⟨rfl, hSx, hP⟩ := hv
  have hr := B.returns
  have hlocks := B.notSynchronized
  have X : CxG g p s m _ c cX6_reply 3 RX6 wsX6_reply := ⟨⟨B.exec, B.bytes, hml, findClass_of_methodNamed B.named, atoms_spec (ws := wsX6_reply) B.pre⟩, hSx, hA⟩
  have hS : va_S (AbG g) s.heap s.heap [] := va_S.rf
  have hl := lv_entry (([.ref (ga g 148), .int a1, .int a2] : List Value)) (n := 3) (Nat.le_of_ble_eq_true rfl)
  rw [lg_entry_eq]
  generalize (lg_sl (([.ref (ga g 148), .int a1, .int a2] : List Value)) ++ List.replicate (3 - (lg_sl (([.ref (ga g 148), .int a1, .int a2] : List Value))).length) Slot.unset).toArray = ls at hl ⊢
  have hl : lv_has ls 3 [(0, .ref (ga g 148)), (1, .int a1), (2, .int a2)] := hl
  obtain ⟨⟨hx, hb, hml, hown, hts⟩, -, -⟩ := id X
  unfold m_X6_reply at hm
  refine lv_aload_n hx hb dX6_reply_0 rfl (lv_at hl 0 rfl) ?_
  refine lv_iconst (v := 0) hx hb dX6_reply_1 (by decide) ?_
  obtain ⟨M_1, hM_2, hm⟩ := bnd_elim hm
  refine xp_X6_0 X hP hAll uX6_reply_X6 mbX6_reply_1 hS hM_2 dX6_reply_2 (fun H locs hP hS => ?_)
  refine lv_aload_n hx hb dX6_reply_5 rfl (lv_at hl 0 rfl) ?_
  refine lv_iload_n hx hb dX6_reply_6 rfl (lv_at hl 1 rfl) ?_
  obtain ⟨r_4, hc_3, hm⟩ := bind_elim hm
  refine x_calli (x_runV (As := [.int a1]) (rest := []) X hP hS (c_X6_isRow l X.2.2 hAll hc_3) (cwV 1 hts gX6_reply_X6_isRow rfl rfl rfl (by decide +kernel) ⟨Nat.le_of_ble_eq_true rfl, Nat.le_of_ble_eq_true rfl⟩) (x_recv (C := RX6) (T := TX6) (N := 55) X hP (okc_148 hAll) rfl) rfl hl.1 rfl (Nat.le_of_ble_eq_true rfl) dX6_reply_7 ⟨Nat.zero_le _, Nat.zero_le _⟩) hS (fun H locs hP hS => ?_)
  refine lv_if_eq (tgt := 21) hx hb dX6_reply_10 (by decide) (fun h_5 => ?_) (fun h_5 => ?_)
  · rw [if_pos h_5] at hm
    refine lv_iconst (v := (-1)) hx hb dX6_reply_21 (by decide) ?_
    cases hm
    exact x_iret X hP hS hr hlocks dX6_reply_22
  · rw [if_neg h_5] at hm
    refine lv_aload_n hx hb dX6_reply_13 rfl (lv_at hl 0 rfl) ?_
    refine lv_iload_n hx hb dX6_reply_14 rfl (lv_at hl 2 rfl) ?_
    obtain ⟨r_7, hc_6, hm⟩ := bind_elim hm
    refine x_calli (x_runV (As := [.int a2]) (rest := []) X hP hS (c_X6_isFarm l X.2.2 hAll hc_6) (cwV 1 hts gX6_reply_X6_isFarm rfl rfl rfl (by decide +kernel) ⟨Nat.le_of_ble_eq_true rfl, Nat.le_of_ble_eq_true rfl⟩) (x_recv (C := RX6) (T := TX6) (N := 55) X hP (okc_148 hAll) rfl) rfl hl.1 rfl (Nat.le_of_ble_eq_true rfl) dX6_reply_15 ⟨Nat.zero_le _, Nat.zero_le _⟩) hS (fun H locs hP hS => ?_)
    refine lv_if_ne (tgt := 23) hx hb dX6_reply_18 (by decide) (fun h_8 => ?_) (fun h_8 => ?_)
    · rw [if_neg h_8] at hm
      refine lv_aload_n hx hb dX6_reply_23 rfl (lv_at hl 0 rfl) ?_
      refine lv_iload_n hx hb dX6_reply_24 rfl (lv_at hl 1 rfl) ?_
      obtain ⟨M_10, hc_9, hm⟩ := bind_elim hm
      refine x_callv (x_runV (As := [.int a1]) (rest := []) X hP hS (c_X6_takesRow l X.2.2 hAll hc_9) (cwV 1 hts gX6_reply_X6_takesRow rfl rfl rfl (by decide +kernel) ⟨Nat.le_of_ble_eq_true rfl, Nat.le_of_ble_eq_true rfl⟩) (x_recv (C := RX6) (T := TX6) (N := 55) X hP (okc_148 hAll) rfl) rfl hl.1 rfl (Nat.le_of_ble_eq_true rfl) dX6_reply_25 ⟨Nat.zero_le _, Nat.zero_le _⟩) hS (fun H locs hP hS => ?_)
      refine lv_aload_n hx hb dX6_reply_28 rfl (lv_at hl 0 rfl) ?_
      refine lv_iload_n hx hb dX6_reply_29 rfl (lv_at hl 2 rfl) ?_
      obtain ⟨⟨r_12, M_13⟩, hc_11, hm⟩ := bind_elim hm
      replace hm := un2_e hm
      refine x_calli (x_runV (As := [.int a2]) (rest := []) X hP hS (c_X6_replyOf l X.2.2 hAll hc_11) (cwV 1 hts gX6_reply_X6_replyOf rfl rfl rfl (by decide +kernel) ⟨Nat.le_of_ble_eq_true rfl, Nat.le_of_ble_eq_true rfl⟩) (x_recv (C := RX6) (T := TX6) (N := 55) X hP (okc_148 hAll) rfl) rfl hl.1 rfl (Nat.le_of_ble_eq_true rfl) dX6_reply_30 ⟨Nat.zero_le _, Nat.zero_le _⟩) hS (fun H locs hP hS => ?_)
      cases hm
      exact x_iret X hP hS hr hlocks dX6_reply_33
    · rw [if_pos h_8] at hm
      refine lv_iconst (v := (-1)) hx hb dX6_reply_21 (by decide) ?_
      cases hm
      exact x_iret X hP hS hr hlocks dX6_reply_22


/-! X6_isRest -/
def rmX6_isRest : Room := { frames := 5, cells := 0, slots := 0, locals := 122 }
theorem uX6_isRest_X6 : ∀ w ∈ wsX60, w ∈ wsX6_isRest := by decide +kernel
theorem mbX6_isRest_1 : Cond.fieldLink RX6 7 "FootANightModel" "n" "I" ∈ wsX6_isRest := by decide +kernel
theorem mbX6_isRest_2 : Cond.fieldLink RX6 99 "FootANightModel" "row" "[I" ∈ wsX6_isRest := by decide +kernel
set_option maxHeartbeats 4000000 in
set_option maxRecDepth 100000 in
theorem wl_X6_isRest_2 (X : CxG g p s m args c cX6_isRest 5 RX6 wsX6_isRest) (hAll : okAll g) {fu : Nat} {x : (Mem) ⊕ (Mem)} (kx0 : ∀ (M2 : Mem) , x = .inl M2 → ∀ (H : Heap) (locs : List Loc) (ls : Array Slot), va_P (gD g) vwCl (wlG g M2) H → va_S (AbG g) s.heap H locs → lv_has ls 5 [] → W p l e (headSpec wsX6_isRest rmX6_isRest).room s m args below meth c H locs 0 0 Q (F0 m 54 ls [])) (kx1 : ∀ (M2 : Mem) , x = .inr M2 → ∀ (H : Heap) (locs : List Loc) (ls : Array Slot), va_P (gD g) vwCl (wlG g M2) H → va_S (AbG g) s.heap H locs → lv_has ls 5 [] → W p l e (headSpec wsX6_isRest rmX6_isRest).room s m args below meth c H locs 0 0 Q (F0 m 62 ls [])) {n : Nat} {q0 : Int32 × Mem} (h : lp (b_X6_isRest_2 fu) n q0 = some x) : ∀ (H : Heap) (locs : List Loc) (ls : Array Slot), va_P (gD g) vwCl (wlG g q0.2) H → va_S (AbG g) s.heap H locs → lv_has ls 5 [(0, .ref (ga g 148)), (1, .int q0.1)] → W p l e (headSpec wsX6_isRest rmX6_isRest).room s m args below meth c H locs 0 0 Q (F0 m 2 ls []) := by
  refine lp_elim (P := fun q0 : Int32 × Mem => ∀ (H : Heap) (locs : List Loc) (ls : Array Slot), va_P (gD g) vwCl (wlG g q0.2) H → va_S (AbG g) s.heap H locs → lv_has ls 5 [(0, .ref (ga g 148)), (1, .int q0.1)] → W p l e (headSpec wsX6_isRest rmX6_isRest).room s m args below meth c H locs 0 0 Q (F0 m 2 ls [])) (fun q1 o hm hI hX => ?_) n q0 h
  obtain ⟨c1, M⟩ := q1
  have kb : ∀ (d1 : Int32) (M2 : Mem) , o = .inl (d1, M2) → ∀ (H : Heap) (locs : List Loc) (ls : Array Slot), va_P (gD g) vwCl (wlG g M2) H → va_S (AbG g) s.heap H locs → lv_has ls 5 [(0, .ref (ga g 148)), (1, .int d1)] → W p l e (headSpec wsX6_isRest rmX6_isRest).room s m args below meth c H locs 0 0 Q (F0 m 2 ls []) := fun d1 M2 e => hI _ e
  have kx0 : ∀ (M2 : Mem) , o = .inr (.inl M2) → ∀ (H : Heap) (locs : List Loc) (ls : Array Slot), va_P (gD g) vwCl (wlG g M2) H → va_S (AbG g) s.heap H locs → lv_has ls 5 [] → W p l e (headSpec wsX6_isRest rmX6_isRest).room s m args below meth c H locs 0 0 Q (F0 m 54 ls []) := fun M2 e => kx0 M2 (hX _ e).symm
  have kx1 : ∀ (M2 : Mem) , o = .inr (.inr M2) → ∀ (H : Heap) (locs : List Loc) (ls : Array Slot), va_P (gD g) vwCl (wlG g M2) H → va_S (AbG g) s.heap H locs → lv_has ls 5 [] → W p l e (headSpec wsX6_isRest rmX6_isRest).room s m args below meth c H locs 0 0 Q (F0 m 62 ls []) := fun M2 e => kx1 M2 (hX _ e).symm
  clear hI hX
  intro H locs ls hP hS hl
  obtain ⟨⟨hx, hb, hml, hown, hts⟩, -, -⟩ := id X
  have hl : lv_has ls 5 [(0, .ref (ga g 148)), (1, .int c1)] := hl
  have hP : va_P (gD g) vwCl (wlG g M) H := hP
  unfold b_X6_isRest_2 at hm
  replace hm := un2_e hm
  refine lv_iload_n hx hb dX6_isRest_2 rfl (lv_at hl 1 rfl) ?_
  refine lv_aload_n hx hb dX6_isRest_3 rfl (lv_at hl 0 rfl) ?_
  refine xg_X6_2 X hP hAll uX6_isRest_X6 mbX6_isRest_1 dX6_isRest_4 ?_
  refine lv_icmp_ge (tgt := 62) hx hb dX6_isRest_7 (by decide) (fun h_1 => ?_) (fun h_1 => ?_)
  · rw [if_pos h_1] at hm
    exact kx1 M (Option.some.inj hm).symm _ _ _ hP hS (lv_sub hl [] rfl)
  · rw [if_neg h_1] at hm
    refine lv_aload_n hx hb dX6_isRest_10 rfl (lv_at hl 0 rfl) ?_
    refine lv_iload_n hx hb dX6_isRest_11 rfl (lv_at hl 1 rfl) ?_
    obtain ⟨r_3, hc_2, hm⟩ := bind_elim hm
    refine x_calli (x_runV (As := [.int c1]) (rest := []) X hP hS (c_X6_valueOf l X.2.2 hAll hc_2) (cwV 1 hts gX6_isRest_X6_valueOf rfl rfl rfl (by decide +kernel) ⟨Nat.le_of_ble_eq_true rfl, Nat.le_of_ble_eq_true rfl⟩) (x_recv (C := RX6) (T := TX6) (N := 55) X hP (okc_148 hAll) rfl) rfl hl.1 rfl (Nat.le_of_ble_eq_true rfl) dX6_isRest_12 ⟨Nat.zero_le _, Nat.zero_le _⟩) hS (fun H locs hP hS => ?_)
    refine lv_istore_n (lv' := [(2, .int r_3), (0, .ref (ga g 148)), (1, .int c1)]) hx hb dX6_isRest_15 rfl hl (by decide) rfl (fun ls hl => ?_)
    refine lv_aload_n hx hb dX6_isRest_16 rfl (lv_at hl 1 rfl) ?_
    refine xg_X6_44 X hP hAll uX6_isRest_X6 mbX6_isRest_2 dX6_isRest_17 ?_
    refine lv_iload_n hx hb dX6_isRest_20 rfl (lv_at hl 2 rfl) ?_
    obtain ⟨hb_4, hm⟩ := chk_elim hm
    refine x_iald X hP (okc_176 hAll) hb_4 dX6_isRest_21 ?_
    obtain ⟨v_5, hv_6, hm⟩ := bnd_elim hm
    refine x_name hv_6 ?_
    refine lv_istore_n (lv' := [(3, .int v_5), (2, .int r_3), (0, .ref (ga g 148)), (1, .int c1)]) hx hb dX6_isRest_22 rfl hl (by decide) rfl (fun ls hl => ?_)
    refine lv_aload_n hx hb dX6_isRest_23 rfl (lv_at hl 2 rfl) ?_
    refine xg_X6_44 X hP hAll uX6_isRest_X6 mbX6_isRest_2 dX6_isRest_24 ?_
    refine lv_iload_n hx hb dX6_isRest_27 rfl (lv_at hl 3 rfl) ?_
    refine lv_aload_n hx hb dX6_isRest_28 rfl (lv_at hl 2 rfl) ?_
    refine lv_iload_n hx hb dX6_isRest_29 rfl (lv_at hl 3 rfl) ?_
    obtain ⟨⟨r_8, M_9⟩, hc_7, hm⟩ := bind_elim hm
    replace hm := un2_e hm
    refine x_calli (x_runV (As := [.int c1]) (rest := [.int c1, .ref (ga g 176)]) X hP hS (c_X6_replyOf l X.2.2 hAll hc_7) (cwV 1 hts gX6_isRest_X6_replyOf rfl rfl rfl (by decide +kernel) ⟨Nat.le_of_ble_eq_true rfl, Nat.le_of_ble_eq_true rfl⟩) (x_recv (C := RX6) (T := TX6) (N := 55) X hP (okc_148 hAll) rfl) rfl hl.1 rfl (Nat.le_of_ble_eq_true rfl) dX6_isRest_30 ⟨Nat.zero_le _, Nat.zero_le _⟩) hS (fun H locs hP hS => ?_)
    obtain ⟨M_10, hM_11, hm⟩ := bnd_elim hm
    refine x_iast X hP hS (okc_176 hAll) hM_11 hb_4 dX6_isRest_33 (fun H locs hP hS => ?_)
    refine lv_aload_n hx hb dX6_isRest_34 rfl (lv_at hl 2 rfl) ?_
    refine lv_iload_n hx hb dX6_isRest_35 rfl (lv_at hl 3 rfl) ?_
    obtain ⟨r_13, hc_12, hm⟩ := bind_elim hm
    refine x_calli (x_runV (As := [.int c1]) (rest := []) X hP hS (c_X6_valueOf l X.2.2 hAll hc_12) (cwV 1 hts gX6_isRest_X6_valueOf rfl rfl rfl (by decide +kernel) ⟨Nat.le_of_ble_eq_true rfl, Nat.le_of_ble_eq_true rfl⟩) (x_recv (C := RX6) (T := TX6) (N := 55) X hP (okc_148 hAll) rfl) rfl hl.1 rfl (Nat.le_of_ble_eq_true rfl) dX6_isRest_36 ⟨Nat.zero_le _, Nat.zero_le _⟩) hS (fun H locs hP hS => ?_)
    refine lv_istore (lv' := [(4, .int r_13), (3, .int v_5), (2, .int r_3), (0, .ref (ga g 148)), (1, .int c1)]) hx hb dX6_isRest_39 hl (by decide) rfl (fun ls hl => ?_)
    refine lv_aload_n hx hb dX6_isRest_41 rfl (lv_at hl 3 rfl) ?_
    refine xg_X6_44 X hP hAll uX6_isRest_X6 mbX6_isRest_2 dX6_isRest_42 ?_
    refine lv_iload_n hx hb dX6_isRest_45 rfl (lv_at hl 4 rfl) ?_
    refine lv_iload_n hx hb dX6_isRest_46 rfl (lv_at hl 1 rfl) ?_
    obtain ⟨M_14, hM_15, hm⟩ := bnd_elim hm
    refine x_iast X hP hS (okc_176 hAll) hM_15 hb_4 dX6_isRest_47 (fun H locs hP hS => ?_)
    refine lv_iload hx hb dX6_isRest_48 (lv_at hl 0 rfl) ?_
    refine lv_iload_n hx hb dX6_isRest_50 rfl (lv_at hl 2 rfl) ?_
    refine lv_icmp_le (tgt := 56) hx hb dX6_isRest_51 (by decide) (fun h_16 => ?_) (fun h_16 => ?_)
    · rw [if_pos h_16] at hm
      obtain ⟨v_17, hv_18, hm⟩ := bnd_elim hm
      refine lv_iinc (v := v_17) (lv' := [(1, .int v_17), (4, .int r_13), (3, .int v_5), (2, .int r_3), (0, .ref (ga g 148))]) hx hb dX6_isRest_56 hl (k := 4) rfl (by rw [hv_18]; rfl) (by decide) rfl (fun ls hl => ?_)
      refine lv_goto (tgt := 2) hx hb dX6_isRest_59 (by decide) ?_
      exact kb v_17 M_14 (Option.some.inj hm).symm _ _ _ hP hS (lv_sub hl [4, 0] rfl)
    · rw [if_neg h_16] at hm
      exact kx0 M_14 (Option.some.inj hm).symm _ _ _ hP hS (lv_sub hl [] rfl)

set_option maxHeartbeats 4000000 in
set_option maxRecDepth 100000 in
theorem c_X6_isRest (l : Launch) {g : GT} (hA : AxG g) (hAll : okAll g)   {fu : Nat} {M : Mem} {rr : Int32} {MM : Mem} (hm : m_X6_isRest fu M = some (rr, MM)) : CI l yX6_isRest wsX6_isRest rmX6_isRest g [.ref (ga g 148)] M rr MM := by
  refine Met.ofW (cc := cX6_isRest) (maxL := 5) (ret := (some .boolean)) (by decide) rfl ?_
  intro p e s m args below meth c s₁ B hml hv
  obtain ⟨rfl, hSx, hP⟩ := hv
  have hr := B.returns
  have hlocks := B.notSynchronized
  have X : CxG g p s m _ c cX6_isRest 5 RX6 wsX6_isRest := ⟨⟨B.exec, B.bytes, hml, findClass_of_methodNamed B.named, atoms_spec (ws := wsX6_isRest) B.pre⟩, hSx, hA⟩
  have hS : va_S (AbG g) s.heap s.heap [] := va_S.rf
  have hl := lv_entry (([.ref (ga g 148)] : List Value)) (n := 5) (Nat.le_of_ble_eq_true rfl)
  rw [lg_entry_eq]
  generalize (lg_sl (([.ref (ga g 148)] : List Value)) ++ List.replicate (5 - (lg_sl (([.ref (ga g 148)] : List Value))).length) Slot.unset).toArray = ls at hl ⊢
  have hl : lv_has ls 5 [(0, .ref (ga g 148))] := hl
  obtain ⟨⟨hx, hb, hml, hown, hts⟩, -, -⟩ := id X
  unfold m_X6_isRest at hm
  refine lv_iconst (v := 0) hx hb dX6_isRest_0 (by decide) ?_
  refine lv_istore_n (lv' := [(1, .int 0), (0, .ref (ga g 148))]) hx hb dX6_isRest_1 rfl hl (by decide) rfl (fun ls hl => ?_)
  obtain ⟨x_19, hL_20, hm⟩ := bind_elim hm
  refine wl_X6_isRest_2 X hAll ?_ ?_ hL_20 _ _ _ hP hS (lv_sub hl [1, 0] rfl)
  · intro M_21 e_x_19 H locs ls hP hS hl
    subst e_x_19
    replace hm := unS_l hm
    replace hm := un1_e hm
    refine lv_iconst (v := 0) hx hb dX6_isRest_54 (by decide) ?_
    cases hm
    exact x_zret X (by decide) hP hS hr hlocks dX6_isRest_55
  · intro M_22 e_x_19 H locs ls hP hS hl
    subst e_x_19
    replace hm := unS_r hm
    replace hm := un1_e hm
    refine lv_iconst (v := 1) hx hb dX6_isRest_62 (by decide) ?_
    cases hm
    exact x_zret X (by decide) hP hS hr hlocks dX6_isRest_63


/-! X6_sumOf -/
def rmX6_sumOf : Room := { frames := 4, cells := 0, slots := 0, locals := 96 }
theorem uX6_sumOf_X6 : ∀ w ∈ wsX60, w ∈ wsX6_sumOf := by decide +kernel
theorem mbX6_sumOf_1 : Cond.fieldLink RX6 7 "FootANightModel" "n" "I" ∈ wsX6_sumOf := by decide +kernel
set_option maxHeartbeats 4000000 in
set_option maxRecDepth 100000 in
theorem wl_X6_sumOf_4 (X : CxG g p s m args c cX6_sumOf 3 RX6 wsX6_sumOf) (hAll : okAll g) {fu : Nat} {M : Mem} {x : Int32} (kx0 : ∀ (d1 : Int32) , x = d1 → ∀ (H : Heap) (locs : List Loc) (ls : Array Slot), va_P (gD g) vwCl (wlG g M) H → va_S (AbG g) s.heap H locs → lv_has ls 3 [(1, .int d1)] → W p l e (headSpec wsX6_sumOf rmX6_sumOf).room s m args below meth c H locs 0 0 Q (F0 m 26 ls [])) {n : Nat} {q0 : Int32 × Int32} (h : lp (b_X6_sumOf_4 fu M) n q0 = some x) : ∀ (H : Heap) (locs : List Loc) (ls : Array Slot), va_P (gD g) vwCl (wlG g M) H → va_S (AbG g) s.heap H locs → lv_has ls 3 [(0, .ref (ga g 148)), (1, .int q0.1), (2, .int q0.2)] → W p l e (headSpec wsX6_sumOf rmX6_sumOf).room s m args below meth c H locs 0 0 Q (F0 m 4 ls []) := by
  refine lp_elim (P := fun q0 : Int32 × Int32 => ∀ (H : Heap) (locs : List Loc) (ls : Array Slot), va_P (gD g) vwCl (wlG g M) H → va_S (AbG g) s.heap H locs → lv_has ls 3 [(0, .ref (ga g 148)), (1, .int q0.1), (2, .int q0.2)] → W p l e (headSpec wsX6_sumOf rmX6_sumOf).room s m args below meth c H locs 0 0 Q (F0 m 4 ls [])) (fun q1 o hm hI hX => ?_) n q0 h
  obtain ⟨c1, c2⟩ := q1
  have kb : ∀ (d1 : Int32) (d2 : Int32) , o = .inl (d1, d2) → ∀ (H : Heap) (locs : List Loc) (ls : Array Slot), va_P (gD g) vwCl (wlG g M) H → va_S (AbG g) s.heap H locs → lv_has ls 3 [(0, .ref (ga g 148)), (1, .int d1), (2, .int d2)] → W p l e (headSpec wsX6_sumOf rmX6_sumOf).room s m args below meth c H locs 0 0 Q (F0 m 4 ls []) := fun d1 d2 e => hI _ e
  have kx0 : ∀ (d1 : Int32) , o = .inr d1 → ∀ (H : Heap) (locs : List Loc) (ls : Array Slot), va_P (gD g) vwCl (wlG g M) H → va_S (AbG g) s.heap H locs → lv_has ls 3 [(1, .int d1)] → W p l e (headSpec wsX6_sumOf rmX6_sumOf).room s m args below meth c H locs 0 0 Q (F0 m 26 ls []) := fun d1 e => kx0 d1 (hX _ e).symm
  clear hI hX
  intro H locs ls hP hS hl
  obtain ⟨⟨hx, hb, hml, hown, hts⟩, -, -⟩ := id X
  have hl : lv_has ls 3 [(0, .ref (ga g 148)), (1, .int c1), (2, .int c2)] := hl
  have hP : va_P (gD g) vwCl (wlG g M) H := hP
  unfold b_X6_sumOf_4 at hm
  replace hm := un2_e hm
  refine lv_iload_n hx hb dX6_sumOf_4 rfl (lv_at hl 2 rfl) ?_
  refine lv_aload_n hx hb dX6_sumOf_5 rfl (lv_at hl 0 rfl) ?_
  refine xg_X6_2 X hP hAll uX6_sumOf_X6 mbX6_sumOf_1 dX6_sumOf_6 ?_
  refine lv_icmp_ge (tgt := 26) hx hb dX6_sumOf_9 (by decide) (fun h_1 => ?_) (fun h_1 => ?_)
  · rw [if_pos h_1] at hm
    exact kx0 c1 (Option.some.inj hm).symm _ _ _ hP hS (lv_sub hl [1] rfl)
  · rw [if_neg h_1] at hm
    refine lv_iload_n hx hb dX6_sumOf_12 rfl (lv_at hl 1 rfl) ?_
    refine lv_aload_n hx hb dX6_sumOf_13 rfl (lv_at hl 0 rfl) ?_
    refine lv_iload_n hx hb dX6_sumOf_14 rfl (lv_at hl 2 rfl) ?_
    obtain ⟨r_3, hc_2, hm⟩ := bind_elim hm
    refine x_calli (x_runV (As := [.int c2]) (rest := [.int c1]) X hP hS (c_X6_valueOf l X.2.2 hAll hc_2) (cwV 1 hts gX6_sumOf_X6_valueOf rfl rfl rfl (by decide +kernel) ⟨Nat.le_of_ble_eq_true rfl, Nat.le_of_ble_eq_true rfl⟩) (x_recv (C := RX6) (T := TX6) (N := 55) X hP (okc_148 hAll) rfl) rfl hl.1 rfl (Nat.le_of_ble_eq_true rfl) dX6_sumOf_15 ⟨Nat.zero_le _, Nat.zero_le _⟩) hS (fun H locs hP hS => ?_)
    refine lv_iadd hx hb dX6_sumOf_18 ?_
    obtain ⟨v_4, hv_5, hm⟩ := bnd_elim hm
    refine x_name hv_5 ?_
    refine lv_istore_n (lv' := [(1, .int v_4), (0, .ref (ga g 148)), (2, .int c2)]) hx hb dX6_sumOf_19 rfl hl (by decide) rfl (fun ls hl => ?_)
    obtain ⟨v_6, hv_7, hm⟩ := bnd_elim hm
    refine lv_iinc (v := v_6) (lv' := [(2, .int v_6), (1, .int v_4), (0, .ref (ga g 148))]) hx hb dX6_sumOf_20 hl (k := 2) rfl (by rw [hv_7]; rfl) (by decide) rfl (fun ls hl => ?_)
    refine lv_goto (tgt := 4) hx hb dX6_sumOf_23 (by decide) ?_
    exact kb v_4 v_6 (Option.some.inj hm).symm _ _ _ hP hS (lv_sub hl [2, 1, 0] rfl)

set_option maxHeartbeats 4000000 in
set_option maxRecDepth 100000 in
theorem c_X6_sumOf (l : Launch) {g : GT} (hA : AxG g) (hAll : okAll g)   {fu : Nat} {M : Mem} {rr : Int32} (hm : m_X6_sumOf fu M = some rr) : CI l yX6_sumOf wsX6_sumOf rmX6_sumOf g [.ref (ga g 148)] M rr M := by
  refine Met.ofW (cc := cX6_sumOf) (maxL := 3) (ret := (some .int)) (by decide) rfl ?_
  intro p e s m args below meth c s₁ B hml hv
  obtain ⟨rfl, hSx, hP⟩ := hv
  have hr := B.returns
  have hlocks := B.notSynchronized
  have X : CxG g p s m _ c cX6_sumOf 3 RX6 wsX6_sumOf := ⟨⟨B.exec, B.bytes, hml, findClass_of_methodNamed B.named, atoms_spec (ws := wsX6_sumOf) B.pre⟩, hSx, hA⟩
  have hS : va_S (AbG g) s.heap s.heap [] := va_S.rf
  have hl := lv_entry (([.ref (ga g 148)] : List Value)) (n := 3) (Nat.le_of_ble_eq_true rfl)
  rw [lg_entry_eq]
  generalize (lg_sl (([.ref (ga g 148)] : List Value)) ++ List.replicate (3 - (lg_sl (([.ref (ga g 148)] : List Value))).length) Slot.unset).toArray = ls at hl ⊢
  have hl : lv_has ls 3 [(0, .ref (ga g 148))] := hl
  obtain ⟨⟨hx, hb, hml, hown, hts⟩, -, -⟩ := id X
  unfold m_X6_sumOf at hm
  refine lv_iconst (v := 0) hx hb dX6_sumOf_0 (by decide) ?_
  refine lv_istore_n (lv' := [(1, .int 0), (0, .ref (ga g 148))]) hx hb dX6_sumOf_1 rfl hl (by decide) rfl (fun ls hl => ?_)
  refine lv_iconst (v := 0) hx hb dX6_sumOf_2 (by decide) ?_
  refine lv_istore_n (lv' := [(2, .int 0), (1, .int 0), (0, .ref (ga g 148))]) hx hb dX6_sumOf_3 rfl hl (by decide) rfl (fun ls hl => ?_)
  obtain ⟨v_10, hL_9, hm⟩ := bind_elim hm
  refine wl_X6_sumOf_4 X hAll ?_ hL_9 _ _ _ hP hS (lv_sub hl [2, 1, 0] rfl)
  · intro z_v_10 e_v_10 H locs ls hP hS hl
    subst e_v_10
    replace hm := un1_e hm
    refine lv_iload_n hx hb dX6_sumOf_26 rfl (lv_at hl 0 rfl) ?_
    cases hm
    exact x_iret X hP hS hr hlocks dX6_sumOf_27


/-! X6_rests -/
def rmX6_rests : Room := { frames := 6, cells := 0, slots := 0, locals := 146 }
theorem uX6_rests_X6 : ∀ w ∈ wsX60, w ∈ wsX6_rests := by decide +kernel
theorem mbX6_rests_1 : Cond.fieldLink RX6 121 "FootANightModel" "told" "I" ∈ wsX6_rests := by decide +kernel
theorem mbX6_rests_2 : Cond.fieldLink RX6 7 "FootANightModel" "n" "I" ∈ wsX6_rests := by decide +kernel
set_option maxHeartbeats 4000000 in
set_option maxRecDepth 100000 in
theorem wj_X6_rests_139i (X : CxG g p s m args c cX6_rests 9 RX6 wsX6_rests) (hAll : okAll g) {fu : Nat} {M : Mem} {s1 : Int32} {s2 : Int32} {s3 : Int32} {s6 : Int32} {s7 : Int32} {s8 : Int32} {o : (Int32 × Int32 × Int32 × Int32 × Int32 × Int32 × Mem) ⊕ (Int32 × Int32 × Int32 × Int32 × Mem)} (kb : ∀ (d2 : Int32) (d3 : Int32) (d4 : Int32) (d5 : Int32) (d6 : Int32) (d8 : Int32) (M2 : Mem) , o = .inl (d2, d3, d4, d5, d6, d8, M2) → ∀ (H : Heap) (locs : List Loc) (ls : Array Slot), va_P (gD g) vwCl (wlG g M2) H → va_S (AbG g) s.heap H locs → lv_has ls 9 [(0, .ref (ga g 148)), (1, .int s1), (2, .int d2), (3, .int d3), (4, .int d4), (5, .int d5), (6, .int d6), (7, .int s7), (8, .int d8)] → W p l e (headSpec wsX6_rests rmX6_rests).room s m args below meth c H locs 0 0 Q (F0 m 56 ls [])) (kx0 : ∀ (d2 : Int32) (d3 : Int32) (d4 : Int32) (d6 : Int32) (M2 : Mem) , o = .inr (d2, d3, d4, d6, M2) → ∀ (H : Heap) (locs : List Loc) (ls : Array Slot), va_P (gD g) vwCl (wlG g M2) H → va_S (AbG g) s.heap H locs → lv_has ls 9 [(1, .int s1), (2, .int d2), (3, .int d3), (4, .int d4), (6, .int d6)] → W p l e (headSpec wsX6_rests rmX6_rests).room s m args below meth c H locs 0 0 Q (F0 m 155 ls [])) (hm : j_X6_rests_139i fu M s1 s2 s3 s6 s7 s8 = some o) {H : Heap} {locs : List Loc} {ls : Array Slot} (hP : va_P (gD g) vwCl (wlG g M) H) (hS : va_S (AbG g) s.heap H locs) (hl : lv_has ls 9 [(0, .ref (ga g 148)), (1, .int s1), (2, .int s2), (3, .int s3), (6, .int s6), (7, .int s7), (8, .int s8)]) : W p l e (headSpec wsX6_rests rmX6_rests).room s m args below meth c H locs 0 0 Q (F0 m 139 ls []) := by
  obtain ⟨⟨hx, hb, hml, hown, hts⟩, -, -⟩ := id X
  unfold j_X6_rests_139i at hm
  refine lv_iload hx hb dX6_rests_139 (lv_at hl 6 rfl) ?_
  refine lv_istore (lv' := [(4, .int s8), (0, .ref (ga g 148)), (1, .int s1), (2, .int s2), (3, .int s3), (6, .int s6), (7, .int s7), (8, .int s8)]) hx hb dX6_rests_141 hl (by decide) rfl (fun ls hl => ?_)
  refine lv_aload_n hx hb dX6_rests_143 rfl (lv_at hl 1 rfl) ?_
  obtain ⟨r_23, hc_22, hm⟩ := bind_elim hm
  refine x_calli (x_runV (As := []) (rest := []) X hP hS (c_X6_sumOf l X.2.2 hAll hc_22) (cwV 0 hts gX6_rests_X6_sumOf rfl rfl rfl (by decide +kernel) ⟨Nat.le_of_ble_eq_true rfl, Nat.le_of_ble_eq_true rfl⟩) (x_recv (C := RX6) (T := TX6) (N := 55) X hP (okc_148 hAll) rfl) rfl hl.1 rfl (Nat.le_of_ble_eq_true rfl) dX6_rests_144 ⟨Nat.zero_le _, Nat.zero_le _⟩) hS (fun H locs hP hS => ?_)
  refine lv_istore (lv' := [(5, .int r_23), (4, .int s8), (0, .ref (ga g 148)), (1, .int s1), (2, .int s2), (3, .int s3), (6, .int s6), (7, .int s7), (8, .int s8)]) hx hb dX6_rests_147 hl (by decide) rfl (fun ls hl => ?_)
  obtain ⟨v_24, hv_25, hm⟩ := bnd_elim hm
  refine lv_iinc (v := v_24) (lv' := [(8, .int v_24), (5, .int r_23), (4, .int s8), (0, .ref (ga g 148)), (1, .int s1), (2, .int s2), (3, .int s3), (6, .int s6), (7, .int s7)]) hx hb dX6_rests_149 hl (k := 8) rfl (by rw [hv_25]; rfl) (by decide) rfl (fun ls hl => ?_)
  refine lv_goto (tgt := 56) hx hb dX6_rests_152 (by decide) ?_
  exact kb s2 s3 s8 r_23 s6 v_24 M (Option.some.inj hm).symm _ _ _ hP hS (lv_sub hl [3, 4, 5, 6, 2, 1, 7, 8, 0] rfl)

set_option maxHeartbeats 4000000 in
set_option maxRecDepth 100000 in
theorem wj_X6_rests_121i (X : CxG g p s m args c cX6_rests 9 RX6 wsX6_rests) (hAll : okAll g) {fu : Nat} {M : Mem} {s1 : Int32} {s2 : Int32} {s3 : Int32} {s4 : Int32} {s5 : Int32} {s6 : Int32} {s7 : Int32} {s8 : Int32} {o : (Int32 × Int32 × Int32 × Int32 × Int32 × Int32 × Mem) ⊕ (Int32 × Int32 × Int32 × Int32 × Mem)} (kb : ∀ (d2 : Int32) (d3 : Int32) (d4 : Int32) (d5 : Int32) (d6 : Int32) (d8 : Int32) (M2 : Mem) , o = .inl (d2, d3, d4, d5, d6, d8, M2) → ∀ (H : Heap) (locs : List Loc) (ls : Array Slot), va_P (gD g) vwCl (wlG g M2) H → va_S (AbG g) s.heap H locs → lv_has ls 9 [(0, .ref (ga g 148)), (1, .int s1), (2, .int d2), (3, .int d3), (4, .int d4), (5, .int d5), (6, .int d6), (7, .int s7), (8, .int d8)] → W p l e (headSpec wsX6_rests rmX6_rests).room s m args below meth c H locs 0 0 Q (F0 m 56 ls [])) (kx0 : ∀ (d2 : Int32) (d3 : Int32) (d4 : Int32) (d6 : Int32) (M2 : Mem) , o = .inr (d2, d3, d4, d6, M2) → ∀ (H : Heap) (locs : List Loc) (ls : Array Slot), va_P (gD g) vwCl (wlG g M2) H → va_S (AbG g) s.heap H locs → lv_has ls 9 [(1, .int s1), (2, .int d2), (3, .int d3), (4, .int d4), (6, .int d6)] → W p l e (headSpec wsX6_rests rmX6_rests).room s m args below meth c H locs 0 0 Q (F0 m 155 ls [])) (hm : j_X6_rests_121i fu M s1 s2 s3 s4 s5 s6 s7 s8 = some o) {H : Heap} {locs : List Loc} {ls : Array Slot} (hP : va_P (gD g) vwCl (wlG g M) H) (hS : va_S (AbG g) s.heap H locs) (hl : lv_has ls 9 [(0, .ref (ga g 148)), (1, .int s1), (2, .int s2), (3, .int s3), (4, .int s4), (5, .int s5), (6, .int s6), (7, .int s7), (8, .int s8)]) : W p l e (headSpec wsX6_rests rmX6_rests).room s m args below meth c H locs 0 0 Q (F0 m 121 ls []) := by
  obtain ⟨⟨hx, hb, hml, hown, hts⟩, -, -⟩ := id X
  unfold j_X6_rests_121i at hm
  refine lv_iload hx hb dX6_rests_121 (lv_at hl 4 rfl) ?_
  refine lv_iconst (v := (-1)) hx hb dX6_rests_123 (by decide) ?_
  refine lv_icmp_eq (tgt := 139) hx hb dX6_rests_124 (by decide) (fun h_21 => ?_) (fun h_21 => ?_)
  · rw [if_pos h_21] at hm
    exact wj_X6_rests_139i X hAll kb kx0 hm hP hS (lv_sub hl [0, 1, 2, 3, 6, 7, 8] rfl)
  · rw [if_neg h_21] at hm
    refine lv_aload_n hx hb dX6_rests_127 rfl (lv_at hl 0 rfl) ?_
    obtain ⟨r_27, hc_26, hm⟩ := bind_elim hm
    refine x_calli (x_runV (As := []) (rest := []) X hP hS (c_X6_sumOf l X.2.2 hAll hc_26) (cwV 0 hts gX6_rests_X6_sumOf rfl rfl rfl (by decide +kernel) ⟨Nat.le_of_ble_eq_true rfl, Nat.le_of_ble_eq_true rfl⟩) (x_recv (C := RX6) (T := TX6) (N := 55) X hP (okc_148 hAll) rfl) rfl hl.1 rfl (Nat.le_of_ble_eq_true rfl) dX6_rests_128 ⟨Nat.zero_le _, Nat.zero_le _⟩) hS (fun H locs hP hS => ?_)
    refine lv_iload hx hb dX6_rests_131 (lv_at hl 5 rfl) ?_
    refine lv_icmp_gt (tgt := 139) hx hb dX6_rests_133 (by decide) (fun h_28 => ?_) (fun h_28 => ?_)
    · rw [if_pos h_28] at hm
      exact wj_X6_rests_139i X hAll kb kx0 hm hP hS (lv_sub hl [0, 1, 2, 3, 6, 7, 8] rfl)
    · rw [if_neg h_28] at hm
      refine lv_goto (tgt := 149) hx hb dX6_rests_136 (by decide) ?_
      obtain ⟨v_29, hv_30, hm⟩ := bnd_elim hm
      refine lv_iinc (v := v_29) (lv' := [(8, .int v_29), (0, .ref (ga g 148)), (1, .int s1), (2, .int s2), (3, .int s3), (4, .int s4), (5, .int s5), (6, .int s6), (7, .int s7)]) hx hb dX6_rests_149 hl (k := 8) rfl (by rw [hv_30]; rfl) (by decide) rfl (fun ls hl => ?_)
      refine lv_goto (tgt := 56) hx hb dX6_rests_152 (by decide) ?_
      exact kb s2 s3 s4 s5 s6 v_29 M (Option.some.inj hm).symm _ _ _ hP hS (lv_sub hl [1, 2, 3, 4, 5, 6, 7, 8, 0] rfl)

set_option maxHeartbeats 4000000 in
set_option maxRecDepth 100000 in
theorem wj_X6_rests_100i (X : CxG g p s m args c cX6_rests 9 RX6 wsX6_rests) (hAll : okAll g) {fu : Nat} {M : Mem} {s1 : Int32} {s2 : Int32} {s4 : Int32} {s5 : Int32} {s6 : Int32} {s7 : Int32} {s8 : Int32} {t0 : Int32} {o : (Int32 × Int32 × Int32 × Int32 × Int32 × Int32 × Mem) ⊕ (Int32 × Int32 × Int32 × Int32 × Mem)} (kb : ∀ (d2 : Int32) (d3 : Int32) (d4 : Int32) (d5 : Int32) (d6 : Int32) (d8 : Int32) (M2 : Mem) , o = .inl (d2, d3, d4, d5, d6, d8, M2) → ∀ (H : Heap) (locs : List Loc) (ls : Array Slot), va_P (gD g) vwCl (wlG g M2) H → va_S (AbG g) s.heap H locs → lv_has ls 9 [(0, .ref (ga g 148)), (1, .int s1), (2, .int d2), (3, .int d3), (4, .int d4), (5, .int d5), (6, .int d6), (7, .int s7), (8, .int d8)] → W p l e (headSpec wsX6_rests rmX6_rests).room s m args below meth c H locs 0 0 Q (F0 m 56 ls [])) (kx0 : ∀ (d2 : Int32) (d3 : Int32) (d4 : Int32) (d6 : Int32) (M2 : Mem) , o = .inr (d2, d3, d4, d6, M2) → ∀ (H : Heap) (locs : List Loc) (ls : Array Slot), va_P (gD g) vwCl (wlG g M2) H → va_S (AbG g) s.heap H locs → lv_has ls 9 [(1, .int s1), (2, .int d2), (3, .int d3), (4, .int d4), (6, .int d6)] → W p l e (headSpec wsX6_rests rmX6_rests).room s m args below meth c H locs 0 0 Q (F0 m 155 ls [])) (hm : j_X6_rests_100i fu M s1 s2 s4 s5 s6 s7 s8 t0 = some o) {H : Heap} {locs : List Loc} {ls : Array Slot} (hP : va_P (gD g) vwCl (wlG g M) H) (hS : va_S (AbG g) s.heap H locs) (hl : lv_has ls 9 [(0, .ref (ga g 148)), (1, .int s1), (2, .int s2), (4, .int s4), (5, .int s5), (6, .int s6), (7, .int s7), (8, .int s8)]) : W p l e (headSpec wsX6_rests rmX6_rests).room s m args below meth c H locs 0 0 Q (F0 m 100 ls [.int t0]) := by
  obtain ⟨⟨hx, hb, hml, hown, hts⟩, -, -⟩ := id X
  unfold j_X6_rests_100i at hm
  refine lv_istore_n (lv' := [(3, .int t0), (0, .ref (ga g 148)), (1, .int s1), (2, .int s2), (4, .int s4), (5, .int s5), (6, .int s6), (7, .int s7), (8, .int s8)]) hx hb dX6_rests_100 rfl hl (by decide) rfl (fun ls hl => ?_)
  refine lv_iload hx hb dX6_rests_101 (lv_at hl 8 rfl) ?_
  refine lv_iload hx hb dX6_rests_103 (lv_at hl 7 rfl) ?_
  obtain ⟨hz_19, hm⟩ := chk_elim hm
  refine lv_irem hx hb dX6_rests_105 (nz_of hz_19) ?_
  refine lv_if_ne (tgt := 121) hx hb dX6_rests_106 (by decide) (fun h_20 => ?_) (fun h_20 => ?_)
  · rw [if_neg h_20] at hm
    exact wj_X6_rests_121i X hAll kb kx0 hm hP hS (lv_sub hl [1, 2, 3, 0, 4, 5, 6, 7, 8] rfl)
  · rw [if_pos h_20] at hm
    refine lv_iload hx hb dX6_rests_109 (lv_at hl 6 rfl) ?_
    refine lv_iconst (v := 1) hx hb dX6_rests_111 (by decide) ?_
    refine lv_iload hx hb dX6_rests_112 (lv_at hl 8 rfl) ?_
    refine lv_iload hx hb dX6_rests_114 (lv_at hl 7 rfl) ?_
    obtain ⟨hz_31, hm⟩ := chk_elim hm
    refine lv_idiv hx hb dX6_rests_116 (nz_of hz_31) ?_
    refine lv_ishl hx hb dX6_rests_117 ?_
    refine lv_ior hx hb dX6_rests_118 ?_
    obtain ⟨v_32, hv_33, hm⟩ := bnd_elim hm
    refine x_name hv_33 ?_
    refine lv_istore (lv' := [(6, .int v_32), (3, .int t0), (0, .ref (ga g 148)), (1, .int s1), (2, .int s2), (4, .int s4), (5, .int s5), (7, .int s7), (8, .int s8)]) hx hb dX6_rests_119 hl (by decide) rfl (fun ls hl => ?_)
    exact wj_X6_rests_121i X hAll kb kx0 hm hP hS (lv_sub hl [2, 3, 4, 1, 5, 6, 0, 7, 8] rfl)

set_option maxHeartbeats 4000000 in
set_option maxRecDepth 100000 in
theorem wl_X6_rests_56 (X : CxG g p s m args c cX6_rests 9 RX6 wsX6_rests) (hAll : okAll g) {fu : Nat} {s1 : Int32} {s7 : Int32} {x : Int32 × Int32 × Int32 × Int32 × Mem} (kx0 : ∀ (d2 : Int32) (d3 : Int32) (d4 : Int32) (d6 : Int32) (M2 : Mem) , x = (d2, d3, d4, d6, M2) → ∀ (H : Heap) (locs : List Loc) (ls : Array Slot), va_P (gD g) vwCl (wlG g M2) H → va_S (AbG g) s.heap H locs → lv_has ls 9 [(1, .int s1), (2, .int d2), (3, .int d3), (4, .int d4), (6, .int d6)] → W p l e (headSpec wsX6_rests rmX6_rests).room s m args below meth c H locs 0 0 Q (F0 m 155 ls [])) {n : Nat} {q0 : Int32 × Int32 × Int32 × Int32 × Int32 × Int32 × Mem} (h : lp (b_X6_rests_56 fu s1 s7) n q0 = some x) : ∀ (H : Heap) (locs : List Loc) (ls : Array Slot), va_P (gD g) vwCl (wlG g q0.2.2.2.2.2.2) H → va_S (AbG g) s.heap H locs → lv_has ls 9 [(0, .ref (ga g 148)), (1, .int s1), (2, .int q0.1), (3, .int q0.2.1), (4, .int q0.2.2.1), (5, .int q0.2.2.2.1), (6, .int q0.2.2.2.2.1), (7, .int s7), (8, .int q0.2.2.2.2.2.1)] → W p l e (headSpec wsX6_rests rmX6_rests).room s m args below meth c H locs 0 0 Q (F0 m 56 ls []) := by
  refine lp_elim (P := fun q0 : Int32 × Int32 × Int32 × Int32 × Int32 × Int32 × Mem => ∀ (H : Heap) (locs : List Loc) (ls : Array Slot), va_P (gD g) vwCl (wlG g q0.2.2.2.2.2.2) H → va_S (AbG g) s.heap H locs → lv_has ls 9 [(0, .ref (ga g 148)), (1, .int s1), (2, .int q0.1), (3, .int q0.2.1), (4, .int q0.2.2.1), (5, .int q0.2.2.2.1), (6, .int q0.2.2.2.2.1), (7, .int s7), (8, .int q0.2.2.2.2.2.1)] → W p l e (headSpec wsX6_rests rmX6_rests).room s m args below meth c H locs 0 0 Q (F0 m 56 ls [])) (fun q1 o hm hI hX => ?_) n q0 h
  obtain ⟨c2, c3, c4, c5, c6, c8, M⟩ := q1
  have kb : ∀ (d2 : Int32) (d3 : Int32) (d4 : Int32) (d5 : Int32) (d6 : Int32) (d8 : Int32) (M2 : Mem) , o = .inl (d2, d3, d4, d5, d6, d8, M2) → ∀ (H : Heap) (locs : List Loc) (ls : Array Slot), va_P (gD g) vwCl (wlG g M2) H → va_S (AbG g) s.heap H locs → lv_has ls 9 [(0, .ref (ga g 148)), (1, .int s1), (2, .int d2), (3, .int d3), (4, .int d4), (5, .int d5), (6, .int d6), (7, .int s7), (8, .int d8)] → W p l e (headSpec wsX6_rests rmX6_rests).room s m args below meth c H locs 0 0 Q (F0 m 56 ls []) := fun d2 d3 d4 d5 d6 d8 M2 e => hI _ e
  have kx0 : ∀ (d2 : Int32) (d3 : Int32) (d4 : Int32) (d6 : Int32) (M2 : Mem) , o = .inr (d2, d3, d4, d6, M2) → ∀ (H : Heap) (locs : List Loc) (ls : Array Slot), va_P (gD g) vwCl (wlG g M2) H → va_S (AbG g) s.heap H locs → lv_has ls 9 [(1, .int s1), (2, .int d2), (3, .int d3), (4, .int d4), (6, .int d6)] → W p l e (headSpec wsX6_rests rmX6_rests).room s m args below meth c H locs 0 0 Q (F0 m 155 ls []) := fun d2 d3 d4 d6 M2 e => kx0 d2 d3 d4 d6 M2 (hX _ e).symm
  clear hI hX
  intro H locs ls hP hS hl
  obtain ⟨⟨hx, hb, hml, hown, hts⟩, -, -⟩ := id X
  have hl : lv_has ls 9 [(0, .ref (ga g 148)), (1, .int s1), (2, .int c2), (3, .int c3), (4, .int c4), (5, .int c5), (6, .int c6), (7, .int s7), (8, .int c8)] := hl
  have hP : va_P (gD g) vwCl (wlG g M) H := hP
  unfold b_X6_rests_56 at hm
  replace hm := un7_e hm
  refine lv_iload hx hb dX6_rests_56 (lv_at hl 8 rfl) ?_
  refine lv_iconst (v := 1) hx hb dX6_rests_58 (by decide) ?_
  refine lv_iconst (v := 2) hx hb dX6_rests_59 (by decide) ?_
  refine lv_aload_n hx hb dX6_rests_60 rfl (lv_at hl 0 rfl) ?_
  refine xg_X6_2 X hP hAll uX6_rests_X6 mbX6_rests_2 dX6_rests_61 ?_
  refine lv_imul hx hb dX6_rests_64 ?_
  refine lv_ishl hx hb dX6_rests_65 ?_
  refine lv_icmp_ge (tgt := 155) hx hb dX6_rests_66 (by decide) (fun h_9 => ?_) (fun h_9 => ?_)
  · rw [if_pos h_9] at hm
    exact kx0 c2 c3 c4 c6 M (Option.some.inj hm).symm _ _ _ hP hS (lv_sub hl [1, 2, 3, 4, 6] rfl)
  · rw [if_neg h_9] at hm
    refine lv_aload_n hx hb dX6_rests_69 rfl (lv_at hl 0 rfl) ?_
    refine lv_iload hx hb dX6_rests_70 (lv_at hl 8 rfl) ?_
    obtain ⟨M_11, hc_10, hm⟩ := bind_elim hm
    refine x_callv (x_runV (As := [.int c8]) (rest := []) X hP hS (c_X6_takesRow l X.2.2 hAll hc_10) (cwV 1 hts gX6_rests_X6_takesRow rfl rfl rfl (by decide +kernel) ⟨Nat.le_of_ble_eq_true rfl, Nat.le_of_ble_eq_true rfl⟩) (x_recv (C := RX6) (T := TX6) (N := 55) X hP (okc_148 hAll) rfl) rfl hl.1 rfl (Nat.le_of_ble_eq_true rfl) dX6_rests_72 ⟨Nat.zero_le _, Nat.zero_le _⟩) hS (fun H locs hP hS => ?_)
    refine lv_aload_n hx hb dX6_rests_75 rfl (lv_at hl 0 rfl) ?_
    obtain ⟨⟨r_13, M_14⟩, hc_12, hm⟩ := bind_elim hm
    replace hm := un2_e hm
    refine x_calli (x_runV (As := []) (rest := []) X hP hS (c_X6_isRest l X.2.2 hAll hc_12) (cwV 0 hts gX6_rests_X6_isRest rfl rfl rfl (by decide +kernel) ⟨Nat.le_of_ble_eq_true rfl, Nat.le_of_ble_eq_true rfl⟩) (x_recv (C := RX6) (T := TX6) (N := 55) X hP (okc_148 hAll) rfl) rfl hl.1 rfl (Nat.le_of_ble_eq_true rfl) dX6_rests_76 ⟨Nat.zero_le _, Nat.zero_le _⟩) hS (fun H locs hP hS => ?_)
    refine lv_if_ne (tgt := 85) hx hb dX6_rests_79 (by decide) (fun h_15 => ?_) (fun h_15 => ?_)
    · rw [if_neg h_15] at hm
      refine lv_iload_n hx hb dX6_rests_85 rfl (lv_at hl 2 rfl) ?_
      refine lv_iconst (v := 1) hx hb dX6_rests_86 (by decide) ?_
      refine lv_iadd hx hb dX6_rests_87 ?_
      obtain ⟨v_16, hv_17, hm⟩ := bnd_elim hm
      refine x_name hv_17 ?_
      refine lv_istore_n (lv' := [(2, .int v_16), (0, .ref (ga g 148)), (1, .int s1), (3, .int c3), (4, .int c4), (5, .int c5), (6, .int c6), (7, .int s7), (8, .int c8)]) hx hb dX6_rests_88 rfl hl (by decide) rfl (fun ls hl => ?_)
      refine lv_iload_n hx hb dX6_rests_89 rfl (lv_at hl 3 rfl) ?_
      refine lv_iconst (v := (-1)) hx hb dX6_rests_90 (by decide) ?_
      refine lv_icmp_ne (tgt := 99) hx hb dX6_rests_91 (by decide) (fun h_18 => ?_) (fun h_18 => ?_)
      · rw [if_neg h_18] at hm
        refine lv_iload_n hx hb dX6_rests_99 rfl (lv_at hl 3 rfl) ?_
        exact wj_X6_rests_100i X hAll kb kx0 hm hP hS (lv_sub hl [1, 2, 0, 4, 5, 6, 7, 8] rfl)
      · rw [if_pos h_18] at hm
        refine lv_iload hx hb dX6_rests_94 (lv_at hl 8 rfl) ?_
        refine lv_goto (tgt := 100) hx hb dX6_rests_96 (by decide) ?_
        exact wj_X6_rests_100i X hAll kb kx0 hm hP hS (lv_sub hl [1, 2, 0, 4, 5, 6, 7, 8] rfl)
    · rw [if_pos h_15] at hm
      refine lv_goto (tgt := 149) hx hb dX6_rests_82 (by decide) ?_
      obtain ⟨v_34, hv_35, hm⟩ := bnd_elim hm
      refine lv_iinc (v := v_34) (lv' := [(8, .int v_34), (0, .ref (ga g 148)), (1, .int s1), (2, .int c2), (3, .int c3), (4, .int c4), (5, .int c5), (6, .int c6), (7, .int s7)]) hx hb dX6_rests_149 hl (k := 8) rfl (by rw [hv_35]; rfl) (by decide) rfl (fun ls hl => ?_)
      refine lv_goto (tgt := 56) hx hb dX6_rests_152 (by decide) ?_
      exact kb c2 c3 c4 c5 c6 v_34 M_14 (Option.some.inj hm).symm _ _ _ hP hS (lv_sub hl [1, 2, 3, 4, 5, 6, 7, 8, 0] rfl)

set_option maxHeartbeats 4000000 in
set_option maxRecDepth 100000 in
theorem c_X6_rests (l : Launch) {g : GT} (hA : AxG g) (hAll : okAll g)   {fu : Nat} {M : Mem} {a1 : Int32} {rr : Int32} {MM : Mem} (hm : m_X6_rests fu M a1 = some (rr, MM)) : CI l yX6_rests wsX6_rests rmX6_rests g [.ref (ga g 148), .int a1] M rr MM := by
  refine Met.ofW (cc := cX6_rests) (maxL := 9) (ret := (some .int)) (by decide) rfl ?_
  intro p e s m args below meth c s₁ B hml hv
  obtain ⟨rfl, hSx, hP⟩ := hv
  have hr := B.returns
  have hlocks := B.notSynchronized
  have X : CxG g p s m _ c cX6_rests 9 RX6 wsX6_rests := ⟨⟨B.exec, B.bytes, hml, findClass_of_methodNamed B.named, atoms_spec (ws := wsX6_rests) B.pre⟩, hSx, hA⟩
  have hS : va_S (AbG g) s.heap s.heap [] := va_S.rf
  have hl := lv_entry (([.ref (ga g 148), .int a1] : List Value)) (n := 9) (Nat.le_of_ble_eq_true rfl)
  rw [lg_entry_eq]
  generalize (lg_sl (([.ref (ga g 148), .int a1] : List Value)) ++ List.replicate (9 - (lg_sl (([.ref (ga g 148), .int a1] : List Value))).length) Slot.unset).toArray = ls at hl ⊢
  have hl : lv_has ls 9 [(0, .ref (ga g 148)), (1, .int a1)] := hl
  obtain ⟨⟨hx, hb, hml, hown, hts⟩, -, -⟩ := id X
  unfold m_X6_rests at hm
  refine lv_aload_n hx hb dX6_rests_0 rfl (lv_at hl 0 rfl) ?_
  refine lv_iconst (v := 0) hx hb dX6_rests_1 (by decide) ?_
  obtain ⟨M_1, hM_2, hm⟩ := bnd_elim hm
  refine xp_X6_0 X hP hAll uX6_rests_X6 mbX6_rests_1 hS hM_2 dX6_rests_2 (fun H locs hP hS => ?_)
  refine lv_aload_n hx hb dX6_rests_5 rfl (lv_at hl 0 rfl) ?_
  refine xg_X6_2 X hP hAll uX6_rests_X6 mbX6_rests_2 dX6_rests_6 ?_
  refine lv_bipush (v := 6) hx hb dX6_rests_9 (by decide) ?_
  refine lv_icmp_gt (tgt := 24) hx hb dX6_rests_11 (by decide) (fun h_3 => ?_) (fun h_3 => ?_)
  · rw [if_pos h_3] at hm
    refine lv_iconst (v := (-1)) hx hb dX6_rests_24 (by decide) ?_
    cases hm
    exact x_iret X hP hS hr hlocks dX6_rests_25
  · rw [if_neg h_3] at hm
    refine lv_aload_n hx hb dX6_rests_14 rfl (lv_at hl 0 rfl) ?_
    refine lv_iload_n hx hb dX6_rests_15 rfl (lv_at hl 1 rfl) ?_
    refine lv_iconst (v := 0) hx hb dX6_rests_16 (by decide) ?_
    refine lv_iconst (v := 3) hx hb dX6_rests_17 (by decide) ?_
    obtain ⟨r_5, hc_4, hm⟩ := bind_elim hm
    refine x_calli (x_runV (As := [.int a1, .int 0, .int 3]) (rest := []) X hP hS (c_X6_isIn l X.2.2 hc_4) (cwV 3 hts gX6_rests_X6_isIn rfl rfl rfl (by decide +kernel) ⟨Nat.le_of_ble_eq_true rfl, Nat.le_of_ble_eq_true rfl⟩) (x_recv (C := RX6) (T := TX6) (N := 55) X hP (okc_148 hAll) rfl) rfl hl.1 rfl (Nat.le_of_ble_eq_true rfl) dX6_rests_18 ⟨Nat.zero_le _, Nat.zero_le _⟩) hS (fun H locs hP hS => ?_)
    refine lv_if_ne (tgt := 26) hx hb dX6_rests_21 (by decide) (fun h_6 => ?_) (fun h_6 => ?_)
    · rw [if_neg h_6] at hm
      refine lv_iconst (v := 0) hx hb dX6_rests_26 (by decide) ?_
      refine lv_istore_n (lv' := [(2, .int 0), (0, .ref (ga g 148)), (1, .int a1)]) hx hb dX6_rests_27 rfl hl (by decide) rfl (fun ls hl => ?_)
      refine lv_iconst (v := (-1)) hx hb dX6_rests_28 (by decide) ?_
      refine lv_istore_n (lv' := [(3, .int (-1)), (2, .int 0), (0, .ref (ga g 148)), (1, .int a1)]) hx hb dX6_rests_29 rfl hl (by decide) rfl (fun ls hl => ?_)
      refine lv_iconst (v := (-1)) hx hb dX6_rests_30 (by decide) ?_
      refine lv_istore (lv' := [(4, .int (-1)), (3, .int (-1)), (2, .int 0), (0, .ref (ga g 148)), (1, .int a1)]) hx hb dX6_rests_31 hl (by decide) rfl (fun ls hl => ?_)
      refine lv_iconst (v := 0) hx hb dX6_rests_33 (by decide) ?_
      refine lv_istore (lv' := [(5, .int 0), (4, .int (-1)), (3, .int (-1)), (2, .int 0), (0, .ref (ga g 148)), (1, .int a1)]) hx hb dX6_rests_34 hl (by decide) rfl (fun ls hl => ?_)
      refine lv_iconst (v := 0) hx hb dX6_rests_36 (by decide) ?_
      refine lv_istore (lv' := [(6, .int 0), (5, .int 0), (4, .int (-1)), (3, .int (-1)), (2, .int 0), (0, .ref (ga g 148)), (1, .int a1)]) hx hb dX6_rests_37 hl (by decide) rfl (fun ls hl => ?_)
      refine lv_iconst (v := 1) hx hb dX6_rests_39 (by decide) ?_
      refine lv_iconst (v := 2) hx hb dX6_rests_40 (by decide) ?_
      refine lv_aload_n hx hb dX6_rests_41 rfl (lv_at hl 5 rfl) ?_
      refine xg_X6_2 X hP hAll uX6_rests_X6 mbX6_rests_2 dX6_rests_42 ?_
      refine lv_imul hx hb dX6_rests_45 ?_
      refine lv_ishl hx hb dX6_rests_46 ?_
      refine lv_iconst (v := 1) hx hb dX6_rests_47 (by decide) ?_
      refine lv_isub hx hb dX6_rests_48 ?_
      refine lv_iconst (v := 3) hx hb dX6_rests_49 (by decide) ?_
      refine lv_idiv hx hb dX6_rests_50 (by decide) ?_
      obtain ⟨v_7, hv_8, hm⟩ := bnd_elim hm
      refine x_name hv_8 ?_
      refine lv_istore (lv' := [(7, .int v_7), (6, .int 0), (5, .int 0), (4, .int (-1)), (3, .int (-1)), (2, .int 0), (0, .ref (ga g 148)), (1, .int a1)]) hx hb dX6_rests_51 hl (by decide) rfl (fun ls hl => ?_)
      refine lv_iconst (v := 0) hx hb dX6_rests_53 (by decide) ?_
      refine lv_istore (lv' := [(8, .int 0), (7, .int v_7), (6, .int 0), (5, .int 0), (4, .int (-1)), (3, .int (-1)), (2, .int 0), (0, .ref (ga g 148)), (1, .int a1)]) hx hb dX6_rests_54 hl (by decide) rfl (fun ls hl => ?_)
      obtain ⟨x_36, hL_37, hm⟩ := bind_elim hm
      refine wl_X6_rests_56 X hAll ?_ hL_37 _ _ _ hP hS (lv_sub hl [7, 8, 6, 5, 4, 3, 2, 1, 0] rfl)
      · intro v_38 v_39 v_40 v_41 M_42 e_x_36 H locs ls hP hS hl
        subst e_x_36
        replace hm := un5_e hm
        refine lv_iload_n hx hb dX6_rests_155 rfl (lv_at hl 0 rfl) ?_
        refine lv_if_ne (tgt := 163) hx hb dX6_rests_156 (by decide) (fun h_43 => ?_) (fun h_43 => ?_)
        · rw [if_neg h_43] at hm
          refine lv_iload_n hx hb dX6_rests_163 rfl (lv_at hl 0 rfl) ?_
          refine lv_iconst (v := 1) hx hb dX6_rests_164 (by decide) ?_
          refine lv_icmp_ne (tgt := 172) hx hb dX6_rests_165 (by decide) (fun h_44 => ?_) (fun h_44 => ?_)
          · rw [if_neg h_44] at hm
            refine lv_iload_n hx hb dX6_rests_172 rfl (lv_at hl 0 rfl) ?_
            refine lv_iconst (v := 2) hx hb dX6_rests_173 (by decide) ?_
            refine lv_icmp_ne (tgt := 182) hx hb dX6_rests_174 (by decide) (fun h_45 => ?_) (fun h_45 => ?_)
            · rw [if_neg h_45] at hm
              refine lv_iload hx hb dX6_rests_182 (lv_at hl 4 rfl) ?_
              cases hm
              exact x_iret X hP hS hr hlocks dX6_rests_184
            · rw [if_pos h_45] at hm
              refine lv_iload hx hb dX6_rests_177 (lv_at hl 3 rfl) ?_
              refine lv_goto (tgt := 184) hx hb dX6_rests_179 (by decide) ?_
              cases hm
              exact x_iret X hP hS hr hlocks dX6_rests_184
          · rw [if_pos h_44] at hm
            refine lv_iload_n hx hb dX6_rests_168 rfl (lv_at hl 2 rfl) ?_
            refine lv_goto (tgt := 184) hx hb dX6_rests_169 (by decide) ?_
            cases hm
            exact x_iret X hP hS hr hlocks dX6_rests_184
        · rw [if_pos h_43] at hm
          refine lv_iload_n hx hb dX6_rests_159 rfl (lv_at hl 1 rfl) ?_
          refine lv_goto (tgt := 184) hx hb dX6_rests_160 (by decide) ?_
          cases hm
          exact x_iret X hP hS hr hlocks dX6_rests_184
    · rw [if_pos h_6] at hm
      refine lv_iconst (v := (-1)) hx hb dX6_rests_24 (by decide) ?_
      cases hm
      exact x_iret X hP hS hr hlocks dX6_rests_25


/-! X6_standsStill -/
def rmX6_standsStill : Room := { frames := 4, cells := 0, slots := 0, locals := 96 }
theorem uX6_standsStill_X6 : ∀ w ∈ wsX60, w ∈ wsX6_standsStill := by decide +kernel
theorem mbX6_standsStill_1 : Cond.fieldLink RX6 7 "FootANightModel" "n" "I" ∈ wsX6_standsStill := by decide +kernel
theorem mbX6_standsStill_2 : Cond.fieldLink RX6 99 "FootANightModel" "row" "[I" ∈ wsX6_standsStill := by decide +kernel
set_option maxHeartbeats 4000000 in
set_option maxRecDepth 100000 in
theorem wl_X6_standsStill_2 (X : CxG g p s m args c cX6_standsStill 6 RX6 wsX6_standsStill) (hAll : okAll g) {fu : Nat} {s1 : Int32} {x : Mem} (kx0 : ∀ (M2 : Mem) , x = M2 → ∀ (H : Heap) (locs : List Loc) (ls : Array Slot), va_P (gD g) vwCl (wlG g M2) H → va_S (AbG g) s.heap H locs → lv_has ls 6 [(0, .ref (ga g 148))] → W p l e (headSpec wsX6_standsStill rmX6_standsStill).room s m args below meth c H locs 0 0 Q (F0 m 27 ls [])) {n : Nat} {q0 : Int32 × Mem} (h : lp (b_X6_standsStill_2 fu s1) n q0 = some x) : ∀ (H : Heap) (locs : List Loc) (ls : Array Slot), va_P (gD g) vwCl (wlG g q0.2) H → va_S (AbG g) s.heap H locs → lv_has ls 6 [(0, .ref (ga g 148)), (1, .int s1), (2, .int q0.1)] → W p l e (headSpec wsX6_standsStill rmX6_standsStill).room s m args below meth c H locs 0 0 Q (F0 m 2 ls []) := by
  refine lp_elim (P := fun q0 : Int32 × Mem => ∀ (H : Heap) (locs : List Loc) (ls : Array Slot), va_P (gD g) vwCl (wlG g q0.2) H → va_S (AbG g) s.heap H locs → lv_has ls 6 [(0, .ref (ga g 148)), (1, .int s1), (2, .int q0.1)] → W p l e (headSpec wsX6_standsStill rmX6_standsStill).room s m args below meth c H locs 0 0 Q (F0 m 2 ls [])) (fun q1 o hm hI hX => ?_) n q0 h
  obtain ⟨c2, M⟩ := q1
  have kb : ∀ (d2 : Int32) (M2 : Mem) , o = .inl (d2, M2) → ∀ (H : Heap) (locs : List Loc) (ls : Array Slot), va_P (gD g) vwCl (wlG g M2) H → va_S (AbG g) s.heap H locs → lv_has ls 6 [(0, .ref (ga g 148)), (1, .int s1), (2, .int d2)] → W p l e (headSpec wsX6_standsStill rmX6_standsStill).room s m args below meth c H locs 0 0 Q (F0 m 2 ls []) := fun d2 M2 e => hI _ e
  have kx0 : ∀ (M2 : Mem) , o = .inr M2 → ∀ (H : Heap) (locs : List Loc) (ls : Array Slot), va_P (gD g) vwCl (wlG g M2) H → va_S (AbG g) s.heap H locs → lv_has ls 6 [(0, .ref (ga g 148))] → W p l e (headSpec wsX6_standsStill rmX6_standsStill).room s m args below meth c H locs 0 0 Q (F0 m 27 ls []) := fun M2 e => kx0 M2 (hX _ e).symm
  clear hI hX
  intro H locs ls hP hS hl
  obtain ⟨⟨hx, hb, hml, hown, hts⟩, -, -⟩ := id X
  have hl : lv_has ls 6 [(0, .ref (ga g 148)), (1, .int s1), (2, .int c2)] := hl
  have hP : va_P (gD g) vwCl (wlG g M) H := hP
  unfold b_X6_standsStill_2 at hm
  replace hm := un2_e hm
  refine lv_iload_n hx hb dX6_standsStill_2 rfl (lv_at hl 2 rfl) ?_
  refine lv_aload_n hx hb dX6_standsStill_3 rfl (lv_at hl 0 rfl) ?_
  refine xg_X6_2 X hP hAll uX6_standsStill_X6 mbX6_standsStill_1 dX6_standsStill_4 ?_
  refine lv_icmp_ge (tgt := 27) hx hb dX6_standsStill_7 (by decide) (fun h_1 => ?_) (fun h_1 => ?_)
  · rw [if_pos h_1] at hm
    exact kx0 M (Option.some.inj hm).symm _ _ _ hP hS (lv_sub hl [0] rfl)
  · rw [if_neg h_1] at hm
    refine lv_aload_n hx hb dX6_standsStill_10 rfl (lv_at hl 0 rfl) ?_
    refine xg_X6_44 X hP hAll uX6_standsStill_X6 mbX6_standsStill_2 dX6_standsStill_11 ?_
    refine lv_iload_n hx hb dX6_standsStill_14 rfl (lv_at hl 2 rfl) ?_
    refine lv_iload_n hx hb dX6_standsStill_15 rfl (lv_at hl 1 rfl) ?_
    refine lv_iload_n hx hb dX6_standsStill_16 rfl (lv_at hl 2 rfl) ?_
    refine lv_ishr hx hb dX6_standsStill_17 ?_
    refine lv_iconst (v := 1) hx hb dX6_standsStill_18 (by decide) ?_
    refine lv_iand hx hb dX6_standsStill_19 ?_
    obtain ⟨hb_2, hm⟩ := chk_elim hm
    obtain ⟨M_3, hM_4, hm⟩ := bnd_elim hm
    refine x_iast X hP hS (okc_176 hAll) hM_4 hb_2 dX6_standsStill_20 (fun H locs hP hS => ?_)
    obtain ⟨v_5, hv_6, hm⟩ := bnd_elim hm
    refine lv_iinc (v := v_5) (lv' := [(2, .int v_5), (0, .ref (ga g 148)), (1, .int s1)]) hx hb dX6_standsStill_21 hl (k := 2) rfl (by rw [hv_6]; rfl) (by decide) rfl (fun ls hl => ?_)
    refine lv_goto (tgt := 2) hx hb dX6_standsStill_24 (by decide) ?_
    exact kb v_5 M_3 (Option.some.inj hm).symm _ _ _ hP hS (lv_sub hl [1, 2, 0] rfl)

set_option maxHeartbeats 4000000 in
set_option maxRecDepth 100000 in
theorem wj_X6_standsStill_87i (X : CxG g p s m args c cX6_standsStill 6 RX6 wsX6_standsStill) (hAll : okAll g) {fu : Nat} {M : Mem} {s2 : Int32} {s3 : Int32} {s4 : Int32} {t0 : Int32} {o : (Int32 × Mem) ⊕ ((Mem) ⊕ (Mem))} (kb : ∀ (d4 : Int32) (M2 : Mem) , o = .inl (d4, M2) → ∀ (H : Heap) (locs : List Loc) (ls : Array Slot), va_P (gD g) vwCl (wlG g M2) H → va_S (AbG g) s.heap H locs → lv_has ls 6 [(0, .ref (ga g 148)), (2, .int s2), (3, .int s3), (4, .int d4)] → W p l e (headSpec wsX6_standsStill rmX6_standsStill).room s m args below meth c H locs 0 0 Q (F0 m 59 ls [])) (kx0 : ∀ (M2 : Mem) , o = .inr (.inl M2) → ∀ (H : Heap) (locs : List Loc) (ls : Array Slot), va_P (gD g) vwCl (wlG g M2) H → va_S (AbG g) s.heap H locs → lv_has ls 6 [] → W p l e (headSpec wsX6_standsStill rmX6_standsStill).room s m args below meth c H locs 0 0 Q (F0 m 101 ls [])) (kx1 : ∀ (M2 : Mem) , o = .inr (.inr M2) → ∀ (H : Heap) (locs : List Loc) (ls : Array Slot), va_P (gD g) vwCl (wlG g M2) H → va_S (AbG g) s.heap H locs → lv_has ls 6 [(0, .ref (ga g 148)), (2, .int s2)] → W p l e (headSpec wsX6_standsStill rmX6_standsStill).room s m args below meth c H locs 0 0 Q (F0 m 109 ls [])) (hm : j_X6_standsStill_87i fu M s2 s3 s4 t0 = some o) {H : Heap} {locs : List Loc} {ls : Array Slot} (hP : va_P (gD g) vwCl (wlG g M) H) (hS : va_S (AbG g) s.heap H locs) (hl : lv_has ls 6 [(0, .ref (ga g 148)), (2, .int s2), (3, .int s3), (4, .int s4)]) : W p l e (headSpec wsX6_standsStill rmX6_standsStill).room s m args below meth c H locs 0 0 Q (F0 m 87 ls [.int t0]) := by
  obtain ⟨⟨hx, hb, hml, hown, hts⟩, -, -⟩ := id X
  unfold j_X6_standsStill_87i at hm
  refine lv_istore (lv' := [(5, .int t0), (0, .ref (ga g 148)), (2, .int s2), (3, .int s3), (4, .int s4)]) hx hb dX6_standsStill_87 hl (by decide) rfl (fun ls hl => ?_)
  refine lv_aload_n hx hb dX6_standsStill_89 rfl (lv_at hl 1 rfl) ?_
  refine xg_X6_44 X hP hAll uX6_standsStill_X6 mbX6_standsStill_2 dX6_standsStill_90 ?_
  refine lv_iload_n hx hb dX6_standsStill_93 rfl (lv_at hl 2 rfl) ?_
  refine lv_iconst (v := 0) hx hb dX6_standsStill_94 (by decide) ?_
  obtain ⟨hb_22, hm⟩ := chk_elim hm
  obtain ⟨M_23, hM_24, hm⟩ := bnd_elim hm
  refine x_iast X hP hS (okc_176 hAll) hM_24 hb_22 dX6_standsStill_95 (fun H locs hP hS => ?_)
  refine lv_iload hx hb dX6_standsStill_96 (lv_at hl 0 rfl) ?_
  refine lv_if_eq (tgt := 103) hx hb dX6_standsStill_98 (by decide) (fun h_25 => ?_) (fun h_25 => ?_)
  · rw [if_pos h_25] at hm
    obtain ⟨v_26, hv_27, hm⟩ := bnd_elim hm
    refine lv_iinc (v := v_26) (lv' := [(4, .int v_26), (5, .int t0), (0, .ref (ga g 148)), (2, .int s2), (3, .int s3)]) hx hb dX6_standsStill_103 hl (k := 4) rfl (by rw [hv_27]; rfl) (by decide) rfl (fun ls hl => ?_)
    refine lv_goto (tgt := 59) hx hb dX6_standsStill_106 (by decide) ?_
    exact kb v_26 M_23 (Option.some.inj hm).symm _ _ _ hP hS (lv_sub hl [2, 3, 4, 0] rfl)
  · rw [if_neg h_25] at hm
    exact kx0 M_23 (Option.some.inj hm).symm _ _ _ hP hS (lv_sub hl [] rfl)

set_option maxHeartbeats 4000000 in
set_option maxRecDepth 100000 in
theorem wl_X6_standsStill_59 (X : CxG g p s m args c cX6_standsStill 6 RX6 wsX6_standsStill) (hAll : okAll g) {fu : Nat} {s2 : Int32} {s3 : Int32} {x : (Mem) ⊕ (Mem)} (kx0 : ∀ (M2 : Mem) , x = .inl M2 → ∀ (H : Heap) (locs : List Loc) (ls : Array Slot), va_P (gD g) vwCl (wlG g M2) H → va_S (AbG g) s.heap H locs → lv_has ls 6 [] → W p l e (headSpec wsX6_standsStill rmX6_standsStill).room s m args below meth c H locs 0 0 Q (F0 m 101 ls [])) (kx1 : ∀ (M2 : Mem) , x = .inr M2 → ∀ (H : Heap) (locs : List Loc) (ls : Array Slot), va_P (gD g) vwCl (wlG g M2) H → va_S (AbG g) s.heap H locs → lv_has ls 6 [(0, .ref (ga g 148)), (2, .int s2)] → W p l e (headSpec wsX6_standsStill rmX6_standsStill).room s m args below meth c H locs 0 0 Q (F0 m 109 ls [])) {n : Nat} {q0 : Int32 × Mem} (h : lp (b_X6_standsStill_59 fu s2 s3) n q0 = some x) : ∀ (H : Heap) (locs : List Loc) (ls : Array Slot), va_P (gD g) vwCl (wlG g q0.2) H → va_S (AbG g) s.heap H locs → lv_has ls 6 [(0, .ref (ga g 148)), (2, .int s2), (3, .int s3), (4, .int q0.1)] → W p l e (headSpec wsX6_standsStill rmX6_standsStill).room s m args below meth c H locs 0 0 Q (F0 m 59 ls []) := by
  refine lp_elim (P := fun q0 : Int32 × Mem => ∀ (H : Heap) (locs : List Loc) (ls : Array Slot), va_P (gD g) vwCl (wlG g q0.2) H → va_S (AbG g) s.heap H locs → lv_has ls 6 [(0, .ref (ga g 148)), (2, .int s2), (3, .int s3), (4, .int q0.1)] → W p l e (headSpec wsX6_standsStill rmX6_standsStill).room s m args below meth c H locs 0 0 Q (F0 m 59 ls [])) (fun q1 o hm hI hX => ?_) n q0 h
  obtain ⟨c4, M⟩ := q1
  have kb : ∀ (d4 : Int32) (M2 : Mem) , o = .inl (d4, M2) → ∀ (H : Heap) (locs : List Loc) (ls : Array Slot), va_P (gD g) vwCl (wlG g M2) H → va_S (AbG g) s.heap H locs → lv_has ls 6 [(0, .ref (ga g 148)), (2, .int s2), (3, .int s3), (4, .int d4)] → W p l e (headSpec wsX6_standsStill rmX6_standsStill).room s m args below meth c H locs 0 0 Q (F0 m 59 ls []) := fun d4 M2 e => hI _ e
  have kx0 : ∀ (M2 : Mem) , o = .inr (.inl M2) → ∀ (H : Heap) (locs : List Loc) (ls : Array Slot), va_P (gD g) vwCl (wlG g M2) H → va_S (AbG g) s.heap H locs → lv_has ls 6 [] → W p l e (headSpec wsX6_standsStill rmX6_standsStill).room s m args below meth c H locs 0 0 Q (F0 m 101 ls []) := fun M2 e => kx0 M2 (hX _ e).symm
  have kx1 : ∀ (M2 : Mem) , o = .inr (.inr M2) → ∀ (H : Heap) (locs : List Loc) (ls : Array Slot), va_P (gD g) vwCl (wlG g M2) H → va_S (AbG g) s.heap H locs → lv_has ls 6 [(0, .ref (ga g 148)), (2, .int s2)] → W p l e (headSpec wsX6_standsStill rmX6_standsStill).room s m args below meth c H locs 0 0 Q (F0 m 109 ls []) := fun M2 e => kx1 M2 (hX _ e).symm
  clear hI hX
  intro H locs ls hP hS hl
  obtain ⟨⟨hx, hb, hml, hown, hts⟩, -, -⟩ := id X
  have hl : lv_has ls 6 [(0, .ref (ga g 148)), (2, .int s2), (3, .int s3), (4, .int c4)] := hl
  have hP : va_P (gD g) vwCl (wlG g M) H := hP
  unfold b_X6_standsStill_59 at hm
  replace hm := un2_e hm
  refine lv_iload hx hb dX6_standsStill_59 (lv_at hl 3 rfl) ?_
  refine lv_iconst (v := 3) hx hb dX6_standsStill_61 (by decide) ?_
  refine lv_icmp_gt (tgt := 109) hx hb dX6_standsStill_62 (by decide) (fun h_15 => ?_) (fun h_15 => ?_)
  · rw [if_pos h_15] at hm
    exact kx1 M (Option.some.inj hm).symm _ _ _ hP hS (lv_sub hl [0, 1] rfl)
  · rw [if_neg h_15] at hm
    refine lv_aload_n hx hb dX6_standsStill_65 rfl (lv_at hl 0 rfl) ?_
    refine xg_X6_44 X hP hAll uX6_standsStill_X6 mbX6_standsStill_2 dX6_standsStill_66 ?_
    refine lv_iload_n hx hb dX6_standsStill_69 rfl (lv_at hl 1 rfl) ?_
    refine lv_iload hx hb dX6_standsStill_70 (lv_at hl 3 rfl) ?_
    obtain ⟨hb_16, hm⟩ := chk_elim hm
    obtain ⟨M_17, hM_18, hm⟩ := bnd_elim hm
    refine x_iast X hP hS (okc_176 hAll) hM_18 hb_16 dX6_standsStill_72 (fun H locs hP hS => ?_)
    refine lv_aload_n hx hb dX6_standsStill_73 rfl (lv_at hl 0 rfl) ?_
    refine lv_iload_n hx hb dX6_standsStill_74 rfl (lv_at hl 1 rfl) ?_
    obtain ⟨r_20, hc_19, hm⟩ := bind_elim hm
    refine x_calli (x_runV (As := [.int s2]) (rest := []) X hP hS (c_X6_valueOf l X.2.2 hAll hc_19) (cwV 1 hts gX6_standsStill_X6_valueOf rfl rfl rfl (by decide +kernel) ⟨Nat.le_of_ble_eq_true rfl, Nat.le_of_ble_eq_true rfl⟩) (x_recv (C := RX6) (T := TX6) (N := 55) X hP (okc_148 hAll) rfl) rfl hl.1 rfl (Nat.le_of_ble_eq_true rfl) dX6_standsStill_75 ⟨Nat.zero_le _, Nat.zero_le _⟩) hS (fun H locs hP hS => ?_)
    refine lv_iload_n hx hb dX6_standsStill_78 rfl (lv_at hl 2 rfl) ?_
    refine lv_icmp_le (tgt := 86) hx hb dX6_standsStill_79 (by decide) (fun h_21 => ?_) (fun h_21 => ?_)
    · rw [if_pos h_21] at hm
      refine lv_iconst (v := 0) hx hb dX6_standsStill_86 (by decide) ?_
      exact wj_X6_standsStill_87i X hAll kb kx0 kx1 hm hP hS (lv_sub hl [0, 1, 2, 3] rfl)
    · rw [if_neg h_21] at hm
      refine lv_iconst (v := 1) hx hb dX6_standsStill_82 (by decide) ?_
      refine lv_goto (tgt := 87) hx hb dX6_standsStill_83 (by decide) ?_
      exact wj_X6_standsStill_87i X hAll kb kx0 kx1 hm hP hS (lv_sub hl [0, 1, 2, 3] rfl)

set_option maxHeartbeats 4000000 in
set_option maxRecDepth 100000 in
theorem wl_X6_standsStill_29 (X : CxG g p s m args c cX6_standsStill 6 RX6 wsX6_standsStill) (hAll : okAll g) {fu : Nat} {x : (Mem) ⊕ (Mem)} (kx0 : ∀ (M2 : Mem) , x = .inl M2 → ∀ (H : Heap) (locs : List Loc) (ls : Array Slot), va_P (gD g) vwCl (wlG g M2) H → va_S (AbG g) s.heap H locs → lv_has ls 6 [] → W p l e (headSpec wsX6_standsStill rmX6_standsStill).room s m args below meth c H locs 0 0 Q (F0 m 101 ls [])) (kx1 : ∀ (M2 : Mem) , x = .inr M2 → ∀ (H : Heap) (locs : List Loc) (ls : Array Slot), va_P (gD g) vwCl (wlG g M2) H → va_S (AbG g) s.heap H locs → lv_has ls 6 [] → W p l e (headSpec wsX6_standsStill rmX6_standsStill).room s m args below meth c H locs 0 0 Q (F0 m 115 ls [])) {n : Nat} {q0 : Int32 × Mem} (h : lp (b_X6_standsStill_29 fu) n q0 = some x) : ∀ (H : Heap) (locs : List Loc) (ls : Array Slot), va_P (gD g) vwCl (wlG g q0.2) H → va_S (AbG g) s.heap H locs → lv_has ls 6 [(0, .ref (ga g 148)), (2, .int q0.1)] → W p l e (headSpec wsX6_standsStill rmX6_standsStill).room s m args below meth c H locs 0 0 Q (F0 m 29 ls []) := by
  refine lp_elim (P := fun q0 : Int32 × Mem => ∀ (H : Heap) (locs : List Loc) (ls : Array Slot), va_P (gD g) vwCl (wlG g q0.2) H → va_S (AbG g) s.heap H locs → lv_has ls 6 [(0, .ref (ga g 148)), (2, .int q0.1)] → W p l e (headSpec wsX6_standsStill rmX6_standsStill).room s m args below meth c H locs 0 0 Q (F0 m 29 ls [])) (fun q1 o hm hI hX => ?_) n q0 h
  obtain ⟨c2, M⟩ := q1
  have kb : ∀ (d2 : Int32) (M2 : Mem) , o = .inl (d2, M2) → ∀ (H : Heap) (locs : List Loc) (ls : Array Slot), va_P (gD g) vwCl (wlG g M2) H → va_S (AbG g) s.heap H locs → lv_has ls 6 [(0, .ref (ga g 148)), (2, .int d2)] → W p l e (headSpec wsX6_standsStill rmX6_standsStill).room s m args below meth c H locs 0 0 Q (F0 m 29 ls []) := fun d2 M2 e => hI _ e
  have kx0 : ∀ (M2 : Mem) , o = .inr (.inl M2) → ∀ (H : Heap) (locs : List Loc) (ls : Array Slot), va_P (gD g) vwCl (wlG g M2) H → va_S (AbG g) s.heap H locs → lv_has ls 6 [] → W p l e (headSpec wsX6_standsStill rmX6_standsStill).room s m args below meth c H locs 0 0 Q (F0 m 101 ls []) := fun M2 e => kx0 M2 (hX _ e).symm
  have kx1 : ∀ (M2 : Mem) , o = .inr (.inr M2) → ∀ (H : Heap) (locs : List Loc) (ls : Array Slot), va_P (gD g) vwCl (wlG g M2) H → va_S (AbG g) s.heap H locs → lv_has ls 6 [] → W p l e (headSpec wsX6_standsStill rmX6_standsStill).room s m args below meth c H locs 0 0 Q (F0 m 115 ls []) := fun M2 e => kx1 M2 (hX _ e).symm
  clear hI hX
  intro H locs ls hP hS hl
  obtain ⟨⟨hx, hb, hml, hown, hts⟩, -, -⟩ := id X
  have hl : lv_has ls 6 [(0, .ref (ga g 148)), (2, .int c2)] := hl
  have hP : va_P (gD g) vwCl (wlG g M) H := hP
  unfold b_X6_standsStill_29 at hm
  replace hm := un2_e hm
  refine lv_iload_n hx hb dX6_standsStill_29 rfl (lv_at hl 1 rfl) ?_
  refine lv_aload_n hx hb dX6_standsStill_30 rfl (lv_at hl 0 rfl) ?_
  refine xg_X6_2 X hP hAll uX6_standsStill_X6 mbX6_standsStill_1 dX6_standsStill_31 ?_
  refine lv_icmp_ge (tgt := 115) hx hb dX6_standsStill_34 (by decide) (fun h_10 => ?_) (fun h_10 => ?_)
  · rw [if_pos h_10] at hm
    exact kx1 M (Option.some.inj hm).symm _ _ _ hP hS (lv_sub hl [] rfl)
  · rw [if_neg h_10] at hm
    refine lv_aload_n hx hb dX6_standsStill_37 rfl (lv_at hl 0 rfl) ?_
    refine xg_X6_44 X hP hAll uX6_standsStill_X6 mbX6_standsStill_2 dX6_standsStill_38 ?_
    refine lv_iload_n hx hb dX6_standsStill_41 rfl (lv_at hl 1 rfl) ?_
    obtain ⟨hb_11, hm⟩ := chk_elim hm
    refine x_iald X hP (okc_176 hAll) hb_11 dX6_standsStill_42 ?_
    refine lv_iconst (v := 1) hx hb dX6_standsStill_43 (by decide) ?_
    refine lv_icmp_ne (tgt := 50) hx hb dX6_standsStill_44 (by decide) (fun h_12 => ?_) (fun h_12 => ?_)
    · rw [if_neg h_12] at hm
      refine lv_aload_n hx hb dX6_standsStill_50 rfl (lv_at hl 0 rfl) ?_
      refine lv_iload_n hx hb dX6_standsStill_51 rfl (lv_at hl 1 rfl) ?_
      obtain ⟨r_14, hc_13, hm⟩ := bind_elim hm
      refine x_calli (x_runV (As := [.int c2]) (rest := []) X hP hS (c_X6_valueOf l X.2.2 hAll hc_13) (cwV 1 hts gX6_standsStill_X6_valueOf rfl rfl rfl (by decide +kernel) ⟨Nat.le_of_ble_eq_true rfl, Nat.le_of_ble_eq_true rfl⟩) (x_recv (C := RX6) (T := TX6) (N := 55) X hP (okc_148 hAll) rfl) rfl hl.1 rfl (Nat.le_of_ble_eq_true rfl) dX6_standsStill_52 ⟨Nat.zero_le _, Nat.zero_le _⟩) hS (fun H locs hP hS => ?_)
      refine lv_istore_n (lv' := [(3, .int r_14), (0, .ref (ga g 148)), (2, .int c2)]) hx hb dX6_standsStill_55 rfl hl (by decide) rfl (fun ls hl => ?_)
      refine lv_iconst (v := 2) hx hb dX6_standsStill_56 (by decide) ?_
      refine lv_istore (lv' := [(4, .int 2), (3, .int r_14), (0, .ref (ga g 148)), (2, .int c2)]) hx hb dX6_standsStill_57 hl (by decide) rfl (fun ls hl => ?_)
      obtain ⟨x_28, hL_29, hm⟩ := bind_elim hm
      refine wl_X6_standsStill_59 X hAll ?_ ?_ hL_29 _ _ _ hP hS (lv_sub hl [2, 3, 1, 0] rfl)
      · intro M_30 e_x_28 H locs ls hP hS hl
        subst e_x_28
        replace hm := unS_l hm
        replace hm := un1_e hm
        exact kx0 M_30 (Option.some.inj hm).symm _ _ _ hP hS (lv_sub hl [] rfl)
      · intro M_31 e_x_28 H locs ls hP hS hl
        subst e_x_28
        replace hm := unS_r hm
        replace hm := un1_e hm
        obtain ⟨v_32, hv_33, hm⟩ := bnd_elim hm
        refine lv_iinc (v := v_32) (lv' := [(2, .int v_32), (0, .ref (ga g 148))]) hx hb dX6_standsStill_109 hl (k := 1) rfl (by rw [hv_33]; rfl) (by decide) rfl (fun ls hl => ?_)
        refine lv_goto (tgt := 29) hx hb dX6_standsStill_112 (by decide) ?_
        exact kb v_32 M_31 (Option.some.inj hm).symm _ _ _ hP hS (lv_sub hl [1, 0] rfl)
    · rw [if_pos h_12] at hm
      refine lv_goto (tgt := 109) hx hb dX6_standsStill_47 (by decide) ?_
      obtain ⟨v_34, hv_35, hm⟩ := bnd_elim hm
      refine lv_iinc (v := v_34) (lv' := [(2, .int v_34), (0, .ref (ga g 148))]) hx hb dX6_standsStill_109 hl (k := 1) rfl (by rw [hv_35]; rfl) (by decide) rfl (fun ls hl => ?_)
      refine lv_goto (tgt := 29) hx hb dX6_standsStill_112 (by decide) ?_
      exact kb v_34 M (Option.some.inj hm).symm _ _ _ hP hS (lv_sub hl [1, 0] rfl)

set_option maxHeartbeats 4000000 in
set_option maxRecDepth 100000 in
theorem c_X6_standsStill (l : Launch) {g : GT} (hA : AxG g) (hAll : okAll g)   {fu : Nat} {M : Mem} {a1 : Int32} {rr : Int32} {MM : Mem} (hm : m_X6_standsStill fu M a1 = some (rr, MM)) : CI l yX6_standsStill wsX6_standsStill rmX6_standsStill g [.ref (ga g 148), .int a1] M rr MM := by
  refine Met.ofW (cc := cX6_standsStill) (maxL := 6) (ret := (some .boolean)) (by decide) rfl ?_
  intro p e s m args below meth c s₁ B hml hv
  obtain ⟨rfl, hSx, hP⟩ := hv
  have hr := B.returns
  have hlocks := B.notSynchronized
  have X : CxG g p s m _ c cX6_standsStill 6 RX6 wsX6_standsStill := ⟨⟨B.exec, B.bytes, hml, findClass_of_methodNamed B.named, atoms_spec (ws := wsX6_standsStill) B.pre⟩, hSx, hA⟩
  have hS : va_S (AbG g) s.heap s.heap [] := va_S.rf
  have hl := lv_entry (([.ref (ga g 148), .int a1] : List Value)) (n := 6) (Nat.le_of_ble_eq_true rfl)
  rw [lg_entry_eq]
  generalize (lg_sl (([.ref (ga g 148), .int a1] : List Value)) ++ List.replicate (6 - (lg_sl (([.ref (ga g 148), .int a1] : List Value))).length) Slot.unset).toArray = ls at hl ⊢
  have hl : lv_has ls 6 [(0, .ref (ga g 148)), (1, .int a1)] := hl
  obtain ⟨⟨hx, hb, hml, hown, hts⟩, -, -⟩ := id X
  unfold m_X6_standsStill at hm
  refine lv_iconst (v := 0) hx hb dX6_standsStill_0 (by decide) ?_
  refine lv_istore_n (lv' := [(2, .int 0), (0, .ref (ga g 148)), (1, .int a1)]) hx hb dX6_standsStill_1 rfl hl (by decide) rfl (fun ls hl => ?_)
  obtain ⟨M_9, hL_8, hm⟩ := bind_elim hm
  refine wl_X6_standsStill_2 X hAll ?_ hL_8 _ _ _ hP hS (lv_sub hl [1, 2, 0] rfl)
  · intro z_M_9 e_M_9 H locs ls hP hS hl
    subst e_M_9
    replace hm := un1_e hm
    refine lv_iconst (v := 0) hx hb dX6_standsStill_27 (by decide) ?_
    refine lv_istore_n (lv' := [(2, .int 0), (0, .ref (ga g 148))]) hx hb dX6_standsStill_28 rfl hl (by decide) rfl (fun ls hl => ?_)
    obtain ⟨x_36, hL_37, hm⟩ := bind_elim hm
    refine wl_X6_standsStill_29 X hAll ?_ ?_ hL_37 _ _ _ hP hS (lv_sub hl [1, 0] rfl)
    · intro M_38 e_x_36 H locs ls hP hS hl
      subst e_x_36
      replace hm := unS_l hm
      replace hm := un1_e hm
      refine lv_iconst (v := 0) hx hb dX6_standsStill_101 (by decide) ?_
      cases hm
      exact x_zret X (by decide) hP hS hr hlocks dX6_standsStill_102
    · intro M_39 e_x_36 H locs ls hP hS hl
      subst e_x_36
      replace hm := unS_r hm
      replace hm := un1_e hm
      refine lv_iconst (v := 1) hx hb dX6_standsStill_115 (by decide) ?_
      cases hm
      exact x_zret X (by decide) hP hS hr hlocks dX6_standsStill_116


/-! X6_stillSet -/
def rmX6_stillSet : Room := { frames := 5, cells := 0, slots := 0, locals := 121 }
theorem uX6_stillSet_X6 : ∀ w ∈ wsX60, w ∈ wsX6_stillSet := by decide +kernel
theorem mbX6_stillSet_1 : Cond.fieldLink RX6 7 "FootANightModel" "n" "I" ∈ wsX6_stillSet := by decide +kernel
set_option maxHeartbeats 4000000 in
set_option maxRecDepth 100000 in
theorem wj_X6_stillSet_32i (X : CxG g p s m args c cX6_stillSet 3 RX6 wsX6_stillSet) (hAll : okAll g) {fu : Nat} {M : Mem} {s1 : Int32} {s2 : Int32} {o : (Int32 × Int32 × Mem) ⊕ (Int32 × Mem)} (kb : ∀ (d1 : Int32) (d2 : Int32) (M2 : Mem) , o = .inl (d1, d2, M2) → ∀ (H : Heap) (locs : List Loc) (ls : Array Slot), va_P (gD g) vwCl (wlG g M2) H → va_S (AbG g) s.heap H locs → lv_has ls 3 [(0, .ref (ga g 148)), (1, .int d1), (2, .int d2)] → W p l e (headSpec wsX6_stillSet rmX6_stillSet).room s m args below meth c H locs 0 0 Q (F0 m 4 ls [])) (kx0 : ∀ (d1 : Int32) (M2 : Mem) , o = .inr (d1, M2) → ∀ (H : Heap) (locs : List Loc) (ls : Array Slot), va_P (gD g) vwCl (wlG g M2) H → va_S (AbG g) s.heap H locs → lv_has ls 3 [(1, .int d1)] → W p l e (headSpec wsX6_stillSet rmX6_stillSet).room s m args below meth c H locs 0 0 Q (F0 m 48 ls [])) (hm : j_X6_stillSet_32i fu M s1 s2 = some o) {H : Heap} {locs : List Loc} {ls : Array Slot} (hP : va_P (gD g) vwCl (wlG g M) H) (hS : va_S (AbG g) s.heap H locs) (hl : lv_has ls 3 [(0, .ref (ga g 148)), (1, .int s1), (2, .int s2)]) : W p l e (headSpec wsX6_stillSet rmX6_stillSet).room s m args below meth c H locs 0 0 Q (F0 m 32 ls []) := by
  obtain ⟨⟨hx, hb, hml, hown, hts⟩, -, -⟩ := id X
  unfold j_X6_stillSet_32i at hm
  refine lv_aload_n hx hb dX6_stillSet_32 rfl (lv_at hl 0 rfl) ?_
  refine lv_iload_n hx hb dX6_stillSet_33 rfl (lv_at hl 2 rfl) ?_
  obtain ⟨⟨r_4, M_5⟩, hc_3, hm⟩ := bind_elim hm
  replace hm := un2_e hm
  refine x_calli (x_runV (As := [.int s2]) (rest := []) X hP hS (c_X6_standsStill l X.2.2 hAll hc_3) (cwV 1 hts gX6_stillSet_X6_standsStill rfl rfl rfl (by decide +kernel) ⟨Nat.le_of_ble_eq_true rfl, Nat.le_of_ble_eq_true rfl⟩) (x_recv (C := RX6) (T := TX6) (N := 55) X hP (okc_148 hAll) rfl) rfl hl.1 rfl (Nat.le_of_ble_eq_true rfl) dX6_stillSet_34 ⟨Nat.zero_le _, Nat.zero_le _⟩) hS (fun H locs hP hS => ?_)
  refine lv_if_eq (tgt := 42) hx hb dX6_stillSet_37 (by decide) (fun h_6 => ?_) (fun h_6 => ?_)
  · rw [if_pos h_6] at hm
    obtain ⟨v_7, hv_8, hm⟩ := bnd_elim hm
    refine lv_iinc (v := v_7) (lv' := [(2, .int v_7), (0, .ref (ga g 148)), (1, .int s1)]) hx hb dX6_stillSet_42 hl (k := 2) rfl (by rw [hv_8]; rfl) (by decide) rfl (fun ls hl => ?_)
    refine lv_goto (tgt := 4) hx hb dX6_stillSet_45 (by decide) ?_
    exact kb s1 v_7 M_5 (Option.some.inj hm).symm _ _ _ hP hS (lv_sub hl [1, 2, 0] rfl)
  · rw [if_neg h_6] at hm
    refine lv_iload_n hx hb dX6_stillSet_40 rfl (lv_at hl 2 rfl) ?_
    refine lv_istore_n (lv' := [(1, .int s2), (0, .ref (ga g 148)), (2, .int s2)]) hx hb dX6_stillSet_41 rfl hl (by decide) rfl (fun ls hl => ?_)
    obtain ⟨v_9, hv_10, hm⟩ := bnd_elim hm
    refine lv_iinc (v := v_9) (lv' := [(2, .int v_9), (1, .int s2), (0, .ref (ga g 148))]) hx hb dX6_stillSet_42 hl (k := 2) rfl (by rw [hv_10]; rfl) (by decide) rfl (fun ls hl => ?_)
    refine lv_goto (tgt := 4) hx hb dX6_stillSet_45 (by decide) ?_
    exact kb s2 v_9 M_5 (Option.some.inj hm).symm _ _ _ hP hS (lv_sub hl [2, 1, 0] rfl)

set_option maxHeartbeats 4000000 in
set_option maxRecDepth 100000 in
theorem wl_X6_stillSet_4 (X : CxG g p s m args c cX6_stillSet 3 RX6 wsX6_stillSet) (hAll : okAll g) {fu : Nat} {x : Int32 × Mem} (kx0 : ∀ (d1 : Int32) (M2 : Mem) , x = (d1, M2) → ∀ (H : Heap) (locs : List Loc) (ls : Array Slot), va_P (gD g) vwCl (wlG g M2) H → va_S (AbG g) s.heap H locs → lv_has ls 3 [(1, .int d1)] → W p l e (headSpec wsX6_stillSet rmX6_stillSet).room s m args below meth c H locs 0 0 Q (F0 m 48 ls [])) {n : Nat} {q0 : Int32 × Int32 × Mem} (h : lp (b_X6_stillSet_4 fu) n q0 = some x) : ∀ (H : Heap) (locs : List Loc) (ls : Array Slot), va_P (gD g) vwCl (wlG g q0.2.2) H → va_S (AbG g) s.heap H locs → lv_has ls 3 [(0, .ref (ga g 148)), (1, .int q0.1), (2, .int q0.2.1)] → W p l e (headSpec wsX6_stillSet rmX6_stillSet).room s m args below meth c H locs 0 0 Q (F0 m 4 ls []) := by
  refine lp_elim (P := fun q0 : Int32 × Int32 × Mem => ∀ (H : Heap) (locs : List Loc) (ls : Array Slot), va_P (gD g) vwCl (wlG g q0.2.2) H → va_S (AbG g) s.heap H locs → lv_has ls 3 [(0, .ref (ga g 148)), (1, .int q0.1), (2, .int q0.2.1)] → W p l e (headSpec wsX6_stillSet rmX6_stillSet).room s m args below meth c H locs 0 0 Q (F0 m 4 ls [])) (fun q1 o hm hI hX => ?_) n q0 h
  obtain ⟨c1, c2, M⟩ := q1
  have kb : ∀ (d1 : Int32) (d2 : Int32) (M2 : Mem) , o = .inl (d1, d2, M2) → ∀ (H : Heap) (locs : List Loc) (ls : Array Slot), va_P (gD g) vwCl (wlG g M2) H → va_S (AbG g) s.heap H locs → lv_has ls 3 [(0, .ref (ga g 148)), (1, .int d1), (2, .int d2)] → W p l e (headSpec wsX6_stillSet rmX6_stillSet).room s m args below meth c H locs 0 0 Q (F0 m 4 ls []) := fun d1 d2 M2 e => hI _ e
  have kx0 : ∀ (d1 : Int32) (M2 : Mem) , o = .inr (d1, M2) → ∀ (H : Heap) (locs : List Loc) (ls : Array Slot), va_P (gD g) vwCl (wlG g M2) H → va_S (AbG g) s.heap H locs → lv_has ls 3 [(1, .int d1)] → W p l e (headSpec wsX6_stillSet rmX6_stillSet).room s m args below meth c H locs 0 0 Q (F0 m 48 ls []) := fun d1 M2 e => kx0 d1 M2 (hX _ e).symm
  clear hI hX
  intro H locs ls hP hS hl
  obtain ⟨⟨hx, hb, hml, hown, hts⟩, -, -⟩ := id X
  have hl : lv_has ls 3 [(0, .ref (ga g 148)), (1, .int c1), (2, .int c2)] := hl
  have hP : va_P (gD g) vwCl (wlG g M) H := hP
  unfold b_X6_stillSet_4 at hm
  replace hm := un3_e hm
  refine lv_iload_n hx hb dX6_stillSet_4 rfl (lv_at hl 2 rfl) ?_
  refine lv_iconst (v := 1) hx hb dX6_stillSet_5 (by decide) ?_
  refine lv_aload_n hx hb dX6_stillSet_6 rfl (lv_at hl 0 rfl) ?_
  refine xg_X6_2 X hP hAll uX6_stillSet_X6 mbX6_stillSet_1 dX6_stillSet_7 ?_
  refine lv_ishl hx hb dX6_stillSet_10 ?_
  refine lv_icmp_ge (tgt := 48) hx hb dX6_stillSet_11 (by decide) (fun h_1 => ?_) (fun h_1 => ?_)
  · rw [if_pos h_1] at hm
    exact kx0 c1 M (Option.some.inj hm).symm _ _ _ hP hS (lv_sub hl [1] rfl)
  · rw [if_neg h_1] at hm
    refine lv_iload_n hx hb dX6_stillSet_14 rfl (lv_at hl 1 rfl) ?_
    refine lv_iconst (v := (-1)) hx hb dX6_stillSet_15 (by decide) ?_
    refine lv_icmp_eq (tgt := 32) hx hb dX6_stillSet_16 (by decide) (fun h_2 => ?_) (fun h_2 => ?_)
    · rw [if_pos h_2] at hm
      exact wj_X6_stillSet_32i X hAll kb kx0 hm hP hS (lv_sub hl [0, 1, 2] rfl)
    · rw [if_neg h_2] at hm
      refine lv_aload_n hx hb dX6_stillSet_19 rfl (lv_at hl 0 rfl) ?_
      refine lv_iload_n hx hb dX6_stillSet_20 rfl (lv_at hl 2 rfl) ?_
      obtain ⟨r_12, hc_11, hm⟩ := bind_elim hm
      refine x_calli (x_runV (As := [.int c2]) (rest := []) X hP hS (c_X6_ones l X.2.2 hc_11) (cwV 1 hts gX6_stillSet_X6_ones rfl rfl rfl (by decide +kernel) ⟨Nat.le_of_ble_eq_true rfl, Nat.le_of_ble_eq_true rfl⟩) (x_recv (C := RX6) (T := TX6) (N := 55) X hP (okc_148 hAll) rfl) rfl hl.1 rfl (Nat.le_of_ble_eq_true rfl) dX6_stillSet_21 ⟨Nat.zero_le _, Nat.zero_le _⟩) hS (fun H locs hP hS => ?_)
      refine lv_aload_n hx hb dX6_stillSet_24 rfl (lv_at hl 0 rfl) ?_
      refine lv_iload_n hx hb dX6_stillSet_25 rfl (lv_at hl 1 rfl) ?_
      obtain ⟨r_14, hc_13, hm⟩ := bind_elim hm
      refine x_calli (x_runV (As := [.int c1]) (rest := [.int r_12]) X hP hS (c_X6_ones l X.2.2 hc_13) (cwV 1 hts gX6_stillSet_X6_ones rfl rfl rfl (by decide +kernel) ⟨Nat.le_of_ble_eq_true rfl, Nat.le_of_ble_eq_true rfl⟩) (x_recv (C := RX6) (T := TX6) (N := 55) X hP (okc_148 hAll) rfl) rfl hl.1 rfl (Nat.le_of_ble_eq_true rfl) dX6_stillSet_26 ⟨Nat.zero_le _, Nat.zero_le _⟩) hS (fun H locs hP hS => ?_)
      refine lv_icmp_ge (tgt := 42) hx hb dX6_stillSet_29 (by decide) (fun h_15 => ?_) (fun h_15 => ?_)
      · rw [if_pos h_15] at hm
        obtain ⟨v_16, hv_17, hm⟩ := bnd_elim hm
        refine lv_iinc (v := v_16) (lv' := [(2, .int v_16), (0, .ref (ga g 148)), (1, .int c1)]) hx hb dX6_stillSet_42 hl (k := 2) rfl (by rw [hv_17]; rfl) (by decide) rfl (fun ls hl => ?_)
        refine lv_goto (tgt := 4) hx hb dX6_stillSet_45 (by decide) ?_
        exact kb c1 v_16 M (Option.some.inj hm).symm _ _ _ hP hS (lv_sub hl [1, 2, 0] rfl)
      · rw [if_neg h_15] at hm
        exact wj_X6_stillSet_32i X hAll kb kx0 hm hP hS (lv_sub hl [0, 1, 2] rfl)

set_option maxHeartbeats 4000000 in
set_option maxRecDepth 100000 in
theorem c_X6_stillSet (l : Launch) {g : GT} (hA : AxG g) (hAll : okAll g)   {fu : Nat} {M : Mem} {rr : Int32} {MM : Mem} (hm : m_X6_stillSet fu M = some (rr, MM)) : CI l yX6_stillSet wsX6_stillSet rmX6_stillSet g [.ref (ga g 148)] M rr MM := by
  refine Met.ofW (cc := cX6_stillSet) (maxL := 3) (ret := (some .int)) (by decide) rfl ?_
  intro p e s m args below meth c s₁ B hml hv
  obtain ⟨rfl, hSx, hP⟩ := hv
  have hr := B.returns
  have hlocks := B.notSynchronized
  have X : CxG g p s m _ c cX6_stillSet 3 RX6 wsX6_stillSet := ⟨⟨B.exec, B.bytes, hml, findClass_of_methodNamed B.named, atoms_spec (ws := wsX6_stillSet) B.pre⟩, hSx, hA⟩
  have hS : va_S (AbG g) s.heap s.heap [] := va_S.rf
  have hl := lv_entry (([.ref (ga g 148)] : List Value)) (n := 3) (Nat.le_of_ble_eq_true rfl)
  rw [lg_entry_eq]
  generalize (lg_sl (([.ref (ga g 148)] : List Value)) ++ List.replicate (3 - (lg_sl (([.ref (ga g 148)] : List Value))).length) Slot.unset).toArray = ls at hl ⊢
  have hl : lv_has ls 3 [(0, .ref (ga g 148))] := hl
  obtain ⟨⟨hx, hb, hml, hown, hts⟩, -, -⟩ := id X
  unfold m_X6_stillSet at hm
  refine lv_iconst (v := (-1)) hx hb dX6_stillSet_0 (by decide) ?_
  refine lv_istore_n (lv' := [(1, .int (-1)), (0, .ref (ga g 148))]) hx hb dX6_stillSet_1 rfl hl (by decide) rfl (fun ls hl => ?_)
  refine lv_iconst (v := 0) hx hb dX6_stillSet_2 (by decide) ?_
  refine lv_istore_n (lv' := [(2, .int 0), (1, .int (-1)), (0, .ref (ga g 148))]) hx hb dX6_stillSet_3 rfl hl (by decide) rfl (fun ls hl => ?_)
  obtain ⟨x_18, hL_19, hm⟩ := bind_elim hm
  refine wl_X6_stillSet_4 X hAll ?_ hL_19 _ _ _ hP hS (lv_sub hl [2, 1, 0] rfl)
  · intro v_20 M_21 e_x_18 H locs ls hP hS hl
    subst e_x_18
    replace hm := un2_e hm
    refine lv_iload_n hx hb dX6_stillSet_48 rfl (lv_at hl 0 rfl) ?_
    cases hm
    exact x_iret X hP hS hr hlocks dX6_stillSet_49


/-! X6_still -/
def rmX6_still : Room := { frames := 6, cells := 0, slots := 0, locals := 143 }
theorem uX6_still_X6 : ∀ w ∈ wsX60, w ∈ wsX6_still := by decide +kernel
theorem mbX6_still_1 : Cond.fieldLink RX6 121 "FootANightModel" "told" "I" ∈ wsX6_still := by decide +kernel
set_option maxHeartbeats 4000000 in
set_option maxRecDepth 100000 in
theorem c_X6_still (l : Launch) {g : GT} (hA : AxG g) (hAll : okAll g)   {fu : Nat} {M : Mem} {rr : Int32} {MM : Mem} (hm : m_X6_still fu M = some (rr, MM)) : CI l yX6_still wsX6_still rmX6_still g [.ref (ga g 148)] M rr MM := by
  refine Met.ofW (cc := cX6_still) (maxL := 1) (ret := (some .int)) (by decide) rfl ?_
  intro p e s m args below meth c s₁ B hml hv
  obtain ⟨rfl, hSx, hP⟩ := hv
  have hr := B.returns
  have hlocks := B.notSynchronized
  have X : CxG g p s m _ c cX6_still 1 RX6 wsX6_still := ⟨⟨B.exec, B.bytes, hml, findClass_of_methodNamed B.named, atoms_spec (ws := wsX6_still) B.pre⟩, hSx, hA⟩
  have hS : va_S (AbG g) s.heap s.heap [] := va_S.rf
  have hl := lv_entry (([.ref (ga g 148)] : List Value)) (n := 1) (Nat.le_of_ble_eq_true rfl)
  rw [lg_entry_eq]
  generalize (lg_sl (([.ref (ga g 148)] : List Value)) ++ List.replicate (1 - (lg_sl (([.ref (ga g 148)] : List Value))).length) Slot.unset).toArray = ls at hl ⊢
  have hl : lv_has ls 1 [(0, .ref (ga g 148))] := hl
  obtain ⟨⟨hx, hb, hml, hown, hts⟩, -, -⟩ := id X
  unfold m_X6_still at hm
  refine lv_aload_n hx hb dX6_still_0 rfl (lv_at hl 0 rfl) ?_
  refine lv_iconst (v := 0) hx hb dX6_still_1 (by decide) ?_
  obtain ⟨M_1, hM_2, hm⟩ := bnd_elim hm
  refine xp_X6_0 X hP hAll uX6_still_X6 mbX6_still_1 hS hM_2 dX6_still_2 (fun H locs hP hS => ?_)
  refine lv_aload_n hx hb dX6_still_5 rfl (lv_at hl 0 rfl) ?_
  obtain ⟨⟨r_4, M_5⟩, hc_3, hm⟩ := bind_elim hm
  replace hm := un2_e hm
  refine x_calli (x_runV (As := []) (rest := []) X hP hS (c_X6_stillSet l X.2.2 hAll hc_3) (cwV 0 hts gX6_still_X6_stillSet rfl rfl rfl (by decide +kernel) ⟨Nat.le_of_ble_eq_true rfl, Nat.le_of_ble_eq_true rfl⟩) (x_recv (C := RX6) (T := TX6) (N := 55) X hP (okc_148 hAll) rfl) rfl hl.1 rfl (Nat.le_of_ble_eq_true rfl) dX6_still_6 ⟨Nat.zero_le _, Nat.zero_le _⟩) hS (fun H locs hP hS => ?_)
  cases hm
  exact x_iret X hP hS hr hlocks dX6_still_9


/-! X6_walls -/
def rmX6_walls : Room := { frames := 6, cells := 0, slots := 0, locals := 143 }
theorem uX6_walls_X6 : ∀ w ∈ wsX60, w ∈ wsX6_walls := by decide +kernel
theorem mbX6_walls_1 : Cond.fieldLink RX6 121 "FootANightModel" "told" "I" ∈ wsX6_walls := by decide +kernel
theorem mbX6_walls_2 : Cond.fieldLink RX6 7 "FootANightModel" "n" "I" ∈ wsX6_walls := by decide +kernel
theorem mbX6_walls_3 : Cond.fieldLink RX6 38 "FootANightModel" "wallOf" "[I" ∈ wsX6_walls := by decide +kernel
set_option maxHeartbeats 4000000 in
set_option maxRecDepth 100000 in
theorem wl_X6_walls_32 (X : CxG g p s m args c cX6_walls 9 RX6 wsX6_walls) (hAll : okAll g) {fu : Nat} {M : Mem} {s1 : Int32} {s2 : Int32} {x : Int32} (kx0 : ∀ (d3 : Int32) , x = d3 → ∀ (H : Heap) (locs : List Loc) (ls : Array Slot), va_P (gD g) vwCl (wlG g M) H → va_S (AbG g) s.heap H locs → lv_has ls 9 [(0, .ref (ga g 148)), (1, .int s1), (2, .int s2), (3, .int d3)] → W p l e (headSpec wsX6_walls rmX6_walls).room s m args below meth c H locs 0 0 Q (F0 m 60 ls [])) {n : Nat} {q0 : Int32 × Int32} (h : lp (b_X6_walls_32 fu M s1 s2) n q0 = some x) : ∀ (H : Heap) (locs : List Loc) (ls : Array Slot), va_P (gD g) vwCl (wlG g M) H → va_S (AbG g) s.heap H locs → lv_has ls 9 [(0, .ref (ga g 148)), (1, .int s1), (2, .int s2), (3, .int q0.1), (4, .int q0.2)] → W p l e (headSpec wsX6_walls rmX6_walls).room s m args below meth c H locs 0 0 Q (F0 m 32 ls []) := by
  refine lp_elim (P := fun q0 : Int32 × Int32 => ∀ (H : Heap) (locs : List Loc) (ls : Array Slot), va_P (gD g) vwCl (wlG g M) H → va_S (AbG g) s.heap H locs → lv_has ls 9 [(0, .ref (ga g 148)), (1, .int s1), (2, .int s2), (3, .int q0.1), (4, .int q0.2)] → W p l e (headSpec wsX6_walls rmX6_walls).room s m args below meth c H locs 0 0 Q (F0 m 32 ls [])) (fun q1 o hm hI hX => ?_) n q0 h
  obtain ⟨c3, c4⟩ := q1
  have kb : ∀ (d3 : Int32) (d4 : Int32) , o = .inl (d3, d4) → ∀ (H : Heap) (locs : List Loc) (ls : Array Slot), va_P (gD g) vwCl (wlG g M) H → va_S (AbG g) s.heap H locs → lv_has ls 9 [(0, .ref (ga g 148)), (1, .int s1), (2, .int s2), (3, .int d3), (4, .int d4)] → W p l e (headSpec wsX6_walls rmX6_walls).room s m args below meth c H locs 0 0 Q (F0 m 32 ls []) := fun d3 d4 e => hI _ e
  have kx0 : ∀ (d3 : Int32) , o = .inr d3 → ∀ (H : Heap) (locs : List Loc) (ls : Array Slot), va_P (gD g) vwCl (wlG g M) H → va_S (AbG g) s.heap H locs → lv_has ls 9 [(0, .ref (ga g 148)), (1, .int s1), (2, .int s2), (3, .int d3)] → W p l e (headSpec wsX6_walls rmX6_walls).room s m args below meth c H locs 0 0 Q (F0 m 60 ls []) := fun d3 e => kx0 d3 (hX _ e).symm
  clear hI hX
  intro H locs ls hP hS hl
  obtain ⟨⟨hx, hb, hml, hown, hts⟩, -, -⟩ := id X
  have hl : lv_has ls 9 [(0, .ref (ga g 148)), (1, .int s1), (2, .int s2), (3, .int c3), (4, .int c4)] := hl
  have hP : va_P (gD g) vwCl (wlG g M) H := hP
  unfold b_X6_walls_32 at hm
  replace hm := un2_e hm
  refine lv_iload hx hb dX6_walls_32 (lv_at hl 4 rfl) ?_
  refine lv_aload_n hx hb dX6_walls_34 rfl (lv_at hl 0 rfl) ?_
  refine xg_X6_2 X hP hAll uX6_walls_X6 mbX6_walls_2 dX6_walls_35 ?_
  refine lv_icmp_ge (tgt := 60) hx hb dX6_walls_38 (by decide) (fun h_9 => ?_) (fun h_9 => ?_)
  · rw [if_pos h_9] at hm
    exact kx0 c3 (Option.some.inj hm).symm _ _ _ hP hS (lv_sub hl [0, 1, 2, 3] rfl)
  · rw [if_neg h_9] at hm
    refine lv_iload_n hx hb dX6_walls_41 rfl (lv_at hl 3 rfl) ?_
    refine lv_aload_n hx hb dX6_walls_42 rfl (lv_at hl 0 rfl) ?_
    refine xg_X6_13 X hP hAll uX6_walls_X6 mbX6_walls_3 dX6_walls_43 ?_
    refine lv_iload hx hb dX6_walls_46 (lv_at hl 4 rfl) ?_
    obtain ⟨hb_10, hm⟩ := chk_elim hm
    refine x_iald X hP (okc_157 hAll) hb_10 dX6_walls_48 ?_
    refine lv_iload hx hb dX6_walls_49 (lv_at hl 4 rfl) ?_
    refine lv_ishl hx hb dX6_walls_51 ?_
    refine lv_ior hx hb dX6_walls_52 ?_
    obtain ⟨v_11, hv_12, hm⟩ := bnd_elim hm
    refine x_name hv_12 ?_
    refine lv_istore_n (lv' := [(3, .int v_11), (0, .ref (ga g 148)), (1, .int s1), (2, .int s2), (4, .int c4)]) hx hb dX6_walls_53 rfl hl (by decide) rfl (fun ls hl => ?_)
    obtain ⟨v_13, hv_14, hm⟩ := bnd_elim hm
    refine lv_iinc (v := v_13) (lv' := [(4, .int v_13), (3, .int v_11), (0, .ref (ga g 148)), (1, .int s1), (2, .int s2)]) hx hb dX6_walls_54 hl (k := 4) rfl (by rw [hv_14]; rfl) (by decide) rfl (fun ls hl => ?_)
    refine lv_goto (tgt := 32) hx hb dX6_walls_57 (by decide) ?_
    exact kb v_11 v_13 (Option.some.inj hm).symm _ _ _ hP hS (lv_sub hl [2, 3, 4, 1, 0] rfl)

set_option maxHeartbeats 4000000 in
set_option maxRecDepth 100000 in
theorem wl_X6_walls_103 (X : CxG g p s m args c cX6_walls 9 RX6 wsX6_walls) (hAll : okAll g) {fu : Nat} {s1 : Int32} {s2 : Int32} {s3 : Int32} {s4 : Int32} {s5 : Int32} {s6 : Int32} {x : Mem} (kx0 : ∀ (M2 : Mem) , x = M2 → ∀ (H : Heap) (locs : List Loc) (ls : Array Slot), va_P (gD g) vwCl (wlG g M2) H → va_S (AbG g) s.heap H locs → lv_has ls 9 [(0, .ref (ga g 148)), (1, .int s1), (2, .int s2), (3, .int s3), (4, .int s4), (5, .int s5), (6, .int s6)] → W p l e (headSpec wsX6_walls rmX6_walls).room s m args below meth c H locs 0 0 Q (F0 m 134 ls [])) {n : Nat} {q0 : Int32 × Mem} (h : lp (b_X6_walls_103 fu s1 s2 s3 s4 s5 s6) n q0 = some x) : ∀ (H : Heap) (locs : List Loc) (ls : Array Slot), va_P (gD g) vwCl (wlG g q0.2) H → va_S (AbG g) s.heap H locs → lv_has ls 9 [(0, .ref (ga g 148)), (1, .int s1), (2, .int s2), (3, .int s3), (4, .int s4), (5, .int s5), (6, .int s6), (7, .int q0.1)] → W p l e (headSpec wsX6_walls rmX6_walls).room s m args below meth c H locs 0 0 Q (F0 m 103 ls []) := by
  refine lp_elim (P := fun q0 : Int32 × Mem => ∀ (H : Heap) (locs : List Loc) (ls : Array Slot), va_P (gD g) vwCl (wlG g q0.2) H → va_S (AbG g) s.heap H locs → lv_has ls 9 [(0, .ref (ga g 148)), (1, .int s1), (2, .int s2), (3, .int s3), (4, .int s4), (5, .int s5), (6, .int s6), (7, .int q0.1)] → W p l e (headSpec wsX6_walls rmX6_walls).room s m args below meth c H locs 0 0 Q (F0 m 103 ls [])) (fun q1 o hm hI hX => ?_) n q0 h
  obtain ⟨c7, M⟩ := q1
  have kb : ∀ (d7 : Int32) (M2 : Mem) , o = .inl (d7, M2) → ∀ (H : Heap) (locs : List Loc) (ls : Array Slot), va_P (gD g) vwCl (wlG g M2) H → va_S (AbG g) s.heap H locs → lv_has ls 9 [(0, .ref (ga g 148)), (1, .int s1), (2, .int s2), (3, .int s3), (4, .int s4), (5, .int s5), (6, .int s6), (7, .int d7)] → W p l e (headSpec wsX6_walls rmX6_walls).room s m args below meth c H locs 0 0 Q (F0 m 103 ls []) := fun d7 M2 e => hI _ e
  have kx0 : ∀ (M2 : Mem) , o = .inr M2 → ∀ (H : Heap) (locs : List Loc) (ls : Array Slot), va_P (gD g) vwCl (wlG g M2) H → va_S (AbG g) s.heap H locs → lv_has ls 9 [(0, .ref (ga g 148)), (1, .int s1), (2, .int s2), (3, .int s3), (4, .int s4), (5, .int s5), (6, .int s6)] → W p l e (headSpec wsX6_walls rmX6_walls).room s m args below meth c H locs 0 0 Q (F0 m 134 ls []) := fun M2 e => kx0 M2 (hX _ e).symm
  clear hI hX
  intro H locs ls hP hS hl
  obtain ⟨⟨hx, hb, hml, hown, hts⟩, -, -⟩ := id X
  have hl : lv_has ls 9 [(0, .ref (ga g 148)), (1, .int s1), (2, .int s2), (3, .int s3), (4, .int s4), (5, .int s5), (6, .int s6), (7, .int c7)] := hl
  have hP : va_P (gD g) vwCl (wlG g M) H := hP
  unfold b_X6_walls_103 at hm
  replace hm := un2_e hm
  refine lv_iload hx hb dX6_walls_103 (lv_at hl 7 rfl) ?_
  refine lv_aload_n hx hb dX6_walls_105 rfl (lv_at hl 0 rfl) ?_
  refine xg_X6_2 X hP hAll uX6_walls_X6 mbX6_walls_2 dX6_walls_106 ?_
  refine lv_icmp_ge (tgt := 134) hx hb dX6_walls_109 (by decide) (fun h_25 => ?_) (fun h_25 => ?_)
  · rw [if_pos h_25] at hm
    exact kx0 M (Option.some.inj hm).symm _ _ _ hP hS (lv_sub hl [0, 1, 2, 3, 4, 5, 6] rfl)
  · rw [if_neg h_25] at hm
    refine lv_aload_n hx hb dX6_walls_112 rfl (lv_at hl 0 rfl) ?_
    refine xg_X6_13 X hP hAll uX6_walls_X6 mbX6_walls_3 dX6_walls_113 ?_
    refine lv_iload hx hb dX6_walls_116 (lv_at hl 7 rfl) ?_
    refine lv_iload hx hb dX6_walls_118 (lv_at hl 6 rfl) ?_
    refine lv_iload_n hx hb dX6_walls_120 rfl (lv_at hl 3 rfl) ?_
    refine lv_ior hx hb dX6_walls_121 ?_
    refine lv_iload hx hb dX6_walls_122 (lv_at hl 7 rfl) ?_
    refine lv_ishr hx hb dX6_walls_124 ?_
    refine lv_iconst (v := 1) hx hb dX6_walls_125 (by decide) ?_
    refine lv_iand hx hb dX6_walls_126 ?_
    obtain ⟨hb_26, hm⟩ := chk_elim hm
    obtain ⟨M_27, hM_28, hm⟩ := bnd_elim hm
    refine x_iast X hP hS (okc_157 hAll) hM_28 hb_26 dX6_walls_127 (fun H locs hP hS => ?_)
    obtain ⟨v_29, hv_30, hm⟩ := bnd_elim hm
    refine lv_iinc (v := v_29) (lv' := [(7, .int v_29), (0, .ref (ga g 148)), (1, .int s1), (2, .int s2), (3, .int s3), (4, .int s4), (5, .int s5), (6, .int s6)]) hx hb dX6_walls_128 hl (k := 7) rfl (by rw [hv_30]; rfl) (by decide) rfl (fun ls hl => ?_)
    refine lv_goto (tgt := 103) hx hb dX6_walls_131 (by decide) ?_
    exact kb v_29 M_27 (Option.some.inj hm).symm _ _ _ hP hS (lv_sub hl [1, 2, 3, 4, 5, 6, 7, 0] rfl)

set_option maxHeartbeats 4000000 in
set_option maxRecDepth 100000 in
theorem wj_X6_walls_157i (X : CxG g p s m args c cX6_walls 9 RX6 wsX6_walls) (hAll : okAll g) {fu : Nat} {M : Mem} {s1 : Int32} {s2 : Int32} {s3 : Int32} {s4 : Int32} {s5 : Int32} {s6 : Int32} {t0 : Int32} {o : (Int32 × Int32 × Int32 × Mem) ⊕ (Int32 × Int32 × Mem)} (kb : ∀ (d4 : Int32) (d5 : Int32) (d6 : Int32) (M2 : Mem) , o = .inl (d4, d5, d6, M2) → ∀ (H : Heap) (locs : List Loc) (ls : Array Slot), va_P (gD g) vwCl (wlG g M2) H → va_S (AbG g) s.heap H locs → lv_has ls 9 [(0, .ref (ga g 148)), (1, .int s1), (2, .int s2), (3, .int s3), (4, .int d4), (5, .int d5), (6, .int d6)] → W p l e (headSpec wsX6_walls rmX6_walls).room s m args below meth c H locs 0 0 Q (F0 m 69 ls [])) (kx0 : ∀ (d4 : Int32) (d5 : Int32) (M2 : Mem) , o = .inr (d4, d5, M2) → ∀ (H : Heap) (locs : List Loc) (ls : Array Slot), va_P (gD g) vwCl (wlG g M2) H → va_S (AbG g) s.heap H locs → lv_has ls 9 [(0, .ref (ga g 148)), (2, .int s2), (3, .int s3), (4, .int d4), (5, .int d5)] → W p l e (headSpec wsX6_walls rmX6_walls).room s m args below meth c H locs 0 0 Q (F0 m 211 ls [])) (hm : j_X6_walls_157i fu M s1 s2 s3 s4 s5 s6 t0 = some o) {H : Heap} {locs : List Loc} {ls : Array Slot} (hP : va_P (gD g) vwCl (wlG g M) H) (hS : va_S (AbG g) s.heap H locs) (hl : lv_has ls 9 [(0, .ref (ga g 148)), (1, .int s1), (2, .int s2), (3, .int s3), (4, .int s4), (5, .int s5), (6, .int s6)]) : W p l e (headSpec wsX6_walls rmX6_walls).room s m args below meth c H locs 0 0 Q (F0 m 157 ls [.int t0]) := by
  obtain ⟨⟨hx, hb, hml, hown, hts⟩, -, -⟩ := id X
  unfold j_X6_walls_157i at hm
  refine lv_istore (lv' := [(8, .int t0), (0, .ref (ga g 148)), (1, .int s1), (2, .int s2), (3, .int s3), (4, .int s4), (5, .int s5), (6, .int s6)]) hx hb dX6_walls_157 hl (by decide) rfl (fun ls hl => ?_)
  refine lv_iload hx hb dX6_walls_159 (lv_at hl 5 rfl) ?_
  refine lv_iconst (v := (-1)) hx hb dX6_walls_161 (by decide) ?_
  refine lv_icmp_eq (tgt := 197) hx hb dX6_walls_162 (by decide) (fun h_40 => ?_) (fun h_40 => ?_)
  · rw [if_pos h_40] at hm
    refine lv_iload hx hb dX6_walls_197 (lv_at hl 7 rfl) ?_
    refine lv_istore (lv' := [(4, .int s6), (8, .int t0), (0, .ref (ga g 148)), (1, .int s1), (2, .int s2), (3, .int s3), (5, .int s5), (6, .int s6)]) hx hb dX6_walls_199 hl (by decide) rfl (fun ls hl => ?_)
    refine lv_iload hx hb dX6_walls_201 (lv_at hl 1 rfl) ?_
    refine lv_istore (lv' := [(5, .int t0), (4, .int s6), (8, .int t0), (0, .ref (ga g 148)), (1, .int s1), (2, .int s2), (3, .int s3), (6, .int s6)]) hx hb dX6_walls_203 hl (by decide) rfl (fun ls hl => ?_)
    obtain ⟨v_41, hv_42, hm⟩ := bnd_elim hm
    refine lv_iinc (v := v_41) (lv' := [(6, .int v_41), (5, .int t0), (4, .int s6), (8, .int t0), (0, .ref (ga g 148)), (1, .int s1), (2, .int s2), (3, .int s3)]) hx hb dX6_walls_205 hl (k := 7) rfl (by rw [hv_42]; rfl) (by decide) rfl (fun ls hl => ?_)
    refine lv_goto (tgt := 69) hx hb dX6_walls_208 (by decide) ?_
    exact kb s6 t0 v_41 M (Option.some.inj hm).symm _ _ _ hP hS (lv_sub hl [4, 5, 6, 7, 2, 1, 0] rfl)
  · rw [if_neg h_40] at hm
    refine lv_iload hx hb dX6_walls_165 (lv_at hl 0 rfl) ?_
    refine lv_iload hx hb dX6_walls_167 (lv_at hl 6 rfl) ?_
    refine lv_icmp_gt (tgt := 205) hx hb dX6_walls_169 (by decide) (fun h_43 => ?_) (fun h_43 => ?_)
    · rw [if_pos h_43] at hm
      obtain ⟨v_44, hv_45, hm⟩ := bnd_elim hm
      refine lv_iinc (v := v_44) (lv' := [(6, .int v_44), (8, .int t0), (0, .ref (ga g 148)), (1, .int s1), (2, .int s2), (3, .int s3), (4, .int s4), (5, .int s5)]) hx hb dX6_walls_205 hl (k := 7) rfl (by rw [hv_45]; rfl) (by decide) rfl (fun ls hl => ?_)
      refine lv_goto (tgt := 69) hx hb dX6_walls_208 (by decide) ?_
      exact kb s4 s5 v_44 M (Option.some.inj hm).symm _ _ _ hP hS (lv_sub hl [2, 3, 4, 5, 6, 7, 0] rfl)
    · rw [if_neg h_43] at hm
      refine lv_iload hx hb dX6_walls_172 (lv_at hl 0 rfl) ?_
      refine lv_iload hx hb dX6_walls_174 (lv_at hl 6 rfl) ?_
      refine lv_icmp_ne (tgt := 197) hx hb dX6_walls_176 (by decide) (fun h_46 => ?_) (fun h_46 => ?_)
      · rw [if_neg h_46] at hm
        refine lv_iload hx hb dX6_walls_197 (lv_at hl 7 rfl) ?_
        refine lv_istore (lv' := [(4, .int s6), (8, .int t0), (0, .ref (ga g 148)), (1, .int s1), (2, .int s2), (3, .int s3), (5, .int s5), (6, .int s6)]) hx hb dX6_walls_199 hl (by decide) rfl (fun ls hl => ?_)
        refine lv_iload hx hb dX6_walls_201 (lv_at hl 1 rfl) ?_
        refine lv_istore (lv' := [(5, .int t0), (4, .int s6), (8, .int t0), (0, .ref (ga g 148)), (1, .int s1), (2, .int s2), (3, .int s3), (6, .int s6)]) hx hb dX6_walls_203 hl (by decide) rfl (fun ls hl => ?_)
        obtain ⟨v_47, hv_48, hm⟩ := bnd_elim hm
        refine lv_iinc (v := v_47) (lv' := [(6, .int v_47), (5, .int t0), (4, .int s6), (8, .int t0), (0, .ref (ga g 148)), (1, .int s1), (2, .int s2), (3, .int s3)]) hx hb dX6_walls_205 hl (k := 7) rfl (by rw [hv_48]; rfl) (by decide) rfl (fun ls hl => ?_)
        refine lv_goto (tgt := 69) hx hb dX6_walls_208 (by decide) ?_
        exact kb s6 t0 v_47 M (Option.some.inj hm).symm _ _ _ hP hS (lv_sub hl [4, 5, 6, 7, 2, 1, 0] rfl)
      · rw [if_pos h_46] at hm
        refine lv_aload_n hx hb dX6_walls_179 rfl (lv_at hl 1 rfl) ?_
        refine lv_iload hx hb dX6_walls_180 (lv_at hl 7 rfl) ?_
        obtain ⟨r_50, hc_49, hm⟩ := bind_elim hm
        refine x_calli (x_runV (As := [.int s6]) (rest := []) X hP hS (c_X6_ones l X.2.2 hc_49) (cwV 1 hts gX6_walls_X6_ones rfl rfl rfl (by decide +kernel) ⟨Nat.le_of_ble_eq_true rfl, Nat.le_of_ble_eq_true rfl⟩) (x_recv (C := RX6) (T := TX6) (N := 55) X hP (okc_148 hAll) rfl) rfl hl.1 rfl (Nat.le_of_ble_eq_true rfl) dX6_walls_182 ⟨Nat.zero_le _, Nat.zero_le _⟩) hS (fun H locs hP hS => ?_)
        refine lv_aload_n hx hb dX6_walls_185 rfl (lv_at hl 1 rfl) ?_
        refine lv_iload hx hb dX6_walls_186 (lv_at hl 5 rfl) ?_
        obtain ⟨r_52, hc_51, hm⟩ := bind_elim hm
        refine x_calli (x_runV (As := [.int s4]) (rest := [.int r_50]) X hP hS (c_X6_ones l X.2.2 hc_51) (cwV 1 hts gX6_walls_X6_ones rfl rfl rfl (by decide +kernel) ⟨Nat.le_of_ble_eq_true rfl, Nat.le_of_ble_eq_true rfl⟩) (x_recv (C := RX6) (T := TX6) (N := 55) X hP (okc_148 hAll) rfl) rfl hl.1 rfl (Nat.le_of_ble_eq_true rfl) dX6_walls_188 ⟨Nat.zero_le _, Nat.zero_le _⟩) hS (fun H locs hP hS => ?_)
        refine lv_icmp_lt (tgt := 197) hx hb dX6_walls_191 (by decide) (fun h_53 => ?_) (fun h_53 => ?_)
        · rw [if_pos h_53] at hm
          refine lv_iload hx hb dX6_walls_197 (lv_at hl 7 rfl) ?_
          refine lv_istore (lv' := [(4, .int s6), (8, .int t0), (0, .ref (ga g 148)), (1, .int s1), (2, .int s2), (3, .int s3), (5, .int s5), (6, .int s6)]) hx hb dX6_walls_199 hl (by decide) rfl (fun ls hl => ?_)
          refine lv_iload hx hb dX6_walls_201 (lv_at hl 1 rfl) ?_
          refine lv_istore (lv' := [(5, .int t0), (4, .int s6), (8, .int t0), (0, .ref (ga g 148)), (1, .int s1), (2, .int s2), (3, .int s3), (6, .int s6)]) hx hb dX6_walls_203 hl (by decide) rfl (fun ls hl => ?_)
          obtain ⟨v_54, hv_55, hm⟩ := bnd_elim hm
          refine lv_iinc (v := v_54) (lv' := [(6, .int v_54), (5, .int t0), (4, .int s6), (8, .int t0), (0, .ref (ga g 148)), (1, .int s1), (2, .int s2), (3, .int s3)]) hx hb dX6_walls_205 hl (k := 7) rfl (by rw [hv_55]; rfl) (by decide) rfl (fun ls hl => ?_)
          refine lv_goto (tgt := 69) hx hb dX6_walls_208 (by decide) ?_
          exact kb s6 t0 v_54 M (Option.some.inj hm).symm _ _ _ hP hS (lv_sub hl [4, 5, 6, 7, 2, 1, 0] rfl)
        · rw [if_neg h_53] at hm
          refine lv_goto (tgt := 205) hx hb dX6_walls_194 (by decide) ?_
          obtain ⟨v_56, hv_57, hm⟩ := bnd_elim hm
          refine lv_iinc (v := v_56) (lv' := [(6, .int v_56), (8, .int t0), (0, .ref (ga g 148)), (1, .int s1), (2, .int s2), (3, .int s3), (4, .int s4), (5, .int s5)]) hx hb dX6_walls_205 hl (k := 7) rfl (by rw [hv_57]; rfl) (by decide) rfl (fun ls hl => ?_)
          refine lv_goto (tgt := 69) hx hb dX6_walls_208 (by decide) ?_
          exact kb s4 s5 v_56 M (Option.some.inj hm).symm _ _ _ hP hS (lv_sub hl [2, 3, 4, 5, 6, 7, 0] rfl)

set_option maxHeartbeats 4000000 in
set_option maxRecDepth 100000 in
theorem wl_X6_walls_69 (X : CxG g p s m args c cX6_walls 9 RX6 wsX6_walls) (hAll : okAll g) {fu : Nat} {s1 : Int32} {s2 : Int32} {s3 : Int32} {x : Int32 × Int32 × Mem} (kx0 : ∀ (d4 : Int32) (d5 : Int32) (M2 : Mem) , x = (d4, d5, M2) → ∀ (H : Heap) (locs : List Loc) (ls : Array Slot), va_P (gD g) vwCl (wlG g M2) H → va_S (AbG g) s.heap H locs → lv_has ls 9 [(0, .ref (ga g 148)), (2, .int s2), (3, .int s3), (4, .int d4), (5, .int d5)] → W p l e (headSpec wsX6_walls rmX6_walls).room s m args below meth c H locs 0 0 Q (F0 m 211 ls [])) {n : Nat} {q0 : Int32 × Int32 × Int32 × Mem} (h : lp (b_X6_walls_69 fu s1 s2 s3) n q0 = some x) : ∀ (H : Heap) (locs : List Loc) (ls : Array Slot), va_P (gD g) vwCl (wlG g q0.2.2.2) H → va_S (AbG g) s.heap H locs → lv_has ls 9 [(0, .ref (ga g 148)), (1, .int s1), (2, .int s2), (3, .int s3), (4, .int q0.1), (5, .int q0.2.1), (6, .int q0.2.2.1)] → W p l e (headSpec wsX6_walls rmX6_walls).room s m args below meth c H locs 0 0 Q (F0 m 69 ls []) := by
  refine lp_elim (P := fun q0 : Int32 × Int32 × Int32 × Mem => ∀ (H : Heap) (locs : List Loc) (ls : Array Slot), va_P (gD g) vwCl (wlG g q0.2.2.2) H → va_S (AbG g) s.heap H locs → lv_has ls 9 [(0, .ref (ga g 148)), (1, .int s1), (2, .int s2), (3, .int s3), (4, .int q0.1), (5, .int q0.2.1), (6, .int q0.2.2.1)] → W p l e (headSpec wsX6_walls rmX6_walls).room s m args below meth c H locs 0 0 Q (F0 m 69 ls [])) (fun q1 o hm hI hX => ?_) n q0 h
  obtain ⟨c4, c5, c6, M⟩ := q1
  have kb : ∀ (d4 : Int32) (d5 : Int32) (d6 : Int32) (M2 : Mem) , o = .inl (d4, d5, d6, M2) → ∀ (H : Heap) (locs : List Loc) (ls : Array Slot), va_P (gD g) vwCl (wlG g M2) H → va_S (AbG g) s.heap H locs → lv_has ls 9 [(0, .ref (ga g 148)), (1, .int s1), (2, .int s2), (3, .int s3), (4, .int d4), (5, .int d5), (6, .int d6)] → W p l e (headSpec wsX6_walls rmX6_walls).room s m args below meth c H locs 0 0 Q (F0 m 69 ls []) := fun d4 d5 d6 M2 e => hI _ e
  have kx0 : ∀ (d4 : Int32) (d5 : Int32) (M2 : Mem) , o = .inr (d4, d5, M2) → ∀ (H : Heap) (locs : List Loc) (ls : Array Slot), va_P (gD g) vwCl (wlG g M2) H → va_S (AbG g) s.heap H locs → lv_has ls 9 [(0, .ref (ga g 148)), (2, .int s2), (3, .int s3), (4, .int d4), (5, .int d5)] → W p l e (headSpec wsX6_walls rmX6_walls).room s m args below meth c H locs 0 0 Q (F0 m 211 ls []) := fun d4 d5 M2 e => kx0 d4 d5 M2 (hX _ e).symm
  clear hI hX
  intro H locs ls hP hS hl
  obtain ⟨⟨hx, hb, hml, hown, hts⟩, -, -⟩ := id X
  have hl : lv_has ls 9 [(0, .ref (ga g 148)), (1, .int s1), (2, .int s2), (3, .int s3), (4, .int c4), (5, .int c5), (6, .int c6)] := hl
  have hP : va_P (gD g) vwCl (wlG g M) H := hP
  unfold b_X6_walls_69 at hm
  replace hm := un4_e hm
  refine lv_iload hx hb dX6_walls_69 (lv_at hl 6 rfl) ?_
  refine lv_iconst (v := 1) hx hb dX6_walls_71 (by decide) ?_
  refine lv_aload_n hx hb dX6_walls_72 rfl (lv_at hl 0 rfl) ?_
  refine xg_X6_2 X hP hAll uX6_walls_X6 mbX6_walls_2 dX6_walls_73 ?_
  refine lv_ishl hx hb dX6_walls_76 ?_
  refine lv_icmp_ge (tgt := 211) hx hb dX6_walls_77 (by decide) (fun h_18 => ?_) (fun h_18 => ?_)
  · rw [if_pos h_18] at hm
    exact kx0 c4 c5 M (Option.some.inj hm).symm _ _ _ hP hS (lv_sub hl [0, 2, 3, 4, 5] rfl)
  · rw [if_neg h_18] at hm
    refine lv_aload_n hx hb dX6_walls_80 rfl (lv_at hl 0 rfl) ?_
    refine lv_iload hx hb dX6_walls_81 (lv_at hl 6 rfl) ?_
    obtain ⟨r_20, hc_19, hm⟩ := bind_elim hm
    refine x_calli (x_runV (As := [.int c6]) (rest := []) X hP hS (c_X6_ones l X.2.2 hc_19) (cwV 1 hts gX6_walls_X6_ones rfl rfl rfl (by decide +kernel) ⟨Nat.le_of_ble_eq_true rfl, Nat.le_of_ble_eq_true rfl⟩) (x_recv (C := RX6) (T := TX6) (N := 55) X hP (okc_148 hAll) rfl) rfl hl.1 rfl (Nat.le_of_ble_eq_true rfl) dX6_walls_83 ⟨Nat.zero_le _, Nat.zero_le _⟩) hS (fun H locs hP hS => ?_)
    refine lv_iload_n hx hb dX6_walls_86 rfl (lv_at hl 1 rfl) ?_
    refine lv_icmp_gt (tgt := 205) hx hb dX6_walls_87 (by decide) (fun h_21 => ?_) (fun h_21 => ?_)
    · rw [if_pos h_21] at hm
      obtain ⟨v_22, hv_23, hm⟩ := bnd_elim hm
      refine lv_iinc (v := v_22) (lv' := [(6, .int v_22), (0, .ref (ga g 148)), (1, .int s1), (2, .int s2), (3, .int s3), (4, .int c4), (5, .int c5)]) hx hb dX6_walls_205 hl (k := 6) rfl (by rw [hv_23]; rfl) (by decide) rfl (fun ls hl => ?_)
      refine lv_goto (tgt := 69) hx hb dX6_walls_208 (by decide) ?_
      exact kb c4 c5 v_22 M (Option.some.inj hm).symm _ _ _ hP hS (lv_sub hl [1, 2, 3, 4, 5, 6, 0] rfl)
    · rw [if_neg h_21] at hm
      refine lv_iload hx hb dX6_walls_90 (lv_at hl 6 rfl) ?_
      refine lv_iload_n hx hb dX6_walls_92 rfl (lv_at hl 3 rfl) ?_
      refine lv_iand hx hb dX6_walls_93 ?_
      refine lv_if_eq (tgt := 100) hx hb dX6_walls_94 (by decide) (fun h_24 => ?_) (fun h_24 => ?_)
      · rw [if_pos h_24] at hm
        refine lv_iconst (v := 0) hx hb dX6_walls_100 (by decide) ?_
        refine lv_istore (lv' := [(7, .int 0), (0, .ref (ga g 148)), (1, .int s1), (2, .int s2), (3, .int s3), (4, .int c4), (5, .int c5), (6, .int c6)]) hx hb dX6_walls_101 hl (by decide) rfl (fun ls hl => ?_)
        obtain ⟨M_33, hL_32, hm⟩ := bind_elim hm
        refine wl_X6_walls_103 X hAll ?_ hL_32 _ _ _ hP hS (lv_sub hl [1, 2, 3, 4, 5, 6, 7, 0] rfl)
        · intro z_M_33 e_M_33 H locs ls hP hS hl
          subst e_M_33
          replace hm := un1_e hm
          refine lv_aload_n hx hb dX6_walls_134 rfl (lv_at hl 0 rfl) ?_
          obtain ⟨⟨r_35, M_36⟩, hc_34, hm⟩ := bind_elim hm
          replace hm := un2_e hm
          refine x_calli (x_runV (As := []) (rest := []) X hP hS (c_X6_stillSet l X.2.2 hAll hc_34) (cwV 0 hts gX6_walls_X6_stillSet rfl rfl rfl (by decide +kernel) ⟨Nat.le_of_ble_eq_true rfl, Nat.le_of_ble_eq_true rfl⟩) (x_recv (C := RX6) (T := TX6) (N := 55) X hP (okc_148 hAll) rfl) rfl hl.1 rfl (Nat.le_of_ble_eq_true rfl) dX6_walls_135 ⟨Nat.zero_le _, Nat.zero_le _⟩) hS (fun H locs hP hS => ?_)
          refine lv_istore (lv' := [(7, .int r_35), (0, .ref (ga g 148)), (1, .int s1), (2, .int s2), (3, .int s3), (4, .int c4), (5, .int c5), (6, .int c6)]) hx hb dX6_walls_138 hl (by decide) rfl (fun ls hl => ?_)
          refine lv_iload hx hb dX6_walls_140 (lv_at hl 0 rfl) ?_
          refine lv_iconst (v := (-1)) hx hb dX6_walls_142 (by decide) ?_
          refine lv_icmp_ne (tgt := 151) hx hb dX6_walls_143 (by decide) (fun h_37 => ?_) (fun h_37 => ?_)
          · rw [if_neg h_37] at hm
            refine lv_aload_n hx hb dX6_walls_151 rfl (lv_at hl 1 rfl) ?_
            refine lv_iload hx hb dX6_walls_152 (lv_at hl 0 rfl) ?_
            obtain ⟨r_39, hc_38, hm⟩ := bind_elim hm
            refine x_calli (x_runV (As := [.int r_35]) (rest := []) X hP hS (c_X6_ones l X.2.2 hc_38) (cwV 1 hts gX6_walls_X6_ones rfl rfl rfl (by decide +kernel) ⟨Nat.le_of_ble_eq_true rfl, Nat.le_of_ble_eq_true rfl⟩) (x_recv (C := RX6) (T := TX6) (N := 55) X hP (okc_148 hAll) rfl) rfl hl.1 rfl (Nat.le_of_ble_eq_true rfl) dX6_walls_154 ⟨Nat.zero_le _, Nat.zero_le _⟩) hS (fun H locs hP hS => ?_)
            exact wj_X6_walls_157i X hAll kb kx0 hm hP hS (lv_sub hl [1, 2, 3, 4, 5, 6, 7] rfl)
          · rw [if_pos h_37] at hm
            refine lv_bipush (v := 99) hx hb dX6_walls_146 (by decide) ?_
            refine lv_goto (tgt := 157) hx hb dX6_walls_148 (by decide) ?_
            exact wj_X6_walls_157i X hAll kb kx0 hm hP hS (lv_sub hl [1, 2, 3, 4, 5, 6, 7] rfl)
      · rw [if_neg h_24] at hm
        refine lv_goto (tgt := 205) hx hb dX6_walls_97 (by decide) ?_
        obtain ⟨v_58, hv_59, hm⟩ := bnd_elim hm
        refine lv_iinc (v := v_58) (lv' := [(6, .int v_58), (0, .ref (ga g 148)), (1, .int s1), (2, .int s2), (3, .int s3), (4, .int c4), (5, .int c5)]) hx hb dX6_walls_205 hl (k := 6) rfl (by rw [hv_59]; rfl) (by decide) rfl (fun ls hl => ?_)
        refine lv_goto (tgt := 69) hx hb dX6_walls_208 (by decide) ?_
        exact kb c4 c5 v_58 M (Option.some.inj hm).symm _ _ _ hP hS (lv_sub hl [1, 2, 3, 4, 5, 6, 0] rfl)

set_option maxHeartbeats 4000000 in
set_option maxRecDepth 100000 in
theorem wl_X6_walls_214 (X : CxG g p s m args c cX6_walls 9 RX6 wsX6_walls) (hAll : okAll g) {fu : Nat} {s2 : Int32} {s3 : Int32} {s4 : Int32} {s5 : Int32} {x : Mem} (kx0 : ∀ (M2 : Mem) , x = M2 → ∀ (H : Heap) (locs : List Loc) (ls : Array Slot), va_P (gD g) vwCl (wlG g M2) H → va_S (AbG g) s.heap H locs → lv_has ls 9 [(2, .int s2), (4, .int s4), (5, .int s5)] → W p l e (headSpec wsX6_walls rmX6_walls).room s m args below meth c H locs 0 0 Q (F0 m 242 ls [])) {n : Nat} {q0 : Int32 × Mem} (h : lp (b_X6_walls_214 fu s2 s3 s4 s5) n q0 = some x) : ∀ (H : Heap) (locs : List Loc) (ls : Array Slot), va_P (gD g) vwCl (wlG g q0.2) H → va_S (AbG g) s.heap H locs → lv_has ls 9 [(0, .ref (ga g 148)), (2, .int s2), (3, .int s3), (4, .int s4), (5, .int s5), (6, .int q0.1)] → W p l e (headSpec wsX6_walls rmX6_walls).room s m args below meth c H locs 0 0 Q (F0 m 214 ls []) := by
  refine lp_elim (P := fun q0 : Int32 × Mem => ∀ (H : Heap) (locs : List Loc) (ls : Array Slot), va_P (gD g) vwCl (wlG g q0.2) H → va_S (AbG g) s.heap H locs → lv_has ls 9 [(0, .ref (ga g 148)), (2, .int s2), (3, .int s3), (4, .int s4), (5, .int s5), (6, .int q0.1)] → W p l e (headSpec wsX6_walls rmX6_walls).room s m args below meth c H locs 0 0 Q (F0 m 214 ls [])) (fun q1 o hm hI hX => ?_) n q0 h
  obtain ⟨c6, M⟩ := q1
  have kb : ∀ (d6 : Int32) (M2 : Mem) , o = .inl (d6, M2) → ∀ (H : Heap) (locs : List Loc) (ls : Array Slot), va_P (gD g) vwCl (wlG g M2) H → va_S (AbG g) s.heap H locs → lv_has ls 9 [(0, .ref (ga g 148)), (2, .int s2), (3, .int s3), (4, .int s4), (5, .int s5), (6, .int d6)] → W p l e (headSpec wsX6_walls rmX6_walls).room s m args below meth c H locs 0 0 Q (F0 m 214 ls []) := fun d6 M2 e => hI _ e
  have kx0 : ∀ (M2 : Mem) , o = .inr M2 → ∀ (H : Heap) (locs : List Loc) (ls : Array Slot), va_P (gD g) vwCl (wlG g M2) H → va_S (AbG g) s.heap H locs → lv_has ls 9 [(2, .int s2), (4, .int s4), (5, .int s5)] → W p l e (headSpec wsX6_walls rmX6_walls).room s m args below meth c H locs 0 0 Q (F0 m 242 ls []) := fun M2 e => kx0 M2 (hX _ e).symm
  clear hI hX
  intro H locs ls hP hS hl
  obtain ⟨⟨hx, hb, hml, hown, hts⟩, -, -⟩ := id X
  have hl : lv_has ls 9 [(0, .ref (ga g 148)), (2, .int s2), (3, .int s3), (4, .int s4), (5, .int s5), (6, .int c6)] := hl
  have hP : va_P (gD g) vwCl (wlG g M) H := hP
  unfold b_X6_walls_214 at hm
  replace hm := un2_e hm
  refine lv_iload hx hb dX6_walls_214 (lv_at hl 5 rfl) ?_
  refine lv_aload_n hx hb dX6_walls_216 rfl (lv_at hl 0 rfl) ?_
  refine xg_X6_2 X hP hAll uX6_walls_X6 mbX6_walls_2 dX6_walls_217 ?_
  refine lv_icmp_ge (tgt := 242) hx hb dX6_walls_220 (by decide) (fun h_65 => ?_) (fun h_65 => ?_)
  · rw [if_pos h_65] at hm
    exact kx0 M (Option.some.inj hm).symm _ _ _ hP hS (lv_sub hl [1, 3, 4] rfl)
  · rw [if_neg h_65] at hm
    refine lv_aload_n hx hb dX6_walls_223 rfl (lv_at hl 0 rfl) ?_
    refine xg_X6_13 X hP hAll uX6_walls_X6 mbX6_walls_3 dX6_walls_224 ?_
    refine lv_iload hx hb dX6_walls_227 (lv_at hl 5 rfl) ?_
    refine lv_iload_n hx hb dX6_walls_229 rfl (lv_at hl 2 rfl) ?_
    refine lv_iload hx hb dX6_walls_230 (lv_at hl 5 rfl) ?_
    refine lv_ishr hx hb dX6_walls_232 ?_
    refine lv_iconst (v := 1) hx hb dX6_walls_233 (by decide) ?_
    refine lv_iand hx hb dX6_walls_234 ?_
    obtain ⟨hb_66, hm⟩ := chk_elim hm
    obtain ⟨M_67, hM_68, hm⟩ := bnd_elim hm
    refine x_iast X hP hS (okc_157 hAll) hM_68 hb_66 dX6_walls_235 (fun H locs hP hS => ?_)
    obtain ⟨v_69, hv_70, hm⟩ := bnd_elim hm
    refine lv_iinc (v := v_69) (lv' := [(6, .int v_69), (0, .ref (ga g 148)), (2, .int s2), (3, .int s3), (4, .int s4), (5, .int s5)]) hx hb dX6_walls_236 hl (k := 5) rfl (by rw [hv_70]; rfl) (by decide) rfl (fun ls hl => ?_)
    refine lv_goto (tgt := 214) hx hb dX6_walls_239 (by decide) ?_
    exact kb v_69 M_67 (Option.some.inj hm).symm _ _ _ hP hS (lv_sub hl [1, 2, 3, 4, 5, 0] rfl)

set_option maxHeartbeats 4000000 in
set_option maxRecDepth 100000 in
theorem c_X6_walls (l : Launch) {g : GT} (hA : AxG g) (hAll : okAll g)   {fu : Nat} {M : Mem} {a1 : Int32} {a2 : Int32} {rr : Int32} {MM : Mem} (hm : m_X6_walls fu M a1 a2 = some (rr, MM)) : CI l yX6_walls wsX6_walls rmX6_walls g [.ref (ga g 148), .int a1, .int a2] M rr MM := by
  refine Met.ofW (cc := cX6_walls) (maxL := 9) (ret := (some .int)) (by decide) rfl ?_
  intro p e s m args below meth c s₁ B hml hv
  obtain ⟨rfl, hSx, hP⟩ := hv
  have hr := B.returns
  have hlocks := B.notSynchronized
  have X : CxG g p s m _ c cX6_walls 9 RX6 wsX6_walls := ⟨⟨B.exec, B.bytes, hml, findClass_of_methodNamed B.named, atoms_spec (ws := wsX6_walls) B.pre⟩, hSx, hA⟩
  have hS : va_S (AbG g) s.heap s.heap [] := va_S.rf
  have hl := lv_entry (([.ref (ga g 148), .int a1, .int a2] : List Value)) (n := 9) (Nat.le_of_ble_eq_true rfl)
  rw [lg_entry_eq]
  generalize (lg_sl (([.ref (ga g 148), .int a1, .int a2] : List Value)) ++ List.replicate (9 - (lg_sl (([.ref (ga g 148), .int a1, .int a2] : List Value))).length) Slot.unset).toArray = ls at hl ⊢
  have hl : lv_has ls 9 [(0, .ref (ga g 148)), (1, .int a1), (2, .int a2)] := hl
  obtain ⟨⟨hx, hb, hml, hown, hts⟩, -, -⟩ := id X
  unfold m_X6_walls at hm
  refine lv_aload_n hx hb dX6_walls_0 rfl (lv_at hl 0 rfl) ?_
  refine lv_iconst (v := 0) hx hb dX6_walls_1 (by decide) ?_
  obtain ⟨M_1, hM_2, hm⟩ := bnd_elim hm
  refine xp_X6_0 X hP hAll uX6_walls_X6 mbX6_walls_1 hS hM_2 dX6_walls_2 (fun H locs hP hS => ?_)
  refine lv_aload_n hx hb dX6_walls_5 rfl (lv_at hl 0 rfl) ?_
  refine lv_iload_n hx hb dX6_walls_6 rfl (lv_at hl 1 rfl) ?_
  refine lv_iconst (v := 0) hx hb dX6_walls_7 (by decide) ?_
  refine lv_iconst (v := 2) hx hb dX6_walls_8 (by decide) ?_
  obtain ⟨r_4, hc_3, hm⟩ := bind_elim hm
  refine x_calli (x_runV (As := [.int a1, .int 0, .int 2]) (rest := []) X hP hS (c_X6_isIn l X.2.2 hc_3) (cwV 3 hts gX6_walls_X6_isIn rfl rfl rfl (by decide +kernel) ⟨Nat.le_of_ble_eq_true rfl, Nat.le_of_ble_eq_true rfl⟩) (x_recv (C := RX6) (T := TX6) (N := 55) X hP (okc_148 hAll) rfl) rfl hl.1 rfl (Nat.le_of_ble_eq_true rfl) dX6_walls_9 ⟨Nat.zero_le _, Nat.zero_le _⟩) hS (fun H locs hP hS => ?_)
  refine lv_if_eq (tgt := 25) hx hb dX6_walls_12 (by decide) (fun h_5 => ?_) (fun h_5 => ?_)
  · rw [if_pos h_5] at hm
    refine lv_iconst (v := (-1)) hx hb dX6_walls_25 (by decide) ?_
    cases hm
    exact x_iret X hP hS hr hlocks dX6_walls_26
  · rw [if_neg h_5] at hm
    refine lv_aload_n hx hb dX6_walls_15 rfl (lv_at hl 0 rfl) ?_
    refine lv_iload_n hx hb dX6_walls_16 rfl (lv_at hl 2 rfl) ?_
    refine lv_iconst (v := 0) hx hb dX6_walls_17 (by decide) ?_
    refine lv_iconst (v := 1) hx hb dX6_walls_18 (by decide) ?_
    obtain ⟨r_7, hc_6, hm⟩ := bind_elim hm
    refine x_calli (x_runV (As := [.int a2, .int 0, .int 1]) (rest := []) X hP hS (c_X6_isIn l X.2.2 hc_6) (cwV 3 hts gX6_walls_X6_isIn rfl rfl rfl (by decide +kernel) ⟨Nat.le_of_ble_eq_true rfl, Nat.le_of_ble_eq_true rfl⟩) (x_recv (C := RX6) (T := TX6) (N := 55) X hP (okc_148 hAll) rfl) rfl hl.1 rfl (Nat.le_of_ble_eq_true rfl) dX6_walls_19 ⟨Nat.zero_le _, Nat.zero_le _⟩) hS (fun H locs hP hS => ?_)
    refine lv_if_ne (tgt := 27) hx hb dX6_walls_22 (by decide) (fun h_8 => ?_) (fun h_8 => ?_)
    · rw [if_neg h_8] at hm
      refine lv_iconst (v := 0) hx hb dX6_walls_27 (by decide) ?_
      refine lv_istore_n (lv' := [(3, .int 0), (0, .ref (ga g 148)), (1, .int a1), (2, .int a2)]) hx hb dX6_walls_28 rfl hl (by decide) rfl (fun ls hl => ?_)
      refine lv_iconst (v := 0) hx hb dX6_walls_29 (by decide) ?_
      refine lv_istore (lv' := [(4, .int 0), (3, .int 0), (0, .ref (ga g 148)), (1, .int a1), (2, .int a2)]) hx hb dX6_walls_30 hl (by decide) rfl (fun ls hl => ?_)
      obtain ⟨v_17, hL_16, hm⟩ := bind_elim hm
      refine wl_X6_walls_32 X hAll ?_ hL_16 _ _ _ hP hS (lv_sub hl [2, 3, 4, 1, 0] rfl)
      · intro z_v_17 e_v_17 H locs ls hP hS hl
        subst e_v_17
        replace hm := un1_e hm
        refine lv_iconst (v := (-1)) hx hb dX6_walls_60 (by decide) ?_
        refine lv_istore (lv' := [(4, .int (-1)), (0, .ref (ga g 148)), (1, .int a1), (2, .int a2), (3, .int v_17)]) hx hb dX6_walls_61 hl (by decide) rfl (fun ls hl => ?_)
        refine lv_iconst (v := 0) hx hb dX6_walls_63 (by decide) ?_
        refine lv_istore (lv' := [(5, .int 0), (4, .int (-1)), (0, .ref (ga g 148)), (1, .int a1), (2, .int a2), (3, .int v_17)]) hx hb dX6_walls_64 hl (by decide) rfl (fun ls hl => ?_)
        refine lv_iconst (v := 0) hx hb dX6_walls_66 (by decide) ?_
        refine lv_istore (lv' := [(6, .int 0), (5, .int 0), (4, .int (-1)), (0, .ref (ga g 148)), (1, .int a1), (2, .int a2), (3, .int v_17)]) hx hb dX6_walls_67 hl (by decide) rfl (fun ls hl => ?_)
        obtain ⟨x_60, hL_61, hm⟩ := bind_elim hm
        refine wl_X6_walls_69 X hAll ?_ hL_61 _ _ _ hP hS (lv_sub hl [3, 4, 5, 6, 2, 1, 0] rfl)
        · intro v_62 v_63 M_64 e_x_60 H locs ls hP hS hl
          subst e_x_60
          replace hm := un3_e hm
          refine lv_iconst (v := 0) hx hb dX6_walls_211 (by decide) ?_
          refine lv_istore (lv' := [(6, .int 0), (0, .ref (ga g 148)), (2, .int a2), (3, .int v_17), (4, .int v_62), (5, .int v_63)]) hx hb dX6_walls_212 hl (by decide) rfl (fun ls hl => ?_)
          obtain ⟨M_73, hL_72, hm⟩ := bind_elim hm
          refine wl_X6_walls_214 X hAll ?_ hL_72 _ _ _ hP hS (lv_sub hl [1, 2, 3, 4, 5, 0] rfl)
          · intro z_M_73 e_M_73 H locs ls hP hS hl
            subst e_M_73
            replace hm := un1_e hm
            refine lv_iload_n hx hb dX6_walls_242 rfl (lv_at hl 0 rfl) ?_
            refine lv_if_ne (tgt := 251) hx hb dX6_walls_243 (by decide) (fun h_74 => ?_) (fun h_74 => ?_)
            · rw [if_neg h_74] at hm
              refine lv_iload hx hb dX6_walls_251 (lv_at hl 2 rfl) ?_
              cases hm
              exact x_iret X hP hS hr hlocks dX6_walls_253
            · rw [if_pos h_74] at hm
              refine lv_iload hx hb dX6_walls_246 (lv_at hl 1 rfl) ?_
              refine lv_goto (tgt := 253) hx hb dX6_walls_248 (by decide) ?_
              cases hm
              exact x_iret X hP hS hr hlocks dX6_walls_253
    · rw [if_pos h_8] at hm
      refine lv_iconst (v := (-1)) hx hb dX6_walls_25 (by decide) ?_
      cases hm
      exact x_iret X hP hS hr hlocks dX6_walls_26


/-! X6_pactValue -/
def rmX6_pactValue : Room := { frames := 4, cells := 0, slots := 0, locals := 96 }
theorem uX6_pactValue_X6 : ∀ w ∈ wsX60, w ∈ wsX6_pactValue := by decide +kernel
theorem mbX6_pactValue_1 : Cond.fieldLink RX6 7 "FootANightModel" "n" "I" ∈ wsX6_pactValue := by decide +kernel
theorem mbX6_pactValue_2 : Cond.fieldLink RX6 99 "FootANightModel" "row" "[I" ∈ wsX6_pactValue := by decide +kernel
set_option maxHeartbeats 4000000 in
set_option maxRecDepth 100000 in
theorem wl_X6_pactValue_3 (X : CxG g p s m args c cX6_pactValue 5 RX6 wsX6_pactValue) (hAll : okAll g) {fu : Nat} {s1 : Int32} {s2 : Int32} {s3 : Int32} {x : Mem} (kx0 : ∀ (M2 : Mem) , x = M2 → ∀ (H : Heap) (locs : List Loc) (ls : Array Slot), va_P (gD g) vwCl (wlG g M2) H → va_S (AbG g) s.heap H locs → lv_has ls 5 [(0, .ref (ga g 148)), (1, .int s1), (2, .int s2), (3, .int s3)] → W p l e (headSpec wsX6_pactValue rmX6_pactValue).room s m args below meth c H locs 0 0 Q (F0 m 26 ls [])) {n : Nat} {q0 : Int32 × Mem} (h : lp (b_X6_pactValue_3 fu s1 s2 s3) n q0 = some x) : ∀ (H : Heap) (locs : List Loc) (ls : Array Slot), va_P (gD g) vwCl (wlG g q0.2) H → va_S (AbG g) s.heap H locs → lv_has ls 5 [(0, .ref (ga g 148)), (1, .int s1), (2, .int s2), (3, .int s3), (4, .int q0.1)] → W p l e (headSpec wsX6_pactValue rmX6_pactValue).room s m args below meth c H locs 0 0 Q (F0 m 3 ls []) := by
  refine lp_elim (P := fun q0 : Int32 × Mem => ∀ (H : Heap) (locs : List Loc) (ls : Array Slot), va_P (gD g) vwCl (wlG g q0.2) H → va_S (AbG g) s.heap H locs → lv_has ls 5 [(0, .ref (ga g 148)), (1, .int s1), (2, .int s2), (3, .int s3), (4, .int q0.1)] → W p l e (headSpec wsX6_pactValue rmX6_pactValue).room s m args below meth c H locs 0 0 Q (F0 m 3 ls [])) (fun q1 o hm hI hX => ?_) n q0 h
  obtain ⟨c4, M⟩ := q1
  have kb : ∀ (d4 : Int32) (M2 : Mem) , o = .inl (d4, M2) → ∀ (H : Heap) (locs : List Loc) (ls : Array Slot), va_P (gD g) vwCl (wlG g M2) H → va_S (AbG g) s.heap H locs → lv_has ls 5 [(0, .ref (ga g 148)), (1, .int s1), (2, .int s2), (3, .int s3), (4, .int d4)] → W p l e (headSpec wsX6_pactValue rmX6_pactValue).room s m args below meth c H locs 0 0 Q (F0 m 3 ls []) := fun d4 M2 e => hI _ e
  have kx0 : ∀ (M2 : Mem) , o = .inr M2 → ∀ (H : Heap) (locs : List Loc) (ls : Array Slot), va_P (gD g) vwCl (wlG g M2) H → va_S (AbG g) s.heap H locs → lv_has ls 5 [(0, .ref (ga g 148)), (1, .int s1), (2, .int s2), (3, .int s3)] → W p l e (headSpec wsX6_pactValue rmX6_pactValue).room s m args below meth c H locs 0 0 Q (F0 m 26 ls []) := fun M2 e => kx0 M2 (hX _ e).symm
  clear hI hX
  intro H locs ls hP hS hl
  obtain ⟨⟨hx, hb, hml, hown, hts⟩, -, -⟩ := id X
  have hl : lv_has ls 5 [(0, .ref (ga g 148)), (1, .int s1), (2, .int s2), (3, .int s3), (4, .int c4)] := hl
  have hP : va_P (gD g) vwCl (wlG g M) H := hP
  unfold b_X6_pactValue_3 at hm
  replace hm := un2_e hm
  refine lv_iload hx hb dX6_pactValue_3 (lv_at hl 4 rfl) ?_
  refine lv_aload_n hx hb dX6_pactValue_5 rfl (lv_at hl 0 rfl) ?_
  refine xg_X6_2 X hP hAll uX6_pactValue_X6 mbX6_pactValue_1 dX6_pactValue_6 ?_
  refine lv_icmp_ge (tgt := 26) hx hb dX6_pactValue_9 (by decide) (fun h_1 => ?_) (fun h_1 => ?_)
  · rw [if_pos h_1] at hm
    exact kx0 M (Option.some.inj hm).symm _ _ _ hP hS (lv_sub hl [0, 1, 2, 3] rfl)
  · rw [if_neg h_1] at hm
    refine lv_aload_n hx hb dX6_pactValue_12 rfl (lv_at hl 0 rfl) ?_
    refine xg_X6_44 X hP hAll uX6_pactValue_X6 mbX6_pactValue_2 dX6_pactValue_13 ?_
    refine lv_iload hx hb dX6_pactValue_16 (lv_at hl 4 rfl) ?_
    refine lv_iconst (v := 0) hx hb dX6_pactValue_18 (by decide) ?_
    obtain ⟨hb_2, hm⟩ := chk_elim hm
    obtain ⟨M_3, hM_4, hm⟩ := bnd_elim hm
    refine x_iast X hP hS (okc_176 hAll) hM_4 hb_2 dX6_pactValue_19 (fun H locs hP hS => ?_)
    obtain ⟨v_5, hv_6, hm⟩ := bnd_elim hm
    refine lv_iinc (v := v_5) (lv' := [(4, .int v_5), (0, .ref (ga g 148)), (1, .int s1), (2, .int s2), (3, .int s3)]) hx hb dX6_pactValue_20 hl (k := 4) rfl (by rw [hv_6]; rfl) (by decide) rfl (fun ls hl => ?_)
    refine lv_goto (tgt := 3) hx hb dX6_pactValue_23 (by decide) ?_
    exact kb v_5 M_3 (Option.some.inj hm).symm _ _ _ hP hS (lv_sub hl [1, 2, 3, 4, 0] rfl)

set_option maxHeartbeats 4000000 in
set_option maxRecDepth 100000 in
theorem c_X6_pactValue (l : Launch) {g : GT} (hA : AxG g) (hAll : okAll g)   {fu : Nat} {M : Mem} {a1 : Int32} {a2 : Int32} {a3 : Int32} {rr : Int32} {MM : Mem} (hm : m_X6_pactValue fu M a1 a2 a3 = some (rr, MM)) : CI l yX6_pactValue wsX6_pactValue rmX6_pactValue g [.ref (ga g 148), .int a1, .int a2, .int a3] M rr MM := by
  refine Met.ofW (cc := cX6_pactValue) (maxL := 5) (ret := (some .int)) (by decide) rfl ?_
  intro p e s m args below meth c s₁ B hml hv
  obtain ⟨rfl, hSx, hP⟩ := hv
  have hr := B.returns
  have hlocks := B.notSynchronized
  have X : CxG g p s m _ c cX6_pactValue 5 RX6 wsX6_pactValue := ⟨⟨B.exec, B.bytes, hml, findClass_of_methodNamed B.named, atoms_spec (ws := wsX6_pactValue) B.pre⟩, hSx, hA⟩
  have hS : va_S (AbG g) s.heap s.heap [] := va_S.rf
  have hl := lv_entry (([.ref (ga g 148), .int a1, .int a2, .int a3] : List Value)) (n := 5) (Nat.le_of_ble_eq_true rfl)
  rw [lg_entry_eq]
  generalize (lg_sl (([.ref (ga g 148), .int a1, .int a2, .int a3] : List Value)) ++ List.replicate (5 - (lg_sl (([.ref (ga g 148), .int a1, .int a2, .int a3] : List Value))).length) Slot.unset).toArray = ls at hl ⊢
  have hl : lv_has ls 5 [(0, .ref (ga g 148)), (1, .int a1), (2, .int a2), (3, .int a3)] := hl
  obtain ⟨⟨hx, hb, hml, hown, hts⟩, -, -⟩ := id X
  unfold m_X6_pactValue at hm
  refine lv_iconst (v := 0) hx hb dX6_pactValue_0 (by decide) ?_
  refine lv_istore (lv' := [(4, .int 0), (0, .ref (ga g 148)), (1, .int a1), (2, .int a2), (3, .int a3)]) hx hb dX6_pactValue_1 hl (by decide) rfl (fun ls hl => ?_)
  obtain ⟨M_9, hL_8, hm⟩ := bind_elim hm
  refine wl_X6_pactValue_3 X hAll ?_ hL_8 _ _ _ hP hS (lv_sub hl [1, 2, 3, 4, 0] rfl)
  · intro z_M_9 e_M_9 H locs ls hP hS hl
    subst e_M_9
    replace hm := un1_e hm
    refine lv_aload_n hx hb dX6_pactValue_26 rfl (lv_at hl 0 rfl) ?_
    refine xg_X6_44 X hP hAll uX6_pactValue_X6 mbX6_pactValue_2 dX6_pactValue_27 ?_
    refine lv_aload_n hx hb dX6_pactValue_30 rfl (lv_at hl 0 rfl) ?_
    refine lv_iload_n hx hb dX6_pactValue_31 rfl (lv_at hl 1 rfl) ?_
    obtain ⟨r_11, hc_10, hm⟩ := bind_elim hm
    refine x_calli (x_runV (As := [.int a1]) (rest := [.ref (ga g 176)]) X hP hS (c_X6_rightOf l X.2.2 hAll hc_10) (cwV 1 hts gX6_pactValue_X6_rightOf rfl rfl rfl (by decide +kernel) ⟨Nat.le_of_ble_eq_true rfl, Nat.le_of_ble_eq_true rfl⟩) (x_recv (C := RX6) (T := TX6) (N := 55) X hP (okc_148 hAll) rfl) rfl hl.1 rfl (Nat.le_of_ble_eq_true rfl) dX6_pactValue_32 ⟨Nat.zero_le _, Nat.zero_le _⟩) hS (fun H locs hP hS => ?_)
    refine lv_iload_n hx hb dX6_pactValue_35 rfl (lv_at hl 3 rfl) ?_
    obtain ⟨hb_12, hm⟩ := chk_elim hm
    obtain ⟨M_13, hM_14, hm⟩ := bnd_elim hm
    refine x_iast X hP hS (okc_176 hAll) hM_14 hb_12 dX6_pactValue_36 (fun H locs hP hS => ?_)
    refine lv_aload_n hx hb dX6_pactValue_37 rfl (lv_at hl 0 rfl) ?_
    refine xg_X6_44 X hP hAll uX6_pactValue_X6 mbX6_pactValue_2 dX6_pactValue_38 ?_
    refine lv_iload_n hx hb dX6_pactValue_41 rfl (lv_at hl 1 rfl) ?_
    refine lv_iload_n hx hb dX6_pactValue_42 rfl (lv_at hl 2 rfl) ?_
    obtain ⟨hb_15, hm⟩ := chk_elim hm
    obtain ⟨M_16, hM_17, hm⟩ := bnd_elim hm
    refine x_iast X hP hS (okc_176 hAll) hM_17 hb_15 dX6_pactValue_43 (fun H locs hP hS => ?_)
    refine lv_aload_n hx hb dX6_pactValue_44 rfl (lv_at hl 0 rfl) ?_
    refine lv_iload_n hx hb dX6_pactValue_45 rfl (lv_at hl 1 rfl) ?_
    obtain ⟨r_19, hc_18, hm⟩ := bind_elim hm
    refine x_calli (x_runV (As := [.int a1]) (rest := []) X hP hS (c_X6_valueOf l X.2.2 hAll hc_18) (cwV 1 hts gX6_pactValue_X6_valueOf rfl rfl rfl (by decide +kernel) ⟨Nat.le_of_ble_eq_true rfl, Nat.le_of_ble_eq_true rfl⟩) (x_recv (C := RX6) (T := TX6) (N := 55) X hP (okc_148 hAll) rfl) rfl hl.1 rfl (Nat.le_of_ble_eq_true rfl) dX6_pactValue_46 ⟨Nat.zero_le _, Nat.zero_le _⟩) hS (fun H locs hP hS => ?_)
    cases hm
    exact x_iret X hP hS hr hlocks dX6_pactValue_49


/-! X6_holds -/
def rmX6_holds : Room := { frames := 5, cells := 0, slots := 0, locals := 120 }

set_option maxHeartbeats 4000000 in
set_option maxRecDepth 100000 in
theorem c_X6_holds (l : Launch) {g : GT} (hA : AxG g) (hAll : okAll g)   {fu : Nat} {M : Mem} {a1 : Int32} {a2 : Int32} {rr : Int32} {MM : Mem} (hm : m_X6_holds fu M a1 a2 = some (rr, MM)) : CI l yX6_holds wsX6_holds rmX6_holds g [.ref (ga g 148), .int a1, .int a2] M rr MM := by
  refine Met.ofW (cc := cX6_holds) (maxL := 8) (ret := (some .boolean)) (by decide) rfl ?_
  intro p e s m args below meth c s₁ B hml hv
  obtain ⟨rfl, hSx, hP⟩ := hv
  have hr := B.returns
  have hlocks := B.notSynchronized
  have X : CxG g p s m _ c cX6_holds 8 RX6 wsX6_holds := ⟨⟨B.exec, B.bytes, hml, findClass_of_methodNamed B.named, atoms_spec (ws := wsX6_holds) B.pre⟩, hSx, hA⟩
  have hS : va_S (AbG g) s.heap s.heap [] := va_S.rf
  have hl := lv_entry (([.ref (ga g 148), .int a1, .int a2] : List Value)) (n := 8) (Nat.le_of_ble_eq_true rfl)
  rw [lg_entry_eq]
  generalize (lg_sl (([.ref (ga g 148), .int a1, .int a2] : List Value)) ++ List.replicate (8 - (lg_sl (([.ref (ga g 148), .int a1, .int a2] : List Value))).length) Slot.unset).toArray = ls at hl ⊢
  have hl : lv_has ls 8 [(0, .ref (ga g 148)), (1, .int a1), (2, .int a2)] := hl
  obtain ⟨⟨hx, hb, hml, hown, hts⟩, -, -⟩ := id X
  unfold m_X6_holds at hm
  refine lv_aload_n hx hb dX6_holds_0 rfl (lv_at hl 0 rfl) ?_
  refine lv_iload_n hx hb dX6_holds_1 rfl (lv_at hl 1 rfl) ?_
  refine lv_iconst (v := 0) hx hb dX6_holds_2 (by decide) ?_
  refine lv_iconst (v := 0) hx hb dX6_holds_3 (by decide) ?_
  obtain ⟨⟨r_2, M_3⟩, hc_1, hm⟩ := bind_elim hm
  replace hm := un2_e hm
  refine x_calli (x_runV (As := [.int a1, .int 0, .int 0]) (rest := []) X hP hS (c_X6_pactValue l X.2.2 hAll hc_1) (cwV 3 hts gX6_holds_X6_pactValue rfl rfl rfl (by decide +kernel) ⟨Nat.le_of_ble_eq_true rfl, Nat.le_of_ble_eq_true rfl⟩) (x_recv (C := RX6) (T := TX6) (N := 55) X hP (okc_148 hAll) rfl) rfl hl.1 rfl (Nat.le_of_ble_eq_true rfl) dX6_holds_4 ⟨Nat.zero_le _, Nat.zero_le _⟩) hS (fun H locs hP hS => ?_)
  refine lv_istore_n (lv' := [(3, .int r_2), (0, .ref (ga g 148)), (1, .int a1), (2, .int a2)]) hx hb dX6_holds_7 rfl hl (by decide) rfl (fun ls hl => ?_)
  refine lv_aload_n hx hb dX6_holds_8 rfl (lv_at hl 1 rfl) ?_
  refine lv_iload_n hx hb dX6_holds_9 rfl (lv_at hl 2 rfl) ?_
  refine lv_iconst (v := 3) hx hb dX6_holds_10 (by decide) ?_
  refine lv_iconst (v := 0) hx hb dX6_holds_11 (by decide) ?_
  obtain ⟨⟨r_5, M_6⟩, hc_4, hm⟩ := bind_elim hm
  replace hm := un2_e hm
  refine x_calli (x_runV (As := [.int a1, .int 3, .int 0]) (rest := []) X hP hS (c_X6_pactValue l X.2.2 hAll hc_4) (cwV 3 hts gX6_holds_X6_pactValue rfl rfl rfl (by decide +kernel) ⟨Nat.le_of_ble_eq_true rfl, Nat.le_of_ble_eq_true rfl⟩) (x_recv (C := RX6) (T := TX6) (N := 55) X hP (okc_148 hAll) rfl) rfl hl.1 rfl (Nat.le_of_ble_eq_true rfl) dX6_holds_12 ⟨Nat.zero_le _, Nat.zero_le _⟩) hS (fun H locs hP hS => ?_)
  refine lv_iload_n hx hb dX6_holds_15 rfl (lv_at hl 0 rfl) ?_
  refine lv_isub hx hb dX6_holds_16 ?_
  refine lv_i2l (v := (r_5 - r_2).toInt64) hx hb dX6_holds_17 rfl ?_
  obtain ⟨v_7, hv_8, hm⟩ := bnd_elim hm
  refine x_namel hv_8 ?_
  refine lv_lstore (lv' := [(4, .long v_7), (3, .int r_2), (0, .ref (ga g 148)), (1, .int a1), (2, .int a2)]) hx hb dX6_holds_18 hl (by decide) rfl (fun ls hl => ?_)
  refine lv_iload_n hx hb dX6_holds_20 rfl (lv_at hl 1 rfl) ?_
  refine lv_aload_n hx hb dX6_holds_21 rfl (lv_at hl 2 rfl) ?_
  refine lv_iload_n hx hb dX6_holds_22 rfl (lv_at hl 3 rfl) ?_
  refine lv_iconst (v := 3) hx hb dX6_holds_23 (by decide) ?_
  refine lv_iconst (v := 2) hx hb dX6_holds_24 (by decide) ?_
  obtain ⟨⟨r_10, M_11⟩, hc_9, hm⟩ := bind_elim hm
  replace hm := un2_e hm
  refine x_calli (x_runV (As := [.int a1, .int 3, .int 2]) (rest := [.int r_2]) X hP hS (c_X6_pactValue l X.2.2 hAll hc_9) (cwV 3 hts gX6_holds_X6_pactValue rfl rfl rfl (by decide +kernel) ⟨Nat.le_of_ble_eq_true rfl, Nat.le_of_ble_eq_true rfl⟩) (x_recv (C := RX6) (T := TX6) (N := 55) X hP (okc_148 hAll) rfl) rfl hl.1 rfl (Nat.le_of_ble_eq_true rfl) dX6_holds_25 ⟨Nat.zero_le _, Nat.zero_le _⟩) hS (fun H locs hP hS => ?_)
  refine lv_isub hx hb dX6_holds_28 ?_
  refine lv_i2l (v := (r_2 - r_10).toInt64) hx hb dX6_holds_29 rfl ?_
  obtain ⟨v_12, hv_13, hm⟩ := bnd_elim hm
  refine x_namel hv_13 ?_
  refine lv_lstore (lv' := [(6, .long v_12), (4, .long v_7), (3, .int r_2), (0, .ref (ga g 148)), (1, .int a1), (2, .int a2)]) hx hb dX6_holds_30 hl (by decide) rfl (fun ls hl => ?_)
  refine lv_lload hx hb dX6_holds_32 (lv_at hl 1 rfl) ?_
  refine lv_sipush (v := 1000) hx hb dX6_holds_34 (by decide) ?_
  refine lv_iload_n hx hb dX6_holds_37 rfl (lv_at hl 5 rfl) ?_
  refine lv_isub hx hb dX6_holds_38 ?_
  refine lv_i2l (v := (1000 - a2).toInt64) hx hb dX6_holds_39 rfl ?_
  refine lv_lmul hx hb dX6_holds_40 ?_
  refine lv_lload hx hb dX6_holds_41 (lv_at hl 0 rfl) ?_
  refine lv_iload_n hx hb dX6_holds_43 rfl (lv_at hl 5 rfl) ?_
  refine lv_i2l (v := a2.toInt64) hx hb dX6_holds_44 rfl ?_
  refine lv_lmul hx hb dX6_holds_45 ?_
  refine W.lcmp hx hb dX6_holds_46 ?_
  refine lv_if_gt (tgt := 54) hx hb dX6_holds_47 (by decide) (fun h_14 => ?_) (fun h_14 => ?_)
  · rw [if_pos h_14] at hm
    refine lv_iconst (v := 0) hx hb dX6_holds_54 (by decide) ?_
    cases hm
    exact x_zret X (by decide) hP hS hr hlocks dX6_holds_55
  · rw [if_neg h_14] at hm
    refine lv_iconst (v := 1) hx hb dX6_holds_50 (by decide) ?_
    refine lv_goto (tgt := 55) hx hb dX6_holds_51 (by decide) ?_
    cases hm
    exact x_zret X (by decide) hP hS hr hlocks dX6_holds_55


/-! X6_pact -/
def rmX6_pact : Room := { frames := 6, cells := 0, slots := 0, locals := 147 }
theorem uX6_pact_X6 : ∀ w ∈ wsX60, w ∈ wsX6_pact := by decide +kernel
theorem mbX6_pact_1 : Cond.fieldLink RX6 121 "FootANightModel" "told" "I" ∈ wsX6_pact := by decide +kernel
set_option maxHeartbeats 4000000 in
set_option maxRecDepth 100000 in
theorem wl_X6_pact_49 (X : CxG g p s m args c cX6_pact 4 RX6 wsX6_pact) (hAll : okAll g) {fu : Nat} {s1 : Int32} {x : (Int32 × Mem) ⊕ (Mem)} (kx0 : ∀ (d3 : Int32) (M2 : Mem) , x = .inl (d3, M2) → ∀ (H : Heap) (locs : List Loc) (ls : Array Slot), va_P (gD g) vwCl (wlG g M2) H → va_S (AbG g) s.heap H locs → lv_has ls 4 [(3, .int d3)] → W p l e (headSpec wsX6_pact rmX6_pact).room s m args below meth c H locs 0 0 Q (F0 m 65 ls [])) (kx1 : ∀ (M2 : Mem) , x = .inr M2 → ∀ (H : Heap) (locs : List Loc) (ls : Array Slot), va_P (gD g) vwCl (wlG g M2) H → va_S (AbG g) s.heap H locs → lv_has ls 4 [] → W p l e (headSpec wsX6_pact rmX6_pact).room s m args below meth c H locs 0 0 Q (F0 m 73 ls [])) {n : Nat} {q0 : Int32 × Mem} (h : lp (b_X6_pact_49 fu s1) n q0 = some x) : ∀ (H : Heap) (locs : List Loc) (ls : Array Slot), va_P (gD g) vwCl (wlG g q0.2) H → va_S (AbG g) s.heap H locs → lv_has ls 4 [(0, .ref (ga g 148)), (1, .int s1), (3, .int q0.1)] → W p l e (headSpec wsX6_pact rmX6_pact).room s m args below meth c H locs 0 0 Q (F0 m 49 ls []) := by
  refine lp_elim (P := fun q0 : Int32 × Mem => ∀ (H : Heap) (locs : List Loc) (ls : Array Slot), va_P (gD g) vwCl (wlG g q0.2) H → va_S (AbG g) s.heap H locs → lv_has ls 4 [(0, .ref (ga g 148)), (1, .int s1), (3, .int q0.1)] → W p l e (headSpec wsX6_pact rmX6_pact).room s m args below meth c H locs 0 0 Q (F0 m 49 ls [])) (fun q1 o hm hI hX => ?_) n q0 h
  obtain ⟨c3, M⟩ := q1
  have kb : ∀ (d3 : Int32) (M2 : Mem) , o = .inl (d3, M2) → ∀ (H : Heap) (locs : List Loc) (ls : Array Slot), va_P (gD g) vwCl (wlG g M2) H → va_S (AbG g) s.heap H locs → lv_has ls 4 [(0, .ref (ga g 148)), (1, .int s1), (3, .int d3)] → W p l e (headSpec wsX6_pact rmX6_pact).room s m args below meth c H locs 0 0 Q (F0 m 49 ls []) := fun d3 M2 e => hI _ e
  have kx0 : ∀ (d3 : Int32) (M2 : Mem) , o = .inr (.inl (d3, M2)) → ∀ (H : Heap) (locs : List Loc) (ls : Array Slot), va_P (gD g) vwCl (wlG g M2) H → va_S (AbG g) s.heap H locs → lv_has ls 4 [(3, .int d3)] → W p l e (headSpec wsX6_pact rmX6_pact).room s m args below meth c H locs 0 0 Q (F0 m 65 ls []) := fun d3 M2 e => kx0 d3 M2 (hX _ e).symm
  have kx1 : ∀ (M2 : Mem) , o = .inr (.inr M2) → ∀ (H : Heap) (locs : List Loc) (ls : Array Slot), va_P (gD g) vwCl (wlG g M2) H → va_S (AbG g) s.heap H locs → lv_has ls 4 [] → W p l e (headSpec wsX6_pact rmX6_pact).room s m args below meth c H locs 0 0 Q (F0 m 73 ls []) := fun M2 e => kx1 M2 (hX _ e).symm
  clear hI hX
  intro H locs ls hP hS hl
  obtain ⟨⟨hx, hb, hml, hown, hts⟩, -, -⟩ := id X
  have hl : lv_has ls 4 [(0, .ref (ga g 148)), (1, .int s1), (3, .int c3)] := hl
  have hP : va_P (gD g) vwCl (wlG g M) H := hP
  unfold b_X6_pact_49 at hm
  replace hm := un2_e hm
  refine lv_iload_n hx hb dX6_pact_49 rfl (lv_at hl 2 rfl) ?_
  refine lv_sipush (v := 1000) hx hb dX6_pact_50 (by decide) ?_
  refine lv_icmp_ge (tgt := 73) hx hb dX6_pact_53 (by decide) (fun h_10 => ?_) (fun h_10 => ?_)
  · rw [if_pos h_10] at hm
    exact kx1 M (Option.some.inj hm).symm _ _ _ hP hS (lv_sub hl [] rfl)
  · rw [if_neg h_10] at hm
    refine lv_aload_n hx hb dX6_pact_56 rfl (lv_at hl 0 rfl) ?_
    refine lv_iload_n hx hb dX6_pact_57 rfl (lv_at hl 1 rfl) ?_
    refine lv_iload_n hx hb dX6_pact_58 rfl (lv_at hl 2 rfl) ?_
    obtain ⟨⟨r_12, M_13⟩, hc_11, hm⟩ := bind_elim hm
    replace hm := un2_e hm
    refine x_calli (x_runV (As := [.int s1, .int c3]) (rest := []) X hP hS (c_X6_holds l X.2.2 hAll hc_11) (cwV 2 hts gX6_pact_X6_holds rfl rfl rfl (by decide +kernel) ⟨Nat.le_of_ble_eq_true rfl, Nat.le_of_ble_eq_true rfl⟩) (x_recv (C := RX6) (T := TX6) (N := 55) X hP (okc_148 hAll) rfl) rfl hl.1 rfl (Nat.le_of_ble_eq_true rfl) dX6_pact_59 ⟨Nat.zero_le _, Nat.zero_le _⟩) hS (fun H locs hP hS => ?_)
    refine lv_if_eq (tgt := 67) hx hb dX6_pact_62 (by decide) (fun h_14 => ?_) (fun h_14 => ?_)
    · rw [if_pos h_14] at hm
      obtain ⟨v_15, hv_16, hm⟩ := bnd_elim hm
      refine lv_iinc (v := v_15) (lv' := [(3, .int v_15), (0, .ref (ga g 148)), (1, .int s1)]) hx hb dX6_pact_67 hl (k := 2) rfl (by rw [hv_16]; rfl) (by decide) rfl (fun ls hl => ?_)
      refine lv_goto (tgt := 49) hx hb dX6_pact_70 (by decide) ?_
      exact kb v_15 M_13 (Option.some.inj hm).symm _ _ _ hP hS (lv_sub hl [1, 2, 0] rfl)
    · rw [if_neg h_14] at hm
      exact kx0 c3 M_13 (Option.some.inj hm).symm _ _ _ hP hS (lv_sub hl [2] rfl)

set_option maxHeartbeats 4000000 in
set_option maxRecDepth 100000 in
theorem c_X6_pact (l : Launch) {g : GT} (hA : AxG g) (hAll : okAll g)   {fu : Nat} {M : Mem} {a1 : Int32} {a2 : Int32} {rr : Int32} {MM : Mem} (hm : m_X6_pact fu M a1 a2 = some (rr, MM)) : CI l yX6_pact wsX6_pact rmX6_pact g [.ref (ga g 148), .int a1, .int a2] M rr MM := by
  refine Met.ofW (cc := cX6_pact) (maxL := 4) (ret := (some .int)) (by decide) rfl ?_
  intro p e s m args below meth c s₁ B hml hv
  obtain ⟨rfl, hSx, hP⟩ := hv
  have hr := B.returns
  have hlocks := B.notSynchronized
  have X : CxG g p s m _ c cX6_pact 4 RX6 wsX6_pact := ⟨⟨B.exec, B.bytes, hml, findClass_of_methodNamed B.named, atoms_spec (ws := wsX6_pact) B.pre⟩, hSx, hA⟩
  have hS : va_S (AbG g) s.heap s.heap [] := va_S.rf
  have hl := lv_entry (([.ref (ga g 148), .int a1, .int a2] : List Value)) (n := 4) (Nat.le_of_ble_eq_true rfl)
  rw [lg_entry_eq]
  generalize (lg_sl (([.ref (ga g 148), .int a1, .int a2] : List Value)) ++ List.replicate (4 - (lg_sl (([.ref (ga g 148), .int a1, .int a2] : List Value))).length) Slot.unset).toArray = ls at hl ⊢
  have hl : lv_has ls 4 [(0, .ref (ga g 148)), (1, .int a1), (2, .int a2)] := hl
  obtain ⟨⟨hx, hb, hml, hown, hts⟩, -, -⟩ := id X
  unfold m_X6_pact at hm
  refine lv_aload_n hx hb dX6_pact_0 rfl (lv_at hl 0 rfl) ?_
  refine lv_iconst (v := 0) hx hb dX6_pact_1 (by decide) ?_
  obtain ⟨M_1, hM_2, hm⟩ := bnd_elim hm
  refine xp_X6_0 X hP hAll uX6_pact_X6 mbX6_pact_1 hS hM_2 dX6_pact_2 (fun H locs hP hS => ?_)
  refine lv_aload_n hx hb dX6_pact_5 rfl (lv_at hl 0 rfl) ?_
  refine lv_iload_n hx hb dX6_pact_6 rfl (lv_at hl 1 rfl) ?_
  obtain ⟨r_4, hc_3, hm⟩ := bind_elim hm
  refine x_calli (x_runV (As := [.int a1]) (rest := []) X hP hS (c_X6_isFarm l X.2.2 hAll hc_3) (cwV 1 hts gX6_pact_X6_isFarm rfl rfl rfl (by decide +kernel) ⟨Nat.le_of_ble_eq_true rfl, Nat.le_of_ble_eq_true rfl⟩) (x_recv (C := RX6) (T := TX6) (N := 55) X hP (okc_148 hAll) rfl) rfl hl.1 rfl (Nat.le_of_ble_eq_true rfl) dX6_pact_7 ⟨Nat.zero_le _, Nat.zero_le _⟩) hS (fun H locs hP hS => ?_)
  refine lv_if_eq (tgt := 25) hx hb dX6_pact_10 (by decide) (fun h_5 => ?_) (fun h_5 => ?_)
  · rw [if_pos h_5] at hm
    refine lv_iconst (v := (-1)) hx hb dX6_pact_25 (by decide) ?_
    cases hm
    exact x_iret X hP hS hr hlocks dX6_pact_26
  · rw [if_neg h_5] at hm
    refine lv_aload_n hx hb dX6_pact_13 rfl (lv_at hl 0 rfl) ?_
    refine lv_iload_n hx hb dX6_pact_14 rfl (lv_at hl 2 rfl) ?_
    refine lv_iconst (v := (-1)) hx hb dX6_pact_15 (by decide) ?_
    refine lv_sipush (v := 999) hx hb dX6_pact_16 (by decide) ?_
    obtain ⟨r_7, hc_6, hm⟩ := bind_elim hm
    refine x_calli (x_runV (As := [.int a2, .int (-1), .int 999]) (rest := []) X hP hS (c_X6_isIn l X.2.2 hc_6) (cwV 3 hts gX6_pact_X6_isIn rfl rfl rfl (by decide +kernel) ⟨Nat.le_of_ble_eq_true rfl, Nat.le_of_ble_eq_true rfl⟩) (x_recv (C := RX6) (T := TX6) (N := 55) X hP (okc_148 hAll) rfl) rfl hl.1 rfl (Nat.le_of_ble_eq_true rfl) dX6_pact_19 ⟨Nat.zero_le _, Nat.zero_le _⟩) hS (fun H locs hP hS => ?_)
    refine lv_if_ne (tgt := 27) hx hb dX6_pact_22 (by decide) (fun h_8 => ?_) (fun h_8 => ?_)
    · rw [if_neg h_8] at hm
      refine lv_iload_n hx hb dX6_pact_27 rfl (lv_at hl 2 rfl) ?_
      refine lv_iconst (v := (-1)) hx hb dX6_pact_28 (by decide) ?_
      refine lv_icmp_eq (tgt := 47) hx hb dX6_pact_29 (by decide) (fun h_9 => ?_) (fun h_9 => ?_)
      · rw [if_pos h_9] at hm
        refine lv_iconst (v := 0) hx hb dX6_pact_47 (by decide) ?_
        refine lv_istore_n (lv' := [(3, .int 0), (0, .ref (ga g 148)), (1, .int a1), (2, .int a2)]) hx hb dX6_pact_48 rfl hl (by decide) rfl (fun ls hl => ?_)
        obtain ⟨x_17, hL_18, hm⟩ := bind_elim hm
        refine wl_X6_pact_49 X hAll ?_ ?_ hL_18 _ _ _ hP hS (lv_sub hl [1, 2, 0] rfl)
        · intro v_19 M_20 e_x_17 H locs ls hP hS hl
          subst e_x_17
          replace hm := unS_l hm
          replace hm := un2_e hm
          refine lv_iload_n hx hb dX6_pact_65 rfl (lv_at hl 0 rfl) ?_
          cases hm
          exact x_iret X hP hS hr hlocks dX6_pact_66
        · intro M_21 e_x_17 H locs ls hP hS hl
          subst e_x_17
          replace hm := unS_r hm
          replace hm := un1_e hm
          refine lv_iconst (v := (-1)) hx hb dX6_pact_73 (by decide) ?_
          cases hm
          exact x_iret X hP hS hr hlocks dX6_pact_74
      · rw [if_neg h_9] at hm
        refine lv_aload_n hx hb dX6_pact_32 rfl (lv_at hl 0 rfl) ?_
        refine lv_iload_n hx hb dX6_pact_33 rfl (lv_at hl 1 rfl) ?_
        refine lv_iload_n hx hb dX6_pact_34 rfl (lv_at hl 2 rfl) ?_
        obtain ⟨⟨r_23, M_24⟩, hc_22, hm⟩ := bind_elim hm
        replace hm := un2_e hm
        refine x_calli (x_runV (As := [.int a1, .int a2]) (rest := []) X hP hS (c_X6_holds l X.2.2 hAll hc_22) (cwV 2 hts gX6_pact_X6_holds rfl rfl rfl (by decide +kernel) ⟨Nat.le_of_ble_eq_true rfl, Nat.le_of_ble_eq_true rfl⟩) (x_recv (C := RX6) (T := TX6) (N := 55) X hP (okc_148 hAll) rfl) rfl hl.1 rfl (Nat.le_of_ble_eq_true rfl) dX6_pact_35 ⟨Nat.zero_le _, Nat.zero_le _⟩) hS (fun H locs hP hS => ?_)
        refine lv_if_eq (tgt := 45) hx hb dX6_pact_38 (by decide) (fun h_25 => ?_) (fun h_25 => ?_)
        · rw [if_pos h_25] at hm
          refine lv_iconst (v := 0) hx hb dX6_pact_45 (by decide) ?_
          cases hm
          exact x_iret X hP hS hr hlocks dX6_pact_46
        · rw [if_neg h_25] at hm
          refine lv_iconst (v := 1) hx hb dX6_pact_41 (by decide) ?_
          refine lv_goto (tgt := 46) hx hb dX6_pact_42 (by decide) ?_
          cases hm
          exact x_iret X hP hS hr hlocks dX6_pact_46
    · rw [if_pos h_8] at hm
      refine lv_iconst (v := (-1)) hx hb dX6_pact_25 (by decide) ?_
      cases hm
      exact x_iret X hP hS hr hlocks dX6_pact_26


/-! X6_nextOf -/
def rmX6_nextOf : Room := { frames := 1, cells := 0, slots := 0, locals := 22 }
theorem uX6_nextOf_X6 : ∀ w ∈ wsX60, w ∈ wsX6_nextOf := by decide +kernel
theorem mbX6_nextOf_1 : Cond.fieldLink RX6 53 "FootANightModel" "settings" "[I" ∈ wsX6_nextOf := by decide +kernel
theorem mbX6_nextOf_2 : Cond.fieldLink RX6 102 "FootANightModel" "best" "[J" ∈ wsX6_nextOf := by decide +kernel
theorem mbX6_nextOf_3 : Cond.constantLong RX6 321 (1000000) ∈ wsX6_nextOf := by decide +kernel
set_option maxHeartbeats 4000000 in
set_option maxRecDepth 100000 in
theorem wj_X6_nextOf_126 (X : CxG g p s m args c cX6_nextOf 11 RX6 wsX6_nextOf) (hAll : okAll g) {M : Mem} {s1 : Int32} {s3 : Int32} {s4 : Int32} {t0 : Int64} {t1 : Int64} {t3 : Int32} {rr : Int64} (hr : meth.sig.returnType = (some .long)) (hlocks : meth.locks = false) (hm : j_X6_nextOf_126 M s1 s3 s4 t0 t1 t3 = some rr) {H : Heap} {locs : List Loc} {ls : Array Slot} (hP : va_P (gD g) vwCl (wlG g M) H) (hS : va_S (AbG g) s.heap H locs) (hl : lv_has ls 11 [(0, .ref (ga g 148)), (1, .int s1), (3, .int s3), (4, .int s4)]) : W p l e (headSpec wsX6_nextOf rmX6_nextOf).room s m args below meth c H locs 0 0 (MQ below (va_Ql (fun (q : Int64) (_ : Unit) => q = rr) (fun _ t => va_P (gD g) vwCl (wlG g M) t.heap) (AbG g)) args s 0 0 (AbG g)) (F0 m 126 ls [.int t3, .ref (ga g 177), .long t1, .long t0]) := by
  obtain ⟨⟨hx, hb, hml, hown, hts⟩, -, -⟩ := id X
  unfold j_X6_nextOf_126 at hm
  obtain ⟨hb_14, hm⟩ := chk_elim hm
  refine x_lald X hP (okc_177 hAll) hb_14 dX6_nextOf_126 ?_
  refine lv_lmul hx hb dX6_nextOf_127 ?_
  refine lv_ladd hx hb dX6_nextOf_128 ?_
  obtain ⟨v_15, hv_16, hm⟩ := bnd_elim hm
  refine x_namel hv_16 ?_
  refine lv_lstore (lv' := [(7, .long v_15), (0, .ref (ga g 148)), (1, .int s1), (3, .int s3), (4, .int s4)]) hx hb dX6_nextOf_129 hl (by decide) rfl (fun ls hl => ?_)
  refine lv_lload hx hb dX6_nextOf_131 (lv_at hl 0 rfl) ?_
  refine lv_sipush (v := 1000) hx hb dX6_nextOf_133 (by decide) ?_
  refine lv_iload_n hx hb dX6_nextOf_136 rfl (lv_at hl 3 rfl) ?_
  refine lv_isub hx hb dX6_nextOf_137 ?_
  refine lv_i2l (v := (1000 - s3).toInt64) hx hb dX6_nextOf_138 rfl ?_
  refine lv_sipush (v := 1000) hx hb dX6_nextOf_139 (by decide) ?_
  refine lv_iload hx hb dX6_nextOf_142 (lv_at hl 4 rfl) ?_
  refine lv_isub hx hb dX6_nextOf_144 ?_
  refine lv_i2l (v := (1000 - s4).toInt64) hx hb dX6_nextOf_145 rfl ?_
  refine lv_lmul hx hb dX6_nextOf_146 ?_
  refine lv_aload_n hx hb dX6_nextOf_147 rfl (lv_at hl 1 rfl) ?_
  refine xg_X6_45 X hP hAll uX6_nextOf_X6 mbX6_nextOf_2 dX6_nextOf_148 ?_
  refine lv_iload_n hx hb dX6_nextOf_151 rfl (lv_at hl 2 rfl) ?_
  obtain ⟨hb_17, hm⟩ := chk_elim hm
  refine x_lald X hP (okc_177 hAll) hb_17 dX6_nextOf_152 ?_
  refine lv_lmul hx hb dX6_nextOf_153 ?_
  refine lv_ladd hx hb dX6_nextOf_154 ?_
  obtain ⟨v_18, hv_19, hm⟩ := bnd_elim hm
  refine x_namel hv_19 ?_
  refine lv_lstore (lv' := [(7, .long v_18), (0, .ref (ga g 148)), (1, .int s1), (3, .int s3), (4, .int s4)]) hx hb dX6_nextOf_155 hl (by decide) rfl (fun ls hl => ?_)
  refine lv_lload hx hb dX6_nextOf_157 (lv_at hl 0 rfl) ?_
  refine lv_ldc2 (v := 1000000) hx hb hown (hts _ mbX6_nextOf_3) dX6_nextOf_159 ?_
  refine lv_ldiv hx hb dX6_nextOf_162 (by decide) ?_
  obtain ⟨v_20, hv_21, hm⟩ := bnd_elim hm
  refine x_namel hv_21 ?_
  refine lv_lstore (lv' := [(9, .long v_20), (7, .long v_18), (0, .ref (ga g 148)), (1, .int s1), (3, .int s3), (4, .int s4)]) hx hb dX6_nextOf_163 hl (by decide) rfl (fun ls hl => ?_)
  refine lv_lload hx hb dX6_nextOf_165 (lv_at hl 1 rfl) ?_
  refine lv_ldc2 (v := 1000000) hx hb hown (hts _ mbX6_nextOf_3) dX6_nextOf_167 ?_
  refine lv_lrem hx hb dX6_nextOf_170 (by decide) ?_
  refine lv_lconst (v := 0) hx hb dX6_nextOf_171 (by decide) ?_
  refine W.lcmp hx hb dX6_nextOf_172 ?_
  refine lv_if_eq (tgt := 190) hx hb dX6_nextOf_173 (by decide) (fun h_22 => ?_) (fun h_22 => ?_)
  · rw [if_pos h_22] at hm
    refine lv_lload hx hb dX6_nextOf_190 (lv_at hl 0 rfl) ?_
    cases hm
    exact x_lret X hP hS hr hlocks dX6_nextOf_192
  · rw [if_neg h_22] at hm
    refine lv_lload hx hb dX6_nextOf_176 (lv_at hl 1 rfl) ?_
    refine lv_lconst (v := 0) hx hb dX6_nextOf_178 (by decide) ?_
    refine W.lcmp hx hb dX6_nextOf_179 ?_
    refine lv_if_ge (tgt := 190) hx hb dX6_nextOf_180 (by decide) (fun h_23 => ?_) (fun h_23 => ?_)
    · rw [if_pos h_23] at hm
      refine lv_lload hx hb dX6_nextOf_190 (lv_at hl 0 rfl) ?_
      cases hm
      exact x_lret X hP hS hr hlocks dX6_nextOf_192
    · rw [if_neg h_23] at hm
      refine lv_lload hx hb dX6_nextOf_183 (lv_at hl 0 rfl) ?_
      refine lv_lconst (v := 1) hx hb dX6_nextOf_185 (by decide) ?_
      refine lv_lsub hx hb dX6_nextOf_186 ?_
      refine lv_goto (tgt := 192) hx hb dX6_nextOf_187 (by decide) ?_
      cases hm
      exact x_lret X hP hS hr hlocks dX6_nextOf_192

set_option maxHeartbeats 4000000 in
set_option maxRecDepth 100000 in
theorem wj_X6_nextOf_92 (X : CxG g p s m args c cX6_nextOf 11 RX6 wsX6_nextOf) (hAll : okAll g) {M : Mem} {s1 : Int32} {s3 : Int32} {s4 : Int32} {s6 : Int32} {t0 : Int64} {t1 : Int64} {t3 : Int32} {rr : Int64} (hr : meth.sig.returnType = (some .long)) (hlocks : meth.locks = false) (hm : j_X6_nextOf_92 M s1 s3 s4 s6 t0 t1 t3 = some rr) {H : Heap} {locs : List Loc} {ls : Array Slot} (hP : va_P (gD g) vwCl (wlG g M) H) (hS : va_S (AbG g) s.heap H locs) (hl : lv_has ls 11 [(0, .ref (ga g 148)), (1, .int s1), (3, .int s3), (4, .int s4), (6, .int s6)]) : W p l e (headSpec wsX6_nextOf rmX6_nextOf).room s m args below meth c H locs 0 0 (MQ below (va_Ql (fun (q : Int64) (_ : Unit) => q = rr) (fun _ t => va_P (gD g) vwCl (wlG g M) t.heap) (AbG g)) args s 0 0 (AbG g)) (F0 m 92 ls [.int t3, .ref (ga g 177), .long t1, .long t0]) := by
  obtain ⟨⟨hx, hb, hml, hown, hts⟩, -, -⟩ := id X
  unfold j_X6_nextOf_92 at hm
  obtain ⟨hb_10, hm⟩ := chk_elim hm
  refine x_lald X hP (okc_177 hAll) hb_10 dX6_nextOf_92 ?_
  refine lv_lmul hx hb dX6_nextOf_93 ?_
  refine lv_ladd hx hb dX6_nextOf_94 ?_
  obtain ⟨v_11, hv_12, hm⟩ := bnd_elim hm
  refine x_namel hv_12 ?_
  refine lv_lstore (lv' := [(7, .long v_11), (0, .ref (ga g 148)), (1, .int s1), (3, .int s3), (4, .int s4), (6, .int s6)]) hx hb dX6_nextOf_95 hl (by decide) rfl (fun ls hl => ?_)
  refine lv_lload hx hb dX6_nextOf_97 (lv_at hl 0 rfl) ?_
  refine lv_sipush (v := 1000) hx hb dX6_nextOf_99 (by decide) ?_
  refine lv_iload_n hx hb dX6_nextOf_102 rfl (lv_at hl 3 rfl) ?_
  refine lv_isub hx hb dX6_nextOf_103 ?_
  refine lv_i2l (v := (1000 - s3).toInt64) hx hb dX6_nextOf_104 rfl ?_
  refine lv_iload hx hb dX6_nextOf_105 (lv_at hl 4 rfl) ?_
  refine lv_i2l (v := s4.toInt64) hx hb dX6_nextOf_107 rfl ?_
  refine lv_lmul hx hb dX6_nextOf_108 ?_
  refine lv_aload_n hx hb dX6_nextOf_109 rfl (lv_at hl 1 rfl) ?_
  refine xg_X6_45 X hP hAll uX6_nextOf_X6 mbX6_nextOf_2 dX6_nextOf_110 ?_
  refine lv_iload hx hb dX6_nextOf_113 (lv_at hl 4 rfl) ?_
  refine lv_if_le (tgt := 125) hx hb dX6_nextOf_115 (by decide) (fun h_13 => ?_) (fun h_13 => ?_)
  · rw [if_pos h_13] at hm
    refine lv_iload_n hx hb dX6_nextOf_125 rfl (lv_at hl 2 rfl) ?_
    exact wj_X6_nextOf_126 X hAll hr hlocks hm hP hS (lv_sub hl [1, 2, 3, 4] rfl)
  · rw [if_neg h_13] at hm
    refine lv_iload_n hx hb dX6_nextOf_118 rfl (lv_at hl 2 rfl) ?_
    refine lv_iload hx hb dX6_nextOf_119 (lv_at hl 5 rfl) ?_
    refine lv_isub hx hb dX6_nextOf_121 ?_
    refine lv_goto (tgt := 126) hx hb dX6_nextOf_122 (by decide) ?_
    exact wj_X6_nextOf_126 X hAll hr hlocks hm hP hS (lv_sub hl [1, 2, 3, 4] rfl)

set_option maxHeartbeats 4000000 in
set_option maxRecDepth 100000 in
theorem wj_X6_nextOf_60 (X : CxG g p s m args c cX6_nextOf 11 RX6 wsX6_nextOf) (hAll : okAll g) {M : Mem} {s1 : Int32} {s3 : Int32} {s4 : Int32} {s5 : Int32} {s6 : Int32} {t0 : Int64} {t2 : Int32} {rr : Int64} (hr : meth.sig.returnType = (some .long)) (hlocks : meth.locks = false) (hm : j_X6_nextOf_60 M s1 s3 s4 s5 s6 t0 t2 = some rr) {H : Heap} {locs : List Loc} {ls : Array Slot} (hP : va_P (gD g) vwCl (wlG g M) H) (hS : va_S (AbG g) s.heap H locs) (hl : lv_has ls 11 [(0, .ref (ga g 148)), (1, .int s1), (3, .int s3), (4, .int s4), (5, .int s5), (6, .int s6)]) : W p l e (headSpec wsX6_nextOf rmX6_nextOf).room s m args below meth c H locs 0 0 (MQ below (va_Ql (fun (q : Int64) (_ : Unit) => q = rr) (fun _ t => va_P (gD g) vwCl (wlG g M) t.heap) (AbG g)) args s 0 0 (AbG g)) (F0 m 60 ls [.int t2, .ref (ga g 177), .long t0]) := by
  obtain ⟨⟨hx, hb, hml, hown, hts⟩, -, -⟩ := id X
  unfold j_X6_nextOf_60 at hm
  obtain ⟨hb_6, hm⟩ := chk_elim hm
  refine x_lald X hP (okc_177 hAll) hb_6 dX6_nextOf_60 ?_
  refine lv_lmul hx hb dX6_nextOf_61 ?_
  obtain ⟨v_7, hv_8, hm⟩ := bnd_elim hm
  refine x_namel hv_8 ?_
  refine lv_lstore (lv' := [(7, .long v_7), (0, .ref (ga g 148)), (1, .int s1), (3, .int s3), (4, .int s4), (5, .int s5), (6, .int s6)]) hx hb dX6_nextOf_62 hl (by decide) rfl (fun ls hl => ?_)
  refine lv_lload hx hb dX6_nextOf_64 (lv_at hl 0 rfl) ?_
  refine lv_iload_n hx hb dX6_nextOf_66 rfl (lv_at hl 3 rfl) ?_
  refine lv_i2l (v := s3.toInt64) hx hb dX6_nextOf_67 rfl ?_
  refine lv_sipush (v := 1000) hx hb dX6_nextOf_68 (by decide) ?_
  refine lv_iload hx hb dX6_nextOf_71 (lv_at hl 4 rfl) ?_
  refine lv_isub hx hb dX6_nextOf_73 ?_
  refine lv_i2l (v := (1000 - s4).toInt64) hx hb dX6_nextOf_74 rfl ?_
  refine lv_lmul hx hb dX6_nextOf_75 ?_
  refine lv_aload_n hx hb dX6_nextOf_76 rfl (lv_at hl 1 rfl) ?_
  refine xg_X6_45 X hP hAll uX6_nextOf_X6 mbX6_nextOf_2 dX6_nextOf_77 ?_
  refine lv_iload_n hx hb dX6_nextOf_80 rfl (lv_at hl 3 rfl) ?_
  refine lv_if_le (tgt := 91) hx hb dX6_nextOf_81 (by decide) (fun h_9 => ?_) (fun h_9 => ?_)
  · rw [if_pos h_9] at hm
    refine lv_iload_n hx hb dX6_nextOf_91 rfl (lv_at hl 2 rfl) ?_
    exact wj_X6_nextOf_92 X hAll hr hlocks hm hP hS (lv_sub hl [1, 2, 3, 4, 6] rfl)
  · rw [if_neg h_9] at hm
    refine lv_iload_n hx hb dX6_nextOf_84 rfl (lv_at hl 2 rfl) ?_
    refine lv_iload hx hb dX6_nextOf_85 (lv_at hl 5 rfl) ?_
    refine lv_iadd hx hb dX6_nextOf_87 ?_
    refine lv_goto (tgt := 92) hx hb dX6_nextOf_88 (by decide) ?_
    exact wj_X6_nextOf_92 X hAll hr hlocks hm hP hS (lv_sub hl [1, 2, 3, 4, 6] rfl)

set_option maxHeartbeats 4000000 in
set_option maxRecDepth 100000 in
theorem wj_X6_nextOf_59 (X : CxG g p s m args c cX6_nextOf 11 RX6 wsX6_nextOf) (hAll : okAll g) {M : Mem} {s1 : Int32} {s3 : Int32} {s4 : Int32} {s5 : Int32} {s6 : Int32} {t0 : Int64} {rr : Int64} (hr : meth.sig.returnType = (some .long)) (hlocks : meth.locks = false) (hm : j_X6_nextOf_59 M s1 s3 s4 s5 s6 t0 = some rr) {H : Heap} {locs : List Loc} {ls : Array Slot} (hP : va_P (gD g) vwCl (wlG g M) H) (hS : va_S (AbG g) s.heap H locs) (hl : lv_has ls 11 [(0, .ref (ga g 148)), (1, .int s1), (3, .int s3), (4, .int s4), (5, .int s5), (6, .int s6)]) : W p l e (headSpec wsX6_nextOf rmX6_nextOf).room s m args below meth c H locs 0 0 (MQ below (va_Ql (fun (q : Int64) (_ : Unit) => q = rr) (fun _ t => va_P (gD g) vwCl (wlG g M) t.heap) (AbG g)) args s 0 0 (AbG g)) (F0 m 59 ls [.ref (ga g 177), .long t0]) := by
  obtain ⟨⟨hx, hb, hml, hown, hts⟩, -, -⟩ := id X
  unfold j_X6_nextOf_59 at hm
  refine lv_iload_n hx hb dX6_nextOf_59 rfl (lv_at hl 1 rfl) ?_
  exact wj_X6_nextOf_60 X hAll hr hlocks hm hP hS (lv_sub hl [0, 1, 2, 3, 4, 5] rfl)

set_option maxHeartbeats 4000000 in
set_option maxRecDepth 100000 in
theorem c_X6_nextOf (l : Launch) {g : GT} (hA : AxG g) (hAll : okAll g)   {M : Mem} {a1 : Int32} {a2 : Int32} {a3 : Int32} {a4 : Int32} {rr : Int64} (hm : m_X6_nextOf M a1 a2 a3 a4 = some rr) : CL l yX6_nextOf wsX6_nextOf rmX6_nextOf g [.ref (ga g 148), .int a1, .int a2, .int a3, .int a4] M rr M := by
  refine Met.ofW (cc := cX6_nextOf) (maxL := 11) (ret := (some .long)) (by decide) rfl ?_
  intro p e s m args below meth c s₁ B hml hv
  obtain ⟨rfl, hSx, hP⟩ := hv
  have hr := B.returns
  have hlocks := B.notSynchronized
  have X : CxG g p s m _ c cX6_nextOf 11 RX6 wsX6_nextOf := ⟨⟨B.exec, B.bytes, hml, findClass_of_methodNamed B.named, atoms_spec (ws := wsX6_nextOf) B.pre⟩, hSx, hA⟩
  have hS : va_S (AbG g) s.heap s.heap [] := va_S.rf
  have hl := lv_entry (([.ref (ga g 148), .int a1, .int a2, .int a3, .int a4] : List Value)) (n := 11) (Nat.le_of_ble_eq_true rfl)
  rw [lg_entry_eq]
  generalize (lg_sl (([.ref (ga g 148), .int a1, .int a2, .int a3, .int a4] : List Value)) ++ List.replicate (11 - (lg_sl (([.ref (ga g 148), .int a1, .int a2, .int a3, .int a4] : List Value))).length) Slot.unset).toArray = ls at hl ⊢
  have hl : lv_has ls 11 [(0, .ref (ga g 148)), (1, .int a1), (2, .int a2), (3, .int a3), (4, .int a4)] := hl
  obtain ⟨⟨hx, hb, hml, hown, hts⟩, -, -⟩ := id X
  unfold m_X6_nextOf at hm
  refine lv_aload_n hx hb dX6_nextOf_0 rfl (lv_at hl 0 rfl) ?_
  refine lv_aload_n hx hb dX6_nextOf_1 rfl (lv_at hl 0 rfl) ?_
  refine xg_X6_18 X hP hAll uX6_nextOf_X6 mbX6_nextOf_1 dX6_nextOf_2 ?_
  refine lv_bipush (v := 9) hx hb dX6_nextOf_5 (by decide) ?_
  refine x_iald X hP (okc_162 hAll) (show inb 9 10 = true from rfl) dX6_nextOf_7 ?_
  refine lv_iload_n hx hb dX6_nextOf_8 rfl (lv_at hl 2 rfl) ?_
  refine lv_iload_n hx hb dX6_nextOf_9 rfl (lv_at hl 1 rfl) ?_
  refine lv_isub hx hb dX6_nextOf_10 ?_
  obtain ⟨r_2, hc_1, hm⟩ := bind_elim hm
  refine x_calli (x_runV (As := [.int (rd M 162 (ix 9)), .int (a2 - a1)]) (rest := []) X hP hS (c_X6_less l X.2.2 hc_1) (cwV 2 hts gX6_nextOf_X6_less rfl rfl rfl (by decide +kernel) ⟨Nat.le_of_ble_eq_true rfl, Nat.le_of_ble_eq_true rfl⟩) (x_recv (C := RX6) (T := TX6) (N := 55) X hP (okc_148 hAll) rfl) rfl hl.1 rfl (Nat.le_of_ble_eq_true rfl) dX6_nextOf_11 ⟨Nat.zero_le _, Nat.zero_le _⟩) hS (fun H locs hP hS => ?_)
  refine lv_istore (lv' := [(5, .int r_2), (0, .ref (ga g 148)), (1, .int a1), (2, .int a2), (3, .int a3), (4, .int a4)]) hx hb dX6_nextOf_14 hl (by decide) rfl (fun ls hl => ?_)
  refine lv_aload_n hx hb dX6_nextOf_16 rfl (lv_at hl 1 rfl) ?_
  refine lv_aload_n hx hb dX6_nextOf_17 rfl (lv_at hl 1 rfl) ?_
  refine xg_X6_18 X hP hAll uX6_nextOf_X6 mbX6_nextOf_1 dX6_nextOf_18 ?_
  refine lv_bipush (v := 9) hx hb dX6_nextOf_21 (by decide) ?_
  refine x_iald X hP (okc_162 hAll) (show inb 9 10 = true from rfl) dX6_nextOf_23 ?_
  refine lv_iload_n hx hb dX6_nextOf_24 rfl (lv_at hl 2 rfl) ?_
  obtain ⟨r_4, hc_3, hm⟩ := bind_elim hm
  refine x_calli (x_runV (As := [.int (rd M 162 (ix 9)), .int a1]) (rest := []) X hP hS (c_X6_less l X.2.2 hc_3) (cwV 2 hts gX6_nextOf_X6_less rfl rfl rfl (by decide +kernel) ⟨Nat.le_of_ble_eq_true rfl, Nat.le_of_ble_eq_true rfl⟩) (x_recv (C := RX6) (T := TX6) (N := 55) X hP (okc_148 hAll) rfl) rfl hl.1 rfl (Nat.le_of_ble_eq_true rfl) dX6_nextOf_25 ⟨Nat.zero_le _, Nat.zero_le _⟩) hS (fun H locs hP hS => ?_)
  refine lv_istore (lv' := [(6, .int r_4), (5, .int r_2), (0, .ref (ga g 148)), (1, .int a1), (2, .int a2), (3, .int a3), (4, .int a4)]) hx hb dX6_nextOf_28 hl (by decide) rfl (fun ls hl => ?_)
  refine lv_iload_n hx hb dX6_nextOf_30 rfl (lv_at hl 5 rfl) ?_
  refine lv_i2l (v := a3.toInt64) hx hb dX6_nextOf_31 rfl ?_
  refine lv_iload hx hb dX6_nextOf_32 (lv_at hl 6 rfl) ?_
  refine lv_i2l (v := a4.toInt64) hx hb dX6_nextOf_34 rfl ?_
  refine lv_lmul hx hb dX6_nextOf_35 ?_
  refine lv_aload_n hx hb dX6_nextOf_36 rfl (lv_at hl 2 rfl) ?_
  refine xg_X6_45 X hP hAll uX6_nextOf_X6 mbX6_nextOf_2 dX6_nextOf_37 ?_
  refine lv_iload_n hx hb dX6_nextOf_40 rfl (lv_at hl 5 rfl) ?_
  refine lv_if_le (tgt := 59) hx hb dX6_nextOf_41 (by decide) (fun h_5 => ?_) (fun h_5 => ?_)
  · rw [if_pos h_5] at hm
    exact wj_X6_nextOf_59 X hAll hr hlocks hm hP hS (lv_sub hl [2, 3, 5, 6, 1, 0] rfl)
  · rw [if_neg h_5] at hm
    refine lv_iload hx hb dX6_nextOf_44 (lv_at hl 6 rfl) ?_
    refine lv_if_le (tgt := 59) hx hb dX6_nextOf_46 (by decide) (fun h_24 => ?_) (fun h_24 => ?_)
    · rw [if_pos h_24] at hm
      exact wj_X6_nextOf_59 X hAll hr hlocks hm hP hS (lv_sub hl [2, 3, 5, 6, 1, 0] rfl)
    · rw [if_neg h_24] at hm
      refine lv_iload_n hx hb dX6_nextOf_49 rfl (lv_at hl 3 rfl) ?_
      refine lv_iload hx hb dX6_nextOf_50 (lv_at hl 1 rfl) ?_
      refine lv_iadd hx hb dX6_nextOf_52 ?_
      refine lv_iload hx hb dX6_nextOf_53 (lv_at hl 0 rfl) ?_
      refine lv_isub hx hb dX6_nextOf_55 ?_
      refine lv_goto (tgt := 60) hx hb dX6_nextOf_56 (by decide) ?_
      exact wj_X6_nextOf_60 X hAll hr hlocks hm hP hS (lv_sub hl [2, 3, 5, 6, 1, 0] rfl)

end
