/-! walks: written by wip/whole/gen/gen.py out of the printed names -/
section
variable {p : Program} {l : Launch} {e : Env} {s : State} {m : MethodId} {args : Array Value} {below : List Frame} {meth : Method} {c : Code} {Q : State → Prop} {g : GT}
/-! X0_digit -/
def rmX0_digit : Room := { frames := 0, cells := 0, slots := 0, locals := 0 }
theorem uX0_digit_X4 : ∀ w ∈ wsX40, w ∈ wsX0_digit := by decide +kernel
theorem mbX0_digit_1 : Cond.fieldLink RX0 50 "FootANight$Ring" "n" "I" ∈ wsX0_digit := by decide +kernel
set_option maxHeartbeats 4000000 in
set_option maxRecDepth 100000 in
theorem c_X0_digit (l : Launch) {g : GT} (hA : AxG g) {r0 : Nat} (okr0 : okRing g r0) {M : Mem} {a1 : Int32} {a2 : Int32} {rr : Int32} (hm : m_X0_digit r0 M a1 a2 = some rr) : CI l yX0_digit wsX0_digit rmX0_digit g [.ref (ga g r0), .int a1, .int a2] M rr M := by
  refine Met.ofW (cc := cX0_digit) (maxL := 3) (ret := (some .int)) (by decide) rfl ?_
  intro p e s m args below meth c s₁ B hml hv
  obtain ⟨rfl, hSx, hP⟩ := hv
  have hr := B.returns
  have hlocks := B.notSynchronized
  have X : CxG g p s m _ c cX0_digit 3 RX0 wsX0_digit := ⟨⟨B.exec, B.bytes, hml, findClass_of_methodNamed B.named, atoms_spec (ws := wsX0_digit) B.pre⟩, hSx, hA⟩
  have hS : va_S (AbG g) s.heap s.heap [] := va_S.rf
  have hl := lv_entry (([.ref (ga g r0), .int a1, .int a2] : List Value)) (n := 3) (Nat.le_of_ble_eq_true rfl)
  rw [lg_entry_eq]
  generalize (lg_sl (([.ref (ga g r0), .int a1, .int a2] : List Value)) ++ List.replicate (3 - (lg_sl (([.ref (ga g r0), .int a1, .int a2] : List Value))).length) Slot.unset).toArray = ls at hl ⊢
  have hl : lv_has ls 3 [(0, .ref (ga g r0)), (1, .int a1), (2, .int a2)] := hl
  obtain ⟨⟨hx, hb, hml, hown, hts⟩, -, -⟩ := id X
  unfold m_X0_digit at hm
  refine lv_iload_n hx hb dX0_digit_0 rfl (lv_at hl 1 rfl) ?_
  refine lv_iconst (v := 2) hx hb dX0_digit_1 (by decide) ?_
  refine lv_aload_n hx hb dX0_digit_2 rfl (lv_at hl 0 rfl) ?_
  refine xg_X4_0 X hP okr0 uX0_digit_X4 mbX0_digit_1 dX0_digit_3 ?_
  refine lv_iconst (v := 1) hx hb dX0_digit_6 (by decide) ?_
  refine lv_isub hx hb dX0_digit_7 ?_
  refine lv_iload_n hx hb dX0_digit_8 rfl (lv_at hl 2 rfl) ?_
  refine lv_isub hx hb dX0_digit_9 ?_
  refine lv_imul hx hb dX0_digit_10 ?_
  refine lv_ishr hx hb dX0_digit_11 ?_
  refine lv_iconst (v := 3) hx hb dX0_digit_12 (by decide) ?_
  refine lv_iand hx hb dX0_digit_13 ?_
  cases hm
  exact x_iret X hP hS hr hlocks dX0_digit_14


/-! X0_canMove -/
def rmX0_canMove : Room := { frames := 0, cells := 0, slots := 0, locals := 0 }
theorem uX0_canMove_X4 : ∀ w ∈ wsX40, w ∈ wsX0_canMove := by decide +kernel
theorem mbX0_canMove_1 : Cond.fieldLink RX0 104 "FootANight$Ring" "stakes" "[[I" ∈ wsX0_canMove := by decide +kernel
theorem mbX0_canMove_2 : Cond.fieldLink RX0 88 "FootANight$Ring" "told" "[I" ∈ wsX0_canMove := by decide +kernel
theorem mbX0_canMove_3 : Cond.fieldLink RX0 85 "FootANight$Ring" "lands" "[[I" ∈ wsX0_canMove := by decide +kernel
set_option maxHeartbeats 4000000 in
set_option maxRecDepth 100000 in
theorem c_X0_canMove (l : Launch) {g : GT} (hA : AxG g) {r0 : Nat} (okr0 : okRing g r0) {M : Mem} {a1 : Int32} {a2 : Int32} {a3 : Int32} {rr : Int32} (hm : m_X0_canMove r0 M a1 a2 a3 = some rr) : CI l yX0_canMove wsX0_canMove rmX0_canMove g [.ref (ga g r0), .int a1, .int a2, .int a3] M rr M := by
  refine Met.ofW (cc := cX0_canMove) (maxL := 4) (ret := (some .boolean)) (by decide) rfl ?_
  intro p e s m args below meth c s₁ B hml hv
  obtain ⟨rfl, hSx, hP⟩ := hv
  have hr := B.returns
  have hlocks := B.notSynchronized
  have X : CxG g p s m _ c cX0_canMove 4 RX0 wsX0_canMove := ⟨⟨B.exec, B.bytes, hml, findClass_of_methodNamed B.named, atoms_spec (ws := wsX0_canMove) B.pre⟩, hSx, hA⟩
  have hS : va_S (AbG g) s.heap s.heap [] := va_S.rf
  have hl := lv_entry (([.ref (ga g r0), .int a1, .int a2, .int a3] : List Value)) (n := 4) (Nat.le_of_ble_eq_true rfl)
  rw [lg_entry_eq]
  generalize (lg_sl (([.ref (ga g r0), .int a1, .int a2, .int a3] : List Value)) ++ List.replicate (4 - (lg_sl (([.ref (ga g r0), .int a1, .int a2, .int a3] : List Value))).length) Slot.unset).toArray = ls at hl ⊢
  have hl : lv_has ls 4 [(0, .ref (ga g r0)), (1, .int a1), (2, .int a2), (3, .int a3)] := hl
  obtain ⟨⟨hx, hb, hml, hown, hts⟩, -, -⟩ := id X
  unfold m_X0_canMove at hm
  refine lv_aload_n hx hb dX0_canMove_0 rfl (lv_at hl 0 rfl) ?_
  refine xg_X4_7 X hP okr0 uX0_canMove_X4 mbX0_canMove_1 dX0_canMove_1 ?_
  refine lv_iload_n hx hb dX0_canMove_4 rfl (lv_at hl 1 rfl) ?_
  obtain ⟨hb_1, hm⟩ := chk_elim hm
  refine x_aaldI X hP okr0.stakes hb_1 dX0_canMove_5 ?_
  refine lv_iconst (v := 0) hx hb dX0_canMove_6 (by decide) ?_
  refine x_iald X hP (okr0.stake (inb_lt hb_1)) (show inb 0 4 = true from rfl) dX0_canMove_7 ?_
  refine lv_if_ne (tgt := 47) hx hb dX0_canMove_8 (by decide) (fun h_2 => ?_) (fun h_2 => ?_)
  · rw [if_neg h_2] at hm
    refine lv_iconst (v := 0) hx hb dX0_canMove_47 (by decide) ?_
    cases hm
    exact x_zret X (by decide) hP hS hr hlocks dX0_canMove_48
  · rw [if_pos h_2] at hm
    refine lv_aload_n hx hb dX0_canMove_11 rfl (lv_at hl 0 rfl) ?_
    refine xg_X4_4 X hP okr0 uX0_canMove_X4 mbX0_canMove_2 dX0_canMove_12 ?_
    refine lv_bipush (v := 9) hx hb dX0_canMove_15 (by decide) ?_
    refine x_iald X hP okr0.told (show inb 9 10 = true from rfl) dX0_canMove_17 ?_
    refine lv_if_le (tgt := 47) hx hb dX0_canMove_18 (by decide) (fun h_3 => ?_) (fun h_3 => ?_)
    · rw [if_pos h_3] at hm
      refine lv_iconst (v := 0) hx hb dX0_canMove_47 (by decide) ?_
      cases hm
      exact x_zret X (by decide) hP hS hr hlocks dX0_canMove_48
    · rw [if_neg h_3] at hm
      refine lv_aload_n hx hb dX0_canMove_21 rfl (lv_at hl 0 rfl) ?_
      refine xg_X4_5 X hP okr0 uX0_canMove_X4 mbX0_canMove_3 dX0_canMove_22 ?_
      refine lv_iload_n hx hb dX0_canMove_25 rfl (lv_at hl 2 rfl) ?_
      obtain ⟨hb_4, hm⟩ := chk_elim hm
      refine x_aaldI X hP okr0.lands hb_4 dX0_canMove_26 ?_
      refine lv_iconst (v := 0) hx hb dX0_canMove_27 (by decide) ?_
      refine x_iald X hP (okr0.land (inb_lt hb_4)) (show inb 0 9 = true from rfl) dX0_canMove_28 ?_
      refine lv_if_le (tgt := 47) hx hb dX0_canMove_29 (by decide) (fun h_5 => ?_) (fun h_5 => ?_)
      · rw [if_pos h_5] at hm
        refine lv_iconst (v := 0) hx hb dX0_canMove_47 (by decide) ?_
        cases hm
        exact x_zret X (by decide) hP hS hr hlocks dX0_canMove_48
      · rw [if_neg h_5] at hm
        refine lv_aload_n hx hb dX0_canMove_32 rfl (lv_at hl 0 rfl) ?_
        refine xg_X4_5 X hP okr0 uX0_canMove_X4 mbX0_canMove_3 dX0_canMove_33 ?_
        refine lv_iload_n hx hb dX0_canMove_36 rfl (lv_at hl 3 rfl) ?_
        obtain ⟨hb_6, hm⟩ := chk_elim hm
        refine x_aaldI X hP okr0.lands hb_6 dX0_canMove_37 ?_
        refine lv_iconst (v := 0) hx hb dX0_canMove_38 (by decide) ?_
        refine x_iald X hP (okr0.land (inb_lt hb_6)) (show inb 0 9 = true from rfl) dX0_canMove_39 ?_
        refine lv_if_le (tgt := 47) hx hb dX0_canMove_40 (by decide) (fun h_7 => ?_) (fun h_7 => ?_)
        · rw [if_pos h_7] at hm
          refine lv_iconst (v := 0) hx hb dX0_canMove_47 (by decide) ?_
          cases hm
          exact x_zret X (by decide) hP hS hr hlocks dX0_canMove_48
        · rw [if_neg h_7] at hm
          refine lv_iconst (v := 1) hx hb dX0_canMove_43 (by decide) ?_
          refine lv_goto (tgt := 48) hx hb dX0_canMove_44 (by decide) ?_
          cases hm
          exact x_zret X (by decide) hP hS hr hlocks dX0_canMove_48


/-! X0_chance -/
def rmX0_chance : Room := { frames := 0, cells := 0, slots := 0, locals := 0 }
theorem uX0_chance_X4 : ∀ w ∈ wsX40, w ∈ wsX0_chance := by decide +kernel
theorem mbX0_chance_1 : Cond.fieldLink RX0 85 "FootANight$Ring" "lands" "[[I" ∈ wsX0_chance := by decide +kernel
theorem mbX0_chance_2 : Cond.fieldLink RX0 104 "FootANight$Ring" "stakes" "[[I" ∈ wsX0_chance := by decide +kernel
theorem mbX0_chance_3 : Cond.fieldLink RX0 88 "FootANight$Ring" "told" "[I" ∈ wsX0_chance := by decide +kernel
set_option maxHeartbeats 4000000 in
set_option maxRecDepth 100000 in
theorem wj_X0_chance_47 (X : CxG g p s m args c cX0_chance 6 RX0 wsX0_chance) {r0 : Nat} (okr0 : okRing g r0) {M : Mem} {s1 : Int32} {s4 : Int32} {rr : Int32} (hr : meth.sig.returnType = (some .int)) (hlocks : meth.locks = false) (hm : j_X0_chance_47 r0 M s1 s4 = some rr) {H : Heap} {locs : List Loc} {ls : Array Slot} (hP : va_P (gD g) vwCl (wlG g M) H) (hS : va_S (AbG g) s.heap H locs) (hl : lv_has ls 6 [(0, .ref (ga g r0)), (1, .int s1), (4, .int s4)]) : W p l e (headSpec wsX0_chance rmX0_chance).room s m args below meth c H locs 0 0 (MQ below (va_Qi (fun (q : Int32) (_ : Unit) => q = rr) (fun _ t => va_P (gD g) vwCl (wlG g M) t.heap) (AbG g)) args s 0 0 (AbG g)) (F0 m 47 ls []) := by
  obtain ⟨⟨hx, hb, hml, hown, hts⟩, -, -⟩ := id X
  unfold j_X0_chance_47 at hm
  refine lv_iconst (v := 1) hx hb dX0_chance_47 (by decide) ?_
  refine lv_aload_n hx hb dX0_chance_48 rfl (lv_at hl 0 rfl) ?_
  refine xg_X4_7 X hP okr0 uX0_chance_X4 mbX0_chance_2 dX0_chance_49 ?_
  refine lv_iload_n hx hb dX0_chance_52 rfl (lv_at hl 1 rfl) ?_
  obtain ⟨hb_4, hm⟩ := chk_elim hm
  refine x_aaldI X hP okr0.stakes hb_4 dX0_chance_53 ?_
  refine lv_iconst (v := 1) hx hb dX0_chance_54 (by decide) ?_
  refine x_iald X hP (okr0.stake (inb_lt hb_4)) (show inb 1 4 = true from rfl) dX0_chance_55 ?_
  refine lv_iadd hx hb dX0_chance_56 ?_
  obtain ⟨v_5, hv_6, hm⟩ := bnd_elim hm
  refine x_name hv_6 ?_
  refine lv_istore (lv' := [(5, .int v_5), (0, .ref (ga g r0)), (1, .int s1), (4, .int s4)]) hx hb dX0_chance_57 hl (by decide) rfl (fun ls hl => ?_)
  refine lv_iload hx hb dX0_chance_59 (lv_at hl 0 rfl) ?_
  refine lv_iconst (v := 1) hx hb dX0_chance_61 (by decide) ?_
  refine lv_icmp_le (tgt := 73) hx hb dX0_chance_62 (by decide) (fun h_7 => ?_) (fun h_7 => ?_)
  · rw [if_pos h_7] at hm
    refine lv_iload hx hb dX0_chance_73 (lv_at hl 3 rfl) ?_
    cases hm
    exact x_iret X hP hS hr hlocks dX0_chance_75
  · rw [if_neg h_7] at hm
    refine lv_iload hx hb dX0_chance_65 (lv_at hl 3 rfl) ?_
    refine lv_iload hx hb dX0_chance_67 (lv_at hl 0 rfl) ?_
    obtain ⟨hz_8, hm⟩ := chk_elim hm
    refine lv_idiv hx hb dX0_chance_69 (nz_of hz_8) ?_
    refine lv_goto (tgt := 75) hx hb dX0_chance_70 (by decide) ?_
    cases hm
    exact x_iret X hP hS hr hlocks dX0_chance_75

set_option maxHeartbeats 4000000 in
set_option maxRecDepth 100000 in
theorem c_X0_chance (l : Launch) {g : GT} (hA : AxG g) {r0 : Nat} (okr0 : okRing g r0) {M : Mem} {a1 : Int32} {a2 : Int32} {a3 : Int32} {rr : Int32} (hm : m_X0_chance r0 M a1 a2 a3 = some rr) : CI l yX0_chance wsX0_chance rmX0_chance g [.ref (ga g r0), .int a1, .int a2, .int a3] M rr M := by
  refine Met.ofW (cc := cX0_chance) (maxL := 6) (ret := (some .int)) (by decide) rfl ?_
  intro p e s m args below meth c s₁ B hml hv
  obtain ⟨rfl, hSx, hP⟩ := hv
  have hr := B.returns
  have hlocks := B.notSynchronized
  have X : CxG g p s m _ c cX0_chance 6 RX0 wsX0_chance := ⟨⟨B.exec, B.bytes, hml, findClass_of_methodNamed B.named, atoms_spec (ws := wsX0_chance) B.pre⟩, hSx, hA⟩
  have hS : va_S (AbG g) s.heap s.heap [] := va_S.rf
  have hl := lv_entry (([.ref (ga g r0), .int a1, .int a2, .int a3] : List Value)) (n := 6) (Nat.le_of_ble_eq_true rfl)
  rw [lg_entry_eq]
  generalize (lg_sl (([.ref (ga g r0), .int a1, .int a2, .int a3] : List Value)) ++ List.replicate (6 - (lg_sl (([.ref (ga g r0), .int a1, .int a2, .int a3] : List Value))).length) Slot.unset).toArray = ls at hl ⊢
  have hl : lv_has ls 6 [(0, .ref (ga g r0)), (1, .int a1), (2, .int a2), (3, .int a3)] := hl
  obtain ⟨⟨hx, hb, hml, hown, hts⟩, -, -⟩ := id X
  unfold m_X0_chance at hm
  refine lv_sipush (v := 1000) hx hb dX0_chance_0 (by decide) ?_
  refine lv_istore (lv' := [(4, .int 1000), (0, .ref (ga g r0)), (1, .int a1), (2, .int a2), (3, .int a3)]) hx hb dX0_chance_3 hl (by decide) rfl (fun ls hl => ?_)
  refine lv_iload_n hx hb dX0_chance_5 rfl (lv_at hl 4 rfl) ?_
  refine lv_if_eq (tgt := 24) hx hb dX0_chance_6 (by decide) (fun h_1 => ?_) (fun h_1 => ?_)
  · rw [if_pos h_1] at hm
    refine lv_aload_n hx hb dX0_chance_24 rfl (lv_at hl 1 rfl) ?_
    refine xg_X4_5 X hP okr0 uX0_chance_X4 mbX0_chance_1 dX0_chance_25 ?_
    refine lv_iload_n hx hb dX0_chance_28 rfl (lv_at hl 3 rfl) ?_
    obtain ⟨hb_2, hm⟩ := chk_elim hm
    refine x_aaldI X hP okr0.lands hb_2 dX0_chance_29 ?_
    refine lv_iconst (v := 3) hx hb dX0_chance_30 (by decide) ?_
    refine x_iald X hP (okr0.land (inb_lt hb_2)) (show inb 3 9 = true from rfl) dX0_chance_31 ?_
    refine lv_if_eq (tgt := 47) hx hb dX0_chance_32 (by decide) (fun h_3 => ?_) (fun h_3 => ?_)
    · rw [if_pos h_3] at hm
      exact wj_X0_chance_47 X okr0 hr hlocks hm hP hS (lv_sub hl [1, 2, 0] rfl)
    · rw [if_neg h_3] at hm
      refine lv_iload hx hb dX0_chance_35 (lv_at hl 0 rfl) ?_
      refine lv_aload_n hx hb dX0_chance_37 rfl (lv_at hl 1 rfl) ?_
      refine xg_X4_4 X hP okr0 uX0_chance_X4 mbX0_chance_3 dX0_chance_38 ?_
      refine lv_bipush (v := 8) hx hb dX0_chance_41 (by decide) ?_
      refine x_iald X hP okr0.told (show inb 8 10 = true from rfl) dX0_chance_43 ?_
      refine lv_isub hx hb dX0_chance_44 ?_
      obtain ⟨v_9, hv_10, hm⟩ := bnd_elim hm
      refine x_name hv_10 ?_
      refine lv_istore (lv' := [(4, .int v_9), (0, .ref (ga g r0)), (1, .int a1), (2, .int a2), (3, .int a3)]) hx hb dX0_chance_45 hl (by decide) rfl (fun ls hl => ?_)
      exact wj_X0_chance_47 X okr0 hr hlocks hm hP hS (lv_sub hl [1, 2, 0] rfl)
  · rw [if_neg h_1] at hm
    refine lv_iload hx hb dX0_chance_9 (lv_at hl 0 rfl) ?_
    refine lv_aload_n hx hb dX0_chance_11 rfl (lv_at hl 1 rfl) ?_
    refine xg_X4_4 X hP okr0 uX0_chance_X4 mbX0_chance_3 dX0_chance_12 ?_
    refine lv_bipush (v := 7) hx hb dX0_chance_15 (by decide) ?_
    refine x_iald X hP okr0.told (show inb 7 10 = true from rfl) dX0_chance_17 ?_
    refine lv_isub hx hb dX0_chance_18 ?_
    obtain ⟨v_11, hv_12, hm⟩ := bnd_elim hm
    refine x_name hv_12 ?_
    refine lv_istore (lv' := [(4, .int v_11), (0, .ref (ga g r0)), (1, .int a1), (2, .int a2), (3, .int a3)]) hx hb dX0_chance_19 hl (by decide) rfl (fun ls hl => ?_)
    refine lv_goto (tgt := 47) hx hb dX0_chance_21 (by decide) ?_
    exact wj_X0_chance_47 X okr0 hr hlocks hm hP hS (lv_sub hl [1, 2, 0] rfl)


/-! X0_gain -/
def rmX0_gain : Room := { frames := 2, cells := 0, slots := 0, locals := 42 }
theorem uX0_gain_X4 : ∀ w ∈ wsX40, w ∈ wsX0_gain := by decide +kernel
theorem mbX0_gain_1 : Cond.fieldLink RX0 85 "FootANight$Ring" "lands" "[[I" ∈ wsX0_gain := by decide +kernel
theorem mbX0_gain_2 : Cond.fieldLink RX0 88 "FootANight$Ring" "told" "[I" ∈ wsX0_gain := by decide +kernel
theorem mbX0_gain_3 : Cond.methodLink RX0 92 Lib.Math.min.name ∈ wsX0_gain := by decide +kernel
theorem mbX0_gain_4 : Cond.static Lib.Math.min.name ∈ wsX0_gain := by decide +kernel
theorem mbX0_gain_5 : Cond.initialized "java/lang/Math" ∈ wsX0_gain := by decide +kernel
theorem mbX0_gain_6 : Cond.code Lib.Math.min.name Lib.Math.min.code 2 (some .int) ∈ wsX0_gain := by decide +kernel
set_option maxHeartbeats 4000000 in
set_option maxRecDepth 100000 in
theorem c_X0_gain (l : Launch) {g : GT} (hA : AxG g) {r0 : Nat} (okr0 : okRing g r0) {M : Mem} {a1 : Int32} {a2 : Int32} {a3 : Int32} {a4 : Int32} {rr : Int32} (hm : m_X0_gain r0 M a1 a2 a3 a4 = some rr) : CI l yX0_gain wsX0_gain rmX0_gain g [.ref (ga g r0), .int a1, .int a2, .int a3, .int a4] M rr M := by
  refine Met.ofW (cc := cX0_gain) (maxL := 8) (ret := (some .int)) (by decide) rfl ?_
  intro p e s m args below meth c s₁ B hml hv
  obtain ⟨rfl, hSx, hP⟩ := hv
  have hr := B.returns
  have hlocks := B.notSynchronized
  have X : CxG g p s m _ c cX0_gain 8 RX0 wsX0_gain := ⟨⟨B.exec, B.bytes, hml, findClass_of_methodNamed B.named, atoms_spec (ws := wsX0_gain) B.pre⟩, hSx, hA⟩
  have hS : va_S (AbG g) s.heap s.heap [] := va_S.rf
  have hl := lv_entry (([.ref (ga g r0), .int a1, .int a2, .int a3, .int a4] : List Value)) (n := 8) (Nat.le_of_ble_eq_true rfl)
  rw [lg_entry_eq]
  generalize (lg_sl (([.ref (ga g r0), .int a1, .int a2, .int a3, .int a4] : List Value)) ++ List.replicate (8 - (lg_sl (([.ref (ga g r0), .int a1, .int a2, .int a3, .int a4] : List Value))).length) Slot.unset).toArray = ls at hl ⊢
  have hl : lv_has ls 8 [(0, .ref (ga g r0)), (1, .int a1), (2, .int a2), (3, .int a3), (4, .int a4)] := hl
  obtain ⟨⟨hx, hb, hml, hown, hts⟩, -, -⟩ := id X
  unfold m_X0_gain at hm
  refine lv_aload_n hx hb dX0_gain_0 rfl (lv_at hl 0 rfl) ?_
  refine lv_iload_n hx hb dX0_gain_1 rfl (lv_at hl 1 rfl) ?_
  refine lv_iload_n hx hb dX0_gain_2 rfl (lv_at hl 2 rfl) ?_
  refine lv_iload_n hx hb dX0_gain_3 rfl (lv_at hl 3 rfl) ?_
  obtain ⟨r_2, hc_1, hm⟩ := bind_elim hm
  refine x_calli (x_runS (As := [.ref (ga g r0), .int a1, .int a2, .int a3]) (rest := []) X hP hS (c_X0_canMove l X.2.2 okr0 hc_1) (va_cwS 4 hts gX0_gain_X0_canMove rfl rfl rfl (by decide +kernel) ⟨Nat.le_of_ble_eq_true rfl, Nat.le_of_ble_eq_true rfl⟩) rfl hl.1 rfl (Nat.le_of_ble_eq_true rfl) dX0_gain_4 ⟨Nat.zero_le _, Nat.zero_le _⟩) hS (fun H locs hP hS => ?_)
  refine lv_if_ne (tgt := 12) hx hb dX0_gain_7 (by decide) (fun h_3 => ?_) (fun h_3 => ?_)
  · rw [if_neg h_3] at hm
    refine lv_aload_n hx hb dX0_gain_12 rfl (lv_at hl 0 rfl) ?_
    refine xg_X4_5 X hP okr0 uX0_gain_X4 mbX0_gain_1 dX0_gain_13 ?_
    refine lv_iload_n hx hb dX0_gain_16 rfl (lv_at hl 2 rfl) ?_
    obtain ⟨hb_4, hm⟩ := chk_elim hm
    refine x_aaldI X hP okr0.lands hb_4 dX0_gain_17 ?_
    refine lv_iconst (v := 0) hx hb dX0_gain_18 (by decide) ?_
    refine x_iald X hP (okr0.land (inb_lt hb_4)) (show inb 0 9 = true from rfl) dX0_gain_19 ?_
    obtain ⟨v_5, hv_6, hm⟩ := bnd_elim hm
    refine x_name hv_6 ?_
    refine lv_istore (lv' := [(5, .int v_5), (0, .ref (ga g r0)), (1, .int a1), (2, .int a2), (3, .int a3), (4, .int a4)]) hx hb dX0_gain_20 hl (by decide) rfl (fun ls hl => ?_)
    refine lv_aload_n hx hb dX0_gain_22 rfl (lv_at hl 1 rfl) ?_
    refine xg_X4_4 X hP okr0 uX0_gain_X4 mbX0_gain_2 dX0_gain_23 ?_
    refine lv_bipush (v := 9) hx hb dX0_gain_26 (by decide) ?_
    refine x_iald X hP okr0.told (show inb 9 10 = true from rfl) dX0_gain_28 ?_
    refine lv_aload_n hx hb dX0_gain_29 rfl (lv_at hl 1 rfl) ?_
    refine xg_X4_5 X hP okr0 uX0_gain_X4 mbX0_gain_1 dX0_gain_30 ?_
    refine lv_iload_n hx hb dX0_gain_33 rfl (lv_at hl 4 rfl) ?_
    obtain ⟨hb_7, hm⟩ := chk_elim hm
    refine x_aaldI X hP okr0.lands hb_7 dX0_gain_34 ?_
    refine lv_iconst (v := 0) hx hb dX0_gain_35 (by decide) ?_
    refine x_iald X hP (okr0.land (inb_lt hb_7)) (show inb 0 9 = true from rfl) dX0_gain_36 ?_
    refine va_mmin hx hb (hml.trans hl.1.symm) hown (hts _ mbX0_gain_3) (hts _ mbX0_gain_4) (hts _ mbX0_gain_5) (hts _ mbX0_gain_6) (Nat.le_of_ble_eq_true rfl) (Nat.le_of_ble_eq_true rfl) (Nat.zero_le _) (Nat.zero_le _) dX0_gain_37 ?_
    obtain ⟨v_8, hv_9, hm⟩ := bnd_elim hm
    refine x_name hv_9 ?_
    refine lv_istore (lv' := [(6, .int v_8), (5, .int v_5), (0, .ref (ga g r0)), (1, .int a1), (2, .int a2), (3, .int a3), (4, .int a4)]) hx hb dX0_gain_40 hl (by decide) rfl (fun ls hl => ?_)
    refine lv_aload_n hx hb dX0_gain_42 rfl (lv_at hl 2 rfl) ?_
    refine lv_iload_n hx hb dX0_gain_43 rfl (lv_at hl 3 rfl) ?_
    refine lv_iload_n hx hb dX0_gain_44 rfl (lv_at hl 5 rfl) ?_
    refine lv_iload hx hb dX0_gain_45 (lv_at hl 6 rfl) ?_
    obtain ⟨r_11, hc_10, hm⟩ := bind_elim hm
    refine x_calli (x_runS (As := [.ref (ga g r0), .int a1, .int a3, .int a4]) (rest := []) X hP hS (c_X0_chance l X.2.2 okr0 hc_10) (va_cwS 4 hts gX0_gain_X0_chance rfl rfl rfl (by decide +kernel) ⟨Nat.le_of_ble_eq_true rfl, Nat.le_of_ble_eq_true rfl⟩) rfl hl.1 rfl (Nat.le_of_ble_eq_true rfl) dX0_gain_47 ⟨Nat.zero_le _, Nat.zero_le _⟩) hS (fun H locs hP hS => ?_)
    refine lv_istore (lv' := [(7, .int r_11), (6, .int v_8), (5, .int v_5), (0, .ref (ga g r0)), (1, .int a1), (2, .int a2), (3, .int a3), (4, .int a4)]) hx hb dX0_gain_50 hl (by decide) rfl (fun ls hl => ?_)
    refine lv_iload hx hb dX0_gain_52 (lv_at hl 0 rfl) ?_
    refine lv_aload_n hx hb dX0_gain_54 rfl (lv_at hl 3 rfl) ?_
    refine lv_iload hx hb dX0_gain_55 (lv_at hl 2 rfl) ?_
    refine lv_iload hx hb dX0_gain_57 (lv_at hl 1 rfl) ?_
    refine lv_iadd hx hb dX0_gain_59 ?_
    obtain ⟨r_13, hc_12, hm⟩ := bind_elim hm
    refine x_calli (x_runV (As := [.int (v_5 + v_8)]) (rest := [.int r_11]) X hP hS (c_X4_worthOf l X.2.2 okr0 hc_12) (cwV 1 hts gX0_gain_X4_worthOf rfl rfl rfl (by decide +kernel) ⟨Nat.le_of_ble_eq_true rfl, Nat.le_of_ble_eq_true rfl⟩) (x_recv (C := RX4) (T := TX4) (N := 12) X hP okr0.obj rfl) rfl hl.1 rfl (Nat.le_of_ble_eq_true rfl) dX0_gain_60 ⟨Nat.zero_le _, Nat.zero_le _⟩) hS (fun H locs hP hS => ?_)
    refine lv_aload_n hx hb dX0_gain_63 rfl (lv_at hl 3 rfl) ?_
    refine lv_iload hx hb dX0_gain_64 (lv_at hl 2 rfl) ?_
    obtain ⟨r_15, hc_14, hm⟩ := bind_elim hm
    refine x_calli (x_runV (As := [.int v_5]) (rest := [.int r_13, .int r_11]) X hP hS (c_X4_worthOf l X.2.2 okr0 hc_14) (cwV 1 hts gX0_gain_X4_worthOf rfl rfl rfl (by decide +kernel) ⟨Nat.le_of_ble_eq_true rfl, Nat.le_of_ble_eq_true rfl⟩) (x_recv (C := RX4) (T := TX4) (N := 12) X hP okr0.obj rfl) rfl hl.1 rfl (Nat.le_of_ble_eq_true rfl) dX0_gain_66 ⟨Nat.zero_le _, Nat.zero_le _⟩) hS (fun H locs hP hS => ?_)
    refine lv_isub hx hb dX0_gain_69 ?_
    refine lv_imul hx hb dX0_gain_70 ?_
    refine lv_sipush (v := 1000) hx hb dX0_gain_71 (by decide) ?_
    refine lv_iload hx hb dX0_gain_74 (lv_at hl 0 rfl) ?_
    refine lv_isub hx hb dX0_gain_76 ?_
    refine lv_aload_n hx hb dX0_gain_77 rfl (lv_at hl 3 rfl) ?_
    refine xg_X4_4 X hP okr0 uX0_gain_X4 mbX0_gain_2 dX0_gain_78 ?_
    refine lv_bipush (v := 6) hx hb dX0_gain_81 (by decide) ?_
    refine x_iald X hP okr0.told (show inb 6 10 = true from rfl) dX0_gain_83 ?_
    refine lv_imul hx hb dX0_gain_84 ?_
    refine lv_isub hx hb dX0_gain_85 ?_
    cases hm
    exact x_iret X hP hS hr hlocks dX0_gain_86
  · rw [if_pos h_3] at hm
    refine lv_iconst (v := 0) hx hb dX0_gain_10 (by decide) ?_
    cases hm
    exact x_iret X hP hS hr hlocks dX0_gain_11


/-! X0_loss -/
def rmX0_loss : Room := { frames := 2, cells := 0, slots := 0, locals := 42 }
theorem uX0_loss_X4 : ∀ w ∈ wsX40, w ∈ wsX0_loss := by decide +kernel
theorem mbX0_loss_1 : Cond.fieldLink RX0 85 "FootANight$Ring" "lands" "[[I" ∈ wsX0_loss := by decide +kernel
theorem mbX0_loss_2 : Cond.fieldLink RX0 88 "FootANight$Ring" "told" "[I" ∈ wsX0_loss := by decide +kernel
theorem mbX0_loss_3 : Cond.methodLink RX0 92 Lib.Math.min.name ∈ wsX0_loss := by decide +kernel
theorem mbX0_loss_4 : Cond.static Lib.Math.min.name ∈ wsX0_loss := by decide +kernel
theorem mbX0_loss_5 : Cond.initialized "java/lang/Math" ∈ wsX0_loss := by decide +kernel
theorem mbX0_loss_6 : Cond.code Lib.Math.min.name Lib.Math.min.code 2 (some .int) ∈ wsX0_loss := by decide +kernel
set_option maxHeartbeats 4000000 in
set_option maxRecDepth 100000 in
theorem c_X0_loss (l : Launch) {g : GT} (hA : AxG g) {r0 : Nat} (okr0 : okRing g r0) {M : Mem} {a1 : Int32} {a2 : Int32} {a3 : Int32} {a4 : Int32} {rr : Int32} (hm : m_X0_loss r0 M a1 a2 a3 a4 = some rr) : CI l yX0_loss wsX0_loss rmX0_loss g [.ref (ga g r0), .int a1, .int a2, .int a3, .int a4] M rr M := by
  refine Met.ofW (cc := cX0_loss) (maxL := 7) (ret := (some .int)) (by decide) rfl ?_
  intro p e s m args below meth c s₁ B hml hv
  obtain ⟨rfl, hSx, hP⟩ := hv
  have hr := B.returns
  have hlocks := B.notSynchronized
  have X : CxG g p s m _ c cX0_loss 7 RX0 wsX0_loss := ⟨⟨B.exec, B.bytes, hml, findClass_of_methodNamed B.named, atoms_spec (ws := wsX0_loss) B.pre⟩, hSx, hA⟩
  have hS : va_S (AbG g) s.heap s.heap [] := va_S.rf
  have hl := lv_entry (([.ref (ga g r0), .int a1, .int a2, .int a3, .int a4] : List Value)) (n := 7) (Nat.le_of_ble_eq_true rfl)
  rw [lg_entry_eq]
  generalize (lg_sl (([.ref (ga g r0), .int a1, .int a2, .int a3, .int a4] : List Value)) ++ List.replicate (7 - (lg_sl (([.ref (ga g r0), .int a1, .int a2, .int a3, .int a4] : List Value))).length) Slot.unset).toArray = ls at hl ⊢
  have hl : lv_has ls 7 [(0, .ref (ga g r0)), (1, .int a1), (2, .int a2), (3, .int a3), (4, .int a4)] := hl
  obtain ⟨⟨hx, hb, hml, hown, hts⟩, -, -⟩ := id X
  unfold m_X0_loss at hm
  refine lv_aload_n hx hb dX0_loss_0 rfl (lv_at hl 0 rfl) ?_
  refine lv_iload_n hx hb dX0_loss_1 rfl (lv_at hl 1 rfl) ?_
  refine lv_iload_n hx hb dX0_loss_2 rfl (lv_at hl 2 rfl) ?_
  refine lv_iload_n hx hb dX0_loss_3 rfl (lv_at hl 3 rfl) ?_
  obtain ⟨r_2, hc_1, hm⟩ := bind_elim hm
  refine x_calli (x_runS (As := [.ref (ga g r0), .int a1, .int a2, .int a3]) (rest := []) X hP hS (c_X0_canMove l X.2.2 okr0 hc_1) (va_cwS 4 hts gX0_loss_X0_canMove rfl rfl rfl (by decide +kernel) ⟨Nat.le_of_ble_eq_true rfl, Nat.le_of_ble_eq_true rfl⟩) rfl hl.1 rfl (Nat.le_of_ble_eq_true rfl) dX0_loss_4 ⟨Nat.zero_le _, Nat.zero_le _⟩) hS (fun H locs hP hS => ?_)
  refine lv_if_ne (tgt := 12) hx hb dX0_loss_7 (by decide) (fun h_3 => ?_) (fun h_3 => ?_)
  · rw [if_neg h_3] at hm
    refine lv_aload_n hx hb dX0_loss_12 rfl (lv_at hl 0 rfl) ?_
    refine xg_X4_5 X hP okr0 uX0_loss_X4 mbX0_loss_1 dX0_loss_13 ?_
    refine lv_iload_n hx hb dX0_loss_16 rfl (lv_at hl 2 rfl) ?_
    obtain ⟨hb_4, hm⟩ := chk_elim hm
    refine x_aaldI X hP okr0.lands hb_4 dX0_loss_17 ?_
    refine lv_iconst (v := 0) hx hb dX0_loss_18 (by decide) ?_
    refine x_iald X hP (okr0.land (inb_lt hb_4)) (show inb 0 9 = true from rfl) dX0_loss_19 ?_
    obtain ⟨v_5, hv_6, hm⟩ := bnd_elim hm
    refine x_name hv_6 ?_
    refine lv_istore (lv' := [(5, .int v_5), (0, .ref (ga g r0)), (1, .int a1), (2, .int a2), (3, .int a3), (4, .int a4)]) hx hb dX0_loss_20 hl (by decide) rfl (fun ls hl => ?_)
    refine lv_aload_n hx hb dX0_loss_22 rfl (lv_at hl 1 rfl) ?_
    refine xg_X4_4 X hP okr0 uX0_loss_X4 mbX0_loss_2 dX0_loss_23 ?_
    refine lv_bipush (v := 9) hx hb dX0_loss_26 (by decide) ?_
    refine x_iald X hP okr0.told (show inb 9 10 = true from rfl) dX0_loss_28 ?_
    refine lv_iload hx hb dX0_loss_29 (lv_at hl 0 rfl) ?_
    refine va_mmin hx hb (hml.trans hl.1.symm) hown (hts _ mbX0_loss_3) (hts _ mbX0_loss_4) (hts _ mbX0_loss_5) (hts _ mbX0_loss_6) (Nat.le_of_ble_eq_true rfl) (Nat.le_of_ble_eq_true rfl) (Nat.zero_le _) (Nat.zero_le _) dX0_loss_31 ?_
    obtain ⟨v_7, hv_8, hm⟩ := bnd_elim hm
    refine x_name hv_8 ?_
    refine lv_istore (lv' := [(6, .int v_7), (5, .int v_5), (0, .ref (ga g r0)), (1, .int a1), (2, .int a2), (3, .int a3), (4, .int a4)]) hx hb dX0_loss_34 hl (by decide) rfl (fun ls hl => ?_)
    refine lv_aload_n hx hb dX0_loss_36 rfl (lv_at hl 2 rfl) ?_
    refine lv_iload_n hx hb dX0_loss_37 rfl (lv_at hl 3 rfl) ?_
    refine lv_iload_n hx hb dX0_loss_38 rfl (lv_at hl 4 rfl) ?_
    refine lv_iload hx hb dX0_loss_39 (lv_at hl 6 rfl) ?_
    obtain ⟨r_10, hc_9, hm⟩ := bind_elim hm
    refine x_calli (x_runS (As := [.ref (ga g r0), .int a1, .int a2, .int a4]) (rest := []) X hP hS (c_X0_chance l X.2.2 okr0 hc_9) (va_cwS 4 hts gX0_loss_X0_chance rfl rfl rfl (by decide +kernel) ⟨Nat.le_of_ble_eq_true rfl, Nat.le_of_ble_eq_true rfl⟩) rfl hl.1 rfl (Nat.le_of_ble_eq_true rfl) dX0_loss_41 ⟨Nat.zero_le _, Nat.zero_le _⟩) hS (fun H locs hP hS => ?_)
    refine lv_aload_n hx hb dX0_loss_44 rfl (lv_at hl 2 rfl) ?_
    refine lv_iload hx hb dX0_loss_45 (lv_at hl 1 rfl) ?_
    obtain ⟨r_12, hc_11, hm⟩ := bind_elim hm
    refine x_calli (x_runV (As := [.int v_5]) (rest := [.int r_10]) X hP hS (c_X4_worthOf l X.2.2 okr0 hc_11) (cwV 1 hts gX0_loss_X4_worthOf rfl rfl rfl (by decide +kernel) ⟨Nat.le_of_ble_eq_true rfl, Nat.le_of_ble_eq_true rfl⟩) (x_recv (C := RX4) (T := TX4) (N := 12) X hP okr0.obj rfl) rfl hl.1 rfl (Nat.le_of_ble_eq_true rfl) dX0_loss_47 ⟨Nat.zero_le _, Nat.zero_le _⟩) hS (fun H locs hP hS => ?_)
    refine lv_aload_n hx hb dX0_loss_50 rfl (lv_at hl 2 rfl) ?_
    refine lv_iload hx hb dX0_loss_51 (lv_at hl 1 rfl) ?_
    refine lv_iload hx hb dX0_loss_53 (lv_at hl 0 rfl) ?_
    refine lv_isub hx hb dX0_loss_55 ?_
    obtain ⟨r_14, hc_13, hm⟩ := bind_elim hm
    refine x_calli (x_runV (As := [.int (v_5 - v_7)]) (rest := [.int r_12, .int r_10]) X hP hS (c_X4_worthOf l X.2.2 okr0 hc_13) (cwV 1 hts gX0_loss_X4_worthOf rfl rfl rfl (by decide +kernel) ⟨Nat.le_of_ble_eq_true rfl, Nat.le_of_ble_eq_true rfl⟩) (x_recv (C := RX4) (T := TX4) (N := 12) X hP okr0.obj rfl) rfl hl.1 rfl (Nat.le_of_ble_eq_true rfl) dX0_loss_56 ⟨Nat.zero_le _, Nat.zero_le _⟩) hS (fun H locs hP hS => ?_)
    refine lv_isub hx hb dX0_loss_59 ?_
    refine lv_imul hx hb dX0_loss_60 ?_
    cases hm
    exact x_iret X hP hS hr hlocks dX0_loss_61
  · rw [if_pos h_3] at hm
    refine lv_iconst (v := 0) hx hb dX0_loss_10 (by decide) ?_
    cases hm
    exact x_iret X hP hS hr hlocks dX0_loss_11


/-! X0_mean -/
def rmX0_mean : Room := { frames := 3, cells := 0, slots := 0, locals := 69 }

set_option maxHeartbeats 4000000 in
set_option maxRecDepth 100000 in
theorem wj_X0_mean_138 (X : CxG g p s m args c cX0_mean 7 RX0 wsX0_mean) {r0 : Nat} (okr0 : okRing g r0) {M : Mem} {t0 : Int32} {t2 : Int32} {t3 : Int32} {t4 : Int32} {t5 : Int32} {rr : Int32} (hr : meth.sig.returnType = (some .int)) (hlocks : meth.locks = false) (hm : j_X0_mean_138 r0 M t0 t2 t3 t4 t5 = some rr) {H : Heap} {locs : List Loc} {ls : Array Slot} (hP : va_P (gD g) vwCl (wlG g M) H) (hS : va_S (AbG g) s.heap H locs) (hl : lv_has ls 7 []) : W p l e (headSpec wsX0_mean rmX0_mean).room s m args below meth c H locs 0 0 (MQ below (va_Qi (fun (q : Int32) (_ : Unit) => q = rr) (fun _ t => va_P (gD g) vwCl (wlG g M) t.heap) (AbG g)) args s 0 0 (AbG g)) (F0 m 138 ls [.int t5, .int t4, .int t3, .int t2, .ref (ga g r0), .int t0]) := by
  obtain ⟨⟨hx, hb, hml, hown, hts⟩, -, -⟩ := id X
  unfold j_X0_mean_138 at hm
  obtain ⟨r_15, hc_14, hm⟩ := bind_elim hm
  refine x_calli (x_runS (As := [.ref (ga g r0), .int t2, .int t3, .int t4, .int t5]) (rest := [.int t0]) X hP hS (c_X0_loss l X.2.2 okr0 hc_14) (va_cwS 5 hts gX0_mean_X0_loss rfl rfl rfl (by decide +kernel) ⟨Nat.le_of_ble_eq_true rfl, Nat.le_of_ble_eq_true rfl⟩) rfl hl.1 rfl (Nat.le_of_ble_eq_true rfl) dX0_mean_138 ⟨Nat.zero_le _, Nat.zero_le _⟩) hS (fun H locs hP hS => ?_)
  refine lv_isub hx hb dX0_mean_141 ?_
  obtain ⟨v_16, hv_17, hm⟩ := bnd_elim hm
  refine x_name hv_17 ?_
  refine lv_istore (lv' := [(5, .int v_16)]) hx hb dX0_mean_142 hl (by decide) rfl (fun ls hl => ?_)
  refine lv_iload hx hb dX0_mean_144 (lv_at hl 0 rfl) ?_
  cases hm
  exact x_iret X hP hS hr hlocks dX0_mean_146

set_option maxHeartbeats 4000000 in
set_option maxRecDepth 100000 in
theorem wj_X0_mean_112 (X : CxG g p s m args c cX0_mean 7 RX0 wsX0_mean) {r0 : Nat} (okr0 : okRing g r0) {M : Mem} {s1 : Int32} {s3 : Int32} {s4 : Int32} {s5 : Int32} {rr : Int32} (hr : meth.sig.returnType = (some .int)) (hlocks : meth.locks = false) (hm : j_X0_mean_112 r0 M s1 s3 s4 s5 = some rr) {H : Heap} {locs : List Loc} {ls : Array Slot} (hP : va_P (gD g) vwCl (wlG g M) H) (hS : va_S (AbG g) s.heap H locs) (hl : lv_has ls 7 [(0, .ref (ga g r0)), (1, .int s1), (3, .int s3), (4, .int s4), (5, .int s5)]) : W p l e (headSpec wsX0_mean rmX0_mean).room s m args below meth c H locs 0 0 (MQ below (va_Qi (fun (q : Int32) (_ : Unit) => q = rr) (fun _ t => va_P (gD g) vwCl (wlG g M) t.heap) (AbG g)) args s 0 0 (AbG g)) (F0 m 112 ls []) := by
  obtain ⟨⟨hx, hb, hml, hown, hts⟩, -, -⟩ := id X
  unfold j_X0_mean_112 at hm
  refine lv_iload hx hb dX0_mean_112 (lv_at hl 3 rfl) ?_
  refine lv_iconst (v := 2) hx hb dX0_mean_114 (by decide) ?_
  refine lv_icmp_ne (tgt := 144) hx hb dX0_mean_115 (by decide) (fun h_10 => ?_) (fun h_10 => ?_)
  · rw [if_neg h_10] at hm
    refine lv_iload hx hb dX0_mean_144 (lv_at hl 4 rfl) ?_
    cases hm
    exact x_iret X hP hS hr hlocks dX0_mean_146
  · rw [if_pos h_10] at hm
    refine lv_iload hx hb dX0_mean_118 (lv_at hl 4 rfl) ?_
    refine lv_aload_n hx hb dX0_mean_120 rfl (lv_at hl 0 rfl) ?_
    refine lv_iload_n hx hb dX0_mean_121 rfl (lv_at hl 1 rfl) ?_
    refine lv_iload_n hx hb dX0_mean_122 rfl (lv_at hl 1 rfl) ?_
    refine lv_aload_n hx hb dX0_mean_123 rfl (lv_at hl 0 rfl) ?_
    refine lv_iload_n hx hb dX0_mean_124 rfl (lv_at hl 1 rfl) ?_
    obtain ⟨r_12, hc_11, hm⟩ := bind_elim hm
    refine x_calli (x_runV (As := [.int s1]) (rest := [.int s1, .int s1, .ref (ga g r0), .int s5]) X hP hS (c_X4_rightOf l X.2.2 okr0 hc_11) (cwV 1 hts gX0_mean_X4_rightOf rfl rfl rfl (by decide +kernel) ⟨Nat.le_of_ble_eq_true rfl, Nat.le_of_ble_eq_true rfl⟩) (x_recv (C := RX4) (T := TX4) (N := 12) X hP okr0.obj rfl) rfl hl.1 rfl (Nat.le_of_ble_eq_true rfl) dX0_mean_125 ⟨Nat.zero_le _, Nat.zero_le _⟩) hS (fun H locs hP hS => ?_)
    refine lv_iload_n hx hb dX0_mean_128 rfl (lv_at hl 2 rfl) ?_
    refine lv_iconst (v := 1) hx hb dX0_mean_129 (by decide) ?_
    refine lv_icmp_ne (tgt := 137) hx hb dX0_mean_130 (by decide) (fun h_13 => ?_) (fun h_13 => ?_)
    · rw [if_neg h_13] at hm
      refine lv_iconst (v := 0) hx hb dX0_mean_137 (by decide) ?_
      exact wj_X0_mean_138 X okr0 hr hlocks hm hP hS (lv_sub hl [] rfl)
    · rw [if_pos h_13] at hm
      refine lv_iconst (v := 1) hx hb dX0_mean_133 (by decide) ?_
      refine lv_goto (tgt := 138) hx hb dX0_mean_134 (by decide) ?_
      exact wj_X0_mean_138 X okr0 hr hlocks hm hP hS (lv_sub hl [] rfl)

set_option maxHeartbeats 4000000 in
set_option maxRecDepth 100000 in
theorem wj_X0_mean_106 (X : CxG g p s m args c cX0_mean 7 RX0 wsX0_mean) {r0 : Nat} (okr0 : okRing g r0) {M : Mem} {s1 : Int32} {s3 : Int32} {s4 : Int32} {t0 : Int32} {t2 : Int32} {t3 : Int32} {t4 : Int32} {t5 : Int32} {rr : Int32} (hr : meth.sig.returnType = (some .int)) (hlocks : meth.locks = false) (hm : j_X0_mean_106 r0 M s1 s3 s4 t0 t2 t3 t4 t5 = some rr) {H : Heap} {locs : List Loc} {ls : Array Slot} (hP : va_P (gD g) vwCl (wlG g M) H) (hS : va_S (AbG g) s.heap H locs) (hl : lv_has ls 7 [(0, .ref (ga g r0)), (1, .int s1), (3, .int s3), (4, .int s4)]) : W p l e (headSpec wsX0_mean rmX0_mean).room s m args below meth c H locs 0 0 (MQ below (va_Qi (fun (q : Int32) (_ : Unit) => q = rr) (fun _ t => va_P (gD g) vwCl (wlG g M) t.heap) (AbG g)) args s 0 0 (AbG g)) (F0 m 106 ls [.int t5, .int t4, .int t3, .int t2, .ref (ga g r0), .int t0]) := by
  obtain ⟨⟨hx, hb, hml, hown, hts⟩, -, -⟩ := id X
  unfold j_X0_mean_106 at hm
  obtain ⟨r_20, hc_19, hm⟩ := bind_elim hm
  refine x_calli (x_runS (As := [.ref (ga g r0), .int t2, .int t3, .int t4, .int t5]) (rest := [.int t0]) X hP hS (c_X0_loss l X.2.2 okr0 hc_19) (va_cwS 5 hts gX0_mean_X0_loss rfl rfl rfl (by decide +kernel) ⟨Nat.le_of_ble_eq_true rfl, Nat.le_of_ble_eq_true rfl⟩) rfl hl.1 rfl (Nat.le_of_ble_eq_true rfl) dX0_mean_106 ⟨Nat.zero_le _, Nat.zero_le _⟩) hS (fun H locs hP hS => ?_)
  refine lv_isub hx hb dX0_mean_109 ?_
  obtain ⟨v_21, hv_22, hm⟩ := bnd_elim hm
  refine x_name hv_22 ?_
  refine lv_istore (lv' := [(5, .int v_21), (0, .ref (ga g r0)), (1, .int s1), (3, .int s3), (4, .int s4)]) hx hb dX0_mean_110 hl (by decide) rfl (fun ls hl => ?_)
  exact wj_X0_mean_112 X okr0 hr hlocks hm hP hS (lv_sub hl [1, 2, 3, 4, 0] rfl)

set_option maxHeartbeats 4000000 in
set_option maxRecDepth 100000 in
theorem wj_X0_mean_83 (X : CxG g p s m args c cX0_mean 7 RX0 wsX0_mean) {r0 : Nat} (okr0 : okRing g r0) {M : Mem} {s1 : Int32} {s2 : Int32} {s3 : Int32} {s4 : Int32} {s5 : Int32} {s6 : Int32} {rr : Int32} (hr : meth.sig.returnType = (some .int)) (hlocks : meth.locks = false) (hm : j_X0_mean_83 r0 M s1 s2 s3 s4 s5 s6 = some rr) {H : Heap} {locs : List Loc} {ls : Array Slot} (hP : va_P (gD g) vwCl (wlG g M) H) (hS : va_S (AbG g) s.heap H locs) (hl : lv_has ls 7 [(0, .ref (ga g r0)), (1, .int s1), (2, .int s2), (3, .int s3), (4, .int s4), (5, .int s5), (6, .int s6)]) : W p l e (headSpec wsX0_mean rmX0_mean).room s m args below meth c H locs 0 0 (MQ below (va_Qi (fun (q : Int32) (_ : Unit) => q = rr) (fun _ t => va_P (gD g) vwCl (wlG g M) t.heap) (AbG g)) args s 0 0 (AbG g)) (F0 m 83 ls []) := by
  obtain ⟨⟨hx, hb, hml, hown, hts⟩, -, -⟩ := id X
  unfold j_X0_mean_83 at hm
  refine lv_iload_n hx hb dX0_mean_83 rfl (lv_at hl 2 rfl) ?_
  refine lv_iconst (v := 3) hx hb dX0_mean_84 (by decide) ?_
  refine lv_icmp_ne (tgt := 112) hx hb dX0_mean_85 (by decide) (fun h_9 => ?_) (fun h_9 => ?_)
  · rw [if_neg h_9] at hm
    exact wj_X0_mean_112 X okr0 hr hlocks hm hP hS (lv_sub hl [0, 1, 3, 4, 5] rfl)
  · rw [if_pos h_9] at hm
    refine lv_iload hx hb dX0_mean_88 (lv_at hl 5 rfl) ?_
    refine lv_aload_n hx hb dX0_mean_90 rfl (lv_at hl 0 rfl) ?_
    refine lv_iload hx hb dX0_mean_91 (lv_at hl 6 rfl) ?_
    refine lv_iload_n hx hb dX0_mean_93 rfl (lv_at hl 1 rfl) ?_
    refine lv_iload hx hb dX0_mean_94 (lv_at hl 6 rfl) ?_
    refine lv_iload_n hx hb dX0_mean_96 rfl (lv_at hl 3 rfl) ?_
    refine lv_iconst (v := 1) hx hb dX0_mean_97 (by decide) ?_
    refine lv_icmp_ne (tgt := 105) hx hb dX0_mean_98 (by decide) (fun h_18 => ?_) (fun h_18 => ?_)
    · rw [if_neg h_18] at hm
      refine lv_iconst (v := 0) hx hb dX0_mean_105 (by decide) ?_
      exact wj_X0_mean_106 X okr0 hr hlocks hm hP hS (lv_sub hl [0, 1, 3, 4] rfl)
    · rw [if_pos h_18] at hm
      refine lv_iconst (v := 1) hx hb dX0_mean_101 (by decide) ?_
      refine lv_goto (tgt := 106) hx hb dX0_mean_102 (by decide) ?_
      exact wj_X0_mean_106 X okr0 hr hlocks hm hP hS (lv_sub hl [0, 1, 3, 4] rfl)

set_option maxHeartbeats 4000000 in
set_option maxRecDepth 100000 in
theorem wj_X0_mean_77 (X : CxG g p s m args c cX0_mean 7 RX0 wsX0_mean) {r0 : Nat} (okr0 : okRing g r0) {M : Mem} {s1 : Int32} {s2 : Int32} {s3 : Int32} {s4 : Int32} {s6 : Int32} {t0 : Int32} {t2 : Int32} {t3 : Int32} {t4 : Int32} {t5 : Int32} {rr : Int32} (hr : meth.sig.returnType = (some .int)) (hlocks : meth.locks = false) (hm : j_X0_mean_77 r0 M s1 s2 s3 s4 s6 t0 t2 t3 t4 t5 = some rr) {H : Heap} {locs : List Loc} {ls : Array Slot} (hP : va_P (gD g) vwCl (wlG g M) H) (hS : va_S (AbG g) s.heap H locs) (hl : lv_has ls 7 [(0, .ref (ga g r0)), (1, .int s1), (2, .int s2), (3, .int s3), (4, .int s4), (6, .int s6)]) : W p l e (headSpec wsX0_mean rmX0_mean).room s m args below meth c H locs 0 0 (MQ below (va_Qi (fun (q : Int32) (_ : Unit) => q = rr) (fun _ t => va_P (gD g) vwCl (wlG g M) t.heap) (AbG g)) args s 0 0 (AbG g)) (F0 m 77 ls [.int t5, .int t4, .int t3, .int t2, .ref (ga g r0), .int t0]) := by
  obtain ⟨⟨hx, hb, hml, hown, hts⟩, -, -⟩ := id X
  unfold j_X0_mean_77 at hm
  obtain ⟨r_27, hc_26, hm⟩ := bind_elim hm
  refine x_calli (x_runS (As := [.ref (ga g r0), .int t2, .int t3, .int t4, .int t5]) (rest := [.int t0]) X hP hS (c_X0_gain l X.2.2 okr0 hc_26) (va_cwS 5 hts gX0_mean_X0_gain rfl rfl rfl (by decide +kernel) ⟨Nat.le_of_ble_eq_true rfl, Nat.le_of_ble_eq_true rfl⟩) rfl hl.1 rfl (Nat.le_of_ble_eq_true rfl) dX0_mean_77 ⟨Nat.zero_le _, Nat.zero_le _⟩) hS (fun H locs hP hS => ?_)
  refine lv_iadd hx hb dX0_mean_80 ?_
  obtain ⟨v_28, hv_29, hm⟩ := bnd_elim hm
  refine x_name hv_29 ?_
  refine lv_istore (lv' := [(5, .int v_28), (0, .ref (ga g r0)), (1, .int s1), (2, .int s2), (3, .int s3), (4, .int s4), (6, .int s6)]) hx hb dX0_mean_81 hl (by decide) rfl (fun ls hl => ?_)
  exact wj_X0_mean_83 X okr0 hr hlocks hm hP hS (lv_sub hl [1, 2, 3, 4, 5, 0, 6] rfl)

set_option maxHeartbeats 4000000 in
set_option maxRecDepth 100000 in
theorem wj_X0_mean_42 (X : CxG g p s m args c cX0_mean 7 RX0 wsX0_mean) {r0 : Nat} (okr0 : okRing g r0) {M : Mem} {s1 : Int32} {s2 : Int32} {s3 : Int32} {s4 : Int32} {s6 : Int32} {t0 : Int32} {t2 : Int32} {t3 : Int32} {t4 : Int32} {t5 : Int32} {rr : Int32} (hr : meth.sig.returnType = (some .int)) (hlocks : meth.locks = false) (hm : j_X0_mean_42 r0 M s1 s2 s3 s4 s6 t0 t2 t3 t4 t5 = some rr) {H : Heap} {locs : List Loc} {ls : Array Slot} (hP : va_P (gD g) vwCl (wlG g M) H) (hS : va_S (AbG g) s.heap H locs) (hl : lv_has ls 7 [(0, .ref (ga g r0)), (1, .int s1), (2, .int s2), (3, .int s3), (4, .int s4), (6, .int s6)]) : W p l e (headSpec wsX0_mean rmX0_mean).room s m args below meth c H locs 0 0 (MQ below (va_Qi (fun (q : Int32) (_ : Unit) => q = rr) (fun _ t => va_P (gD g) vwCl (wlG g M) t.heap) (AbG g)) args s 0 0 (AbG g)) (F0 m 42 ls [.int t5, .int t4, .int t3, .int t2, .ref (ga g r0), .int t0]) := by
  obtain ⟨⟨hx, hb, hml, hown, hts⟩, -, -⟩ := id X
  unfold j_X0_mean_42 at hm
  obtain ⟨r_32, hc_31, hm⟩ := bind_elim hm
  refine x_calli (x_runS (As := [.ref (ga g r0), .int t2, .int t3, .int t4, .int t5]) (rest := [.int t0]) X hP hS (c_X0_gain l X.2.2 okr0 hc_31) (va_cwS 5 hts gX0_mean_X0_gain rfl rfl rfl (by decide +kernel) ⟨Nat.le_of_ble_eq_true rfl, Nat.le_of_ble_eq_true rfl⟩) rfl hl.1 rfl (Nat.le_of_ble_eq_true rfl) dX0_mean_42 ⟨Nat.zero_le _, Nat.zero_le _⟩) hS (fun H locs hP hS => ?_)
  refine lv_iadd hx hb dX0_mean_45 ?_
  obtain ⟨v_33, hv_34, hm⟩ := bnd_elim hm
  refine x_name hv_34 ?_
  refine lv_istore (lv' := [(5, .int v_33), (0, .ref (ga g r0)), (1, .int s1), (2, .int s2), (3, .int s3), (4, .int s4), (6, .int s6)]) hx hb dX0_mean_46 hl (by decide) rfl (fun ls hl => ?_)
  refine lv_goto (tgt := 83) hx hb dX0_mean_48 (by decide) ?_
  exact wj_X0_mean_83 X okr0 hr hlocks hm hP hS (lv_sub hl [1, 2, 3, 4, 5, 0, 6] rfl)

set_option maxHeartbeats 4000000 in
set_option maxRecDepth 100000 in
theorem c_X0_mean (l : Launch) {g : GT} (hA : AxG g) {r0 : Nat} (okr0 : okRing g r0) {M : Mem} {a1 : Int32} {a2 : Int32} {a3 : Int32} {a4 : Int32} {rr : Int32} (hm : m_X0_mean r0 M a1 a2 a3 a4 = some rr) : CI l yX0_mean wsX0_mean rmX0_mean g [.ref (ga g r0), .int a1, .int a2, .int a3, .int a4] M rr M := by
  refine Met.ofW (cc := cX0_mean) (maxL := 7) (ret := (some .int)) (by decide) rfl ?_
  intro p e s m args below meth c s₁ B hml hv
  obtain ⟨rfl, hSx, hP⟩ := hv
  have hr := B.returns
  have hlocks := B.notSynchronized
  have X : CxG g p s m _ c cX0_mean 7 RX0 wsX0_mean := ⟨⟨B.exec, B.bytes, hml, findClass_of_methodNamed B.named, atoms_spec (ws := wsX0_mean) B.pre⟩, hSx, hA⟩
  have hS : va_S (AbG g) s.heap s.heap [] := va_S.rf
  have hl := lv_entry (([.ref (ga g r0), .int a1, .int a2, .int a3, .int a4] : List Value)) (n := 7) (Nat.le_of_ble_eq_true rfl)
  rw [lg_entry_eq]
  generalize (lg_sl (([.ref (ga g r0), .int a1, .int a2, .int a3, .int a4] : List Value)) ++ List.replicate (7 - (lg_sl (([.ref (ga g r0), .int a1, .int a2, .int a3, .int a4] : List Value))).length) Slot.unset).toArray = ls at hl ⊢
  have hl : lv_has ls 7 [(0, .ref (ga g r0)), (1, .int a1), (2, .int a2), (3, .int a3), (4, .int a4)] := hl
  obtain ⟨⟨hx, hb, hml, hown, hts⟩, -, -⟩ := id X
  unfold m_X0_mean at hm
  refine lv_sipush (v := (-1000)) hx hb dX0_mean_0 (by decide) ?_
  refine lv_aload_n hx hb dX0_mean_3 rfl (lv_at hl 0 rfl) ?_
  refine lv_iload_n hx hb dX0_mean_4 rfl (lv_at hl 1 rfl) ?_
  refine lv_iload_n hx hb dX0_mean_5 rfl (lv_at hl 3 rfl) ?_
  obtain ⟨r_2, hc_1, hm⟩ := bind_elim hm
  refine x_calli (x_runV (As := [.int a1, .int a3]) (rest := [.int (-1000)]) X hP hS (c_X4_costOf l X.2.2 okr0 hc_1) (cwV 2 hts gX0_mean_X4_costOf rfl rfl rfl (by decide +kernel) ⟨Nat.le_of_ble_eq_true rfl, Nat.le_of_ble_eq_true rfl⟩) (x_recv (C := RX4) (T := TX4) (N := 12) X hP okr0.obj rfl) rfl hl.1 rfl (Nat.le_of_ble_eq_true rfl) dX0_mean_6 ⟨Nat.zero_le _, Nat.zero_le _⟩) hS (fun H locs hP hS => ?_)
  refine lv_imul hx hb dX0_mean_9 ?_
  obtain ⟨v_3, hv_4, hm⟩ := bnd_elim hm
  refine x_name hv_4 ?_
  refine lv_istore (lv' := [(5, .int v_3), (0, .ref (ga g r0)), (1, .int a1), (2, .int a2), (3, .int a3), (4, .int a4)]) hx hb dX0_mean_10 hl (by decide) rfl (fun ls hl => ?_)
  refine lv_aload_n hx hb dX0_mean_12 rfl (lv_at hl 1 rfl) ?_
  refine lv_iload_n hx hb dX0_mean_13 rfl (lv_at hl 2 rfl) ?_
  obtain ⟨r_6, hc_5, hm⟩ := bind_elim hm
  refine x_calli (x_runV (As := [.int a1]) (rest := []) X hP hS (c_X4_leftOf l X.2.2 okr0 hc_5) (cwV 1 hts gX0_mean_X4_leftOf rfl rfl rfl (by decide +kernel) ⟨Nat.le_of_ble_eq_true rfl, Nat.le_of_ble_eq_true rfl⟩) (x_recv (C := RX4) (T := TX4) (N := 12) X hP okr0.obj rfl) rfl hl.1 rfl (Nat.le_of_ble_eq_true rfl) dX0_mean_14 ⟨Nat.zero_le _, Nat.zero_le _⟩) hS (fun H locs hP hS => ?_)
  refine lv_istore (lv' := [(6, .int r_6), (5, .int v_3), (0, .ref (ga g r0)), (1, .int a1), (2, .int a2), (3, .int a3), (4, .int a4)]) hx hb dX0_mean_17 hl (by decide) rfl (fun ls hl => ?_)
  refine lv_iload_n hx hb dX0_mean_19 rfl (lv_at hl 5 rfl) ?_
  refine lv_iconst (v := 2) hx hb dX0_mean_20 (by decide) ?_
  refine lv_icmp_ne (tgt := 51) hx hb dX0_mean_21 (by decide) (fun h_7 => ?_) (fun h_7 => ?_)
  · rw [if_neg h_7] at hm
    refine lv_iload_n hx hb dX0_mean_51 rfl (lv_at hl 5 rfl) ?_
    refine lv_iconst (v := 3) hx hb dX0_mean_52 (by decide) ?_
    refine lv_icmp_ne (tgt := 83) hx hb dX0_mean_53 (by decide) (fun h_8 => ?_) (fun h_8 => ?_)
    · rw [if_neg h_8] at hm
      exact wj_X0_mean_83 X okr0 hr hlocks hm hP hS (lv_sub hl [2, 3, 4, 5, 6, 1, 0] rfl)
    · rw [if_pos h_8] at hm
      refine lv_iload hx hb dX0_mean_56 (lv_at hl 1 rfl) ?_
      refine lv_aload_n hx hb dX0_mean_58 rfl (lv_at hl 2 rfl) ?_
      refine lv_iload_n hx hb dX0_mean_59 rfl (lv_at hl 3 rfl) ?_
      refine lv_iload_n hx hb dX0_mean_60 rfl (lv_at hl 3 rfl) ?_
      refine lv_aload_n hx hb dX0_mean_61 rfl (lv_at hl 2 rfl) ?_
      refine lv_iload_n hx hb dX0_mean_62 rfl (lv_at hl 3 rfl) ?_
      obtain ⟨r_24, hc_23, hm⟩ := bind_elim hm
      refine x_calli (x_runV (As := [.int a1]) (rest := [.int a1, .int a1, .ref (ga g r0), .int v_3]) X hP hS (c_X4_rightOf l X.2.2 okr0 hc_23) (cwV 1 hts gX0_mean_X4_rightOf rfl rfl rfl (by decide +kernel) ⟨Nat.le_of_ble_eq_true rfl, Nat.le_of_ble_eq_true rfl⟩) (x_recv (C := RX4) (T := TX4) (N := 12) X hP okr0.obj rfl) rfl hl.1 rfl (Nat.le_of_ble_eq_true rfl) dX0_mean_63 ⟨Nat.zero_le _, Nat.zero_le _⟩) hS (fun H locs hP hS => ?_)
      refine lv_iload hx hb dX0_mean_66 (lv_at hl 6 rfl) ?_
      refine lv_iconst (v := 1) hx hb dX0_mean_68 (by decide) ?_
      refine lv_icmp_ne (tgt := 76) hx hb dX0_mean_69 (by decide) (fun h_25 => ?_) (fun h_25 => ?_)
      · rw [if_neg h_25] at hm
        refine lv_iconst (v := 0) hx hb dX0_mean_76 (by decide) ?_
        exact wj_X0_mean_77 X okr0 hr hlocks hm hP hS (lv_sub hl [2, 3, 4, 5, 6, 0] rfl)
      · rw [if_pos h_25] at hm
        refine lv_iconst (v := 1) hx hb dX0_mean_72 (by decide) ?_
        refine lv_goto (tgt := 77) hx hb dX0_mean_73 (by decide) ?_
        exact wj_X0_mean_77 X okr0 hr hlocks hm hP hS (lv_sub hl [2, 3, 4, 5, 6, 0] rfl)
  · rw [if_pos h_7] at hm
    refine lv_iload hx hb dX0_mean_24 (lv_at hl 1 rfl) ?_
    refine lv_aload_n hx hb dX0_mean_26 rfl (lv_at hl 2 rfl) ?_
    refine lv_iload hx hb dX0_mean_27 (lv_at hl 0 rfl) ?_
    refine lv_iload_n hx hb dX0_mean_29 rfl (lv_at hl 3 rfl) ?_
    refine lv_iload hx hb dX0_mean_30 (lv_at hl 0 rfl) ?_
    refine lv_iload_n hx hb dX0_mean_32 rfl (lv_at hl 4 rfl) ?_
    refine lv_iconst (v := 1) hx hb dX0_mean_33 (by decide) ?_
    refine lv_icmp_ne (tgt := 41) hx hb dX0_mean_34 (by decide) (fun h_30 => ?_) (fun h_30 => ?_)
    · rw [if_neg h_30] at hm
      refine lv_iconst (v := 0) hx hb dX0_mean_41 (by decide) ?_
      exact wj_X0_mean_42 X okr0 hr hlocks hm hP hS (lv_sub hl [2, 3, 4, 5, 6, 0] rfl)
    · rw [if_pos h_30] at hm
      refine lv_iconst (v := 1) hx hb dX0_mean_37 (by decide) ?_
      refine lv_goto (tgt := 42) hx hb dX0_mean_38 (by decide) ?_
      exact wj_X0_mean_42 X okr0 hr hlocks hm hP hS (lv_sub hl [2, 3, 4, 5, 6, 0] rfl)


/-! X0_meanInRow -/
def rmX0_meanInRow : Room := { frames := 4, cells := 0, slots := 0, locals := 95 }

set_option maxHeartbeats 4000000 in
set_option maxRecDepth 100000 in
theorem c_X0_meanInRow (l : Launch) {g : GT} (hA : AxG g) {r0 : Nat} (okr0 : okRing g r0) {M : Mem} {a1 : Int32} {a2 : Int32} {rr : Int32} (hm : m_X0_meanInRow r0 M a1 a2 = some rr) : CI l yX0_meanInRow wsX0_meanInRow rmX0_meanInRow g [.ref (ga g r0), .int a1, .int a2] M rr M := by
  refine Met.ofW (cc := cX0_meanInRow) (maxL := 3) (ret := (some .int)) (by decide) rfl ?_
  intro p e s m args below meth c s₁ B hml hv
  obtain ⟨rfl, hSx, hP⟩ := hv
  have hr := B.returns
  have hlocks := B.notSynchronized
  have X : CxG g p s m _ c cX0_meanInRow 3 RX0 wsX0_meanInRow := ⟨⟨B.exec, B.bytes, hml, findClass_of_methodNamed B.named, atoms_spec (ws := wsX0_meanInRow) B.pre⟩, hSx, hA⟩
  have hS : va_S (AbG g) s.heap s.heap [] := va_S.rf
  have hl := lv_entry (([.ref (ga g r0), .int a1, .int a2] : List Value)) (n := 3) (Nat.le_of_ble_eq_true rfl)
  rw [lg_entry_eq]
  generalize (lg_sl (([.ref (ga g r0), .int a1, .int a2] : List Value)) ++ List.replicate (3 - (lg_sl (([.ref (ga g r0), .int a1, .int a2] : List Value))).length) Slot.unset).toArray = ls at hl ⊢
  have hl : lv_has ls 3 [(0, .ref (ga g r0)), (1, .int a1), (2, .int a2)] := hl
  obtain ⟨⟨hx, hb, hml, hown, hts⟩, -, -⟩ := id X
  unfold m_X0_meanInRow at hm
  refine lv_aload_n hx hb dX0_meanInRow_0 rfl (lv_at hl 0 rfl) ?_
  refine lv_iload_n hx hb dX0_meanInRow_1 rfl (lv_at hl 2 rfl) ?_
  refine lv_aload_n hx hb dX0_meanInRow_2 rfl (lv_at hl 0 rfl) ?_
  refine lv_iload_n hx hb dX0_meanInRow_3 rfl (lv_at hl 1 rfl) ?_
  refine lv_aload_n hx hb dX0_meanInRow_4 rfl (lv_at hl 0 rfl) ?_
  refine lv_iload_n hx hb dX0_meanInRow_5 rfl (lv_at hl 2 rfl) ?_
  obtain ⟨r_2, hc_1, hm⟩ := bind_elim hm
  refine x_calli (x_runV (As := [.int a2]) (rest := [.int a1, .ref (ga g r0), .int a2, .ref (ga g r0)]) X hP hS (c_X4_leftOf l X.2.2 okr0 hc_1) (cwV 1 hts gX0_meanInRow_X4_leftOf rfl rfl rfl (by decide +kernel) ⟨Nat.le_of_ble_eq_true rfl, Nat.le_of_ble_eq_true rfl⟩) (x_recv (C := RX4) (T := TX4) (N := 12) X hP okr0.obj rfl) rfl hl.1 rfl (Nat.le_of_ble_eq_true rfl) dX0_meanInRow_6 ⟨Nat.zero_le _, Nat.zero_le _⟩) hS (fun H locs hP hS => ?_)
  obtain ⟨r_4, hc_3, hm⟩ := bind_elim hm
  refine x_calli (x_runS (As := [.ref (ga g r0), .int a1, .int r_2]) (rest := [.int a2, .ref (ga g r0)]) X hP hS (c_X0_digit l X.2.2 okr0 hc_3) (va_cwS 3 hts gX0_meanInRow_X0_digit rfl rfl rfl (by decide +kernel) ⟨Nat.le_of_ble_eq_true rfl, Nat.le_of_ble_eq_true rfl⟩) rfl hl.1 rfl (Nat.le_of_ble_eq_true rfl) dX0_meanInRow_9 ⟨Nat.zero_le _, Nat.zero_le _⟩) hS (fun H locs hP hS => ?_)
  refine lv_aload_n hx hb dX0_meanInRow_12 rfl (lv_at hl 0 rfl) ?_
  refine lv_iload_n hx hb dX0_meanInRow_13 rfl (lv_at hl 1 rfl) ?_
  refine lv_iload_n hx hb dX0_meanInRow_14 rfl (lv_at hl 2 rfl) ?_
  obtain ⟨r_6, hc_5, hm⟩ := bind_elim hm
  refine x_calli (x_runS (As := [.ref (ga g r0), .int a1, .int a2]) (rest := [.int r_4, .int a2, .ref (ga g r0)]) X hP hS (c_X0_digit l X.2.2 okr0 hc_5) (va_cwS 3 hts gX0_meanInRow_X0_digit rfl rfl rfl (by decide +kernel) ⟨Nat.le_of_ble_eq_true rfl, Nat.le_of_ble_eq_true rfl⟩) rfl hl.1 rfl (Nat.le_of_ble_eq_true rfl) dX0_meanInRow_15 ⟨Nat.zero_le _, Nat.zero_le _⟩) hS (fun H locs hP hS => ?_)
  refine lv_aload_n hx hb dX0_meanInRow_18 rfl (lv_at hl 0 rfl) ?_
  refine lv_iload_n hx hb dX0_meanInRow_19 rfl (lv_at hl 1 rfl) ?_
  refine lv_aload_n hx hb dX0_meanInRow_20 rfl (lv_at hl 0 rfl) ?_
  refine lv_iload_n hx hb dX0_meanInRow_21 rfl (lv_at hl 2 rfl) ?_
  obtain ⟨r_8, hc_7, hm⟩ := bind_elim hm
  refine x_calli (x_runV (As := [.int a2]) (rest := [.int a1, .ref (ga g r0), .int r_6, .int r_4, .int a2, .ref (ga g r0)]) X hP hS (c_X4_rightOf l X.2.2 okr0 hc_7) (cwV 1 hts gX0_meanInRow_X4_rightOf rfl rfl rfl (by decide +kernel) ⟨Nat.le_of_ble_eq_true rfl, Nat.le_of_ble_eq_true rfl⟩) (x_recv (C := RX4) (T := TX4) (N := 12) X hP okr0.obj rfl) rfl hl.1 rfl (Nat.le_of_ble_eq_true rfl) dX0_meanInRow_22 ⟨Nat.zero_le _, Nat.zero_le _⟩) hS (fun H locs hP hS => ?_)
  obtain ⟨r_10, hc_9, hm⟩ := bind_elim hm
  refine x_calli (x_runS (As := [.ref (ga g r0), .int a1, .int r_8]) (rest := [.int r_6, .int r_4, .int a2, .ref (ga g r0)]) X hP hS (c_X0_digit l X.2.2 okr0 hc_9) (va_cwS 3 hts gX0_meanInRow_X0_digit rfl rfl rfl (by decide +kernel) ⟨Nat.le_of_ble_eq_true rfl, Nat.le_of_ble_eq_true rfl⟩) rfl hl.1 rfl (Nat.le_of_ble_eq_true rfl) dX0_meanInRow_25 ⟨Nat.zero_le _, Nat.zero_le _⟩) hS (fun H locs hP hS => ?_)
  obtain ⟨r_12, hc_11, hm⟩ := bind_elim hm
  refine x_calli (x_runS (As := [.ref (ga g r0), .int a2, .int r_4, .int r_6, .int r_10]) (rest := []) X hP hS (c_X0_mean l X.2.2 okr0 hc_11) (va_cwS 5 hts gX0_meanInRow_X0_mean rfl rfl rfl (by decide +kernel) ⟨Nat.le_of_ble_eq_true rfl, Nat.le_of_ble_eq_true rfl⟩) rfl hl.1 rfl (Nat.le_of_ble_eq_true rfl) dX0_meanInRow_28 ⟨Nat.zero_le _, Nat.zero_le _⟩) hS (fun H locs hP hS => ?_)
  cases hm
  exact x_iret X hP hS hr hlocks dX0_meanInRow_31


/-! X0_bestDoing -/
def rmX0_bestDoing : Room := { frames := 4, cells := 0, slots := 0, locals := 95 }

set_option maxHeartbeats 4000000 in
set_option maxRecDepth 100000 in
theorem wl_X0_bestDoing_40 (X : CxG g p s m args c cX0_bestDoing 9 RX0 wsX0_bestDoing) {r0 : Nat} (okr0 : okRing g r0) {fu : Nat} {M : Mem} {s2 : Int32} {s3 : Int32} {s4 : Int32} {x : Int32} (kx0 : ∀ (d5 : Int32) , x = d5 → ∀ (H : Heap) (locs : List Loc) (ls : Array Slot), va_P (gD g) vwCl (wlG g M) H → va_S (AbG g) s.heap H locs → lv_has ls 9 [(5, .int d5)] → W p l e (headSpec wsX0_bestDoing rmX0_bestDoing).room s m args below meth c H locs 0 0 Q (F0 m 79 ls [])) {n : Nat} {q0 : Int32 × Int32 × Int32} (h : lp (b_X0_bestDoing_40 fu r0 M s2 s3 s4) n q0 = some x) : ∀ (H : Heap) (locs : List Loc) (ls : Array Slot), va_P (gD g) vwCl (wlG g M) H → va_S (AbG g) s.heap H locs → lv_has ls 9 [(0, .ref (ga g r0)), (2, .int s2), (3, .int s3), (4, .int s4), (5, .int q0.1), (6, .int q0.2.1), (7, .int q0.2.2)] → W p l e (headSpec wsX0_bestDoing rmX0_bestDoing).room s m args below meth c H locs 0 0 Q (F0 m 40 ls []) := by
  refine lp_elim (P := fun q0 : Int32 × Int32 × Int32 => ∀ (H : Heap) (locs : List Loc) (ls : Array Slot), va_P (gD g) vwCl (wlG g M) H → va_S (AbG g) s.heap H locs → lv_has ls 9 [(0, .ref (ga g r0)), (2, .int s2), (3, .int s3), (4, .int s4), (5, .int q0.1), (6, .int q0.2.1), (7, .int q0.2.2)] → W p l e (headSpec wsX0_bestDoing rmX0_bestDoing).room s m args below meth c H locs 0 0 Q (F0 m 40 ls [])) (fun q1 o hm hI hX => ?_) n q0 h
  obtain ⟨c5, c6, c7⟩ := q1
  have kb : ∀ (d5 : Int32) (d6 : Int32) (d7 : Int32) , o = .inl (d5, d6, d7) → ∀ (H : Heap) (locs : List Loc) (ls : Array Slot), va_P (gD g) vwCl (wlG g M) H → va_S (AbG g) s.heap H locs → lv_has ls 9 [(0, .ref (ga g r0)), (2, .int s2), (3, .int s3), (4, .int s4), (5, .int d5), (6, .int d6), (7, .int d7)] → W p l e (headSpec wsX0_bestDoing rmX0_bestDoing).room s m args below meth c H locs 0 0 Q (F0 m 40 ls []) := fun d5 d6 d7 e => hI _ e
  have kx0 : ∀ (d5 : Int32) , o = .inr d5 → ∀ (H : Heap) (locs : List Loc) (ls : Array Slot), va_P (gD g) vwCl (wlG g M) H → va_S (AbG g) s.heap H locs → lv_has ls 9 [(5, .int d5)] → W p l e (headSpec wsX0_bestDoing rmX0_bestDoing).room s m args below meth c H locs 0 0 Q (F0 m 79 ls []) := fun d5 e => kx0 d5 (hX _ e).symm
  clear hI hX
  intro H locs ls hP hS hl
  obtain ⟨⟨hx, hb, hml, hown, hts⟩, -, -⟩ := id X
  have hl : lv_has ls 9 [(0, .ref (ga g r0)), (2, .int s2), (3, .int s3), (4, .int s4), (5, .int c5), (6, .int c6), (7, .int c7)] := hl
  have hP : va_P (gD g) vwCl (wlG g M) H := hP
  unfold b_X0_bestDoing_40 at hm
  replace hm := un3_e hm
  refine lv_iload hx hb dX0_bestDoing_40 (lv_at hl 6 rfl) ?_
  refine lv_iconst (v := 4) hx hb dX0_bestDoing_42 (by decide) ?_
  refine lv_icmp_ge (tgt := 79) hx hb dX0_bestDoing_43 (by decide) (fun h_11 => ?_) (fun h_11 => ?_)
  · rw [if_pos h_11] at hm
    exact kx0 c5 (Option.some.inj hm).symm _ _ _ hP hS (lv_sub hl [4] rfl)
  · rw [if_neg h_11] at hm
    refine lv_aload_n hx hb dX0_bestDoing_46 rfl (lv_at hl 0 rfl) ?_
    refine lv_iload_n hx hb dX0_bestDoing_47 rfl (lv_at hl 1 rfl) ?_
    refine lv_iload_n hx hb dX0_bestDoing_48 rfl (lv_at hl 2 rfl) ?_
    refine lv_iload hx hb dX0_bestDoing_49 (lv_at hl 6 rfl) ?_
    refine lv_iload hx hb dX0_bestDoing_51 (lv_at hl 3 rfl) ?_
    obtain ⟨r_13, hc_12, hm⟩ := bind_elim hm
    refine x_calli (x_runS (As := [.ref (ga g r0), .int s2, .int s3, .int c7, .int s4]) (rest := []) X hP hS (c_X0_mean l X.2.2 okr0 hc_12) (va_cwS 5 hts gX0_bestDoing_X0_mean rfl rfl rfl (by decide +kernel) ⟨Nat.le_of_ble_eq_true rfl, Nat.le_of_ble_eq_true rfl⟩) rfl hl.1 rfl (Nat.le_of_ble_eq_true rfl) dX0_bestDoing_53 ⟨Nat.zero_le _, Nat.zero_le _⟩) hS (fun H locs hP hS => ?_)
    refine lv_istore (lv' := [(8, .int r_13), (0, .ref (ga g r0)), (2, .int s2), (3, .int s3), (4, .int s4), (5, .int c5), (6, .int c6), (7, .int c7)]) hx hb dX0_bestDoing_56 hl (by decide) rfl (fun ls hl => ?_)
    refine lv_iload hx hb dX0_bestDoing_58 (lv_at hl 0 rfl) ?_
    refine lv_iload hx hb dX0_bestDoing_60 (lv_at hl 6 rfl) ?_
    refine lv_icmp_le (tgt := 73) hx hb dX0_bestDoing_62 (by decide) (fun h_14 => ?_) (fun h_14 => ?_)
    · rw [if_pos h_14] at hm
      obtain ⟨v_15, hv_16, hm⟩ := bnd_elim hm
      refine lv_iinc (v := v_15) (lv' := [(7, .int v_15), (8, .int r_13), (0, .ref (ga g r0)), (2, .int s2), (3, .int s3), (4, .int s4), (5, .int c5), (6, .int c6)]) hx hb dX0_bestDoing_73 hl (k := 7) rfl (by rw [hv_16]; rfl) (by decide) rfl (fun ls hl => ?_)
      refine lv_goto (tgt := 40) hx hb dX0_bestDoing_76 (by decide) ?_
      exact kb c5 c6 v_15 (Option.some.inj hm).symm _ _ _ hP hS (lv_sub hl [2, 3, 4, 5, 6, 7, 0] rfl)
    · rw [if_neg h_14] at hm
      refine lv_iload hx hb dX0_bestDoing_65 (lv_at hl 7 rfl) ?_
      refine lv_istore (lv' := [(5, .int c7), (8, .int r_13), (0, .ref (ga g r0)), (2, .int s2), (3, .int s3), (4, .int s4), (6, .int c6), (7, .int c7)]) hx hb dX0_bestDoing_67 hl (by decide) rfl (fun ls hl => ?_)
      refine lv_iload hx hb dX0_bestDoing_69 (lv_at hl 1 rfl) ?_
      refine lv_istore (lv' := [(6, .int r_13), (5, .int c7), (8, .int r_13), (0, .ref (ga g r0)), (2, .int s2), (3, .int s3), (4, .int s4), (7, .int c7)]) hx hb dX0_bestDoing_71 hl (by decide) rfl (fun ls hl => ?_)
      obtain ⟨v_17, hv_18, hm⟩ := bnd_elim hm
      refine lv_iinc (v := v_17) (lv' := [(7, .int v_17), (6, .int r_13), (5, .int c7), (8, .int r_13), (0, .ref (ga g r0)), (2, .int s2), (3, .int s3), (4, .int s4)]) hx hb dX0_bestDoing_73 hl (k := 7) rfl (by rw [hv_18]; rfl) (by decide) rfl (fun ls hl => ?_)
      refine lv_goto (tgt := 40) hx hb dX0_bestDoing_76 (by decide) ?_
      exact kb c7 r_13 v_17 (Option.some.inj hm).symm _ _ _ hP hS (lv_sub hl [4, 5, 6, 7, 2, 1, 0] rfl)

set_option maxHeartbeats 4000000 in
set_option maxRecDepth 100000 in
theorem c_X0_bestDoing (l : Launch) {g : GT} (hA : AxG g) {r0 : Nat} (okr0 : okRing g r0) {fu : Nat} {M : Mem} {a1 : Int32} {a2 : Int32} {rr : Int32} (hm : m_X0_bestDoing fu r0 M a1 a2 = some rr) : CI l yX0_bestDoing wsX0_bestDoing rmX0_bestDoing g [.ref (ga g r0), .int a1, .int a2] M rr M := by
  refine Met.ofW (cc := cX0_bestDoing) (maxL := 9) (ret := (some .int)) (by decide) rfl ?_
  intro p e s m args below meth c s₁ B hml hv
  obtain ⟨rfl, hSx, hP⟩ := hv
  have hr := B.returns
  have hlocks := B.notSynchronized
  have X : CxG g p s m _ c cX0_bestDoing 9 RX0 wsX0_bestDoing := ⟨⟨B.exec, B.bytes, hml, findClass_of_methodNamed B.named, atoms_spec (ws := wsX0_bestDoing) B.pre⟩, hSx, hA⟩
  have hS : va_S (AbG g) s.heap s.heap [] := va_S.rf
  have hl := lv_entry (([.ref (ga g r0), .int a1, .int a2] : List Value)) (n := 9) (Nat.le_of_ble_eq_true rfl)
  rw [lg_entry_eq]
  generalize (lg_sl (([.ref (ga g r0), .int a1, .int a2] : List Value)) ++ List.replicate (9 - (lg_sl (([.ref (ga g r0), .int a1, .int a2] : List Value))).length) Slot.unset).toArray = ls at hl ⊢
  have hl : lv_has ls 9 [(0, .ref (ga g r0)), (1, .int a1), (2, .int a2)] := hl
  obtain ⟨⟨hx, hb, hml, hown, hts⟩, -, -⟩ := id X
  unfold m_X0_bestDoing at hm
  refine lv_aload_n hx hb dX0_bestDoing_0 rfl (lv_at hl 0 rfl) ?_
  refine lv_iload_n hx hb dX0_bestDoing_1 rfl (lv_at hl 1 rfl) ?_
  refine lv_aload_n hx hb dX0_bestDoing_2 rfl (lv_at hl 0 rfl) ?_
  refine lv_iload_n hx hb dX0_bestDoing_3 rfl (lv_at hl 2 rfl) ?_
  obtain ⟨r_2, hc_1, hm⟩ := bind_elim hm
  refine x_calli (x_runV (As := [.int a2]) (rest := [.int a1, .ref (ga g r0)]) X hP hS (c_X4_leftOf l X.2.2 okr0 hc_1) (cwV 1 hts gX0_bestDoing_X4_leftOf rfl rfl rfl (by decide +kernel) ⟨Nat.le_of_ble_eq_true rfl, Nat.le_of_ble_eq_true rfl⟩) (x_recv (C := RX4) (T := TX4) (N := 12) X hP okr0.obj rfl) rfl hl.1 rfl (Nat.le_of_ble_eq_true rfl) dX0_bestDoing_4 ⟨Nat.zero_le _, Nat.zero_le _⟩) hS (fun H locs hP hS => ?_)
  obtain ⟨r_4, hc_3, hm⟩ := bind_elim hm
  refine x_calli (x_runS (As := [.ref (ga g r0), .int a1, .int r_2]) (rest := []) X hP hS (c_X0_digit l X.2.2 okr0 hc_3) (va_cwS 3 hts gX0_bestDoing_X0_digit rfl rfl rfl (by decide +kernel) ⟨Nat.le_of_ble_eq_true rfl, Nat.le_of_ble_eq_true rfl⟩) rfl hl.1 rfl (Nat.le_of_ble_eq_true rfl) dX0_bestDoing_7 ⟨Nat.zero_le _, Nat.zero_le _⟩) hS (fun H locs hP hS => ?_)
  refine lv_istore_n (lv' := [(3, .int r_4), (0, .ref (ga g r0)), (1, .int a1), (2, .int a2)]) hx hb dX0_bestDoing_10 rfl hl (by decide) rfl (fun ls hl => ?_)
  refine lv_aload_n hx hb dX0_bestDoing_11 rfl (lv_at hl 1 rfl) ?_
  refine lv_iload_n hx hb dX0_bestDoing_12 rfl (lv_at hl 2 rfl) ?_
  refine lv_aload_n hx hb dX0_bestDoing_13 rfl (lv_at hl 1 rfl) ?_
  refine lv_iload_n hx hb dX0_bestDoing_14 rfl (lv_at hl 3 rfl) ?_
  obtain ⟨r_6, hc_5, hm⟩ := bind_elim hm
  refine x_calli (x_runV (As := [.int a2]) (rest := [.int a1, .ref (ga g r0)]) X hP hS (c_X4_rightOf l X.2.2 okr0 hc_5) (cwV 1 hts gX0_bestDoing_X4_rightOf rfl rfl rfl (by decide +kernel) ⟨Nat.le_of_ble_eq_true rfl, Nat.le_of_ble_eq_true rfl⟩) (x_recv (C := RX4) (T := TX4) (N := 12) X hP okr0.obj rfl) rfl hl.1 rfl (Nat.le_of_ble_eq_true rfl) dX0_bestDoing_15 ⟨Nat.zero_le _, Nat.zero_le _⟩) hS (fun H locs hP hS => ?_)
  obtain ⟨r_8, hc_7, hm⟩ := bind_elim hm
  refine x_calli (x_runS (As := [.ref (ga g r0), .int a1, .int r_6]) (rest := []) X hP hS (c_X0_digit l X.2.2 okr0 hc_7) (va_cwS 3 hts gX0_bestDoing_X0_digit rfl rfl rfl (by decide +kernel) ⟨Nat.le_of_ble_eq_true rfl, Nat.le_of_ble_eq_true rfl⟩) rfl hl.1 rfl (Nat.le_of_ble_eq_true rfl) dX0_bestDoing_18 ⟨Nat.zero_le _, Nat.zero_le _⟩) hS (fun H locs hP hS => ?_)
  refine lv_istore (lv' := [(4, .int r_8), (3, .int r_4), (0, .ref (ga g r0)), (1, .int a1), (2, .int a2)]) hx hb dX0_bestDoing_21 hl (by decide) rfl (fun ls hl => ?_)
  refine lv_iconst (v := 0) hx hb dX0_bestDoing_23 (by decide) ?_
  refine lv_istore (lv' := [(5, .int 0), (4, .int r_8), (3, .int r_4), (0, .ref (ga g r0)), (1, .int a1), (2, .int a2)]) hx hb dX0_bestDoing_24 hl (by decide) rfl (fun ls hl => ?_)
  refine lv_aload_n hx hb dX0_bestDoing_26 rfl (lv_at hl 3 rfl) ?_
  refine lv_iload_n hx hb dX0_bestDoing_27 rfl (lv_at hl 5 rfl) ?_
  refine lv_iload_n hx hb dX0_bestDoing_28 rfl (lv_at hl 2 rfl) ?_
  refine lv_iconst (v := 0) hx hb dX0_bestDoing_29 (by decide) ?_
  refine lv_iload hx hb dX0_bestDoing_30 (lv_at hl 1 rfl) ?_
  obtain ⟨r_10, hc_9, hm⟩ := bind_elim hm
  refine x_calli (x_runS (As := [.ref (ga g r0), .int a2, .int r_4, .int 0, .int r_8]) (rest := []) X hP hS (c_X0_mean l X.2.2 okr0 hc_9) (va_cwS 5 hts gX0_bestDoing_X0_mean rfl rfl rfl (by decide +kernel) ⟨Nat.le_of_ble_eq_true rfl, Nat.le_of_ble_eq_true rfl⟩) rfl hl.1 rfl (Nat.le_of_ble_eq_true rfl) dX0_bestDoing_32 ⟨Nat.zero_le _, Nat.zero_le _⟩) hS (fun H locs hP hS => ?_)
  refine lv_istore (lv' := [(6, .int r_10), (5, .int 0), (4, .int r_8), (3, .int r_4), (0, .ref (ga g r0)), (1, .int a1), (2, .int a2)]) hx hb dX0_bestDoing_35 hl (by decide) rfl (fun ls hl => ?_)
  refine lv_iconst (v := 1) hx hb dX0_bestDoing_37 (by decide) ?_
  refine lv_istore (lv' := [(7, .int 1), (6, .int r_10), (5, .int 0), (4, .int r_8), (3, .int r_4), (0, .ref (ga g r0)), (1, .int a1), (2, .int a2)]) hx hb dX0_bestDoing_38 hl (by decide) rfl (fun ls hl => ?_)
  obtain ⟨v_21, hL_20, hm⟩ := bind_elim hm
  refine wl_X0_bestDoing_40 X okr0 ?_ hL_20 _ _ _ hP hS (lv_sub hl [5, 7, 4, 3, 2, 1, 0] rfl)
  · intro z_v_21 e_v_21 H locs ls hP hS hl
    subst e_v_21
    replace hm := un1_e hm
    refine lv_iload hx hb dX0_bestDoing_79 (lv_at hl 0 rfl) ?_
    cases hm
    exact x_iret X hP hS hr hlocks dX0_bestDoing_81


/-! X0_fillMeans -/
def rmX0_fillMeans : Room := { frames := 4, cells := 0, slots := 0, locals := 95 }
theorem uX0_fillMeans_X4 : ∀ w ∈ wsX40, w ∈ wsX0_fillMeans := by decide +kernel
theorem mbX0_fillMeans_1 : Cond.fieldLink RX0 50 "FootANight$Ring" "n" "I" ∈ wsX0_fillMeans := by decide +kernel
theorem uX0_fillMeans_X0 : ∀ w ∈ wsX00, w ∈ wsX0_fillMeans := by decide +kernel
theorem mbX0_fillMeans_3 : Cond.fieldLink RX0 32 "FootANight$Counsel" "means" "[[I" ∈ wsX0_fillMeans := by decide +kernel
theorem mbX0_fillMeans_4 : Cond.methodLink RX0 119 Lib.Math.max.name ∈ wsX0_fillMeans := by decide +kernel
theorem mbX0_fillMeans_5 : Cond.static Lib.Math.max.name ∈ wsX0_fillMeans := by decide +kernel
theorem mbX0_fillMeans_6 : Cond.initialized "java/lang/Math" ∈ wsX0_fillMeans := by decide +kernel
theorem mbX0_fillMeans_7 : Cond.code Lib.Math.max.name Lib.Math.max.code 2 (some .int) ∈ wsX0_fillMeans := by decide +kernel
theorem mbX0_fillMeans_8 : Cond.fieldLink RX0 35 "FootANight$Counsel" "bests" "[[I" ∈ wsX0_fillMeans := by decide +kernel
set_option maxHeartbeats 4000000 in
set_option maxRecDepth 100000 in
theorem wl_X0_fillMeans_24 (X : CxG g p s m args c cX0_fillMeans 7 RX0 wsX0_fillMeans) (hAll : okAll g) {r0 : Nat} (okr0 : okRing g r0) {fu : Nat} {s2 : Int32} {s3 : Int32} {x : Int32 × Mem} (kx0 : ∀ (d4 : Int32) (M2 : Mem) , x = (d4, M2) → ∀ (H : Heap) (locs : List Loc) (ls : Array Slot), va_P (gD g) vwCl (wlG g M2) H → va_S (AbG g) s.heap H locs → lv_has ls 7 [(0, .ref (ga g 115)), (1, .ref (ga g r0)), (2, .int s2), (3, .int s3), (4, .int d4)] → W p l e (headSpec wsX0_fillMeans rmX0_fillMeans).room s m args below meth c H locs 0 0 Q (F0 m 85 ls [])) {n : Nat} {q0 : Int32 × Int32 × Mem} (h : lp (b_X0_fillMeans_24 fu r0 s2 s3) n q0 = some x) : ∀ (H : Heap) (locs : List Loc) (ls : Array Slot), va_P (gD g) vwCl (wlG g q0.2.2) H → va_S (AbG g) s.heap H locs → lv_has ls 7 [(0, .ref (ga g 115)), (1, .ref (ga g r0)), (2, .int s2), (3, .int s3), (4, .int q0.1), (5, .int q0.2.1)] → W p l e (headSpec wsX0_fillMeans rmX0_fillMeans).room s m args below meth c H locs 0 0 Q (F0 m 24 ls []) := by
  refine lp_elim (P := fun q0 : Int32 × Int32 × Mem => ∀ (H : Heap) (locs : List Loc) (ls : Array Slot), va_P (gD g) vwCl (wlG g q0.2.2) H → va_S (AbG g) s.heap H locs → lv_has ls 7 [(0, .ref (ga g 115)), (1, .ref (ga g r0)), (2, .int s2), (3, .int s3), (4, .int q0.1), (5, .int q0.2.1)] → W p l e (headSpec wsX0_fillMeans rmX0_fillMeans).room s m args below meth c H locs 0 0 Q (F0 m 24 ls [])) (fun q1 o hm hI hX => ?_) n q0 h
  obtain ⟨c4, c5, M⟩ := q1
  have kb : ∀ (d4 : Int32) (d5 : Int32) (M2 : Mem) , o = .inl (d4, d5, M2) → ∀ (H : Heap) (locs : List Loc) (ls : Array Slot), va_P (gD g) vwCl (wlG g M2) H → va_S (AbG g) s.heap H locs → lv_has ls 7 [(0, .ref (ga g 115)), (1, .ref (ga g r0)), (2, .int s2), (3, .int s3), (4, .int d4), (5, .int d5)] → W p l e (headSpec wsX0_fillMeans rmX0_fillMeans).room s m args below meth c H locs 0 0 Q (F0 m 24 ls []) := fun d4 d5 M2 e => hI _ e
  have kx0 : ∀ (d4 : Int32) (M2 : Mem) , o = .inr (d4, M2) → ∀ (H : Heap) (locs : List Loc) (ls : Array Slot), va_P (gD g) vwCl (wlG g M2) H → va_S (AbG g) s.heap H locs → lv_has ls 7 [(0, .ref (ga g 115)), (1, .ref (ga g r0)), (2, .int s2), (3, .int s3), (4, .int d4)] → W p l e (headSpec wsX0_fillMeans rmX0_fillMeans).room s m args below meth c H locs 0 0 Q (F0 m 85 ls []) := fun d4 M2 e => kx0 d4 M2 (hX _ e).symm
  clear hI hX
  intro H locs ls hP hS hl
  obtain ⟨⟨hx, hb, hml, hown, hts⟩, -, -⟩ := id X
  have hl : lv_has ls 7 [(0, .ref (ga g 115)), (1, .ref (ga g r0)), (2, .int s2), (3, .int s3), (4, .int c4), (5, .int c5)] := hl
  have hP : va_P (gD g) vwCl (wlG g M) H := hP
  unfold b_X0_fillMeans_24 at hm
  replace hm := un3_e hm
  refine lv_iload hx hb dX0_fillMeans_24 (lv_at hl 5 rfl) ?_
  refine lv_iconst (v := 4) hx hb dX0_fillMeans_26 (by decide) ?_
  refine lv_icmp_ge (tgt := 85) hx hb dX0_fillMeans_27 (by decide) (fun h_3 => ?_) (fun h_3 => ?_)
  · rw [if_pos h_3] at hm
    exact kx0 c4 M (Option.some.inj hm).symm _ _ _ hP hS (lv_sub hl [0, 1, 2, 3, 4] rfl)
  · rw [if_neg h_3] at hm
    refine lv_aload_n hx hb dX0_fillMeans_30 rfl (lv_at hl 1 rfl) ?_
    refine lv_iload_n hx hb dX0_fillMeans_31 rfl (lv_at hl 2 rfl) ?_
    refine lv_iload_n hx hb dX0_fillMeans_32 rfl (lv_at hl 3 rfl) ?_
    refine lv_iconst (v := 4) hx hb dX0_fillMeans_33 (by decide) ?_
    refine lv_idiv hx hb dX0_fillMeans_34 (by decide) ?_
    refine lv_iload hx hb dX0_fillMeans_35 (lv_at hl 5 rfl) ?_
    refine lv_iload_n hx hb dX0_fillMeans_37 rfl (lv_at hl 3 rfl) ?_
    refine lv_iconst (v := 4) hx hb dX0_fillMeans_38 (by decide) ?_
    refine lv_irem hx hb dX0_fillMeans_39 (by decide) ?_
    obtain ⟨r_5, hc_4, hm⟩ := bind_elim hm
    refine x_calli (x_runS (As := [.ref (ga g r0), .int s2, .int (s3 / 4), .int c5, .int (irem s3 4)]) (rest := []) X hP hS (c_X0_mean l X.2.2 okr0 hc_4) (va_cwS 5 hts gX0_fillMeans_X0_mean rfl rfl rfl (by decide +kernel) ⟨Nat.le_of_ble_eq_true rfl, Nat.le_of_ble_eq_true rfl⟩) rfl hl.1 rfl (Nat.le_of_ble_eq_true rfl) dX0_fillMeans_40 ⟨Nat.zero_le _, Nat.zero_le _⟩) hS (fun H locs hP hS => ?_)
    refine lv_istore (lv' := [(6, .int r_5), (0, .ref (ga g 115)), (1, .ref (ga g r0)), (2, .int s2), (3, .int s3), (4, .int c4), (5, .int c5)]) hx hb dX0_fillMeans_43 hl (by decide) rfl (fun ls hl => ?_)
    refine lv_aload_n hx hb dX0_fillMeans_45 rfl (lv_at hl 1 rfl) ?_
    refine xg_X0_6 X hP hAll uX0_fillMeans_X0 mbX0_fillMeans_3 dX0_fillMeans_46 ?_
    refine lv_iload_n hx hb dX0_fillMeans_49 rfl (lv_at hl 3 rfl) ?_
    obtain ⟨hb_6, hm⟩ := chk_elim hm
    refine x_aaldI X hP (okc_116 hAll) hb_6 dX0_fillMeans_50 ?_
    refine lv_iconst (v := 4) hx hb dX0_fillMeans_51 (by decide) ?_
    refine lv_iload_n hx hb dX0_fillMeans_52 rfl (lv_at hl 4 rfl) ?_
    refine lv_imul hx hb dX0_fillMeans_53 ?_
    refine lv_iload hx hb dX0_fillMeans_54 (lv_at hl 6 rfl) ?_
    refine lv_iadd hx hb dX0_fillMeans_56 ?_
    refine lv_iload hx hb dX0_fillMeans_57 (lv_at hl 0 rfl) ?_
    obtain ⟨hb_7, hm⟩ := chk_elim hm
    obtain ⟨M_8, hM_9, hm⟩ := bnd_elim hm
    refine x_iast X hP hS (okr_116 hAll (inb_lt hb_6)) hM_9 hb_7 dX0_fillMeans_59 (fun H locs hP hS => ?_)
    refine lv_iload hx hb dX0_fillMeans_60 (lv_at hl 6 rfl) ?_
    refine lv_if_ne (tgt := 70) hx hb dX0_fillMeans_62 (by decide) (fun h_10 => ?_) (fun h_10 => ?_)
    · rw [if_neg h_10] at hm
      refine lv_iload hx hb dX0_fillMeans_70 (lv_at hl 5 rfl) ?_
      refine lv_iload hx hb dX0_fillMeans_72 (lv_at hl 0 rfl) ?_
      refine va_mmax hx hb (hml.trans hl.1.symm) hown (hts _ mbX0_fillMeans_4) (hts _ mbX0_fillMeans_5) (hts _ mbX0_fillMeans_6) (hts _ mbX0_fillMeans_7) (Nat.le_of_ble_eq_true rfl) (Nat.le_of_ble_eq_true rfl) (Nat.zero_le _) (Nat.zero_le _) dX0_fillMeans_74 ?_
      obtain ⟨v_11, hv_12, hm⟩ := bnd_elim hm
      refine x_name hv_12 ?_
      refine lv_istore (lv' := [(4, .int v_11), (6, .int r_5), (0, .ref (ga g 115)), (1, .ref (ga g r0)), (2, .int s2), (3, .int s3), (5, .int c5)]) hx hb dX0_fillMeans_77 hl (by decide) rfl (fun ls hl => ?_)
      obtain ⟨v_13, hv_14, hm⟩ := bnd_elim hm
      refine lv_iinc (v := v_13) (lv' := [(5, .int v_13), (4, .int v_11), (6, .int r_5), (0, .ref (ga g 115)), (1, .ref (ga g r0)), (2, .int s2), (3, .int s3)]) hx hb dX0_fillMeans_79 hl (k := 6) rfl (by rw [hv_14]; rfl) (by decide) rfl (fun ls hl => ?_)
      refine lv_goto (tgt := 24) hx hb dX0_fillMeans_82 (by decide) ?_
      exact kb v_11 v_13 M_8 (Option.some.inj hm).symm _ _ _ hP hS (lv_sub hl [3, 4, 5, 6, 1, 0] rfl)
    · rw [if_pos h_10] at hm
      refine lv_iload hx hb dX0_fillMeans_65 (lv_at hl 0 rfl) ?_
      refine lv_goto (tgt := 77) hx hb dX0_fillMeans_67 (by decide) ?_
      refine lv_istore (lv' := [(4, .int r_5), (6, .int r_5), (0, .ref (ga g 115)), (1, .ref (ga g r0)), (2, .int s2), (3, .int s3), (5, .int c5)]) hx hb dX0_fillMeans_77 hl (by decide) rfl (fun ls hl => ?_)
      obtain ⟨v_15, hv_16, hm⟩ := bnd_elim hm
      refine lv_iinc (v := v_15) (lv' := [(5, .int v_15), (4, .int r_5), (6, .int r_5), (0, .ref (ga g 115)), (1, .ref (ga g r0)), (2, .int s2), (3, .int s3)]) hx hb dX0_fillMeans_79 hl (k := 6) rfl (by rw [hv_16]; rfl) (by decide) rfl (fun ls hl => ?_)
      refine lv_goto (tgt := 24) hx hb dX0_fillMeans_82 (by decide) ?_
      exact kb r_5 v_15 M_8 (Option.some.inj hm).symm _ _ _ hP hS (lv_sub hl [3, 4, 5, 6, 1, 0] rfl)

set_option maxHeartbeats 4000000 in
set_option maxRecDepth 100000 in
theorem wl_X0_fillMeans_12 (X : CxG g p s m args c cX0_fillMeans 7 RX0 wsX0_fillMeans) (hAll : okAll g) {r0 : Nat} (okr0 : okRing g r0) {fu : Nat} {s2 : Int32} {x : Mem} (kx0 : ∀ (M2 : Mem) , x = M2 → ∀ (H : Heap) (locs : List Loc) (ls : Array Slot), va_P (gD g) vwCl (wlG g M2) H → va_S (AbG g) s.heap H locs → lv_has ls 7 [(0, .ref (ga g 115)), (1, .ref (ga g r0)), (2, .int s2)] → W p l e (headSpec wsX0_fillMeans rmX0_fillMeans).room s m args below meth c H locs 0 0 Q (F0 m 101 ls [])) {n : Nat} {q0 : Int32 × Mem} (h : lp (b_X0_fillMeans_12 fu r0 s2) n q0 = some x) : ∀ (H : Heap) (locs : List Loc) (ls : Array Slot), va_P (gD g) vwCl (wlG g q0.2) H → va_S (AbG g) s.heap H locs → lv_has ls 7 [(0, .ref (ga g 115)), (1, .ref (ga g r0)), (2, .int s2), (3, .int q0.1)] → W p l e (headSpec wsX0_fillMeans rmX0_fillMeans).room s m args below meth c H locs 0 0 Q (F0 m 12 ls []) := by
  refine lp_elim (P := fun q0 : Int32 × Mem => ∀ (H : Heap) (locs : List Loc) (ls : Array Slot), va_P (gD g) vwCl (wlG g q0.2) H → va_S (AbG g) s.heap H locs → lv_has ls 7 [(0, .ref (ga g 115)), (1, .ref (ga g r0)), (2, .int s2), (3, .int q0.1)] → W p l e (headSpec wsX0_fillMeans rmX0_fillMeans).room s m args below meth c H locs 0 0 Q (F0 m 12 ls [])) (fun q1 o hm hI hX => ?_) n q0 h
  obtain ⟨c3, M⟩ := q1
  have kb : ∀ (d3 : Int32) (M2 : Mem) , o = .inl (d3, M2) → ∀ (H : Heap) (locs : List Loc) (ls : Array Slot), va_P (gD g) vwCl (wlG g M2) H → va_S (AbG g) s.heap H locs → lv_has ls 7 [(0, .ref (ga g 115)), (1, .ref (ga g r0)), (2, .int s2), (3, .int d3)] → W p l e (headSpec wsX0_fillMeans rmX0_fillMeans).room s m args below meth c H locs 0 0 Q (F0 m 12 ls []) := fun d3 M2 e => hI _ e
  have kx0 : ∀ (M2 : Mem) , o = .inr M2 → ∀ (H : Heap) (locs : List Loc) (ls : Array Slot), va_P (gD g) vwCl (wlG g M2) H → va_S (AbG g) s.heap H locs → lv_has ls 7 [(0, .ref (ga g 115)), (1, .ref (ga g r0)), (2, .int s2)] → W p l e (headSpec wsX0_fillMeans rmX0_fillMeans).room s m args below meth c H locs 0 0 Q (F0 m 101 ls []) := fun M2 e => kx0 M2 (hX _ e).symm
  clear hI hX
  intro H locs ls hP hS hl
  obtain ⟨⟨hx, hb, hml, hown, hts⟩, -, -⟩ := id X
  have hl : lv_has ls 7 [(0, .ref (ga g 115)), (1, .ref (ga g r0)), (2, .int s2), (3, .int c3)] := hl
  have hP : va_P (gD g) vwCl (wlG g M) H := hP
  unfold b_X0_fillMeans_12 at hm
  replace hm := un2_e hm
  refine lv_iload_n hx hb dX0_fillMeans_12 rfl (lv_at hl 3 rfl) ?_
  refine lv_bipush (v := 16) hx hb dX0_fillMeans_13 (by decide) ?_
  refine lv_icmp_ge (tgt := 101) hx hb dX0_fillMeans_15 (by decide) (fun h_2 => ?_) (fun h_2 => ?_)
  · rw [if_pos h_2] at hm
    exact kx0 M (Option.some.inj hm).symm _ _ _ hP hS (lv_sub hl [0, 1, 2] rfl)
  · rw [if_neg h_2] at hm
    refine lv_iconst (v := 0) hx hb dX0_fillMeans_18 (by decide) ?_
    refine lv_istore (lv' := [(4, .int 0), (0, .ref (ga g 115)), (1, .ref (ga g r0)), (2, .int s2), (3, .int c3)]) hx hb dX0_fillMeans_19 hl (by decide) rfl (fun ls hl => ?_)
    refine lv_iconst (v := 0) hx hb dX0_fillMeans_21 (by decide) ?_
    refine lv_istore (lv' := [(5, .int 0), (4, .int 0), (0, .ref (ga g 115)), (1, .ref (ga g r0)), (2, .int s2), (3, .int c3)]) hx hb dX0_fillMeans_22 hl (by decide) rfl (fun ls hl => ?_)
    obtain ⟨x_17, hL_18, hm⟩ := bind_elim hm
    refine wl_X0_fillMeans_24 X hAll okr0 ?_ hL_18 _ _ _ hP hS (lv_sub hl [2, 3, 4, 5, 1, 0] rfl)
    · intro v_19 M_20 e_x_17 H locs ls hP hS hl
      subst e_x_17
      replace hm := un2_e hm
      refine lv_aload_n hx hb dX0_fillMeans_85 rfl (lv_at hl 0 rfl) ?_
      refine xg_X0_7 X hP hAll uX0_fillMeans_X0 mbX0_fillMeans_8 dX0_fillMeans_86 ?_
      refine lv_iload_n hx hb dX0_fillMeans_89 rfl (lv_at hl 2 rfl) ?_
      obtain ⟨hb_21, hm⟩ := chk_elim hm
      refine x_aaldI X hP (okc_117 hAll) hb_21 dX0_fillMeans_90 ?_
      refine lv_iload_n hx hb dX0_fillMeans_91 rfl (lv_at hl 3 rfl) ?_
      refine lv_iload hx hb dX0_fillMeans_92 (lv_at hl 4 rfl) ?_
      obtain ⟨hb_22, hm⟩ := chk_elim hm
      obtain ⟨M_23, hM_24, hm⟩ := bnd_elim hm
      refine x_iast X hP hS (okr_117 hAll (inb_lt hb_21)) hM_24 hb_22 dX0_fillMeans_94 (fun H locs hP hS => ?_)
      obtain ⟨v_25, hv_26, hm⟩ := bnd_elim hm
      refine lv_iinc (v := v_25) (lv' := [(3, .int v_25), (0, .ref (ga g 115)), (1, .ref (ga g r0)), (2, .int s2), (4, .int v_19)]) hx hb dX0_fillMeans_95 hl (k := 3) rfl (by rw [hv_26]; rfl) (by decide) rfl (fun ls hl => ?_)
      refine lv_goto (tgt := 12) hx hb dX0_fillMeans_98 (by decide) ?_
      exact kb v_25 M_23 (Option.some.inj hm).symm _ _ _ hP hS (lv_sub hl [1, 2, 3, 0] rfl)

set_option maxHeartbeats 4000000 in
set_option maxRecDepth 100000 in
theorem wl_X0_fillMeans_2 (X : CxG g p s m args c cX0_fillMeans 7 RX0 wsX0_fillMeans) (hAll : okAll g) {r0 : Nat} (okr0 : okRing g r0) {fu : Nat} {x : Mem} (kx0 : ∀ (M2 : Mem) , x = M2 → ∀ (H : Heap) (locs : List Loc) (ls : Array Slot), va_P (gD g) vwCl (wlG g M2) H → va_S (AbG g) s.heap H locs → lv_has ls 7 [] → W p l e (headSpec wsX0_fillMeans rmX0_fillMeans).room s m args below meth c H locs 0 0 Q (F0 m 107 ls [])) {n : Nat} {q0 : Int32 × Mem} (h : lp (b_X0_fillMeans_2 fu r0) n q0 = some x) : ∀ (H : Heap) (locs : List Loc) (ls : Array Slot), va_P (gD g) vwCl (wlG g q0.2) H → va_S (AbG g) s.heap H locs → lv_has ls 7 [(0, .ref (ga g 115)), (1, .ref (ga g r0)), (2, .int q0.1)] → W p l e (headSpec wsX0_fillMeans rmX0_fillMeans).room s m args below meth c H locs 0 0 Q (F0 m 2 ls []) := by
  refine lp_elim (P := fun q0 : Int32 × Mem => ∀ (H : Heap) (locs : List Loc) (ls : Array Slot), va_P (gD g) vwCl (wlG g q0.2) H → va_S (AbG g) s.heap H locs → lv_has ls 7 [(0, .ref (ga g 115)), (1, .ref (ga g r0)), (2, .int q0.1)] → W p l e (headSpec wsX0_fillMeans rmX0_fillMeans).room s m args below meth c H locs 0 0 Q (F0 m 2 ls [])) (fun q1 o hm hI hX => ?_) n q0 h
  obtain ⟨c2, M⟩ := q1
  have kb : ∀ (d2 : Int32) (M2 : Mem) , o = .inl (d2, M2) → ∀ (H : Heap) (locs : List Loc) (ls : Array Slot), va_P (gD g) vwCl (wlG g M2) H → va_S (AbG g) s.heap H locs → lv_has ls 7 [(0, .ref (ga g 115)), (1, .ref (ga g r0)), (2, .int d2)] → W p l e (headSpec wsX0_fillMeans rmX0_fillMeans).room s m args below meth c H locs 0 0 Q (F0 m 2 ls []) := fun d2 M2 e => hI _ e
  have kx0 : ∀ (M2 : Mem) , o = .inr M2 → ∀ (H : Heap) (locs : List Loc) (ls : Array Slot), va_P (gD g) vwCl (wlG g M2) H → va_S (AbG g) s.heap H locs → lv_has ls 7 [] → W p l e (headSpec wsX0_fillMeans rmX0_fillMeans).room s m args below meth c H locs 0 0 Q (F0 m 107 ls []) := fun M2 e => kx0 M2 (hX _ e).symm
  clear hI hX
  intro H locs ls hP hS hl
  obtain ⟨⟨hx, hb, hml, hown, hts⟩, -, -⟩ := id X
  have hl : lv_has ls 7 [(0, .ref (ga g 115)), (1, .ref (ga g r0)), (2, .int c2)] := hl
  have hP : va_P (gD g) vwCl (wlG g M) H := hP
  unfold b_X0_fillMeans_2 at hm
  replace hm := un2_e hm
  refine lv_iload_n hx hb dX0_fillMeans_2 rfl (lv_at hl 2 rfl) ?_
  refine lv_aload_n hx hb dX0_fillMeans_3 rfl (lv_at hl 1 rfl) ?_
  refine xg_X4_0 X hP okr0 uX0_fillMeans_X4 mbX0_fillMeans_1 dX0_fillMeans_4 ?_
  refine lv_icmp_ge (tgt := 107) hx hb dX0_fillMeans_7 (by decide) (fun h_1 => ?_) (fun h_1 => ?_)
  · rw [if_pos h_1] at hm
    exact kx0 M (Option.some.inj hm).symm _ _ _ hP hS (lv_sub hl [] rfl)
  · rw [if_neg h_1] at hm
    refine lv_iconst (v := 0) hx hb dX0_fillMeans_10 (by decide) ?_
    refine lv_istore_n (lv' := [(3, .int 0), (0, .ref (ga g 115)), (1, .ref (ga g r0)), (2, .int c2)]) hx hb dX0_fillMeans_11 rfl hl (by decide) rfl (fun ls hl => ?_)
    obtain ⟨M_29, hL_28, hm⟩ := bind_elim hm
    refine wl_X0_fillMeans_12 X hAll okr0 ?_ hL_28 _ _ _ hP hS (lv_sub hl [1, 2, 3, 0] rfl)
    · intro z_M_29 e_M_29 H locs ls hP hS hl
      subst e_M_29
      replace hm := un1_e hm
      obtain ⟨v_30, hv_31, hm⟩ := bnd_elim hm
      refine lv_iinc (v := v_30) (lv' := [(2, .int v_30), (0, .ref (ga g 115)), (1, .ref (ga g r0))]) hx hb dX0_fillMeans_101 hl (k := 2) rfl (by rw [hv_31]; rfl) (by decide) rfl (fun ls hl => ?_)
      refine lv_goto (tgt := 2) hx hb dX0_fillMeans_104 (by decide) ?_
      exact kb v_30 M_29 (Option.some.inj hm).symm _ _ _ hP hS (lv_sub hl [1, 2, 0] rfl)

set_option maxHeartbeats 4000000 in
set_option maxRecDepth 100000 in
theorem c_X0_fillMeans (l : Launch) {g : GT} (hA : AxG g) (hAll : okAll g) {r0 : Nat} (okr0 : okRing g r0) {fu : Nat} {M : Mem} {MM : Mem} (hm : m_X0_fillMeans fu r0 M = some MM) : CV l yX0_fillMeans wsX0_fillMeans rmX0_fillMeans g [.ref (ga g 115), .ref (ga g r0)] M MM := by
  refine Met.ofW (cc := cX0_fillMeans) (maxL := 7) (ret := none) (by decide) rfl ?_
  intro p e s m args below meth c s₁ B hml hv
  obtain ⟨rfl, hSx, hP⟩ := hv
  have hr := B.returns
  have hlocks := B.notSynchronized
  have X : CxG g p s m _ c cX0_fillMeans 7 RX0 wsX0_fillMeans := ⟨⟨B.exec, B.bytes, hml, findClass_of_methodNamed B.named, atoms_spec (ws := wsX0_fillMeans) B.pre⟩, hSx, hA⟩
  have hS : va_S (AbG g) s.heap s.heap [] := va_S.rf
  have hl := lv_entry (([.ref (ga g 115), .ref (ga g r0)] : List Value)) (n := 7) (Nat.le_of_ble_eq_true rfl)
  rw [lg_entry_eq]
  generalize (lg_sl (([.ref (ga g 115), .ref (ga g r0)] : List Value)) ++ List.replicate (7 - (lg_sl (([.ref (ga g 115), .ref (ga g r0)] : List Value))).length) Slot.unset).toArray = ls at hl ⊢
  have hl : lv_has ls 7 [(0, .ref (ga g 115)), (1, .ref (ga g r0))] := hl
  obtain ⟨⟨hx, hb, hml, hown, hts⟩, -, -⟩ := id X
  unfold m_X0_fillMeans at hm
  refine lv_iconst (v := 0) hx hb dX0_fillMeans_0 (by decide) ?_
  refine lv_istore_n (lv' := [(2, .int 0), (0, .ref (ga g 115)), (1, .ref (ga g r0))]) hx hb dX0_fillMeans_1 rfl hl (by decide) rfl (fun ls hl => ?_)
  obtain ⟨M_34, hL_33, hm⟩ := bind_elim hm
  refine wl_X0_fillMeans_2 X hAll okr0 ?_ hL_33 _ _ _ hP hS (lv_sub hl [1, 2, 0] rfl)
  · intro z_M_34 e_M_34 H locs ls hP hS hl
    subst e_M_34
    replace hm := un1_e hm
    cases hm
    exact x_vret X hP hS hr hlocks dX0_fillMeans_107


/-! X0_around -/
def rmX0_around : Room := { frames := 1, cells := 0, slots := 0, locals := 22 }

set_option maxHeartbeats 4000000 in
set_option maxRecDepth 100000 in
theorem c_X0_around (l : Launch) {g : GT} (hA : AxG g) {r0 : Nat} (okr0 : okRing g r0) {M : Mem} {a1 : Int32} {a2 : Int32} {rr : Int32} (hm : m_X0_around r0 M a1 a2 = some rr) : CI l yX0_around wsX0_around rmX0_around g [.ref (ga g r0), .int a1, .int a2] M rr M := by
  refine Met.ofW (cc := cX0_around) (maxL := 3) (ret := (some .int)) (by decide) rfl ?_
  intro p e s m args below meth c s₁ B hml hv
  obtain ⟨rfl, hSx, hP⟩ := hv
  have hr := B.returns
  have hlocks := B.notSynchronized
  have X : CxG g p s m _ c cX0_around 3 RX0 wsX0_around := ⟨⟨B.exec, B.bytes, hml, findClass_of_methodNamed B.named, atoms_spec (ws := wsX0_around) B.pre⟩, hSx, hA⟩
  have hS : va_S (AbG g) s.heap s.heap [] := va_S.rf
  have hl := lv_entry (([.ref (ga g r0), .int a1, .int a2] : List Value)) (n := 3) (Nat.le_of_ble_eq_true rfl)
  rw [lg_entry_eq]
  generalize (lg_sl (([.ref (ga g r0), .int a1, .int a2] : List Value)) ++ List.replicate (3 - (lg_sl (([.ref (ga g r0), .int a1, .int a2] : List Value))).length) Slot.unset).toArray = ls at hl ⊢
  have hl : lv_has ls 3 [(0, .ref (ga g r0)), (1, .int a1), (2, .int a2)] := hl
  obtain ⟨⟨hx, hb, hml, hown, hts⟩, -, -⟩ := id X
  unfold m_X0_around at hm
  refine lv_iconst (v := 4) hx hb dX0_around_0 (by decide) ?_
  refine lv_aload_n hx hb dX0_around_1 rfl (lv_at hl 0 rfl) ?_
  refine lv_iload_n hx hb dX0_around_2 rfl (lv_at hl 1 rfl) ?_
  refine lv_aload_n hx hb dX0_around_3 rfl (lv_at hl 0 rfl) ?_
  refine lv_iload_n hx hb dX0_around_4 rfl (lv_at hl 2 rfl) ?_
  obtain ⟨r_2, hc_1, hm⟩ := bind_elim hm
  refine x_calli (x_runV (As := [.int a2]) (rest := [.int a1, .ref (ga g r0), .int 4]) X hP hS (c_X4_leftOf l X.2.2 okr0 hc_1) (cwV 1 hts gX0_around_X4_leftOf rfl rfl rfl (by decide +kernel) ⟨Nat.le_of_ble_eq_true rfl, Nat.le_of_ble_eq_true rfl⟩) (x_recv (C := RX4) (T := TX4) (N := 12) X hP okr0.obj rfl) rfl hl.1 rfl (Nat.le_of_ble_eq_true rfl) dX0_around_5 ⟨Nat.zero_le _, Nat.zero_le _⟩) hS (fun H locs hP hS => ?_)
  obtain ⟨r_4, hc_3, hm⟩ := bind_elim hm
  refine x_calli (x_runS (As := [.ref (ga g r0), .int a1, .int r_2]) (rest := [.int 4]) X hP hS (c_X0_digit l X.2.2 okr0 hc_3) (va_cwS 3 hts gX0_around_X0_digit rfl rfl rfl (by decide +kernel) ⟨Nat.le_of_ble_eq_true rfl, Nat.le_of_ble_eq_true rfl⟩) rfl hl.1 rfl (Nat.le_of_ble_eq_true rfl) dX0_around_8 ⟨Nat.zero_le _, Nat.zero_le _⟩) hS (fun H locs hP hS => ?_)
  refine lv_imul hx hb dX0_around_11 ?_
  refine lv_aload_n hx hb dX0_around_12 rfl (lv_at hl 0 rfl) ?_
  refine lv_iload_n hx hb dX0_around_13 rfl (lv_at hl 1 rfl) ?_
  refine lv_aload_n hx hb dX0_around_14 rfl (lv_at hl 0 rfl) ?_
  refine lv_iload_n hx hb dX0_around_15 rfl (lv_at hl 2 rfl) ?_
  obtain ⟨r_6, hc_5, hm⟩ := bind_elim hm
  refine x_calli (x_runV (As := [.int a2]) (rest := [.int a1, .ref (ga g r0), .int (4 * r_4)]) X hP hS (c_X4_rightOf l X.2.2 okr0 hc_5) (cwV 1 hts gX0_around_X4_rightOf rfl rfl rfl (by decide +kernel) ⟨Nat.le_of_ble_eq_true rfl, Nat.le_of_ble_eq_true rfl⟩) (x_recv (C := RX4) (T := TX4) (N := 12) X hP okr0.obj rfl) rfl hl.1 rfl (Nat.le_of_ble_eq_true rfl) dX0_around_16 ⟨Nat.zero_le _, Nat.zero_le _⟩) hS (fun H locs hP hS => ?_)
  obtain ⟨r_8, hc_7, hm⟩ := bind_elim hm
  refine x_calli (x_runS (As := [.ref (ga g r0), .int a1, .int r_6]) (rest := [.int (4 * r_4)]) X hP hS (c_X0_digit l X.2.2 okr0 hc_7) (va_cwS 3 hts gX0_around_X0_digit rfl rfl rfl (by decide +kernel) ⟨Nat.le_of_ble_eq_true rfl, Nat.le_of_ble_eq_true rfl⟩) rfl hl.1 rfl (Nat.le_of_ble_eq_true rfl) dX0_around_19 ⟨Nat.zero_le _, Nat.zero_le _⟩) hS (fun H locs hP hS => ?_)
  refine lv_iadd hx hb dX0_around_22 ?_
  cases hm
  exact x_iret X hP hS hr hlocks dX0_around_23


/-! X0_nobodyWouldRather -/
def rmX0_nobodyWouldRather : Room := { frames := 2, cells := 0, slots := 0, locals := 44 }
theorem uX0_nobodyWouldRather_X4 : ∀ w ∈ wsX40, w ∈ wsX0_nobodyWouldRather := by decide +kernel
theorem mbX0_nobodyWouldRather_1 : Cond.fieldLink RX0 50 "FootANight$Ring" "n" "I" ∈ wsX0_nobodyWouldRather := by decide +kernel
theorem uX0_nobodyWouldRather_X0 : ∀ w ∈ wsX00, w ∈ wsX0_nobodyWouldRather := by decide +kernel
theorem mbX0_nobodyWouldRather_3 : Cond.fieldLink RX0 32 "FootANight$Counsel" "means" "[[I" ∈ wsX0_nobodyWouldRather := by decide +kernel
theorem mbX0_nobodyWouldRather_4 : Cond.fieldLink RX0 35 "FootANight$Counsel" "bests" "[[I" ∈ wsX0_nobodyWouldRather := by decide +kernel
set_option maxHeartbeats 4000000 in
set_option maxRecDepth 100000 in
theorem wl_X0_nobodyWouldRather_2 (X : CxG g p s m args c cX0_nobodyWouldRather 5 RX0 wsX0_nobodyWouldRather) (hAll : okAll g) {r0 : Nat} (okr0 : okRing g r0) {fu : Nat} {M : Mem} {s2 : Int32} {x : (Unit) ⊕ (Unit)} (kx0 : ∀ (_u : Unit) , x = .inl () → ∀ (H : Heap) (locs : List Loc) (ls : Array Slot), va_P (gD g) vwCl (wlG g M) H → va_S (AbG g) s.heap H locs → lv_has ls 5 [] → W p l e (headSpec wsX0_nobodyWouldRather rmX0_nobodyWouldRather).room s m args below meth c H locs 0 0 Q (F0 m 48 ls [])) (kx1 : ∀ (_u : Unit) , x = .inr () → ∀ (H : Heap) (locs : List Loc) (ls : Array Slot), va_P (gD g) vwCl (wlG g M) H → va_S (AbG g) s.heap H locs → lv_has ls 5 [] → W p l e (headSpec wsX0_nobodyWouldRather rmX0_nobodyWouldRather).room s m args below meth c H locs 0 0 Q (F0 m 56 ls [])) {n : Nat} {q0 : Int32} (h : lp (b_X0_nobodyWouldRather_2 fu r0 M s2) n q0 = some x) : ∀ (H : Heap) (locs : List Loc) (ls : Array Slot), va_P (gD g) vwCl (wlG g M) H → va_S (AbG g) s.heap H locs → lv_has ls 5 [(0, .ref (ga g 115)), (1, .ref (ga g r0)), (2, .int s2), (3, .int q0)] → W p l e (headSpec wsX0_nobodyWouldRather rmX0_nobodyWouldRather).room s m args below meth c H locs 0 0 Q (F0 m 2 ls []) := by
  refine lp_elim (P := fun q0 : Int32 => ∀ (H : Heap) (locs : List Loc) (ls : Array Slot), va_P (gD g) vwCl (wlG g M) H → va_S (AbG g) s.heap H locs → lv_has ls 5 [(0, .ref (ga g 115)), (1, .ref (ga g r0)), (2, .int s2), (3, .int q0)] → W p l e (headSpec wsX0_nobodyWouldRather rmX0_nobodyWouldRather).room s m args below meth c H locs 0 0 Q (F0 m 2 ls [])) (fun q1 o hm hI hX => ?_) n q0 h
  obtain ⟨c3, rfl⟩ : ∃ z, z = q1 := ⟨_, rfl⟩
  have kb : ∀ (d3 : Int32) , o = .inl d3 → ∀ (H : Heap) (locs : List Loc) (ls : Array Slot), va_P (gD g) vwCl (wlG g M) H → va_S (AbG g) s.heap H locs → lv_has ls 5 [(0, .ref (ga g 115)), (1, .ref (ga g r0)), (2, .int s2), (3, .int d3)] → W p l e (headSpec wsX0_nobodyWouldRather rmX0_nobodyWouldRather).room s m args below meth c H locs 0 0 Q (F0 m 2 ls []) := fun d3 e => hI _ e
  have kx0 : ∀ (_u : Unit) , o = .inr (.inl ()) → ∀ (H : Heap) (locs : List Loc) (ls : Array Slot), va_P (gD g) vwCl (wlG g M) H → va_S (AbG g) s.heap H locs → lv_has ls 5 [] → W p l e (headSpec wsX0_nobodyWouldRather rmX0_nobodyWouldRather).room s m args below meth c H locs 0 0 Q (F0 m 48 ls []) := fun _u e => kx0 _u (hX _ e).symm
  have kx1 : ∀ (_u : Unit) , o = .inr (.inr ()) → ∀ (H : Heap) (locs : List Loc) (ls : Array Slot), va_P (gD g) vwCl (wlG g M) H → va_S (AbG g) s.heap H locs → lv_has ls 5 [] → W p l e (headSpec wsX0_nobodyWouldRather rmX0_nobodyWouldRather).room s m args below meth c H locs 0 0 Q (F0 m 56 ls []) := fun _u e => kx1 _u (hX _ e).symm
  clear hI hX
  intro H locs ls hP hS hl
  obtain ⟨⟨hx, hb, hml, hown, hts⟩, -, -⟩ := id X
  have hl : lv_has ls 5 [(0, .ref (ga g 115)), (1, .ref (ga g r0)), (2, .int s2), (3, .int c3)] := hl
  have hP : va_P (gD g) vwCl (wlG g M) H := hP
  unfold b_X0_nobodyWouldRather_2 at hm
  replace hm := un1_e hm
  refine lv_iload_n hx hb dX0_nobodyWouldRather_2 rfl (lv_at hl 3 rfl) ?_
  refine lv_aload_n hx hb dX0_nobodyWouldRather_3 rfl (lv_at hl 1 rfl) ?_
  refine xg_X4_0 X hP okr0 uX0_nobodyWouldRather_X4 mbX0_nobodyWouldRather_1 dX0_nobodyWouldRather_4 ?_
  refine lv_icmp_ge (tgt := 56) hx hb dX0_nobodyWouldRather_7 (by decide) (fun h_1 => ?_) (fun h_1 => ?_)
  · rw [if_pos h_1] at hm
    exact kx1 () (Option.some.inj hm).symm _ _ _ hP hS (lv_sub hl [] rfl)
  · rw [if_neg h_1] at hm
    refine lv_aload_n hx hb dX0_nobodyWouldRather_10 rfl (lv_at hl 1 rfl) ?_
    refine lv_iload_n hx hb dX0_nobodyWouldRather_11 rfl (lv_at hl 2 rfl) ?_
    refine lv_iload_n hx hb dX0_nobodyWouldRather_12 rfl (lv_at hl 3 rfl) ?_
    obtain ⟨r_3, hc_2, hm⟩ := bind_elim hm
    refine x_calli (x_runS (As := [.ref (ga g r0), .int s2, .int c3]) (rest := []) X hP hS (c_X0_around l X.2.2 okr0 hc_2) (va_cwS 3 hts gX0_nobodyWouldRather_X0_around rfl rfl rfl (by decide +kernel) ⟨Nat.le_of_ble_eq_true rfl, Nat.le_of_ble_eq_true rfl⟩) rfl hl.1 rfl (Nat.le_of_ble_eq_true rfl) dX0_nobodyWouldRather_13 ⟨Nat.zero_le _, Nat.zero_le _⟩) hS (fun H locs hP hS => ?_)
    refine lv_istore (lv' := [(4, .int r_3), (0, .ref (ga g 115)), (1, .ref (ga g r0)), (2, .int s2), (3, .int c3)]) hx hb dX0_nobodyWouldRather_16 hl (by decide) rfl (fun ls hl => ?_)
    refine lv_aload_n hx hb dX0_nobodyWouldRather_18 rfl (lv_at hl 1 rfl) ?_
    refine xg_X0_6 X hP hAll uX0_nobodyWouldRather_X0 mbX0_nobodyWouldRather_3 dX0_nobodyWouldRather_19 ?_
    refine lv_iload_n hx hb dX0_nobodyWouldRather_22 rfl (lv_at hl 4 rfl) ?_
    obtain ⟨hb_4, hm⟩ := chk_elim hm
    refine x_aaldI X hP (okc_116 hAll) hb_4 dX0_nobodyWouldRather_23 ?_
    refine lv_iconst (v := 4) hx hb dX0_nobodyWouldRather_24 (by decide) ?_
    refine lv_iload hx hb dX0_nobodyWouldRather_25 (lv_at hl 0 rfl) ?_
    refine lv_imul hx hb dX0_nobodyWouldRather_27 ?_
    refine lv_aload_n hx hb dX0_nobodyWouldRather_28 rfl (lv_at hl 2 rfl) ?_
    refine lv_iload_n hx hb dX0_nobodyWouldRather_29 rfl (lv_at hl 3 rfl) ?_
    refine lv_iload_n hx hb dX0_nobodyWouldRather_30 rfl (lv_at hl 4 rfl) ?_
    obtain ⟨r_6, hc_5, hm⟩ := bind_elim hm
    refine x_calli (x_runS (As := [.ref (ga g r0), .int s2, .int c3]) (rest := [.int (4 * r_3), .ref (ga g (118 + ix c3))]) X hP hS (c_X0_digit l X.2.2 okr0 hc_5) (va_cwS 3 hts gX0_nobodyWouldRather_X0_digit rfl rfl rfl (by decide +kernel) ⟨Nat.le_of_ble_eq_true rfl, Nat.le_of_ble_eq_true rfl⟩) rfl hl.1 rfl (Nat.le_of_ble_eq_true rfl) dX0_nobodyWouldRather_31 ⟨Nat.zero_le _, Nat.zero_le _⟩) hS (fun H locs hP hS => ?_)
    refine lv_iadd hx hb dX0_nobodyWouldRather_34 ?_
    obtain ⟨hb_7, hm⟩ := chk_elim hm
    refine x_iald X hP (okr_116 hAll (inb_lt hb_4)) hb_7 dX0_nobodyWouldRather_35 ?_
    refine lv_aload_n hx hb dX0_nobodyWouldRather_36 rfl (lv_at hl 1 rfl) ?_
    refine xg_X0_7 X hP hAll uX0_nobodyWouldRather_X0 mbX0_nobodyWouldRather_4 dX0_nobodyWouldRather_37 ?_
    refine lv_iload_n hx hb dX0_nobodyWouldRather_40 rfl (lv_at hl 4 rfl) ?_
    refine x_aaldI X hP (okc_117 hAll) hb_4 dX0_nobodyWouldRather_41 ?_
    refine lv_iload hx hb dX0_nobodyWouldRather_42 (lv_at hl 0 rfl) ?_
    obtain ⟨hb_8, hm⟩ := chk_elim hm
    refine x_iald X hP (okr_117 hAll (inb_lt hb_4)) hb_8 dX0_nobodyWouldRather_44 ?_
    refine lv_icmp_ge (tgt := 50) hx hb dX0_nobodyWouldRather_45 (by decide) (fun h_9 => ?_) (fun h_9 => ?_)
    · rw [if_pos h_9] at hm
      obtain ⟨v_10, hv_11, hm⟩ := bnd_elim hm
      refine lv_iinc (v := v_10) (lv' := [(3, .int v_10), (4, .int r_3), (0, .ref (ga g 115)), (1, .ref (ga g r0)), (2, .int s2)]) hx hb dX0_nobodyWouldRather_50 hl (k := 4) rfl (by rw [hv_11]; rfl) (by decide) rfl (fun ls hl => ?_)
      refine lv_goto (tgt := 2) hx hb dX0_nobodyWouldRather_53 (by decide) ?_
      exact kb v_10 (Option.some.inj hm).symm _ _ _ hP hS (lv_sub hl [2, 3, 4, 0] rfl)
    · rw [if_neg h_9] at hm
      exact kx0 () (Option.some.inj hm).symm _ _ _ hP hS (lv_sub hl [] rfl)

set_option maxHeartbeats 4000000 in
set_option maxRecDepth 100000 in
theorem c_X0_nobodyWouldRather (l : Launch) {g : GT} (hA : AxG g) (hAll : okAll g) {r0 : Nat} (okr0 : okRing g r0) {fu : Nat} {M : Mem} {a2 : Int32} {rr : Int32} (hm : m_X0_nobodyWouldRather fu r0 M a2 = some rr) : CI l yX0_nobodyWouldRather wsX0_nobodyWouldRather rmX0_nobodyWouldRather g [.ref (ga g 115), .ref (ga g r0), .int a2] M rr M := by
  refine Met.ofW (cc := cX0_nobodyWouldRather) (maxL := 5) (ret := (some .boolean)) (by decide) rfl ?_
  intro p e s m args below meth c s₁ B hml hv
  obtain ⟨rfl, hSx, hP⟩ := hv
  have hr := B.returns
  have hlocks := B.notSynchronized
  have X : CxG g p s m _ c cX0_nobodyWouldRather 5 RX0 wsX0_nobodyWouldRather := ⟨⟨B.exec, B.bytes, hml, findClass_of_methodNamed B.named, atoms_spec (ws := wsX0_nobodyWouldRather) B.pre⟩, hSx, hA⟩
  have hS : va_S (AbG g) s.heap s.heap [] := va_S.rf
  have hl := lv_entry (([.ref (ga g 115), .ref (ga g r0), .int a2] : List Value)) (n := 5) (Nat.le_of_ble_eq_true rfl)
  rw [lg_entry_eq]
  generalize (lg_sl (([.ref (ga g 115), .ref (ga g r0), .int a2] : List Value)) ++ List.replicate (5 - (lg_sl (([.ref (ga g 115), .ref (ga g r0), .int a2] : List Value))).length) Slot.unset).toArray = ls at hl ⊢
  have hl : lv_has ls 5 [(0, .ref (ga g 115)), (1, .ref (ga g r0)), (2, .int a2)] := hl
  obtain ⟨⟨hx, hb, hml, hown, hts⟩, -, -⟩ := id X
  unfold m_X0_nobodyWouldRather at hm
  refine lv_iconst (v := 0) hx hb dX0_nobodyWouldRather_0 (by decide) ?_
  refine lv_istore_n (lv' := [(3, .int 0), (0, .ref (ga g 115)), (1, .ref (ga g r0)), (2, .int a2)]) hx hb dX0_nobodyWouldRather_1 rfl hl (by decide) rfl (fun ls hl => ?_)
  obtain ⟨x_12, hL_13, hm⟩ := bind_elim hm
  refine wl_X0_nobodyWouldRather_2 X hAll okr0 ?_ ?_ hL_13 _ _ _ hP hS (lv_sub hl [1, 2, 3, 0] rfl)
  · intro _u e_x_12 H locs ls hP hS hl
    subst e_x_12
    replace hm := unS_l hm
    replace hm := un0_e hm
    refine lv_iconst (v := 0) hx hb dX0_nobodyWouldRather_48 (by decide) ?_
    cases hm
    exact x_zret X (by decide) hP hS hr hlocks dX0_nobodyWouldRather_49
  · intro _u e_x_12 H locs ls hP hS hl
    subst e_x_12
    replace hm := unS_r hm
    replace hm := un0_e hm
    refine lv_iconst (v := 1) hx hb dX0_nobodyWouldRather_56 (by decide) ?_
    cases hm
    exact x_zret X (by decide) hP hS hr hlocks dX0_nobodyWouldRather_57


/-! X0_meansAdded -/
def rmX0_meansAdded : Room := { frames := 2, cells := 0, slots := 0, locals := 44 }
theorem uX0_meansAdded_X4 : ∀ w ∈ wsX40, w ∈ wsX0_meansAdded := by decide +kernel
theorem mbX0_meansAdded_1 : Cond.fieldLink RX0 50 "FootANight$Ring" "n" "I" ∈ wsX0_meansAdded := by decide +kernel
theorem uX0_meansAdded_X0 : ∀ w ∈ wsX00, w ∈ wsX0_meansAdded := by decide +kernel
theorem mbX0_meansAdded_3 : Cond.fieldLink RX0 32 "FootANight$Counsel" "means" "[[I" ∈ wsX0_meansAdded := by decide +kernel
set_option maxHeartbeats 4000000 in
set_option maxRecDepth 100000 in
theorem wl_X0_meansAdded_5 (X : CxG g p s m args c cX0_meansAdded 5 RX0 wsX0_meansAdded) (hAll : okAll g) {r0 : Nat} (okr0 : okRing g r0) {fu : Nat} {M : Mem} {s2 : Int32} {x : Int32} (kx0 : ∀ (d3 : Int32) , x = d3 → ∀ (H : Heap) (locs : List Loc) (ls : Array Slot), va_P (gD g) vwCl (wlG g M) H → va_S (AbG g) s.heap H locs → lv_has ls 5 [(3, .int d3)] → W p l e (headSpec wsX0_meansAdded rmX0_meansAdded).room s m args below meth c H locs 0 0 Q (F0 m 48 ls [])) {n : Nat} {q0 : Int32 × Int32} (h : lp (b_X0_meansAdded_5 fu r0 M s2) n q0 = some x) : ∀ (H : Heap) (locs : List Loc) (ls : Array Slot), va_P (gD g) vwCl (wlG g M) H → va_S (AbG g) s.heap H locs → lv_has ls 5 [(0, .ref (ga g 115)), (1, .ref (ga g r0)), (2, .int s2), (3, .int q0.1), (4, .int q0.2)] → W p l e (headSpec wsX0_meansAdded rmX0_meansAdded).room s m args below meth c H locs 0 0 Q (F0 m 5 ls []) := by
  refine lp_elim (P := fun q0 : Int32 × Int32 => ∀ (H : Heap) (locs : List Loc) (ls : Array Slot), va_P (gD g) vwCl (wlG g M) H → va_S (AbG g) s.heap H locs → lv_has ls 5 [(0, .ref (ga g 115)), (1, .ref (ga g r0)), (2, .int s2), (3, .int q0.1), (4, .int q0.2)] → W p l e (headSpec wsX0_meansAdded rmX0_meansAdded).room s m args below meth c H locs 0 0 Q (F0 m 5 ls [])) (fun q1 o hm hI hX => ?_) n q0 h
  obtain ⟨c3, c4⟩ := q1
  have kb : ∀ (d3 : Int32) (d4 : Int32) , o = .inl (d3, d4) → ∀ (H : Heap) (locs : List Loc) (ls : Array Slot), va_P (gD g) vwCl (wlG g M) H → va_S (AbG g) s.heap H locs → lv_has ls 5 [(0, .ref (ga g 115)), (1, .ref (ga g r0)), (2, .int s2), (3, .int d3), (4, .int d4)] → W p l e (headSpec wsX0_meansAdded rmX0_meansAdded).room s m args below meth c H locs 0 0 Q (F0 m 5 ls []) := fun d3 d4 e => hI _ e
  have kx0 : ∀ (d3 : Int32) , o = .inr d3 → ∀ (H : Heap) (locs : List Loc) (ls : Array Slot), va_P (gD g) vwCl (wlG g M) H → va_S (AbG g) s.heap H locs → lv_has ls 5 [(3, .int d3)] → W p l e (headSpec wsX0_meansAdded rmX0_meansAdded).room s m args below meth c H locs 0 0 Q (F0 m 48 ls []) := fun d3 e => kx0 d3 (hX _ e).symm
  clear hI hX
  intro H locs ls hP hS hl
  obtain ⟨⟨hx, hb, hml, hown, hts⟩, -, -⟩ := id X
  have hl : lv_has ls 5 [(0, .ref (ga g 115)), (1, .ref (ga g r0)), (2, .int s2), (3, .int c3), (4, .int c4)] := hl
  have hP : va_P (gD g) vwCl (wlG g M) H := hP
  unfold b_X0_meansAdded_5 at hm
  replace hm := un2_e hm
  refine lv_iload hx hb dX0_meansAdded_5 (lv_at hl 4 rfl) ?_
  refine lv_aload_n hx hb dX0_meansAdded_7 rfl (lv_at hl 1 rfl) ?_
  refine xg_X4_0 X hP okr0 uX0_meansAdded_X4 mbX0_meansAdded_1 dX0_meansAdded_8 ?_
  refine lv_icmp_ge (tgt := 48) hx hb dX0_meansAdded_11 (by decide) (fun h_1 => ?_) (fun h_1 => ?_)
  · rw [if_pos h_1] at hm
    exact kx0 c3 (Option.some.inj hm).symm _ _ _ hP hS (lv_sub hl [3] rfl)
  · rw [if_neg h_1] at hm
    refine lv_iload_n hx hb dX0_meansAdded_14 rfl (lv_at hl 3 rfl) ?_
    refine lv_aload_n hx hb dX0_meansAdded_15 rfl (lv_at hl 0 rfl) ?_
    refine xg_X0_6 X hP hAll uX0_meansAdded_X0 mbX0_meansAdded_3 dX0_meansAdded_16 ?_
    refine lv_iload hx hb dX0_meansAdded_19 (lv_at hl 4 rfl) ?_
    obtain ⟨hb_2, hm⟩ := chk_elim hm
    refine x_aaldI X hP (okc_116 hAll) hb_2 dX0_meansAdded_21 ?_
    refine lv_iconst (v := 4) hx hb dX0_meansAdded_22 (by decide) ?_
    refine lv_aload_n hx hb dX0_meansAdded_23 rfl (lv_at hl 1 rfl) ?_
    refine lv_iload_n hx hb dX0_meansAdded_24 rfl (lv_at hl 2 rfl) ?_
    refine lv_iload hx hb dX0_meansAdded_25 (lv_at hl 4 rfl) ?_
    obtain ⟨r_4, hc_3, hm⟩ := bind_elim hm
    refine x_calli (x_runS (As := [.ref (ga g r0), .int s2, .int c4]) (rest := [.int 4, .ref (ga g (118 + ix c4)), .int c3]) X hP hS (c_X0_around l X.2.2 okr0 hc_3) (va_cwS 3 hts gX0_meansAdded_X0_around rfl rfl rfl (by decide +kernel) ⟨Nat.le_of_ble_eq_true rfl, Nat.le_of_ble_eq_true rfl⟩) rfl hl.1 rfl (Nat.le_of_ble_eq_true rfl) dX0_meansAdded_27 ⟨Nat.zero_le _, Nat.zero_le _⟩) hS (fun H locs hP hS => ?_)
    refine lv_imul hx hb dX0_meansAdded_30 ?_
    refine lv_aload_n hx hb dX0_meansAdded_31 rfl (lv_at hl 1 rfl) ?_
    refine lv_iload_n hx hb dX0_meansAdded_32 rfl (lv_at hl 2 rfl) ?_
    refine lv_iload hx hb dX0_meansAdded_33 (lv_at hl 4 rfl) ?_
    obtain ⟨r_6, hc_5, hm⟩ := bind_elim hm
    refine x_calli (x_runS (As := [.ref (ga g r0), .int s2, .int c4]) (rest := [.int (4 * r_4), .ref (ga g (118 + ix c4)), .int c3]) X hP hS (c_X0_digit l X.2.2 okr0 hc_5) (va_cwS 3 hts gX0_meansAdded_X0_digit rfl rfl rfl (by decide +kernel) ⟨Nat.le_of_ble_eq_true rfl, Nat.le_of_ble_eq_true rfl⟩) rfl hl.1 rfl (Nat.le_of_ble_eq_true rfl) dX0_meansAdded_35 ⟨Nat.zero_le _, Nat.zero_le _⟩) hS (fun H locs hP hS => ?_)
    refine lv_iadd hx hb dX0_meansAdded_38 ?_
    obtain ⟨hb_7, hm⟩ := chk_elim hm
    refine x_iald X hP (okr_116 hAll (inb_lt hb_2)) hb_7 dX0_meansAdded_39 ?_
    refine lv_iadd hx hb dX0_meansAdded_40 ?_
    obtain ⟨v_8, hv_9, hm⟩ := bnd_elim hm
    refine x_name hv_9 ?_
    refine lv_istore_n (lv' := [(3, .int v_8), (0, .ref (ga g 115)), (1, .ref (ga g r0)), (2, .int s2), (4, .int c4)]) hx hb dX0_meansAdded_41 rfl hl (by decide) rfl (fun ls hl => ?_)
    obtain ⟨v_10, hv_11, hm⟩ := bnd_elim hm
    refine lv_iinc (v := v_10) (lv' := [(4, .int v_10), (3, .int v_8), (0, .ref (ga g 115)), (1, .ref (ga g r0)), (2, .int s2)]) hx hb dX0_meansAdded_42 hl (k := 4) rfl (by rw [hv_11]; rfl) (by decide) rfl (fun ls hl => ?_)
    refine lv_goto (tgt := 5) hx hb dX0_meansAdded_45 (by decide) ?_
    exact kb v_8 v_10 (Option.some.inj hm).symm _ _ _ hP hS (lv_sub hl [2, 3, 4, 1, 0] rfl)

set_option maxHeartbeats 4000000 in
set_option maxRecDepth 100000 in
theorem c_X0_meansAdded (l : Launch) {g : GT} (hA : AxG g) (hAll : okAll g) {r0 : Nat} (okr0 : okRing g r0) {fu : Nat} {M : Mem} {a2 : Int32} {rr : Int32} (hm : m_X0_meansAdded fu r0 M a2 = some rr) : CI l yX0_meansAdded wsX0_meansAdded rmX0_meansAdded g [.ref (ga g 115), .ref (ga g r0), .int a2] M rr M := by
  refine Met.ofW (cc := cX0_meansAdded) (maxL := 5) (ret := (some .int)) (by decide) rfl ?_
  intro p e s m args below meth c s₁ B hml hv
  obtain ⟨rfl, hSx, hP⟩ := hv
  have hr := B.returns
  have hlocks := B.notSynchronized
  have X : CxG g p s m _ c cX0_meansAdded 5 RX0 wsX0_meansAdded := ⟨⟨B.exec, B.bytes, hml, findClass_of_methodNamed B.named, atoms_spec (ws := wsX0_meansAdded) B.pre⟩, hSx, hA⟩
  have hS : va_S (AbG g) s.heap s.heap [] := va_S.rf
  have hl := lv_entry (([.ref (ga g 115), .ref (ga g r0), .int a2] : List Value)) (n := 5) (Nat.le_of_ble_eq_true rfl)
  rw [lg_entry_eq]
  generalize (lg_sl (([.ref (ga g 115), .ref (ga g r0), .int a2] : List Value)) ++ List.replicate (5 - (lg_sl (([.ref (ga g 115), .ref (ga g r0), .int a2] : List Value))).length) Slot.unset).toArray = ls at hl ⊢
  have hl : lv_has ls 5 [(0, .ref (ga g 115)), (1, .ref (ga g r0)), (2, .int a2)] := hl
  obtain ⟨⟨hx, hb, hml, hown, hts⟩, -, -⟩ := id X
  unfold m_X0_meansAdded at hm
  refine lv_iconst (v := 0) hx hb dX0_meansAdded_0 (by decide) ?_
  refine lv_istore_n (lv' := [(3, .int 0), (0, .ref (ga g 115)), (1, .ref (ga g r0)), (2, .int a2)]) hx hb dX0_meansAdded_1 rfl hl (by decide) rfl (fun ls hl => ?_)
  refine lv_iconst (v := 0) hx hb dX0_meansAdded_2 (by decide) ?_
  refine lv_istore (lv' := [(4, .int 0), (3, .int 0), (0, .ref (ga g 115)), (1, .ref (ga g r0)), (2, .int a2)]) hx hb dX0_meansAdded_3 hl (by decide) rfl (fun ls hl => ?_)
  obtain ⟨v_14, hL_13, hm⟩ := bind_elim hm
  refine wl_X0_meansAdded_5 X hAll okr0 ?_ hL_13 _ _ _ hP hS (lv_sub hl [2, 3, 4, 1, 0] rfl)
  · intro z_v_14 e_v_14 H locs ls hP hS hl
    subst e_v_14
    replace hm := un1_e hm
    refine lv_iload_n hx hb dX0_meansAdded_48 rfl (lv_at hl 0 rfl) ?_
    cases hm
    exact x_iret X hP hS hr hlocks dX0_meansAdded_49


/-! X0_findRests -/
def rmX0_findRests : Room := { frames := 5, cells := 0, slots := 0, locals := 121 }
theorem uX0_findRests_X0 : ∀ w ∈ wsX00, w ∈ wsX0_findRests := by decide +kernel
theorem mbX0_findRests_1 : Cond.fieldLink RX0 9 "FootANight$Counsel" "restCount" "I" ∈ wsX0_findRests := by decide +kernel
theorem mbX0_findRests_2 : Cond.fieldLink RX0 15 "FootANight$Counsel" "restFirst" "I" ∈ wsX0_findRests := by decide +kernel
theorem mbX0_findRests_3 : Cond.fieldLink RX0 18 "FootANight$Counsel" "restMost" "I" ∈ wsX0_findRests := by decide +kernel
theorem mbX0_findRests_4 : Cond.fieldLink RX0 21 "FootANight$Counsel" "restAlike" "I" ∈ wsX0_findRests := by decide +kernel
theorem uX0_findRests_X4 : ∀ w ∈ wsX40, w ∈ wsX0_findRests := by decide +kernel
theorem mbX0_findRests_6 : Cond.fieldLink RX0 50 "FootANight$Ring" "n" "I" ∈ wsX0_findRests := by decide +kernel
set_option maxHeartbeats 4000000 in
set_option maxRecDepth 100000 in
theorem wj_X0_findRests_142i (X : CxG g p s m args c cX0_findRests 8 RX0 wsX0_findRests) (hAll : okAll g) {r0 : Nat} (okr0 : okRing g r0) {fu : Nat} {M : Mem} {s2 : Int32} {s3 : Int32} {s4 : Int32} {s5 : Int32} {o : (Int32 × Int32 × Mem) ⊕ (Mem)} (kb : ∀ (d4 : Int32) (d5 : Int32) (M2 : Mem) , o = .inl (d4, d5, M2) → ∀ (H : Heap) (locs : List Loc) (ls : Array Slot), va_P (gD g) vwCl (wlG g M2) H → va_S (AbG g) s.heap H locs → lv_has ls 8 [(0, .ref (ga g 115)), (1, .ref (ga g r0)), (2, .int s2), (3, .int s3), (4, .int d4), (5, .int d5)] → W p l e (headSpec wsX0_findRests rmX0_findRests).room s m args below meth c H locs 0 0 Q (F0 m 46 ls [])) (kx0 : ∀ (M2 : Mem) , o = .inr M2 → ∀ (H : Heap) (locs : List Loc) (ls : Array Slot), va_P (gD g) vwCl (wlG g M2) H → va_S (AbG g) s.heap H locs → lv_has ls 8 [] → W p l e (headSpec wsX0_findRests rmX0_findRests).room s m args below meth c H locs 0 0 Q (F0 m 158 ls [])) (hm : j_X0_findRests_142i fu r0 M s2 s3 s4 s5 = some o) {H : Heap} {locs : List Loc} {ls : Array Slot} (hP : va_P (gD g) vwCl (wlG g M) H) (hS : va_S (AbG g) s.heap H locs) (hl : lv_has ls 8 [(0, .ref (ga g 115)), (1, .ref (ga g r0)), (2, .int s2), (3, .int s3), (4, .int s4), (5, .int s5)]) : W p l e (headSpec wsX0_findRests rmX0_findRests).room s m args below meth c H locs 0 0 Q (F0 m 142 ls []) := by
  obtain ⟨⟨hx, hb, hml, hown, hts⟩, -, -⟩ := id X
  unfold j_X0_findRests_142i at hm
  refine lv_aload_n hx hb dX0_findRests_142 rfl (lv_at hl 0 rfl) ?_
  refine lv_dup hx hb dX0_findRests_143 rfl ?_
  refine xg_X0_0 X hP hAll uX0_findRests_X0 mbX0_findRests_1 dX0_findRests_144 ?_
  refine lv_iconst (v := 1) hx hb dX0_findRests_147 (by decide) ?_
  refine lv_iadd hx hb dX0_findRests_148 ?_
  obtain ⟨M_28, hM_29, hm⟩ := bnd_elim hm
  refine xp_X0_0 X hP hAll uX0_findRests_X0 mbX0_findRests_1 hS hM_29 dX0_findRests_149 (fun H locs hP hS => ?_)
  obtain ⟨v_30, hv_31, hm⟩ := bnd_elim hm
  refine lv_iinc (v := v_30) (lv' := [(5, .int v_30), (0, .ref (ga g 115)), (1, .ref (ga g r0)), (2, .int s2), (3, .int s3), (4, .int s4)]) hx hb dX0_findRests_152 hl (k := 5) rfl (by rw [hv_31]; rfl) (by decide) rfl (fun ls hl => ?_)
  refine lv_goto (tgt := 46) hx hb dX0_findRests_155 (by decide) ?_
  exact kb s4 v_30 M_28 (Option.some.inj hm).symm _ _ _ hP hS (lv_sub hl [1, 2, 3, 4, 5, 0] rfl)

set_option maxHeartbeats 4000000 in
set_option maxRecDepth 100000 in
theorem wj_X0_findRests_111i (X : CxG g p s m args c cX0_findRests 8 RX0 wsX0_findRests) (hAll : okAll g) {r0 : Nat} (okr0 : okRing g r0) {fu : Nat} {M : Mem} {s2 : Int32} {s3 : Int32} {s4 : Int32} {s5 : Int32} {o : (Int32 × Int32 × Mem) ⊕ (Mem)} (kb : ∀ (d4 : Int32) (d5 : Int32) (M2 : Mem) , o = .inl (d4, d5, M2) → ∀ (H : Heap) (locs : List Loc) (ls : Array Slot), va_P (gD g) vwCl (wlG g M2) H → va_S (AbG g) s.heap H locs → lv_has ls 8 [(0, .ref (ga g 115)), (1, .ref (ga g r0)), (2, .int s2), (3, .int s3), (4, .int d4), (5, .int d5)] → W p l e (headSpec wsX0_findRests rmX0_findRests).room s m args below meth c H locs 0 0 Q (F0 m 46 ls [])) (kx0 : ∀ (M2 : Mem) , o = .inr M2 → ∀ (H : Heap) (locs : List Loc) (ls : Array Slot), va_P (gD g) vwCl (wlG g M2) H → va_S (AbG g) s.heap H locs → lv_has ls 8 [] → W p l e (headSpec wsX0_findRests rmX0_findRests).room s m args below meth c H locs 0 0 Q (F0 m 158 ls [])) (hm : j_X0_findRests_111i fu r0 M s2 s3 s4 s5 = some o) {H : Heap} {locs : List Loc} {ls : Array Slot} (hP : va_P (gD g) vwCl (wlG g M) H) (hS : va_S (AbG g) s.heap H locs) (hl : lv_has ls 8 [(0, .ref (ga g 115)), (1, .ref (ga g r0)), (2, .int s2), (3, .int s3), (4, .int s4), (5, .int s5)]) : W p l e (headSpec wsX0_findRests rmX0_findRests).room s m args below meth c H locs 0 0 Q (F0 m 111 ls []) := by
  obtain ⟨⟨hx, hb, hml, hown, hts⟩, -, -⟩ := id X
  unfold j_X0_findRests_111i at hm
  refine lv_aload_n hx hb dX0_findRests_111 rfl (lv_at hl 1 rfl) ?_
  refine lv_iload hx hb dX0_findRests_112 (lv_at hl 5 rfl) ?_
  refine lv_iconst (v := 0) hx hb dX0_findRests_114 (by decide) ?_
  obtain ⟨r_26, hc_25, hm⟩ := bind_elim hm
  refine x_calli (x_runS (As := [.ref (ga g r0), .int s5, .int 0]) (rest := []) X hP hS (c_X0_digit l X.2.2 okr0 hc_25) (va_cwS 3 hts gX0_findRests_X0_digit rfl rfl rfl (by decide +kernel) ⟨Nat.le_of_ble_eq_true rfl, Nat.le_of_ble_eq_true rfl⟩) rfl hl.1 rfl (Nat.le_of_ble_eq_true rfl) dX0_findRests_115 ⟨Nat.zero_le _, Nat.zero_le _⟩) hS (fun H locs hP hS => ?_)
  refine lv_istore (lv' := [(7, .int r_26), (0, .ref (ga g 115)), (1, .ref (ga g r0)), (2, .int s2), (3, .int s3), (4, .int s4), (5, .int s5)]) hx hb dX0_findRests_118 hl (by decide) rfl (fun ls hl => ?_)
  refine lv_iload hx hb dX0_findRests_120 (lv_at hl 6 rfl) ?_
  refine lv_iload hx hb dX0_findRests_122 (lv_at hl 0 rfl) ?_
  refine lv_iload_n hx hb dX0_findRests_124 rfl (lv_at hl 4 rfl) ?_
  refine lv_imul hx hb dX0_findRests_125 ?_
  refine lv_icmp_ne (tgt := 142) hx hb dX0_findRests_126 (by decide) (fun h_27 => ?_) (fun h_27 => ?_)
  · rw [if_neg h_27] at hm
    exact wj_X0_findRests_142i X hAll okr0 kb kx0 hm hP hS (lv_sub hl [1, 2, 3, 4, 5, 6] rfl)
  · rw [if_pos h_27] at hm
    refine lv_aload_n hx hb dX0_findRests_129 rfl (lv_at hl 1 rfl) ?_
    refine lv_dup hx hb dX0_findRests_130 rfl ?_
    refine xg_X0_3 X hP hAll uX0_findRests_X0 mbX0_findRests_4 dX0_findRests_131 ?_
    refine lv_iconst (v := 1) hx hb dX0_findRests_134 (by decide) ?_
    refine lv_iload hx hb dX0_findRests_135 (lv_at hl 0 rfl) ?_
    refine lv_ishl hx hb dX0_findRests_137 ?_
    refine lv_ior hx hb dX0_findRests_138 ?_
    obtain ⟨M_32, hM_33, hm⟩ := bnd_elim hm
    refine xp_X0_3 X hP hAll uX0_findRests_X0 mbX0_findRests_4 hS hM_33 dX0_findRests_139 (fun H locs hP hS => ?_)
    exact wj_X0_findRests_142i X hAll okr0 kb kx0 hm hP hS (lv_sub hl [1, 2, 3, 4, 5, 6] rfl)

set_option maxHeartbeats 4000000 in
set_option maxRecDepth 100000 in
theorem wj_X0_findRests_101i (X : CxG g p s m args c cX0_findRests 8 RX0 wsX0_findRests) (hAll : okAll g) {r0 : Nat} (okr0 : okRing g r0) {fu : Nat} {M : Mem} {s2 : Int32} {s3 : Int32} {s5 : Int32} {s6 : Int32} {o : (Int32 × Int32 × Mem) ⊕ (Mem)} (kb : ∀ (d4 : Int32) (d5 : Int32) (M2 : Mem) , o = .inl (d4, d5, M2) → ∀ (H : Heap) (locs : List Loc) (ls : Array Slot), va_P (gD g) vwCl (wlG g M2) H → va_S (AbG g) s.heap H locs → lv_has ls 8 [(0, .ref (ga g 115)), (1, .ref (ga g r0)), (2, .int s2), (3, .int s3), (4, .int d4), (5, .int d5)] → W p l e (headSpec wsX0_findRests rmX0_findRests).room s m args below meth c H locs 0 0 Q (F0 m 46 ls [])) (kx0 : ∀ (M2 : Mem) , o = .inr M2 → ∀ (H : Heap) (locs : List Loc) (ls : Array Slot), va_P (gD g) vwCl (wlG g M2) H → va_S (AbG g) s.heap H locs → lv_has ls 8 [] → W p l e (headSpec wsX0_findRests rmX0_findRests).room s m args below meth c H locs 0 0 Q (F0 m 158 ls [])) (hm : j_X0_findRests_101i fu r0 M s2 s3 s5 s6 = some o) {H : Heap} {locs : List Loc} {ls : Array Slot} (hP : va_P (gD g) vwCl (wlG g M) H) (hS : va_S (AbG g) s.heap H locs) (hl : lv_has ls 8 [(0, .ref (ga g 115)), (1, .ref (ga g r0)), (2, .int s2), (3, .int s3), (5, .int s5), (6, .int s6)]) : W p l e (headSpec wsX0_findRests rmX0_findRests).room s m args below meth c H locs 0 0 Q (F0 m 101 ls []) := by
  obtain ⟨⟨hx, hb, hml, hown, hts⟩, -, -⟩ := id X
  unfold j_X0_findRests_101i at hm
  refine lv_aload_n hx hb dX0_findRests_101 rfl (lv_at hl 0 rfl) ?_
  refine lv_iload hx hb dX0_findRests_102 (lv_at hl 4 rfl) ?_
  obtain ⟨M_23, hM_24, hm⟩ := bnd_elim hm
  refine xp_X0_2 X hP hAll uX0_findRests_X0 mbX0_findRests_3 hS hM_24 dX0_findRests_104 (fun H locs hP hS => ?_)
  refine lv_iload hx hb dX0_findRests_107 (lv_at hl 5 rfl) ?_
  refine lv_istore (lv' := [(4, .int s6), (0, .ref (ga g 115)), (1, .ref (ga g r0)), (2, .int s2), (3, .int s3), (5, .int s5), (6, .int s6)]) hx hb dX0_findRests_109 hl (by decide) rfl (fun ls hl => ?_)
  exact wj_X0_findRests_111i X hAll okr0 kb kx0 hm hP hS (lv_sub hl [1, 2, 3, 4, 0, 5] rfl)

set_option maxHeartbeats 4000000 in
set_option maxRecDepth 100000 in
theorem wj_X0_findRests_87i (X : CxG g p s m args c cX0_findRests 8 RX0 wsX0_findRests) (hAll : okAll g) {r0 : Nat} (okr0 : okRing g r0) {fu : Nat} {M : Mem} {s2 : Int32} {s3 : Int32} {s4 : Int32} {s5 : Int32} {s6 : Int32} {o : (Int32 × Int32 × Mem) ⊕ (Mem)} (kb : ∀ (d4 : Int32) (d5 : Int32) (M2 : Mem) , o = .inl (d4, d5, M2) → ∀ (H : Heap) (locs : List Loc) (ls : Array Slot), va_P (gD g) vwCl (wlG g M2) H → va_S (AbG g) s.heap H locs → lv_has ls 8 [(0, .ref (ga g 115)), (1, .ref (ga g r0)), (2, .int s2), (3, .int s3), (4, .int d4), (5, .int d5)] → W p l e (headSpec wsX0_findRests rmX0_findRests).room s m args below meth c H locs 0 0 Q (F0 m 46 ls [])) (kx0 : ∀ (M2 : Mem) , o = .inr M2 → ∀ (H : Heap) (locs : List Loc) (ls : Array Slot), va_P (gD g) vwCl (wlG g M2) H → va_S (AbG g) s.heap H locs → lv_has ls 8 [] → W p l e (headSpec wsX0_findRests rmX0_findRests).room s m args below meth c H locs 0 0 Q (F0 m 158 ls [])) (hm : j_X0_findRests_87i fu r0 M s2 s3 s4 s5 s6 = some o) {H : Heap} {locs : List Loc} {ls : Array Slot} (hP : va_P (gD g) vwCl (wlG g M) H) (hS : va_S (AbG g) s.heap H locs) (hl : lv_has ls 8 [(0, .ref (ga g 115)), (1, .ref (ga g r0)), (2, .int s2), (3, .int s3), (4, .int s4), (5, .int s5), (6, .int s6)]) : W p l e (headSpec wsX0_findRests rmX0_findRests).room s m args below meth c H locs 0 0 Q (F0 m 87 ls []) := by
  obtain ⟨⟨hx, hb, hml, hown, hts⟩, -, -⟩ := id X
  unfold j_X0_findRests_87i at hm
  refine lv_aload_n hx hb dX0_findRests_87 rfl (lv_at hl 0 rfl) ?_
  refine xg_X0_0 X hP hAll uX0_findRests_X0 mbX0_findRests_1 dX0_findRests_88 ?_
  refine lv_if_eq (tgt := 101) hx hb dX0_findRests_91 (by decide) (fun h_22 => ?_) (fun h_22 => ?_)
  · rw [if_pos h_22] at hm
    exact wj_X0_findRests_101i X hAll okr0 kb kx0 hm hP hS (lv_sub hl [0, 1, 2, 3, 5, 6] rfl)
  · rw [if_neg h_22] at hm
    refine lv_iload hx hb dX0_findRests_94 (lv_at hl 6 rfl) ?_
    refine lv_iload hx hb dX0_findRests_96 (lv_at hl 4 rfl) ?_
    refine lv_icmp_le (tgt := 111) hx hb dX0_findRests_98 (by decide) (fun h_34 => ?_) (fun h_34 => ?_)
    · rw [if_pos h_34] at hm
      exact wj_X0_findRests_111i X hAll okr0 kb kx0 hm hP hS (lv_sub hl [0, 1, 2, 3, 4, 5] rfl)
    · rw [if_neg h_34] at hm
      exact wj_X0_findRests_101i X hAll okr0 kb kx0 hm hP hS (lv_sub hl [0, 1, 2, 3, 5, 6] rfl)

set_option maxHeartbeats 4000000 in
set_option maxRecDepth 100000 in
theorem wl_X0_findRests_46 (X : CxG g p s m args c cX0_findRests 8 RX0 wsX0_findRests) (hAll : okAll g) {r0 : Nat} (okr0 : okRing g r0) {fu : Nat} {s2 : Int32} {s3 : Int32} {x : Mem} (kx0 : ∀ (M2 : Mem) , x = M2 → ∀ (H : Heap) (locs : List Loc) (ls : Array Slot), va_P (gD g) vwCl (wlG g M2) H → va_S (AbG g) s.heap H locs → lv_has ls 8 [] → W p l e (headSpec wsX0_findRests rmX0_findRests).room s m args below meth c H locs 0 0 Q (F0 m 158 ls [])) {n : Nat} {q0 : Int32 × Int32 × Mem} (h : lp (b_X0_findRests_46 fu r0 s2 s3) n q0 = some x) : ∀ (H : Heap) (locs : List Loc) (ls : Array Slot), va_P (gD g) vwCl (wlG g q0.2.2) H → va_S (AbG g) s.heap H locs → lv_has ls 8 [(0, .ref (ga g 115)), (1, .ref (ga g r0)), (2, .int s2), (3, .int s3), (4, .int q0.1), (5, .int q0.2.1)] → W p l e (headSpec wsX0_findRests rmX0_findRests).room s m args below meth c H locs 0 0 Q (F0 m 46 ls []) := by
  refine lp_elim (P := fun q0 : Int32 × Int32 × Mem => ∀ (H : Heap) (locs : List Loc) (ls : Array Slot), va_P (gD g) vwCl (wlG g q0.2.2) H → va_S (AbG g) s.heap H locs → lv_has ls 8 [(0, .ref (ga g 115)), (1, .ref (ga g r0)), (2, .int s2), (3, .int s3), (4, .int q0.1), (5, .int q0.2.1)] → W p l e (headSpec wsX0_findRests rmX0_findRests).room s m args below meth c H locs 0 0 Q (F0 m 46 ls [])) (fun q1 o hm hI hX => ?_) n q0 h
  obtain ⟨c4, c5, M⟩ := q1
  have kb : ∀ (d4 : Int32) (d5 : Int32) (M2 : Mem) , o = .inl (d4, d5, M2) → ∀ (H : Heap) (locs : List Loc) (ls : Array Slot), va_P (gD g) vwCl (wlG g M2) H → va_S (AbG g) s.heap H locs → lv_has ls 8 [(0, .ref (ga g 115)), (1, .ref (ga g r0)), (2, .int s2), (3, .int s3), (4, .int d4), (5, .int d5)] → W p l e (headSpec wsX0_findRests rmX0_findRests).room s m args below meth c H locs 0 0 Q (F0 m 46 ls []) := fun d4 d5 M2 e => hI _ e
  have kx0 : ∀ (M2 : Mem) , o = .inr M2 → ∀ (H : Heap) (locs : List Loc) (ls : Array Slot), va_P (gD g) vwCl (wlG g M2) H → va_S (AbG g) s.heap H locs → lv_has ls 8 [] → W p l e (headSpec wsX0_findRests rmX0_findRests).room s m args below meth c H locs 0 0 Q (F0 m 158 ls []) := fun M2 e => kx0 M2 (hX _ e).symm
  clear hI hX
  intro H locs ls hP hS hl
  obtain ⟨⟨hx, hb, hml, hown, hts⟩, -, -⟩ := id X
  have hl : lv_has ls 8 [(0, .ref (ga g 115)), (1, .ref (ga g r0)), (2, .int s2), (3, .int s3), (4, .int c4), (5, .int c5)] := hl
  have hP : va_P (gD g) vwCl (wlG g M) H := hP
  unfold b_X0_findRests_46 at hm
  replace hm := un3_e hm
  refine lv_iload hx hb dX0_findRests_46 (lv_at hl 5 rfl) ?_
  refine lv_iload_n hx hb dX0_findRests_48 rfl (lv_at hl 2 rfl) ?_
  refine lv_icmp_ge (tgt := 158) hx hb dX0_findRests_49 (by decide) (fun h_15 => ?_) (fun h_15 => ?_)
  · rw [if_pos h_15] at hm
    exact kx0 M (Option.some.inj hm).symm _ _ _ hP hS (lv_sub hl [] rfl)
  · rw [if_neg h_15] at hm
    refine lv_aload_n hx hb dX0_findRests_52 rfl (lv_at hl 0 rfl) ?_
    refine lv_aload_n hx hb dX0_findRests_53 rfl (lv_at hl 1 rfl) ?_
    refine lv_iload hx hb dX0_findRests_54 (lv_at hl 5 rfl) ?_
    obtain ⟨r_17, hc_16, hm⟩ := bind_elim hm
    refine x_calli (x_runV (As := [.ref (ga g r0), .int c5]) (rest := []) X hP hS (c_X0_nobodyWouldRather l X.2.2 hAll okr0 hc_16) (cwV 2 hts gX0_findRests_X0_nobodyWouldRather rfl rfl rfl (by decide +kernel) ⟨Nat.le_of_ble_eq_true rfl, Nat.le_of_ble_eq_true rfl⟩) (x_recv (C := RX0) (T := TX0) (N := 12) X hP (okc_115 hAll) rfl) rfl hl.1 rfl (Nat.le_of_ble_eq_true rfl) dX0_findRests_56 ⟨Nat.zero_le _, Nat.zero_le _⟩) hS (fun H locs hP hS => ?_)
    refine lv_if_ne (tgt := 65) hx hb dX0_findRests_59 (by decide) (fun h_18 => ?_) (fun h_18 => ?_)
    · rw [if_neg h_18] at hm
      refine lv_aload_n hx hb dX0_findRests_65 rfl (lv_at hl 0 rfl) ?_
      refine lv_aload_n hx hb dX0_findRests_66 rfl (lv_at hl 1 rfl) ?_
      refine lv_iload hx hb dX0_findRests_67 (lv_at hl 5 rfl) ?_
      obtain ⟨r_20, hc_19, hm⟩ := bind_elim hm
      refine x_calli (x_runV (As := [.ref (ga g r0), .int c5]) (rest := []) X hP hS (c_X0_meansAdded l X.2.2 hAll okr0 hc_19) (cwV 2 hts gX0_findRests_X0_meansAdded rfl rfl rfl (by decide +kernel) ⟨Nat.le_of_ble_eq_true rfl, Nat.le_of_ble_eq_true rfl⟩) (x_recv (C := RX0) (T := TX0) (N := 12) X hP (okc_115 hAll) rfl) rfl hl.1 rfl (Nat.le_of_ble_eq_true rfl) dX0_findRests_69 ⟨Nat.zero_le _, Nat.zero_le _⟩) hS (fun H locs hP hS => ?_)
      refine lv_istore (lv' := [(6, .int r_20), (0, .ref (ga g 115)), (1, .ref (ga g r0)), (2, .int s2), (3, .int s3), (4, .int c4), (5, .int c5)]) hx hb dX0_findRests_72 hl (by decide) rfl (fun ls hl => ?_)
      refine lv_aload_n hx hb dX0_findRests_74 rfl (lv_at hl 1 rfl) ?_
      refine xg_X0_0 X hP hAll uX0_findRests_X0 mbX0_findRests_1 dX0_findRests_75 ?_
      refine lv_if_ne (tgt := 87) hx hb dX0_findRests_78 (by decide) (fun h_21 => ?_) (fun h_21 => ?_)
      · rw [if_neg h_21] at hm
        exact wj_X0_findRests_87i X hAll okr0 kb kx0 hm hP hS (lv_sub hl [1, 2, 3, 4, 5, 6, 0] rfl)
      · rw [if_pos h_21] at hm
        refine lv_aload_n hx hb dX0_findRests_81 rfl (lv_at hl 1 rfl) ?_
        refine lv_iload hx hb dX0_findRests_82 (lv_at hl 6 rfl) ?_
        obtain ⟨M_35, hM_36, hm⟩ := bnd_elim hm
        refine xp_X0_1 X hP hAll uX0_findRests_X0 mbX0_findRests_2 hS hM_36 dX0_findRests_84 (fun H locs hP hS => ?_)
        exact wj_X0_findRests_87i X hAll okr0 kb kx0 hm hP hS (lv_sub hl [1, 2, 3, 4, 5, 6, 0] rfl)
    · rw [if_pos h_18] at hm
      refine lv_goto (tgt := 152) hx hb dX0_findRests_62 (by decide) ?_
      obtain ⟨v_37, hv_38, hm⟩ := bnd_elim hm
      refine lv_iinc (v := v_37) (lv' := [(5, .int v_37), (0, .ref (ga g 115)), (1, .ref (ga g r0)), (2, .int s2), (3, .int s3), (4, .int c4)]) hx hb dX0_findRests_152 hl (k := 5) rfl (by rw [hv_38]; rfl) (by decide) rfl (fun ls hl => ?_)
      refine lv_goto (tgt := 46) hx hb dX0_findRests_155 (by decide) ?_
      exact kb c4 v_37 M (Option.some.inj hm).symm _ _ _ hP hS (lv_sub hl [1, 2, 3, 4, 5, 0] rfl)

set_option maxHeartbeats 4000000 in
set_option maxRecDepth 100000 in
theorem c_X0_findRests (l : Launch) {g : GT} (hA : AxG g) (hAll : okAll g) {r0 : Nat} (okr0 : okRing g r0) {fu : Nat} {M : Mem} {MM : Mem} (hm : m_X0_findRests fu r0 M = some MM) : CV l yX0_findRests wsX0_findRests rmX0_findRests g [.ref (ga g 115), .ref (ga g r0)] M MM := by
  refine Met.ofW (cc := cX0_findRests) (maxL := 8) (ret := none) (by decide) rfl ?_
  intro p e s m args below meth c s₁ B hml hv
  obtain ⟨rfl, hSx, hP⟩ := hv
  have hr := B.returns
  have hlocks := B.notSynchronized
  have X : CxG g p s m _ c cX0_findRests 8 RX0 wsX0_findRests := ⟨⟨B.exec, B.bytes, hml, findClass_of_methodNamed B.named, atoms_spec (ws := wsX0_findRests) B.pre⟩, hSx, hA⟩
  have hS : va_S (AbG g) s.heap s.heap [] := va_S.rf
  have hl := lv_entry (([.ref (ga g 115), .ref (ga g r0)] : List Value)) (n := 8) (Nat.le_of_ble_eq_true rfl)
  rw [lg_entry_eq]
  generalize (lg_sl (([.ref (ga g 115), .ref (ga g r0)] : List Value)) ++ List.replicate (8 - (lg_sl (([.ref (ga g 115), .ref (ga g r0)] : List Value))).length) Slot.unset).toArray = ls at hl ⊢
  have hl : lv_has ls 8 [(0, .ref (ga g 115)), (1, .ref (ga g r0))] := hl
  obtain ⟨⟨hx, hb, hml, hown, hts⟩, -, -⟩ := id X
  unfold m_X0_findRests at hm
  refine lv_aload_n hx hb dX0_findRests_0 rfl (lv_at hl 0 rfl) ?_
  refine lv_aload_n hx hb dX0_findRests_1 rfl (lv_at hl 1 rfl) ?_
  obtain ⟨M_2, hc_1, hm⟩ := bind_elim hm
  refine x_callv (x_runV (As := [.ref (ga g r0)]) (rest := []) X hP hS (c_X0_fillMeans l X.2.2 hAll okr0 hc_1) (cwV 1 hts gX0_findRests_X0_fillMeans rfl rfl rfl (by decide +kernel) ⟨Nat.le_of_ble_eq_true rfl, Nat.le_of_ble_eq_true rfl⟩) (x_recv (C := RX0) (T := TX0) (N := 12) X hP (okc_115 hAll) rfl) rfl hl.1 rfl (Nat.le_of_ble_eq_true rfl) dX0_findRests_2 ⟨Nat.zero_le _, Nat.zero_le _⟩) hS (fun H locs hP hS => ?_)
  refine lv_aload_n hx hb dX0_findRests_5 rfl (lv_at hl 0 rfl) ?_
  refine lv_iconst (v := 0) hx hb dX0_findRests_6 (by decide) ?_
  obtain ⟨M_3, hM_4, hm⟩ := bnd_elim hm
  refine xp_X0_0 X hP hAll uX0_findRests_X0 mbX0_findRests_1 hS hM_4 dX0_findRests_7 (fun H locs hP hS => ?_)
  refine lv_aload_n hx hb dX0_findRests_10 rfl (lv_at hl 0 rfl) ?_
  refine lv_iconst (v := (-1)) hx hb dX0_findRests_11 (by decide) ?_
  obtain ⟨M_5, hM_6, hm⟩ := bnd_elim hm
  refine xp_X0_1 X hP hAll uX0_findRests_X0 mbX0_findRests_2 hS hM_6 dX0_findRests_12 (fun H locs hP hS => ?_)
  refine lv_aload_n hx hb dX0_findRests_15 rfl (lv_at hl 0 rfl) ?_
  refine lv_iconst (v := (-1)) hx hb dX0_findRests_16 (by decide) ?_
  obtain ⟨M_7, hM_8, hm⟩ := bnd_elim hm
  refine xp_X0_2 X hP hAll uX0_findRests_X0 mbX0_findRests_3 hS hM_8 dX0_findRests_17 (fun H locs hP hS => ?_)
  refine lv_aload_n hx hb dX0_findRests_20 rfl (lv_at hl 0 rfl) ?_
  refine lv_iconst (v := 0) hx hb dX0_findRests_21 (by decide) ?_
  obtain ⟨M_9, hM_10, hm⟩ := bnd_elim hm
  refine xp_X0_3 X hP hAll uX0_findRests_X0 mbX0_findRests_4 hS hM_10 dX0_findRests_22 (fun H locs hP hS => ?_)
  refine lv_iconst (v := 1) hx hb dX0_findRests_25 (by decide) ?_
  refine lv_iconst (v := 2) hx hb dX0_findRests_26 (by decide) ?_
  refine lv_aload_n hx hb dX0_findRests_27 rfl (lv_at hl 1 rfl) ?_
  refine xg_X4_0 X hP okr0 uX0_findRests_X4 mbX0_findRests_6 dX0_findRests_28 ?_
  refine lv_imul hx hb dX0_findRests_31 ?_
  refine lv_ishl hx hb dX0_findRests_32 ?_
  obtain ⟨v_11, hv_12, hm⟩ := bnd_elim hm
  refine x_name hv_12 ?_
  refine lv_istore_n (lv' := [(2, .int v_11), (0, .ref (ga g 115)), (1, .ref (ga g r0))]) hx hb dX0_findRests_33 rfl hl (by decide) rfl (fun ls hl => ?_)
  refine lv_iload_n hx hb dX0_findRests_34 rfl (lv_at hl 0 rfl) ?_
  refine lv_iconst (v := 1) hx hb dX0_findRests_35 (by decide) ?_
  refine lv_isub hx hb dX0_findRests_36 ?_
  refine lv_iconst (v := 3) hx hb dX0_findRests_37 (by decide) ?_
  refine lv_idiv hx hb dX0_findRests_38 (by decide) ?_
  obtain ⟨v_13, hv_14, hm⟩ := bnd_elim hm
  refine x_name hv_14 ?_
  refine lv_istore_n (lv' := [(3, .int v_13), (2, .int v_11), (0, .ref (ga g 115)), (1, .ref (ga g r0))]) hx hb dX0_findRests_39 rfl hl (by decide) rfl (fun ls hl => ?_)
  refine lv_iconst (v := 0) hx hb dX0_findRests_40 (by decide) ?_
  refine lv_istore (lv' := [(4, .int 0), (3, .int v_13), (2, .int v_11), (0, .ref (ga g 115)), (1, .ref (ga g r0))]) hx hb dX0_findRests_41 hl (by decide) rfl (fun ls hl => ?_)
  refine lv_iconst (v := 0) hx hb dX0_findRests_43 (by decide) ?_
  refine lv_istore (lv' := [(5, .int 0), (4, .int 0), (3, .int v_13), (2, .int v_11), (0, .ref (ga g 115)), (1, .ref (ga g r0))]) hx hb dX0_findRests_44 hl (by decide) rfl (fun ls hl => ?_)
  obtain ⟨M_41, hL_40, hm⟩ := bind_elim hm
  refine wl_X0_findRests_46 X hAll okr0 ?_ hL_40 _ _ _ hP hS (lv_sub hl [4, 5, 3, 2, 1, 0] rfl)
  · intro z_M_41 e_M_41 H locs ls hP hS hl
    subst e_M_41
    replace hm := un1_e hm
    cases hm
    exact x_vret X hP hS hr hlocks dX0_findRests_158


/-! X0_fillTempted -/
def rmX0_fillTempted : Room := { frames := 4, cells := 0, slots := 0, locals := 95 }
theorem uX0_fillTempted_X0 : ∀ w ∈ wsX00, w ∈ wsX0_fillTempted := by decide +kernel
theorem mbX0_fillTempted_1 : Cond.fieldLink RX0 38 "FootANight$Counsel" "leftIfAsleep" "I" ∈ wsX0_fillTempted := by decide +kernel
theorem mbX0_fillTempted_2 : Cond.fieldLink RX0 41 "FootANight$Counsel" "leftIfWatched" "I" ∈ wsX0_fillTempted := by decide +kernel
theorem mbX0_fillTempted_3 : Cond.fieldLink RX0 44 "FootANight$Counsel" "rightIfAsleep" "I" ∈ wsX0_fillTempted := by decide +kernel
theorem mbX0_fillTempted_4 : Cond.fieldLink RX0 47 "FootANight$Counsel" "rightIfWatched" "I" ∈ wsX0_fillTempted := by decide +kernel
theorem uX0_fillTempted_X4 : ∀ w ∈ wsX40, w ∈ wsX0_fillTempted := by decide +kernel
theorem mbX0_fillTempted_6 : Cond.fieldLink RX0 50 "FootANight$Ring" "n" "I" ∈ wsX0_fillTempted := by decide +kernel
set_option maxHeartbeats 4000000 in
set_option maxRecDepth 100000 in
theorem wj_X0_fillTempted_147i (X : CxG g p s m args c cX0_fillTempted 4 RX0 wsX0_fillTempted) (hAll : okAll g) {r0 : Nat} (okr0 : okRing g r0) {fu : Nat} {M : Mem} {s2 : Int32} {t1 : Int32} {t2 : Int32} {o : (Int32 × Mem) ⊕ (Mem)} (kb : ∀ (d2 : Int32) (M2 : Mem) , o = .inl (d2, M2) → ∀ (H : Heap) (locs : List Loc) (ls : Array Slot), va_P (gD g) vwCl (wlG g M2) H → va_S (AbG g) s.heap H locs → lv_has ls 4 [(0, .ref (ga g 115)), (1, .ref (ga g r0)), (2, .int d2)] → W p l e (headSpec wsX0_fillTempted rmX0_fillTempted).room s m args below meth c H locs 0 0 Q (F0 m 22 ls [])) (kx0 : ∀ (M2 : Mem) , o = .inr M2 → ∀ (H : Heap) (locs : List Loc) (ls : Array Slot), va_P (gD g) vwCl (wlG g M2) H → va_S (AbG g) s.heap H locs → lv_has ls 4 [] → W p l e (headSpec wsX0_fillTempted rmX0_fillTempted).room s m args below meth c H locs 0 0 Q (F0 m 157 ls [])) (hm : j_X0_fillTempted_147i fu r0 M s2 t1 t2 = some o) {H : Heap} {locs : List Loc} {ls : Array Slot} (hP : va_P (gD g) vwCl (wlG g M) H) (hS : va_S (AbG g) s.heap H locs) (hl : lv_has ls 4 [(0, .ref (ga g 115)), (1, .ref (ga g r0)), (2, .int s2)]) : W p l e (headSpec wsX0_fillTempted rmX0_fillTempted).room s m args below meth c H locs 0 0 Q (F0 m 147 ls [.int t2, .int t1, .ref (ga g 115)]) := by
  obtain ⟨⟨hx, hb, hml, hown, hts⟩, -, -⟩ := id X
  unfold j_X0_fillTempted_147i at hm
  refine lv_ior hx hb dX0_fillTempted_147 ?_
  obtain ⟨M_30, hM_31, hm⟩ := bnd_elim hm
  refine xp_X0_11 X hP hAll uX0_fillTempted_X0 mbX0_fillTempted_4 hS hM_31 dX0_fillTempted_148 (fun H locs hP hS => ?_)
  obtain ⟨v_32, hv_33, hm⟩ := bnd_elim hm
  refine lv_iinc (v := v_32) (lv' := [(2, .int v_32), (0, .ref (ga g 115)), (1, .ref (ga g r0))]) hx hb dX0_fillTempted_151 hl (k := 2) rfl (by rw [hv_33]; rfl) (by decide) rfl (fun ls hl => ?_)
  refine lv_goto (tgt := 22) hx hb dX0_fillTempted_154 (by decide) ?_
  exact kb v_32 M_30 (Option.some.inj hm).symm _ _ _ hP hS (lv_sub hl [1, 2, 0] rfl)

set_option maxHeartbeats 4000000 in
set_option maxRecDepth 100000 in
theorem wj_X0_fillTempted_119i (X : CxG g p s m args c cX0_fillTempted 4 RX0 wsX0_fillTempted) (hAll : okAll g) {r0 : Nat} (okr0 : okRing g r0) {fu : Nat} {M : Mem} {s2 : Int32} {s3 : Int32} {t1 : Int32} {t2 : Int32} {o : (Int32 × Mem) ⊕ (Mem)} (kb : ∀ (d2 : Int32) (M2 : Mem) , o = .inl (d2, M2) → ∀ (H : Heap) (locs : List Loc) (ls : Array Slot), va_P (gD g) vwCl (wlG g M2) H → va_S (AbG g) s.heap H locs → lv_has ls 4 [(0, .ref (ga g 115)), (1, .ref (ga g r0)), (2, .int d2)] → W p l e (headSpec wsX0_fillTempted rmX0_fillTempted).room s m args below meth c H locs 0 0 Q (F0 m 22 ls [])) (kx0 : ∀ (M2 : Mem) , o = .inr M2 → ∀ (H : Heap) (locs : List Loc) (ls : Array Slot), va_P (gD g) vwCl (wlG g M2) H → va_S (AbG g) s.heap H locs → lv_has ls 4 [] → W p l e (headSpec wsX0_fillTempted rmX0_fillTempted).room s m args below meth c H locs 0 0 Q (F0 m 157 ls [])) (hm : j_X0_fillTempted_119i fu r0 M s2 s3 t1 t2 = some o) {H : Heap} {locs : List Loc} {ls : Array Slot} (hP : va_P (gD g) vwCl (wlG g M) H) (hS : va_S (AbG g) s.heap H locs) (hl : lv_has ls 4 [(0, .ref (ga g 115)), (1, .ref (ga g r0)), (2, .int s2), (3, .int s3)]) : W p l e (headSpec wsX0_fillTempted rmX0_fillTempted).room s m args below meth c H locs 0 0 Q (F0 m 119 ls [.int t2, .int t1, .ref (ga g 115)]) := by
  obtain ⟨⟨hx, hb, hml, hown, hts⟩, -, -⟩ := id X
  unfold j_X0_fillTempted_119i at hm
  refine lv_ior hx hb dX0_fillTempted_119 ?_
  obtain ⟨M_25, hM_26, hm⟩ := bnd_elim hm
  refine xp_X0_10 X hP hAll uX0_fillTempted_X0 mbX0_fillTempted_3 hS hM_26 dX0_fillTempted_120 (fun H locs hP hS => ?_)
  refine lv_aload_n hx hb dX0_fillTempted_123 rfl (lv_at hl 0 rfl) ?_
  refine lv_dup hx hb dX0_fillTempted_124 rfl ?_
  refine xg_X0_11 X hP hAll uX0_fillTempted_X0 mbX0_fillTempted_4 dX0_fillTempted_125 ?_
  refine lv_aload_n hx hb dX0_fillTempted_128 rfl (lv_at hl 1 rfl) ?_
  refine lv_iload_n hx hb dX0_fillTempted_129 rfl (lv_at hl 2 rfl) ?_
  refine lv_iconst (v := 1) hx hb dX0_fillTempted_130 (by decide) ?_
  refine lv_iconst (v := 3) hx hb dX0_fillTempted_131 (by decide) ?_
  refine lv_iconst (v := 1) hx hb dX0_fillTempted_132 (by decide) ?_
  obtain ⟨r_28, hc_27, hm⟩ := bind_elim hm
  refine x_calli (x_runS (As := [.ref (ga g r0), .int s2, .int 1, .int 3, .int 1]) (rest := [.int (rd M_25 115 11), .ref (ga g 115)]) X hP hS (c_X0_mean l X.2.2 okr0 hc_27) (va_cwS 5 hts gX0_fillTempted_X0_mean rfl rfl rfl (by decide +kernel) ⟨Nat.le_of_ble_eq_true rfl, Nat.le_of_ble_eq_true rfl⟩) rfl hl.1 rfl (Nat.le_of_ble_eq_true rfl) dX0_fillTempted_133 ⟨Nat.zero_le _, Nat.zero_le _⟩) hS (fun H locs hP hS => ?_)
  refine lv_iload_n hx hb dX0_fillTempted_136 rfl (lv_at hl 3 rfl) ?_
  refine lv_icmp_le (tgt := 146) hx hb dX0_fillTempted_137 (by decide) (fun h_29 => ?_) (fun h_29 => ?_)
  · rw [if_pos h_29] at hm
    refine lv_iconst (v := 0) hx hb dX0_fillTempted_146 (by decide) ?_
    exact wj_X0_fillTempted_147i X hAll okr0 kb kx0 hm hP hS (lv_sub hl [0, 1, 2] rfl)
  · rw [if_neg h_29] at hm
    refine lv_iconst (v := 1) hx hb dX0_fillTempted_140 (by decide) ?_
    refine lv_iload_n hx hb dX0_fillTempted_141 rfl (lv_at hl 2 rfl) ?_
    refine lv_ishl hx hb dX0_fillTempted_142 ?_
    refine lv_goto (tgt := 147) hx hb dX0_fillTempted_143 (by decide) ?_
    exact wj_X0_fillTempted_147i X hAll okr0 kb kx0 hm hP hS (lv_sub hl [0, 1, 2] rfl)

set_option maxHeartbeats 4000000 in
set_option maxRecDepth 100000 in
theorem wj_X0_fillTempted_91i (X : CxG g p s m args c cX0_fillTempted 4 RX0 wsX0_fillTempted) (hAll : okAll g) {r0 : Nat} (okr0 : okRing g r0) {fu : Nat} {M : Mem} {s2 : Int32} {s3 : Int32} {t1 : Int32} {t2 : Int32} {o : (Int32 × Mem) ⊕ (Mem)} (kb : ∀ (d2 : Int32) (M2 : Mem) , o = .inl (d2, M2) → ∀ (H : Heap) (locs : List Loc) (ls : Array Slot), va_P (gD g) vwCl (wlG g M2) H → va_S (AbG g) s.heap H locs → lv_has ls 4 [(0, .ref (ga g 115)), (1, .ref (ga g r0)), (2, .int d2)] → W p l e (headSpec wsX0_fillTempted rmX0_fillTempted).room s m args below meth c H locs 0 0 Q (F0 m 22 ls [])) (kx0 : ∀ (M2 : Mem) , o = .inr M2 → ∀ (H : Heap) (locs : List Loc) (ls : Array Slot), va_P (gD g) vwCl (wlG g M2) H → va_S (AbG g) s.heap H locs → lv_has ls 4 [] → W p l e (headSpec wsX0_fillTempted rmX0_fillTempted).room s m args below meth c H locs 0 0 Q (F0 m 157 ls [])) (hm : j_X0_fillTempted_91i fu r0 M s2 s3 t1 t2 = some o) {H : Heap} {locs : List Loc} {ls : Array Slot} (hP : va_P (gD g) vwCl (wlG g M) H) (hS : va_S (AbG g) s.heap H locs) (hl : lv_has ls 4 [(0, .ref (ga g 115)), (1, .ref (ga g r0)), (2, .int s2), (3, .int s3)]) : W p l e (headSpec wsX0_fillTempted rmX0_fillTempted).room s m args below meth c H locs 0 0 Q (F0 m 91 ls [.int t2, .int t1, .ref (ga g 115)]) := by
  obtain ⟨⟨hx, hb, hml, hown, hts⟩, -, -⟩ := id X
  unfold j_X0_fillTempted_91i at hm
  refine lv_ior hx hb dX0_fillTempted_91 ?_
  obtain ⟨M_20, hM_21, hm⟩ := bnd_elim hm
  refine xp_X0_9 X hP hAll uX0_fillTempted_X0 mbX0_fillTempted_2 hS hM_21 dX0_fillTempted_92 (fun H locs hP hS => ?_)
  refine lv_aload_n hx hb dX0_fillTempted_95 rfl (lv_at hl 0 rfl) ?_
  refine lv_dup hx hb dX0_fillTempted_96 rfl ?_
  refine xg_X0_10 X hP hAll uX0_fillTempted_X0 mbX0_fillTempted_3 dX0_fillTempted_97 ?_
  refine lv_aload_n hx hb dX0_fillTempted_100 rfl (lv_at hl 1 rfl) ?_
  refine lv_iload_n hx hb dX0_fillTempted_101 rfl (lv_at hl 2 rfl) ?_
  refine lv_iconst (v := 0) hx hb dX0_fillTempted_102 (by decide) ?_
  refine lv_iconst (v := 3) hx hb dX0_fillTempted_103 (by decide) ?_
  refine lv_iconst (v := 0) hx hb dX0_fillTempted_104 (by decide) ?_
  obtain ⟨r_23, hc_22, hm⟩ := bind_elim hm
  refine x_calli (x_runS (As := [.ref (ga g r0), .int s2, .int 0, .int 3, .int 0]) (rest := [.int (rd M_20 115 10), .ref (ga g 115)]) X hP hS (c_X0_mean l X.2.2 okr0 hc_22) (va_cwS 5 hts gX0_fillTempted_X0_mean rfl rfl rfl (by decide +kernel) ⟨Nat.le_of_ble_eq_true rfl, Nat.le_of_ble_eq_true rfl⟩) rfl hl.1 rfl (Nat.le_of_ble_eq_true rfl) dX0_fillTempted_105 ⟨Nat.zero_le _, Nat.zero_le _⟩) hS (fun H locs hP hS => ?_)
  refine lv_iload_n hx hb dX0_fillTempted_108 rfl (lv_at hl 3 rfl) ?_
  refine lv_icmp_le (tgt := 118) hx hb dX0_fillTempted_109 (by decide) (fun h_24 => ?_) (fun h_24 => ?_)
  · rw [if_pos h_24] at hm
    refine lv_iconst (v := 0) hx hb dX0_fillTempted_118 (by decide) ?_
    exact wj_X0_fillTempted_119i X hAll okr0 kb kx0 hm hP hS (lv_sub hl [0, 1, 2, 3] rfl)
  · rw [if_neg h_24] at hm
    refine lv_iconst (v := 1) hx hb dX0_fillTempted_112 (by decide) ?_
    refine lv_iload_n hx hb dX0_fillTempted_113 rfl (lv_at hl 2 rfl) ?_
    refine lv_ishl hx hb dX0_fillTempted_114 ?_
    refine lv_goto (tgt := 119) hx hb dX0_fillTempted_115 (by decide) ?_
    exact wj_X0_fillTempted_119i X hAll okr0 kb kx0 hm hP hS (lv_sub hl [0, 1, 2, 3] rfl)

set_option maxHeartbeats 4000000 in
set_option maxRecDepth 100000 in
theorem wj_X0_fillTempted_63i (X : CxG g p s m args c cX0_fillTempted 4 RX0 wsX0_fillTempted) (hAll : okAll g) {r0 : Nat} (okr0 : okRing g r0) {fu : Nat} {M : Mem} {s2 : Int32} {s3 : Int32} {t1 : Int32} {t2 : Int32} {o : (Int32 × Mem) ⊕ (Mem)} (kb : ∀ (d2 : Int32) (M2 : Mem) , o = .inl (d2, M2) → ∀ (H : Heap) (locs : List Loc) (ls : Array Slot), va_P (gD g) vwCl (wlG g M2) H → va_S (AbG g) s.heap H locs → lv_has ls 4 [(0, .ref (ga g 115)), (1, .ref (ga g r0)), (2, .int d2)] → W p l e (headSpec wsX0_fillTempted rmX0_fillTempted).room s m args below meth c H locs 0 0 Q (F0 m 22 ls [])) (kx0 : ∀ (M2 : Mem) , o = .inr M2 → ∀ (H : Heap) (locs : List Loc) (ls : Array Slot), va_P (gD g) vwCl (wlG g M2) H → va_S (AbG g) s.heap H locs → lv_has ls 4 [] → W p l e (headSpec wsX0_fillTempted rmX0_fillTempted).room s m args below meth c H locs 0 0 Q (F0 m 157 ls [])) (hm : j_X0_fillTempted_63i fu r0 M s2 s3 t1 t2 = some o) {H : Heap} {locs : List Loc} {ls : Array Slot} (hP : va_P (gD g) vwCl (wlG g M) H) (hS : va_S (AbG g) s.heap H locs) (hl : lv_has ls 4 [(0, .ref (ga g 115)), (1, .ref (ga g r0)), (2, .int s2), (3, .int s3)]) : W p l e (headSpec wsX0_fillTempted rmX0_fillTempted).room s m args below meth c H locs 0 0 Q (F0 m 63 ls [.int t2, .int t1, .ref (ga g 115)]) := by
  obtain ⟨⟨hx, hb, hml, hown, hts⟩, -, -⟩ := id X
  unfold j_X0_fillTempted_63i at hm
  refine lv_ior hx hb dX0_fillTempted_63 ?_
  obtain ⟨M_15, hM_16, hm⟩ := bnd_elim hm
  refine xp_X0_8 X hP hAll uX0_fillTempted_X0 mbX0_fillTempted_1 hS hM_16 dX0_fillTempted_64 (fun H locs hP hS => ?_)
  refine lv_aload_n hx hb dX0_fillTempted_67 rfl (lv_at hl 0 rfl) ?_
  refine lv_dup hx hb dX0_fillTempted_68 rfl ?_
  refine xg_X0_9 X hP hAll uX0_fillTempted_X0 mbX0_fillTempted_2 dX0_fillTempted_69 ?_
  refine lv_aload_n hx hb dX0_fillTempted_72 rfl (lv_at hl 1 rfl) ?_
  refine lv_iload_n hx hb dX0_fillTempted_73 rfl (lv_at hl 2 rfl) ?_
  refine lv_iconst (v := 1) hx hb dX0_fillTempted_74 (by decide) ?_
  refine lv_iconst (v := 2) hx hb dX0_fillTempted_75 (by decide) ?_
  refine lv_iconst (v := 1) hx hb dX0_fillTempted_76 (by decide) ?_
  obtain ⟨r_18, hc_17, hm⟩ := bind_elim hm
  refine x_calli (x_runS (As := [.ref (ga g r0), .int s2, .int 1, .int 2, .int 1]) (rest := [.int (rd M_15 115 9), .ref (ga g 115)]) X hP hS (c_X0_mean l X.2.2 okr0 hc_17) (va_cwS 5 hts gX0_fillTempted_X0_mean rfl rfl rfl (by decide +kernel) ⟨Nat.le_of_ble_eq_true rfl, Nat.le_of_ble_eq_true rfl⟩) rfl hl.1 rfl (Nat.le_of_ble_eq_true rfl) dX0_fillTempted_77 ⟨Nat.zero_le _, Nat.zero_le _⟩) hS (fun H locs hP hS => ?_)
  refine lv_iload_n hx hb dX0_fillTempted_80 rfl (lv_at hl 3 rfl) ?_
  refine lv_icmp_le (tgt := 90) hx hb dX0_fillTempted_81 (by decide) (fun h_19 => ?_) (fun h_19 => ?_)
  · rw [if_pos h_19] at hm
    refine lv_iconst (v := 0) hx hb dX0_fillTempted_90 (by decide) ?_
    exact wj_X0_fillTempted_91i X hAll okr0 kb kx0 hm hP hS (lv_sub hl [0, 1, 2, 3] rfl)
  · rw [if_neg h_19] at hm
    refine lv_iconst (v := 1) hx hb dX0_fillTempted_84 (by decide) ?_
    refine lv_iload_n hx hb dX0_fillTempted_85 rfl (lv_at hl 2 rfl) ?_
    refine lv_ishl hx hb dX0_fillTempted_86 ?_
    refine lv_goto (tgt := 91) hx hb dX0_fillTempted_87 (by decide) ?_
    exact wj_X0_fillTempted_91i X hAll okr0 kb kx0 hm hP hS (lv_sub hl [0, 1, 2, 3] rfl)

set_option maxHeartbeats 4000000 in
set_option maxRecDepth 100000 in
theorem wl_X0_fillTempted_22 (X : CxG g p s m args c cX0_fillTempted 4 RX0 wsX0_fillTempted) (hAll : okAll g) {r0 : Nat} (okr0 : okRing g r0) {fu : Nat} {x : Mem} (kx0 : ∀ (M2 : Mem) , x = M2 → ∀ (H : Heap) (locs : List Loc) (ls : Array Slot), va_P (gD g) vwCl (wlG g M2) H → va_S (AbG g) s.heap H locs → lv_has ls 4 [] → W p l e (headSpec wsX0_fillTempted rmX0_fillTempted).room s m args below meth c H locs 0 0 Q (F0 m 157 ls [])) {n : Nat} {q0 : Int32 × Mem} (h : lp (b_X0_fillTempted_22 fu r0) n q0 = some x) : ∀ (H : Heap) (locs : List Loc) (ls : Array Slot), va_P (gD g) vwCl (wlG g q0.2) H → va_S (AbG g) s.heap H locs → lv_has ls 4 [(0, .ref (ga g 115)), (1, .ref (ga g r0)), (2, .int q0.1)] → W p l e (headSpec wsX0_fillTempted rmX0_fillTempted).room s m args below meth c H locs 0 0 Q (F0 m 22 ls []) := by
  refine lp_elim (P := fun q0 : Int32 × Mem => ∀ (H : Heap) (locs : List Loc) (ls : Array Slot), va_P (gD g) vwCl (wlG g q0.2) H → va_S (AbG g) s.heap H locs → lv_has ls 4 [(0, .ref (ga g 115)), (1, .ref (ga g r0)), (2, .int q0.1)] → W p l e (headSpec wsX0_fillTempted rmX0_fillTempted).room s m args below meth c H locs 0 0 Q (F0 m 22 ls [])) (fun q1 o hm hI hX => ?_) n q0 h
  obtain ⟨c2, M⟩ := q1
  have kb : ∀ (d2 : Int32) (M2 : Mem) , o = .inl (d2, M2) → ∀ (H : Heap) (locs : List Loc) (ls : Array Slot), va_P (gD g) vwCl (wlG g M2) H → va_S (AbG g) s.heap H locs → lv_has ls 4 [(0, .ref (ga g 115)), (1, .ref (ga g r0)), (2, .int d2)] → W p l e (headSpec wsX0_fillTempted rmX0_fillTempted).room s m args below meth c H locs 0 0 Q (F0 m 22 ls []) := fun d2 M2 e => hI _ e
  have kx0 : ∀ (M2 : Mem) , o = .inr M2 → ∀ (H : Heap) (locs : List Loc) (ls : Array Slot), va_P (gD g) vwCl (wlG g M2) H → va_S (AbG g) s.heap H locs → lv_has ls 4 [] → W p l e (headSpec wsX0_fillTempted rmX0_fillTempted).room s m args below meth c H locs 0 0 Q (F0 m 157 ls []) := fun M2 e => kx0 M2 (hX _ e).symm
  clear hI hX
  intro H locs ls hP hS hl
  obtain ⟨⟨hx, hb, hml, hown, hts⟩, -, -⟩ := id X
  have hl : lv_has ls 4 [(0, .ref (ga g 115)), (1, .ref (ga g r0)), (2, .int c2)] := hl
  have hP : va_P (gD g) vwCl (wlG g M) H := hP
  unfold b_X0_fillTempted_22 at hm
  replace hm := un2_e hm
  refine lv_iload_n hx hb dX0_fillTempted_22 rfl (lv_at hl 2 rfl) ?_
  refine lv_aload_n hx hb dX0_fillTempted_23 rfl (lv_at hl 1 rfl) ?_
  refine xg_X4_0 X hP okr0 uX0_fillTempted_X4 mbX0_fillTempted_6 dX0_fillTempted_24 ?_
  refine lv_icmp_ge (tgt := 157) hx hb dX0_fillTempted_27 (by decide) (fun h_9 => ?_) (fun h_9 => ?_)
  · rw [if_pos h_9] at hm
    exact kx0 M (Option.some.inj hm).symm _ _ _ hP hS (lv_sub hl [] rfl)
  · rw [if_neg h_9] at hm
    refine lv_aload_n hx hb dX0_fillTempted_30 rfl (lv_at hl 1 rfl) ?_
    refine lv_iload_n hx hb dX0_fillTempted_31 rfl (lv_at hl 2 rfl) ?_
    refine lv_iconst (v := 0) hx hb dX0_fillTempted_32 (by decide) ?_
    refine lv_iconst (v := 0) hx hb dX0_fillTempted_33 (by decide) ?_
    refine lv_iconst (v := 0) hx hb dX0_fillTempted_34 (by decide) ?_
    obtain ⟨r_11, hc_10, hm⟩ := bind_elim hm
    refine x_calli (x_runS (As := [.ref (ga g r0), .int c2, .int 0, .int 0, .int 0]) (rest := []) X hP hS (c_X0_mean l X.2.2 okr0 hc_10) (va_cwS 5 hts gX0_fillTempted_X0_mean rfl rfl rfl (by decide +kernel) ⟨Nat.le_of_ble_eq_true rfl, Nat.le_of_ble_eq_true rfl⟩) rfl hl.1 rfl (Nat.le_of_ble_eq_true rfl) dX0_fillTempted_35 ⟨Nat.zero_le _, Nat.zero_le _⟩) hS (fun H locs hP hS => ?_)
    refine lv_istore_n (lv' := [(3, .int r_11), (0, .ref (ga g 115)), (1, .ref (ga g r0)), (2, .int c2)]) hx hb dX0_fillTempted_38 rfl hl (by decide) rfl (fun ls hl => ?_)
    refine lv_aload_n hx hb dX0_fillTempted_39 rfl (lv_at hl 1 rfl) ?_
    refine lv_dup hx hb dX0_fillTempted_40 rfl ?_
    refine xg_X0_8 X hP hAll uX0_fillTempted_X0 mbX0_fillTempted_1 dX0_fillTempted_41 ?_
    refine lv_aload_n hx hb dX0_fillTempted_44 rfl (lv_at hl 2 rfl) ?_
    refine lv_iload_n hx hb dX0_fillTempted_45 rfl (lv_at hl 3 rfl) ?_
    refine lv_iconst (v := 0) hx hb dX0_fillTempted_46 (by decide) ?_
    refine lv_iconst (v := 2) hx hb dX0_fillTempted_47 (by decide) ?_
    refine lv_iconst (v := 0) hx hb dX0_fillTempted_48 (by decide) ?_
    obtain ⟨r_13, hc_12, hm⟩ := bind_elim hm
    refine x_calli (x_runS (As := [.ref (ga g r0), .int c2, .int 0, .int 2, .int 0]) (rest := [.int (rd M 115 8), .ref (ga g 115)]) X hP hS (c_X0_mean l X.2.2 okr0 hc_12) (va_cwS 5 hts gX0_fillTempted_X0_mean rfl rfl rfl (by decide +kernel) ⟨Nat.le_of_ble_eq_true rfl, Nat.le_of_ble_eq_true rfl⟩) rfl hl.1 rfl (Nat.le_of_ble_eq_true rfl) dX0_fillTempted_49 ⟨Nat.zero_le _, Nat.zero_le _⟩) hS (fun H locs hP hS => ?_)
    refine lv_iload_n hx hb dX0_fillTempted_52 rfl (lv_at hl 0 rfl) ?_
    refine lv_icmp_le (tgt := 62) hx hb dX0_fillTempted_53 (by decide) (fun h_14 => ?_) (fun h_14 => ?_)
    · rw [if_pos h_14] at hm
      refine lv_iconst (v := 0) hx hb dX0_fillTempted_62 (by decide) ?_
      exact wj_X0_fillTempted_63i X hAll okr0 kb kx0 hm hP hS (lv_sub hl [1, 2, 3, 0] rfl)
    · rw [if_neg h_14] at hm
      refine lv_iconst (v := 1) hx hb dX0_fillTempted_56 (by decide) ?_
      refine lv_iload_n hx hb dX0_fillTempted_57 rfl (lv_at hl 3 rfl) ?_
      refine lv_ishl hx hb dX0_fillTempted_58 ?_
      refine lv_goto (tgt := 63) hx hb dX0_fillTempted_59 (by decide) ?_
      exact wj_X0_fillTempted_63i X hAll okr0 kb kx0 hm hP hS (lv_sub hl [1, 2, 3, 0] rfl)

set_option maxHeartbeats 4000000 in
set_option maxRecDepth 100000 in
theorem c_X0_fillTempted (l : Launch) {g : GT} (hA : AxG g) (hAll : okAll g) {r0 : Nat} (okr0 : okRing g r0) {fu : Nat} {M : Mem} {MM : Mem} (hm : m_X0_fillTempted fu r0 M = some MM) : CV l yX0_fillTempted wsX0_fillTempted rmX0_fillTempted g [.ref (ga g 115), .ref (ga g r0)] M MM := by
  refine Met.ofW (cc := cX0_fillTempted) (maxL := 4) (ret := none) (by decide) rfl ?_
  intro p e s m args below meth c s₁ B hml hv
  obtain ⟨rfl, hSx, hP⟩ := hv
  have hr := B.returns
  have hlocks := B.notSynchronized
  have X : CxG g p s m _ c cX0_fillTempted 4 RX0 wsX0_fillTempted := ⟨⟨B.exec, B.bytes, hml, findClass_of_methodNamed B.named, atoms_spec (ws := wsX0_fillTempted) B.pre⟩, hSx, hA⟩
  have hS : va_S (AbG g) s.heap s.heap [] := va_S.rf
  have hl := lv_entry (([.ref (ga g 115), .ref (ga g r0)] : List Value)) (n := 4) (Nat.le_of_ble_eq_true rfl)
  rw [lg_entry_eq]
  generalize (lg_sl (([.ref (ga g 115), .ref (ga g r0)] : List Value)) ++ List.replicate (4 - (lg_sl (([.ref (ga g 115), .ref (ga g r0)] : List Value))).length) Slot.unset).toArray = ls at hl ⊢
  have hl : lv_has ls 4 [(0, .ref (ga g 115)), (1, .ref (ga g r0))] := hl
  obtain ⟨⟨hx, hb, hml, hown, hts⟩, -, -⟩ := id X
  unfold m_X0_fillTempted at hm
  refine lv_aload_n hx hb dX0_fillTempted_0 rfl (lv_at hl 0 rfl) ?_
  refine lv_iconst (v := 0) hx hb dX0_fillTempted_1 (by decide) ?_
  obtain ⟨M_1, hM_2, hm⟩ := bnd_elim hm
  refine xp_X0_8 X hP hAll uX0_fillTempted_X0 mbX0_fillTempted_1 hS hM_2 dX0_fillTempted_2 (fun H locs hP hS => ?_)
  refine lv_aload_n hx hb dX0_fillTempted_5 rfl (lv_at hl 0 rfl) ?_
  refine lv_iconst (v := 0) hx hb dX0_fillTempted_6 (by decide) ?_
  obtain ⟨M_3, hM_4, hm⟩ := bnd_elim hm
  refine xp_X0_9 X hP hAll uX0_fillTempted_X0 mbX0_fillTempted_2 hS hM_4 dX0_fillTempted_7 (fun H locs hP hS => ?_)
  refine lv_aload_n hx hb dX0_fillTempted_10 rfl (lv_at hl 0 rfl) ?_
  refine lv_iconst (v := 0) hx hb dX0_fillTempted_11 (by decide) ?_
  obtain ⟨M_5, hM_6, hm⟩ := bnd_elim hm
  refine xp_X0_10 X hP hAll uX0_fillTempted_X0 mbX0_fillTempted_3 hS hM_6 dX0_fillTempted_12 (fun H locs hP hS => ?_)
  refine lv_aload_n hx hb dX0_fillTempted_15 rfl (lv_at hl 0 rfl) ?_
  refine lv_iconst (v := 0) hx hb dX0_fillTempted_16 (by decide) ?_
  obtain ⟨M_7, hM_8, hm⟩ := bnd_elim hm
  refine xp_X0_11 X hP hAll uX0_fillTempted_X0 mbX0_fillTempted_4 hS hM_8 dX0_fillTempted_17 (fun H locs hP hS => ?_)
  refine lv_iconst (v := 0) hx hb dX0_fillTempted_20 (by decide) ?_
  refine lv_istore_n (lv' := [(2, .int 0), (0, .ref (ga g 115)), (1, .ref (ga g r0))]) hx hb dX0_fillTempted_21 rfl hl (by decide) rfl (fun ls hl => ?_)
  obtain ⟨M_36, hL_35, hm⟩ := bind_elim hm
  refine wl_X0_fillTempted_22 X hAll okr0 ?_ hL_35 _ _ _ hP hS (lv_sub hl [1, 2, 0] rfl)
  · intro z_M_36 e_M_36 H locs ls hP hS hl
    subst e_M_36
    replace hm := un1_e hm
    cases hm
    exact x_vret X hP hS hr hlocks dX0_fillTempted_157


/-! X0_standsStill -/
def rmX0_standsStill : Room := { frames := 0, cells := 0, slots := 0, locals := 0 }
theorem uX0_standsStill_X0 : ∀ w ∈ wsX00, w ∈ wsX0_standsStill := by decide +kernel
theorem mbX0_standsStill_1 : Cond.fieldLink RX0 38 "FootANight$Counsel" "leftIfAsleep" "I" ∈ wsX0_standsStill := by decide +kernel
theorem mbX0_standsStill_2 : Cond.fieldLink RX0 41 "FootANight$Counsel" "leftIfWatched" "I" ∈ wsX0_standsStill := by decide +kernel
theorem mbX0_standsStill_3 : Cond.fieldLink RX0 44 "FootANight$Counsel" "rightIfAsleep" "I" ∈ wsX0_standsStill := by decide +kernel
theorem mbX0_standsStill_4 : Cond.fieldLink RX0 47 "FootANight$Counsel" "rightIfWatched" "I" ∈ wsX0_standsStill := by decide +kernel
set_option maxHeartbeats 4000000 in
set_option maxRecDepth 100000 in
theorem c_X0_standsStill (l : Launch) {g : GT} (hA : AxG g) (hAll : okAll g)   {M : Mem} {a1 : Int32} {a2 : Int32} {rr : Int32} (hm : m_X0_standsStill M a1 a2 = some rr) : CI l yX0_standsStill wsX0_standsStill rmX0_standsStill g [.ref (ga g 115), .int a1, .int a2] M rr M := by
  refine Met.ofW (cc := cX0_standsStill) (maxL := 6) (ret := (some .boolean)) (by decide) rfl ?_
  intro p e s m args below meth c s₁ B hml hv
  obtain ⟨rfl, hSx, hP⟩ := hv
  have hr := B.returns
  have hlocks := B.notSynchronized
  have X : CxG g p s m _ c cX0_standsStill 6 RX0 wsX0_standsStill := ⟨⟨B.exec, B.bytes, hml, findClass_of_methodNamed B.named, atoms_spec (ws := wsX0_standsStill) B.pre⟩, hSx, hA⟩
  have hS : va_S (AbG g) s.heap s.heap [] := va_S.rf
  have hl := lv_entry (([.ref (ga g 115), .int a1, .int a2] : List Value)) (n := 6) (Nat.le_of_ble_eq_true rfl)
  rw [lg_entry_eq]
  generalize (lg_sl (([.ref (ga g 115), .int a1, .int a2] : List Value)) ++ List.replicate (6 - (lg_sl (([.ref (ga g 115), .int a1, .int a2] : List Value))).length) Slot.unset).toArray = ls at hl ⊢
  have hl : lv_has ls 6 [(0, .ref (ga g 115)), (1, .int a1), (2, .int a2)] := hl
  obtain ⟨⟨hx, hb, hml, hown, hts⟩, -, -⟩ := id X
  unfold m_X0_standsStill at hm
  refine lv_iload_n hx hb dX0_standsStill_0 rfl (lv_at hl 2 rfl) ?_
  refine lv_iconst (v := 1) hx hb dX0_standsStill_1 (by decide) ?_
  refine lv_ishl hx hb dX0_standsStill_2 ?_
  refine lv_iload_n hx hb dX0_standsStill_3 rfl (lv_at hl 2 rfl) ?_
  refine lv_iload_n hx hb dX0_standsStill_4 rfl (lv_at hl 1 rfl) ?_
  refine lv_iconst (v := 1) hx hb dX0_standsStill_5 (by decide) ?_
  refine lv_isub hx hb dX0_standsStill_6 ?_
  refine lv_ishr hx hb dX0_standsStill_7 ?_
  refine lv_ior hx hb dX0_standsStill_8 ?_
  obtain ⟨v_1, hv_2, hm⟩ := bnd_elim hm
  refine x_name hv_2 ?_
  refine lv_istore_n (lv' := [(3, .int v_1), (0, .ref (ga g 115)), (1, .int a1), (2, .int a2)]) hx hb dX0_standsStill_9 rfl hl (by decide) rfl (fun ls hl => ?_)
  refine lv_iload_n hx hb dX0_standsStill_10 rfl (lv_at hl 3 rfl) ?_
  refine lv_iconst (v := 1) hx hb dX0_standsStill_11 (by decide) ?_
  refine lv_ishr hx hb dX0_standsStill_12 ?_
  refine lv_iload_n hx hb dX0_standsStill_13 rfl (lv_at hl 3 rfl) ?_
  refine lv_iload_n hx hb dX0_standsStill_14 rfl (lv_at hl 2 rfl) ?_
  refine lv_iconst (v := 1) hx hb dX0_standsStill_15 (by decide) ?_
  refine lv_isub hx hb dX0_standsStill_16 ?_
  refine lv_ishl hx hb dX0_standsStill_17 ?_
  refine lv_ior hx hb dX0_standsStill_18 ?_
  obtain ⟨v_3, hv_4, hm⟩ := bnd_elim hm
  refine x_name hv_4 ?_
  refine lv_istore (lv' := [(4, .int v_3), (3, .int v_1), (0, .ref (ga g 115)), (1, .int a1), (2, .int a2)]) hx hb dX0_standsStill_19 hl (by decide) rfl (fun ls hl => ?_)
  refine lv_aload_n hx hb dX0_standsStill_21 rfl (lv_at hl 2 rfl) ?_
  refine xg_X0_8 X hP hAll uX0_standsStill_X0 mbX0_standsStill_1 dX0_standsStill_22 ?_
  refine lv_iload_n hx hb dX0_standsStill_25 rfl (lv_at hl 1 rfl) ?_
  refine lv_iconst (v := (-1)) hx hb dX0_standsStill_26 (by decide) ?_
  refine lv_ixor hx hb dX0_standsStill_27 ?_
  refine lv_iand hx hb dX0_standsStill_28 ?_
  refine lv_aload_n hx hb dX0_standsStill_29 rfl (lv_at hl 2 rfl) ?_
  refine xg_X0_9 X hP hAll uX0_standsStill_X0 mbX0_standsStill_2 dX0_standsStill_30 ?_
  refine lv_iload_n hx hb dX0_standsStill_33 rfl (lv_at hl 1 rfl) ?_
  refine lv_iand hx hb dX0_standsStill_34 ?_
  refine lv_ior hx hb dX0_standsStill_35 ?_
  refine lv_aload_n hx hb dX0_standsStill_36 rfl (lv_at hl 2 rfl) ?_
  refine xg_X0_10 X hP hAll uX0_standsStill_X0 mbX0_standsStill_3 dX0_standsStill_37 ?_
  refine lv_iload hx hb dX0_standsStill_40 (lv_at hl 0 rfl) ?_
  refine lv_iconst (v := (-1)) hx hb dX0_standsStill_42 (by decide) ?_
  refine lv_ixor hx hb dX0_standsStill_43 ?_
  refine lv_iand hx hb dX0_standsStill_44 ?_
  refine lv_ior hx hb dX0_standsStill_45 ?_
  refine lv_aload_n hx hb dX0_standsStill_46 rfl (lv_at hl 2 rfl) ?_
  refine xg_X0_11 X hP hAll uX0_standsStill_X0 mbX0_standsStill_4 dX0_standsStill_47 ?_
  refine lv_iload hx hb dX0_standsStill_50 (lv_at hl 0 rfl) ?_
  refine lv_iand hx hb dX0_standsStill_52 ?_
  refine lv_ior hx hb dX0_standsStill_53 ?_
  obtain ⟨v_5, hv_6, hm⟩ := bnd_elim hm
  refine x_name hv_6 ?_
  refine lv_istore (lv' := [(5, .int v_5), (4, .int v_3), (3, .int v_1), (0, .ref (ga g 115)), (1, .int a1), (2, .int a2)]) hx hb dX0_standsStill_54 hl (by decide) rfl (fun ls hl => ?_)
  refine lv_iload hx hb dX0_standsStill_56 (lv_at hl 0 rfl) ?_
  refine lv_iload_n hx hb dX0_standsStill_58 rfl (lv_at hl 5 rfl) ?_
  refine lv_iconst (v := (-1)) hx hb dX0_standsStill_59 (by decide) ?_
  refine lv_ixor hx hb dX0_standsStill_60 ?_
  refine lv_iand hx hb dX0_standsStill_61 ?_
  refine lv_if_ne (tgt := 69) hx hb dX0_standsStill_62 (by decide) (fun h_7 => ?_) (fun h_7 => ?_)
  · rw [if_neg h_7] at hm
    refine lv_iconst (v := 0) hx hb dX0_standsStill_69 (by decide) ?_
    cases hm
    exact x_zret X (by decide) hP hS hr hlocks dX0_standsStill_70
  · rw [if_pos h_7] at hm
    refine lv_iconst (v := 1) hx hb dX0_standsStill_65 (by decide) ?_
    refine lv_goto (tgt := 70) hx hb dX0_standsStill_66 (by decide) ?_
    cases hm
    exact x_zret X (by decide) hP hS hr hlocks dX0_standsStill_70


/-! X0_fewestOf -/
def rmX0_fewestOf : Room := { frames := 1, cells := 0, slots := 0, locals := 25 }

set_option maxHeartbeats 4000000 in
set_option maxRecDepth 100000 in
theorem wj_X0_fewestOf_27i (X : CxG g p s m args c cX0_fewestOf 4 RX0 wsX0_fewestOf) (hAll : okAll g) {fu : Nat} {M : Mem} {s1 : Int32} {s2 : Int32} {s3 : Int32} {o : (Int32 × Int32) ⊕ (Int32)} (kb : ∀ (d2 : Int32) (d3 : Int32) , o = .inl (d2, d3) → ∀ (H : Heap) (locs : List Loc) (ls : Array Slot), va_P (gD g) vwCl (wlG g M) H → va_S (AbG g) s.heap H locs → lv_has ls 4 [(0, .ref (ga g 115)), (1, .int s1), (2, .int d2), (3, .int d3)] → W p l e (headSpec wsX0_fewestOf rmX0_fewestOf).room s m args below meth c H locs 0 0 Q (F0 m 4 ls [])) (kx0 : ∀ (d2 : Int32) , o = .inr d2 → ∀ (H : Heap) (locs : List Loc) (ls : Array Slot), va_P (gD g) vwCl (wlG g M) H → va_S (AbG g) s.heap H locs → lv_has ls 4 [(2, .int d2)] → W p l e (headSpec wsX0_fewestOf rmX0_fewestOf).room s m args below meth c H locs 0 0 Q (F0 m 44 ls [])) (hm : j_X0_fewestOf_27i fu M s1 s2 s3 = some o) {H : Heap} {locs : List Loc} {ls : Array Slot} (hP : va_P (gD g) vwCl (wlG g M) H) (hS : va_S (AbG g) s.heap H locs) (hl : lv_has ls 4 [(0, .ref (ga g 115)), (1, .int s1), (2, .int s2), (3, .int s3)]) : W p l e (headSpec wsX0_fewestOf rmX0_fewestOf).room s m args below meth c H locs 0 0 Q (F0 m 27 ls []) := by
  obtain ⟨⟨hx, hb, hml, hown, hts⟩, -, -⟩ := id X
  unfold j_X0_fewestOf_27i at hm
  refine lv_aload_n hx hb dX0_fewestOf_27 rfl (lv_at hl 0 rfl) ?_
  refine lv_iload_n hx hb dX0_fewestOf_28 rfl (lv_at hl 1 rfl) ?_
  refine lv_iload_n hx hb dX0_fewestOf_29 rfl (lv_at hl 3 rfl) ?_
  obtain ⟨r_4, hc_3, hm⟩ := bind_elim hm
  refine x_calli (x_runV (As := [.int s1, .int s3]) (rest := []) X hP hS (c_X0_standsStill l X.2.2 hAll hc_3) (cwV 2 hts gX0_fewestOf_X0_standsStill rfl rfl rfl (by decide +kernel) ⟨Nat.le_of_ble_eq_true rfl, Nat.le_of_ble_eq_true rfl⟩) (x_recv (C := RX0) (T := TX0) (N := 12) X hP (okc_115 hAll) rfl) rfl hl.1 rfl (Nat.le_of_ble_eq_true rfl) dX0_fewestOf_30 ⟨Nat.zero_le _, Nat.zero_le _⟩) hS (fun H locs hP hS => ?_)
  refine lv_if_eq (tgt := 38) hx hb dX0_fewestOf_33 (by decide) (fun h_5 => ?_) (fun h_5 => ?_)
  · rw [if_pos h_5] at hm
    obtain ⟨v_6, hv_7, hm⟩ := bnd_elim hm
    refine lv_iinc (v := v_6) (lv' := [(3, .int v_6), (0, .ref (ga g 115)), (1, .int s1), (2, .int s2)]) hx hb dX0_fewestOf_38 hl (k := 3) rfl (by rw [hv_7]; rfl) (by decide) rfl (fun ls hl => ?_)
    refine lv_goto (tgt := 4) hx hb dX0_fewestOf_41 (by decide) ?_
    exact kb s2 v_6 (Option.some.inj hm).symm _ _ _ hP hS (lv_sub hl [1, 2, 3, 0] rfl)
  · rw [if_neg h_5] at hm
    refine lv_iload_n hx hb dX0_fewestOf_36 rfl (lv_at hl 3 rfl) ?_
    refine lv_istore_n (lv' := [(2, .int s3), (0, .ref (ga g 115)), (1, .int s1), (3, .int s3)]) hx hb dX0_fewestOf_37 rfl hl (by decide) rfl (fun ls hl => ?_)
    obtain ⟨v_8, hv_9, hm⟩ := bnd_elim hm
    refine lv_iinc (v := v_8) (lv' := [(3, .int v_8), (2, .int s3), (0, .ref (ga g 115)), (1, .int s1)]) hx hb dX0_fewestOf_38 hl (k := 3) rfl (by rw [hv_9]; rfl) (by decide) rfl (fun ls hl => ?_)
    refine lv_goto (tgt := 4) hx hb dX0_fewestOf_41 (by decide) ?_
    exact kb s3 v_8 (Option.some.inj hm).symm _ _ _ hP hS (lv_sub hl [2, 3, 1, 0] rfl)

set_option maxHeartbeats 4000000 in
set_option maxRecDepth 100000 in
theorem wl_X0_fewestOf_4 (X : CxG g p s m args c cX0_fewestOf 4 RX0 wsX0_fewestOf) (hAll : okAll g) {fu : Nat} {M : Mem} {s1 : Int32} {x : Int32} (kx0 : ∀ (d2 : Int32) , x = d2 → ∀ (H : Heap) (locs : List Loc) (ls : Array Slot), va_P (gD g) vwCl (wlG g M) H → va_S (AbG g) s.heap H locs → lv_has ls 4 [(2, .int d2)] → W p l e (headSpec wsX0_fewestOf rmX0_fewestOf).room s m args below meth c H locs 0 0 Q (F0 m 44 ls [])) {n : Nat} {q0 : Int32 × Int32} (h : lp (b_X0_fewestOf_4 fu M s1) n q0 = some x) : ∀ (H : Heap) (locs : List Loc) (ls : Array Slot), va_P (gD g) vwCl (wlG g M) H → va_S (AbG g) s.heap H locs → lv_has ls 4 [(0, .ref (ga g 115)), (1, .int s1), (2, .int q0.1), (3, .int q0.2)] → W p l e (headSpec wsX0_fewestOf rmX0_fewestOf).room s m args below meth c H locs 0 0 Q (F0 m 4 ls []) := by
  refine lp_elim (P := fun q0 : Int32 × Int32 => ∀ (H : Heap) (locs : List Loc) (ls : Array Slot), va_P (gD g) vwCl (wlG g M) H → va_S (AbG g) s.heap H locs → lv_has ls 4 [(0, .ref (ga g 115)), (1, .int s1), (2, .int q0.1), (3, .int q0.2)] → W p l e (headSpec wsX0_fewestOf rmX0_fewestOf).room s m args below meth c H locs 0 0 Q (F0 m 4 ls [])) (fun q1 o hm hI hX => ?_) n q0 h
  obtain ⟨c2, c3⟩ := q1
  have kb : ∀ (d2 : Int32) (d3 : Int32) , o = .inl (d2, d3) → ∀ (H : Heap) (locs : List Loc) (ls : Array Slot), va_P (gD g) vwCl (wlG g M) H → va_S (AbG g) s.heap H locs → lv_has ls 4 [(0, .ref (ga g 115)), (1, .int s1), (2, .int d2), (3, .int d3)] → W p l e (headSpec wsX0_fewestOf rmX0_fewestOf).room s m args below meth c H locs 0 0 Q (F0 m 4 ls []) := fun d2 d3 e => hI _ e
  have kx0 : ∀ (d2 : Int32) , o = .inr d2 → ∀ (H : Heap) (locs : List Loc) (ls : Array Slot), va_P (gD g) vwCl (wlG g M) H → va_S (AbG g) s.heap H locs → lv_has ls 4 [(2, .int d2)] → W p l e (headSpec wsX0_fewestOf rmX0_fewestOf).room s m args below meth c H locs 0 0 Q (F0 m 44 ls []) := fun d2 e => kx0 d2 (hX _ e).symm
  clear hI hX
  intro H locs ls hP hS hl
  obtain ⟨⟨hx, hb, hml, hown, hts⟩, -, -⟩ := id X
  have hl : lv_has ls 4 [(0, .ref (ga g 115)), (1, .int s1), (2, .int c2), (3, .int c3)] := hl
  have hP : va_P (gD g) vwCl (wlG g M) H := hP
  unfold b_X0_fewestOf_4 at hm
  replace hm := un2_e hm
  refine lv_iload_n hx hb dX0_fewestOf_4 rfl (lv_at hl 3 rfl) ?_
  refine lv_iconst (v := 1) hx hb dX0_fewestOf_5 (by decide) ?_
  refine lv_iload_n hx hb dX0_fewestOf_6 rfl (lv_at hl 1 rfl) ?_
  refine lv_ishl hx hb dX0_fewestOf_7 ?_
  refine lv_icmp_ge (tgt := 44) hx hb dX0_fewestOf_8 (by decide) (fun h_1 => ?_) (fun h_1 => ?_)
  · rw [if_pos h_1] at hm
    exact kx0 c2 (Option.some.inj hm).symm _ _ _ hP hS (lv_sub hl [2] rfl)
  · rw [if_neg h_1] at hm
    refine lv_iload_n hx hb dX0_fewestOf_11 rfl (lv_at hl 2 rfl) ?_
    refine lv_iconst (v := (-1)) hx hb dX0_fewestOf_12 (by decide) ?_
    refine lv_icmp_eq (tgt := 27) hx hb dX0_fewestOf_13 (by decide) (fun h_2 => ?_) (fun h_2 => ?_)
    · rw [if_pos h_2] at hm
      exact wj_X0_fewestOf_27i X hAll kb kx0 hm hP hS (lv_sub hl [0, 1, 2, 3] rfl)
    · rw [if_neg h_2] at hm
      refine lv_iload_n hx hb dX0_fewestOf_16 rfl (lv_at hl 3 rfl) ?_
      obtain ⟨r_11, hc_10, hm⟩ := bind_elim hm
      refine x_calli (x_runS (As := [.int c3]) (rest := []) X hP hS (c_J6_bitCount_0f7a4 l X.2.2 hc_10) (va_cwS 1 hts gX0_fewestOf_J6_bitCount_0f7a4 rfl rfl rfl (by decide +kernel) ⟨Nat.le_of_ble_eq_true rfl, Nat.le_of_ble_eq_true rfl⟩) rfl hl.1 rfl (Nat.le_of_ble_eq_true rfl) dX0_fewestOf_17 ⟨Nat.zero_le _, Nat.zero_le _⟩) hS (fun H locs hP hS => ?_)
      refine lv_iload_n hx hb dX0_fewestOf_20 rfl (lv_at hl 2 rfl) ?_
      obtain ⟨r_13, hc_12, hm⟩ := bind_elim hm
      refine x_calli (x_runS (As := [.int c2]) (rest := [.int r_11]) X hP hS (c_J6_bitCount_0f7a4 l X.2.2 hc_12) (va_cwS 1 hts gX0_fewestOf_J6_bitCount_0f7a4 rfl rfl rfl (by decide +kernel) ⟨Nat.le_of_ble_eq_true rfl, Nat.le_of_ble_eq_true rfl⟩) rfl hl.1 rfl (Nat.le_of_ble_eq_true rfl) dX0_fewestOf_21 ⟨Nat.zero_le _, Nat.zero_le _⟩) hS (fun H locs hP hS => ?_)
      refine lv_icmp_ge (tgt := 38) hx hb dX0_fewestOf_24 (by decide) (fun h_14 => ?_) (fun h_14 => ?_)
      · rw [if_pos h_14] at hm
        obtain ⟨v_15, hv_16, hm⟩ := bnd_elim hm
        refine lv_iinc (v := v_15) (lv' := [(3, .int v_15), (0, .ref (ga g 115)), (1, .int s1), (2, .int c2)]) hx hb dX0_fewestOf_38 hl (k := 3) rfl (by rw [hv_16]; rfl) (by decide) rfl (fun ls hl => ?_)
        refine lv_goto (tgt := 4) hx hb dX0_fewestOf_41 (by decide) ?_
        exact kb c2 v_15 (Option.some.inj hm).symm _ _ _ hP hS (lv_sub hl [1, 2, 3, 0] rfl)
      · rw [if_neg h_14] at hm
        exact wj_X0_fewestOf_27i X hAll kb kx0 hm hP hS (lv_sub hl [0, 1, 2, 3] rfl)

set_option maxHeartbeats 4000000 in
set_option maxRecDepth 100000 in
theorem c_X0_fewestOf (l : Launch) {g : GT} (hA : AxG g) (hAll : okAll g)   {fu : Nat} {M : Mem} {a1 : Int32} {rr : Int32} (hm : m_X0_fewestOf fu M a1 = some rr) : CI l yX0_fewestOf wsX0_fewestOf rmX0_fewestOf g [.ref (ga g 115), .int a1] M rr M := by
  refine Met.ofW (cc := cX0_fewestOf) (maxL := 4) (ret := (some .int)) (by decide) rfl ?_
  intro p e s m args below meth c s₁ B hml hv
  obtain ⟨rfl, hSx, hP⟩ := hv
  have hr := B.returns
  have hlocks := B.notSynchronized
  have X : CxG g p s m _ c cX0_fewestOf 4 RX0 wsX0_fewestOf := ⟨⟨B.exec, B.bytes, hml, findClass_of_methodNamed B.named, atoms_spec (ws := wsX0_fewestOf) B.pre⟩, hSx, hA⟩
  have hS : va_S (AbG g) s.heap s.heap [] := va_S.rf
  have hl := lv_entry (([.ref (ga g 115), .int a1] : List Value)) (n := 4) (Nat.le_of_ble_eq_true rfl)
  rw [lg_entry_eq]
  generalize (lg_sl (([.ref (ga g 115), .int a1] : List Value)) ++ List.replicate (4 - (lg_sl (([.ref (ga g 115), .int a1] : List Value))).length) Slot.unset).toArray = ls at hl ⊢
  have hl : lv_has ls 4 [(0, .ref (ga g 115)), (1, .int a1)] := hl
  obtain ⟨⟨hx, hb, hml, hown, hts⟩, -, -⟩ := id X
  unfold m_X0_fewestOf at hm
  refine lv_iconst (v := (-1)) hx hb dX0_fewestOf_0 (by decide) ?_
  refine lv_istore_n (lv' := [(2, .int (-1)), (0, .ref (ga g 115)), (1, .int a1)]) hx hb dX0_fewestOf_1 rfl hl (by decide) rfl (fun ls hl => ?_)
  refine lv_iconst (v := 0) hx hb dX0_fewestOf_2 (by decide) ?_
  refine lv_istore_n (lv' := [(3, .int 0), (2, .int (-1)), (0, .ref (ga g 115)), (1, .int a1)]) hx hb dX0_fewestOf_3 rfl hl (by decide) rfl (fun ls hl => ?_)
  obtain ⟨v_19, hL_18, hm⟩ := bind_elim hm
  refine wl_X0_fewestOf_4 X hAll ?_ hL_18 _ _ _ hP hS (lv_sub hl [2, 3, 1, 0] rfl)
  · intro z_v_19 e_v_19 H locs ls hP hS hl
    subst e_v_19
    replace hm := un1_e hm
    refine lv_iload_n hx hb dX0_fewestOf_44 rfl (lv_at hl 0 rfl) ?_
    cases hm
    exact x_iret X hP hS hr hlocks dX0_fewestOf_45


/-! X0_fewestWatchers -/
def rmX0_fewestWatchers : Room := { frames := 5, cells := 0, slots := 0, locals := 118 }
theorem uX0_fewestWatchers_X4 : ∀ w ∈ wsX40, w ∈ wsX0_fewestWatchers := by decide +kernel
theorem mbX0_fewestWatchers_1 : Cond.fieldLink RX0 50 "FootANight$Ring" "n" "I" ∈ wsX0_fewestWatchers := by decide +kernel
set_option maxHeartbeats 4000000 in
set_option maxRecDepth 100000 in
theorem c_X0_fewestWatchers (l : Launch) {g : GT} (hA : AxG g) (hAll : okAll g) {r0 : Nat} (okr0 : okRing g r0) {fu : Nat} {M : Mem} {rr : Int32} {MM : Mem} (hm : m_X0_fewestWatchers fu r0 M = some (rr, MM)) : CI l yX0_fewestWatchers wsX0_fewestWatchers rmX0_fewestWatchers g [.ref (ga g 115), .ref (ga g r0)] M rr MM := by
  refine Met.ofW (cc := cX0_fewestWatchers) (maxL := 2) (ret := (some .int)) (by decide) rfl ?_
  intro p e s m args below meth c s₁ B hml hv
  obtain ⟨rfl, hSx, hP⟩ := hv
  have hr := B.returns
  have hlocks := B.notSynchronized
  have X : CxG g p s m _ c cX0_fewestWatchers 2 RX0 wsX0_fewestWatchers := ⟨⟨B.exec, B.bytes, hml, findClass_of_methodNamed B.named, atoms_spec (ws := wsX0_fewestWatchers) B.pre⟩, hSx, hA⟩
  have hS : va_S (AbG g) s.heap s.heap [] := va_S.rf
  have hl := lv_entry (([.ref (ga g 115), .ref (ga g r0)] : List Value)) (n := 2) (Nat.le_of_ble_eq_true rfl)
  rw [lg_entry_eq]
  generalize (lg_sl (([.ref (ga g 115), .ref (ga g r0)] : List Value)) ++ List.replicate (2 - (lg_sl (([.ref (ga g 115), .ref (ga g r0)] : List Value))).length) Slot.unset).toArray = ls at hl ⊢
  have hl : lv_has ls 2 [(0, .ref (ga g 115)), (1, .ref (ga g r0))] := hl
  obtain ⟨⟨hx, hb, hml, hown, hts⟩, -, -⟩ := id X
  unfold m_X0_fewestWatchers at hm
  refine lv_aload_n hx hb dX0_fewestWatchers_0 rfl (lv_at hl 0 rfl) ?_
  refine lv_aload_n hx hb dX0_fewestWatchers_1 rfl (lv_at hl 1 rfl) ?_
  obtain ⟨M_2, hc_1, hm⟩ := bind_elim hm
  refine x_callv (x_runV (As := [.ref (ga g r0)]) (rest := []) X hP hS (c_X0_fillTempted l X.2.2 hAll okr0 hc_1) (cwV 1 hts gX0_fewestWatchers_X0_fillTempted rfl rfl rfl (by decide +kernel) ⟨Nat.le_of_ble_eq_true rfl, Nat.le_of_ble_eq_true rfl⟩) (x_recv (C := RX0) (T := TX0) (N := 12) X hP (okc_115 hAll) rfl) rfl hl.1 rfl (Nat.le_of_ble_eq_true rfl) dX0_fewestWatchers_2 ⟨Nat.zero_le _, Nat.zero_le _⟩) hS (fun H locs hP hS => ?_)
  refine lv_aload_n hx hb dX0_fewestWatchers_5 rfl (lv_at hl 0 rfl) ?_
  refine lv_aload_n hx hb dX0_fewestWatchers_6 rfl (lv_at hl 1 rfl) ?_
  refine xg_X4_0 X hP okr0 uX0_fewestWatchers_X4 mbX0_fewestWatchers_1 dX0_fewestWatchers_7 ?_
  obtain ⟨r_4, hc_3, hm⟩ := bind_elim hm
  refine x_calli (x_runV (As := [.int (rd M_2 r0 0)]) (rest := []) X hP hS (c_X0_fewestOf l X.2.2 hAll hc_3) (cwV 1 hts gX0_fewestWatchers_X0_fewestOf rfl rfl rfl (by decide +kernel) ⟨Nat.le_of_ble_eq_true rfl, Nat.le_of_ble_eq_true rfl⟩) (x_recv (C := RX0) (T := TX0) (N := 12) X hP (okc_115 hAll) rfl) rfl hl.1 rfl (Nat.le_of_ble_eq_true rfl) dX0_fewestWatchers_10 ⟨Nat.zero_le _, Nat.zero_le _⟩) hS (fun H locs hP hS => ?_)
  cases hm
  exact x_iret X hP hS hr hlocks dX0_fewestWatchers_13


/-! X0_build -/
def rmX0_build : Room := { frames := 0, cells := 0, slots := 0, locals := 0 }
theorem uX0_build_X4 : ∀ w ∈ wsX40, w ∈ wsX0_build := by decide +kernel
theorem mbX0_build_1 : Cond.fieldLink RX0 50 "FootANight$Ring" "n" "I" ∈ wsX0_build := by decide +kernel
theorem mbX0_build_2 : Cond.fieldLink RX0 104 "FootANight$Ring" "stakes" "[[I" ∈ wsX0_build := by decide +kernel
set_option maxHeartbeats 4000000 in
set_option maxRecDepth 100000 in
theorem wl_X0_build_2 (X : CxG g p s m args c cX0_build 3 RX0 wsX0_build) {r0 : Nat} (okr0 : okRing g r0) {fu : Nat} {s1 : Int32} {x : Mem} (kx0 : ∀ (M2 : Mem) , x = M2 → ∀ (H : Heap) (locs : List Loc) (ls : Array Slot), va_P (gD g) vwCl (wlG g M2) H → va_S (AbG g) s.heap H locs → lv_has ls 3 [] → W p l e (headSpec wsX0_build rmX0_build).room s m args below meth c H locs 0 0 Q (F0 m 29 ls [])) {n : Nat} {q0 : Int32 × Mem} (h : lp (b_X0_build_2 fu r0 s1) n q0 = some x) : ∀ (H : Heap) (locs : List Loc) (ls : Array Slot), va_P (gD g) vwCl (wlG g q0.2) H → va_S (AbG g) s.heap H locs → lv_has ls 3 [(0, .ref (ga g r0)), (1, .int s1), (2, .int q0.1)] → W p l e (headSpec wsX0_build rmX0_build).room s m args below meth c H locs 0 0 Q (F0 m 2 ls []) := by
  refine lp_elim (P := fun q0 : Int32 × Mem => ∀ (H : Heap) (locs : List Loc) (ls : Array Slot), va_P (gD g) vwCl (wlG g q0.2) H → va_S (AbG g) s.heap H locs → lv_has ls 3 [(0, .ref (ga g r0)), (1, .int s1), (2, .int q0.1)] → W p l e (headSpec wsX0_build rmX0_build).room s m args below meth c H locs 0 0 Q (F0 m 2 ls [])) (fun q1 o hm hI hX => ?_) n q0 h
  obtain ⟨c2, M⟩ := q1
  have kb : ∀ (d2 : Int32) (M2 : Mem) , o = .inl (d2, M2) → ∀ (H : Heap) (locs : List Loc) (ls : Array Slot), va_P (gD g) vwCl (wlG g M2) H → va_S (AbG g) s.heap H locs → lv_has ls 3 [(0, .ref (ga g r0)), (1, .int s1), (2, .int d2)] → W p l e (headSpec wsX0_build rmX0_build).room s m args below meth c H locs 0 0 Q (F0 m 2 ls []) := fun d2 M2 e => hI _ e
  have kx0 : ∀ (M2 : Mem) , o = .inr M2 → ∀ (H : Heap) (locs : List Loc) (ls : Array Slot), va_P (gD g) vwCl (wlG g M2) H → va_S (AbG g) s.heap H locs → lv_has ls 3 [] → W p l e (headSpec wsX0_build rmX0_build).room s m args below meth c H locs 0 0 Q (F0 m 29 ls []) := fun M2 e => kx0 M2 (hX _ e).symm
  clear hI hX
  intro H locs ls hP hS hl
  obtain ⟨⟨hx, hb, hml, hown, hts⟩, -, -⟩ := id X
  have hl : lv_has ls 3 [(0, .ref (ga g r0)), (1, .int s1), (2, .int c2)] := hl
  have hP : va_P (gD g) vwCl (wlG g M) H := hP
  unfold b_X0_build_2 at hm
  replace hm := un2_e hm
  refine lv_iload_n hx hb dX0_build_2 rfl (lv_at hl 2 rfl) ?_
  refine lv_aload_n hx hb dX0_build_3 rfl (lv_at hl 0 rfl) ?_
  refine xg_X4_0 X hP okr0 uX0_build_X4 mbX0_build_1 dX0_build_4 ?_
  refine lv_icmp_ge (tgt := 29) hx hb dX0_build_7 (by decide) (fun h_1 => ?_) (fun h_1 => ?_)
  · rw [if_pos h_1] at hm
    exact kx0 M (Option.some.inj hm).symm _ _ _ hP hS (lv_sub hl [] rfl)
  · rw [if_neg h_1] at hm
    refine lv_aload_n hx hb dX0_build_10 rfl (lv_at hl 0 rfl) ?_
    refine xg_X4_7 X hP okr0 uX0_build_X4 mbX0_build_2 dX0_build_11 ?_
    refine lv_iload_n hx hb dX0_build_14 rfl (lv_at hl 2 rfl) ?_
    obtain ⟨hb_2, hm⟩ := chk_elim hm
    refine x_aaldI X hP okr0.stakes hb_2 dX0_build_15 ?_
    refine lv_iconst (v := 0) hx hb dX0_build_16 (by decide) ?_
    refine lv_iload_n hx hb dX0_build_17 rfl (lv_at hl 1 rfl) ?_
    refine lv_iload_n hx hb dX0_build_18 rfl (lv_at hl 2 rfl) ?_
    refine lv_ishr hx hb dX0_build_19 ?_
    refine lv_iconst (v := 1) hx hb dX0_build_20 (by decide) ?_
    refine lv_iand hx hb dX0_build_21 ?_
    obtain ⟨M_3, hM_4, hm⟩ := bnd_elim hm
    refine x_iast X hP hS (okr0.stake (inb_lt hb_2)) hM_4 (show inb 0 4 = true from rfl) dX0_build_22 (fun H locs hP hS => ?_)
    obtain ⟨v_5, hv_6, hm⟩ := bnd_elim hm
    refine lv_iinc (v := v_5) (lv' := [(2, .int v_5), (0, .ref (ga g r0)), (1, .int s1)]) hx hb dX0_build_23 hl (k := 2) rfl (by rw [hv_6]; rfl) (by decide) rfl (fun ls hl => ?_)
    refine lv_goto (tgt := 2) hx hb dX0_build_26 (by decide) ?_
    exact kb v_5 M_3 (Option.some.inj hm).symm _ _ _ hP hS (lv_sub hl [1, 2, 0] rfl)

set_option maxHeartbeats 4000000 in
set_option maxRecDepth 100000 in
theorem c_X0_build (l : Launch) {g : GT} (hA : AxG g) {r0 : Nat} (okr0 : okRing g r0) {fu : Nat} {M : Mem} {a1 : Int32} {MM : Mem} (hm : m_X0_build fu r0 M a1 = some MM) : CV l yX0_build wsX0_build rmX0_build g [.ref (ga g r0), .int a1] M MM := by
  refine Met.ofW (cc := cX0_build) (maxL := 3) (ret := none) (by decide) rfl ?_
  intro p e s m args below meth c s₁ B hml hv
  obtain ⟨rfl, hSx, hP⟩ := hv
  have hr := B.returns
  have hlocks := B.notSynchronized
  have X : CxG g p s m _ c cX0_build 3 RX0 wsX0_build := ⟨⟨B.exec, B.bytes, hml, findClass_of_methodNamed B.named, atoms_spec (ws := wsX0_build) B.pre⟩, hSx, hA⟩
  have hS : va_S (AbG g) s.heap s.heap [] := va_S.rf
  have hl := lv_entry (([.ref (ga g r0), .int a1] : List Value)) (n := 3) (Nat.le_of_ble_eq_true rfl)
  rw [lg_entry_eq]
  generalize (lg_sl (([.ref (ga g r0), .int a1] : List Value)) ++ List.replicate (3 - (lg_sl (([.ref (ga g r0), .int a1] : List Value))).length) Slot.unset).toArray = ls at hl ⊢
  have hl : lv_has ls 3 [(0, .ref (ga g r0)), (1, .int a1)] := hl
  obtain ⟨⟨hx, hb, hml, hown, hts⟩, -, -⟩ := id X
  unfold m_X0_build at hm
  refine lv_iconst (v := 0) hx hb dX0_build_0 (by decide) ?_
  refine lv_istore_n (lv' := [(2, .int 0), (0, .ref (ga g r0)), (1, .int a1)]) hx hb dX0_build_1 rfl hl (by decide) rfl (fun ls hl => ?_)
  obtain ⟨M_9, hL_8, hm⟩ := bind_elim hm
  refine wl_X0_build_2 X okr0 ?_ hL_8 _ _ _ hP hS (lv_sub hl [1, 2, 0] rfl)
  · intro z_M_9 e_M_9 H locs ls hP hS hl
    subst e_M_9
    replace hm := un1_e hm
    cases hm
    exact x_vret X hP hS hr hlocks dX0_build_29


/-! X0_findWalls -/
def rmX0_findWalls : Room := { frames := 5, cells := 0, slots := 0, locals := 118 }
theorem uX0_findWalls_X4 : ∀ w ∈ wsX40, w ∈ wsX0_findWalls := by decide +kernel
theorem mbX0_findWalls_1 : Cond.fieldLink RX0 50 "FootANight$Ring" "n" "I" ∈ wsX0_findWalls := by decide +kernel
theorem mbX0_findWalls_2 : Cond.fieldLink RX0 104 "FootANight$Ring" "stakes" "[[I" ∈ wsX0_findWalls := by decide +kernel
theorem uX0_findWalls_X0 : ∀ w ∈ wsX00, w ∈ wsX0_findWalls := by decide +kernel
theorem mbX0_findWalls_4 : Cond.fieldLink RX0 24 "FootANight$Counsel" "wallSet" "I" ∈ wsX0_findWalls := by decide +kernel
theorem mbX0_findWalls_5 : Cond.fieldLink RX0 27 "FootANight$Counsel" "wallWatchers" "I" ∈ wsX0_findWalls := by decide +kernel
set_option maxHeartbeats 4000000 in
set_option maxRecDepth 100000 in
theorem wl_X0_findWalls_5 (X : CxG g p s m args c cX0_findWalls 9 RX0 wsX0_findWalls) (hAll : okAll g) {r0 : Nat} (okr0 : okRing g r0) {fu : Nat} {M : Mem} {s2 : Int32} {x : Int32} (kx0 : ∀ (d3 : Int32) , x = d3 → ∀ (H : Heap) (locs : List Loc) (ls : Array Slot), va_P (gD g) vwCl (wlG g M) H → va_S (AbG g) s.heap H locs → lv_has ls 9 [(0, .ref (ga g 115)), (1, .ref (ga g r0)), (2, .int s2), (3, .int d3)] → W p l e (headSpec wsX0_findWalls rmX0_findWalls).room s m args below meth c H locs 0 0 Q (F0 m 35 ls [])) {n : Nat} {q0 : Int32 × Int32} (h : lp (b_X0_findWalls_5 fu r0 M s2) n q0 = some x) : ∀ (H : Heap) (locs : List Loc) (ls : Array Slot), va_P (gD g) vwCl (wlG g M) H → va_S (AbG g) s.heap H locs → lv_has ls 9 [(0, .ref (ga g 115)), (1, .ref (ga g r0)), (2, .int s2), (3, .int q0.1), (4, .int q0.2)] → W p l e (headSpec wsX0_findWalls rmX0_findWalls).room s m args below meth c H locs 0 0 Q (F0 m 5 ls []) := by
  refine lp_elim (P := fun q0 : Int32 × Int32 => ∀ (H : Heap) (locs : List Loc) (ls : Array Slot), va_P (gD g) vwCl (wlG g M) H → va_S (AbG g) s.heap H locs → lv_has ls 9 [(0, .ref (ga g 115)), (1, .ref (ga g r0)), (2, .int s2), (3, .int q0.1), (4, .int q0.2)] → W p l e (headSpec wsX0_findWalls rmX0_findWalls).room s m args below meth c H locs 0 0 Q (F0 m 5 ls [])) (fun q1 o hm hI hX => ?_) n q0 h
  obtain ⟨c3, c4⟩ := q1
  have kb : ∀ (d3 : Int32) (d4 : Int32) , o = .inl (d3, d4) → ∀ (H : Heap) (locs : List Loc) (ls : Array Slot), va_P (gD g) vwCl (wlG g M) H → va_S (AbG g) s.heap H locs → lv_has ls 9 [(0, .ref (ga g 115)), (1, .ref (ga g r0)), (2, .int s2), (3, .int d3), (4, .int d4)] → W p l e (headSpec wsX0_findWalls rmX0_findWalls).room s m args below meth c H locs 0 0 Q (F0 m 5 ls []) := fun d3 d4 e => hI _ e
  have kx0 : ∀ (d3 : Int32) , o = .inr d3 → ∀ (H : Heap) (locs : List Loc) (ls : Array Slot), va_P (gD g) vwCl (wlG g M) H → va_S (AbG g) s.heap H locs → lv_has ls 9 [(0, .ref (ga g 115)), (1, .ref (ga g r0)), (2, .int s2), (3, .int d3)] → W p l e (headSpec wsX0_findWalls rmX0_findWalls).room s m args below meth c H locs 0 0 Q (F0 m 35 ls []) := fun d3 e => kx0 d3 (hX _ e).symm
  clear hI hX
  intro H locs ls hP hS hl
  obtain ⟨⟨hx, hb, hml, hown, hts⟩, -, -⟩ := id X
  have hl : lv_has ls 9 [(0, .ref (ga g 115)), (1, .ref (ga g r0)), (2, .int s2), (3, .int c3), (4, .int c4)] := hl
  have hP : va_P (gD g) vwCl (wlG g M) H := hP
  unfold b_X0_findWalls_5 at hm
  replace hm := un2_e hm
  refine lv_iload hx hb dX0_findWalls_5 (lv_at hl 4 rfl) ?_
  refine lv_aload_n hx hb dX0_findWalls_7 rfl (lv_at hl 1 rfl) ?_
  refine xg_X4_0 X hP okr0 uX0_findWalls_X4 mbX0_findWalls_1 dX0_findWalls_8 ?_
  refine lv_icmp_ge (tgt := 35) hx hb dX0_findWalls_11 (by decide) (fun h_1 => ?_) (fun h_1 => ?_)
  · rw [if_pos h_1] at hm
    exact kx0 c3 (Option.some.inj hm).symm _ _ _ hP hS (lv_sub hl [0, 1, 2, 3] rfl)
  · rw [if_neg h_1] at hm
    refine lv_iload_n hx hb dX0_findWalls_14 rfl (lv_at hl 3 rfl) ?_
    refine lv_aload_n hx hb dX0_findWalls_15 rfl (lv_at hl 1 rfl) ?_
    refine xg_X4_7 X hP okr0 uX0_findWalls_X4 mbX0_findWalls_2 dX0_findWalls_16 ?_
    refine lv_iload hx hb dX0_findWalls_19 (lv_at hl 4 rfl) ?_
    obtain ⟨hb_2, hm⟩ := chk_elim hm
    refine x_aaldI X hP okr0.stakes hb_2 dX0_findWalls_21 ?_
    refine lv_iconst (v := 0) hx hb dX0_findWalls_22 (by decide) ?_
    refine x_iald X hP (okr0.stake (inb_lt hb_2)) (show inb 0 4 = true from rfl) dX0_findWalls_23 ?_
    refine lv_iload hx hb dX0_findWalls_24 (lv_at hl 4 rfl) ?_
    refine lv_ishl hx hb dX0_findWalls_26 ?_
    refine lv_ior hx hb dX0_findWalls_27 ?_
    obtain ⟨v_3, hv_4, hm⟩ := bnd_elim hm
    refine x_name hv_4 ?_
    refine lv_istore_n (lv' := [(3, .int v_3), (0, .ref (ga g 115)), (1, .ref (ga g r0)), (2, .int s2), (4, .int c4)]) hx hb dX0_findWalls_28 rfl hl (by decide) rfl (fun ls hl => ?_)
    obtain ⟨v_5, hv_6, hm⟩ := bnd_elim hm
    refine lv_iinc (v := v_5) (lv' := [(4, .int v_5), (3, .int v_3), (0, .ref (ga g 115)), (1, .ref (ga g r0)), (2, .int s2)]) hx hb dX0_findWalls_29 hl (k := 4) rfl (by rw [hv_6]; rfl) (by decide) rfl (fun ls hl => ?_)
    refine lv_goto (tgt := 5) hx hb dX0_findWalls_32 (by decide) ?_
    exact kb v_3 v_5 (Option.some.inj hm).symm _ _ _ hP hS (lv_sub hl [2, 3, 4, 1, 0] rfl)

set_option maxHeartbeats 4000000 in
set_option maxRecDepth 100000 in
theorem wj_X0_findWalls_151i (X : CxG g p s m args c cX0_findWalls 9 RX0 wsX0_findWalls) (hAll : okAll g) {r0 : Nat} (okr0 : okRing g r0) {fu : Nat} {M : Mem} {s2 : Int32} {s3 : Int32} {s5 : Int32} {s8 : Int32} {o : (Int32 × Int32 × Mem) ⊕ (Mem)} (kb : ∀ (d4 : Int32) (d5 : Int32) (M2 : Mem) , o = .inl (d4, d5, M2) → ∀ (H : Heap) (locs : List Loc) (ls : Array Slot), va_P (gD g) vwCl (wlG g M2) H → va_S (AbG g) s.heap H locs → lv_has ls 9 [(0, .ref (ga g 115)), (1, .ref (ga g r0)), (2, .int s2), (3, .int s3), (4, .int d4), (5, .int d5)] → W p l e (headSpec wsX0_findWalls rmX0_findWalls).room s m args below meth c H locs 0 0 Q (F0 m 41 ls [])) (kx0 : ∀ (M2 : Mem) , o = .inr M2 → ∀ (H : Heap) (locs : List Loc) (ls : Array Slot), va_P (gD g) vwCl (wlG g M2) H → va_S (AbG g) s.heap H locs → lv_has ls 9 [] → W p l e (headSpec wsX0_findWalls rmX0_findWalls).room s m args below meth c H locs 0 0 Q (F0 m 172 ls [])) (hm : j_X0_findWalls_151i fu r0 M s2 s3 s5 s8 = some o) {H : Heap} {locs : List Loc} {ls : Array Slot} (hP : va_P (gD g) vwCl (wlG g M) H) (hS : va_S (AbG g) s.heap H locs) (hl : lv_has ls 9 [(0, .ref (ga g 115)), (1, .ref (ga g r0)), (2, .int s2), (3, .int s3), (5, .int s5), (8, .int s8)]) : W p l e (headSpec wsX0_findWalls rmX0_findWalls).room s m args below meth c H locs 0 0 Q (F0 m 151 ls []) := by
  obtain ⟨⟨hx, hb, hml, hown, hts⟩, -, -⟩ := id X
  unfold j_X0_findWalls_151i at hm
  refine lv_iconst (v := 1) hx hb dX0_findWalls_151 (by decide) ?_
  refine lv_istore (lv' := [(4, .int 1), (0, .ref (ga g 115)), (1, .ref (ga g r0)), (2, .int s2), (3, .int s3), (5, .int s5), (8, .int s8)]) hx hb dX0_findWalls_152 hl (by decide) rfl (fun ls hl => ?_)
  refine lv_aload_n hx hb dX0_findWalls_154 rfl (lv_at hl 1 rfl) ?_
  refine lv_iload hx hb dX0_findWalls_155 (lv_at hl 5 rfl) ?_
  obtain ⟨M_27, hM_28, hm⟩ := bnd_elim hm
  refine xp_X0_4 X hP hAll uX0_findWalls_X0 mbX0_findWalls_4 hS hM_28 dX0_findWalls_157 (fun H locs hP hS => ?_)
  refine lv_aload_n hx hb dX0_findWalls_160 rfl (lv_at hl 1 rfl) ?_
  refine lv_iload hx hb dX0_findWalls_161 (lv_at hl 6 rfl) ?_
  obtain ⟨M_29, hM_30, hm⟩ := bnd_elim hm
  refine xp_X0_5 X hP hAll uX0_findWalls_X0 mbX0_findWalls_5 hS hM_30 dX0_findWalls_163 (fun H locs hP hS => ?_)
  obtain ⟨v_31, hv_32, hm⟩ := bnd_elim hm
  refine lv_iinc (v := v_31) (lv' := [(5, .int v_31), (4, .int 1), (0, .ref (ga g 115)), (1, .ref (ga g r0)), (2, .int s2), (3, .int s3), (8, .int s8)]) hx hb dX0_findWalls_166 hl (k := 5) rfl (by rw [hv_32]; rfl) (by decide) rfl (fun ls hl => ?_)
  refine lv_goto (tgt := 41) hx hb dX0_findWalls_169 (by decide) ?_
  exact kb 1 v_31 M_29 (Option.some.inj hm).symm _ _ _ hP hS (lv_sub hl [2, 3, 4, 5, 1, 0] rfl)

set_option maxHeartbeats 4000000 in
set_option maxRecDepth 100000 in
theorem wj_X0_findWalls_114i (X : CxG g p s m args c cX0_findWalls 9 RX0 wsX0_findWalls) (hAll : okAll g) {r0 : Nat} (okr0 : okRing g r0) {fu : Nat} {M : Mem} {s2 : Int32} {s3 : Int32} {s4 : Int32} {s5 : Int32} {s6 : Int32} {t0 : Int32} {o : (Int32 × Int32 × Mem) ⊕ (Mem)} (kb : ∀ (d4 : Int32) (d5 : Int32) (M2 : Mem) , o = .inl (d4, d5, M2) → ∀ (H : Heap) (locs : List Loc) (ls : Array Slot), va_P (gD g) vwCl (wlG g M2) H → va_S (AbG g) s.heap H locs → lv_has ls 9 [(0, .ref (ga g 115)), (1, .ref (ga g r0)), (2, .int s2), (3, .int s3), (4, .int d4), (5, .int d5)] → W p l e (headSpec wsX0_findWalls rmX0_findWalls).room s m args below meth c H locs 0 0 Q (F0 m 41 ls [])) (kx0 : ∀ (M2 : Mem) , o = .inr M2 → ∀ (H : Heap) (locs : List Loc) (ls : Array Slot), va_P (gD g) vwCl (wlG g M2) H → va_S (AbG g) s.heap H locs → lv_has ls 9 [] → W p l e (headSpec wsX0_findWalls rmX0_findWalls).room s m args below meth c H locs 0 0 Q (F0 m 172 ls [])) (hm : j_X0_findWalls_114i fu r0 M s2 s3 s4 s5 s6 t0 = some o) {H : Heap} {locs : List Loc} {ls : Array Slot} (hP : va_P (gD g) vwCl (wlG g M) H) (hS : va_S (AbG g) s.heap H locs) (hl : lv_has ls 9 [(0, .ref (ga g 115)), (1, .ref (ga g r0)), (2, .int s2), (3, .int s3), (4, .int s4), (5, .int s5), (6, .int s6)]) : W p l e (headSpec wsX0_findWalls rmX0_findWalls).room s m args below meth c H locs 0 0 Q (F0 m 114 ls [.int t0]) := by
  obtain ⟨⟨hx, hb, hml, hown, hts⟩, -, -⟩ := id X
  unfold j_X0_findWalls_114i at hm
  refine lv_istore (lv' := [(8, .int t0), (0, .ref (ga g 115)), (1, .ref (ga g r0)), (2, .int s2), (3, .int s3), (4, .int s4), (5, .int s5), (6, .int s6)]) hx hb dX0_findWalls_114 hl (by decide) rfl (fun ls hl => ?_)
  refine lv_iload hx hb dX0_findWalls_116 (lv_at hl 5 rfl) ?_
  refine lv_if_eq (tgt := 151) hx hb dX0_findWalls_118 (by decide) (fun h_26 => ?_) (fun h_26 => ?_)
  · rw [if_pos h_26] at hm
    exact wj_X0_findWalls_151i X hAll okr0 kb kx0 hm hP hS (lv_sub hl [1, 2, 3, 4, 6, 0] rfl)
  · rw [if_neg h_26] at hm
    refine lv_iload hx hb dX0_findWalls_121 (lv_at hl 0 rfl) ?_
    refine lv_aload_n hx hb dX0_findWalls_123 rfl (lv_at hl 1 rfl) ?_
    refine xg_X0_5 X hP hAll uX0_findWalls_X0 mbX0_findWalls_5 dX0_findWalls_124 ?_
    refine lv_icmp_lt (tgt := 151) hx hb dX0_findWalls_127 (by decide) (fun h_33 => ?_) (fun h_33 => ?_)
    · rw [if_pos h_33] at hm
      exact wj_X0_findWalls_151i X hAll okr0 kb kx0 hm hP hS (lv_sub hl [1, 2, 3, 4, 6, 0] rfl)
    · rw [if_neg h_33] at hm
      refine lv_iload hx hb dX0_findWalls_130 (lv_at hl 0 rfl) ?_
      refine lv_aload_n hx hb dX0_findWalls_132 rfl (lv_at hl 1 rfl) ?_
      refine xg_X0_5 X hP hAll uX0_findWalls_X0 mbX0_findWalls_5 dX0_findWalls_133 ?_
      refine lv_icmp_ne (tgt := 166) hx hb dX0_findWalls_136 (by decide) (fun h_34 => ?_) (fun h_34 => ?_)
      · rw [if_neg h_34] at hm
        obtain ⟨v_35, hv_36, hm⟩ := bnd_elim hm
        refine lv_iinc (v := v_35) (lv' := [(5, .int v_35), (8, .int t0), (0, .ref (ga g 115)), (1, .ref (ga g r0)), (2, .int s2), (3, .int s3), (4, .int s4), (6, .int s6)]) hx hb dX0_findWalls_166 hl (k := 6) rfl (by rw [hv_36]; rfl) (by decide) rfl (fun ls hl => ?_)
        refine lv_goto (tgt := 41) hx hb dX0_findWalls_169 (by decide) ?_
        exact kb s4 v_35 M (Option.some.inj hm).symm _ _ _ hP hS (lv_sub hl [2, 3, 4, 5, 6, 0] rfl)
      · rw [if_pos h_34] at hm
        refine lv_iload hx hb dX0_findWalls_139 (lv_at hl 7 rfl) ?_
        refine lv_aload_n hx hb dX0_findWalls_141 rfl (lv_at hl 1 rfl) ?_
        refine xg_X0_4 X hP hAll uX0_findWalls_X0 mbX0_findWalls_4 dX0_findWalls_142 ?_
        obtain ⟨r_38, hc_37, hm⟩ := bind_elim hm
        refine x_calli (x_runS (As := [.int (rd M 115 4)]) (rest := [.int s6]) X hP hS (c_J6_bitCount_0f7a4 l X.2.2 hc_37) (va_cwS 1 hts gX0_findWalls_J6_bitCount_0f7a4 rfl rfl rfl (by decide +kernel) ⟨Nat.le_of_ble_eq_true rfl, Nat.le_of_ble_eq_true rfl⟩) rfl hl.1 rfl (Nat.le_of_ble_eq_true rfl) dX0_findWalls_145 ⟨Nat.zero_le _, Nat.zero_le _⟩) hS (fun H locs hP hS => ?_)
        refine lv_icmp_ge (tgt := 166) hx hb dX0_findWalls_148 (by decide) (fun h_39 => ?_) (fun h_39 => ?_)
        · rw [if_pos h_39] at hm
          obtain ⟨v_40, hv_41, hm⟩ := bnd_elim hm
          refine lv_iinc (v := v_40) (lv' := [(5, .int v_40), (8, .int t0), (0, .ref (ga g 115)), (1, .ref (ga g r0)), (2, .int s2), (3, .int s3), (4, .int s4), (6, .int s6)]) hx hb dX0_findWalls_166 hl (k := 6) rfl (by rw [hv_41]; rfl) (by decide) rfl (fun ls hl => ?_)
          refine lv_goto (tgt := 41) hx hb dX0_findWalls_169 (by decide) ?_
          exact kb s4 v_40 M (Option.some.inj hm).symm _ _ _ hP hS (lv_sub hl [2, 3, 4, 5, 6, 0] rfl)
        · rw [if_neg h_39] at hm
          exact wj_X0_findWalls_151i X hAll okr0 kb kx0 hm hP hS (lv_sub hl [1, 2, 3, 4, 6, 0] rfl)

set_option maxHeartbeats 4000000 in
set_option maxRecDepth 100000 in
theorem wl_X0_findWalls_41 (X : CxG g p s m args c cX0_findWalls 9 RX0 wsX0_findWalls) (hAll : okAll g) {r0 : Nat} (okr0 : okRing g r0) {fu : Nat} {s2 : Int32} {s3 : Int32} {x : Mem} (kx0 : ∀ (M2 : Mem) , x = M2 → ∀ (H : Heap) (locs : List Loc) (ls : Array Slot), va_P (gD g) vwCl (wlG g M2) H → va_S (AbG g) s.heap H locs → lv_has ls 9 [] → W p l e (headSpec wsX0_findWalls rmX0_findWalls).room s m args below meth c H locs 0 0 Q (F0 m 172 ls [])) {n : Nat} {q0 : Int32 × Int32 × Mem} (h : lp (b_X0_findWalls_41 fu r0 s2 s3) n q0 = some x) : ∀ (H : Heap) (locs : List Loc) (ls : Array Slot), va_P (gD g) vwCl (wlG g q0.2.2) H → va_S (AbG g) s.heap H locs → lv_has ls 9 [(0, .ref (ga g 115)), (1, .ref (ga g r0)), (2, .int s2), (3, .int s3), (4, .int q0.1), (5, .int q0.2.1)] → W p l e (headSpec wsX0_findWalls rmX0_findWalls).room s m args below meth c H locs 0 0 Q (F0 m 41 ls []) := by
  refine lp_elim (P := fun q0 : Int32 × Int32 × Mem => ∀ (H : Heap) (locs : List Loc) (ls : Array Slot), va_P (gD g) vwCl (wlG g q0.2.2) H → va_S (AbG g) s.heap H locs → lv_has ls 9 [(0, .ref (ga g 115)), (1, .ref (ga g r0)), (2, .int s2), (3, .int s3), (4, .int q0.1), (5, .int q0.2.1)] → W p l e (headSpec wsX0_findWalls rmX0_findWalls).room s m args below meth c H locs 0 0 Q (F0 m 41 ls [])) (fun q1 o hm hI hX => ?_) n q0 h
  obtain ⟨c4, c5, M⟩ := q1
  have kb : ∀ (d4 : Int32) (d5 : Int32) (M2 : Mem) , o = .inl (d4, d5, M2) → ∀ (H : Heap) (locs : List Loc) (ls : Array Slot), va_P (gD g) vwCl (wlG g M2) H → va_S (AbG g) s.heap H locs → lv_has ls 9 [(0, .ref (ga g 115)), (1, .ref (ga g r0)), (2, .int s2), (3, .int s3), (4, .int d4), (5, .int d5)] → W p l e (headSpec wsX0_findWalls rmX0_findWalls).room s m args below meth c H locs 0 0 Q (F0 m 41 ls []) := fun d4 d5 M2 e => hI _ e
  have kx0 : ∀ (M2 : Mem) , o = .inr M2 → ∀ (H : Heap) (locs : List Loc) (ls : Array Slot), va_P (gD g) vwCl (wlG g M2) H → va_S (AbG g) s.heap H locs → lv_has ls 9 [] → W p l e (headSpec wsX0_findWalls rmX0_findWalls).room s m args below meth c H locs 0 0 Q (F0 m 172 ls []) := fun M2 e => kx0 M2 (hX _ e).symm
  clear hI hX
  intro H locs ls hP hS hl
  obtain ⟨⟨hx, hb, hml, hown, hts⟩, -, -⟩ := id X
  have hl : lv_has ls 9 [(0, .ref (ga g 115)), (1, .ref (ga g r0)), (2, .int s2), (3, .int s3), (4, .int c4), (5, .int c5)] := hl
  have hP : va_P (gD g) vwCl (wlG g M) H := hP
  unfold b_X0_findWalls_41 at hm
  replace hm := un3_e hm
  refine lv_iload hx hb dX0_findWalls_41 (lv_at hl 5 rfl) ?_
  refine lv_iconst (v := 1) hx hb dX0_findWalls_43 (by decide) ?_
  refine lv_aload_n hx hb dX0_findWalls_44 rfl (lv_at hl 1 rfl) ?_
  refine xg_X4_0 X hP okr0 uX0_findWalls_X4 mbX0_findWalls_1 dX0_findWalls_45 ?_
  refine lv_ishl hx hb dX0_findWalls_48 ?_
  refine lv_icmp_ge (tgt := 172) hx hb dX0_findWalls_49 (by decide) (fun h_10 => ?_) (fun h_10 => ?_)
  · rw [if_pos h_10] at hm
    exact kx0 M (Option.some.inj hm).symm _ _ _ hP hS (lv_sub hl [] rfl)
  · rw [if_neg h_10] at hm
    refine lv_iload hx hb dX0_findWalls_52 (lv_at hl 5 rfl) ?_
    obtain ⟨r_12, hc_11, hm⟩ := bind_elim hm
    refine x_calli (x_runS (As := [.int c5]) (rest := []) X hP hS (c_J6_bitCount_0f7a4 l X.2.2 hc_11) (va_cwS 1 hts gX0_findWalls_J6_bitCount_0f7a4 rfl rfl rfl (by decide +kernel) ⟨Nat.le_of_ble_eq_true rfl, Nat.le_of_ble_eq_true rfl⟩) rfl hl.1 rfl (Nat.le_of_ble_eq_true rfl) dX0_findWalls_54 ⟨Nat.zero_le _, Nat.zero_le _⟩) hS (fun H locs hP hS => ?_)
    refine lv_istore (lv' := [(6, .int r_12), (0, .ref (ga g 115)), (1, .ref (ga g r0)), (2, .int s2), (3, .int s3), (4, .int c4), (5, .int c5)]) hx hb dX0_findWalls_57 hl (by decide) rfl (fun ls hl => ?_)
    refine lv_iload hx hb dX0_findWalls_59 (lv_at hl 0 rfl) ?_
    refine lv_iload_n hx hb dX0_findWalls_61 rfl (lv_at hl 3 rfl) ?_
    refine lv_icmp_gt (tgt := 166) hx hb dX0_findWalls_62 (by decide) (fun h_13 => ?_) (fun h_13 => ?_)
    · rw [if_pos h_13] at hm
      obtain ⟨v_14, hv_15, hm⟩ := bnd_elim hm
      refine lv_iinc (v := v_14) (lv' := [(5, .int v_14), (6, .int r_12), (0, .ref (ga g 115)), (1, .ref (ga g r0)), (2, .int s2), (3, .int s3), (4, .int c4)]) hx hb dX0_findWalls_166 hl (k := 6) rfl (by rw [hv_15]; rfl) (by decide) rfl (fun ls hl => ?_)
      refine lv_goto (tgt := 41) hx hb dX0_findWalls_169 (by decide) ?_
      exact kb c4 v_14 M (Option.some.inj hm).symm _ _ _ hP hS (lv_sub hl [2, 3, 4, 5, 6, 0] rfl)
    · rw [if_neg h_13] at hm
      refine lv_iload hx hb dX0_findWalls_65 (lv_at hl 6 rfl) ?_
      refine lv_iload_n hx hb dX0_findWalls_67 rfl (lv_at hl 4 rfl) ?_
      refine lv_iand hx hb dX0_findWalls_68 ?_
      refine lv_if_eq (tgt := 75) hx hb dX0_findWalls_69 (by decide) (fun h_16 => ?_) (fun h_16 => ?_)
      · rw [if_pos h_16] at hm
        refine lv_aload_n hx hb dX0_findWalls_75 rfl (lv_at hl 2 rfl) ?_
        refine lv_iload_n hx hb dX0_findWalls_76 rfl (lv_at hl 4 rfl) ?_
        refine lv_iload hx hb dX0_findWalls_77 (lv_at hl 6 rfl) ?_
        refine lv_ior hx hb dX0_findWalls_79 ?_
        obtain ⟨M_18, hc_17, hm⟩ := bind_elim hm
        refine x_callv (x_runS (As := [.ref (ga g r0), .int (s3 ||| c5)]) (rest := []) X hP hS (c_X0_build l X.2.2 okr0 hc_17) (va_cwS 2 hts gX0_findWalls_X0_build rfl rfl rfl (by decide +kernel) ⟨Nat.le_of_ble_eq_true rfl, Nat.le_of_ble_eq_true rfl⟩) rfl hl.1 rfl (Nat.le_of_ble_eq_true rfl) dX0_findWalls_80 ⟨Nat.zero_le _, Nat.zero_le _⟩) hS (fun H locs hP hS => ?_)
        refine lv_aload_n hx hb dX0_findWalls_83 rfl (lv_at hl 1 rfl) ?_
        refine lv_aload_n hx hb dX0_findWalls_84 rfl (lv_at hl 2 rfl) ?_
        obtain ⟨M_20, hc_19, hm⟩ := bind_elim hm
        refine x_callv (x_runV (As := [.ref (ga g r0)]) (rest := []) X hP hS (c_X0_fillTempted l X.2.2 hAll okr0 hc_19) (cwV 1 hts gX0_findWalls_X0_fillTempted rfl rfl rfl (by decide +kernel) ⟨Nat.le_of_ble_eq_true rfl, Nat.le_of_ble_eq_true rfl⟩) (x_recv (C := RX0) (T := TX0) (N := 12) X hP (okc_115 hAll) rfl) rfl hl.1 rfl (Nat.le_of_ble_eq_true rfl) dX0_findWalls_85 ⟨Nat.zero_le _, Nat.zero_le _⟩) hS (fun H locs hP hS => ?_)
        refine lv_aload_n hx hb dX0_findWalls_88 rfl (lv_at hl 1 rfl) ?_
        refine lv_aload_n hx hb dX0_findWalls_89 rfl (lv_at hl 2 rfl) ?_
        refine xg_X4_0 X hP okr0 uX0_findWalls_X4 mbX0_findWalls_1 dX0_findWalls_90 ?_
        obtain ⟨r_22, hc_21, hm⟩ := bind_elim hm
        refine x_calli (x_runV (As := [.int (rd M_20 r0 0)]) (rest := []) X hP hS (c_X0_fewestOf l X.2.2 hAll hc_21) (cwV 1 hts gX0_findWalls_X0_fewestOf rfl rfl rfl (by decide +kernel) ⟨Nat.le_of_ble_eq_true rfl, Nat.le_of_ble_eq_true rfl⟩) (x_recv (C := RX0) (T := TX0) (N := 12) X hP (okc_115 hAll) rfl) rfl hl.1 rfl (Nat.le_of_ble_eq_true rfl) dX0_findWalls_93 ⟨Nat.zero_le _, Nat.zero_le _⟩) hS (fun H locs hP hS => ?_)
        refine lv_istore (lv' := [(7, .int r_22), (6, .int r_12), (0, .ref (ga g 115)), (1, .ref (ga g r0)), (2, .int s2), (3, .int s3), (4, .int c4), (5, .int c5)]) hx hb dX0_findWalls_96 hl (by decide) rfl (fun ls hl => ?_)
        refine lv_iload hx hb dX0_findWalls_98 (lv_at hl 0 rfl) ?_
        refine lv_iconst (v := (-1)) hx hb dX0_findWalls_100 (by decide) ?_
        refine lv_icmp_ne (tgt := 109) hx hb dX0_findWalls_101 (by decide) (fun h_23 => ?_) (fun h_23 => ?_)
        · rw [if_neg h_23] at hm
          refine lv_iload hx hb dX0_findWalls_109 (lv_at hl 0 rfl) ?_
          obtain ⟨r_25, hc_24, hm⟩ := bind_elim hm
          refine x_calli (x_runS (As := [.int r_22]) (rest := []) X hP hS (c_J6_bitCount_0f7a4 l X.2.2 hc_24) (va_cwS 1 hts gX0_findWalls_J6_bitCount_0f7a4 rfl rfl rfl (by decide +kernel) ⟨Nat.le_of_ble_eq_true rfl, Nat.le_of_ble_eq_true rfl⟩) rfl hl.1 rfl (Nat.le_of_ble_eq_true rfl) dX0_findWalls_111 ⟨Nat.zero_le _, Nat.zero_le _⟩) hS (fun H locs hP hS => ?_)
          exact wj_X0_findWalls_114i X hAll okr0 kb kx0 hm hP hS (lv_sub hl [2, 3, 4, 5, 6, 7, 1] rfl)
        · rw [if_pos h_23] at hm
          refine lv_bipush (v := 99) hx hb dX0_findWalls_104 (by decide) ?_
          refine lv_goto (tgt := 114) hx hb dX0_findWalls_106 (by decide) ?_
          exact wj_X0_findWalls_114i X hAll okr0 kb kx0 hm hP hS (lv_sub hl [2, 3, 4, 5, 6, 7, 1] rfl)
      · rw [if_neg h_16] at hm
        refine lv_goto (tgt := 166) hx hb dX0_findWalls_72 (by decide) ?_
        obtain ⟨v_42, hv_43, hm⟩ := bnd_elim hm
        refine lv_iinc (v := v_42) (lv' := [(5, .int v_42), (6, .int r_12), (0, .ref (ga g 115)), (1, .ref (ga g r0)), (2, .int s2), (3, .int s3), (4, .int c4)]) hx hb dX0_findWalls_166 hl (k := 6) rfl (by rw [hv_43]; rfl) (by decide) rfl (fun ls hl => ?_)
        refine lv_goto (tgt := 41) hx hb dX0_findWalls_169 (by decide) ?_
        exact kb c4 v_42 M (Option.some.inj hm).symm _ _ _ hP hS (lv_sub hl [2, 3, 4, 5, 6, 0] rfl)

set_option maxHeartbeats 4000000 in
set_option maxRecDepth 100000 in
theorem c_X0_findWalls (l : Launch) {g : GT} (hA : AxG g) (hAll : okAll g) {r0 : Nat} (okr0 : okRing g r0) {fu : Nat} {M : Mem} {a2 : Int32} {MM : Mem} (hm : m_X0_findWalls fu r0 M a2 = some MM) : CV l yX0_findWalls wsX0_findWalls rmX0_findWalls g [.ref (ga g 115), .ref (ga g r0), .int a2] M MM := by
  refine Met.ofW (cc := cX0_findWalls) (maxL := 9) (ret := none) (by decide) rfl ?_
  intro p e s m args below meth c s₁ B hml hv
  obtain ⟨rfl, hSx, hP⟩ := hv
  have hr := B.returns
  have hlocks := B.notSynchronized
  have X : CxG g p s m _ c cX0_findWalls 9 RX0 wsX0_findWalls := ⟨⟨B.exec, B.bytes, hml, findClass_of_methodNamed B.named, atoms_spec (ws := wsX0_findWalls) B.pre⟩, hSx, hA⟩
  have hS : va_S (AbG g) s.heap s.heap [] := va_S.rf
  have hl := lv_entry (([.ref (ga g 115), .ref (ga g r0), .int a2] : List Value)) (n := 9) (Nat.le_of_ble_eq_true rfl)
  rw [lg_entry_eq]
  generalize (lg_sl (([.ref (ga g 115), .ref (ga g r0), .int a2] : List Value)) ++ List.replicate (9 - (lg_sl (([.ref (ga g 115), .ref (ga g r0), .int a2] : List Value))).length) Slot.unset).toArray = ls at hl ⊢
  have hl : lv_has ls 9 [(0, .ref (ga g 115)), (1, .ref (ga g r0)), (2, .int a2)] := hl
  obtain ⟨⟨hx, hb, hml, hown, hts⟩, -, -⟩ := id X
  unfold m_X0_findWalls at hm
  refine lv_iconst (v := 0) hx hb dX0_findWalls_0 (by decide) ?_
  refine lv_istore_n (lv' := [(3, .int 0), (0, .ref (ga g 115)), (1, .ref (ga g r0)), (2, .int a2)]) hx hb dX0_findWalls_1 rfl hl (by decide) rfl (fun ls hl => ?_)
  refine lv_iconst (v := 0) hx hb dX0_findWalls_2 (by decide) ?_
  refine lv_istore (lv' := [(4, .int 0), (3, .int 0), (0, .ref (ga g 115)), (1, .ref (ga g r0)), (2, .int a2)]) hx hb dX0_findWalls_3 hl (by decide) rfl (fun ls hl => ?_)
  obtain ⟨v_9, hL_8, hm⟩ := bind_elim hm
  refine wl_X0_findWalls_5 X hAll okr0 ?_ hL_8 _ _ _ hP hS (lv_sub hl [2, 3, 4, 1, 0] rfl)
  · intro z_v_9 e_v_9 H locs ls hP hS hl
    subst e_v_9
    replace hm := un1_e hm
    refine lv_iconst (v := 0) hx hb dX0_findWalls_35 (by decide) ?_
    refine lv_istore (lv' := [(4, .int 0), (0, .ref (ga g 115)), (1, .ref (ga g r0)), (2, .int a2), (3, .int v_9)]) hx hb dX0_findWalls_36 hl (by decide) rfl (fun ls hl => ?_)
    refine lv_iconst (v := 0) hx hb dX0_findWalls_38 (by decide) ?_
    refine lv_istore (lv' := [(5, .int 0), (4, .int 0), (0, .ref (ga g 115)), (1, .ref (ga g r0)), (2, .int a2), (3, .int v_9)]) hx hb dX0_findWalls_39 hl (by decide) rfl (fun ls hl => ?_)
    obtain ⟨M_46, hL_45, hm⟩ := bind_elim hm
    refine wl_X0_findWalls_41 X hAll okr0 ?_ hL_45 _ _ _ hP hS (lv_sub hl [2, 3, 4, 5, 1, 0] rfl)
    · intro z_M_46 e_M_46 H locs ls hP hS hl
      subst e_M_46
      replace hm := un1_e hm
      cases hm
      exact x_vret X hP hS hr hlocks dX0_findWalls_172


/-! X0_pactHolds -/
def rmX0_pactHolds : Room := { frames := 4, cells := 0, slots := 0, locals := 95 }

set_option maxHeartbeats 4000000 in
set_option maxRecDepth 100000 in
theorem c_X0_pactHolds (l : Launch) {g : GT} (hA : AxG g) {r0 : Nat} (okr0 : okRing g r0) {M : Mem} {a1 : Int32} {a2 : Int32} {rr : Int32} (hm : m_X0_pactHolds r0 M a1 a2 = some rr) : CI l yX0_pactHolds wsX0_pactHolds rmX0_pactHolds g [.ref (ga g r0), .int a1, .int a2] M rr M := by
  refine Met.ofW (cc := cX0_pactHolds) (maxL := 6) (ret := (some .boolean)) (by decide) rfl ?_
  intro p e s m args below meth c s₁ B hml hv
  obtain ⟨rfl, hSx, hP⟩ := hv
  have hr := B.returns
  have hlocks := B.notSynchronized
  have X : CxG g p s m _ c cX0_pactHolds 6 RX0 wsX0_pactHolds := ⟨⟨B.exec, B.bytes, hml, findClass_of_methodNamed B.named, atoms_spec (ws := wsX0_pactHolds) B.pre⟩, hSx, hA⟩
  have hS : va_S (AbG g) s.heap s.heap [] := va_S.rf
  have hl := lv_entry (([.ref (ga g r0), .int a1, .int a2] : List Value)) (n := 6) (Nat.le_of_ble_eq_true rfl)
  rw [lg_entry_eq]
  generalize (lg_sl (([.ref (ga g r0), .int a1, .int a2] : List Value)) ++ List.replicate (6 - (lg_sl (([.ref (ga g r0), .int a1, .int a2] : List Value))).length) Slot.unset).toArray = ls at hl ⊢
  have hl : lv_has ls 6 [(0, .ref (ga g r0)), (1, .int a1), (2, .int a2)] := hl
  obtain ⟨⟨hx, hb, hml, hown, hts⟩, -, -⟩ := id X
  unfold m_X0_pactHolds at hm
  refine lv_aload_n hx hb dX0_pactHolds_0 rfl (lv_at hl 0 rfl) ?_
  refine lv_iload_n hx hb dX0_pactHolds_1 rfl (lv_at hl 1 rfl) ?_
  refine lv_iconst (v := 0) hx hb dX0_pactHolds_2 (by decide) ?_
  refine lv_iconst (v := 0) hx hb dX0_pactHolds_3 (by decide) ?_
  refine lv_iconst (v := 0) hx hb dX0_pactHolds_4 (by decide) ?_
  obtain ⟨r_2, hc_1, hm⟩ := bind_elim hm
  refine x_calli (x_runS (As := [.ref (ga g r0), .int a1, .int 0, .int 0, .int 0]) (rest := []) X hP hS (c_X0_mean l X.2.2 okr0 hc_1) (va_cwS 5 hts gX0_pactHolds_X0_mean rfl rfl rfl (by decide +kernel) ⟨Nat.le_of_ble_eq_true rfl, Nat.le_of_ble_eq_true rfl⟩) rfl hl.1 rfl (Nat.le_of_ble_eq_true rfl) dX0_pactHolds_5 ⟨Nat.zero_le _, Nat.zero_le _⟩) hS (fun H locs hP hS => ?_)
  refine lv_istore_n (lv' := [(3, .int r_2), (0, .ref (ga g r0)), (1, .int a1), (2, .int a2)]) hx hb dX0_pactHolds_8 rfl hl (by decide) rfl (fun ls hl => ?_)
  refine lv_aload_n hx hb dX0_pactHolds_9 rfl (lv_at hl 1 rfl) ?_
  refine lv_iload_n hx hb dX0_pactHolds_10 rfl (lv_at hl 2 rfl) ?_
  refine lv_iconst (v := 0) hx hb dX0_pactHolds_11 (by decide) ?_
  refine lv_iconst (v := 3) hx hb dX0_pactHolds_12 (by decide) ?_
  refine lv_iconst (v := 0) hx hb dX0_pactHolds_13 (by decide) ?_
  obtain ⟨r_4, hc_3, hm⟩ := bind_elim hm
  refine x_calli (x_runS (As := [.ref (ga g r0), .int a1, .int 0, .int 3, .int 0]) (rest := []) X hP hS (c_X0_mean l X.2.2 okr0 hc_3) (va_cwS 5 hts gX0_pactHolds_X0_mean rfl rfl rfl (by decide +kernel) ⟨Nat.le_of_ble_eq_true rfl, Nat.le_of_ble_eq_true rfl⟩) rfl hl.1 rfl (Nat.le_of_ble_eq_true rfl) dX0_pactHolds_14 ⟨Nat.zero_le _, Nat.zero_le _⟩) hS (fun H locs hP hS => ?_)
  refine lv_iload_n hx hb dX0_pactHolds_17 rfl (lv_at hl 0 rfl) ?_
  refine lv_isub hx hb dX0_pactHolds_18 ?_
  obtain ⟨v_5, hv_6, hm⟩ := bnd_elim hm
  refine x_name hv_6 ?_
  refine lv_istore (lv' := [(4, .int v_5), (3, .int r_2), (0, .ref (ga g r0)), (1, .int a1), (2, .int a2)]) hx hb dX0_pactHolds_19 hl (by decide) rfl (fun ls hl => ?_)
  refine lv_iload_n hx hb dX0_pactHolds_21 rfl (lv_at hl 1 rfl) ?_
  refine lv_aload_n hx hb dX0_pactHolds_22 rfl (lv_at hl 2 rfl) ?_
  refine lv_iload_n hx hb dX0_pactHolds_23 rfl (lv_at hl 3 rfl) ?_
  refine lv_iconst (v := 0) hx hb dX0_pactHolds_24 (by decide) ?_
  refine lv_iconst (v := 3) hx hb dX0_pactHolds_25 (by decide) ?_
  refine lv_iconst (v := 2) hx hb dX0_pactHolds_26 (by decide) ?_
  obtain ⟨r_8, hc_7, hm⟩ := bind_elim hm
  refine x_calli (x_runS (As := [.ref (ga g r0), .int a1, .int 0, .int 3, .int 2]) (rest := [.int r_2]) X hP hS (c_X0_mean l X.2.2 okr0 hc_7) (va_cwS 5 hts gX0_pactHolds_X0_mean rfl rfl rfl (by decide +kernel) ⟨Nat.le_of_ble_eq_true rfl, Nat.le_of_ble_eq_true rfl⟩) rfl hl.1 rfl (Nat.le_of_ble_eq_true rfl) dX0_pactHolds_27 ⟨Nat.zero_le _, Nat.zero_le _⟩) hS (fun H locs hP hS => ?_)
  refine lv_isub hx hb dX0_pactHolds_30 ?_
  obtain ⟨v_9, hv_10, hm⟩ := bnd_elim hm
  refine x_name hv_10 ?_
  refine lv_istore (lv' := [(5, .int v_9), (4, .int v_5), (3, .int r_2), (0, .ref (ga g r0)), (1, .int a1), (2, .int a2)]) hx hb dX0_pactHolds_31 hl (by decide) rfl (fun ls hl => ?_)
  refine lv_iload hx hb dX0_pactHolds_33 (lv_at hl 1 rfl) ?_
  refine lv_i2l (v := v_5.toInt64) hx hb dX0_pactHolds_35 rfl ?_
  refine lv_sipush (v := 1000) hx hb dX0_pactHolds_36 (by decide) ?_
  refine lv_iload_n hx hb dX0_pactHolds_39 rfl (lv_at hl 5 rfl) ?_
  refine lv_isub hx hb dX0_pactHolds_40 ?_
  refine lv_i2l (v := (1000 - a2).toInt64) hx hb dX0_pactHolds_41 rfl ?_
  refine lv_lmul hx hb dX0_pactHolds_42 ?_
  refine lv_iload_n hx hb dX0_pactHolds_43 rfl (lv_at hl 5 rfl) ?_
  refine lv_i2l (v := a2.toInt64) hx hb dX0_pactHolds_44 rfl ?_
  refine lv_iload hx hb dX0_pactHolds_45 (lv_at hl 0 rfl) ?_
  refine lv_i2l (v := v_9.toInt64) hx hb dX0_pactHolds_47 rfl ?_
  refine lv_lmul hx hb dX0_pactHolds_48 ?_
  refine W.lcmp hx hb dX0_pactHolds_49 ?_
  refine lv_if_gt (tgt := 57) hx hb dX0_pactHolds_50 (by decide) (fun h_11 => ?_) (fun h_11 => ?_)
  · rw [if_pos h_11] at hm
    refine lv_iconst (v := 0) hx hb dX0_pactHolds_57 (by decide) ?_
    cases hm
    exact x_zret X (by decide) hP hS hr hlocks dX0_pactHolds_58
  · rw [if_neg h_11] at hm
    refine lv_iconst (v := 1) hx hb dX0_pactHolds_53 (by decide) ?_
    refine lv_goto (tgt := 58) hx hb dX0_pactHolds_54 (by decide) ?_
    cases hm
    exact x_zret X (by decide) hP hS hr hlocks dX0_pactHolds_58


/-! X0_leastPatience -/
def rmX0_leastPatience : Room := { frames := 5, cells := 0, slots := 0, locals := 120 }

set_option maxHeartbeats 4000000 in
set_option maxRecDepth 100000 in
theorem wl_X0_leastPatience_2 (X : CxG g p s m args c cX0_leastPatience 3 RX0 wsX0_leastPatience) {r0 : Nat} (okr0 : okRing g r0) {fu : Nat} {M : Mem} {s1 : Int32} {x : (Int32) ⊕ (Unit)} (kx0 : ∀ (d2 : Int32) , x = .inl d2 → ∀ (H : Heap) (locs : List Loc) (ls : Array Slot), va_P (gD g) vwCl (wlG g M) H → va_S (AbG g) s.heap H locs → lv_has ls 3 [(2, .int d2)] → W p l e (headSpec wsX0_leastPatience rmX0_leastPatience).room s m args below meth c H locs 0 0 Q (F0 m 18 ls [])) (kx1 : ∀ (_u : Unit) , x = .inr () → ∀ (H : Heap) (locs : List Loc) (ls : Array Slot), va_P (gD g) vwCl (wlG g M) H → va_S (AbG g) s.heap H locs → lv_has ls 3 [] → W p l e (headSpec wsX0_leastPatience rmX0_leastPatience).room s m args below meth c H locs 0 0 Q (F0 m 26 ls [])) {n : Nat} {q0 : Int32} (h : lp (b_X0_leastPatience_2 fu r0 M s1) n q0 = some x) : ∀ (H : Heap) (locs : List Loc) (ls : Array Slot), va_P (gD g) vwCl (wlG g M) H → va_S (AbG g) s.heap H locs → lv_has ls 3 [(0, .ref (ga g r0)), (1, .int s1), (2, .int q0)] → W p l e (headSpec wsX0_leastPatience rmX0_leastPatience).room s m args below meth c H locs 0 0 Q (F0 m 2 ls []) := by
  refine lp_elim (P := fun q0 : Int32 => ∀ (H : Heap) (locs : List Loc) (ls : Array Slot), va_P (gD g) vwCl (wlG g M) H → va_S (AbG g) s.heap H locs → lv_has ls 3 [(0, .ref (ga g r0)), (1, .int s1), (2, .int q0)] → W p l e (headSpec wsX0_leastPatience rmX0_leastPatience).room s m args below meth c H locs 0 0 Q (F0 m 2 ls [])) (fun q1 o hm hI hX => ?_) n q0 h
  obtain ⟨c2, rfl⟩ : ∃ z, z = q1 := ⟨_, rfl⟩
  have kb : ∀ (d2 : Int32) , o = .inl d2 → ∀ (H : Heap) (locs : List Loc) (ls : Array Slot), va_P (gD g) vwCl (wlG g M) H → va_S (AbG g) s.heap H locs → lv_has ls 3 [(0, .ref (ga g r0)), (1, .int s1), (2, .int d2)] → W p l e (headSpec wsX0_leastPatience rmX0_leastPatience).room s m args below meth c H locs 0 0 Q (F0 m 2 ls []) := fun d2 e => hI _ e
  have kx0 : ∀ (d2 : Int32) , o = .inr (.inl d2) → ∀ (H : Heap) (locs : List Loc) (ls : Array Slot), va_P (gD g) vwCl (wlG g M) H → va_S (AbG g) s.heap H locs → lv_has ls 3 [(2, .int d2)] → W p l e (headSpec wsX0_leastPatience rmX0_leastPatience).room s m args below meth c H locs 0 0 Q (F0 m 18 ls []) := fun d2 e => kx0 d2 (hX _ e).symm
  have kx1 : ∀ (_u : Unit) , o = .inr (.inr ()) → ∀ (H : Heap) (locs : List Loc) (ls : Array Slot), va_P (gD g) vwCl (wlG g M) H → va_S (AbG g) s.heap H locs → lv_has ls 3 [] → W p l e (headSpec wsX0_leastPatience rmX0_leastPatience).room s m args below meth c H locs 0 0 Q (F0 m 26 ls []) := fun _u e => kx1 _u (hX _ e).symm
  clear hI hX
  intro H locs ls hP hS hl
  obtain ⟨⟨hx, hb, hml, hown, hts⟩, -, -⟩ := id X
  have hl : lv_has ls 3 [(0, .ref (ga g r0)), (1, .int s1), (2, .int c2)] := hl
  have hP : va_P (gD g) vwCl (wlG g M) H := hP
  unfold b_X0_leastPatience_2 at hm
  replace hm := un1_e hm
  refine lv_iload_n hx hb dX0_leastPatience_2 rfl (lv_at hl 2 rfl) ?_
  refine lv_sipush (v := 1000) hx hb dX0_leastPatience_3 (by decide) ?_
  refine lv_icmp_ge (tgt := 26) hx hb dX0_leastPatience_6 (by decide) (fun h_1 => ?_) (fun h_1 => ?_)
  · rw [if_pos h_1] at hm
    exact kx1 () (Option.some.inj hm).symm _ _ _ hP hS (lv_sub hl [] rfl)
  · rw [if_neg h_1] at hm
    refine lv_aload_n hx hb dX0_leastPatience_9 rfl (lv_at hl 0 rfl) ?_
    refine lv_iload_n hx hb dX0_leastPatience_10 rfl (lv_at hl 1 rfl) ?_
    refine lv_iload_n hx hb dX0_leastPatience_11 rfl (lv_at hl 2 rfl) ?_
    obtain ⟨r_3, hc_2, hm⟩ := bind_elim hm
    refine x_calli (x_runS (As := [.ref (ga g r0), .int s1, .int c2]) (rest := []) X hP hS (c_X0_pactHolds l X.2.2 okr0 hc_2) (va_cwS 3 hts gX0_leastPatience_X0_pactHolds rfl rfl rfl (by decide +kernel) ⟨Nat.le_of_ble_eq_true rfl, Nat.le_of_ble_eq_true rfl⟩) rfl hl.1 rfl (Nat.le_of_ble_eq_true rfl) dX0_leastPatience_12 ⟨Nat.zero_le _, Nat.zero_le _⟩) hS (fun H locs hP hS => ?_)
    refine lv_if_eq (tgt := 20) hx hb dX0_leastPatience_15 (by decide) (fun h_4 => ?_) (fun h_4 => ?_)
    · rw [if_pos h_4] at hm
      obtain ⟨v_5, hv_6, hm⟩ := bnd_elim hm
      refine lv_iinc (v := v_5) (lv' := [(2, .int v_5), (0, .ref (ga g r0)), (1, .int s1)]) hx hb dX0_leastPatience_20 hl (k := 2) rfl (by rw [hv_6]; rfl) (by decide) rfl (fun ls hl => ?_)
      refine lv_goto (tgt := 2) hx hb dX0_leastPatience_23 (by decide) ?_
      exact kb v_5 (Option.some.inj hm).symm _ _ _ hP hS (lv_sub hl [1, 2, 0] rfl)
    · rw [if_neg h_4] at hm
      exact kx0 c2 (Option.some.inj hm).symm _ _ _ hP hS (lv_sub hl [2] rfl)

set_option maxHeartbeats 4000000 in
set_option maxRecDepth 100000 in
theorem c_X0_leastPatience (l : Launch) {g : GT} (hA : AxG g) {r0 : Nat} (okr0 : okRing g r0) {fu : Nat} {M : Mem} {a1 : Int32} {rr : Int32} (hm : m_X0_leastPatience fu r0 M a1 = some rr) : CI l yX0_leastPatience wsX0_leastPatience rmX0_leastPatience g [.ref (ga g r0), .int a1] M rr M := by
  refine Met.ofW (cc := cX0_leastPatience) (maxL := 3) (ret := (some .int)) (by decide) rfl ?_
  intro p e s m args below meth c s₁ B hml hv
  obtain ⟨rfl, hSx, hP⟩ := hv
  have hr := B.returns
  have hlocks := B.notSynchronized
  have X : CxG g p s m _ c cX0_leastPatience 3 RX0 wsX0_leastPatience := ⟨⟨B.exec, B.bytes, hml, findClass_of_methodNamed B.named, atoms_spec (ws := wsX0_leastPatience) B.pre⟩, hSx, hA⟩
  have hS : va_S (AbG g) s.heap s.heap [] := va_S.rf
  have hl := lv_entry (([.ref (ga g r0), .int a1] : List Value)) (n := 3) (Nat.le_of_ble_eq_true rfl)
  rw [lg_entry_eq]
  generalize (lg_sl (([.ref (ga g r0), .int a1] : List Value)) ++ List.replicate (3 - (lg_sl (([.ref (ga g r0), .int a1] : List Value))).length) Slot.unset).toArray = ls at hl ⊢
  have hl : lv_has ls 3 [(0, .ref (ga g r0)), (1, .int a1)] := hl
  obtain ⟨⟨hx, hb, hml, hown, hts⟩, -, -⟩ := id X
  unfold m_X0_leastPatience at hm
  refine lv_iconst (v := 0) hx hb dX0_leastPatience_0 (by decide) ?_
  refine lv_istore_n (lv' := [(2, .int 0), (0, .ref (ga g r0)), (1, .int a1)]) hx hb dX0_leastPatience_1 rfl hl (by decide) rfl (fun ls hl => ?_)
  obtain ⟨x_7, hL_8, hm⟩ := bind_elim hm
  refine wl_X0_leastPatience_2 X okr0 ?_ ?_ hL_8 _ _ _ hP hS (lv_sub hl [1, 2, 0] rfl)
  · intro v_9 e_x_7 H locs ls hP hS hl
    subst e_x_7
    replace hm := unS_l hm
    replace hm := un1_e hm
    refine lv_iload_n hx hb dX0_leastPatience_18 rfl (lv_at hl 0 rfl) ?_
    cases hm
    exact x_iret X hP hS hr hlocks dX0_leastPatience_19
  · intro _u e_x_7 H locs ls hP hS hl
    subst e_x_7
    replace hm := unS_r hm
    replace hm := un0_e hm
    refine lv_iconst (v := (-1)) hx hb dX0_leastPatience_26 (by decide) ?_
    cases hm
    exact x_iret X hP hS hr hlocks dX0_leastPatience_27

end
