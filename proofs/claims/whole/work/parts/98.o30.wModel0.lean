/-! walks: written by wip/whole/gen/gen.py out of the printed names -/
section
variable {p : Program} {l : Launch} {e : Env} {s : State} {m : MethodId} {args : Array Value} {below : List Frame} {meth : Method} {c : Code} {Q : State → Prop} {g : GT}
/-! X6_isIn -/
def rmX6_isIn : Room := { frames := 0, cells := 0, slots := 0, locals := 0 }

set_option maxHeartbeats 4000000 in
set_option maxRecDepth 100000 in
theorem c_X6_isIn (l : Launch) {g : GT} (hA : AxG g)   {M : Mem} {a1 : Int32} {a2 : Int32} {a3 : Int32} {rr : Int32} (hm : m_X6_isIn M a1 a2 a3 = some rr) : CI l yX6_isIn wsX6_isIn rmX6_isIn g [.ref (ga g 148), .int a1, .int a2, .int a3] M rr M := by
  refine Met.ofW (cc := cX6_isIn) (maxL := 4) (ret := (some .boolean)) (by decide) rfl ?_
  intro p e s m args below meth c s₁ B hml hv
  obtain ⟨rfl, hSx, hP⟩ := hv
  have hr := B.returns
  have hlocks := B.notSynchronized
  have X : CxG g p s m _ c cX6_isIn 4 RX6 wsX6_isIn := ⟨⟨B.exec, B.bytes, hml, findClass_of_methodNamed B.named, atoms_spec (ws := wsX6_isIn) B.pre⟩, hSx, hA⟩
  have hS : va_S (AbG g) s.heap s.heap [] := va_S.rf
  have hl := lv_entry (([.ref (ga g 148), .int a1, .int a2, .int a3] : List Value)) (n := 4) (Nat.le_of_ble_eq_true rfl)
  rw [lg_entry_eq]
  generalize (lg_sl (([.ref (ga g 148), .int a1, .int a2, .int a3] : List Value)) ++ List.replicate (4 - (lg_sl (([.ref (ga g 148), .int a1, .int a2, .int a3] : List Value))).length) Slot.unset).toArray = ls at hl ⊢
  have hl : lv_has ls 4 [(0, .ref (ga g 148)), (1, .int a1), (2, .int a2), (3, .int a3)] := hl
  obtain ⟨⟨hx, hb, hml, hown, hts⟩, -, -⟩ := id X
  unfold m_X6_isIn at hm
  refine lv_iload_n hx hb dX6_isIn_0 rfl (lv_at hl 1 rfl) ?_
  refine lv_iload_n hx hb dX6_isIn_1 rfl (lv_at hl 2 rfl) ?_
  refine lv_icmp_lt (tgt := 14) hx hb dX6_isIn_2 (by decide) (fun h_1 => ?_) (fun h_1 => ?_)
  · rw [if_pos h_1] at hm
    refine lv_iconst (v := 0) hx hb dX6_isIn_14 (by decide) ?_
    cases hm
    exact x_zret X (by decide) hP hS hr hlocks dX6_isIn_15
  · rw [if_neg h_1] at hm
    refine lv_iload_n hx hb dX6_isIn_5 rfl (lv_at hl 1 rfl) ?_
    refine lv_iload_n hx hb dX6_isIn_6 rfl (lv_at hl 3 rfl) ?_
    refine lv_icmp_gt (tgt := 14) hx hb dX6_isIn_7 (by decide) (fun h_2 => ?_) (fun h_2 => ?_)
    · rw [if_pos h_2] at hm
      refine lv_iconst (v := 0) hx hb dX6_isIn_14 (by decide) ?_
      cases hm
      exact x_zret X (by decide) hP hS hr hlocks dX6_isIn_15
    · rw [if_neg h_2] at hm
      refine lv_iconst (v := 1) hx hb dX6_isIn_10 (by decide) ?_
      refine lv_goto (tgt := 15) hx hb dX6_isIn_11 (by decide) ?_
      cases hm
      exact x_zret X (by decide) hP hS hr hlocks dX6_isIn_15


/-! X6_less -/
def rmX6_less : Room := { frames := 0, cells := 0, slots := 0, locals := 0 }

set_option maxHeartbeats 4000000 in
set_option maxRecDepth 100000 in
theorem c_X6_less (l : Launch) {g : GT} (hA : AxG g)   {M : Mem} {a1 : Int32} {a2 : Int32} {rr : Int32} (hm : m_X6_less M a1 a2 = some rr) : CI l yX6_less wsX6_less rmX6_less g [.ref (ga g 148), .int a1, .int a2] M rr M := by
  refine Met.ofW (cc := cX6_less) (maxL := 3) (ret := (some .int)) (by decide) rfl ?_
  intro p e s m args below meth c s₁ B hml hv
  obtain ⟨rfl, hSx, hP⟩ := hv
  have hr := B.returns
  have hlocks := B.notSynchronized
  have X : CxG g p s m _ c cX6_less 3 RX6 wsX6_less := ⟨⟨B.exec, B.bytes, hml, findClass_of_methodNamed B.named, atoms_spec (ws := wsX6_less) B.pre⟩, hSx, hA⟩
  have hS : va_S (AbG g) s.heap s.heap [] := va_S.rf
  have hl := lv_entry (([.ref (ga g 148), .int a1, .int a2] : List Value)) (n := 3) (Nat.le_of_ble_eq_true rfl)
  rw [lg_entry_eq]
  generalize (lg_sl (([.ref (ga g 148), .int a1, .int a2] : List Value)) ++ List.replicate (3 - (lg_sl (([.ref (ga g 148), .int a1, .int a2] : List Value))).length) Slot.unset).toArray = ls at hl ⊢
  have hl : lv_has ls 3 [(0, .ref (ga g 148)), (1, .int a1), (2, .int a2)] := hl
  obtain ⟨⟨hx, hb, hml, hown, hts⟩, -, -⟩ := id X
  unfold m_X6_less at hm
  refine lv_iload_n hx hb dX6_less_0 rfl (lv_at hl 1 rfl) ?_
  refine lv_iload_n hx hb dX6_less_1 rfl (lv_at hl 2 rfl) ?_
  refine lv_icmp_ge (tgt := 9) hx hb dX6_less_2 (by decide) (fun h_1 => ?_) (fun h_1 => ?_)
  · rw [if_pos h_1] at hm
    refine lv_iload_n hx hb dX6_less_9 rfl (lv_at hl 2 rfl) ?_
    cases hm
    exact x_iret X hP hS hr hlocks dX6_less_10
  · rw [if_neg h_1] at hm
    refine lv_iload_n hx hb dX6_less_5 rfl (lv_at hl 1 rfl) ?_
    refine lv_goto (tgt := 10) hx hb dX6_less_6 (by decide) ?_
    cases hm
    exact x_iret X hP hS hr hlocks dX6_less_10


/-! X6_size -/
def rmX6_size : Room := { frames := 0, cells := 0, slots := 0, locals := 0 }

set_option maxHeartbeats 4000000 in
set_option maxRecDepth 100000 in
theorem c_X6_size (l : Launch) {g : GT} (hA : AxG g)   {M : Mem} {a1 : Int32} {rr : Int32} (hm : m_X6_size M a1 = some rr) : CI l yX6_size wsX6_size rmX6_size g [.ref (ga g 148), .int a1] M rr M := by
  refine Met.ofW (cc := cX6_size) (maxL := 2) (ret := (some .int)) (by decide) rfl ?_
  intro p e s m args below meth c s₁ B hml hv
  obtain ⟨rfl, hSx, hP⟩ := hv
  have hr := B.returns
  have hlocks := B.notSynchronized
  have X : CxG g p s m _ c cX6_size 2 RX6 wsX6_size := ⟨⟨B.exec, B.bytes, hml, findClass_of_methodNamed B.named, atoms_spec (ws := wsX6_size) B.pre⟩, hSx, hA⟩
  have hS : va_S (AbG g) s.heap s.heap [] := va_S.rf
  have hl := lv_entry (([.ref (ga g 148), .int a1] : List Value)) (n := 2) (Nat.le_of_ble_eq_true rfl)
  rw [lg_entry_eq]
  generalize (lg_sl (([.ref (ga g 148), .int a1] : List Value)) ++ List.replicate (2 - (lg_sl (([.ref (ga g 148), .int a1] : List Value))).length) Slot.unset).toArray = ls at hl ⊢
  have hl : lv_has ls 2 [(0, .ref (ga g 148)), (1, .int a1)] := hl
  obtain ⟨⟨hx, hb, hml, hown, hts⟩, -, -⟩ := id X
  unfold m_X6_size at hm
  refine lv_iload_n hx hb dX6_size_0 rfl (lv_at hl 1 rfl) ?_
  refine lv_if_ge (tgt := 9) hx hb dX6_size_1 (by decide) (fun h_1 => ?_) (fun h_1 => ?_)
  · rw [if_pos h_1] at hm
    refine lv_iload_n hx hb dX6_size_9 rfl (lv_at hl 1 rfl) ?_
    cases hm
    exact x_iret X hP hS hr hlocks dX6_size_10
  · rw [if_neg h_1] at hm
    refine lv_iload_n hx hb dX6_size_4 rfl (lv_at hl 1 rfl) ?_
    refine lv_ineg hx hb dX6_size_5 ?_
    refine lv_goto (tgt := 10) hx hb dX6_size_6 (by decide) ?_
    cases hm
    exact x_iret X hP hS hr hlocks dX6_size_10


/-! X6_ones -/
def rmX6_ones : Room := { frames := 0, cells := 0, slots := 0, locals := 0 }

set_option maxHeartbeats 4000000 in
set_option maxRecDepth 100000 in
theorem wl_X6_ones_4 (X : CxG g p s m args c cX6_ones 4 RX6 wsX6_ones) {fu : Nat} {M : Mem} {x : Int32} (kx0 : ∀ (d2 : Int32) , x = d2 → ∀ (H : Heap) (locs : List Loc) (ls : Array Slot), va_P (gD g) vwCl (wlG g M) H → va_S (AbG g) s.heap H locs → lv_has ls 4 [(2, .int d2)] → W p l e (headSpec wsX6_ones rmX6_ones).room s m args below meth c H locs 0 0 Q (F0 m 21 ls [])) {n : Nat} {q0 : Int32 × Int32} (h : lp (b_X6_ones_4 fu M) n q0 = some x) : ∀ (H : Heap) (locs : List Loc) (ls : Array Slot), va_P (gD g) vwCl (wlG g M) H → va_S (AbG g) s.heap H locs → lv_has ls 4 [(2, .int q0.1), (3, .int q0.2)] → W p l e (headSpec wsX6_ones rmX6_ones).room s m args below meth c H locs 0 0 Q (F0 m 4 ls []) := by
  refine lp_elim (P := fun q0 : Int32 × Int32 => ∀ (H : Heap) (locs : List Loc) (ls : Array Slot), va_P (gD g) vwCl (wlG g M) H → va_S (AbG g) s.heap H locs → lv_has ls 4 [(2, .int q0.1), (3, .int q0.2)] → W p l e (headSpec wsX6_ones rmX6_ones).room s m args below meth c H locs 0 0 Q (F0 m 4 ls [])) (fun q1 o hm hI hX => ?_) n q0 h
  obtain ⟨c2, c3⟩ := q1
  have kb : ∀ (d2 : Int32) (d3 : Int32) , o = .inl (d2, d3) → ∀ (H : Heap) (locs : List Loc) (ls : Array Slot), va_P (gD g) vwCl (wlG g M) H → va_S (AbG g) s.heap H locs → lv_has ls 4 [(2, .int d2), (3, .int d3)] → W p l e (headSpec wsX6_ones rmX6_ones).room s m args below meth c H locs 0 0 Q (F0 m 4 ls []) := fun d2 d3 e => hI _ e
  have kx0 : ∀ (d2 : Int32) , o = .inr d2 → ∀ (H : Heap) (locs : List Loc) (ls : Array Slot), va_P (gD g) vwCl (wlG g M) H → va_S (AbG g) s.heap H locs → lv_has ls 4 [(2, .int d2)] → W p l e (headSpec wsX6_ones rmX6_ones).room s m args below meth c H locs 0 0 Q (F0 m 21 ls []) := fun d2 e => kx0 d2 (hX _ e).symm
  clear hI hX
  intro H locs ls hP hS hl
  obtain ⟨⟨hx, hb, hml, hown, hts⟩, -, -⟩ := id X
  have hl : lv_has ls 4 [(2, .int c2), (3, .int c3)] := hl
  have hP : va_P (gD g) vwCl (wlG g M) H := hP
  unfold b_X6_ones_4 at hm
  replace hm := un2_e hm
  refine lv_iload_n hx hb dX6_ones_4 rfl (lv_at hl 1 rfl) ?_
  refine lv_if_eq (tgt := 21) hx hb dX6_ones_5 (by decide) (fun h_1 => ?_) (fun h_1 => ?_)
  · rw [if_pos h_1] at hm
    exact kx0 c2 (Option.some.inj hm).symm _ _ _ hP hS (lv_sub hl [0] rfl)
  · rw [if_neg h_1] at hm
    refine lv_iload_n hx hb dX6_ones_8 rfl (lv_at hl 0 rfl) ?_
    refine lv_iconst (v := 1) hx hb dX6_ones_9 (by decide) ?_
    refine lv_iadd hx hb dX6_ones_10 ?_
    obtain ⟨v_2, hv_3, hm⟩ := bnd_elim hm
    refine x_name hv_3 ?_
    refine lv_istore_n (lv' := [(2, .int v_2), (3, .int c3)]) hx hb dX6_ones_11 rfl hl (by decide) rfl (fun ls hl => ?_)
    refine lv_iload_n hx hb dX6_ones_12 rfl (lv_at hl 1 rfl) ?_
    refine lv_iload_n hx hb dX6_ones_13 rfl (lv_at hl 1 rfl) ?_
    refine lv_iconst (v := 1) hx hb dX6_ones_14 (by decide) ?_
    refine lv_isub hx hb dX6_ones_15 ?_
    refine lv_iand hx hb dX6_ones_16 ?_
    obtain ⟨v_4, hv_5, hm⟩ := bnd_elim hm
    refine x_name hv_5 ?_
    refine lv_istore_n (lv' := [(3, .int v_4), (2, .int v_2)]) hx hb dX6_ones_17 rfl hl (by decide) rfl (fun ls hl => ?_)
    refine lv_goto (tgt := 4) hx hb dX6_ones_18 (by decide) ?_
    exact kb v_2 v_4 (Option.some.inj hm).symm _ _ _ hP hS (lv_sub hl [1, 0] rfl)

set_option maxHeartbeats 4000000 in
set_option maxRecDepth 100000 in
theorem c_X6_ones (l : Launch) {g : GT} (hA : AxG g)   {fu : Nat} {M : Mem} {a1 : Int32} {rr : Int32} (hm : m_X6_ones fu M a1 = some rr) : CI l yX6_ones wsX6_ones rmX6_ones g [.ref (ga g 148), .int a1] M rr M := by
  refine Met.ofW (cc := cX6_ones) (maxL := 4) (ret := (some .int)) (by decide) rfl ?_
  intro p e s m args below meth c s₁ B hml hv
  obtain ⟨rfl, hSx, hP⟩ := hv
  have hr := B.returns
  have hlocks := B.notSynchronized
  have X : CxG g p s m _ c cX6_ones 4 RX6 wsX6_ones := ⟨⟨B.exec, B.bytes, hml, findClass_of_methodNamed B.named, atoms_spec (ws := wsX6_ones) B.pre⟩, hSx, hA⟩
  have hS : va_S (AbG g) s.heap s.heap [] := va_S.rf
  have hl := lv_entry (([.ref (ga g 148), .int a1] : List Value)) (n := 4) (Nat.le_of_ble_eq_true rfl)
  rw [lg_entry_eq]
  generalize (lg_sl (([.ref (ga g 148), .int a1] : List Value)) ++ List.replicate (4 - (lg_sl (([.ref (ga g 148), .int a1] : List Value))).length) Slot.unset).toArray = ls at hl ⊢
  have hl : lv_has ls 4 [(0, .ref (ga g 148)), (1, .int a1)] := hl
  obtain ⟨⟨hx, hb, hml, hown, hts⟩, -, -⟩ := id X
  unfold m_X6_ones at hm
  refine lv_iconst (v := 0) hx hb dX6_ones_0 (by decide) ?_
  refine lv_istore_n (lv' := [(2, .int 0), (0, .ref (ga g 148)), (1, .int a1)]) hx hb dX6_ones_1 rfl hl (by decide) rfl (fun ls hl => ?_)
  refine lv_iload_n hx hb dX6_ones_2 rfl (lv_at hl 2 rfl) ?_
  refine lv_istore_n (lv' := [(3, .int a1), (2, .int 0), (0, .ref (ga g 148)), (1, .int a1)]) hx hb dX6_ones_3 rfl hl (by decide) rfl (fun ls hl => ?_)
  obtain ⟨v_8, hL_7, hm⟩ := bind_elim hm
  refine wl_X6_ones_4 X ?_ hL_7 _ _ _ hP hS (lv_sub hl [1, 0] rfl)
  · intro z_v_8 e_v_8 H locs ls hP hS hl
    subst e_v_8
    replace hm := un1_e hm
    refine lv_iload_n hx hb dX6_ones_21 rfl (lv_at hl 0 rfl) ?_
    cases hm
    exact x_iret X hP hS hr hlocks dX6_ones_22


/-! X6_state -/
def rmX6_state : Room := { frames := 0, cells := 0, slots := 0, locals := 0 }
theorem uX6_state_X6 : ∀ w ∈ wsX60, w ∈ wsX6_state := by decide +kernel
theorem mbX6_state_1 : Cond.fieldLink RX6 121 "FootANightModel" "told" "I" ∈ wsX6_state := by decide +kernel
theorem mbX6_state_2 : Cond.fieldLink RX6 124 "FootANightModel" "state" "I" ∈ wsX6_state := by decide +kernel
set_option maxHeartbeats 4000000 in
set_option maxRecDepth 100000 in
theorem c_X6_state (l : Launch) {g : GT} (hA : AxG g) (hAll : okAll g)   {M : Mem} {a1 : Int32} {rr : Int32} {MM : Mem} (hm : m_X6_state M a1 = some (rr, MM)) : CI l yX6_state wsX6_state rmX6_state g [.ref (ga g 148), .int a1] M rr MM := by
  refine Met.ofW (cc := cX6_state) (maxL := 3) (ret := (some .int)) (by decide) rfl ?_
  intro p e s m args below meth c s₁ B hml hv
  obtain ⟨rfl, hSx, hP⟩ := hv
  have hr := B.returns
  have hlocks := B.notSynchronized
  have X : CxG g p s m _ c cX6_state 3 RX6 wsX6_state := ⟨⟨B.exec, B.bytes, hml, findClass_of_methodNamed B.named, atoms_spec (ws := wsX6_state) B.pre⟩, hSx, hA⟩
  have hS : va_S (AbG g) s.heap s.heap [] := va_S.rf
  have hl := lv_entry (([.ref (ga g 148), .int a1] : List Value)) (n := 3) (Nat.le_of_ble_eq_true rfl)
  rw [lg_entry_eq]
  generalize (lg_sl (([.ref (ga g 148), .int a1] : List Value)) ++ List.replicate (3 - (lg_sl (([.ref (ga g 148), .int a1] : List Value))).length) Slot.unset).toArray = ls at hl ⊢
  have hl : lv_has ls 3 [(0, .ref (ga g 148)), (1, .int a1)] := hl
  obtain ⟨⟨hx, hb, hml, hown, hts⟩, -, -⟩ := id X
  unfold m_X6_state at hm
  refine lv_aload_n hx hb dX6_state_0 rfl (lv_at hl 0 rfl) ?_
  refine lv_iconst (v := 0) hx hb dX6_state_1 (by decide) ?_
  obtain ⟨M_1, hM_2, hm⟩ := bnd_elim hm
  refine xp_X6_0 X hP hAll uX6_state_X6 mbX6_state_1 hS hM_2 dX6_state_2 (fun H locs hP hS => ?_)
  refine lv_aload_n hx hb dX6_state_5 rfl (lv_at hl 0 rfl) ?_
  refine xg_X6_1 X hP hAll uX6_state_X6 mbX6_state_2 dX6_state_6 ?_
  obtain ⟨v_3, hv_4, hm⟩ := bnd_elim hm
  refine x_name hv_4 ?_
  refine lv_istore_n (lv' := [(2, .int v_3), (0, .ref (ga g 148)), (1, .int a1)]) hx hb dX6_state_9 rfl hl (by decide) rfl (fun ls hl => ?_)
  refine lv_aload_n hx hb dX6_state_10 rfl (lv_at hl 1 rfl) ?_
  refine lv_iload_n hx hb dX6_state_11 rfl (lv_at hl 2 rfl) ?_
  obtain ⟨M_5, hM_6, hm⟩ := bnd_elim hm
  refine xp_X6_1 X hP hAll uX6_state_X6 mbX6_state_2 hS hM_6 dX6_state_12 (fun H locs hP hS => ?_)
  refine lv_iload_n hx hb dX6_state_15 rfl (lv_at hl 0 rfl) ?_
  cases hm
  exact x_iret X hP hS hr hlocks dX6_state_16


/-! X6_draw -/
def rmX6_draw : Room := { frames := 0, cells := 0, slots := 0, locals := 0 }
theorem mbX6_draw_0 : Cond.constant RX6 127 (1664525) ∈ wsX6_draw := by decide +kernel
theorem uX6_draw_X6 : ∀ w ∈ wsX60, w ∈ wsX6_draw := by decide +kernel
theorem mbX6_draw_2 : Cond.fieldLink RX6 124 "FootANightModel" "state" "I" ∈ wsX6_draw := by decide +kernel
theorem mbX6_draw_3 : Cond.constant RX6 128 (1013904223) ∈ wsX6_draw := by decide +kernel
set_option maxHeartbeats 4000000 in
set_option maxRecDepth 100000 in
theorem c_X6_draw (l : Launch) {g : GT} (hA : AxG g) (hAll : okAll g)   {M : Mem} {a1 : Int32} {rr : Int32} {MM : Mem} (hm : m_X6_draw M a1 = some (rr, MM)) : CI l yX6_draw wsX6_draw rmX6_draw g [.ref (ga g 148), .int a1] M rr MM := by
  refine Met.ofW (cc := cX6_draw) (maxL := 2) (ret := (some .int)) (by decide) rfl ?_
  intro p e s m args below meth c s₁ B hml hv
  obtain ⟨rfl, hSx, hP⟩ := hv
  have hr := B.returns
  have hlocks := B.notSynchronized
  have X : CxG g p s m _ c cX6_draw 2 RX6 wsX6_draw := ⟨⟨B.exec, B.bytes, hml, findClass_of_methodNamed B.named, atoms_spec (ws := wsX6_draw) B.pre⟩, hSx, hA⟩
  have hS : va_S (AbG g) s.heap s.heap [] := va_S.rf
  have hl := lv_entry (([.ref (ga g 148), .int a1] : List Value)) (n := 2) (Nat.le_of_ble_eq_true rfl)
  rw [lg_entry_eq]
  generalize (lg_sl (([.ref (ga g 148), .int a1] : List Value)) ++ List.replicate (2 - (lg_sl (([.ref (ga g 148), .int a1] : List Value))).length) Slot.unset).toArray = ls at hl ⊢
  have hl : lv_has ls 2 [(0, .ref (ga g 148)), (1, .int a1)] := hl
  obtain ⟨⟨hx, hb, hml, hown, hts⟩, -, -⟩ := id X
  unfold m_X6_draw at hm
  refine lv_aload_n hx hb dX6_draw_0 rfl (lv_at hl 0 rfl) ?_
  refine lv_ldc (v := 1664525) hx hb hown (hts _ mbX6_draw_0) dX6_draw_1 ?_
  refine lv_aload_n hx hb dX6_draw_3 rfl (lv_at hl 0 rfl) ?_
  refine xg_X6_1 X hP hAll uX6_draw_X6 mbX6_draw_2 dX6_draw_4 ?_
  refine lv_imul hx hb dX6_draw_7 ?_
  refine lv_ldc (v := 1013904223) hx hb hown (hts _ mbX6_draw_3) dX6_draw_8 ?_
  refine lv_iadd hx hb dX6_draw_10 ?_
  obtain ⟨M_1, hM_2, hm⟩ := bnd_elim hm
  refine xp_X6_1 X hP hAll uX6_draw_X6 mbX6_draw_2 hS hM_2 dX6_draw_11 (fun H locs hP hS => ?_)
  refine lv_aload_n hx hb dX6_draw_14 rfl (lv_at hl 0 rfl) ?_
  refine xg_X6_1 X hP hAll uX6_draw_X6 mbX6_draw_2 dX6_draw_15 ?_
  refine lv_bipush (v := 8) hx hb dX6_draw_18 (by decide) ?_
  refine lv_iushr (v := ushr (rd M_1 148 1) 8) hx hb dX6_draw_20 rfl ?_
  refine lv_iload_n hx hb dX6_draw_21 rfl (lv_at hl 1 rfl) ?_
  obtain ⟨hz_3, hm⟩ := chk_elim hm
  refine lv_irem hx hb dX6_draw_22 (nz_of hz_3) ?_
  cases hm
  exact x_iret X hP hS hr hlocks dX6_draw_23


/-! X6_isFarm -/
def rmX6_isFarm : Room := { frames := 0, cells := 0, slots := 0, locals := 0 }
theorem uX6_isFarm_X6 : ∀ w ∈ wsX60, w ∈ wsX6_isFarm := by decide +kernel
theorem mbX6_isFarm_1 : Cond.fieldLink RX6 7 "FootANightModel" "n" "I" ∈ wsX6_isFarm := by decide +kernel
set_option maxHeartbeats 4000000 in
set_option maxRecDepth 100000 in
theorem c_X6_isFarm (l : Launch) {g : GT} (hA : AxG g) (hAll : okAll g)   {M : Mem} {a1 : Int32} {rr : Int32} (hm : m_X6_isFarm M a1 = some rr) : CI l yX6_isFarm wsX6_isFarm rmX6_isFarm g [.ref (ga g 148), .int a1] M rr M := by
  refine Met.ofW (cc := cX6_isFarm) (maxL := 2) (ret := (some .boolean)) (by decide) rfl ?_
  intro p e s m args below meth c s₁ B hml hv
  obtain ⟨rfl, hSx, hP⟩ := hv
  have hr := B.returns
  have hlocks := B.notSynchronized
  have X : CxG g p s m _ c cX6_isFarm 2 RX6 wsX6_isFarm := ⟨⟨B.exec, B.bytes, hml, findClass_of_methodNamed B.named, atoms_spec (ws := wsX6_isFarm) B.pre⟩, hSx, hA⟩
  have hS : va_S (AbG g) s.heap s.heap [] := va_S.rf
  have hl := lv_entry (([.ref (ga g 148), .int a1] : List Value)) (n := 2) (Nat.le_of_ble_eq_true rfl)
  rw [lg_entry_eq]
  generalize (lg_sl (([.ref (ga g 148), .int a1] : List Value)) ++ List.replicate (2 - (lg_sl (([.ref (ga g 148), .int a1] : List Value))).length) Slot.unset).toArray = ls at hl ⊢
  have hl : lv_has ls 2 [(0, .ref (ga g 148)), (1, .int a1)] := hl
  obtain ⟨⟨hx, hb, hml, hown, hts⟩, -, -⟩ := id X
  unfold m_X6_isFarm at hm
  refine lv_iload_n hx hb dX6_isFarm_0 rfl (lv_at hl 1 rfl) ?_
  refine lv_if_lt (tgt := 16) hx hb dX6_isFarm_1 (by decide) (fun h_1 => ?_) (fun h_1 => ?_)
  · rw [if_pos h_1] at hm
    refine lv_iconst (v := 0) hx hb dX6_isFarm_16 (by decide) ?_
    cases hm
    exact x_zret X (by decide) hP hS hr hlocks dX6_isFarm_17
  · rw [if_neg h_1] at hm
    refine lv_iload_n hx hb dX6_isFarm_4 rfl (lv_at hl 1 rfl) ?_
    refine lv_aload_n hx hb dX6_isFarm_5 rfl (lv_at hl 0 rfl) ?_
    refine xg_X6_2 X hP hAll uX6_isFarm_X6 mbX6_isFarm_1 dX6_isFarm_6 ?_
    refine lv_icmp_ge (tgt := 16) hx hb dX6_isFarm_9 (by decide) (fun h_2 => ?_) (fun h_2 => ?_)
    · rw [if_pos h_2] at hm
      refine lv_iconst (v := 0) hx hb dX6_isFarm_16 (by decide) ?_
      cases hm
      exact x_zret X (by decide) hP hS hr hlocks dX6_isFarm_17
    · rw [if_neg h_2] at hm
      refine lv_iconst (v := 1) hx hb dX6_isFarm_12 (by decide) ?_
      refine lv_goto (tgt := 17) hx hb dX6_isFarm_13 (by decide) ?_
      cases hm
      exact x_zret X (by decide) hP hS hr hlocks dX6_isFarm_17


/-! X6_ring -/
def rmX6_ring : Room := { frames := 1, cells := 0, slots := 0, locals := 23 }
theorem uX6_ring_X6 : ∀ w ∈ wsX60, w ∈ wsX6_ring := by decide +kernel
theorem mbX6_ring_1 : Cond.fieldLink RX6 121 "FootANightModel" "told" "I" ∈ wsX6_ring := by decide +kernel
theorem mbX6_ring_2 : Cond.fieldLink RX6 7 "FootANightModel" "n" "I" ∈ wsX6_ring := by decide +kernel
theorem mbX6_ring_3 : Cond.fieldLink RX6 13 "FootANightModel" "wide" "[I" ∈ wsX6_ring := by decide +kernel
theorem mbX6_ring_4 : Cond.fieldLink RX6 17 "FootANightModel" "lawOf" "[I" ∈ wsX6_ring := by decide +kernel
theorem mbX6_ring_5 : Cond.fieldLink RX6 20 "FootANightModel" "familyOf" "[I" ∈ wsX6_ring := by decide +kernel
theorem mbX6_ring_6 : Cond.fieldLink RX6 23 "FootANightModel" "dogOf" "[I" ∈ wsX6_ring := by decide +kernel
theorem mbX6_ring_7 : Cond.fieldLink RX6 26 "FootANightModel" "purse" "[I" ∈ wsX6_ring := by decide +kernel
theorem mbX6_ring_8 : Cond.fieldLink RX6 29 "FootANightModel" "hit" "[I" ∈ wsX6_ring := by decide +kernel
theorem mbX6_ring_9 : Cond.fieldLink RX6 32 "FootANightModel" "caught" "[I" ∈ wsX6_ring := by decide +kernel
theorem mbX6_ring_10 : Cond.fieldLink RX6 35 "FootANightModel" "eaten" "[I" ∈ wsX6_ring := by decide +kernel
theorem mbX6_ring_11 : Cond.fieldLink RX6 38 "FootANightModel" "wallOf" "[I" ∈ wsX6_ring := by decide +kernel
theorem mbX6_ring_12 : Cond.fieldLink RX6 41 "FootANightModel" "heavyOf" "[I" ∈ wsX6_ring := by decide +kernel
theorem mbX6_ring_13 : Cond.fieldLink RX6 44 "FootANightModel" "pushOf" "[I" ∈ wsX6_ring := by decide +kernel
theorem mbX6_ring_14 : Cond.fieldLink RX6 47 "FootANightModel" "pushedBy" "[I" ∈ wsX6_ring := by decide +kernel
theorem mbX6_ring_15 : Cond.fieldLink RX6 50 "FootANightModel" "wasWide" "[I" ∈ wsX6_ring := by decide +kernel
set_option maxHeartbeats 4000000 in
set_option maxRecDepth 100000 in
theorem wl_X6_ring_25 (X : CxG g p s m args c cX6_ring 3 RX6 wsX6_ring) (hAll : okAll g) {fu : Nat} {x : Mem} (kx0 : ∀ (M2 : Mem) , x = M2 → ∀ (H : Heap) (locs : List Loc) (ls : Array Slot), va_P (gD g) vwCl (wlG g M2) H → va_S (AbG g) s.heap H locs → lv_has ls 3 [] → W p l e (headSpec wsX6_ring rmX6_ring).room s m args below meth c H locs 0 0 Q (F0 m 130 ls [])) {n : Nat} {q0 : Int32 × Mem} (h : lp (b_X6_ring_25 fu) n q0 = some x) : ∀ (H : Heap) (locs : List Loc) (ls : Array Slot), va_P (gD g) vwCl (wlG g q0.2) H → va_S (AbG g) s.heap H locs → lv_has ls 3 [(0, .ref (ga g 148)), (2, .int q0.1)] → W p l e (headSpec wsX6_ring rmX6_ring).room s m args below meth c H locs 0 0 Q (F0 m 25 ls []) := by
  refine lp_elim (P := fun q0 : Int32 × Mem => ∀ (H : Heap) (locs : List Loc) (ls : Array Slot), va_P (gD g) vwCl (wlG g q0.2) H → va_S (AbG g) s.heap H locs → lv_has ls 3 [(0, .ref (ga g 148)), (2, .int q0.1)] → W p l e (headSpec wsX6_ring rmX6_ring).room s m args below meth c H locs 0 0 Q (F0 m 25 ls [])) (fun q1 o hm hI hX => ?_) n q0 h
  obtain ⟨c2, M⟩ := q1
  have kb : ∀ (d2 : Int32) (M2 : Mem) , o = .inl (d2, M2) → ∀ (H : Heap) (locs : List Loc) (ls : Array Slot), va_P (gD g) vwCl (wlG g M2) H → va_S (AbG g) s.heap H locs → lv_has ls 3 [(0, .ref (ga g 148)), (2, .int d2)] → W p l e (headSpec wsX6_ring rmX6_ring).room s m args below meth c H locs 0 0 Q (F0 m 25 ls []) := fun d2 M2 e => hI _ e
  have kx0 : ∀ (M2 : Mem) , o = .inr M2 → ∀ (H : Heap) (locs : List Loc) (ls : Array Slot), va_P (gD g) vwCl (wlG g M2) H → va_S (AbG g) s.heap H locs → lv_has ls 3 [] → W p l e (headSpec wsX6_ring rmX6_ring).room s m args below meth c H locs 0 0 Q (F0 m 130 ls []) := fun M2 e => kx0 M2 (hX _ e).symm
  clear hI hX
  intro H locs ls hP hS hl
  obtain ⟨⟨hx, hb, hml, hown, hts⟩, -, -⟩ := id X
  have hl : lv_has ls 3 [(0, .ref (ga g 148)), (2, .int c2)] := hl
  have hP : va_P (gD g) vwCl (wlG g M) H := hP
  unfold b_X6_ring_25 at hm
  replace hm := un2_e hm
  refine lv_iload_n hx hb dX6_ring_25 rfl (lv_at hl 1 rfl) ?_
  refine lv_bipush (v := 10) hx hb dX6_ring_26 (by decide) ?_
  refine lv_icmp_ge (tgt := 130) hx hb dX6_ring_28 (by decide) (fun h_8 => ?_) (fun h_8 => ?_)
  · rw [if_pos h_8] at hm
    exact kx0 M (Option.some.inj hm).symm _ _ _ hP hS (lv_sub hl [] rfl)
  · rw [if_neg h_8] at hm
    refine lv_aload_n hx hb dX6_ring_31 rfl (lv_at hl 0 rfl) ?_
    refine xg_X6_5 X hP hAll uX6_ring_X6 mbX6_ring_3 dX6_ring_32 ?_
    refine lv_iload_n hx hb dX6_ring_35 rfl (lv_at hl 1 rfl) ?_
    refine lv_bipush (v := 10) hx hb dX6_ring_36 (by decide) ?_
    obtain ⟨hb_9, hm⟩ := chk_elim hm
    obtain ⟨M_10, hM_11, hm⟩ := bnd_elim hm
    refine x_iast X hP hS (okc_149 hAll) hM_11 hb_9 dX6_ring_38 (fun H locs hP hS => ?_)
    refine lv_aload_n hx hb dX6_ring_39 rfl (lv_at hl 0 rfl) ?_
    refine xg_X6_6 X hP hAll uX6_ring_X6 mbX6_ring_4 dX6_ring_40 ?_
    refine lv_iload_n hx hb dX6_ring_43 rfl (lv_at hl 1 rfl) ?_
    refine lv_iconst (v := 0) hx hb dX6_ring_44 (by decide) ?_
    obtain ⟨M_12, hM_13, hm⟩ := bnd_elim hm
    refine x_iast X hP hS (okc_150 hAll) hM_13 hb_9 dX6_ring_45 (fun H locs hP hS => ?_)
    refine lv_aload_n hx hb dX6_ring_46 rfl (lv_at hl 0 rfl) ?_
    refine xg_X6_7 X hP hAll uX6_ring_X6 mbX6_ring_5 dX6_ring_47 ?_
    refine lv_iload_n hx hb dX6_ring_50 rfl (lv_at hl 1 rfl) ?_
    refine lv_iload_n hx hb dX6_ring_51 rfl (lv_at hl 1 rfl) ?_
    obtain ⟨M_14, hM_15, hm⟩ := bnd_elim hm
    refine x_iast X hP hS (okc_151 hAll) hM_15 hb_9 dX6_ring_52 (fun H locs hP hS => ?_)
    refine lv_aload_n hx hb dX6_ring_53 rfl (lv_at hl 0 rfl) ?_
    refine xg_X6_8 X hP hAll uX6_ring_X6 mbX6_ring_6 dX6_ring_54 ?_
    refine lv_iload_n hx hb dX6_ring_57 rfl (lv_at hl 1 rfl) ?_
    refine lv_iconst (v := 0) hx hb dX6_ring_58 (by decide) ?_
    obtain ⟨M_16, hM_17, hm⟩ := bnd_elim hm
    refine x_iast X hP hS (okc_152 hAll) hM_17 hb_9 dX6_ring_59 (fun H locs hP hS => ?_)
    refine lv_aload_n hx hb dX6_ring_60 rfl (lv_at hl 0 rfl) ?_
    refine xg_X6_9 X hP hAll uX6_ring_X6 mbX6_ring_7 dX6_ring_61 ?_
    refine lv_iload_n hx hb dX6_ring_64 rfl (lv_at hl 1 rfl) ?_
    refine lv_iconst (v := 0) hx hb dX6_ring_65 (by decide) ?_
    obtain ⟨M_18, hM_19, hm⟩ := bnd_elim hm
    refine x_iast X hP hS (okc_153 hAll) hM_19 hb_9 dX6_ring_66 (fun H locs hP hS => ?_)
    refine lv_aload_n hx hb dX6_ring_67 rfl (lv_at hl 0 rfl) ?_
    refine xg_X6_10 X hP hAll uX6_ring_X6 mbX6_ring_8 dX6_ring_68 ?_
    refine lv_iload_n hx hb dX6_ring_71 rfl (lv_at hl 1 rfl) ?_
    refine lv_bipush (v := 99) hx hb dX6_ring_72 (by decide) ?_
    obtain ⟨M_20, hM_21, hm⟩ := bnd_elim hm
    refine x_iast X hP hS (okc_154 hAll) hM_21 hb_9 dX6_ring_74 (fun H locs hP hS => ?_)
    refine lv_aload_n hx hb dX6_ring_75 rfl (lv_at hl 0 rfl) ?_
    refine xg_X6_11 X hP hAll uX6_ring_X6 mbX6_ring_9 dX6_ring_76 ?_
    refine lv_iload_n hx hb dX6_ring_79 rfl (lv_at hl 1 rfl) ?_
    refine lv_iconst (v := 0) hx hb dX6_ring_80 (by decide) ?_
    obtain ⟨M_22, hM_23, hm⟩ := bnd_elim hm
    refine x_iast X hP hS (okc_155 hAll) hM_23 hb_9 dX6_ring_81 (fun H locs hP hS => ?_)
    refine lv_aload_n hx hb dX6_ring_82 rfl (lv_at hl 0 rfl) ?_
    refine xg_X6_12 X hP hAll uX6_ring_X6 mbX6_ring_10 dX6_ring_83 ?_
    refine lv_iload_n hx hb dX6_ring_86 rfl (lv_at hl 1 rfl) ?_
    refine lv_iconst (v := (-1)) hx hb dX6_ring_87 (by decide) ?_
    obtain ⟨M_24, hM_25, hm⟩ := bnd_elim hm
    refine x_iast X hP hS (okc_156 hAll) hM_25 hb_9 dX6_ring_88 (fun H locs hP hS => ?_)
    refine lv_aload_n hx hb dX6_ring_89 rfl (lv_at hl 0 rfl) ?_
    refine xg_X6_13 X hP hAll uX6_ring_X6 mbX6_ring_11 dX6_ring_90 ?_
    refine lv_iload_n hx hb dX6_ring_93 rfl (lv_at hl 1 rfl) ?_
    refine lv_iconst (v := 0) hx hb dX6_ring_94 (by decide) ?_
    obtain ⟨M_26, hM_27, hm⟩ := bnd_elim hm
    refine x_iast X hP hS (okc_157 hAll) hM_27 hb_9 dX6_ring_95 (fun H locs hP hS => ?_)
    refine lv_aload_n hx hb dX6_ring_96 rfl (lv_at hl 0 rfl) ?_
    refine xg_X6_14 X hP hAll uX6_ring_X6 mbX6_ring_12 dX6_ring_97 ?_
    refine lv_iload_n hx hb dX6_ring_100 rfl (lv_at hl 1 rfl) ?_
    refine lv_iconst (v := 0) hx hb dX6_ring_101 (by decide) ?_
    obtain ⟨M_28, hM_29, hm⟩ := bnd_elim hm
    refine x_iast X hP hS (okc_158 hAll) hM_29 hb_9 dX6_ring_102 (fun H locs hP hS => ?_)
    refine lv_aload_n hx hb dX6_ring_103 rfl (lv_at hl 0 rfl) ?_
    refine xg_X6_15 X hP hAll uX6_ring_X6 mbX6_ring_13 dX6_ring_104 ?_
    refine lv_iload_n hx hb dX6_ring_107 rfl (lv_at hl 1 rfl) ?_
    refine lv_iconst (v := 0) hx hb dX6_ring_108 (by decide) ?_
    obtain ⟨M_30, hM_31, hm⟩ := bnd_elim hm
    refine x_iast X hP hS (okc_159 hAll) hM_31 hb_9 dX6_ring_109 (fun H locs hP hS => ?_)
    refine lv_aload_n hx hb dX6_ring_110 rfl (lv_at hl 0 rfl) ?_
    refine xg_X6_16 X hP hAll uX6_ring_X6 mbX6_ring_14 dX6_ring_111 ?_
    refine lv_iload_n hx hb dX6_ring_114 rfl (lv_at hl 1 rfl) ?_
    refine lv_iconst (v := (-1)) hx hb dX6_ring_115 (by decide) ?_
    obtain ⟨M_32, hM_33, hm⟩ := bnd_elim hm
    refine x_iast X hP hS (okc_160 hAll) hM_33 hb_9 dX6_ring_116 (fun H locs hP hS => ?_)
    refine lv_aload_n hx hb dX6_ring_117 rfl (lv_at hl 0 rfl) ?_
    refine xg_X6_17 X hP hAll uX6_ring_X6 mbX6_ring_15 dX6_ring_118 ?_
    refine lv_iload_n hx hb dX6_ring_121 rfl (lv_at hl 1 rfl) ?_
    refine lv_iconst (v := (-1)) hx hb dX6_ring_122 (by decide) ?_
    obtain ⟨M_34, hM_35, hm⟩ := bnd_elim hm
    refine x_iast X hP hS (okc_161 hAll) hM_35 hb_9 dX6_ring_123 (fun H locs hP hS => ?_)
    obtain ⟨v_36, hv_37, hm⟩ := bnd_elim hm
    refine lv_iinc (v := v_36) (lv' := [(2, .int v_36), (0, .ref (ga g 148))]) hx hb dX6_ring_124 hl (k := 1) rfl (by rw [hv_37]; rfl) (by decide) rfl (fun ls hl => ?_)
    refine lv_goto (tgt := 25) hx hb dX6_ring_127 (by decide) ?_
    exact kb v_36 M_34 (Option.some.inj hm).symm _ _ _ hP hS (lv_sub hl [1, 0] rfl)

set_option maxHeartbeats 4000000 in
set_option maxRecDepth 100000 in
theorem c_X6_ring (l : Launch) {g : GT} (hA : AxG g) (hAll : okAll g)   {fu : Nat} {M : Mem} {a1 : Int32} {rr : Int32} {MM : Mem} (hm : m_X6_ring fu M a1 = some (rr, MM)) : CI l yX6_ring wsX6_ring rmX6_ring g [.ref (ga g 148), .int a1] M rr MM := by
  refine Met.ofW (cc := cX6_ring) (maxL := 3) (ret := (some .boolean)) (by decide) rfl ?_
  intro p e s m args below meth c s₁ B hml hv
  obtain ⟨rfl, hSx, hP⟩ := hv
  have hr := B.returns
  have hlocks := B.notSynchronized
  have X : CxG g p s m _ c cX6_ring 3 RX6 wsX6_ring := ⟨⟨B.exec, B.bytes, hml, findClass_of_methodNamed B.named, atoms_spec (ws := wsX6_ring) B.pre⟩, hSx, hA⟩
  have hS : va_S (AbG g) s.heap s.heap [] := va_S.rf
  have hl := lv_entry (([.ref (ga g 148), .int a1] : List Value)) (n := 3) (Nat.le_of_ble_eq_true rfl)
  rw [lg_entry_eq]
  generalize (lg_sl (([.ref (ga g 148), .int a1] : List Value)) ++ List.replicate (3 - (lg_sl (([.ref (ga g 148), .int a1] : List Value))).length) Slot.unset).toArray = ls at hl ⊢
  have hl : lv_has ls 3 [(0, .ref (ga g 148)), (1, .int a1)] := hl
  obtain ⟨⟨hx, hb, hml, hown, hts⟩, -, -⟩ := id X
  unfold m_X6_ring at hm
  refine lv_aload_n hx hb dX6_ring_0 rfl (lv_at hl 0 rfl) ?_
  refine lv_iconst (v := 0) hx hb dX6_ring_1 (by decide) ?_
  obtain ⟨M_1, hM_2, hm⟩ := bnd_elim hm
  refine xp_X6_0 X hP hAll uX6_ring_X6 mbX6_ring_1 hS hM_2 dX6_ring_2 (fun H locs hP hS => ?_)
  refine lv_aload_n hx hb dX6_ring_5 rfl (lv_at hl 0 rfl) ?_
  refine lv_iload_n hx hb dX6_ring_6 rfl (lv_at hl 1 rfl) ?_
  refine lv_iconst (v := 2) hx hb dX6_ring_7 (by decide) ?_
  refine lv_bipush (v := 10) hx hb dX6_ring_8 (by decide) ?_
  obtain ⟨r_4, hc_3, hm⟩ := bind_elim hm
  refine x_calli (x_runV (As := [.int a1, .int 2, .int 10]) (rest := []) X hP hS (c_X6_isIn l X.2.2 hc_3) (cwV 3 hts gX6_ring_X6_isIn rfl rfl rfl (by decide +kernel) ⟨Nat.le_of_ble_eq_true rfl, Nat.le_of_ble_eq_true rfl⟩) (x_recv (C := RX6) (T := TX6) (N := 55) X hP (okc_148 hAll) rfl) rfl hl.1 rfl (Nat.le_of_ble_eq_true rfl) dX6_ring_10 ⟨Nat.zero_le _, Nat.zero_le _⟩) hS (fun H locs hP hS => ?_)
  refine lv_if_ne (tgt := 18) hx hb dX6_ring_13 (by decide) (fun h_5 => ?_) (fun h_5 => ?_)
  · rw [if_neg h_5] at hm
    refine lv_aload_n hx hb dX6_ring_18 rfl (lv_at hl 0 rfl) ?_
    refine lv_iload_n hx hb dX6_ring_19 rfl (lv_at hl 1 rfl) ?_
    obtain ⟨M_6, hM_7, hm⟩ := bnd_elim hm
    refine xp_X6_2 X hP hAll uX6_ring_X6 mbX6_ring_2 hS hM_7 dX6_ring_20 (fun H locs hP hS => ?_)
    refine lv_iconst (v := 0) hx hb dX6_ring_23 (by decide) ?_
    refine lv_istore_n (lv' := [(2, .int 0), (0, .ref (ga g 148)), (1, .int a1)]) hx hb dX6_ring_24 rfl hl (by decide) rfl (fun ls hl => ?_)
    obtain ⟨M_40, hL_39, hm⟩ := bind_elim hm
    refine wl_X6_ring_25 X hAll ?_ hL_39 _ _ _ hP hS (lv_sub hl [1, 0] rfl)
    · intro z_M_40 e_M_40 H locs ls hP hS hl
      subst e_M_40
      replace hm := un1_e hm
      refine lv_iconst (v := 1) hx hb dX6_ring_130 (by decide) ?_
      cases hm
      exact x_zret X (by decide) hP hS hr hlocks dX6_ring_131
  · rw [if_pos h_5] at hm
    refine lv_iconst (v := 0) hx hb dX6_ring_16 (by decide) ?_
    cases hm
    exact x_zret X (by decide) hP hS hr hlocks dX6_ring_17


/-! X6_farm -/
def rmX6_farm : Room := { frames := 1, cells := 0, slots := 0, locals := 23 }
theorem uX6_farm_X6 : ∀ w ∈ wsX60, w ∈ wsX6_farm := by decide +kernel
theorem mbX6_farm_1 : Cond.fieldLink RX6 121 "FootANightModel" "told" "I" ∈ wsX6_farm := by decide +kernel
theorem mbX6_farm_2 : Cond.fieldLink RX6 23 "FootANightModel" "dogOf" "[I" ∈ wsX6_farm := by decide +kernel
theorem mbX6_farm_3 : Cond.fieldLink RX6 20 "FootANightModel" "familyOf" "[I" ∈ wsX6_farm := by decide +kernel
theorem mbX6_farm_4 : Cond.fieldLink RX6 17 "FootANightModel" "lawOf" "[I" ∈ wsX6_farm := by decide +kernel
theorem mbX6_farm_5 : Cond.fieldLink RX6 13 "FootANightModel" "wide" "[I" ∈ wsX6_farm := by decide +kernel
set_option maxHeartbeats 4000000 in
set_option maxRecDepth 100000 in
theorem wj_X6_farm_102 (X : CxG g p s m args c cX6_farm 5 RX6 wsX6_farm) (hAll : okAll g) {M : Mem} {s1 : Int32} {s2 : Int32} {s3 : Int32} {rr : Int32} {MM : Mem} (hr : meth.sig.returnType = (some .boolean)) (hlocks : meth.locks = false) (hm : j_X6_farm_102 M s1 s2 s3 = some (rr, MM)) {H : Heap} {locs : List Loc} {ls : Array Slot} (hP : va_P (gD g) vwCl (wlG g M) H) (hS : va_S (AbG g) s.heap H locs) (hl : lv_has ls 5 [(0, .ref (ga g 148)), (1, .int s1), (2, .int s2), (3, .int s3)]) : W p l e (headSpec wsX6_farm rmX6_farm).room s m args below meth c H locs 0 0 (MQ below (va_Qi (fun (q : Int32) (_ : Unit) => q = rr) (fun _ t => va_P (gD g) vwCl (wlG g MM) t.heap) (AbG g)) args s 0 0 (AbG g)) (F0 m 102 ls []) := by
  obtain ⟨⟨hx, hb, hml, hown, hts⟩, -, -⟩ := id X
  unfold j_X6_farm_102 at hm
  refine lv_iload_n hx hb dX6_farm_102 rfl (lv_at hl 2 rfl) ?_
  refine lv_iconst (v := 3) hx hb dX6_farm_103 (by decide) ?_
  refine lv_icmp_ne (tgt := 114) hx hb dX6_farm_104 (by decide) (fun h_18 => ?_) (fun h_18 => ?_)
  · rw [if_neg h_18] at hm
    refine lv_iconst (v := 1) hx hb dX6_farm_114 (by decide) ?_
    cases hm
    exact x_zret X (by decide) hP hS hr hlocks dX6_farm_115
  · rw [if_pos h_18] at hm
    refine lv_aload_n hx hb dX6_farm_107 rfl (lv_at hl 0 rfl) ?_
    refine xg_X6_8 X hP hAll uX6_farm_X6 mbX6_farm_2 dX6_farm_108 ?_
    refine lv_iload_n hx hb dX6_farm_111 rfl (lv_at hl 1 rfl) ?_
    refine lv_iload_n hx hb dX6_farm_112 rfl (lv_at hl 3 rfl) ?_
    obtain ⟨hb_19, hm⟩ := chk_elim hm
    obtain ⟨M_20, hM_21, hm⟩ := bnd_elim hm
    refine x_iast X hP hS (okc_152 hAll) hM_21 hb_19 dX6_farm_113 (fun H locs hP hS => ?_)
    refine lv_iconst (v := 1) hx hb dX6_farm_114 (by decide) ?_
    cases hm
    exact x_zret X (by decide) hP hS hr hlocks dX6_farm_115

set_option maxHeartbeats 4000000 in
set_option maxRecDepth 100000 in
theorem wj_X6_farm_90 (X : CxG g p s m args c cX6_farm 5 RX6 wsX6_farm) (hAll : okAll g) {M : Mem} {s1 : Int32} {s2 : Int32} {s3 : Int32} {rr : Int32} {MM : Mem} (hr : meth.sig.returnType = (some .boolean)) (hlocks : meth.locks = false) (hm : j_X6_farm_90 M s1 s2 s3 = some (rr, MM)) {H : Heap} {locs : List Loc} {ls : Array Slot} (hP : va_P (gD g) vwCl (wlG g M) H) (hS : va_S (AbG g) s.heap H locs) (hl : lv_has ls 5 [(0, .ref (ga g 148)), (1, .int s1), (2, .int s2), (3, .int s3)]) : W p l e (headSpec wsX6_farm rmX6_farm).room s m args below meth c H locs 0 0 (MQ below (va_Qi (fun (q : Int32) (_ : Unit) => q = rr) (fun _ t => va_P (gD g) vwCl (wlG g MM) t.heap) (AbG g)) args s 0 0 (AbG g)) (F0 m 90 ls []) := by
  obtain ⟨⟨hx, hb, hml, hown, hts⟩, -, -⟩ := id X
  unfold j_X6_farm_90 at hm
  refine lv_iload_n hx hb dX6_farm_90 rfl (lv_at hl 2 rfl) ?_
  refine lv_iconst (v := 2) hx hb dX6_farm_91 (by decide) ?_
  refine lv_icmp_ne (tgt := 102) hx hb dX6_farm_92 (by decide) (fun h_17 => ?_) (fun h_17 => ?_)
  · rw [if_neg h_17] at hm
    exact wj_X6_farm_102 X hAll hr hlocks hm hP hS (lv_sub hl [0, 1, 2, 3] rfl)
  · rw [if_pos h_17] at hm
    refine lv_aload_n hx hb dX6_farm_95 rfl (lv_at hl 0 rfl) ?_
    refine xg_X6_7 X hP hAll uX6_farm_X6 mbX6_farm_3 dX6_farm_96 ?_
    refine lv_iload_n hx hb dX6_farm_99 rfl (lv_at hl 1 rfl) ?_
    refine lv_iload_n hx hb dX6_farm_100 rfl (lv_at hl 3 rfl) ?_
    obtain ⟨hb_22, hm⟩ := chk_elim hm
    obtain ⟨M_23, hM_24, hm⟩ := bnd_elim hm
    refine x_iast X hP hS (okc_151 hAll) hM_24 hb_22 dX6_farm_101 (fun H locs hP hS => ?_)
    exact wj_X6_farm_102 X hAll hr hlocks hm hP hS (lv_sub hl [0, 1, 2, 3] rfl)

set_option maxHeartbeats 4000000 in
set_option maxRecDepth 100000 in
theorem wj_X6_farm_78 (X : CxG g p s m args c cX6_farm 5 RX6 wsX6_farm) (hAll : okAll g) {M : Mem} {s1 : Int32} {s2 : Int32} {s3 : Int32} {rr : Int32} {MM : Mem} (hr : meth.sig.returnType = (some .boolean)) (hlocks : meth.locks = false) (hm : j_X6_farm_78 M s1 s2 s3 = some (rr, MM)) {H : Heap} {locs : List Loc} {ls : Array Slot} (hP : va_P (gD g) vwCl (wlG g M) H) (hS : va_S (AbG g) s.heap H locs) (hl : lv_has ls 5 [(0, .ref (ga g 148)), (1, .int s1), (2, .int s2), (3, .int s3)]) : W p l e (headSpec wsX6_farm rmX6_farm).room s m args below meth c H locs 0 0 (MQ below (va_Qi (fun (q : Int32) (_ : Unit) => q = rr) (fun _ t => va_P (gD g) vwCl (wlG g MM) t.heap) (AbG g)) args s 0 0 (AbG g)) (F0 m 78 ls []) := by
  obtain ⟨⟨hx, hb, hml, hown, hts⟩, -, -⟩ := id X
  unfold j_X6_farm_78 at hm
  refine lv_iload_n hx hb dX6_farm_78 rfl (lv_at hl 2 rfl) ?_
  refine lv_iconst (v := 1) hx hb dX6_farm_79 (by decide) ?_
  refine lv_icmp_ne (tgt := 90) hx hb dX6_farm_80 (by decide) (fun h_16 => ?_) (fun h_16 => ?_)
  · rw [if_neg h_16] at hm
    exact wj_X6_farm_90 X hAll hr hlocks hm hP hS (lv_sub hl [0, 1, 2, 3] rfl)
  · rw [if_pos h_16] at hm
    refine lv_aload_n hx hb dX6_farm_83 rfl (lv_at hl 0 rfl) ?_
    refine xg_X6_6 X hP hAll uX6_farm_X6 mbX6_farm_4 dX6_farm_84 ?_
    refine lv_iload_n hx hb dX6_farm_87 rfl (lv_at hl 1 rfl) ?_
    refine lv_iload_n hx hb dX6_farm_88 rfl (lv_at hl 3 rfl) ?_
    obtain ⟨hb_25, hm⟩ := chk_elim hm
    obtain ⟨M_26, hM_27, hm⟩ := bnd_elim hm
    refine x_iast X hP hS (okc_150 hAll) hM_27 hb_25 dX6_farm_89 (fun H locs hP hS => ?_)
    exact wj_X6_farm_90 X hAll hr hlocks hm hP hS (lv_sub hl [0, 1, 2, 3] rfl)

set_option maxHeartbeats 4000000 in
set_option maxRecDepth 100000 in
theorem wj_X6_farm_34 (X : CxG g p s m args c cX6_farm 5 RX6 wsX6_farm) (hAll : okAll g) {M : Mem} {s1 : Int32} {s2 : Int32} {s3 : Int32} {t0 : Int32} {rr : Int32} {MM : Mem} (hr : meth.sig.returnType = (some .boolean)) (hlocks : meth.locks = false) (hm : j_X6_farm_34 M s1 s2 s3 t0 = some (rr, MM)) {H : Heap} {locs : List Loc} {ls : Array Slot} (hP : va_P (gD g) vwCl (wlG g M) H) (hS : va_S (AbG g) s.heap H locs) (hl : lv_has ls 5 [(0, .ref (ga g 148)), (1, .int s1), (2, .int s2), (3, .int s3)]) : W p l e (headSpec wsX6_farm rmX6_farm).room s m args below meth c H locs 0 0 (MQ below (va_Qi (fun (q : Int32) (_ : Unit) => q = rr) (fun _ t => va_P (gD g) vwCl (wlG g MM) t.heap) (AbG g)) args s 0 0 (AbG g)) (F0 m 34 ls [.int t0]) := by
  obtain ⟨⟨hx, hb, hml, hown, hts⟩, -, -⟩ := id X
  unfold j_X6_farm_34 at hm
  refine lv_istore (lv' := [(4, .int t0), (0, .ref (ga g 148)), (1, .int s1), (2, .int s2), (3, .int s3)]) hx hb dX6_farm_34 hl (by decide) rfl (fun ls hl => ?_)
  refine lv_aload_n hx hb dX6_farm_36 rfl (lv_at hl 1 rfl) ?_
  refine lv_iload_n hx hb dX6_farm_37 rfl (lv_at hl 2 rfl) ?_
  obtain ⟨r_7, hc_6, hm⟩ := bind_elim hm
  refine x_calli (x_runV (As := [.int s1]) (rest := []) X hP hS (c_X6_isFarm l X.2.2 hAll hc_6) (cwV 1 hts gX6_farm_X6_isFarm rfl rfl rfl (by decide +kernel) ⟨Nat.le_of_ble_eq_true rfl, Nat.le_of_ble_eq_true rfl⟩) (x_recv (C := RX6) (T := TX6) (N := 55) X hP (okc_148 hAll) rfl) rfl hl.1 rfl (Nat.le_of_ble_eq_true rfl) dX6_farm_38 ⟨Nat.zero_le _, Nat.zero_le _⟩) hS (fun H locs hP hS => ?_)
  refine lv_if_eq (tgt := 65) hx hb dX6_farm_41 (by decide) (fun h_8 => ?_) (fun h_8 => ?_)
  · rw [if_pos h_8] at hm
    refine lv_iconst (v := 0) hx hb dX6_farm_65 (by decide) ?_
    cases hm
    exact x_zret X (by decide) hP hS hr hlocks dX6_farm_66
  · rw [if_neg h_8] at hm
    refine lv_aload_n hx hb dX6_farm_44 rfl (lv_at hl 1 rfl) ?_
    refine lv_iload_n hx hb dX6_farm_45 rfl (lv_at hl 3 rfl) ?_
    refine lv_iconst (v := 0) hx hb dX6_farm_46 (by decide) ?_
    refine lv_iconst (v := 3) hx hb dX6_farm_47 (by decide) ?_
    obtain ⟨r_10, hc_9, hm⟩ := bind_elim hm
    refine x_calli (x_runV (As := [.int s2, .int 0, .int 3]) (rest := []) X hP hS (c_X6_isIn l X.2.2 hc_9) (cwV 3 hts gX6_farm_X6_isIn rfl rfl rfl (by decide +kernel) ⟨Nat.le_of_ble_eq_true rfl, Nat.le_of_ble_eq_true rfl⟩) (x_recv (C := RX6) (T := TX6) (N := 55) X hP (okc_148 hAll) rfl) rfl hl.1 rfl (Nat.le_of_ble_eq_true rfl) dX6_farm_48 ⟨Nat.zero_le _, Nat.zero_le _⟩) hS (fun H locs hP hS => ?_)
    refine lv_if_eq (tgt := 65) hx hb dX6_farm_51 (by decide) (fun h_11 => ?_) (fun h_11 => ?_)
    · rw [if_pos h_11] at hm
      refine lv_iconst (v := 0) hx hb dX6_farm_65 (by decide) ?_
      cases hm
      exact x_zret X (by decide) hP hS hr hlocks dX6_farm_66
    · rw [if_neg h_11] at hm
      refine lv_aload_n hx hb dX6_farm_54 rfl (lv_at hl 1 rfl) ?_
      refine lv_iload_n hx hb dX6_farm_55 rfl (lv_at hl 4 rfl) ?_
      refine lv_iconst (v := 0) hx hb dX6_farm_56 (by decide) ?_
      refine lv_iload hx hb dX6_farm_57 (lv_at hl 0 rfl) ?_
      obtain ⟨r_13, hc_12, hm⟩ := bind_elim hm
      refine x_calli (x_runV (As := [.int s3, .int 0, .int t0]) (rest := []) X hP hS (c_X6_isIn l X.2.2 hc_12) (cwV 3 hts gX6_farm_X6_isIn rfl rfl rfl (by decide +kernel) ⟨Nat.le_of_ble_eq_true rfl, Nat.le_of_ble_eq_true rfl⟩) (x_recv (C := RX6) (T := TX6) (N := 55) X hP (okc_148 hAll) rfl) rfl hl.1 rfl (Nat.le_of_ble_eq_true rfl) dX6_farm_59 ⟨Nat.zero_le _, Nat.zero_le _⟩) hS (fun H locs hP hS => ?_)
      refine lv_if_ne (tgt := 67) hx hb dX6_farm_62 (by decide) (fun h_14 => ?_) (fun h_14 => ?_)
      · rw [if_neg h_14] at hm
        refine lv_iload_n hx hb dX6_farm_67 rfl (lv_at hl 3 rfl) ?_
        refine lv_if_ne (tgt := 78) hx hb dX6_farm_68 (by decide) (fun h_15 => ?_) (fun h_15 => ?_)
        · rw [if_neg h_15] at hm
          exact wj_X6_farm_78 X hAll hr hlocks hm hP hS (lv_sub hl [1, 2, 3, 4] rfl)
        · rw [if_pos h_15] at hm
          refine lv_aload_n hx hb dX6_farm_71 rfl (lv_at hl 1 rfl) ?_
          refine xg_X6_5 X hP hAll uX6_farm_X6 mbX6_farm_5 dX6_farm_72 ?_
          refine lv_iload_n hx hb dX6_farm_75 rfl (lv_at hl 2 rfl) ?_
          refine lv_iload_n hx hb dX6_farm_76 rfl (lv_at hl 4 rfl) ?_
          obtain ⟨hb_28, hm⟩ := chk_elim hm
          obtain ⟨M_29, hM_30, hm⟩ := bnd_elim hm
          refine x_iast X hP hS (okc_149 hAll) hM_30 hb_28 dX6_farm_77 (fun H locs hP hS => ?_)
          exact wj_X6_farm_78 X hAll hr hlocks hm hP hS (lv_sub hl [1, 2, 3, 4] rfl)
      · rw [if_pos h_14] at hm
        refine lv_iconst (v := 0) hx hb dX6_farm_65 (by decide) ?_
        cases hm
        exact x_zret X (by decide) hP hS hr hlocks dX6_farm_66

set_option maxHeartbeats 4000000 in
set_option maxRecDepth 100000 in
theorem c_X6_farm (l : Launch) {g : GT} (hA : AxG g) (hAll : okAll g)   {M : Mem} {a1 : Int32} {a2 : Int32} {a3 : Int32} {rr : Int32} {MM : Mem} (hm : m_X6_farm M a1 a2 a3 = some (rr, MM)) : CI l yX6_farm wsX6_farm rmX6_farm g [.ref (ga g 148), .int a1, .int a2, .int a3] M rr MM := by
  refine Met.ofW (cc := cX6_farm) (maxL := 5) (ret := (some .boolean)) (by decide) rfl ?_
  intro p e s m args below meth c s₁ B hml hv
  obtain ⟨rfl, hSx, hP⟩ := hv
  have hr := B.returns
  have hlocks := B.notSynchronized
  have X : CxG g p s m _ c cX6_farm 5 RX6 wsX6_farm := ⟨⟨B.exec, B.bytes, hml, findClass_of_methodNamed B.named, atoms_spec (ws := wsX6_farm) B.pre⟩, hSx, hA⟩
  have hS : va_S (AbG g) s.heap s.heap [] := va_S.rf
  have hl := lv_entry (([.ref (ga g 148), .int a1, .int a2, .int a3] : List Value)) (n := 5) (Nat.le_of_ble_eq_true rfl)
  rw [lg_entry_eq]
  generalize (lg_sl (([.ref (ga g 148), .int a1, .int a2, .int a3] : List Value)) ++ List.replicate (5 - (lg_sl (([.ref (ga g 148), .int a1, .int a2, .int a3] : List Value))).length) Slot.unset).toArray = ls at hl ⊢
  have hl : lv_has ls 5 [(0, .ref (ga g 148)), (1, .int a1), (2, .int a2), (3, .int a3)] := hl
  obtain ⟨⟨hx, hb, hml, hown, hts⟩, -, -⟩ := id X
  unfold m_X6_farm at hm
  refine lv_aload_n hx hb dX6_farm_0 rfl (lv_at hl 0 rfl) ?_
  refine lv_iconst (v := 0) hx hb dX6_farm_1 (by decide) ?_
  obtain ⟨M_1, hM_2, hm⟩ := bnd_elim hm
  refine xp_X6_0 X hP hAll uX6_farm_X6 mbX6_farm_1 hS hM_2 dX6_farm_2 (fun H locs hP hS => ?_)
  refine lv_iload_n hx hb dX6_farm_5 rfl (lv_at hl 2 rfl) ?_
  refine lv_if_ne (tgt := 14) hx hb dX6_farm_6 (by decide) (fun h_3 => ?_) (fun h_3 => ?_)
  · rw [if_neg h_3] at hm
    refine lv_iload_n hx hb dX6_farm_14 rfl (lv_at hl 2 rfl) ?_
    refine lv_iconst (v := 1) hx hb dX6_farm_15 (by decide) ?_
    refine lv_icmp_ne (tgt := 23) hx hb dX6_farm_16 (by decide) (fun h_4 => ?_) (fun h_4 => ?_)
    · rw [if_neg h_4] at hm
      refine lv_iload_n hx hb dX6_farm_23 rfl (lv_at hl 2 rfl) ?_
      refine lv_iconst (v := 2) hx hb dX6_farm_24 (by decide) ?_
      refine lv_icmp_ne (tgt := 33) hx hb dX6_farm_25 (by decide) (fun h_5 => ?_) (fun h_5 => ?_)
      · rw [if_neg h_5] at hm
        refine lv_iconst (v := 1) hx hb dX6_farm_33 (by decide) ?_
        exact wj_X6_farm_34 X hAll hr hlocks hm hP hS (lv_sub hl [0, 1, 2, 3] rfl)
      · rw [if_pos h_5] at hm
        refine lv_bipush (v := 9) hx hb dX6_farm_28 (by decide) ?_
        refine lv_goto (tgt := 34) hx hb dX6_farm_30 (by decide) ?_
        exact wj_X6_farm_34 X hAll hr hlocks hm hP hS (lv_sub hl [0, 1, 2, 3] rfl)
    · rw [if_pos h_4] at hm
      refine lv_iconst (v := 3) hx hb dX6_farm_19 (by decide) ?_
      refine lv_goto (tgt := 34) hx hb dX6_farm_20 (by decide) ?_
      exact wj_X6_farm_34 X hAll hr hlocks hm hP hS (lv_sub hl [0, 1, 2, 3] rfl)
  · rw [if_pos h_3] at hm
    refine lv_bipush (v := 60) hx hb dX6_farm_9 (by decide) ?_
    refine lv_goto (tgt := 34) hx hb dX6_farm_11 (by decide) ?_
    exact wj_X6_farm_34 X hAll hr hlocks hm hP hS (lv_sub hl [0, 1, 2, 3] rfl)


/-! X6_border -/
def rmX6_border : Room := { frames := 1, cells := 0, slots := 0, locals := 23 }
theorem uX6_border_X6 : ∀ w ∈ wsX60, w ∈ wsX6_border := by decide +kernel
theorem mbX6_border_1 : Cond.fieldLink RX6 121 "FootANightModel" "told" "I" ∈ wsX6_border := by decide +kernel
theorem mbX6_border_2 : Cond.fieldLink RX6 41 "FootANightModel" "heavyOf" "[I" ∈ wsX6_border := by decide +kernel
theorem mbX6_border_3 : Cond.fieldLink RX6 44 "FootANightModel" "pushOf" "[I" ∈ wsX6_border := by decide +kernel
theorem mbX6_border_4 : Cond.fieldLink RX6 38 "FootANightModel" "wallOf" "[I" ∈ wsX6_border := by decide +kernel
set_option maxHeartbeats 4000000 in
set_option maxRecDepth 100000 in
theorem wj_X6_border_64 (X : CxG g p s m args c cX6_border 4 RX6 wsX6_border) (hAll : okAll g) {M : Mem} {s1 : Int32} {rr : Int32} {MM : Mem} (hr : meth.sig.returnType = (some .boolean)) (hlocks : meth.locks = false) (hm : j_X6_border_64 M s1 = some (rr, MM)) {H : Heap} {locs : List Loc} {ls : Array Slot} (hP : va_P (gD g) vwCl (wlG g M) H) (hS : va_S (AbG g) s.heap H locs) (hl : lv_has ls 4 [(0, .ref (ga g 148)), (1, .int s1)]) : W p l e (headSpec wsX6_border rmX6_border).room s m args below meth c H locs 0 0 (MQ below (va_Qi (fun (q : Int32) (_ : Unit) => q = rr) (fun _ t => va_P (gD g) vwCl (wlG g MM) t.heap) (AbG g)) args s 0 0 (AbG g)) (F0 m 64 ls []) := by
  obtain ⟨⟨hx, hb, hml, hown, hts⟩, -, -⟩ := id X
  unfold j_X6_border_64 at hm
  refine lv_aload_n hx hb dX6_border_64 rfl (lv_at hl 0 rfl) ?_
  refine xg_X6_15 X hP hAll uX6_border_X6 mbX6_border_3 dX6_border_65 ?_
  refine lv_iload_n hx hb dX6_border_68 rfl (lv_at hl 1 rfl) ?_
  refine lv_iconst (v := 0) hx hb dX6_border_69 (by decide) ?_
  obtain ⟨hb_17, hm⟩ := chk_elim hm
  obtain ⟨M_18, hM_19, hm⟩ := bnd_elim hm
  refine x_iast X hP hS (okc_159 hAll) hM_19 hb_17 dX6_border_70 (fun H locs hP hS => ?_)
  refine lv_iconst (v := 1) hx hb dX6_border_71 (by decide) ?_
  cases hm
  exact x_zret X (by decide) hP hS hr hlocks dX6_border_72

set_option maxHeartbeats 4000000 in
set_option maxRecDepth 100000 in
theorem wj_X6_border_35 (X : CxG g p s m args c cX6_border 4 RX6 wsX6_border) (hAll : okAll g) {M : Mem} {s1 : Int32} {s2 : Int32} {s3 : Int32} {t1 : Int32} {t2 : Int32} {t3 : Int32} {rr : Int32} {MM : Mem} (hr : meth.sig.returnType = (some .boolean)) (hlocks : meth.locks = false) (hm : j_X6_border_35 M s1 s2 s3 t1 t2 t3 = some (rr, MM)) {H : Heap} {locs : List Loc} {ls : Array Slot} (hP : va_P (gD g) vwCl (wlG g M) H) (hS : va_S (AbG g) s.heap H locs) (hl : lv_has ls 4 [(0, .ref (ga g 148)), (1, .int s1), (2, .int s2), (3, .int s3)]) : W p l e (headSpec wsX6_border rmX6_border).room s m args below meth c H locs 0 0 (MQ below (va_Qi (fun (q : Int32) (_ : Unit) => q = rr) (fun _ t => va_P (gD g) vwCl (wlG g MM) t.heap) (AbG g)) args s 0 0 (AbG g)) (F0 m 35 ls [.int t3, .int t2, .int t1, .ref (ga g 148)]) := by
  obtain ⟨⟨hx, hb, hml, hown, hts⟩, -, -⟩ := id X
  unfold j_X6_border_35 at hm
  obtain ⟨r_11, hc_10, hm⟩ := bind_elim hm
  refine x_calli (x_runV (As := [.int t1, .int t2, .int t3]) (rest := []) X hP hS (c_X6_isIn l X.2.2 hc_10) (cwV 3 hts gX6_border_X6_isIn rfl rfl rfl (by decide +kernel) ⟨Nat.le_of_ble_eq_true rfl, Nat.le_of_ble_eq_true rfl⟩) (x_recv (C := RX6) (T := TX6) (N := 55) X hP (okc_148 hAll) rfl) rfl hl.1 rfl (Nat.le_of_ble_eq_true rfl) dX6_border_35 ⟨Nat.zero_le _, Nat.zero_le _⟩) hS (fun H locs hP hS => ?_)
  refine lv_if_ne (tgt := 43) hx hb dX6_border_38 (by decide) (fun h_12 => ?_) (fun h_12 => ?_)
  · rw [if_neg h_12] at hm
    refine lv_iload_n hx hb dX6_border_43 rfl (lv_at hl 2 rfl) ?_
    refine lv_if_ne (tgt := 57) hx hb dX6_border_44 (by decide) (fun h_13 => ?_) (fun h_13 => ?_)
    · rw [if_neg h_13] at hm
      refine lv_aload_n hx hb dX6_border_57 rfl (lv_at hl 0 rfl) ?_
      refine xg_X6_14 X hP hAll uX6_border_X6 mbX6_border_2 dX6_border_58 ?_
      refine lv_iload_n hx hb dX6_border_61 rfl (lv_at hl 1 rfl) ?_
      refine lv_iload_n hx hb dX6_border_62 rfl (lv_at hl 3 rfl) ?_
      obtain ⟨hb_14, hm⟩ := chk_elim hm
      obtain ⟨M_15, hM_16, hm⟩ := bnd_elim hm
      refine x_iast X hP hS (okc_158 hAll) hM_16 hb_14 dX6_border_63 (fun H locs hP hS => ?_)
      exact wj_X6_border_64 X hAll hr hlocks hm hP hS (lv_sub hl [0, 1] rfl)
    · rw [if_pos h_13] at hm
      refine lv_aload_n hx hb dX6_border_47 rfl (lv_at hl 0 rfl) ?_
      refine xg_X6_13 X hP hAll uX6_border_X6 mbX6_border_4 dX6_border_48 ?_
      refine lv_iload_n hx hb dX6_border_51 rfl (lv_at hl 1 rfl) ?_
      refine lv_iload_n hx hb dX6_border_52 rfl (lv_at hl 3 rfl) ?_
      obtain ⟨hb_20, hm⟩ := chk_elim hm
      obtain ⟨M_21, hM_22, hm⟩ := bnd_elim hm
      refine x_iast X hP hS (okc_157 hAll) hM_22 hb_20 dX6_border_53 (fun H locs hP hS => ?_)
      refine lv_goto (tgt := 64) hx hb dX6_border_54 (by decide) ?_
      exact wj_X6_border_64 X hAll hr hlocks hm hP hS (lv_sub hl [0, 1] rfl)
  · rw [if_pos h_12] at hm
    refine lv_iconst (v := 0) hx hb dX6_border_41 (by decide) ?_
    cases hm
    exact x_zret X (by decide) hP hS hr hlocks dX6_border_42

set_option maxHeartbeats 4000000 in
set_option maxRecDepth 100000 in
theorem c_X6_border (l : Launch) {g : GT} (hA : AxG g) (hAll : okAll g)   {M : Mem} {a1 : Int32} {a2 : Int32} {a3 : Int32} {rr : Int32} {MM : Mem} (hm : m_X6_border M a1 a2 a3 = some (rr, MM)) : CI l yX6_border wsX6_border rmX6_border g [.ref (ga g 148), .int a1, .int a2, .int a3] M rr MM := by
  refine Met.ofW (cc := cX6_border) (maxL := 4) (ret := (some .boolean)) (by decide) rfl ?_
  intro p e s m args below meth c s₁ B hml hv
  obtain ⟨rfl, hSx, hP⟩ := hv
  have hr := B.returns
  have hlocks := B.notSynchronized
  have X : CxG g p s m _ c cX6_border 4 RX6 wsX6_border := ⟨⟨B.exec, B.bytes, hml, findClass_of_methodNamed B.named, atoms_spec (ws := wsX6_border) B.pre⟩, hSx, hA⟩
  have hS : va_S (AbG g) s.heap s.heap [] := va_S.rf
  have hl := lv_entry (([.ref (ga g 148), .int a1, .int a2, .int a3] : List Value)) (n := 4) (Nat.le_of_ble_eq_true rfl)
  rw [lg_entry_eq]
  generalize (lg_sl (([.ref (ga g 148), .int a1, .int a2, .int a3] : List Value)) ++ List.replicate (4 - (lg_sl (([.ref (ga g 148), .int a1, .int a2, .int a3] : List Value))).length) Slot.unset).toArray = ls at hl ⊢
  have hl : lv_has ls 4 [(0, .ref (ga g 148)), (1, .int a1), (2, .int a2), (3, .int a3)] := hl
  obtain ⟨⟨hx, hb, hml, hown, hts⟩, -, -⟩ := id X
  unfold m_X6_border at hm
  refine lv_aload_n hx hb dX6_border_0 rfl (lv_at hl 0 rfl) ?_
  refine lv_iconst (v := 0) hx hb dX6_border_1 (by decide) ?_
  obtain ⟨M_1, hM_2, hm⟩ := bnd_elim hm
  refine xp_X6_0 X hP hAll uX6_border_X6 mbX6_border_1 hS hM_2 dX6_border_2 (fun H locs hP hS => ?_)
  refine lv_aload_n hx hb dX6_border_5 rfl (lv_at hl 0 rfl) ?_
  refine lv_iload_n hx hb dX6_border_6 rfl (lv_at hl 1 rfl) ?_
  obtain ⟨r_4, hc_3, hm⟩ := bind_elim hm
  refine x_calli (x_runV (As := [.int a1]) (rest := []) X hP hS (c_X6_isFarm l X.2.2 hAll hc_3) (cwV 1 hts gX6_border_X6_isFarm rfl rfl rfl (by decide +kernel) ⟨Nat.le_of_ble_eq_true rfl, Nat.le_of_ble_eq_true rfl⟩) (x_recv (C := RX6) (T := TX6) (N := 55) X hP (okc_148 hAll) rfl) rfl hl.1 rfl (Nat.le_of_ble_eq_true rfl) dX6_border_7 ⟨Nat.zero_le _, Nat.zero_le _⟩) hS (fun H locs hP hS => ?_)
  refine lv_if_eq (tgt := 41) hx hb dX6_border_10 (by decide) (fun h_5 => ?_) (fun h_5 => ?_)
  · rw [if_pos h_5] at hm
    refine lv_iconst (v := 0) hx hb dX6_border_41 (by decide) ?_
    cases hm
    exact x_zret X (by decide) hP hS hr hlocks dX6_border_42
  · rw [if_neg h_5] at hm
    refine lv_aload_n hx hb dX6_border_13 rfl (lv_at hl 0 rfl) ?_
    refine lv_iload_n hx hb dX6_border_14 rfl (lv_at hl 2 rfl) ?_
    refine lv_iconst (v := 0) hx hb dX6_border_15 (by decide) ?_
    refine lv_iconst (v := 1) hx hb dX6_border_16 (by decide) ?_
    obtain ⟨r_7, hc_6, hm⟩ := bind_elim hm
    refine x_calli (x_runV (As := [.int a2, .int 0, .int 1]) (rest := []) X hP hS (c_X6_isIn l X.2.2 hc_6) (cwV 3 hts gX6_border_X6_isIn rfl rfl rfl (by decide +kernel) ⟨Nat.le_of_ble_eq_true rfl, Nat.le_of_ble_eq_true rfl⟩) (x_recv (C := RX6) (T := TX6) (N := 55) X hP (okc_148 hAll) rfl) rfl hl.1 rfl (Nat.le_of_ble_eq_true rfl) dX6_border_17 ⟨Nat.zero_le _, Nat.zero_le _⟩) hS (fun H locs hP hS => ?_)
    refine lv_if_eq (tgt := 41) hx hb dX6_border_20 (by decide) (fun h_8 => ?_) (fun h_8 => ?_)
    · rw [if_pos h_8] at hm
      refine lv_iconst (v := 0) hx hb dX6_border_41 (by decide) ?_
      cases hm
      exact x_zret X (by decide) hP hS hr hlocks dX6_border_42
    · rw [if_neg h_8] at hm
      refine lv_aload_n hx hb dX6_border_23 rfl (lv_at hl 0 rfl) ?_
      refine lv_iload_n hx hb dX6_border_24 rfl (lv_at hl 3 rfl) ?_
      refine lv_iconst (v := 0) hx hb dX6_border_25 (by decide) ?_
      refine lv_iload_n hx hb dX6_border_26 rfl (lv_at hl 2 rfl) ?_
      refine lv_if_ne (tgt := 34) hx hb dX6_border_27 (by decide) (fun h_9 => ?_) (fun h_9 => ?_)
      · rw [if_neg h_9] at hm
        refine lv_iconst (v := 3) hx hb dX6_border_34 (by decide) ?_
        exact wj_X6_border_35 X hAll hr hlocks hm hP hS (lv_sub hl [0, 1, 2, 3] rfl)
      · rw [if_pos h_9] at hm
        refine lv_iconst (v := 1) hx hb dX6_border_30 (by decide) ?_
        refine lv_goto (tgt := 35) hx hb dX6_border_31 (by decide) ?_
        exact wj_X6_border_35 X hAll hr hlocks hm hP hS (lv_sub hl [0, 1, 2, 3] rfl)


/-! X6_set -/
def rmX6_set : Room := { frames := 1, cells := 0, slots := 0, locals := 23 }
theorem uX6_set_X6 : ∀ w ∈ wsX60, w ∈ wsX6_set := by decide +kernel
theorem mbX6_set_1 : Cond.fieldLink RX6 121 "FootANightModel" "told" "I" ∈ wsX6_set := by decide +kernel
theorem mbX6_set_2 : Cond.fieldLink RX6 53 "FootANightModel" "settings" "[I" ∈ wsX6_set := by decide +kernel
set_option maxHeartbeats 4000000 in
set_option maxRecDepth 100000 in
theorem wj_X6_set_29 (X : CxG g p s m args c cX6_set 4 RX6 wsX6_set) (hAll : okAll g) {M : Mem} {s1 : Int32} {s2 : Int32} {t0 : Int32} {rr : Int32} {MM : Mem} (hr : meth.sig.returnType = (some .boolean)) (hlocks : meth.locks = false) (hm : j_X6_set_29 M s1 s2 t0 = some (rr, MM)) {H : Heap} {locs : List Loc} {ls : Array Slot} (hP : va_P (gD g) vwCl (wlG g M) H) (hS : va_S (AbG g) s.heap H locs) (hl : lv_has ls 4 [(0, .ref (ga g 148)), (1, .int s1), (2, .int s2)]) : W p l e (headSpec wsX6_set rmX6_set).room s m args below meth c H locs 0 0 (MQ below (va_Qi (fun (q : Int32) (_ : Unit) => q = rr) (fun _ t => va_P (gD g) vwCl (wlG g MM) t.heap) (AbG g)) args s 0 0 (AbG g)) (F0 m 29 ls [.int t0]) := by
  obtain ⟨⟨hx, hb, hml, hown, hts⟩, -, -⟩ := id X
  unfold j_X6_set_29 at hm
  refine lv_istore_n (lv' := [(3, .int t0), (0, .ref (ga g 148)), (1, .int s1), (2, .int s2)]) hx hb dX6_set_29 rfl hl (by decide) rfl (fun ls hl => ?_)
  refine lv_aload_n hx hb dX6_set_30 rfl (lv_at hl 1 rfl) ?_
  refine lv_iload_n hx hb dX6_set_31 rfl (lv_at hl 2 rfl) ?_
  refine lv_iconst (v := 0) hx hb dX6_set_32 (by decide) ?_
  refine lv_bipush (v := 9) hx hb dX6_set_33 (by decide) ?_
  obtain ⟨r_6, hc_5, hm⟩ := bind_elim hm
  refine x_calli (x_runV (As := [.int s1, .int 0, .int 9]) (rest := []) X hP hS (c_X6_isIn l X.2.2 hc_5) (cwV 3 hts gX6_set_X6_isIn rfl rfl rfl (by decide +kernel) ⟨Nat.le_of_ble_eq_true rfl, Nat.le_of_ble_eq_true rfl⟩) (x_recv (C := RX6) (T := TX6) (N := 55) X hP (okc_148 hAll) rfl) rfl hl.1 rfl (Nat.le_of_ble_eq_true rfl) dX6_set_35 ⟨Nat.zero_le _, Nat.zero_le _⟩) hS (fun H locs hP hS => ?_)
  refine lv_if_eq (tgt := 51) hx hb dX6_set_38 (by decide) (fun h_7 => ?_) (fun h_7 => ?_)
  · rw [if_pos h_7] at hm
    refine lv_iconst (v := 0) hx hb dX6_set_51 (by decide) ?_
    cases hm
    exact x_zret X (by decide) hP hS hr hlocks dX6_set_52
  · rw [if_neg h_7] at hm
    refine lv_aload_n hx hb dX6_set_41 rfl (lv_at hl 1 rfl) ?_
    refine lv_iload_n hx hb dX6_set_42 rfl (lv_at hl 3 rfl) ?_
    refine lv_iconst (v := 0) hx hb dX6_set_43 (by decide) ?_
    refine lv_iload_n hx hb dX6_set_44 rfl (lv_at hl 0 rfl) ?_
    obtain ⟨r_9, hc_8, hm⟩ := bind_elim hm
    refine x_calli (x_runV (As := [.int s2, .int 0, .int t0]) (rest := []) X hP hS (c_X6_isIn l X.2.2 hc_8) (cwV 3 hts gX6_set_X6_isIn rfl rfl rfl (by decide +kernel) ⟨Nat.le_of_ble_eq_true rfl, Nat.le_of_ble_eq_true rfl⟩) (x_recv (C := RX6) (T := TX6) (N := 55) X hP (okc_148 hAll) rfl) rfl hl.1 rfl (Nat.le_of_ble_eq_true rfl) dX6_set_45 ⟨Nat.zero_le _, Nat.zero_le _⟩) hS (fun H locs hP hS => ?_)
    refine lv_if_ne (tgt := 53) hx hb dX6_set_48 (by decide) (fun h_10 => ?_) (fun h_10 => ?_)
    · rw [if_neg h_10] at hm
      refine lv_aload_n hx hb dX6_set_53 rfl (lv_at hl 1 rfl) ?_
      refine xg_X6_18 X hP hAll uX6_set_X6 mbX6_set_2 dX6_set_54 ?_
      refine lv_iload_n hx hb dX6_set_57 rfl (lv_at hl 2 rfl) ?_
      refine lv_iload_n hx hb dX6_set_58 rfl (lv_at hl 3 rfl) ?_
      obtain ⟨hb_11, hm⟩ := chk_elim hm
      obtain ⟨M_12, hM_13, hm⟩ := bnd_elim hm
      refine x_iast X hP hS (okc_162 hAll) hM_13 hb_11 dX6_set_59 (fun H locs hP hS => ?_)
      refine lv_iconst (v := 1) hx hb dX6_set_60 (by decide) ?_
      cases hm
      exact x_zret X (by decide) hP hS hr hlocks dX6_set_61
    · rw [if_pos h_10] at hm
      refine lv_iconst (v := 0) hx hb dX6_set_51 (by decide) ?_
      cases hm
      exact x_zret X (by decide) hP hS hr hlocks dX6_set_52

set_option maxHeartbeats 4000000 in
set_option maxRecDepth 100000 in
theorem c_X6_set (l : Launch) {g : GT} (hA : AxG g) (hAll : okAll g)   {M : Mem} {a1 : Int32} {a2 : Int32} {rr : Int32} {MM : Mem} (hm : m_X6_set M a1 a2 = some (rr, MM)) : CI l yX6_set wsX6_set rmX6_set g [.ref (ga g 148), .int a1, .int a2] M rr MM := by
  refine Met.ofW (cc := cX6_set) (maxL := 4) (ret := (some .boolean)) (by decide) rfl ?_
  intro p e s m args below meth c s₁ B hml hv
  obtain ⟨rfl, hSx, hP⟩ := hv
  have hr := B.returns
  have hlocks := B.notSynchronized
  have X : CxG g p s m _ c cX6_set 4 RX6 wsX6_set := ⟨⟨B.exec, B.bytes, hml, findClass_of_methodNamed B.named, atoms_spec (ws := wsX6_set) B.pre⟩, hSx, hA⟩
  have hS : va_S (AbG g) s.heap s.heap [] := va_S.rf
  have hl := lv_entry (([.ref (ga g 148), .int a1, .int a2] : List Value)) (n := 4) (Nat.le_of_ble_eq_true rfl)
  rw [lg_entry_eq]
  generalize (lg_sl (([.ref (ga g 148), .int a1, .int a2] : List Value)) ++ List.replicate (4 - (lg_sl (([.ref (ga g 148), .int a1, .int a2] : List Value))).length) Slot.unset).toArray = ls at hl ⊢
  have hl : lv_has ls 4 [(0, .ref (ga g 148)), (1, .int a1), (2, .int a2)] := hl
  obtain ⟨⟨hx, hb, hml, hown, hts⟩, -, -⟩ := id X
  unfold m_X6_set at hm
  refine lv_aload_n hx hb dX6_set_0 rfl (lv_at hl 0 rfl) ?_
  refine lv_iconst (v := 0) hx hb dX6_set_1 (by decide) ?_
  obtain ⟨M_1, hM_2, hm⟩ := bnd_elim hm
  refine xp_X6_0 X hP hAll uX6_set_X6 mbX6_set_1 hS hM_2 dX6_set_2 (fun H locs hP hS => ?_)
  refine lv_iload_n hx hb dX6_set_5 rfl (lv_at hl 1 rfl) ?_
  refine lv_bipush (v := 9) hx hb dX6_set_6 (by decide) ?_
  refine lv_icmp_ne (tgt := 15) hx hb dX6_set_8 (by decide) (fun h_3 => ?_) (fun h_3 => ?_)
  · rw [if_neg h_3] at hm
    refine lv_iload_n hx hb dX6_set_15 rfl (lv_at hl 1 rfl) ?_
    refine lv_bipush (v := 7) hx hb dX6_set_16 (by decide) ?_
    refine lv_icmp_lt (tgt := 27) hx hb dX6_set_18 (by decide) (fun h_4 => ?_) (fun h_4 => ?_)
    · rw [if_pos h_4] at hm
      refine lv_bipush (v := 99) hx hb dX6_set_27 (by decide) ?_
      exact wj_X6_set_29 X hAll hr hlocks hm hP hS (lv_sub hl [0, 1, 2] rfl)
    · rw [if_neg h_4] at hm
      refine lv_sipush (v := 1000) hx hb dX6_set_21 (by decide) ?_
      refine lv_goto (tgt := 29) hx hb dX6_set_24 (by decide) ?_
      exact wj_X6_set_29 X hAll hr hlocks hm hP hS (lv_sub hl [0, 1, 2] rfl)
  · rw [if_pos h_3] at hm
    refine lv_iconst (v := 5) hx hb dX6_set_11 (by decide) ?_
    refine lv_goto (tgt := 29) hx hb dX6_set_12 (by decide) ?_
    exact wj_X6_set_29 X hAll hr hlocks hm hP hS (lv_sub hl [0, 1, 2] rfl)


/-! X6_worthOf -/
def rmX6_worthOf : Room := { frames := 1, cells := 0, slots := 0, locals := 22 }
theorem uX6_worthOf_X6 : ∀ w ∈ wsX60, w ∈ wsX6_worthOf := by decide +kernel
theorem mbX6_worthOf_1 : Cond.fieldLink RX6 53 "FootANightModel" "settings" "[I" ∈ wsX6_worthOf := by decide +kernel
set_option maxHeartbeats 4000000 in
set_option maxRecDepth 100000 in
theorem c_X6_worthOf (l : Launch) {g : GT} (hA : AxG g) (hAll : okAll g)   {M : Mem} {a1 : Int32} {rr : Int32} (hm : m_X6_worthOf M a1 = some rr) : CI l yX6_worthOf wsX6_worthOf rmX6_worthOf g [.ref (ga g 148), .int a1] M rr M := by
  refine Met.ofW (cc := cX6_worthOf) (maxL := 4) (ret := (some .int)) (by decide) rfl ?_
  intro p e s m args below meth c s₁ B hml hv
  obtain ⟨rfl, hSx, hP⟩ := hv
  have hr := B.returns
  have hlocks := B.notSynchronized
  have X : CxG g p s m _ c cX6_worthOf 4 RX6 wsX6_worthOf := ⟨⟨B.exec, B.bytes, hml, findClass_of_methodNamed B.named, atoms_spec (ws := wsX6_worthOf) B.pre⟩, hSx, hA⟩
  have hS : va_S (AbG g) s.heap s.heap [] := va_S.rf
  have hl := lv_entry (([.ref (ga g 148), .int a1] : List Value)) (n := 4) (Nat.le_of_ble_eq_true rfl)
  rw [lg_entry_eq]
  generalize (lg_sl (([.ref (ga g 148), .int a1] : List Value)) ++ List.replicate (4 - (lg_sl (([.ref (ga g 148), .int a1] : List Value))).length) Slot.unset).toArray = ls at hl ⊢
  have hl : lv_has ls 4 [(0, .ref (ga g 148)), (1, .int a1)] := hl
  obtain ⟨⟨hx, hb, hml, hown, hts⟩, -, -⟩ := id X
  unfold m_X6_worthOf at hm
  refine lv_aload_n hx hb dX6_worthOf_0 rfl (lv_at hl 0 rfl) ?_
  refine lv_iload_n hx hb dX6_worthOf_1 rfl (lv_at hl 1 rfl) ?_
  refine lv_bipush (v := 10) hx hb dX6_worthOf_2 (by decide) ?_
  obtain ⟨r_2, hc_1, hm⟩ := bind_elim hm
  refine x_calli (x_runV (As := [.int a1, .int 10]) (rest := []) X hP hS (c_X6_less l X.2.2 hc_1) (cwV 2 hts gX6_worthOf_X6_less rfl rfl rfl (by decide +kernel) ⟨Nat.le_of_ble_eq_true rfl, Nat.le_of_ble_eq_true rfl⟩) (x_recv (C := RX6) (T := TX6) (N := 55) X hP (okc_148 hAll) rfl) rfl hl.1 rfl (Nat.le_of_ble_eq_true rfl) dX6_worthOf_4 ⟨Nat.zero_le _, Nat.zero_le _⟩) hS (fun H locs hP hS => ?_)
  refine lv_istore_n (lv' := [(2, .int r_2), (0, .ref (ga g 148)), (1, .int a1)]) hx hb dX6_worthOf_7 rfl hl (by decide) rfl (fun ls hl => ?_)
  refine lv_aload_n hx hb dX6_worthOf_8 rfl (lv_at hl 1 rfl) ?_
  refine lv_iload_n hx hb dX6_worthOf_9 rfl (lv_at hl 2 rfl) ?_
  refine lv_bipush (v := 30) hx hb dX6_worthOf_10 (by decide) ?_
  obtain ⟨r_4, hc_3, hm⟩ := bind_elim hm
  refine x_calli (x_runV (As := [.int a1, .int 30]) (rest := []) X hP hS (c_X6_less l X.2.2 hc_3) (cwV 2 hts gX6_worthOf_X6_less rfl rfl rfl (by decide +kernel) ⟨Nat.le_of_ble_eq_true rfl, Nat.le_of_ble_eq_true rfl⟩) (x_recv (C := RX6) (T := TX6) (N := 55) X hP (okc_148 hAll) rfl) rfl hl.1 rfl (Nat.le_of_ble_eq_true rfl) dX6_worthOf_12 ⟨Nat.zero_le _, Nat.zero_le _⟩) hS (fun H locs hP hS => ?_)
  refine lv_iload_n hx hb dX6_worthOf_15 rfl (lv_at hl 0 rfl) ?_
  refine lv_isub hx hb dX6_worthOf_16 ?_
  obtain ⟨v_5, hv_6, hm⟩ := bnd_elim hm
  refine x_name hv_6 ?_
  refine lv_istore_n (lv' := [(3, .int v_5), (2, .int r_2), (0, .ref (ga g 148)), (1, .int a1)]) hx hb dX6_worthOf_17 rfl hl (by decide) rfl (fun ls hl => ?_)
  refine lv_aload_n hx hb dX6_worthOf_18 rfl (lv_at hl 2 rfl) ?_
  refine xg_X6_18 X hP hAll uX6_worthOf_X6 mbX6_worthOf_1 dX6_worthOf_19 ?_
  refine lv_iconst (v := 0) hx hb dX6_worthOf_22 (by decide) ?_
  refine x_iald X hP (okc_162 hAll) (show inb 0 10 = true from rfl) dX6_worthOf_23 ?_
  refine lv_iload_n hx hb dX6_worthOf_24 rfl (lv_at hl 1 rfl) ?_
  refine lv_imul hx hb dX6_worthOf_25 ?_
  refine lv_aload_n hx hb dX6_worthOf_26 rfl (lv_at hl 2 rfl) ?_
  refine xg_X6_18 X hP hAll uX6_worthOf_X6 mbX6_worthOf_1 dX6_worthOf_27 ?_
  refine lv_iconst (v := 1) hx hb dX6_worthOf_30 (by decide) ?_
  refine x_iald X hP (okc_162 hAll) (show inb 1 10 = true from rfl) dX6_worthOf_31 ?_
  refine lv_iload_n hx hb dX6_worthOf_32 rfl (lv_at hl 0 rfl) ?_
  refine lv_imul hx hb dX6_worthOf_33 ?_
  refine lv_iadd hx hb dX6_worthOf_34 ?_
  refine lv_aload_n hx hb dX6_worthOf_35 rfl (lv_at hl 2 rfl) ?_
  refine xg_X6_18 X hP hAll uX6_worthOf_X6 mbX6_worthOf_1 dX6_worthOf_36 ?_
  refine lv_iconst (v := 2) hx hb dX6_worthOf_39 (by decide) ?_
  refine x_iald X hP (okc_162 hAll) (show inb 2 10 = true from rfl) dX6_worthOf_40 ?_
  refine lv_iload_n hx hb dX6_worthOf_41 rfl (lv_at hl 3 rfl) ?_
  refine lv_iload_n hx hb dX6_worthOf_42 rfl (lv_at hl 1 rfl) ?_
  refine lv_isub hx hb dX6_worthOf_43 ?_
  refine lv_iload_n hx hb dX6_worthOf_44 rfl (lv_at hl 0 rfl) ?_
  refine lv_isub hx hb dX6_worthOf_45 ?_
  refine lv_imul hx hb dX6_worthOf_46 ?_
  refine lv_iadd hx hb dX6_worthOf_47 ?_
  cases hm
  exact x_iret X hP hS hr hlocks dX6_worthOf_48


/-! X6_worth -/
def rmX6_worth : Room := { frames := 2, cells := 0, slots := 0, locals := 45 }
theorem uX6_worth_X6 : ∀ w ∈ wsX60, w ∈ wsX6_worth := by decide +kernel
theorem mbX6_worth_1 : Cond.fieldLink RX6 121 "FootANightModel" "told" "I" ∈ wsX6_worth := by decide +kernel
set_option maxHeartbeats 4000000 in
set_option maxRecDepth 100000 in
theorem c_X6_worth (l : Launch) {g : GT} (hA : AxG g) (hAll : okAll g)   {M : Mem} {a1 : Int32} {rr : Int32} {MM : Mem} (hm : m_X6_worth M a1 = some (rr, MM)) : CI l yX6_worth wsX6_worth rmX6_worth g [.ref (ga g 148), .int a1] M rr MM := by
  refine Met.ofW (cc := cX6_worth) (maxL := 2) (ret := (some .int)) (by decide) rfl ?_
  intro p e s m args below meth c s₁ B hml hv
  obtain ⟨rfl, hSx, hP⟩ := hv
  have hr := B.returns
  have hlocks := B.notSynchronized
  have X : CxG g p s m _ c cX6_worth 2 RX6 wsX6_worth := ⟨⟨B.exec, B.bytes, hml, findClass_of_methodNamed B.named, atoms_spec (ws := wsX6_worth) B.pre⟩, hSx, hA⟩
  have hS : va_S (AbG g) s.heap s.heap [] := va_S.rf
  have hl := lv_entry (([.ref (ga g 148), .int a1] : List Value)) (n := 2) (Nat.le_of_ble_eq_true rfl)
  rw [lg_entry_eq]
  generalize (lg_sl (([.ref (ga g 148), .int a1] : List Value)) ++ List.replicate (2 - (lg_sl (([.ref (ga g 148), .int a1] : List Value))).length) Slot.unset).toArray = ls at hl ⊢
  have hl : lv_has ls 2 [(0, .ref (ga g 148)), (1, .int a1)] := hl
  obtain ⟨⟨hx, hb, hml, hown, hts⟩, -, -⟩ := id X
  unfold m_X6_worth at hm
  refine lv_aload_n hx hb dX6_worth_0 rfl (lv_at hl 0 rfl) ?_
  refine lv_iconst (v := 0) hx hb dX6_worth_1 (by decide) ?_
  obtain ⟨M_1, hM_2, hm⟩ := bnd_elim hm
  refine xp_X6_0 X hP hAll uX6_worth_X6 mbX6_worth_1 hS hM_2 dX6_worth_2 (fun H locs hP hS => ?_)
  refine lv_aload_n hx hb dX6_worth_5 rfl (lv_at hl 0 rfl) ?_
  refine lv_iload_n hx hb dX6_worth_6 rfl (lv_at hl 1 rfl) ?_
  refine lv_iconst (v := 0) hx hb dX6_worth_7 (by decide) ?_
  refine lv_sipush (v := 600) hx hb dX6_worth_8 (by decide) ?_
  obtain ⟨r_4, hc_3, hm⟩ := bind_elim hm
  refine x_calli (x_runV (As := [.int a1, .int 0, .int 600]) (rest := []) X hP hS (c_X6_isIn l X.2.2 hc_3) (cwV 3 hts gX6_worth_X6_isIn rfl rfl rfl (by decide +kernel) ⟨Nat.le_of_ble_eq_true rfl, Nat.le_of_ble_eq_true rfl⟩) (x_recv (C := RX6) (T := TX6) (N := 55) X hP (okc_148 hAll) rfl) rfl hl.1 rfl (Nat.le_of_ble_eq_true rfl) dX6_worth_11 ⟨Nat.zero_le _, Nat.zero_le _⟩) hS (fun H locs hP hS => ?_)
  refine lv_if_eq (tgt := 25) hx hb dX6_worth_14 (by decide) (fun h_5 => ?_) (fun h_5 => ?_)
  · rw [if_pos h_5] at hm
    refine lv_iconst (v := (-1)) hx hb dX6_worth_25 (by decide) ?_
    cases hm
    exact x_iret X hP hS hr hlocks dX6_worth_26
  · rw [if_neg h_5] at hm
    refine lv_aload_n hx hb dX6_worth_17 rfl (lv_at hl 0 rfl) ?_
    refine lv_iload_n hx hb dX6_worth_18 rfl (lv_at hl 1 rfl) ?_
    obtain ⟨r_7, hc_6, hm⟩ := bind_elim hm
    refine x_calli (x_runV (As := [.int a1]) (rest := []) X hP hS (c_X6_worthOf l X.2.2 hAll hc_6) (cwV 1 hts gX6_worth_X6_worthOf rfl rfl rfl (by decide +kernel) ⟨Nat.le_of_ble_eq_true rfl, Nat.le_of_ble_eq_true rfl⟩) (x_recv (C := RX6) (T := TX6) (N := 55) X hP (okc_148 hAll) rfl) rfl hl.1 rfl (Nat.le_of_ble_eq_true rfl) dX6_worth_19 ⟨Nat.zero_le _, Nat.zero_le _⟩) hS (fun H locs hP hS => ?_)
    refine lv_goto (tgt := 26) hx hb dX6_worth_22 (by decide) ?_
    cases hm
    exact x_iret X hP hS hr hlocks dX6_worth_26


/-! X6_rightOf -/
def rmX6_rightOf : Room := { frames := 0, cells := 0, slots := 0, locals := 0 }
theorem uX6_rightOf_X6 : ∀ w ∈ wsX60, w ∈ wsX6_rightOf := by decide +kernel
theorem mbX6_rightOf_1 : Cond.fieldLink RX6 7 "FootANightModel" "n" "I" ∈ wsX6_rightOf := by decide +kernel
set_option maxHeartbeats 4000000 in
set_option maxRecDepth 100000 in
theorem c_X6_rightOf (l : Launch) {g : GT} (hA : AxG g) (hAll : okAll g)   {M : Mem} {a1 : Int32} {rr : Int32} (hm : m_X6_rightOf M a1 = some rr) : CI l yX6_rightOf wsX6_rightOf rmX6_rightOf g [.ref (ga g 148), .int a1] M rr M := by
  refine Met.ofW (cc := cX6_rightOf) (maxL := 2) (ret := (some .int)) (by decide) rfl ?_
  intro p e s m args below meth c s₁ B hml hv
  obtain ⟨rfl, hSx, hP⟩ := hv
  have hr := B.returns
  have hlocks := B.notSynchronized
  have X : CxG g p s m _ c cX6_rightOf 2 RX6 wsX6_rightOf := ⟨⟨B.exec, B.bytes, hml, findClass_of_methodNamed B.named, atoms_spec (ws := wsX6_rightOf) B.pre⟩, hSx, hA⟩
  have hS : va_S (AbG g) s.heap s.heap [] := va_S.rf
  have hl := lv_entry (([.ref (ga g 148), .int a1] : List Value)) (n := 2) (Nat.le_of_ble_eq_true rfl)
  rw [lg_entry_eq]
  generalize (lg_sl (([.ref (ga g 148), .int a1] : List Value)) ++ List.replicate (2 - (lg_sl (([.ref (ga g 148), .int a1] : List Value))).length) Slot.unset).toArray = ls at hl ⊢
  have hl : lv_has ls 2 [(0, .ref (ga g 148)), (1, .int a1)] := hl
  obtain ⟨⟨hx, hb, hml, hown, hts⟩, -, -⟩ := id X
  unfold m_X6_rightOf at hm
  refine lv_iload_n hx hb dX6_rightOf_0 rfl (lv_at hl 1 rfl) ?_
  refine lv_iconst (v := 1) hx hb dX6_rightOf_1 (by decide) ?_
  refine lv_iadd hx hb dX6_rightOf_2 ?_
  refine lv_aload_n hx hb dX6_rightOf_3 rfl (lv_at hl 0 rfl) ?_
  refine xg_X6_2 X hP hAll uX6_rightOf_X6 mbX6_rightOf_1 dX6_rightOf_4 ?_
  obtain ⟨hz_1, hm⟩ := chk_elim hm
  refine lv_irem hx hb dX6_rightOf_7 (nz_of hz_1) ?_
  cases hm
  exact x_iret X hP hS hr hlocks dX6_rightOf_8


/-! X6_leftOf -/
def rmX6_leftOf : Room := { frames := 0, cells := 0, slots := 0, locals := 0 }
theorem uX6_leftOf_X6 : ∀ w ∈ wsX60, w ∈ wsX6_leftOf := by decide +kernel
theorem mbX6_leftOf_1 : Cond.fieldLink RX6 7 "FootANightModel" "n" "I" ∈ wsX6_leftOf := by decide +kernel
set_option maxHeartbeats 4000000 in
set_option maxRecDepth 100000 in
theorem c_X6_leftOf (l : Launch) {g : GT} (hA : AxG g) (hAll : okAll g)   {M : Mem} {a1 : Int32} {rr : Int32} (hm : m_X6_leftOf M a1 = some rr) : CI l yX6_leftOf wsX6_leftOf rmX6_leftOf g [.ref (ga g 148), .int a1] M rr M := by
  refine Met.ofW (cc := cX6_leftOf) (maxL := 2) (ret := (some .int)) (by decide) rfl ?_
  intro p e s m args below meth c s₁ B hml hv
  obtain ⟨rfl, hSx, hP⟩ := hv
  have hr := B.returns
  have hlocks := B.notSynchronized
  have X : CxG g p s m _ c cX6_leftOf 2 RX6 wsX6_leftOf := ⟨⟨B.exec, B.bytes, hml, findClass_of_methodNamed B.named, atoms_spec (ws := wsX6_leftOf) B.pre⟩, hSx, hA⟩
  have hS : va_S (AbG g) s.heap s.heap [] := va_S.rf
  have hl := lv_entry (([.ref (ga g 148), .int a1] : List Value)) (n := 2) (Nat.le_of_ble_eq_true rfl)
  rw [lg_entry_eq]
  generalize (lg_sl (([.ref (ga g 148), .int a1] : List Value)) ++ List.replicate (2 - (lg_sl (([.ref (ga g 148), .int a1] : List Value))).length) Slot.unset).toArray = ls at hl ⊢
  have hl : lv_has ls 2 [(0, .ref (ga g 148)), (1, .int a1)] := hl
  obtain ⟨⟨hx, hb, hml, hown, hts⟩, -, -⟩ := id X
  unfold m_X6_leftOf at hm
  refine lv_iload_n hx hb dX6_leftOf_0 rfl (lv_at hl 1 rfl) ?_
  refine lv_aload_n hx hb dX6_leftOf_1 rfl (lv_at hl 0 rfl) ?_
  refine xg_X6_2 X hP hAll uX6_leftOf_X6 mbX6_leftOf_1 dX6_leftOf_2 ?_
  refine lv_iadd hx hb dX6_leftOf_5 ?_
  refine lv_iconst (v := 1) hx hb dX6_leftOf_6 (by decide) ?_
  refine lv_isub hx hb dX6_leftOf_7 ?_
  refine lv_aload_n hx hb dX6_leftOf_8 rfl (lv_at hl 0 rfl) ?_
  refine xg_X6_2 X hP hAll uX6_leftOf_X6 mbX6_leftOf_1 dX6_leftOf_9 ?_
  obtain ⟨hz_1, hm⟩ := chk_elim hm
  refine lv_irem hx hb dX6_leftOf_12 (nz_of hz_1) ?_
  cases hm
  exact x_iret X hP hS hr hlocks dX6_leftOf_13


/-! X6_puts -/
def rmX6_puts : Room := { frames := 0, cells := 0, slots := 0, locals := 0 }
theorem uX6_puts_X6 : ∀ w ∈ wsX60, w ∈ wsX6_puts := by decide +kernel
theorem mbX6_puts_1 : Cond.fieldLink RX6 56 "FootANightModel" "tape" "[I" ∈ wsX6_puts := by decide +kernel
theorem mbX6_puts_2 : Cond.fieldLink RX6 145 "FootANightModel" "taped" "I" ∈ wsX6_puts := by decide +kernel
set_option maxHeartbeats 4000000 in
set_option maxRecDepth 100000 in
theorem wl_X6_puts_3 (X : CxG g p s m args c cX6_puts 3 RX6 wsX6_puts) (hAll : okAll g) {fu : Nat} {s1 : Int32} {x : Mem} (kx0 : ∀ (M2 : Mem) , x = M2 → ∀ (H : Heap) (locs : List Loc) (ls : Array Slot), va_P (gD g) vwCl (wlG g M2) H → va_S (AbG g) s.heap H locs → lv_has ls 3 [] → W p l e (headSpec wsX6_puts rmX6_puts).room s m args below meth c H locs 0 0 Q (F0 m 39 ls [])) {n : Nat} {q0 : Int32 × Mem} (h : lp (b_X6_puts_3 fu s1) n q0 = some x) : ∀ (H : Heap) (locs : List Loc) (ls : Array Slot), va_P (gD g) vwCl (wlG g q0.2) H → va_S (AbG g) s.heap H locs → lv_has ls 3 [(0, .ref (ga g 148)), (1, .int s1), (2, .int q0.1)] → W p l e (headSpec wsX6_puts rmX6_puts).room s m args below meth c H locs 0 0 Q (F0 m 3 ls []) := by
  refine lp_elim (P := fun q0 : Int32 × Mem => ∀ (H : Heap) (locs : List Loc) (ls : Array Slot), va_P (gD g) vwCl (wlG g q0.2) H → va_S (AbG g) s.heap H locs → lv_has ls 3 [(0, .ref (ga g 148)), (1, .int s1), (2, .int q0.1)] → W p l e (headSpec wsX6_puts rmX6_puts).room s m args below meth c H locs 0 0 Q (F0 m 3 ls [])) (fun q1 o hm hI hX => ?_) n q0 h
  obtain ⟨c2, M⟩ := q1
  have kb : ∀ (d2 : Int32) (M2 : Mem) , o = .inl (d2, M2) → ∀ (H : Heap) (locs : List Loc) (ls : Array Slot), va_P (gD g) vwCl (wlG g M2) H → va_S (AbG g) s.heap H locs → lv_has ls 3 [(0, .ref (ga g 148)), (1, .int s1), (2, .int d2)] → W p l e (headSpec wsX6_puts rmX6_puts).room s m args below meth c H locs 0 0 Q (F0 m 3 ls []) := fun d2 M2 e => hI _ e
  have kx0 : ∀ (M2 : Mem) , o = .inr M2 → ∀ (H : Heap) (locs : List Loc) (ls : Array Slot), va_P (gD g) vwCl (wlG g M2) H → va_S (AbG g) s.heap H locs → lv_has ls 3 [] → W p l e (headSpec wsX6_puts rmX6_puts).room s m args below meth c H locs 0 0 Q (F0 m 39 ls []) := fun M2 e => kx0 M2 (hX _ e).symm
  clear hI hX
  intro H locs ls hP hS hl
  obtain ⟨⟨hx, hb, hml, hown, hts⟩, -, -⟩ := id X
  have hl : lv_has ls 3 [(0, .ref (ga g 148)), (1, .int s1), (2, .int c2)] := hl
  have hP : va_P (gD g) vwCl (wlG g M) H := hP
  unfold b_X6_puts_3 at hm
  replace hm := un2_e hm
  refine lv_iload_n hx hb dX6_puts_3 rfl (lv_at hl 2 rfl) ?_
  refine lv_if_lt (tgt := 39) hx hb dX6_puts_4 (by decide) (fun h_1 => ?_) (fun h_1 => ?_)
  · rw [if_pos h_1] at hm
    exact kx0 M (Option.some.inj hm).symm _ _ _ hP hS (lv_sub hl [] rfl)
  · rw [if_neg h_1] at hm
    refine lv_aload_n hx hb dX6_puts_7 rfl (lv_at hl 0 rfl) ?_
    refine xg_X6_19 X hP hAll uX6_puts_X6 mbX6_puts_1 dX6_puts_8 ?_
    refine lv_aload_n hx hb dX6_puts_11 rfl (lv_at hl 0 rfl) ?_
    refine xg_X6_20 X hP hAll uX6_puts_X6 mbX6_puts_2 dX6_puts_12 ?_
    refine lv_iload_n hx hb dX6_puts_15 rfl (lv_at hl 1 rfl) ?_
    refine lv_iload_n hx hb dX6_puts_16 rfl (lv_at hl 2 rfl) ?_
    refine lv_ishr hx hb dX6_puts_17 ?_
    refine lv_sipush (v := 255) hx hb dX6_puts_18 (by decide) ?_
    refine lv_iand hx hb dX6_puts_21 ?_
    obtain ⟨hb_2, hm⟩ := chk_elim hm
    obtain ⟨M_3, hM_4, hm⟩ := bnd_elim hm
    refine x_iast X hP hS (okc_163 hAll) hM_4 hb_2 dX6_puts_22 (fun H locs hP hS => ?_)
    refine lv_aload_n hx hb dX6_puts_23 rfl (lv_at hl 0 rfl) ?_
    refine lv_aload_n hx hb dX6_puts_24 rfl (lv_at hl 0 rfl) ?_
    refine xg_X6_20 X hP hAll uX6_puts_X6 mbX6_puts_2 dX6_puts_25 ?_
    refine lv_iconst (v := 1) hx hb dX6_puts_28 (by decide) ?_
    refine lv_iadd hx hb dX6_puts_29 ?_
    obtain ⟨M_5, hM_6, hm⟩ := bnd_elim hm
    refine xp_X6_20 X hP hAll uX6_puts_X6 mbX6_puts_2 hS hM_6 dX6_puts_30 (fun H locs hP hS => ?_)
    obtain ⟨v_7, hv_8, hm⟩ := bnd_elim hm
    refine lv_iinc (v := v_7) (lv' := [(2, .int v_7), (0, .ref (ga g 148)), (1, .int s1)]) hx hb dX6_puts_33 hl (k := 2) rfl (by rw [hv_8]; rfl) (by decide) rfl (fun ls hl => ?_)
    refine lv_goto (tgt := 3) hx hb dX6_puts_36 (by decide) ?_
    exact kb v_7 M_5 (Option.some.inj hm).symm _ _ _ hP hS (lv_sub hl [1, 2, 0] rfl)

set_option maxHeartbeats 4000000 in
set_option maxRecDepth 100000 in
theorem c_X6_puts (l : Launch) {g : GT} (hA : AxG g) (hAll : okAll g)   {fu : Nat} {M : Mem} {a1 : Int32} {MM : Mem} (hm : m_X6_puts fu M a1 = some MM) : CV l yX6_puts wsX6_puts rmX6_puts g [.ref (ga g 148), .int a1] M MM := by
  refine Met.ofW (cc := cX6_puts) (maxL := 3) (ret := none) (by decide) rfl ?_
  intro p e s m args below meth c s₁ B hml hv
  obtain ⟨rfl, hSx, hP⟩ := hv
  have hr := B.returns
  have hlocks := B.notSynchronized
  have X : CxG g p s m _ c cX6_puts 3 RX6 wsX6_puts := ⟨⟨B.exec, B.bytes, hml, findClass_of_methodNamed B.named, atoms_spec (ws := wsX6_puts) B.pre⟩, hSx, hA⟩
  have hS : va_S (AbG g) s.heap s.heap [] := va_S.rf
  have hl := lv_entry (([.ref (ga g 148), .int a1] : List Value)) (n := 3) (Nat.le_of_ble_eq_true rfl)
  rw [lg_entry_eq]
  generalize (lg_sl (([.ref (ga g 148), .int a1] : List Value)) ++ List.replicate (3 - (lg_sl (([.ref (ga g 148), .int a1] : List Value))).length) Slot.unset).toArray = ls at hl ⊢
  have hl : lv_has ls 3 [(0, .ref (ga g 148)), (1, .int a1)] := hl
  obtain ⟨⟨hx, hb, hml, hown, hts⟩, -, -⟩ := id X
  unfold m_X6_puts at hm
  refine lv_bipush (v := 24) hx hb dX6_puts_0 (by decide) ?_
  refine lv_istore_n (lv' := [(2, .int 24), (0, .ref (ga g 148)), (1, .int a1)]) hx hb dX6_puts_2 rfl hl (by decide) rfl (fun ls hl => ?_)
  obtain ⟨M_11, hL_10, hm⟩ := bind_elim hm
  refine wl_X6_puts_3 X hAll ?_ hL_10 _ _ _ hP hS (lv_sub hl [1, 2, 0] rfl)
  · intro z_M_11 e_M_11 H locs ls hP hS hl
    subst e_M_11
    replace hm := un1_e hm
    cases hm
    exact x_vret X hP hS hr hlocks dX6_puts_39


/-! X6_feed -/
def rmX6_feed : Room := { frames := 1, cells := 0, slots := 0, locals := 22 }
theorem uX6_feed_X6 : ∀ w ∈ wsX60, w ∈ wsX6_feed := by decide +kernel
theorem mbX6_feed_1 : Cond.fieldLink RX6 121 "FootANightModel" "told" "I" ∈ wsX6_feed := by decide +kernel
theorem mbX6_feed_2 : Cond.fieldLink RX6 145 "FootANightModel" "taped" "I" ∈ wsX6_feed := by decide +kernel
set_option maxHeartbeats 4000000 in
set_option maxRecDepth 100000 in
theorem c_X6_feed (l : Launch) {g : GT} (hA : AxG g) (hAll : okAll g)   {fu : Nat} {M : Mem} {a1 : Int32} {a2 : Int32} {a3 : Int32} {a4 : Int32} {a5 : Int32} {rr : Int32} {MM : Mem} (hm : m_X6_feed fu M a1 a2 a3 a4 a5 = some (rr, MM)) : CI l yX6_feed wsX6_feed rmX6_feed g [.ref (ga g 148), .int a1, .int a2, .int a3, .int a4, .int a5] M rr MM := by
  refine Met.ofW (cc := cX6_feed) (maxL := 6) (ret := (some .int)) (by decide) rfl ?_
  intro p e s m args below meth c s₁ B hml hv
  obtain ⟨rfl, hSx, hP⟩ := hv
  have hr := B.returns
  have hlocks := B.notSynchronized
  have X : CxG g p s m _ c cX6_feed 6 RX6 wsX6_feed := ⟨⟨B.exec, B.bytes, hml, findClass_of_methodNamed B.named, atoms_spec (ws := wsX6_feed) B.pre⟩, hSx, hA⟩
  have hS : va_S (AbG g) s.heap s.heap [] := va_S.rf
  have hl := lv_entry (([.ref (ga g 148), .int a1, .int a2, .int a3, .int a4, .int a5] : List Value)) (n := 6) (Nat.le_of_ble_eq_true rfl)
  rw [lg_entry_eq]
  generalize (lg_sl (([.ref (ga g 148), .int a1, .int a2, .int a3, .int a4, .int a5] : List Value)) ++ List.replicate (6 - (lg_sl (([.ref (ga g 148), .int a1, .int a2, .int a3, .int a4, .int a5] : List Value))).length) Slot.unset).toArray = ls at hl ⊢
  have hl : lv_has ls 6 [(0, .ref (ga g 148)), (1, .int a1), (2, .int a2), (3, .int a3), (4, .int a4), (5, .int a5)] := hl
  obtain ⟨⟨hx, hb, hml, hown, hts⟩, -, -⟩ := id X
  unfold m_X6_feed at hm
  refine lv_aload_n hx hb dX6_feed_0 rfl (lv_at hl 0 rfl) ?_
  refine lv_iconst (v := 0) hx hb dX6_feed_1 (by decide) ?_
  obtain ⟨M_1, hM_2, hm⟩ := bnd_elim hm
  refine xp_X6_0 X hP hAll uX6_feed_X6 mbX6_feed_1 hS hM_2 dX6_feed_2 (fun H locs hP hS => ?_)
  refine lv_aload_n hx hb dX6_feed_5 rfl (lv_at hl 0 rfl) ?_
  refine xg_X6_20 X hP hAll uX6_feed_X6 mbX6_feed_2 dX6_feed_6 ?_
  refine lv_sipush (v := 380) hx hb dX6_feed_9 (by decide) ?_
  refine lv_icmp_le (tgt := 17) hx hb dX6_feed_12 (by decide) (fun h_3 => ?_) (fun h_3 => ?_)
  · rw [if_pos h_3] at hm
    refine lv_aload_n hx hb dX6_feed_17 rfl (lv_at hl 0 rfl) ?_
    refine lv_iload_n hx hb dX6_feed_18 rfl (lv_at hl 1 rfl) ?_
    obtain ⟨M_5, hc_4, hm⟩ := bind_elim hm
    refine x_callv (x_runV (As := [.int a1]) (rest := []) X hP hS (c_X6_puts l X.2.2 hAll hc_4) (cwV 1 hts gX6_feed_X6_puts rfl rfl rfl (by decide +kernel) ⟨Nat.le_of_ble_eq_true rfl, Nat.le_of_ble_eq_true rfl⟩) (x_recv (C := RX6) (T := TX6) (N := 55) X hP (okc_148 hAll) rfl) rfl hl.1 rfl (Nat.le_of_ble_eq_true rfl) dX6_feed_19 ⟨Nat.zero_le _, Nat.zero_le _⟩) hS (fun H locs hP hS => ?_)
    refine lv_aload_n hx hb dX6_feed_22 rfl (lv_at hl 0 rfl) ?_
    refine lv_iload_n hx hb dX6_feed_23 rfl (lv_at hl 2 rfl) ?_
    obtain ⟨M_7, hc_6, hm⟩ := bind_elim hm
    refine x_callv (x_runV (As := [.int a2]) (rest := []) X hP hS (c_X6_puts l X.2.2 hAll hc_6) (cwV 1 hts gX6_feed_X6_puts rfl rfl rfl (by decide +kernel) ⟨Nat.le_of_ble_eq_true rfl, Nat.le_of_ble_eq_true rfl⟩) (x_recv (C := RX6) (T := TX6) (N := 55) X hP (okc_148 hAll) rfl) rfl hl.1 rfl (Nat.le_of_ble_eq_true rfl) dX6_feed_24 ⟨Nat.zero_le _, Nat.zero_le _⟩) hS (fun H locs hP hS => ?_)
    refine lv_aload_n hx hb dX6_feed_27 rfl (lv_at hl 0 rfl) ?_
    refine lv_iload_n hx hb dX6_feed_28 rfl (lv_at hl 3 rfl) ?_
    obtain ⟨M_9, hc_8, hm⟩ := bind_elim hm
    refine x_callv (x_runV (As := [.int a3]) (rest := []) X hP hS (c_X6_puts l X.2.2 hAll hc_8) (cwV 1 hts gX6_feed_X6_puts rfl rfl rfl (by decide +kernel) ⟨Nat.le_of_ble_eq_true rfl, Nat.le_of_ble_eq_true rfl⟩) (x_recv (C := RX6) (T := TX6) (N := 55) X hP (okc_148 hAll) rfl) rfl hl.1 rfl (Nat.le_of_ble_eq_true rfl) dX6_feed_29 ⟨Nat.zero_le _, Nat.zero_le _⟩) hS (fun H locs hP hS => ?_)
    refine lv_aload_n hx hb dX6_feed_32 rfl (lv_at hl 0 rfl) ?_
    refine lv_iload hx hb dX6_feed_33 (lv_at hl 4 rfl) ?_
    obtain ⟨M_11, hc_10, hm⟩ := bind_elim hm
    refine x_callv (x_runV (As := [.int a4]) (rest := []) X hP hS (c_X6_puts l X.2.2 hAll hc_10) (cwV 1 hts gX6_feed_X6_puts rfl rfl rfl (by decide +kernel) ⟨Nat.le_of_ble_eq_true rfl, Nat.le_of_ble_eq_true rfl⟩) (x_recv (C := RX6) (T := TX6) (N := 55) X hP (okc_148 hAll) rfl) rfl hl.1 rfl (Nat.le_of_ble_eq_true rfl) dX6_feed_35 ⟨Nat.zero_le _, Nat.zero_le _⟩) hS (fun H locs hP hS => ?_)
    refine lv_aload_n hx hb dX6_feed_38 rfl (lv_at hl 0 rfl) ?_
    refine lv_iload hx hb dX6_feed_39 (lv_at hl 5 rfl) ?_
    obtain ⟨M_13, hc_12, hm⟩ := bind_elim hm
    refine x_callv (x_runV (As := [.int a5]) (rest := []) X hP hS (c_X6_puts l X.2.2 hAll hc_12) (cwV 1 hts gX6_feed_X6_puts rfl rfl rfl (by decide +kernel) ⟨Nat.le_of_ble_eq_true rfl, Nat.le_of_ble_eq_true rfl⟩) (x_recv (C := RX6) (T := TX6) (N := 55) X hP (okc_148 hAll) rfl) rfl hl.1 rfl (Nat.le_of_ble_eq_true rfl) dX6_feed_41 ⟨Nat.zero_le _, Nat.zero_le _⟩) hS (fun H locs hP hS => ?_)
    refine lv_aload_n hx hb dX6_feed_44 rfl (lv_at hl 0 rfl) ?_
    refine xg_X6_20 X hP hAll uX6_feed_X6 mbX6_feed_2 dX6_feed_45 ?_
    cases hm
    exact x_iret X hP hS hr hlocks dX6_feed_48
  · rw [if_neg h_3] at hm
    refine lv_iconst (v := (-1)) hx hb dX6_feed_15 (by decide) ?_
    cases hm
    exact x_iret X hP hS hr hlocks dX6_feed_16


/-! X6_end -/
def rmX6_end : Room := { frames := 1, cells := 0, slots := 0, locals := 23 }
theorem uX6_end_X6 : ∀ w ∈ wsX60, w ∈ wsX6_end := by decide +kernel
theorem mbX6_end_1 : Cond.fieldLink RX6 121 "FootANightModel" "told" "I" ∈ wsX6_end := by decide +kernel
theorem mbX6_end_2 : Cond.fieldLink RX6 145 "FootANightModel" "taped" "I" ∈ wsX6_end := by decide +kernel
set_option maxHeartbeats 4000000 in
set_option maxRecDepth 100000 in
theorem c_X6_end (l : Launch) {g : GT} (hA : AxG g) (hAll : okAll g)   {M : Mem} {a1 : Int32} {rr : Int32} {MM : Mem} (hm : m_X6_end M a1 = some (rr, MM)) : CI l yX6_end wsX6_end rmX6_end g [.ref (ga g 148), .int a1] M rr MM := by
  refine Met.ofW (cc := cX6_end) (maxL := 2) (ret := (some .boolean)) (by decide) rfl ?_
  intro p e s m args below meth c s₁ B hml hv
  obtain ⟨rfl, hSx, hP⟩ := hv
  have hr := B.returns
  have hlocks := B.notSynchronized
  have X : CxG g p s m _ c cX6_end 2 RX6 wsX6_end := ⟨⟨B.exec, B.bytes, hml, findClass_of_methodNamed B.named, atoms_spec (ws := wsX6_end) B.pre⟩, hSx, hA⟩
  have hS : va_S (AbG g) s.heap s.heap [] := va_S.rf
  have hl := lv_entry (([.ref (ga g 148), .int a1] : List Value)) (n := 2) (Nat.le_of_ble_eq_true rfl)
  rw [lg_entry_eq]
  generalize (lg_sl (([.ref (ga g 148), .int a1] : List Value)) ++ List.replicate (2 - (lg_sl (([.ref (ga g 148), .int a1] : List Value))).length) Slot.unset).toArray = ls at hl ⊢
  have hl : lv_has ls 2 [(0, .ref (ga g 148)), (1, .int a1)] := hl
  obtain ⟨⟨hx, hb, hml, hown, hts⟩, -, -⟩ := id X
  unfold m_X6_end at hm
  refine lv_aload_n hx hb dX6_end_0 rfl (lv_at hl 0 rfl) ?_
  refine lv_iconst (v := 0) hx hb dX6_end_1 (by decide) ?_
  obtain ⟨M_1, hM_2, hm⟩ := bnd_elim hm
  refine xp_X6_0 X hP hAll uX6_end_X6 mbX6_end_1 hS hM_2 dX6_end_2 (fun H locs hP hS => ?_)
  refine lv_aload_n hx hb dX6_end_5 rfl (lv_at hl 0 rfl) ?_
  refine lv_iload_n hx hb dX6_end_6 rfl (lv_at hl 1 rfl) ?_
  refine lv_iconst (v := 0) hx hb dX6_end_7 (by decide) ?_
  refine lv_aload_n hx hb dX6_end_8 rfl (lv_at hl 0 rfl) ?_
  refine xg_X6_20 X hP hAll uX6_end_X6 mbX6_end_2 dX6_end_9 ?_
  obtain ⟨r_4, hc_3, hm⟩ := bind_elim hm
  refine x_calli (x_runV (As := [.int a1, .int 0, .int (rd M_1 148 20)]) (rest := []) X hP hS (c_X6_isIn l X.2.2 hc_3) (cwV 3 hts gX6_end_X6_isIn rfl rfl rfl (by decide +kernel) ⟨Nat.le_of_ble_eq_true rfl, Nat.le_of_ble_eq_true rfl⟩) (x_recv (C := RX6) (T := TX6) (N := 55) X hP (okc_148 hAll) rfl) rfl hl.1 rfl (Nat.le_of_ble_eq_true rfl) dX6_end_12 ⟨Nat.zero_le _, Nat.zero_le _⟩) hS (fun H locs hP hS => ?_)
  refine lv_if_ne (tgt := 20) hx hb dX6_end_15 (by decide) (fun h_5 => ?_) (fun h_5 => ?_)
  · rw [if_neg h_5] at hm
    refine lv_aload_n hx hb dX6_end_20 rfl (lv_at hl 0 rfl) ?_
    refine lv_iload_n hx hb dX6_end_21 rfl (lv_at hl 1 rfl) ?_
    obtain ⟨M_6, hM_7, hm⟩ := bnd_elim hm
    refine xp_X6_20 X hP hAll uX6_end_X6 mbX6_end_2 hS hM_7 dX6_end_22 (fun H locs hP hS => ?_)
    refine lv_iconst (v := 1) hx hb dX6_end_25 (by decide) ?_
    cases hm
    exact x_zret X (by decide) hP hS hr hlocks dX6_end_26
  · rw [if_pos h_5] at hm
    refine lv_iconst (v := 0) hx hb dX6_end_18 (by decide) ?_
    cases hm
    exact x_zret X (by decide) hP hS hr hlocks dX6_end_19


/-! X6_raw -/
def rmX6_raw : Room := { frames := 0, cells := 0, slots := 0, locals := 0 }
theorem uX6_raw_X6 : ∀ w ∈ wsX60, w ∈ wsX6_raw := by decide +kernel
theorem mbX6_raw_1 : Cond.fieldLink RX6 145 "FootANightModel" "taped" "I" ∈ wsX6_raw := by decide +kernel
theorem mbX6_raw_2 : Cond.fieldLink RX6 56 "FootANightModel" "tape" "[I" ∈ wsX6_raw := by decide +kernel
set_option maxHeartbeats 4000000 in
set_option maxRecDepth 100000 in
theorem c_X6_raw (l : Launch) {g : GT} (hA : AxG g) (hAll : okAll g)   {M : Mem} {a1 : Int32} {rr : Int32} (hm : m_X6_raw M a1 = some rr) : CI l yX6_raw wsX6_raw rmX6_raw g [.ref (ga g 148), .int a1] M rr M := by
  refine Met.ofW (cc := cX6_raw) (maxL := 2) (ret := (some .int)) (by decide) rfl ?_
  intro p e s m args below meth c s₁ B hml hv
  obtain ⟨rfl, hSx, hP⟩ := hv
  have hr := B.returns
  have hlocks := B.notSynchronized
  have X : CxG g p s m _ c cX6_raw 2 RX6 wsX6_raw := ⟨⟨B.exec, B.bytes, hml, findClass_of_methodNamed B.named, atoms_spec (ws := wsX6_raw) B.pre⟩, hSx, hA⟩
  have hS : va_S (AbG g) s.heap s.heap [] := va_S.rf
  have hl := lv_entry (([.ref (ga g 148), .int a1] : List Value)) (n := 2) (Nat.le_of_ble_eq_true rfl)
  rw [lg_entry_eq]
  generalize (lg_sl (([.ref (ga g 148), .int a1] : List Value)) ++ List.replicate (2 - (lg_sl (([.ref (ga g 148), .int a1] : List Value))).length) Slot.unset).toArray = ls at hl ⊢
  have hl : lv_has ls 2 [(0, .ref (ga g 148)), (1, .int a1)] := hl
  obtain ⟨⟨hx, hb, hml, hown, hts⟩, -, -⟩ := id X
  unfold m_X6_raw at hm
  refine lv_iload_n hx hb dX6_raw_0 rfl (lv_at hl 1 rfl) ?_
  refine lv_aload_n hx hb dX6_raw_1 rfl (lv_at hl 0 rfl) ?_
  refine xg_X6_20 X hP hAll uX6_raw_X6 mbX6_raw_1 dX6_raw_2 ?_
  refine lv_icmp_ge (tgt := 17) hx hb dX6_raw_5 (by decide) (fun h_1 => ?_) (fun h_1 => ?_)
  · rw [if_pos h_1] at hm
    refine lv_iconst (v := (-1)) hx hb dX6_raw_17 (by decide) ?_
    cases hm
    exact x_iret X hP hS hr hlocks dX6_raw_18
  · rw [if_neg h_1] at hm
    refine lv_aload_n hx hb dX6_raw_8 rfl (lv_at hl 0 rfl) ?_
    refine xg_X6_19 X hP hAll uX6_raw_X6 mbX6_raw_2 dX6_raw_9 ?_
    refine lv_iload_n hx hb dX6_raw_12 rfl (lv_at hl 1 rfl) ?_
    obtain ⟨hb_2, hm⟩ := chk_elim hm
    refine x_iald X hP (okc_163 hAll) hb_2 dX6_raw_13 ?_
    refine lv_goto (tgt := 18) hx hb dX6_raw_14 (by decide) ?_
    cases hm
    exact x_iret X hP hS hr hlocks dX6_raw_18


/-! X6_isLetter -/
def rmX6_isLetter : Room := { frames := 1, cells := 0, slots := 0, locals := 23 }

set_option maxHeartbeats 4000000 in
set_option maxRecDepth 100000 in
theorem wj_X6_isLetter_24 (X : CxG g p s m args c cX6_isLetter 2 RX6 wsX6_isLetter) (hAll : okAll g) {M : Mem} {rr : Int32} (hr : meth.sig.returnType = (some .boolean)) (hlocks : meth.locks = false) (hm : j_X6_isLetter_24 M = some rr) {H : Heap} {locs : List Loc} {ls : Array Slot} (hP : va_P (gD g) vwCl (wlG g M) H) (hS : va_S (AbG g) s.heap H locs) (hl : lv_has ls 2 []) : W p l e (headSpec wsX6_isLetter rmX6_isLetter).room s m args below meth c H locs 0 0 (MQ below (va_Qi (fun (q : Int32) (_ : Unit) => q = rr) (fun _ t => va_P (gD g) vwCl (wlG g M) t.heap) (AbG g)) args s 0 0 (AbG g)) (F0 m 24 ls []) := by
  obtain ⟨⟨hx, hb, hml, hown, hts⟩, -, -⟩ := id X
  unfold j_X6_isLetter_24 at hm
  refine lv_iconst (v := 1) hx hb dX6_isLetter_24 (by decide) ?_
  refine lv_goto (tgt := 29) hx hb dX6_isLetter_25 (by decide) ?_
  cases hm
  exact x_zret X (by decide) hP hS hr hlocks dX6_isLetter_29

set_option maxHeartbeats 4000000 in
set_option maxRecDepth 100000 in
theorem c_X6_isLetter (l : Launch) {g : GT} (hA : AxG g) (hAll : okAll g)   {M : Mem} {a1 : Int32} {rr : Int32} (hm : m_X6_isLetter M a1 = some rr) : CI l yX6_isLetter wsX6_isLetter rmX6_isLetter g [.ref (ga g 148), .int a1] M rr M := by
  refine Met.ofW (cc := cX6_isLetter) (maxL := 2) (ret := (some .boolean)) (by decide) rfl ?_
  intro p e s m args below meth c s₁ B hml hv
  obtain ⟨rfl, hSx, hP⟩ := hv
  have hr := B.returns
  have hlocks := B.notSynchronized
  have X : CxG g p s m _ c cX6_isLetter 2 RX6 wsX6_isLetter := ⟨⟨B.exec, B.bytes, hml, findClass_of_methodNamed B.named, atoms_spec (ws := wsX6_isLetter) B.pre⟩, hSx, hA⟩
  have hS : va_S (AbG g) s.heap s.heap [] := va_S.rf
  have hl := lv_entry (([.ref (ga g 148), .int a1] : List Value)) (n := 2) (Nat.le_of_ble_eq_true rfl)
  rw [lg_entry_eq]
  generalize (lg_sl (([.ref (ga g 148), .int a1] : List Value)) ++ List.replicate (2 - (lg_sl (([.ref (ga g 148), .int a1] : List Value))).length) Slot.unset).toArray = ls at hl ⊢
  have hl : lv_has ls 2 [(0, .ref (ga g 148)), (1, .int a1)] := hl
  obtain ⟨⟨hx, hb, hml, hown, hts⟩, -, -⟩ := id X
  unfold m_X6_isLetter at hm
  refine lv_aload_n hx hb dX6_isLetter_0 rfl (lv_at hl 0 rfl) ?_
  refine lv_iload_n hx hb dX6_isLetter_1 rfl (lv_at hl 1 rfl) ?_
  refine lv_bipush (v := 97) hx hb dX6_isLetter_2 (by decide) ?_
  refine lv_bipush (v := 122) hx hb dX6_isLetter_4 (by decide) ?_
  obtain ⟨r_2, hc_1, hm⟩ := bind_elim hm
  refine x_calli (x_runV (As := [.int a1, .int 97, .int 122]) (rest := []) X hP hS (c_X6_isIn l X.2.2 hc_1) (cwV 3 hts gX6_isLetter_X6_isIn rfl rfl rfl (by decide +kernel) ⟨Nat.le_of_ble_eq_true rfl, Nat.le_of_ble_eq_true rfl⟩) (x_recv (C := RX6) (T := TX6) (N := 55) X hP (okc_148 hAll) rfl) rfl hl.1 rfl (Nat.le_of_ble_eq_true rfl) dX6_isLetter_6 ⟨Nat.zero_le _, Nat.zero_le _⟩) hS (fun H locs hP hS => ?_)
  refine lv_if_ne (tgt := 24) hx hb dX6_isLetter_9 (by decide) (fun h_3 => ?_) (fun h_3 => ?_)
  · rw [if_neg h_3] at hm
    exact wj_X6_isLetter_24 X hAll hr hlocks hm hP hS (lv_sub hl [] rfl)
  · rw [if_pos h_3] at hm
    refine lv_aload_n hx hb dX6_isLetter_12 rfl (lv_at hl 0 rfl) ?_
    refine lv_iload_n hx hb dX6_isLetter_13 rfl (lv_at hl 1 rfl) ?_
    refine lv_bipush (v := 65) hx hb dX6_isLetter_14 (by decide) ?_
    refine lv_bipush (v := 90) hx hb dX6_isLetter_16 (by decide) ?_
    obtain ⟨r_5, hc_4, hm⟩ := bind_elim hm
    refine x_calli (x_runV (As := [.int a1, .int 65, .int 90]) (rest := []) X hP hS (c_X6_isIn l X.2.2 hc_4) (cwV 3 hts gX6_isLetter_X6_isIn rfl rfl rfl (by decide +kernel) ⟨Nat.le_of_ble_eq_true rfl, Nat.le_of_ble_eq_true rfl⟩) (x_recv (C := RX6) (T := TX6) (N := 55) X hP (okc_148 hAll) rfl) rfl hl.1 rfl (Nat.le_of_ble_eq_true rfl) dX6_isLetter_18 ⟨Nat.zero_le _, Nat.zero_le _⟩) hS (fun H locs hP hS => ?_)
    refine lv_if_eq (tgt := 28) hx hb dX6_isLetter_21 (by decide) (fun h_6 => ?_) (fun h_6 => ?_)
    · rw [if_pos h_6] at hm
      refine lv_iconst (v := 0) hx hb dX6_isLetter_28 (by decide) ?_
      cases hm
      exact x_zret X (by decide) hP hS hr hlocks dX6_isLetter_29
    · rw [if_neg h_6] at hm
      exact wj_X6_isLetter_24 X hAll hr hlocks hm hP hS (lv_sub hl [] rfl)


/-! X6_isDigit -/
def rmX6_isDigit : Room := { frames := 1, cells := 0, slots := 0, locals := 23 }

set_option maxHeartbeats 4000000 in
set_option maxRecDepth 100000 in
theorem c_X6_isDigit (l : Launch) {g : GT} (hA : AxG g) (hAll : okAll g)   {M : Mem} {a1 : Int32} {rr : Int32} (hm : m_X6_isDigit M a1 = some rr) : CI l yX6_isDigit wsX6_isDigit rmX6_isDigit g [.ref (ga g 148), .int a1] M rr M := by
  refine Met.ofW (cc := cX6_isDigit) (maxL := 2) (ret := (some .boolean)) (by decide) rfl ?_
  intro p e s m args below meth c s₁ B hml hv
  obtain ⟨rfl, hSx, hP⟩ := hv
  have hr := B.returns
  have hlocks := B.notSynchronized
  have X : CxG g p s m _ c cX6_isDigit 2 RX6 wsX6_isDigit := ⟨⟨B.exec, B.bytes, hml, findClass_of_methodNamed B.named, atoms_spec (ws := wsX6_isDigit) B.pre⟩, hSx, hA⟩
  have hS : va_S (AbG g) s.heap s.heap [] := va_S.rf
  have hl := lv_entry (([.ref (ga g 148), .int a1] : List Value)) (n := 2) (Nat.le_of_ble_eq_true rfl)
  rw [lg_entry_eq]
  generalize (lg_sl (([.ref (ga g 148), .int a1] : List Value)) ++ List.replicate (2 - (lg_sl (([.ref (ga g 148), .int a1] : List Value))).length) Slot.unset).toArray = ls at hl ⊢
  have hl : lv_has ls 2 [(0, .ref (ga g 148)), (1, .int a1)] := hl
  obtain ⟨⟨hx, hb, hml, hown, hts⟩, -, -⟩ := id X
  unfold m_X6_isDigit at hm
  refine lv_aload_n hx hb dX6_isDigit_0 rfl (lv_at hl 0 rfl) ?_
  refine lv_iload_n hx hb dX6_isDigit_1 rfl (lv_at hl 1 rfl) ?_
  refine lv_bipush (v := 48) hx hb dX6_isDigit_2 (by decide) ?_
  refine lv_bipush (v := 57) hx hb dX6_isDigit_4 (by decide) ?_
  obtain ⟨r_2, hc_1, hm⟩ := bind_elim hm
  refine x_calli (x_runV (As := [.int a1, .int 48, .int 57]) (rest := []) X hP hS (c_X6_isIn l X.2.2 hc_1) (cwV 3 hts gX6_isDigit_X6_isIn rfl rfl rfl (by decide +kernel) ⟨Nat.le_of_ble_eq_true rfl, Nat.le_of_ble_eq_true rfl⟩) (x_recv (C := RX6) (T := TX6) (N := 55) X hP (okc_148 hAll) rfl) rfl hl.1 rfl (Nat.le_of_ble_eq_true rfl) dX6_isDigit_6 ⟨Nat.zero_le _, Nat.zero_le _⟩) hS (fun H locs hP hS => ?_)
  obtain ⟨hz_3, hm⟩ := chk_elim hm
  cases hm
  exact x_zret X (isB_or hz_3) hP hS hr hlocks dX6_isDigit_9


/-! X6_isMarkSign -/
def rmX6_isMarkSign : Room := { frames := 0, cells := 0, slots := 0, locals := 0 }

set_option maxHeartbeats 4000000 in
set_option maxRecDepth 100000 in
theorem wj_X6_isMarkSign_60 (X : CxG g p s m args c cX6_isMarkSign 2 RX6 wsX6_isMarkSign) {M : Mem} {rr : Int32} (hr : meth.sig.returnType = (some .boolean)) (hlocks : meth.locks = false) (hm : j_X6_isMarkSign_60 M = some rr) {H : Heap} {locs : List Loc} {ls : Array Slot} (hP : va_P (gD g) vwCl (wlG g M) H) (hS : va_S (AbG g) s.heap H locs) (hl : lv_has ls 2 []) : W p l e (headSpec wsX6_isMarkSign rmX6_isMarkSign).room s m args below meth c H locs 0 0 (MQ below (va_Qi (fun (q : Int32) (_ : Unit) => q = rr) (fun _ t => va_P (gD g) vwCl (wlG g M) t.heap) (AbG g)) args s 0 0 (AbG g)) (F0 m 60 ls []) := by
  obtain ⟨⟨hx, hb, hml, hown, hts⟩, -, -⟩ := id X
  unfold j_X6_isMarkSign_60 at hm
  refine lv_iconst (v := 1) hx hb dX6_isMarkSign_60 (by decide) ?_
  refine lv_goto (tgt := 65) hx hb dX6_isMarkSign_61 (by decide) ?_
  cases hm
  exact x_zret X (by decide) hP hS hr hlocks dX6_isMarkSign_65

set_option maxHeartbeats 4000000 in
set_option maxRecDepth 100000 in
theorem c_X6_isMarkSign (l : Launch) {g : GT} (hA : AxG g)   {M : Mem} {a1 : Int32} {rr : Int32} (hm : m_X6_isMarkSign M a1 = some rr) : CI l yX6_isMarkSign wsX6_isMarkSign rmX6_isMarkSign g [.ref (ga g 148), .int a1] M rr M := by
  refine Met.ofW (cc := cX6_isMarkSign) (maxL := 2) (ret := (some .boolean)) (by decide) rfl ?_
  intro p e s m args below meth c s₁ B hml hv
  obtain ⟨rfl, hSx, hP⟩ := hv
  have hr := B.returns
  have hlocks := B.notSynchronized
  have X : CxG g p s m _ c cX6_isMarkSign 2 RX6 wsX6_isMarkSign := ⟨⟨B.exec, B.bytes, hml, findClass_of_methodNamed B.named, atoms_spec (ws := wsX6_isMarkSign) B.pre⟩, hSx, hA⟩
  have hS : va_S (AbG g) s.heap s.heap [] := va_S.rf
  have hl := lv_entry (([.ref (ga g 148), .int a1] : List Value)) (n := 2) (Nat.le_of_ble_eq_true rfl)
  rw [lg_entry_eq]
  generalize (lg_sl (([.ref (ga g 148), .int a1] : List Value)) ++ List.replicate (2 - (lg_sl (([.ref (ga g 148), .int a1] : List Value))).length) Slot.unset).toArray = ls at hl ⊢
  have hl : lv_has ls 2 [(0, .ref (ga g 148)), (1, .int a1)] := hl
  obtain ⟨⟨hx, hb, hml, hown, hts⟩, -, -⟩ := id X
  unfold m_X6_isMarkSign at hm
  refine lv_iload_n hx hb dX6_isMarkSign_0 rfl (lv_at hl 1 rfl) ?_
  refine lv_bipush (v := 59) hx hb dX6_isMarkSign_1 (by decide) ?_
  refine lv_icmp_eq (tgt := 60) hx hb dX6_isMarkSign_3 (by decide) (fun h_1 => ?_) (fun h_1 => ?_)
  · rw [if_pos h_1] at hm
    exact wj_X6_isMarkSign_60 X hr hlocks hm hP hS (lv_sub hl [] rfl)
  · rw [if_neg h_1] at hm
    refine lv_iload_n hx hb dX6_isMarkSign_6 rfl (lv_at hl 1 rfl) ?_
    refine lv_bipush (v := 43) hx hb dX6_isMarkSign_7 (by decide) ?_
    refine lv_icmp_eq (tgt := 60) hx hb dX6_isMarkSign_9 (by decide) (fun h_2 => ?_) (fun h_2 => ?_)
    · rw [if_pos h_2] at hm
      exact wj_X6_isMarkSign_60 X hr hlocks hm hP hS (lv_sub hl [] rfl)
    · rw [if_neg h_2] at hm
      refine lv_iload_n hx hb dX6_isMarkSign_12 rfl (lv_at hl 1 rfl) ?_
      refine lv_bipush (v := 45) hx hb dX6_isMarkSign_13 (by decide) ?_
      refine lv_icmp_eq (tgt := 60) hx hb dX6_isMarkSign_15 (by decide) (fun h_3 => ?_) (fun h_3 => ?_)
      · rw [if_pos h_3] at hm
        exact wj_X6_isMarkSign_60 X hr hlocks hm hP hS (lv_sub hl [] rfl)
      · rw [if_neg h_3] at hm
        refine lv_iload_n hx hb dX6_isMarkSign_18 rfl (lv_at hl 1 rfl) ?_
        refine lv_bipush (v := 42) hx hb dX6_isMarkSign_19 (by decide) ?_
        refine lv_icmp_eq (tgt := 60) hx hb dX6_isMarkSign_21 (by decide) (fun h_4 => ?_) (fun h_4 => ?_)
        · rw [if_pos h_4] at hm
          exact wj_X6_isMarkSign_60 X hr hlocks hm hP hS (lv_sub hl [] rfl)
        · rw [if_neg h_4] at hm
          refine lv_iload_n hx hb dX6_isMarkSign_24 rfl (lv_at hl 1 rfl) ?_
          refine lv_bipush (v := 47) hx hb dX6_isMarkSign_25 (by decide) ?_
          refine lv_icmp_eq (tgt := 60) hx hb dX6_isMarkSign_27 (by decide) (fun h_5 => ?_) (fun h_5 => ?_)
          · rw [if_pos h_5] at hm
            exact wj_X6_isMarkSign_60 X hr hlocks hm hP hS (lv_sub hl [] rfl)
          · rw [if_neg h_5] at hm
            refine lv_iload_n hx hb dX6_isMarkSign_30 rfl (lv_at hl 1 rfl) ?_
            refine lv_bipush (v := 40) hx hb dX6_isMarkSign_31 (by decide) ?_
            refine lv_icmp_eq (tgt := 60) hx hb dX6_isMarkSign_33 (by decide) (fun h_6 => ?_) (fun h_6 => ?_)
            · rw [if_pos h_6] at hm
              exact wj_X6_isMarkSign_60 X hr hlocks hm hP hS (lv_sub hl [] rfl)
            · rw [if_neg h_6] at hm
              refine lv_iload_n hx hb dX6_isMarkSign_36 rfl (lv_at hl 1 rfl) ?_
              refine lv_bipush (v := 41) hx hb dX6_isMarkSign_37 (by decide) ?_
              refine lv_icmp_eq (tgt := 60) hx hb dX6_isMarkSign_39 (by decide) (fun h_7 => ?_) (fun h_7 => ?_)
              · rw [if_pos h_7] at hm
                exact wj_X6_isMarkSign_60 X hr hlocks hm hP hS (lv_sub hl [] rfl)
              · rw [if_neg h_7] at hm
                refine lv_iload_n hx hb dX6_isMarkSign_42 rfl (lv_at hl 1 rfl) ?_
                refine lv_bipush (v := 60) hx hb dX6_isMarkSign_43 (by decide) ?_
                refine lv_icmp_eq (tgt := 60) hx hb dX6_isMarkSign_45 (by decide) (fun h_8 => ?_) (fun h_8 => ?_)
                · rw [if_pos h_8] at hm
                  exact wj_X6_isMarkSign_60 X hr hlocks hm hP hS (lv_sub hl [] rfl)
                · rw [if_neg h_8] at hm
                  refine lv_iload_n hx hb dX6_isMarkSign_48 rfl (lv_at hl 1 rfl) ?_
                  refine lv_bipush (v := 61) hx hb dX6_isMarkSign_49 (by decide) ?_
                  refine lv_icmp_eq (tgt := 60) hx hb dX6_isMarkSign_51 (by decide) (fun h_9 => ?_) (fun h_9 => ?_)
                  · rw [if_pos h_9] at hm
                    exact wj_X6_isMarkSign_60 X hr hlocks hm hP hS (lv_sub hl [] rfl)
                  · rw [if_neg h_9] at hm
                    refine lv_iload_n hx hb dX6_isMarkSign_54 rfl (lv_at hl 1 rfl) ?_
                    refine lv_bipush (v := 62) hx hb dX6_isMarkSign_55 (by decide) ?_
                    refine lv_icmp_ne (tgt := 64) hx hb dX6_isMarkSign_57 (by decide) (fun h_10 => ?_) (fun h_10 => ?_)
                    · rw [if_neg h_10] at hm
                      refine lv_iconst (v := 0) hx hb dX6_isMarkSign_64 (by decide) ?_
                      cases hm
                      exact x_zret X (by decide) hP hS hr hlocks dX6_isMarkSign_65
                    · rw [if_pos h_10] at hm
                      exact wj_X6_isMarkSign_60 X hr hlocks hm hP hS (lv_sub hl [] rfl)


/-! X6_wordAt -/
def rmX6_wordAt : Room := { frames := 0, cells := 0, slots := 0, locals := 0 }
theorem uX6_wordAt_X6 : ∀ w ∈ wsX60, w ∈ wsX6_wordAt := by decide +kernel
theorem mbX6_wordAt_1 : Cond.fieldLink RX6 59 "FootANightModel" "words" "[I" ∈ wsX6_wordAt := by decide +kernel
theorem mbX6_wordAt_2 : Cond.fieldLink RX6 56 "FootANightModel" "tape" "[I" ∈ wsX6_wordAt := by decide +kernel
set_option maxHeartbeats 4000000 in
set_option maxRecDepth 100000 in
theorem wl_X6_wordAt_19 (X : CxG g p s m args c cX6_wordAt 6 RX6 wsX6_wordAt) (hAll : okAll g) {fu : Nat} {M : Mem} {s1 : Int32} {s2 : Int32} {s3 : Int32} {s4 : Int32} {x : Int32} (kx0 : ∀ (d5 : Int32) , x = d5 → ∀ (H : Heap) (locs : List Loc) (ls : Array Slot), va_P (gD g) vwCl (wlG g M) H → va_S (AbG g) s.heap H locs → lv_has ls 6 [(0, .ref (ga g 148)), (1, .int s1), (2, .int s2), (3, .int s3), (4, .int s4), (5, .int d5)] → W p l e (headSpec wsX6_wordAt rmX6_wordAt).room s m args below meth c H locs 0 0 Q (F0 m 60 ls [])) {n : Nat} {q0 : Int32} (h : lp (b_X6_wordAt_19 fu M s1 s2 s3 s4) n q0 = some x) : ∀ (H : Heap) (locs : List Loc) (ls : Array Slot), va_P (gD g) vwCl (wlG g M) H → va_S (AbG g) s.heap H locs → lv_has ls 6 [(0, .ref (ga g 148)), (1, .int s1), (2, .int s2), (3, .int s3), (4, .int s4), (5, .int q0)] → W p l e (headSpec wsX6_wordAt rmX6_wordAt).room s m args below meth c H locs 0 0 Q (F0 m 19 ls []) := by
  refine lp_elim (P := fun q0 : Int32 => ∀ (H : Heap) (locs : List Loc) (ls : Array Slot), va_P (gD g) vwCl (wlG g M) H → va_S (AbG g) s.heap H locs → lv_has ls 6 [(0, .ref (ga g 148)), (1, .int s1), (2, .int s2), (3, .int s3), (4, .int s4), (5, .int q0)] → W p l e (headSpec wsX6_wordAt rmX6_wordAt).room s m args below meth c H locs 0 0 Q (F0 m 19 ls [])) (fun q1 o hm hI hX => ?_) n q0 h
  obtain ⟨c5, rfl⟩ : ∃ z, z = q1 := ⟨_, rfl⟩
  have kb : ∀ (d5 : Int32) , o = .inl d5 → ∀ (H : Heap) (locs : List Loc) (ls : Array Slot), va_P (gD g) vwCl (wlG g M) H → va_S (AbG g) s.heap H locs → lv_has ls 6 [(0, .ref (ga g 148)), (1, .int s1), (2, .int s2), (3, .int s3), (4, .int s4), (5, .int d5)] → W p l e (headSpec wsX6_wordAt rmX6_wordAt).room s m args below meth c H locs 0 0 Q (F0 m 19 ls []) := fun d5 e => hI _ e
  have kx0 : ∀ (d5 : Int32) , o = .inr d5 → ∀ (H : Heap) (locs : List Loc) (ls : Array Slot), va_P (gD g) vwCl (wlG g M) H → va_S (AbG g) s.heap H locs → lv_has ls 6 [(0, .ref (ga g 148)), (1, .int s1), (2, .int s2), (3, .int s3), (4, .int s4), (5, .int d5)] → W p l e (headSpec wsX6_wordAt rmX6_wordAt).room s m args below meth c H locs 0 0 Q (F0 m 60 ls []) := fun d5 e => kx0 d5 (hX _ e).symm
  clear hI hX
  intro H locs ls hP hS hl
  obtain ⟨⟨hx, hb, hml, hown, hts⟩, -, -⟩ := id X
  have hl : lv_has ls 6 [(0, .ref (ga g 148)), (1, .int s1), (2, .int s2), (3, .int s3), (4, .int s4), (5, .int c5)] := hl
  have hP : va_P (gD g) vwCl (wlG g M) H := hP
  unfold b_X6_wordAt_19 at hm
  replace hm := un1_e hm
  refine lv_iload_n hx hb dX6_wordAt_19 rfl (lv_at hl 1 rfl) ?_
  refine lv_iload hx hb dX6_wordAt_20 (lv_at hl 5 rfl) ?_
  refine lv_iadd hx hb dX6_wordAt_22 ?_
  refine lv_iload_n hx hb dX6_wordAt_23 rfl (lv_at hl 2 rfl) ?_
  refine lv_icmp_ge (tgt := 60) hx hb dX6_wordAt_24 (by decide) (fun h_4 => ?_) (fun h_4 => ?_)
  · rw [if_pos h_4] at hm
    exact kx0 c5 (Option.some.inj hm).symm _ _ _ hP hS (lv_sub hl [0, 1, 2, 3, 4, 5] rfl)
  · rw [if_neg h_4] at hm
    refine lv_aload_n hx hb dX6_wordAt_27 rfl (lv_at hl 0 rfl) ?_
    refine xg_X6_25 X hP hAll uX6_wordAt_X6 mbX6_wordAt_1 dX6_wordAt_28 ?_
    refine lv_iload hx hb dX6_wordAt_31 (lv_at hl 4 rfl) ?_
    refine lv_iconst (v := 1) hx hb dX6_wordAt_33 (by decide) ?_
    refine lv_iadd hx hb dX6_wordAt_34 ?_
    refine lv_iload hx hb dX6_wordAt_35 (lv_at hl 5 rfl) ?_
    refine lv_iadd hx hb dX6_wordAt_37 ?_
    obtain ⟨hb_5, hm⟩ := chk_elim hm
    refine x_iald X hP (okc_164 hAll) hb_5 dX6_wordAt_38 ?_
    refine lv_aload_n hx hb dX6_wordAt_39 rfl (lv_at hl 0 rfl) ?_
    refine xg_X6_19 X hP hAll uX6_wordAt_X6 mbX6_wordAt_2 dX6_wordAt_40 ?_
    refine lv_iload_n hx hb dX6_wordAt_43 rfl (lv_at hl 1 rfl) ?_
    refine lv_iload hx hb dX6_wordAt_44 (lv_at hl 5 rfl) ?_
    refine lv_iadd hx hb dX6_wordAt_46 ?_
    obtain ⟨hb_6, hm⟩ := chk_elim hm
    refine x_iald X hP (okc_163 hAll) hb_6 dX6_wordAt_47 ?_
    refine lv_icmp_ne (tgt := 60) hx hb dX6_wordAt_48 (by decide) (fun h_7 => ?_) (fun h_7 => ?_)
    · rw [if_neg h_7] at hm
      exact kx0 c5 (Option.some.inj hm).symm _ _ _ hP hS (lv_sub hl [0, 1, 2, 3, 4, 5] rfl)
    · rw [if_pos h_7] at hm
      refine lv_iload hx hb dX6_wordAt_51 (lv_at hl 5 rfl) ?_
      refine lv_iconst (v := 1) hx hb dX6_wordAt_53 (by decide) ?_
      refine lv_iadd hx hb dX6_wordAt_54 ?_
      obtain ⟨v_8, hv_9, hm⟩ := bnd_elim hm
      refine x_name hv_9 ?_
      refine lv_istore (lv' := [(5, .int v_8), (0, .ref (ga g 148)), (1, .int s1), (2, .int s2), (3, .int s3), (4, .int s4)]) hx hb dX6_wordAt_55 hl (by decide) rfl (fun ls hl => ?_)
      refine lv_goto (tgt := 19) hx hb dX6_wordAt_57 (by decide) ?_
      exact kb v_8 (Option.some.inj hm).symm _ _ _ hP hS (lv_sub hl [1, 2, 3, 4, 5, 0] rfl)

set_option maxHeartbeats 4000000 in
set_option maxRecDepth 100000 in
theorem wl_X6_wordAt_93 (X : CxG g p s m args c cX6_wordAt 6 RX6 wsX6_wordAt) (hAll : okAll g) {fu : Nat} {M : Mem} {s1 : Int32} {s2 : Int32} {s3 : Int32} {x : Int32} (kx0 : ∀ (d4 : Int32) , x = d4 → ∀ (H : Heap) (locs : List Loc) (ls : Array Slot), va_P (gD g) vwCl (wlG g M) H → va_S (AbG g) s.heap H locs → lv_has ls 6 [(0, .ref (ga g 148)), (1, .int s1), (2, .int s2), (3, .int s3), (4, .int d4)] → W p l e (headSpec wsX6_wordAt rmX6_wordAt).room s m args below meth c H locs 0 0 Q (F0 m 114 ls [])) {n : Nat} {q0 : Int32} (h : lp (b_X6_wordAt_93 fu M s1 s2 s3) n q0 = some x) : ∀ (H : Heap) (locs : List Loc) (ls : Array Slot), va_P (gD g) vwCl (wlG g M) H → va_S (AbG g) s.heap H locs → lv_has ls 6 [(0, .ref (ga g 148)), (1, .int s1), (2, .int s2), (3, .int s3), (4, .int q0)] → W p l e (headSpec wsX6_wordAt rmX6_wordAt).room s m args below meth c H locs 0 0 Q (F0 m 93 ls []) := by
  refine lp_elim (P := fun q0 : Int32 => ∀ (H : Heap) (locs : List Loc) (ls : Array Slot), va_P (gD g) vwCl (wlG g M) H → va_S (AbG g) s.heap H locs → lv_has ls 6 [(0, .ref (ga g 148)), (1, .int s1), (2, .int s2), (3, .int s3), (4, .int q0)] → W p l e (headSpec wsX6_wordAt rmX6_wordAt).room s m args below meth c H locs 0 0 Q (F0 m 93 ls [])) (fun q1 o hm hI hX => ?_) n q0 h
  obtain ⟨c4, rfl⟩ : ∃ z, z = q1 := ⟨_, rfl⟩
  have kb : ∀ (d4 : Int32) , o = .inl d4 → ∀ (H : Heap) (locs : List Loc) (ls : Array Slot), va_P (gD g) vwCl (wlG g M) H → va_S (AbG g) s.heap H locs → lv_has ls 6 [(0, .ref (ga g 148)), (1, .int s1), (2, .int s2), (3, .int s3), (4, .int d4)] → W p l e (headSpec wsX6_wordAt rmX6_wordAt).room s m args below meth c H locs 0 0 Q (F0 m 93 ls []) := fun d4 e => hI _ e
  have kx0 : ∀ (d4 : Int32) , o = .inr d4 → ∀ (H : Heap) (locs : List Loc) (ls : Array Slot), va_P (gD g) vwCl (wlG g M) H → va_S (AbG g) s.heap H locs → lv_has ls 6 [(0, .ref (ga g 148)), (1, .int s1), (2, .int s2), (3, .int s3), (4, .int d4)] → W p l e (headSpec wsX6_wordAt rmX6_wordAt).room s m args below meth c H locs 0 0 Q (F0 m 114 ls []) := fun d4 e => kx0 d4 (hX _ e).symm
  clear hI hX
  intro H locs ls hP hS hl
  obtain ⟨⟨hx, hb, hml, hown, hts⟩, -, -⟩ := id X
  have hl : lv_has ls 6 [(0, .ref (ga g 148)), (1, .int s1), (2, .int s2), (3, .int s3), (4, .int c4)] := hl
  have hP : va_P (gD g) vwCl (wlG g M) H := hP
  unfold b_X6_wordAt_93 at hm
  replace hm := un1_e hm
  refine lv_aload_n hx hb dX6_wordAt_93 rfl (lv_at hl 0 rfl) ?_
  refine xg_X6_25 X hP hAll uX6_wordAt_X6 mbX6_wordAt_1 dX6_wordAt_94 ?_
  refine lv_iload hx hb dX6_wordAt_97 (lv_at hl 4 rfl) ?_
  obtain ⟨hb_16, hm⟩ := chk_elim hm
  refine x_iald X hP (okc_164 hAll) hb_16 dX6_wordAt_99 ?_
  refine lv_bipush (v := 32) hx hb dX6_wordAt_100 (by decide) ?_
  refine lv_icmp_eq (tgt := 114) hx hb dX6_wordAt_102 (by decide) (fun h_17 => ?_) (fun h_17 => ?_)
  · rw [if_pos h_17] at hm
    exact kx0 c4 (Option.some.inj hm).symm _ _ _ hP hS (lv_sub hl [0, 1, 2, 3, 4] rfl)
  · rw [if_neg h_17] at hm
    refine lv_iload hx hb dX6_wordAt_105 (lv_at hl 4 rfl) ?_
    refine lv_iconst (v := 1) hx hb dX6_wordAt_107 (by decide) ?_
    refine lv_iadd hx hb dX6_wordAt_108 ?_
    obtain ⟨v_18, hv_19, hm⟩ := bnd_elim hm
    refine x_name hv_19 ?_
    refine lv_istore (lv' := [(4, .int v_18), (0, .ref (ga g 148)), (1, .int s1), (2, .int s2), (3, .int s3)]) hx hb dX6_wordAt_109 hl (by decide) rfl (fun ls hl => ?_)
    refine lv_goto (tgt := 93) hx hb dX6_wordAt_111 (by decide) ?_
    exact kb v_18 (Option.some.inj hm).symm _ _ _ hP hS (lv_sub hl [1, 2, 3, 4, 0] rfl)

set_option maxHeartbeats 4000000 in
set_option maxRecDepth 100000 in
theorem wj_X6_wordAt_87i (X : CxG g p s m args c cX6_wordAt 6 RX6 wsX6_wordAt) (hAll : okAll g) {fu : Nat} {M : Mem} {s1 : Int32} {s2 : Int32} {s3 : Int32} {s4 : Int32} {o : (Int32 × Int32) ⊕ ((Int32) ⊕ (Unit))} (kb : ∀ (d3 : Int32) (d4 : Int32) , o = .inl (d3, d4) → ∀ (H : Heap) (locs : List Loc) (ls : Array Slot), va_P (gD g) vwCl (wlG g M) H → va_S (AbG g) s.heap H locs → lv_has ls 6 [(0, .ref (ga g 148)), (1, .int s1), (2, .int s2), (3, .int d3), (4, .int d4)] → W p l e (headSpec wsX6_wordAt rmX6_wordAt).room s m args below meth c H locs 0 0 Q (F0 m 5 ls [])) (kx0 : ∀ (d3 : Int32) , o = .inr (.inl d3) → ∀ (H : Heap) (locs : List Loc) (ls : Array Slot), va_P (gD g) vwCl (wlG g M) H → va_S (AbG g) s.heap H locs → lv_has ls 6 [(3, .int d3)] → W p l e (headSpec wsX6_wordAt rmX6_wordAt).room s m args below meth c H locs 0 0 Q (F0 m 85 ls [])) (kx1 : ∀ (_u : Unit) , o = .inr (.inr ()) → ∀ (H : Heap) (locs : List Loc) (ls : Array Slot), va_P (gD g) vwCl (wlG g M) H → va_S (AbG g) s.heap H locs → lv_has ls 6 [] → W p l e (headSpec wsX6_wordAt rmX6_wordAt).room s m args below meth c H locs 0 0 Q (F0 m 117 ls [])) (hm : j_X6_wordAt_87i fu M s1 s2 s3 s4 = some o) {H : Heap} {locs : List Loc} {ls : Array Slot} (hP : va_P (gD g) vwCl (wlG g M) H) (hS : va_S (AbG g) s.heap H locs) (hl : lv_has ls 6 [(0, .ref (ga g 148)), (1, .int s1), (2, .int s2), (3, .int s3), (4, .int s4)]) : W p l e (headSpec wsX6_wordAt rmX6_wordAt).room s m args below meth c H locs 0 0 Q (F0 m 87 ls []) := by
  obtain ⟨⟨hx, hb, hml, hown, hts⟩, -, -⟩ := id X
  unfold j_X6_wordAt_87i at hm
  refine lv_iload hx hb dX6_wordAt_87 (lv_at hl 4 rfl) ?_
  refine lv_iconst (v := 1) hx hb dX6_wordAt_89 (by decide) ?_
  refine lv_iadd hx hb dX6_wordAt_90 ?_
  obtain ⟨v_14, hv_15, hm⟩ := bnd_elim hm
  refine x_name hv_15 ?_
  refine lv_istore (lv' := [(4, .int v_14), (0, .ref (ga g 148)), (1, .int s1), (2, .int s2), (3, .int s3)]) hx hb dX6_wordAt_91 hl (by decide) rfl (fun ls hl => ?_)
  obtain ⟨v_22, hL_21, hm⟩ := bind_elim hm
  refine wl_X6_wordAt_93 X hAll ?_ hL_21 _ _ _ hP hS (lv_sub hl [1, 2, 3, 4, 0] rfl)
  · intro z_v_22 e_v_22 H locs ls hP hS hl
    subst e_v_22
    replace hm := un1_e hm
    refine lv_goto (tgt := 5) hx hb dX6_wordAt_114 (by decide) ?_
    exact kb s3 v_22 (Option.some.inj hm).symm _ _ _ hP hS (lv_sub hl [0, 1, 2, 3, 4] rfl)

set_option maxHeartbeats 4000000 in
set_option maxRecDepth 100000 in
theorem wl_X6_wordAt_5 (X : CxG g p s m args c cX6_wordAt 6 RX6 wsX6_wordAt) (hAll : okAll g) {fu : Nat} {M : Mem} {s1 : Int32} {s2 : Int32} {x : (Int32) ⊕ (Unit)} (kx0 : ∀ (d3 : Int32) , x = .inl d3 → ∀ (H : Heap) (locs : List Loc) (ls : Array Slot), va_P (gD g) vwCl (wlG g M) H → va_S (AbG g) s.heap H locs → lv_has ls 6 [(3, .int d3)] → W p l e (headSpec wsX6_wordAt rmX6_wordAt).room s m args below meth c H locs 0 0 Q (F0 m 85 ls [])) (kx1 : ∀ (_u : Unit) , x = .inr () → ∀ (H : Heap) (locs : List Loc) (ls : Array Slot), va_P (gD g) vwCl (wlG g M) H → va_S (AbG g) s.heap H locs → lv_has ls 6 [] → W p l e (headSpec wsX6_wordAt rmX6_wordAt).room s m args below meth c H locs 0 0 Q (F0 m 117 ls [])) {n : Nat} {q0 : Int32 × Int32} (h : lp (b_X6_wordAt_5 fu M s1 s2) n q0 = some x) : ∀ (H : Heap) (locs : List Loc) (ls : Array Slot), va_P (gD g) vwCl (wlG g M) H → va_S (AbG g) s.heap H locs → lv_has ls 6 [(0, .ref (ga g 148)), (1, .int s1), (2, .int s2), (3, .int q0.1), (4, .int q0.2)] → W p l e (headSpec wsX6_wordAt rmX6_wordAt).room s m args below meth c H locs 0 0 Q (F0 m 5 ls []) := by
  refine lp_elim (P := fun q0 : Int32 × Int32 => ∀ (H : Heap) (locs : List Loc) (ls : Array Slot), va_P (gD g) vwCl (wlG g M) H → va_S (AbG g) s.heap H locs → lv_has ls 6 [(0, .ref (ga g 148)), (1, .int s1), (2, .int s2), (3, .int q0.1), (4, .int q0.2)] → W p l e (headSpec wsX6_wordAt rmX6_wordAt).room s m args below meth c H locs 0 0 Q (F0 m 5 ls [])) (fun q1 o hm hI hX => ?_) n q0 h
  obtain ⟨c3, c4⟩ := q1
  have kb : ∀ (d3 : Int32) (d4 : Int32) , o = .inl (d3, d4) → ∀ (H : Heap) (locs : List Loc) (ls : Array Slot), va_P (gD g) vwCl (wlG g M) H → va_S (AbG g) s.heap H locs → lv_has ls 6 [(0, .ref (ga g 148)), (1, .int s1), (2, .int s2), (3, .int d3), (4, .int d4)] → W p l e (headSpec wsX6_wordAt rmX6_wordAt).room s m args below meth c H locs 0 0 Q (F0 m 5 ls []) := fun d3 d4 e => hI _ e
  have kx0 : ∀ (d3 : Int32) , o = .inr (.inl d3) → ∀ (H : Heap) (locs : List Loc) (ls : Array Slot), va_P (gD g) vwCl (wlG g M) H → va_S (AbG g) s.heap H locs → lv_has ls 6 [(3, .int d3)] → W p l e (headSpec wsX6_wordAt rmX6_wordAt).room s m args below meth c H locs 0 0 Q (F0 m 85 ls []) := fun d3 e => kx0 d3 (hX _ e).symm
  have kx1 : ∀ (_u : Unit) , o = .inr (.inr ()) → ∀ (H : Heap) (locs : List Loc) (ls : Array Slot), va_P (gD g) vwCl (wlG g M) H → va_S (AbG g) s.heap H locs → lv_has ls 6 [] → W p l e (headSpec wsX6_wordAt rmX6_wordAt).room s m args below meth c H locs 0 0 Q (F0 m 117 ls []) := fun _u e => kx1 _u (hX _ e).symm
  clear hI hX
  intro H locs ls hP hS hl
  obtain ⟨⟨hx, hb, hml, hown, hts⟩, -, -⟩ := id X
  have hl : lv_has ls 6 [(0, .ref (ga g 148)), (1, .int s1), (2, .int s2), (3, .int c3), (4, .int c4)] := hl
  have hP : va_P (gD g) vwCl (wlG g M) H := hP
  unfold b_X6_wordAt_5 at hm
  replace hm := un2_e hm
  refine lv_iload hx hb dX6_wordAt_5 (lv_at hl 4 rfl) ?_
  refine lv_bipush (v := 98) hx hb dX6_wordAt_7 (by decide) ?_
  refine lv_icmp_ge (tgt := 117) hx hb dX6_wordAt_9 (by decide) (fun h_1 => ?_) (fun h_1 => ?_)
  · rw [if_pos h_1] at hm
    exact kx1 () (Option.some.inj hm).symm _ _ _ hP hS (lv_sub hl [] rfl)
  · rw [if_neg h_1] at hm
    refine lv_iconst (v := 0) hx hb dX6_wordAt_12 (by decide) ?_
    refine lv_istore (lv' := [(5, .int 0), (0, .ref (ga g 148)), (1, .int s1), (2, .int s2), (3, .int c3), (4, .int c4)]) hx hb dX6_wordAt_13 hl (by decide) rfl (fun ls hl => ?_)
    refine lv_iload_n hx hb dX6_wordAt_15 rfl (lv_at hl 4 rfl) ?_
    refine lv_iconst (v := 1) hx hb dX6_wordAt_16 (by decide) ?_
    refine lv_iadd hx hb dX6_wordAt_17 ?_
    obtain ⟨v_2, hv_3, hm⟩ := bnd_elim hm
    refine x_name hv_3 ?_
    refine lv_istore_n (lv' := [(3, .int v_2), (5, .int 0), (0, .ref (ga g 148)), (1, .int s1), (2, .int s2), (4, .int c4)]) hx hb dX6_wordAt_18 rfl hl (by decide) rfl (fun ls hl => ?_)
    obtain ⟨v_12, hL_11, hm⟩ := bind_elim hm
    refine wl_X6_wordAt_19 X hAll ?_ hL_11 _ _ _ hP hS (lv_sub hl [2, 3, 4, 0, 5, 1] rfl)
    · intro z_v_12 e_v_12 H locs ls hP hS hl
      subst e_v_12
      replace hm := un1_e hm
      refine lv_iload_n hx hb dX6_wordAt_60 rfl (lv_at hl 1 rfl) ?_
      refine lv_iload hx hb dX6_wordAt_61 (lv_at hl 5 rfl) ?_
      refine lv_iadd hx hb dX6_wordAt_63 ?_
      refine lv_iload_n hx hb dX6_wordAt_64 rfl (lv_at hl 2 rfl) ?_
      refine lv_icmp_ne (tgt := 87) hx hb dX6_wordAt_65 (by decide) (fun h_13 => ?_) (fun h_13 => ?_)
      · rw [if_neg h_13] at hm
        exact wj_X6_wordAt_87i X hAll kb kx0 kx1 hm hP hS (lv_sub hl [0, 1, 2, 3, 4] rfl)
      · rw [if_pos h_13] at hm
        refine lv_aload_n hx hb dX6_wordAt_68 rfl (lv_at hl 0 rfl) ?_
        refine xg_X6_25 X hP hAll uX6_wordAt_X6 mbX6_wordAt_1 dX6_wordAt_69 ?_
        refine lv_iload hx hb dX6_wordAt_72 (lv_at hl 4 rfl) ?_
        refine lv_iconst (v := 1) hx hb dX6_wordAt_74 (by decide) ?_
        refine lv_iadd hx hb dX6_wordAt_75 ?_
        refine lv_iload hx hb dX6_wordAt_76 (lv_at hl 5 rfl) ?_
        refine lv_iadd hx hb dX6_wordAt_78 ?_
        obtain ⟨hb_23, hm⟩ := chk_elim hm
        refine x_iald X hP (okc_164 hAll) hb_23 dX6_wordAt_79 ?_
        refine lv_bipush (v := 32) hx hb dX6_wordAt_80 (by decide) ?_
        refine lv_icmp_ne (tgt := 87) hx hb dX6_wordAt_82 (by decide) (fun h_24 => ?_) (fun h_24 => ?_)
        · rw [if_neg h_24] at hm
          exact wj_X6_wordAt_87i X hAll kb kx0 kx1 hm hP hS (lv_sub hl [0, 1, 2, 3, 4] rfl)
        · rw [if_pos h_24] at hm
          exact kx0 v_2 (Option.some.inj hm).symm _ _ _ hP hS (lv_sub hl [3] rfl)

set_option maxHeartbeats 4000000 in
set_option maxRecDepth 100000 in
theorem c_X6_wordAt (l : Launch) {g : GT} (hA : AxG g) (hAll : okAll g)   {fu : Nat} {M : Mem} {a1 : Int32} {a2 : Int32} {rr : Int32} (hm : m_X6_wordAt fu M a1 a2 = some rr) : CI l yX6_wordAt wsX6_wordAt rmX6_wordAt g [.ref (ga g 148), .int a1, .int a2] M rr M := by
  refine Met.ofW (cc := cX6_wordAt) (maxL := 6) (ret := (some .int)) (by decide) rfl ?_
  intro p e s m args below meth c s₁ B hml hv
  obtain ⟨rfl, hSx, hP⟩ := hv
  have hr := B.returns
  have hlocks := B.notSynchronized
  have X : CxG g p s m _ c cX6_wordAt 6 RX6 wsX6_wordAt := ⟨⟨B.exec, B.bytes, hml, findClass_of_methodNamed B.named, atoms_spec (ws := wsX6_wordAt) B.pre⟩, hSx, hA⟩
  have hS : va_S (AbG g) s.heap s.heap [] := va_S.rf
  have hl := lv_entry (([.ref (ga g 148), .int a1, .int a2] : List Value)) (n := 6) (Nat.le_of_ble_eq_true rfl)
  rw [lg_entry_eq]
  generalize (lg_sl (([.ref (ga g 148), .int a1, .int a2] : List Value)) ++ List.replicate (6 - (lg_sl (([.ref (ga g 148), .int a1, .int a2] : List Value))).length) Slot.unset).toArray = ls at hl ⊢
  have hl : lv_has ls 6 [(0, .ref (ga g 148)), (1, .int a1), (2, .int a2)] := hl
  obtain ⟨⟨hx, hb, hml, hown, hts⟩, -, -⟩ := id X
  unfold m_X6_wordAt at hm
  refine lv_iconst (v := (-1)) hx hb dX6_wordAt_0 (by decide) ?_
  refine lv_istore_n (lv' := [(3, .int (-1)), (0, .ref (ga g 148)), (1, .int a1), (2, .int a2)]) hx hb dX6_wordAt_1 rfl hl (by decide) rfl (fun ls hl => ?_)
  refine lv_iconst (v := 0) hx hb dX6_wordAt_2 (by decide) ?_
  refine lv_istore (lv' := [(4, .int 0), (3, .int (-1)), (0, .ref (ga g 148)), (1, .int a1), (2, .int a2)]) hx hb dX6_wordAt_3 hl (by decide) rfl (fun ls hl => ?_)
  obtain ⟨x_25, hL_26, hm⟩ := bind_elim hm
  refine wl_X6_wordAt_5 X hAll ?_ ?_ hL_26 _ _ _ hP hS (lv_sub hl [2, 3, 4, 1, 0] rfl)
  · intro v_27 e_x_25 H locs ls hP hS hl
    subst e_x_25
    replace hm := unS_l hm
    replace hm := un1_e hm
    refine lv_iload_n hx hb dX6_wordAt_85 rfl (lv_at hl 0 rfl) ?_
    cases hm
    exact x_iret X hP hS hr hlocks dX6_wordAt_86
  · intro _u e_x_25 H locs ls hP hS hl
    subst e_x_25
    replace hm := unS_r hm
    replace hm := un0_e hm
    refine lv_iconst (v := (-1)) hx hb dX6_wordAt_117 (by decide) ?_
    cases hm
    exact x_iret X hP hS hr hlocks dX6_wordAt_118


/-! X6_reads -/
def rmX6_reads : Room := { frames := 2, cells := 0, slots := 0, locals := 44 }
theorem uX6_reads_X6 : ∀ w ∈ wsX60, w ∈ wsX6_reads := by decide +kernel
theorem mbX6_reads_1 : Cond.fieldLink RX6 152 "FootANightModel" "spot" "I" ∈ wsX6_reads := by decide +kernel
theorem mbX6_reads_2 : Cond.fieldLink RX6 158 "FootANightModel" "from" "I" ∈ wsX6_reads := by decide +kernel
theorem mbX6_reads_3 : Cond.fieldLink RX6 161 "FootANightModel" "token" "I" ∈ wsX6_reads := by decide +kernel
theorem mbX6_reads_4 : Cond.fieldLink RX6 164 "FootANightModel" "value" "I" ∈ wsX6_reads := by decide +kernel
set_option maxHeartbeats 4000000 in
set_option maxRecDepth 100000 in
theorem wj_X6_reads_26i (X : CxG g p s m args c cX6_reads 2 RX6 wsX6_reads) (hAll : okAll g) {fu : Nat} {M : Mem} {o : (Mem) ⊕ (Mem)} (kb : ∀ (M2 : Mem) , o = .inl M2 → ∀ (H : Heap) (locs : List Loc) (ls : Array Slot), va_P (gD g) vwCl (wlG g M2) H → va_S (AbG g) s.heap H locs → lv_has ls 2 [(0, .ref (ga g 148))] → W p l e (headSpec wsX6_reads rmX6_reads).room s m args below meth c H locs 0 0 Q (F0 m 0 ls [])) (kx0 : ∀ (M2 : Mem) , o = .inr M2 → ∀ (H : Heap) (locs : List Loc) (ls : Array Slot), va_P (gD g) vwCl (wlG g M2) H → va_S (AbG g) s.heap H locs → lv_has ls 2 [(0, .ref (ga g 148))] → W p l e (headSpec wsX6_reads rmX6_reads).room s m args below meth c H locs 0 0 Q (F0 m 39 ls [])) (hm : j_X6_reads_26i fu M = some o) {H : Heap} {locs : List Loc} {ls : Array Slot} (hP : va_P (gD g) vwCl (wlG g M) H) (hS : va_S (AbG g) s.heap H locs) (hl : lv_has ls 2 [(0, .ref (ga g 148))]) : W p l e (headSpec wsX6_reads rmX6_reads).room s m args below meth c H locs 0 0 Q (F0 m 26 ls []) := by
  obtain ⟨⟨hx, hb, hml, hown, hts⟩, -, -⟩ := id X
  unfold j_X6_reads_26i at hm
  refine lv_aload_n hx hb dX6_reads_26 rfl (lv_at hl 0 rfl) ?_
  refine lv_aload_n hx hb dX6_reads_27 rfl (lv_at hl 0 rfl) ?_
  refine xg_X6_21 X hP hAll uX6_reads_X6 mbX6_reads_1 dX6_reads_28 ?_
  refine lv_iconst (v := 1) hx hb dX6_reads_31 (by decide) ?_
  refine lv_iadd hx hb dX6_reads_32 ?_
  obtain ⟨M_4, hM_5, hm⟩ := bnd_elim hm
  refine xp_X6_21 X hP hAll uX6_reads_X6 mbX6_reads_1 hS hM_5 dX6_reads_33 (fun H locs hP hS => ?_)
  refine lv_goto (tgt := 0) hx hb dX6_reads_36 (by decide) ?_
  exact kb M_4 (Option.some.inj hm).symm _ _ _ hP hS (lv_sub hl [0] rfl)

set_option maxHeartbeats 4000000 in
set_option maxRecDepth 100000 in
theorem wl_X6_reads_0 (X : CxG g p s m args c cX6_reads 2 RX6 wsX6_reads) (hAll : okAll g) {fu : Nat} {x : Mem} (kx0 : ∀ (M2 : Mem) , x = M2 → ∀ (H : Heap) (locs : List Loc) (ls : Array Slot), va_P (gD g) vwCl (wlG g M2) H → va_S (AbG g) s.heap H locs → lv_has ls 2 [(0, .ref (ga g 148))] → W p l e (headSpec wsX6_reads rmX6_reads).room s m args below meth c H locs 0 0 Q (F0 m 39 ls [])) {n : Nat} {q0 : Mem} (h : lp (b_X6_reads_0 fu) n q0 = some x) : ∀ (H : Heap) (locs : List Loc) (ls : Array Slot), va_P (gD g) vwCl (wlG g q0) H → va_S (AbG g) s.heap H locs → lv_has ls 2 [(0, .ref (ga g 148))] → W p l e (headSpec wsX6_reads rmX6_reads).room s m args below meth c H locs 0 0 Q (F0 m 0 ls []) := by
  refine lp_elim (P := fun q0 : Mem => ∀ (H : Heap) (locs : List Loc) (ls : Array Slot), va_P (gD g) vwCl (wlG g q0) H → va_S (AbG g) s.heap H locs → lv_has ls 2 [(0, .ref (ga g 148))] → W p l e (headSpec wsX6_reads rmX6_reads).room s m args below meth c H locs 0 0 Q (F0 m 0 ls [])) (fun q1 o hm hI hX => ?_) n q0 h
  obtain ⟨M, rfl⟩ : ∃ z, z = q1 := ⟨_, rfl⟩
  have kb : ∀ (M2 : Mem) , o = .inl M2 → ∀ (H : Heap) (locs : List Loc) (ls : Array Slot), va_P (gD g) vwCl (wlG g M2) H → va_S (AbG g) s.heap H locs → lv_has ls 2 [(0, .ref (ga g 148))] → W p l e (headSpec wsX6_reads rmX6_reads).room s m args below meth c H locs 0 0 Q (F0 m 0 ls []) := fun M2 e => hI _ e
  have kx0 : ∀ (M2 : Mem) , o = .inr M2 → ∀ (H : Heap) (locs : List Loc) (ls : Array Slot), va_P (gD g) vwCl (wlG g M2) H → va_S (AbG g) s.heap H locs → lv_has ls 2 [(0, .ref (ga g 148))] → W p l e (headSpec wsX6_reads rmX6_reads).room s m args below meth c H locs 0 0 Q (F0 m 39 ls []) := fun M2 e => kx0 M2 (hX _ e).symm
  clear hI hX
  intro H locs ls hP hS hl
  obtain ⟨⟨hx, hb, hml, hown, hts⟩, -, -⟩ := id X
  have hl : lv_has ls 2 [(0, .ref (ga g 148))] := hl
  have hP : va_P (gD g) vwCl (wlG g M) H := hP
  unfold b_X6_reads_0 at hm
  replace hm := un1_e hm
  refine lv_aload_n hx hb dX6_reads_0 rfl (lv_at hl 0 rfl) ?_
  refine lv_aload_n hx hb dX6_reads_1 rfl (lv_at hl 0 rfl) ?_
  refine xg_X6_21 X hP hAll uX6_reads_X6 mbX6_reads_1 dX6_reads_2 ?_
  obtain ⟨r_2, hc_1, hm⟩ := bind_elim hm
  refine x_calli (x_runV (As := [.int (rd M 148 21)]) (rest := []) X hP hS (c_X6_raw l X.2.2 hAll hc_1) (cwV 1 hts gX6_reads_X6_raw rfl rfl rfl (by decide +kernel) ⟨Nat.le_of_ble_eq_true rfl, Nat.le_of_ble_eq_true rfl⟩) (x_recv (C := RX6) (T := TX6) (N := 55) X hP (okc_148 hAll) rfl) rfl hl.1 rfl (Nat.le_of_ble_eq_true rfl) dX6_reads_5 ⟨Nat.zero_le _, Nat.zero_le _⟩) hS (fun H locs hP hS => ?_)
  refine lv_bipush (v := 32) hx hb dX6_reads_8 (by decide) ?_
  refine lv_icmp_eq (tgt := 26) hx hb dX6_reads_10 (by decide) (fun h_3 => ?_) (fun h_3 => ?_)
  · rw [if_pos h_3] at hm
    exact wj_X6_reads_26i X hAll kb kx0 hm hP hS (lv_sub hl [0] rfl)
  · rw [if_neg h_3] at hm
    refine lv_aload_n hx hb dX6_reads_13 rfl (lv_at hl 0 rfl) ?_
    refine lv_aload_n hx hb dX6_reads_14 rfl (lv_at hl 0 rfl) ?_
    refine xg_X6_21 X hP hAll uX6_reads_X6 mbX6_reads_1 dX6_reads_15 ?_
    obtain ⟨r_7, hc_6, hm⟩ := bind_elim hm
    refine x_calli (x_runV (As := [.int (rd M 148 21)]) (rest := []) X hP hS (c_X6_raw l X.2.2 hAll hc_6) (cwV 1 hts gX6_reads_X6_raw rfl rfl rfl (by decide +kernel) ⟨Nat.le_of_ble_eq_true rfl, Nat.le_of_ble_eq_true rfl⟩) (x_recv (C := RX6) (T := TX6) (N := 55) X hP (okc_148 hAll) rfl) rfl hl.1 rfl (Nat.le_of_ble_eq_true rfl) dX6_reads_18 ⟨Nat.zero_le _, Nat.zero_le _⟩) hS (fun H locs hP hS => ?_)
    refine lv_bipush (v := 10) hx hb dX6_reads_21 (by decide) ?_
    refine lv_icmp_ne (tgt := 39) hx hb dX6_reads_23 (by decide) (fun h_8 => ?_) (fun h_8 => ?_)
    · rw [if_neg h_8] at hm
      exact kx0 M (Option.some.inj hm).symm _ _ _ hP hS (lv_sub hl [0] rfl)
    · rw [if_pos h_8] at hm
      exact wj_X6_reads_26i X hAll kb kx0 hm hP hS (lv_sub hl [0] rfl)

set_option maxHeartbeats 4000000 in
set_option maxRecDepth 100000 in
theorem wj_X6_reads_223i (X : CxG g p s m args c cX6_reads 2 RX6 wsX6_reads) (hAll : okAll g) {fu : Nat} {M : Mem} {t1 : Int32} {o : (Mem) ⊕ (Mem)} (kb : ∀ (M2 : Mem) , o = .inl M2 → ∀ (H : Heap) (locs : List Loc) (ls : Array Slot), va_P (gD g) vwCl (wlG g M2) H → va_S (AbG g) s.heap H locs → lv_has ls 2 [(0, .ref (ga g 148))] → W p l e (headSpec wsX6_reads rmX6_reads).room s m args below meth c H locs 0 0 Q (F0 m 171 ls [])) (kx0 : ∀ (M2 : Mem) , o = .inr M2 → ∀ (H : Heap) (locs : List Loc) (ls : Array Slot), va_P (gD g) vwCl (wlG g M2) H → va_S (AbG g) s.heap H locs → lv_has ls 2 [(0, .ref (ga g 148))] → W p l e (headSpec wsX6_reads rmX6_reads).room s m args below meth c H locs 0 0 Q (F0 m 239 ls [])) (hm : j_X6_reads_223i fu M t1 = some o) {H : Heap} {locs : List Loc} {ls : Array Slot} (hP : va_P (gD g) vwCl (wlG g M) H) (hS : va_S (AbG g) s.heap H locs) (hl : lv_has ls 2 [(0, .ref (ga g 148))]) : W p l e (headSpec wsX6_reads rmX6_reads).room s m args below meth c H locs 0 0 Q (F0 m 223 ls [.int t1, .ref (ga g 148)]) := by
  obtain ⟨⟨hx, hb, hml, hown, hts⟩, -, -⟩ := id X
  unfold j_X6_reads_223i at hm
  obtain ⟨M_42, hM_43, hm⟩ := bnd_elim hm
  refine xp_X6_24 X hP hAll uX6_reads_X6 mbX6_reads_4 hS hM_43 dX6_reads_223 (fun H locs hP hS => ?_)
  refine lv_aload_n hx hb dX6_reads_226 rfl (lv_at hl 0 rfl) ?_
  refine lv_aload_n hx hb dX6_reads_227 rfl (lv_at hl 0 rfl) ?_
  refine xg_X6_21 X hP hAll uX6_reads_X6 mbX6_reads_1 dX6_reads_228 ?_
  refine lv_iconst (v := 1) hx hb dX6_reads_231 (by decide) ?_
  refine lv_iadd hx hb dX6_reads_232 ?_
  obtain ⟨M_44, hM_45, hm⟩ := bnd_elim hm
  refine xp_X6_21 X hP hAll uX6_reads_X6 mbX6_reads_1 hS hM_45 dX6_reads_233 (fun H locs hP hS => ?_)
  refine lv_goto (tgt := 171) hx hb dX6_reads_236 (by decide) ?_
  exact kb M_44 (Option.some.inj hm).symm _ _ _ hP hS (lv_sub hl [0] rfl)

set_option maxHeartbeats 4000000 in
set_option maxRecDepth 100000 in
theorem wl_X6_reads_171 (X : CxG g p s m args c cX6_reads 2 RX6 wsX6_reads) (hAll : okAll g) {fu : Nat} {x : Mem} (kx0 : ∀ (M2 : Mem) , x = M2 → ∀ (H : Heap) (locs : List Loc) (ls : Array Slot), va_P (gD g) vwCl (wlG g M2) H → va_S (AbG g) s.heap H locs → lv_has ls 2 [(0, .ref (ga g 148))] → W p l e (headSpec wsX6_reads rmX6_reads).room s m args below meth c H locs 0 0 Q (F0 m 239 ls [])) {n : Nat} {q0 : Mem} (h : lp (b_X6_reads_171 fu) n q0 = some x) : ∀ (H : Heap) (locs : List Loc) (ls : Array Slot), va_P (gD g) vwCl (wlG g q0) H → va_S (AbG g) s.heap H locs → lv_has ls 2 [(0, .ref (ga g 148))] → W p l e (headSpec wsX6_reads rmX6_reads).room s m args below meth c H locs 0 0 Q (F0 m 171 ls []) := by
  refine lp_elim (P := fun q0 : Mem => ∀ (H : Heap) (locs : List Loc) (ls : Array Slot), va_P (gD g) vwCl (wlG g q0) H → va_S (AbG g) s.heap H locs → lv_has ls 2 [(0, .ref (ga g 148))] → W p l e (headSpec wsX6_reads rmX6_reads).room s m args below meth c H locs 0 0 Q (F0 m 171 ls [])) (fun q1 o hm hI hX => ?_) n q0 h
  obtain ⟨M, rfl⟩ : ∃ z, z = q1 := ⟨_, rfl⟩
  have kb : ∀ (M2 : Mem) , o = .inl M2 → ∀ (H : Heap) (locs : List Loc) (ls : Array Slot), va_P (gD g) vwCl (wlG g M2) H → va_S (AbG g) s.heap H locs → lv_has ls 2 [(0, .ref (ga g 148))] → W p l e (headSpec wsX6_reads rmX6_reads).room s m args below meth c H locs 0 0 Q (F0 m 171 ls []) := fun M2 e => hI _ e
  have kx0 : ∀ (M2 : Mem) , o = .inr M2 → ∀ (H : Heap) (locs : List Loc) (ls : Array Slot), va_P (gD g) vwCl (wlG g M2) H → va_S (AbG g) s.heap H locs → lv_has ls 2 [(0, .ref (ga g 148))] → W p l e (headSpec wsX6_reads rmX6_reads).room s m args below meth c H locs 0 0 Q (F0 m 239 ls []) := fun M2 e => kx0 M2 (hX _ e).symm
  clear hI hX
  intro H locs ls hP hS hl
  obtain ⟨⟨hx, hb, hml, hown, hts⟩, -, -⟩ := id X
  have hl : lv_has ls 2 [(0, .ref (ga g 148))] := hl
  have hP : va_P (gD g) vwCl (wlG g M) H := hP
  unfold b_X6_reads_171 at hm
  replace hm := un1_e hm
  refine lv_aload_n hx hb dX6_reads_171 rfl (lv_at hl 0 rfl) ?_
  refine lv_aload_n hx hb dX6_reads_172 rfl (lv_at hl 0 rfl) ?_
  refine lv_aload_n hx hb dX6_reads_173 rfl (lv_at hl 0 rfl) ?_
  refine xg_X6_21 X hP hAll uX6_reads_X6 mbX6_reads_1 dX6_reads_174 ?_
  obtain ⟨r_37, hc_36, hm⟩ := bind_elim hm
  refine x_calli (x_runV (As := [.int (rd M 148 21)]) (rest := [.ref (ga g 148)]) X hP hS (c_X6_raw l X.2.2 hAll hc_36) (cwV 1 hts gX6_reads_X6_raw rfl rfl rfl (by decide +kernel) ⟨Nat.le_of_ble_eq_true rfl, Nat.le_of_ble_eq_true rfl⟩) (x_recv (C := RX6) (T := TX6) (N := 55) X hP (okc_148 hAll) rfl) rfl hl.1 rfl (Nat.le_of_ble_eq_true rfl) dX6_reads_177 ⟨Nat.zero_le _, Nat.zero_le _⟩) hS (fun H locs hP hS => ?_)
  obtain ⟨r_39, hc_38, hm⟩ := bind_elim hm
  refine x_calli (x_runV (As := [.int r_37]) (rest := []) X hP hS (c_X6_isDigit l X.2.2 hAll hc_38) (cwV 1 hts gX6_reads_X6_isDigit rfl rfl rfl (by decide +kernel) ⟨Nat.le_of_ble_eq_true rfl, Nat.le_of_ble_eq_true rfl⟩) (x_recv (C := RX6) (T := TX6) (N := 55) X hP (okc_148 hAll) rfl) rfl hl.1 rfl (Nat.le_of_ble_eq_true rfl) dX6_reads_180 ⟨Nat.zero_le _, Nat.zero_le _⟩) hS (fun H locs hP hS => ?_)
  refine lv_if_eq (tgt := 239) hx hb dX6_reads_183 (by decide) (fun h_40 => ?_) (fun h_40 => ?_)
  · rw [if_pos h_40] at hm
    exact kx0 M (Option.some.inj hm).symm _ _ _ hP hS (lv_sub hl [0] rfl)
  · rw [if_neg h_40] at hm
    refine lv_aload_n hx hb dX6_reads_186 rfl (lv_at hl 0 rfl) ?_
    refine lv_aload_n hx hb dX6_reads_187 rfl (lv_at hl 0 rfl) ?_
    refine xg_X6_24 X hP hAll uX6_reads_X6 mbX6_reads_4 dX6_reads_188 ?_
    refine lv_sipush (v := 10000) hx hb dX6_reads_191 (by decide) ?_
    refine lv_icmp_ge (tgt := 219) hx hb dX6_reads_194 (by decide) (fun h_41 => ?_) (fun h_41 => ?_)
    · rw [if_pos h_41] at hm
      refine lv_aload_n hx hb dX6_reads_219 rfl (lv_at hl 0 rfl) ?_
      refine xg_X6_24 X hP hAll uX6_reads_X6 mbX6_reads_4 dX6_reads_220 ?_
      exact wj_X6_reads_223i X hAll kb kx0 hm hP hS (lv_sub hl [0] rfl)
    · rw [if_neg h_41] at hm
      refine lv_bipush (v := 10) hx hb dX6_reads_197 (by decide) ?_
      refine lv_aload_n hx hb dX6_reads_199 rfl (lv_at hl 0 rfl) ?_
      refine xg_X6_24 X hP hAll uX6_reads_X6 mbX6_reads_4 dX6_reads_200 ?_
      refine lv_imul hx hb dX6_reads_203 ?_
      refine lv_aload_n hx hb dX6_reads_204 rfl (lv_at hl 0 rfl) ?_
      refine lv_aload_n hx hb dX6_reads_205 rfl (lv_at hl 0 rfl) ?_
      refine xg_X6_21 X hP hAll uX6_reads_X6 mbX6_reads_1 dX6_reads_206 ?_
      obtain ⟨r_47, hc_46, hm⟩ := bind_elim hm
      refine x_calli (x_runV (As := [.int (rd M 148 21)]) (rest := [.int (10 * (rd M 148 24)), .ref (ga g 148)]) X hP hS (c_X6_raw l X.2.2 hAll hc_46) (cwV 1 hts gX6_reads_X6_raw rfl rfl rfl (by decide +kernel) ⟨Nat.le_of_ble_eq_true rfl, Nat.le_of_ble_eq_true rfl⟩) (x_recv (C := RX6) (T := TX6) (N := 55) X hP (okc_148 hAll) rfl) rfl hl.1 rfl (Nat.le_of_ble_eq_true rfl) dX6_reads_209 ⟨Nat.zero_le _, Nat.zero_le _⟩) hS (fun H locs hP hS => ?_)
      refine lv_iadd hx hb dX6_reads_212 ?_
      refine lv_bipush (v := 48) hx hb dX6_reads_213 (by decide) ?_
      refine lv_isub hx hb dX6_reads_215 ?_
      refine lv_goto (tgt := 223) hx hb dX6_reads_216 (by decide) ?_
      exact wj_X6_reads_223i X hAll kb kx0 hm hP hS (lv_sub hl [0] rfl)

set_option maxHeartbeats 4000000 in
set_option maxRecDepth 100000 in
theorem wl_X6_reads_95 (X : CxG g p s m args c cX6_reads 2 RX6 wsX6_reads) (hAll : okAll g) {fu : Nat} {x : Mem} (kx0 : ∀ (M2 : Mem) , x = M2 → ∀ (H : Heap) (locs : List Loc) (ls : Array Slot), va_P (gD g) vwCl (wlG g M2) H → va_S (AbG g) s.heap H locs → lv_has ls 2 [(0, .ref (ga g 148))] → W p l e (headSpec wsX6_reads rmX6_reads).room s m args below meth c H locs 0 0 Q (F0 m 123 ls [])) {n : Nat} {q0 : Mem} (h : lp (b_X6_reads_95 fu) n q0 = some x) : ∀ (H : Heap) (locs : List Loc) (ls : Array Slot), va_P (gD g) vwCl (wlG g q0) H → va_S (AbG g) s.heap H locs → lv_has ls 2 [(0, .ref (ga g 148))] → W p l e (headSpec wsX6_reads rmX6_reads).room s m args below meth c H locs 0 0 Q (F0 m 95 ls []) := by
  refine lp_elim (P := fun q0 : Mem => ∀ (H : Heap) (locs : List Loc) (ls : Array Slot), va_P (gD g) vwCl (wlG g q0) H → va_S (AbG g) s.heap H locs → lv_has ls 2 [(0, .ref (ga g 148))] → W p l e (headSpec wsX6_reads rmX6_reads).room s m args below meth c H locs 0 0 Q (F0 m 95 ls [])) (fun q1 o hm hI hX => ?_) n q0 h
  obtain ⟨M, rfl⟩ : ∃ z, z = q1 := ⟨_, rfl⟩
  have kb : ∀ (M2 : Mem) , o = .inl M2 → ∀ (H : Heap) (locs : List Loc) (ls : Array Slot), va_P (gD g) vwCl (wlG g M2) H → va_S (AbG g) s.heap H locs → lv_has ls 2 [(0, .ref (ga g 148))] → W p l e (headSpec wsX6_reads rmX6_reads).room s m args below meth c H locs 0 0 Q (F0 m 95 ls []) := fun M2 e => hI _ e
  have kx0 : ∀ (M2 : Mem) , o = .inr M2 → ∀ (H : Heap) (locs : List Loc) (ls : Array Slot), va_P (gD g) vwCl (wlG g M2) H → va_S (AbG g) s.heap H locs → lv_has ls 2 [(0, .ref (ga g 148))] → W p l e (headSpec wsX6_reads rmX6_reads).room s m args below meth c H locs 0 0 Q (F0 m 123 ls []) := fun M2 e => kx0 M2 (hX _ e).symm
  clear hI hX
  intro H locs ls hP hS hl
  obtain ⟨⟨hx, hb, hml, hown, hts⟩, -, -⟩ := id X
  have hl : lv_has ls 2 [(0, .ref (ga g 148))] := hl
  have hP : va_P (gD g) vwCl (wlG g M) H := hP
  unfold b_X6_reads_95 at hm
  replace hm := un1_e hm
  refine lv_aload_n hx hb dX6_reads_95 rfl (lv_at hl 0 rfl) ?_
  refine lv_aload_n hx hb dX6_reads_96 rfl (lv_at hl 0 rfl) ?_
  refine lv_aload_n hx hb dX6_reads_97 rfl (lv_at hl 0 rfl) ?_
  refine xg_X6_21 X hP hAll uX6_reads_X6 mbX6_reads_1 dX6_reads_98 ?_
  obtain ⟨r_55, hc_54, hm⟩ := bind_elim hm
  refine x_calli (x_runV (As := [.int (rd M 148 21)]) (rest := [.ref (ga g 148)]) X hP hS (c_X6_raw l X.2.2 hAll hc_54) (cwV 1 hts gX6_reads_X6_raw rfl rfl rfl (by decide +kernel) ⟨Nat.le_of_ble_eq_true rfl, Nat.le_of_ble_eq_true rfl⟩) (x_recv (C := RX6) (T := TX6) (N := 55) X hP (okc_148 hAll) rfl) rfl hl.1 rfl (Nat.le_of_ble_eq_true rfl) dX6_reads_101 ⟨Nat.zero_le _, Nat.zero_le _⟩) hS (fun H locs hP hS => ?_)
  obtain ⟨r_57, hc_56, hm⟩ := bind_elim hm
  refine x_calli (x_runV (As := [.int r_55]) (rest := []) X hP hS (c_X6_isLetter l X.2.2 hAll hc_56) (cwV 1 hts gX6_reads_X6_isLetter rfl rfl rfl (by decide +kernel) ⟨Nat.le_of_ble_eq_true rfl, Nat.le_of_ble_eq_true rfl⟩) (x_recv (C := RX6) (T := TX6) (N := 55) X hP (okc_148 hAll) rfl) rfl hl.1 rfl (Nat.le_of_ble_eq_true rfl) dX6_reads_104 ⟨Nat.zero_le _, Nat.zero_le _⟩) hS (fun H locs hP hS => ?_)
  refine lv_if_eq (tgt := 123) hx hb dX6_reads_107 (by decide) (fun h_58 => ?_) (fun h_58 => ?_)
  · rw [if_pos h_58] at hm
    exact kx0 M (Option.some.inj hm).symm _ _ _ hP hS (lv_sub hl [0] rfl)
  · rw [if_neg h_58] at hm
    refine lv_aload_n hx hb dX6_reads_110 rfl (lv_at hl 0 rfl) ?_
    refine lv_aload_n hx hb dX6_reads_111 rfl (lv_at hl 0 rfl) ?_
    refine xg_X6_21 X hP hAll uX6_reads_X6 mbX6_reads_1 dX6_reads_112 ?_
    refine lv_iconst (v := 1) hx hb dX6_reads_115 (by decide) ?_
    refine lv_iadd hx hb dX6_reads_116 ?_
    obtain ⟨M_59, hM_60, hm⟩ := bnd_elim hm
    refine xp_X6_21 X hP hAll uX6_reads_X6 mbX6_reads_1 hS hM_60 dX6_reads_117 (fun H locs hP hS => ?_)
    refine lv_goto (tgt := 95) hx hb dX6_reads_120 (by decide) ?_
    exact kb M_59 (Option.some.inj hm).symm _ _ _ hP hS (lv_sub hl [0] rfl)

set_option maxHeartbeats 4000000 in
set_option maxRecDepth 100000 in
theorem c_X6_reads (l : Launch) {g : GT} (hA : AxG g) (hAll : okAll g)   {fu : Nat} {M : Mem} {MM : Mem} (hm : m_X6_reads fu M = some MM) : CV l yX6_reads wsX6_reads rmX6_reads g [.ref (ga g 148)] M MM := by
  refine Met.ofW (cc := cX6_reads) (maxL := 2) (ret := none) (by decide) rfl ?_
  intro p e s m args below meth c s₁ B hml hv
  obtain ⟨rfl, hSx, hP⟩ := hv
  have hr := B.returns
  have hlocks := B.notSynchronized
  have X : CxG g p s m _ c cX6_reads 2 RX6 wsX6_reads := ⟨⟨B.exec, B.bytes, hml, findClass_of_methodNamed B.named, atoms_spec (ws := wsX6_reads) B.pre⟩, hSx, hA⟩
  have hS : va_S (AbG g) s.heap s.heap [] := va_S.rf
  have hl := lv_entry (([.ref (ga g 148)] : List Value)) (n := 2) (Nat.le_of_ble_eq_true rfl)
  rw [lg_entry_eq]
  generalize (lg_sl (([.ref (ga g 148)] : List Value)) ++ List.replicate (2 - (lg_sl (([.ref (ga g 148)] : List Value))).length) Slot.unset).toArray = ls at hl ⊢
  have hl : lv_has ls 2 [(0, .ref (ga g 148))] := hl
  obtain ⟨⟨hx, hb, hml, hown, hts⟩, -, -⟩ := id X
  unfold m_X6_reads at hm
  obtain ⟨M_11, hL_10, hm⟩ := bind_elim hm
  refine wl_X6_reads_0 X hAll ?_ hL_10 _ _ _ hP hS (lv_sub hl [0] rfl)
  · intro z_M_11 e_M_11 H locs ls hP hS hl
    subst e_M_11
    replace hm := un1_e hm
    refine lv_aload_n hx hb dX6_reads_39 rfl (lv_at hl 0 rfl) ?_
    refine lv_aload_n hx hb dX6_reads_40 rfl (lv_at hl 0 rfl) ?_
    refine xg_X6_21 X hP hAll uX6_reads_X6 mbX6_reads_1 dX6_reads_41 ?_
    obtain ⟨M_12, hM_13, hm⟩ := bnd_elim hm
    refine xp_X6_22 X hP hAll uX6_reads_X6 mbX6_reads_2 hS hM_13 dX6_reads_44 (fun H locs hP hS => ?_)
    refine lv_aload_n hx hb dX6_reads_47 rfl (lv_at hl 0 rfl) ?_
    refine lv_iconst (v := 1) hx hb dX6_reads_48 (by decide) ?_
    obtain ⟨M_14, hM_15, hm⟩ := bnd_elim hm
    refine xp_X6_23 X hP hAll uX6_reads_X6 mbX6_reads_3 hS hM_15 dX6_reads_49 (fun H locs hP hS => ?_)
    refine lv_aload_n hx hb dX6_reads_52 rfl (lv_at hl 0 rfl) ?_
    refine lv_aload_n hx hb dX6_reads_53 rfl (lv_at hl 0 rfl) ?_
    refine xg_X6_21 X hP hAll uX6_reads_X6 mbX6_reads_1 dX6_reads_54 ?_
    obtain ⟨r_17, hc_16, hm⟩ := bind_elim hm
    refine x_calli (x_runV (As := [.int (rd M_14 148 21)]) (rest := []) X hP hS (c_X6_raw l X.2.2 hAll hc_16) (cwV 1 hts gX6_reads_X6_raw rfl rfl rfl (by decide +kernel) ⟨Nat.le_of_ble_eq_true rfl, Nat.le_of_ble_eq_true rfl⟩) (x_recv (C := RX6) (T := TX6) (N := 55) X hP (okc_148 hAll) rfl) rfl hl.1 rfl (Nat.le_of_ble_eq_true rfl) dX6_reads_57 ⟨Nat.zero_le _, Nat.zero_le _⟩) hS (fun H locs hP hS => ?_)
    refine lv_istore_n (lv' := [(1, .int r_17), (0, .ref (ga g 148))]) hx hb dX6_reads_60 rfl hl (by decide) rfl (fun ls hl => ?_)
    refine lv_iload_n hx hb dX6_reads_61 rfl (lv_at hl 0 rfl) ?_
    refine lv_iconst (v := (-1)) hx hb dX6_reads_62 (by decide) ?_
    refine lv_icmp_ne (tgt := 72) hx hb dX6_reads_63 (by decide) (fun h_18 => ?_) (fun h_18 => ?_)
    · rw [if_neg h_18] at hm
      refine lv_aload_n hx hb dX6_reads_72 rfl (lv_at hl 1 rfl) ?_
      refine lv_aload_n hx hb dX6_reads_73 rfl (lv_at hl 1 rfl) ?_
      refine xg_X6_21 X hP hAll uX6_reads_X6 mbX6_reads_1 dX6_reads_74 ?_
      refine lv_iconst (v := 1) hx hb dX6_reads_77 (by decide) ?_
      refine lv_iadd hx hb dX6_reads_78 ?_
      obtain ⟨M_19, hM_20, hm⟩ := bnd_elim hm
      refine xp_X6_21 X hP hAll uX6_reads_X6 mbX6_reads_1 hS hM_20 dX6_reads_79 (fun H locs hP hS => ?_)
      refine lv_aload_n hx hb dX6_reads_82 rfl (lv_at hl 1 rfl) ?_
      refine lv_iload_n hx hb dX6_reads_83 rfl (lv_at hl 0 rfl) ?_
      obtain ⟨M_21, hM_22, hm⟩ := bnd_elim hm
      refine xp_X6_24 X hP hAll uX6_reads_X6 mbX6_reads_4 hS hM_22 dX6_reads_84 (fun H locs hP hS => ?_)
      refine lv_aload_n hx hb dX6_reads_87 rfl (lv_at hl 1 rfl) ?_
      refine lv_iload_n hx hb dX6_reads_88 rfl (lv_at hl 0 rfl) ?_
      obtain ⟨r_24, hc_23, hm⟩ := bind_elim hm
      refine x_calli (x_runV (As := [.int r_17]) (rest := []) X hP hS (c_X6_isLetter l X.2.2 hAll hc_23) (cwV 1 hts gX6_reads_X6_isLetter rfl rfl rfl (by decide +kernel) ⟨Nat.le_of_ble_eq_true rfl, Nat.le_of_ble_eq_true rfl⟩) (x_recv (C := RX6) (T := TX6) (N := 55) X hP (okc_148 hAll) rfl) rfl hl.1 rfl (Nat.le_of_ble_eq_true rfl) dX6_reads_89 ⟨Nat.zero_le _, Nat.zero_le _⟩) hS (fun H locs hP hS => ?_)
      refine lv_if_eq (tgt := 155) hx hb dX6_reads_92 (by decide) (fun h_25 => ?_) (fun h_25 => ?_)
      · rw [if_pos h_25] at hm
        refine lv_aload_n hx hb dX6_reads_155 rfl (lv_at hl 1 rfl) ?_
        refine lv_iload_n hx hb dX6_reads_156 rfl (lv_at hl 0 rfl) ?_
        obtain ⟨r_27, hc_26, hm⟩ := bind_elim hm
        refine x_calli (x_runV (As := [.int r_17]) (rest := []) X hP hS (c_X6_isDigit l X.2.2 hAll hc_26) (cwV 1 hts gX6_reads_X6_isDigit rfl rfl rfl (by decide +kernel) ⟨Nat.le_of_ble_eq_true rfl, Nat.le_of_ble_eq_true rfl⟩) (x_recv (C := RX6) (T := TX6) (N := 55) X hP (okc_148 hAll) rfl) rfl hl.1 rfl (Nat.le_of_ble_eq_true rfl) dX6_reads_157 ⟨Nat.zero_le _, Nat.zero_le _⟩) hS (fun H locs hP hS => ?_)
        refine lv_if_eq (tgt := 260) hx hb dX6_reads_160 (by decide) (fun h_28 => ?_) (fun h_28 => ?_)
        · rw [if_pos h_28] at hm
          refine lv_aload_n hx hb dX6_reads_260 rfl (lv_at hl 1 rfl) ?_
          refine lv_iload_n hx hb dX6_reads_261 rfl (lv_at hl 0 rfl) ?_
          obtain ⟨r_30, hc_29, hm⟩ := bind_elim hm
          refine x_calli (x_runV (As := [.int r_17]) (rest := []) X hP hS (c_X6_isMarkSign l X.2.2 hc_29) (cwV 1 hts gX6_reads_X6_isMarkSign rfl rfl rfl (by decide +kernel) ⟨Nat.le_of_ble_eq_true rfl, Nat.le_of_ble_eq_true rfl⟩) (x_recv (C := RX6) (T := TX6) (N := 55) X hP (okc_148 hAll) rfl) rfl hl.1 rfl (Nat.le_of_ble_eq_true rfl) dX6_reads_262 ⟨Nat.zero_le _, Nat.zero_le _⟩) hS (fun H locs hP hS => ?_)
          refine lv_if_eq (tgt := 273) hx hb dX6_reads_265 (by decide) (fun h_31 => ?_) (fun h_31 => ?_)
          · rw [if_pos h_31] at hm
            cases hm
            exact x_vret X hP hS hr hlocks dX6_reads_273
          · rw [if_neg h_31] at hm
            refine lv_aload_n hx hb dX6_reads_268 rfl (lv_at hl 1 rfl) ?_
            refine lv_iconst (v := 4) hx hb dX6_reads_269 (by decide) ?_
            obtain ⟨M_32, hM_33, hm⟩ := bnd_elim hm
            refine xp_X6_23 X hP hAll uX6_reads_X6 mbX6_reads_3 hS hM_33 dX6_reads_270 (fun H locs hP hS => ?_)
            cases hm
            exact x_vret X hP hS hr hlocks dX6_reads_273
        · rw [if_neg h_28] at hm
          refine lv_aload_n hx hb dX6_reads_163 rfl (lv_at hl 1 rfl) ?_
          refine lv_iload_n hx hb dX6_reads_164 rfl (lv_at hl 0 rfl) ?_
          refine lv_bipush (v := 48) hx hb dX6_reads_165 (by decide) ?_
          refine lv_isub hx hb dX6_reads_167 ?_
          obtain ⟨M_34, hM_35, hm⟩ := bnd_elim hm
          refine xp_X6_24 X hP hAll uX6_reads_X6 mbX6_reads_4 hS hM_35 dX6_reads_168 (fun H locs hP hS => ?_)
          obtain ⟨M_50, hL_49, hm⟩ := bind_elim hm
          refine wl_X6_reads_171 X hAll ?_ hL_49 _ _ _ hP hS (lv_sub hl [1] rfl)
          · intro z_M_50 e_M_50 H locs ls hP hS hl
            subst e_M_50
            replace hm := un1_e hm
            refine lv_aload_n hx hb dX6_reads_239 rfl (lv_at hl 0 rfl) ?_
            refine xg_X6_21 X hP hAll uX6_reads_X6 mbX6_reads_1 dX6_reads_240 ?_
            refine lv_aload_n hx hb dX6_reads_243 rfl (lv_at hl 0 rfl) ?_
            refine xg_X6_22 X hP hAll uX6_reads_X6 mbX6_reads_2 dX6_reads_244 ?_
            refine lv_isub hx hb dX6_reads_247 ?_
            refine lv_iconst (v := 5) hx hb dX6_reads_248 (by decide) ?_
            refine lv_icmp_ge (tgt := 273) hx hb dX6_reads_249 (by decide) (fun h_51 => ?_) (fun h_51 => ?_)
            · rw [if_pos h_51] at hm
              cases hm
              exact x_vret X hP hS hr hlocks dX6_reads_273
            · rw [if_neg h_51] at hm
              refine lv_aload_n hx hb dX6_reads_252 rfl (lv_at hl 0 rfl) ?_
              refine lv_iconst (v := 3) hx hb dX6_reads_253 (by decide) ?_
              obtain ⟨M_52, hM_53, hm⟩ := bnd_elim hm
              refine xp_X6_23 X hP hAll uX6_reads_X6 mbX6_reads_3 hS hM_53 dX6_reads_254 (fun H locs hP hS => ?_)
              refine lv_goto (tgt := 273) hx hb dX6_reads_257 (by decide) ?_
              cases hm
              exact x_vret X hP hS hr hlocks dX6_reads_273
      · rw [if_neg h_25] at hm
        obtain ⟨M_63, hL_62, hm⟩ := bind_elim hm
        refine wl_X6_reads_95 X hAll ?_ hL_62 _ _ _ hP hS (lv_sub hl [1] rfl)
        · intro z_M_63 e_M_63 H locs ls hP hS hl
          subst e_M_63
          replace hm := un1_e hm
          refine lv_aload_n hx hb dX6_reads_123 rfl (lv_at hl 0 rfl) ?_
          refine lv_aload_n hx hb dX6_reads_124 rfl (lv_at hl 0 rfl) ?_
          refine lv_aload_n hx hb dX6_reads_125 rfl (lv_at hl 0 rfl) ?_
          refine xg_X6_22 X hP hAll uX6_reads_X6 mbX6_reads_2 dX6_reads_126 ?_
          refine lv_aload_n hx hb dX6_reads_129 rfl (lv_at hl 0 rfl) ?_
          refine xg_X6_21 X hP hAll uX6_reads_X6 mbX6_reads_1 dX6_reads_130 ?_
          obtain ⟨r_65, hc_64, hm⟩ := bind_elim hm
          refine x_calli (x_runV (As := [.int (rd M_63 148 22), .int (rd M_63 148 21)]) (rest := [.ref (ga g 148)]) X hP hS (c_X6_wordAt l X.2.2 hAll hc_64) (cwV 2 hts gX6_reads_X6_wordAt rfl rfl rfl (by decide +kernel) ⟨Nat.le_of_ble_eq_true rfl, Nat.le_of_ble_eq_true rfl⟩) (x_recv (C := RX6) (T := TX6) (N := 55) X hP (okc_148 hAll) rfl) rfl hl.1 rfl (Nat.le_of_ble_eq_true rfl) dX6_reads_133 ⟨Nat.zero_le _, Nat.zero_le _⟩) hS (fun H locs hP hS => ?_)
          obtain ⟨M_66, hM_67, hm⟩ := bnd_elim hm
          refine xp_X6_24 X hP hAll uX6_reads_X6 mbX6_reads_4 hS hM_67 dX6_reads_136 (fun H locs hP hS => ?_)
          refine lv_aload_n hx hb dX6_reads_139 rfl (lv_at hl 0 rfl) ?_
          refine xg_X6_24 X hP hAll uX6_reads_X6 mbX6_reads_4 dX6_reads_140 ?_
          refine lv_iconst (v := (-1)) hx hb dX6_reads_143 (by decide) ?_
          refine lv_icmp_eq (tgt := 273) hx hb dX6_reads_144 (by decide) (fun h_68 => ?_) (fun h_68 => ?_)
          · rw [if_pos h_68] at hm
            cases hm
            exact x_vret X hP hS hr hlocks dX6_reads_273
          · rw [if_neg h_68] at hm
            refine lv_aload_n hx hb dX6_reads_147 rfl (lv_at hl 0 rfl) ?_
            refine lv_iconst (v := 2) hx hb dX6_reads_148 (by decide) ?_
            obtain ⟨M_69, hM_70, hm⟩ := bnd_elim hm
            refine xp_X6_23 X hP hAll uX6_reads_X6 mbX6_reads_3 hS hM_70 dX6_reads_149 (fun H locs hP hS => ?_)
            refine lv_goto (tgt := 273) hx hb dX6_reads_152 (by decide) ?_
            cases hm
            exact x_vret X hP hS hr hlocks dX6_reads_273
    · rw [if_pos h_18] at hm
      refine lv_aload_n hx hb dX6_reads_66 rfl (lv_at hl 1 rfl) ?_
      refine lv_iconst (v := 0) hx hb dX6_reads_67 (by decide) ?_
      obtain ⟨M_71, hM_72, hm⟩ := bnd_elim hm
      refine xp_X6_23 X hP hAll uX6_reads_X6 mbX6_reads_3 hS hM_72 dX6_reads_68 (fun H locs hP hS => ?_)
      cases hm
      exact x_vret X hP hS hr hlocks dX6_reads_71


/-! X6_errs -/
def rmX6_errs : Room := { frames := 0, cells := 0, slots := 0, locals := 0 }
theorem uX6_errs_X6 : ∀ w ∈ wsX60, w ∈ wsX6_errs := by decide +kernel
theorem mbX6_errs_1 : Cond.fieldLink RX6 179 "FootANightModel" "readFault" "I" ∈ wsX6_errs := by decide +kernel
theorem mbX6_errs_2 : Cond.fieldLink RX6 158 "FootANightModel" "from" "I" ∈ wsX6_errs := by decide +kernel
theorem mbX6_errs_3 : Cond.fieldLink RX6 182 "FootANightModel" "readPlace" "I" ∈ wsX6_errs := by decide +kernel
set_option maxHeartbeats 4000000 in
set_option maxRecDepth 100000 in
theorem c_X6_errs (l : Launch) {g : GT} (hA : AxG g) (hAll : okAll g)   {M : Mem} {a1 : Int32} {rr : Int32} {MM : Mem} (hm : m_X6_errs M a1 = some (rr, MM)) : CI l yX6_errs wsX6_errs rmX6_errs g [.ref (ga g 148), .int a1] M rr MM := by
  refine Met.ofW (cc := cX6_errs) (maxL := 2) (ret := (some .int)) (by decide) rfl ?_
  intro p e s m args below meth c s₁ B hml hv
  obtain ⟨rfl, hSx, hP⟩ := hv
  have hr := B.returns
  have hlocks := B.notSynchronized
  have X : CxG g p s m _ c cX6_errs 2 RX6 wsX6_errs := ⟨⟨B.exec, B.bytes, hml, findClass_of_methodNamed B.named, atoms_spec (ws := wsX6_errs) B.pre⟩, hSx, hA⟩
  have hS : va_S (AbG g) s.heap s.heap [] := va_S.rf
  have hl := lv_entry (([.ref (ga g 148), .int a1] : List Value)) (n := 2) (Nat.le_of_ble_eq_true rfl)
  rw [lg_entry_eq]
  generalize (lg_sl (([.ref (ga g 148), .int a1] : List Value)) ++ List.replicate (2 - (lg_sl (([.ref (ga g 148), .int a1] : List Value))).length) Slot.unset).toArray = ls at hl ⊢
  have hl : lv_has ls 2 [(0, .ref (ga g 148)), (1, .int a1)] := hl
  obtain ⟨⟨hx, hb, hml, hown, hts⟩, -, -⟩ := id X
  unfold m_X6_errs at hm
  refine lv_aload_n hx hb dX6_errs_0 rfl (lv_at hl 0 rfl) ?_
  refine lv_iload_n hx hb dX6_errs_1 rfl (lv_at hl 1 rfl) ?_
  obtain ⟨M_1, hM_2, hm⟩ := bnd_elim hm
  refine xp_X6_36 X hP hAll uX6_errs_X6 mbX6_errs_1 hS hM_2 dX6_errs_2 (fun H locs hP hS => ?_)
  refine lv_aload_n hx hb dX6_errs_5 rfl (lv_at hl 0 rfl) ?_
  refine lv_aload_n hx hb dX6_errs_6 rfl (lv_at hl 0 rfl) ?_
  refine xg_X6_22 X hP hAll uX6_errs_X6 mbX6_errs_2 dX6_errs_7 ?_
  obtain ⟨M_3, hM_4, hm⟩ := bnd_elim hm
  refine xp_X6_37 X hP hAll uX6_errs_X6 mbX6_errs_3 hS hM_4 dX6_errs_10 (fun H locs hP hS => ?_)
  refine lv_iconst (v := (-1)) hx hb dX6_errs_13 (by decide) ?_
  cases hm
  exact x_iret X hP hS hr hlocks dX6_errs_14


/-! X6_isWord -/
def rmX6_isWord : Room := { frames := 0, cells := 0, slots := 0, locals := 0 }
theorem uX6_isWord_X6 : ∀ w ∈ wsX60, w ∈ wsX6_isWord := by decide +kernel
theorem mbX6_isWord_1 : Cond.fieldLink RX6 161 "FootANightModel" "token" "I" ∈ wsX6_isWord := by decide +kernel
theorem mbX6_isWord_2 : Cond.fieldLink RX6 164 "FootANightModel" "value" "I" ∈ wsX6_isWord := by decide +kernel
set_option maxHeartbeats 4000000 in
set_option maxRecDepth 100000 in
theorem c_X6_isWord (l : Launch) {g : GT} (hA : AxG g) (hAll : okAll g)   {M : Mem} {a1 : Int32} {rr : Int32} (hm : m_X6_isWord M a1 = some rr) : CI l yX6_isWord wsX6_isWord rmX6_isWord g [.ref (ga g 148), .int a1] M rr M := by
  refine Met.ofW (cc := cX6_isWord) (maxL := 2) (ret := (some .boolean)) (by decide) rfl ?_
  intro p e s m args below meth c s₁ B hml hv
  obtain ⟨rfl, hSx, hP⟩ := hv
  have hr := B.returns
  have hlocks := B.notSynchronized
  have X : CxG g p s m _ c cX6_isWord 2 RX6 wsX6_isWord := ⟨⟨B.exec, B.bytes, hml, findClass_of_methodNamed B.named, atoms_spec (ws := wsX6_isWord) B.pre⟩, hSx, hA⟩
  have hS : va_S (AbG g) s.heap s.heap [] := va_S.rf
  have hl := lv_entry (([.ref (ga g 148), .int a1] : List Value)) (n := 2) (Nat.le_of_ble_eq_true rfl)
  rw [lg_entry_eq]
  generalize (lg_sl (([.ref (ga g 148), .int a1] : List Value)) ++ List.replicate (2 - (lg_sl (([.ref (ga g 148), .int a1] : List Value))).length) Slot.unset).toArray = ls at hl ⊢
  have hl : lv_has ls 2 [(0, .ref (ga g 148)), (1, .int a1)] := hl
  obtain ⟨⟨hx, hb, hml, hown, hts⟩, -, -⟩ := id X
  unfold m_X6_isWord at hm
  refine lv_aload_n hx hb dX6_isWord_0 rfl (lv_at hl 0 rfl) ?_
  refine xg_X6_23 X hP hAll uX6_isWord_X6 mbX6_isWord_1 dX6_isWord_1 ?_
  refine lv_iconst (v := 2) hx hb dX6_isWord_4 (by decide) ?_
  refine lv_icmp_ne (tgt := 20) hx hb dX6_isWord_5 (by decide) (fun h_1 => ?_) (fun h_1 => ?_)
  · rw [if_neg h_1] at hm
    refine lv_iconst (v := 0) hx hb dX6_isWord_20 (by decide) ?_
    cases hm
    exact x_zret X (by decide) hP hS hr hlocks dX6_isWord_21
  · rw [if_pos h_1] at hm
    refine lv_aload_n hx hb dX6_isWord_8 rfl (lv_at hl 0 rfl) ?_
    refine xg_X6_24 X hP hAll uX6_isWord_X6 mbX6_isWord_2 dX6_isWord_9 ?_
    refine lv_iload_n hx hb dX6_isWord_12 rfl (lv_at hl 1 rfl) ?_
    refine lv_icmp_ne (tgt := 20) hx hb dX6_isWord_13 (by decide) (fun h_2 => ?_) (fun h_2 => ?_)
    · rw [if_neg h_2] at hm
      refine lv_iconst (v := 0) hx hb dX6_isWord_20 (by decide) ?_
      cases hm
      exact x_zret X (by decide) hP hS hr hlocks dX6_isWord_21
    · rw [if_pos h_2] at hm
      refine lv_iconst (v := 1) hx hb dX6_isWord_16 (by decide) ?_
      refine lv_goto (tgt := 21) hx hb dX6_isWord_17 (by decide) ?_
      cases hm
      exact x_zret X (by decide) hP hS hr hlocks dX6_isWord_21


/-! X6_isSign -/
def rmX6_isSign : Room := { frames := 0, cells := 0, slots := 0, locals := 0 }
theorem uX6_isSign_X6 : ∀ w ∈ wsX60, w ∈ wsX6_isSign := by decide +kernel
theorem mbX6_isSign_1 : Cond.fieldLink RX6 161 "FootANightModel" "token" "I" ∈ wsX6_isSign := by decide +kernel
theorem mbX6_isSign_2 : Cond.fieldLink RX6 164 "FootANightModel" "value" "I" ∈ wsX6_isSign := by decide +kernel
set_option maxHeartbeats 4000000 in
set_option maxRecDepth 100000 in
theorem c_X6_isSign (l : Launch) {g : GT} (hA : AxG g) (hAll : okAll g)   {M : Mem} {a1 : Int32} {rr : Int32} (hm : m_X6_isSign M a1 = some rr) : CI l yX6_isSign wsX6_isSign rmX6_isSign g [.ref (ga g 148), .int a1] M rr M := by
  refine Met.ofW (cc := cX6_isSign) (maxL := 2) (ret := (some .boolean)) (by decide) rfl ?_
  intro p e s m args below meth c s₁ B hml hv
  obtain ⟨rfl, hSx, hP⟩ := hv
  have hr := B.returns
  have hlocks := B.notSynchronized
  have X : CxG g p s m _ c cX6_isSign 2 RX6 wsX6_isSign := ⟨⟨B.exec, B.bytes, hml, findClass_of_methodNamed B.named, atoms_spec (ws := wsX6_isSign) B.pre⟩, hSx, hA⟩
  have hS : va_S (AbG g) s.heap s.heap [] := va_S.rf
  have hl := lv_entry (([.ref (ga g 148), .int a1] : List Value)) (n := 2) (Nat.le_of_ble_eq_true rfl)
  rw [lg_entry_eq]
  generalize (lg_sl (([.ref (ga g 148), .int a1] : List Value)) ++ List.replicate (2 - (lg_sl (([.ref (ga g 148), .int a1] : List Value))).length) Slot.unset).toArray = ls at hl ⊢
  have hl : lv_has ls 2 [(0, .ref (ga g 148)), (1, .int a1)] := hl
  obtain ⟨⟨hx, hb, hml, hown, hts⟩, -, -⟩ := id X
  unfold m_X6_isSign at hm
  refine lv_aload_n hx hb dX6_isSign_0 rfl (lv_at hl 0 rfl) ?_
  refine xg_X6_23 X hP hAll uX6_isSign_X6 mbX6_isSign_1 dX6_isSign_1 ?_
  refine lv_iconst (v := 4) hx hb dX6_isSign_4 (by decide) ?_
  refine lv_icmp_ne (tgt := 20) hx hb dX6_isSign_5 (by decide) (fun h_1 => ?_) (fun h_1 => ?_)
  · rw [if_neg h_1] at hm
    refine lv_iconst (v := 0) hx hb dX6_isSign_20 (by decide) ?_
    cases hm
    exact x_zret X (by decide) hP hS hr hlocks dX6_isSign_21
  · rw [if_pos h_1] at hm
    refine lv_aload_n hx hb dX6_isSign_8 rfl (lv_at hl 0 rfl) ?_
    refine xg_X6_24 X hP hAll uX6_isSign_X6 mbX6_isSign_2 dX6_isSign_9 ?_
    refine lv_iload_n hx hb dX6_isSign_12 rfl (lv_at hl 1 rfl) ?_
    refine lv_icmp_ne (tgt := 20) hx hb dX6_isSign_13 (by decide) (fun h_2 => ?_) (fun h_2 => ?_)
    · rw [if_neg h_2] at hm
      refine lv_iconst (v := 0) hx hb dX6_isSign_20 (by decide) ?_
      cases hm
      exact x_zret X (by decide) hP hS hr hlocks dX6_isSign_21
    · rw [if_pos h_2] at hm
      refine lv_iconst (v := 1) hx hb dX6_isSign_16 (by decide) ?_
      refine lv_goto (tgt := 21) hx hb dX6_isSign_17 (by decide) ?_
      cases hm
      exact x_zret X (by decide) hP hS hr hlocks dX6_isSign_21


/-! X6_emits -/
def rmX6_emits : Room := { frames := 0, cells := 0, slots := 0, locals := 0 }
theorem uX6_emits_X6 : ∀ w ∈ wsX60, w ∈ wsX6_emits := by decide +kernel
theorem mbX6_emits_1 : Cond.fieldLink RX6 74 "FootANightModel" "op" "[I" ∈ wsX6_emits := by decide +kernel
theorem mbX6_emits_2 : Cond.fieldLink RX6 185 "FootANightModel" "many" "I" ∈ wsX6_emits := by decide +kernel
theorem mbX6_emits_3 : Cond.fieldLink RX6 77 "FootANightModel" "arg" "[I" ∈ wsX6_emits := by decide +kernel
set_option maxHeartbeats 4000000 in
set_option maxRecDepth 100000 in
theorem c_X6_emits (l : Launch) {g : GT} (hA : AxG g) (hAll : okAll g)   {M : Mem} {a1 : Int32} {a2 : Int32} {MM : Mem} (hm : m_X6_emits M a1 a2 = some MM) : CV l yX6_emits wsX6_emits rmX6_emits g [.ref (ga g 148), .int a1, .int a2] M MM := by
  refine Met.ofW (cc := cX6_emits) (maxL := 3) (ret := none) (by decide) rfl ?_
  intro p e s m args below meth c s₁ B hml hv
  obtain ⟨rfl, hSx, hP⟩ := hv
  have hr := B.returns
  have hlocks := B.notSynchronized
  have X : CxG g p s m _ c cX6_emits 3 RX6 wsX6_emits := ⟨⟨B.exec, B.bytes, hml, findClass_of_methodNamed B.named, atoms_spec (ws := wsX6_emits) B.pre⟩, hSx, hA⟩
  have hS : va_S (AbG g) s.heap s.heap [] := va_S.rf
  have hl := lv_entry (([.ref (ga g 148), .int a1, .int a2] : List Value)) (n := 3) (Nat.le_of_ble_eq_true rfl)
  rw [lg_entry_eq]
  generalize (lg_sl (([.ref (ga g 148), .int a1, .int a2] : List Value)) ++ List.replicate (3 - (lg_sl (([.ref (ga g 148), .int a1, .int a2] : List Value))).length) Slot.unset).toArray = ls at hl ⊢
  have hl : lv_has ls 3 [(0, .ref (ga g 148)), (1, .int a1), (2, .int a2)] := hl
  obtain ⟨⟨hx, hb, hml, hown, hts⟩, -, -⟩ := id X
  unfold m_X6_emits at hm
  refine lv_aload_n hx hb dX6_emits_0 rfl (lv_at hl 0 rfl) ?_
  refine xg_X6_30 X hP hAll uX6_emits_X6 mbX6_emits_1 dX6_emits_1 ?_
  refine lv_sipush (v := 1600) hx hb dX6_emits_4 (by decide) ?_
  refine lv_aload_n hx hb dX6_emits_7 rfl (lv_at hl 0 rfl) ?_
  refine xg_X6_32 X hP hAll uX6_emits_X6 mbX6_emits_2 dX6_emits_8 ?_
  refine lv_iadd hx hb dX6_emits_11 ?_
  refine lv_iload_n hx hb dX6_emits_12 rfl (lv_at hl 1 rfl) ?_
  obtain ⟨hb_1, hm⟩ := chk_elim hm
  obtain ⟨M_2, hM_3, hm⟩ := bnd_elim hm
  refine x_iast X hP hS (okc_169 hAll) hM_3 hb_1 dX6_emits_13 (fun H locs hP hS => ?_)
  refine lv_aload_n hx hb dX6_emits_14 rfl (lv_at hl 0 rfl) ?_
  refine xg_X6_31 X hP hAll uX6_emits_X6 mbX6_emits_3 dX6_emits_15 ?_
  refine lv_sipush (v := 1600) hx hb dX6_emits_18 (by decide) ?_
  refine lv_aload_n hx hb dX6_emits_21 rfl (lv_at hl 0 rfl) ?_
  refine xg_X6_32 X hP hAll uX6_emits_X6 mbX6_emits_2 dX6_emits_22 ?_
  refine lv_iadd hx hb dX6_emits_25 ?_
  refine lv_iload_n hx hb dX6_emits_26 rfl (lv_at hl 2 rfl) ?_
  obtain ⟨hb_4, hm⟩ := chk_elim hm
  obtain ⟨M_5, hM_6, hm⟩ := bnd_elim hm
  refine x_iast X hP hS (okc_170 hAll) hM_6 hb_4 dX6_emits_27 (fun H locs hP hS => ?_)
  refine lv_aload_n hx hb dX6_emits_28 rfl (lv_at hl 0 rfl) ?_
  refine lv_aload_n hx hb dX6_emits_29 rfl (lv_at hl 0 rfl) ?_
  refine xg_X6_32 X hP hAll uX6_emits_X6 mbX6_emits_2 dX6_emits_30 ?_
  refine lv_iconst (v := 1) hx hb dX6_emits_33 (by decide) ?_
  refine lv_iadd hx hb dX6_emits_34 ?_
  obtain ⟨M_7, hM_8, hm⟩ := bnd_elim hm
  refine xp_X6_32 X hP hAll uX6_emits_X6 mbX6_emits_2 hS hM_8 dX6_emits_35 (fun H locs hP hS => ?_)
  cases hm
  exact x_vret X hP hS hr hlocks dX6_emits_38


/-! X6_readUnit -/
def rmX6_readUnit : Room := { frames := 3, cells := 0, slots := 0, locals := 65 }
theorem uX6_readUnit_X6 : ∀ w ∈ wsX60, w ∈ wsX6_readUnit := by decide +kernel
theorem mbX6_readUnit_1 : Cond.fieldLink RX6 161 "FootANightModel" "token" "I" ∈ wsX6_readUnit := by decide +kernel
theorem mbX6_readUnit_2 : Cond.fieldLink RX6 164 "FootANightModel" "value" "I" ∈ wsX6_readUnit := by decide +kernel
set_option maxHeartbeats 4000000 in
set_option maxRecDepth 100000 in
theorem wj_X6_readUnit_67 (X : CxG g p s m args c cX6_readUnit 2 RX6 wsX6_readUnit) (hAll : okAll g) {fu : Nat} {M : Mem} {t1 : Int32} {t2 : Int32} {rr : Int32} {MM : Mem} (hr : meth.sig.returnType = (some .int)) (hlocks : meth.locks = false) (hm : j_X6_readUnit_67 fu M t1 t2 = some (rr, MM)) {H : Heap} {locs : List Loc} {ls : Array Slot} (hP : va_P (gD g) vwCl (wlG g M) H) (hS : va_S (AbG g) s.heap H locs) (hl : lv_has ls 2 [(0, .ref (ga g 148))]) : W p l e (headSpec wsX6_readUnit rmX6_readUnit).room s m args below meth c H locs 0 0 (MQ below (va_Qi (fun (q : Int32) (_ : Unit) => q = rr) (fun _ t => va_P (gD g) vwCl (wlG g MM) t.heap) (AbG g)) args s 0 0 (AbG g)) (F0 m 67 ls [.int t2, .int t1, .ref (ga g 148)]) := by
  obtain ⟨⟨hx, hb, hml, hown, hts⟩, -, -⟩ := id X
  unfold j_X6_readUnit_67 at hm
  obtain ⟨M_6, hc_5, hm⟩ := bind_elim hm
  refine x_callv (x_runV (As := [.int t1, .int t2]) (rest := []) X hP hS (c_X6_emits l X.2.2 hAll hc_5) (cwV 2 hts gX6_readUnit_X6_emits rfl rfl rfl (by decide +kernel) ⟨Nat.le_of_ble_eq_true rfl, Nat.le_of_ble_eq_true rfl⟩) (x_recv (C := RX6) (T := TX6) (N := 55) X hP (okc_148 hAll) rfl) rfl hl.1 rfl (Nat.le_of_ble_eq_true rfl) dX6_readUnit_67 ⟨Nat.zero_le _, Nat.zero_le _⟩) hS (fun H locs hP hS => ?_)
  refine lv_aload_n hx hb dX6_readUnit_70 rfl (lv_at hl 0 rfl) ?_
  obtain ⟨M_8, hc_7, hm⟩ := bind_elim hm
  refine x_callv (x_runV (As := []) (rest := []) X hP hS (c_X6_reads l X.2.2 hAll hc_7) (cwV 0 hts gX6_readUnit_X6_reads rfl rfl rfl (by decide +kernel) ⟨Nat.le_of_ble_eq_true rfl, Nat.le_of_ble_eq_true rfl⟩) (x_recv (C := RX6) (T := TX6) (N := 55) X hP (okc_148 hAll) rfl) rfl hl.1 rfl (Nat.le_of_ble_eq_true rfl) dX6_readUnit_71 ⟨Nat.zero_le _, Nat.zero_le _⟩) hS (fun H locs hP hS => ?_)
  refine lv_iconst (v := 0) hx hb dX6_readUnit_74 (by decide) ?_
  cases hm
  exact x_iret X hP hS hr hlocks dX6_readUnit_75

set_option maxHeartbeats 4000000 in
set_option maxRecDepth 100000 in
theorem wj_X6_readUnit_50 (X : CxG g p s m args c cX6_readUnit 2 RX6 wsX6_readUnit) (hAll : okAll g) {fu : Nat} {M : Mem} {s1 : Int32} {t1 : Int32} {rr : Int32} {MM : Mem} (hr : meth.sig.returnType = (some .int)) (hlocks : meth.locks = false) (hm : j_X6_readUnit_50 fu M s1 t1 = some (rr, MM)) {H : Heap} {locs : List Loc} {ls : Array Slot} (hP : va_P (gD g) vwCl (wlG g M) H) (hS : va_S (AbG g) s.heap H locs) (hl : lv_has ls 2 [(0, .ref (ga g 148)), (1, .int s1)]) : W p l e (headSpec wsX6_readUnit rmX6_readUnit).room s m args below meth c H locs 0 0 (MQ below (va_Qi (fun (q : Int32) (_ : Unit) => q = rr) (fun _ t => va_P (gD g) vwCl (wlG g MM) t.heap) (AbG g)) args s 0 0 (AbG g)) (F0 m 50 ls [.int t1, .ref (ga g 148)]) := by
  obtain ⟨⟨hx, hb, hml, hown, hts⟩, -, -⟩ := id X
  unfold j_X6_readUnit_50 at hm
  refine lv_iload_n hx hb dX6_readUnit_50 rfl (lv_at hl 1 rfl) ?_
  refine lv_if_eq (tgt := 63) hx hb dX6_readUnit_51 (by decide) (fun h_4 => ?_) (fun h_4 => ?_)
  · rw [if_pos h_4] at hm
    refine lv_aload_n hx hb dX6_readUnit_63 rfl (lv_at hl 0 rfl) ?_
    refine xg_X6_24 X hP hAll uX6_readUnit_X6 mbX6_readUnit_2 dX6_readUnit_64 ?_
    exact wj_X6_readUnit_67 X hAll hr hlocks hm hP hS (lv_sub hl [0] rfl)
  · rw [if_neg h_4] at hm
    refine lv_aload_n hx hb dX6_readUnit_54 rfl (lv_at hl 0 rfl) ?_
    refine xg_X6_24 X hP hAll uX6_readUnit_X6 mbX6_readUnit_2 dX6_readUnit_55 ?_
    refine lv_iconst (v := 5) hx hb dX6_readUnit_58 (by decide) ?_
    refine lv_isub hx hb dX6_readUnit_59 ?_
    refine lv_goto (tgt := 67) hx hb dX6_readUnit_60 (by decide) ?_
    exact wj_X6_readUnit_67 X hAll hr hlocks hm hP hS (lv_sub hl [0] rfl)

set_option maxHeartbeats 4000000 in
set_option maxRecDepth 100000 in
theorem wj_X6_readUnit_40 (X : CxG g p s m args c cX6_readUnit 2 RX6 wsX6_readUnit) (hAll : okAll g) {fu : Nat} {M : Mem} {s1 : Int32} {rr : Int32} {MM : Mem} (hr : meth.sig.returnType = (some .int)) (hlocks : meth.locks = false) (hm : j_X6_readUnit_40 fu M s1 = some (rr, MM)) {H : Heap} {locs : List Loc} {ls : Array Slot} (hP : va_P (gD g) vwCl (wlG g M) H) (hS : va_S (AbG g) s.heap H locs) (hl : lv_has ls 2 [(0, .ref (ga g 148)), (1, .int s1)]) : W p l e (headSpec wsX6_readUnit rmX6_readUnit).room s m args below meth c H locs 0 0 (MQ below (va_Qi (fun (q : Int32) (_ : Unit) => q = rr) (fun _ t => va_P (gD g) vwCl (wlG g MM) t.heap) (AbG g)) args s 0 0 (AbG g)) (F0 m 40 ls []) := by
  obtain ⟨⟨hx, hb, hml, hown, hts⟩, -, -⟩ := id X
  unfold j_X6_readUnit_40 at hm
  refine lv_aload_n hx hb dX6_readUnit_40 rfl (lv_at hl 0 rfl) ?_
  refine lv_iload_n hx hb dX6_readUnit_41 rfl (lv_at hl 1 rfl) ?_
  refine lv_if_eq (tgt := 49) hx hb dX6_readUnit_42 (by decide) (fun h_3 => ?_) (fun h_3 => ?_)
  · rw [if_pos h_3] at hm
    refine lv_iconst (v := 0) hx hb dX6_readUnit_49 (by decide) ?_
    exact wj_X6_readUnit_50 X hAll hr hlocks hm hP hS (lv_sub hl [0, 1] rfl)
  · rw [if_neg h_3] at hm
    refine lv_iconst (v := 1) hx hb dX6_readUnit_45 (by decide) ?_
    refine lv_goto (tgt := 50) hx hb dX6_readUnit_46 (by decide) ?_
    exact wj_X6_readUnit_50 X hAll hr hlocks hm hP hS (lv_sub hl [0, 1] rfl)

set_option maxHeartbeats 4000000 in
set_option maxRecDepth 100000 in
theorem wj_X6_readUnit_21 (X : CxG g p s m args c cX6_readUnit 2 RX6 wsX6_readUnit) (hAll : okAll g) {fu : Nat} {M : Mem} {t0 : Int32} {rr : Int32} {MM : Mem} (hr : meth.sig.returnType = (some .int)) (hlocks : meth.locks = false) (hm : j_X6_readUnit_21 fu M t0 = some (rr, MM)) {H : Heap} {locs : List Loc} {ls : Array Slot} (hP : va_P (gD g) vwCl (wlG g M) H) (hS : va_S (AbG g) s.heap H locs) (hl : lv_has ls 2 [(0, .ref (ga g 148))]) : W p l e (headSpec wsX6_readUnit rmX6_readUnit).room s m args below meth c H locs 0 0 (MQ below (va_Qi (fun (q : Int32) (_ : Unit) => q = rr) (fun _ t => va_P (gD g) vwCl (wlG g MM) t.heap) (AbG g)) args s 0 0 (AbG g)) (F0 m 21 ls [.int t0]) := by
  obtain ⟨⟨hx, hb, hml, hown, hts⟩, -, -⟩ := id X
  unfold j_X6_readUnit_21 at hm
  refine lv_istore_n (lv' := [(1, .int t0), (0, .ref (ga g 148))]) hx hb dX6_readUnit_21 rfl hl (by decide) rfl (fun ls hl => ?_)
  refine lv_iload_n hx hb dX6_readUnit_22 rfl (lv_at hl 0 rfl) ?_
  refine lv_if_ne (tgt := 40) hx hb dX6_readUnit_23 (by decide) (fun h_2 => ?_) (fun h_2 => ?_)
  · rw [if_neg h_2] at hm
    exact wj_X6_readUnit_40 X hAll hr hlocks hm hP hS (lv_sub hl [1, 0] rfl)
  · rw [if_pos h_2] at hm
    refine lv_aload_n hx hb dX6_readUnit_26 rfl (lv_at hl 1 rfl) ?_
    refine xg_X6_23 X hP hAll uX6_readUnit_X6 mbX6_readUnit_1 dX6_readUnit_27 ?_
    refine lv_iconst (v := 3) hx hb dX6_readUnit_30 (by decide) ?_
    refine lv_icmp_eq (tgt := 40) hx hb dX6_readUnit_31 (by decide) (fun h_9 => ?_) (fun h_9 => ?_)
    · rw [if_pos h_9] at hm
      exact wj_X6_readUnit_40 X hAll hr hlocks hm hP hS (lv_sub hl [1, 0] rfl)
    · rw [if_neg h_9] at hm
      refine lv_aload_n hx hb dX6_readUnit_34 rfl (lv_at hl 1 rfl) ?_
      refine lv_iconst (v := 1) hx hb dX6_readUnit_35 (by decide) ?_
      obtain ⟨⟨r_11, M_12⟩, hc_10, hm⟩ := bind_elim hm
      replace hm := un2_e hm
      refine x_calli (x_runV (As := [.int 1]) (rest := []) X hP hS (c_X6_errs l X.2.2 hAll hc_10) (cwV 1 hts gX6_readUnit_X6_errs rfl rfl rfl (by decide +kernel) ⟨Nat.le_of_ble_eq_true rfl, Nat.le_of_ble_eq_true rfl⟩) (x_recv (C := RX6) (T := TX6) (N := 55) X hP (okc_148 hAll) rfl) rfl hl.1 rfl (Nat.le_of_ble_eq_true rfl) dX6_readUnit_36 ⟨Nat.zero_le _, Nat.zero_le _⟩) hS (fun H locs hP hS => ?_)
      cases hm
      exact x_iret X hP hS hr hlocks dX6_readUnit_39

set_option maxHeartbeats 4000000 in
set_option maxRecDepth 100000 in
theorem wj_X6_readUnit_20 (X : CxG g p s m args c cX6_readUnit 2 RX6 wsX6_readUnit) (hAll : okAll g) {fu : Nat} {M : Mem} {rr : Int32} {MM : Mem} (hr : meth.sig.returnType = (some .int)) (hlocks : meth.locks = false) (hm : j_X6_readUnit_20 fu M = some (rr, MM)) {H : Heap} {locs : List Loc} {ls : Array Slot} (hP : va_P (gD g) vwCl (wlG g M) H) (hS : va_S (AbG g) s.heap H locs) (hl : lv_has ls 2 [(0, .ref (ga g 148))]) : W p l e (headSpec wsX6_readUnit rmX6_readUnit).room s m args below meth c H locs 0 0 (MQ below (va_Qi (fun (q : Int32) (_ : Unit) => q = rr) (fun _ t => va_P (gD g) vwCl (wlG g MM) t.heap) (AbG g)) args s 0 0 (AbG g)) (F0 m 20 ls []) := by
  obtain ⟨⟨hx, hb, hml, hown, hts⟩, -, -⟩ := id X
  unfold j_X6_readUnit_20 at hm
  refine lv_iconst (v := 0) hx hb dX6_readUnit_20 (by decide) ?_
  exact wj_X6_readUnit_21 X hAll hr hlocks hm hP hS (lv_sub hl [0] rfl)

set_option maxHeartbeats 4000000 in
set_option maxRecDepth 100000 in
theorem c_X6_readUnit (l : Launch) {g : GT} (hA : AxG g) (hAll : okAll g)   {fu : Nat} {M : Mem} {rr : Int32} {MM : Mem} (hm : m_X6_readUnit fu M = some (rr, MM)) : CI l yX6_readUnit wsX6_readUnit rmX6_readUnit g [.ref (ga g 148)] M rr MM := by
  refine Met.ofW (cc := cX6_readUnit) (maxL := 2) (ret := (some .int)) (by decide) rfl ?_
  intro p e s m args below meth c s₁ B hml hv
  obtain ⟨rfl, hSx, hP⟩ := hv
  have hr := B.returns
  have hlocks := B.notSynchronized
  have X : CxG g p s m _ c cX6_readUnit 2 RX6 wsX6_readUnit := ⟨⟨B.exec, B.bytes, hml, findClass_of_methodNamed B.named, atoms_spec (ws := wsX6_readUnit) B.pre⟩, hSx, hA⟩
  have hS : va_S (AbG g) s.heap s.heap [] := va_S.rf
  have hl := lv_entry (([.ref (ga g 148)] : List Value)) (n := 2) (Nat.le_of_ble_eq_true rfl)
  rw [lg_entry_eq]
  generalize (lg_sl (([.ref (ga g 148)] : List Value)) ++ List.replicate (2 - (lg_sl (([.ref (ga g 148)] : List Value))).length) Slot.unset).toArray = ls at hl ⊢
  have hl : lv_has ls 2 [(0, .ref (ga g 148))] := hl
  obtain ⟨⟨hx, hb, hml, hown, hts⟩, -, -⟩ := id X
  unfold m_X6_readUnit at hm
  refine lv_aload_n hx hb dX6_readUnit_0 rfl (lv_at hl 0 rfl) ?_
  refine xg_X6_23 X hP hAll uX6_readUnit_X6 mbX6_readUnit_1 dX6_readUnit_1 ?_
  refine lv_iconst (v := 2) hx hb dX6_readUnit_4 (by decide) ?_
  refine lv_icmp_ne (tgt := 20) hx hb dX6_readUnit_5 (by decide) (fun h_1 => ?_) (fun h_1 => ?_)
  · rw [if_neg h_1] at hm
    exact wj_X6_readUnit_20 X hAll hr hlocks hm hP hS (lv_sub hl [0] rfl)
  · rw [if_pos h_1] at hm
    refine lv_aload_n hx hb dX6_readUnit_8 rfl (lv_at hl 0 rfl) ?_
    refine xg_X6_24 X hP hAll uX6_readUnit_X6 mbX6_readUnit_2 dX6_readUnit_9 ?_
    refine lv_iconst (v := 5) hx hb dX6_readUnit_12 (by decide) ?_
    refine lv_icmp_lt (tgt := 20) hx hb dX6_readUnit_13 (by decide) (fun h_13 => ?_) (fun h_13 => ?_)
    · rw [if_pos h_13] at hm
      exact wj_X6_readUnit_20 X hAll hr hlocks hm hP hS (lv_sub hl [0] rfl)
    · rw [if_neg h_13] at hm
      refine lv_iconst (v := 1) hx hb dX6_readUnit_16 (by decide) ?_
      refine lv_goto (tgt := 21) hx hb dX6_readUnit_17 (by decide) ?_
      exact wj_X6_readUnit_21 X hAll hr hlocks hm hP hS (lv_sub hl [0] rfl)


/-! X6_readProduct -/
def rmX6_readProduct : Room := { frames := 4, cells := 0, slots := 0, locals := 86 }
theorem uX6_readProduct_X6 : ∀ w ∈ wsX60, w ∈ wsX6_readProduct := by decide +kernel
theorem mbX6_readProduct_1 : Cond.fieldLink RX6 164 "FootANightModel" "value" "I" ∈ wsX6_readProduct := by decide +kernel
theorem mbX6_readProduct_2 : Cond.fieldLink RX6 161 "FootANightModel" "token" "I" ∈ wsX6_readProduct := by decide +kernel
set_option maxHeartbeats 4000000 in
set_option maxRecDepth 100000 in
theorem wj_X6_readProduct_94i (X : CxG g p s m args c cX6_readProduct 2 RX6 wsX6_readProduct) (hAll : okAll g) {fu : Nat} {M : Mem} {t1 : Int32} {o : (Mem) ⊕ ((Mem) ⊕ ((Mem) ⊕ ((Mem) ⊕ (Mem))))} (kb : ∀ (M2 : Mem) , o = .inl M2 → ∀ (H : Heap) (locs : List Loc) (ls : Array Slot), va_P (gD g) vwCl (wlG g M2) H → va_S (AbG g) s.heap H locs → lv_has ls 2 [(0, .ref (ga g 148))] → W p l e (headSpec wsX6_readProduct rmX6_readProduct).room s m args below meth c H locs 0 0 Q (F0 m 10 ls [])) (kx0 : ∀ (M2 : Mem) , o = .inr (.inl M2) → ∀ (H : Heap) (locs : List Loc) (ls : Array Slot), va_P (gD g) vwCl (wlG g M2) H → va_S (AbG g) s.heap H locs → lv_has ls 2 [(0, .ref (ga g 148))] → W p l e (headSpec wsX6_readProduct rmX6_readProduct).room s m args below meth c H locs 0 0 Q (F0 m 51 ls [])) (kx1 : ∀ (M2 : Mem) , o = .inr (.inr (.inl M2)) → ∀ (H : Heap) (locs : List Loc) (ls : Array Slot), va_P (gD g) vwCl (wlG g M2) H → va_S (AbG g) s.heap H locs → lv_has ls 2 [(0, .ref (ga g 148))] → W p l e (headSpec wsX6_readProduct rmX6_readProduct).room s m args below meth c H locs 0 0 Q (F0 m 68 ls [])) (kx2 : ∀ (M2 : Mem) , o = .inr (.inr (.inr (.inl M2))) → ∀ (H : Heap) (locs : List Loc) (ls : Array Slot), va_P (gD g) vwCl (wlG g M2) H → va_S (AbG g) s.heap H locs → lv_has ls 2 [] → W p l e (headSpec wsX6_readProduct rmX6_readProduct).room s m args below meth c H locs 0 0 Q (F0 m 82 ls [])) (kx3 : ∀ (M2 : Mem) , o = .inr (.inr (.inr (.inr M2))) → ∀ (H : Heap) (locs : List Loc) (ls : Array Slot), va_P (gD g) vwCl (wlG g M2) H → va_S (AbG g) s.heap H locs → lv_has ls 2 [] → W p l e (headSpec wsX6_readProduct rmX6_readProduct).room s m args below meth c H locs 0 0 Q (F0 m 101 ls [])) (hm : j_X6_readProduct_94i fu M t1 = some o) {H : Heap} {locs : List Loc} {ls : Array Slot} (hP : va_P (gD g) vwCl (wlG g M) H) (hS : va_S (AbG g) s.heap H locs) (hl : lv_has ls 2 [(0, .ref (ga g 148))]) : W p l e (headSpec wsX6_readProduct rmX6_readProduct).room s m args below meth c H locs 0 0 Q (F0 m 94 ls [.int t1, .ref (ga g 148)]) := by
  obtain ⟨⟨hx, hb, hml, hown, hts⟩, -, -⟩ := id X
  unfold j_X6_readProduct_94i at hm
  refine lv_iconst (v := 0) hx hb dX6_readProduct_94 (by decide) ?_
  obtain ⟨M_20, hc_19, hm⟩ := bind_elim hm
  refine x_callv (x_runV (As := [.int t1, .int 0]) (rest := []) X hP hS (c_X6_emits l X.2.2 hAll hc_19) (cwV 2 hts gX6_readProduct_X6_emits rfl rfl rfl (by decide +kernel) ⟨Nat.le_of_ble_eq_true rfl, Nat.le_of_ble_eq_true rfl⟩) (x_recv (C := RX6) (T := TX6) (N := 55) X hP (okc_148 hAll) rfl) rfl hl.1 rfl (Nat.le_of_ble_eq_true rfl) dX6_readProduct_95 ⟨Nat.zero_le _, Nat.zero_le _⟩) hS (fun H locs hP hS => ?_)
  refine lv_goto (tgt := 10) hx hb dX6_readProduct_98 (by decide) ?_
  exact kb M_20 (Option.some.inj hm).symm _ _ _ hP hS (lv_sub hl [0] rfl)

set_option maxHeartbeats 4000000 in
set_option maxRecDepth 100000 in
theorem wj_X6_readProduct_74i (X : CxG g p s m args c cX6_readProduct 2 RX6 wsX6_readProduct) (hAll : okAll g) {fu : Nat} {M : Mem} {s1 : Int32} {o : (Mem) ⊕ ((Mem) ⊕ ((Mem) ⊕ ((Mem) ⊕ (Mem))))} (kb : ∀ (M2 : Mem) , o = .inl M2 → ∀ (H : Heap) (locs : List Loc) (ls : Array Slot), va_P (gD g) vwCl (wlG g M2) H → va_S (AbG g) s.heap H locs → lv_has ls 2 [(0, .ref (ga g 148))] → W p l e (headSpec wsX6_readProduct rmX6_readProduct).room s m args below meth c H locs 0 0 Q (F0 m 10 ls [])) (kx0 : ∀ (M2 : Mem) , o = .inr (.inl M2) → ∀ (H : Heap) (locs : List Loc) (ls : Array Slot), va_P (gD g) vwCl (wlG g M2) H → va_S (AbG g) s.heap H locs → lv_has ls 2 [(0, .ref (ga g 148))] → W p l e (headSpec wsX6_readProduct rmX6_readProduct).room s m args below meth c H locs 0 0 Q (F0 m 51 ls [])) (kx1 : ∀ (M2 : Mem) , o = .inr (.inr (.inl M2)) → ∀ (H : Heap) (locs : List Loc) (ls : Array Slot), va_P (gD g) vwCl (wlG g M2) H → va_S (AbG g) s.heap H locs → lv_has ls 2 [(0, .ref (ga g 148))] → W p l e (headSpec wsX6_readProduct rmX6_readProduct).room s m args below meth c H locs 0 0 Q (F0 m 68 ls [])) (kx2 : ∀ (M2 : Mem) , o = .inr (.inr (.inr (.inl M2))) → ∀ (H : Heap) (locs : List Loc) (ls : Array Slot), va_P (gD g) vwCl (wlG g M2) H → va_S (AbG g) s.heap H locs → lv_has ls 2 [] → W p l e (headSpec wsX6_readProduct rmX6_readProduct).room s m args below meth c H locs 0 0 Q (F0 m 82 ls [])) (kx3 : ∀ (M2 : Mem) , o = .inr (.inr (.inr (.inr M2))) → ∀ (H : Heap) (locs : List Loc) (ls : Array Slot), va_P (gD g) vwCl (wlG g M2) H → va_S (AbG g) s.heap H locs → lv_has ls 2 [] → W p l e (headSpec wsX6_readProduct rmX6_readProduct).room s m args below meth c H locs 0 0 Q (F0 m 101 ls [])) (hm : j_X6_readProduct_74i fu M s1 = some o) {H : Heap} {locs : List Loc} {ls : Array Slot} (hP : va_P (gD g) vwCl (wlG g M) H) (hS : va_S (AbG g) s.heap H locs) (hl : lv_has ls 2 [(0, .ref (ga g 148)), (1, .int s1)]) : W p l e (headSpec wsX6_readProduct rmX6_readProduct).room s m args below meth c H locs 0 0 Q (F0 m 74 ls []) := by
  obtain ⟨⟨hx, hb, hml, hown, hts⟩, -, -⟩ := id X
  unfold j_X6_readProduct_74i at hm
  refine lv_aload_n hx hb dX6_readProduct_74 rfl (lv_at hl 0 rfl) ?_
  obtain ⟨⟨r_15, M_16⟩, hc_14, hm⟩ := bind_elim hm
  replace hm := un2_e hm
  refine x_calli (x_runV (As := []) (rest := []) X hP hS (c_X6_readUnit l X.2.2 hAll hc_14) (cwV 0 hts gX6_readProduct_X6_readUnit rfl rfl rfl (by decide +kernel) ⟨Nat.le_of_ble_eq_true rfl, Nat.le_of_ble_eq_true rfl⟩) (x_recv (C := RX6) (T := TX6) (N := 55) X hP (okc_148 hAll) rfl) rfl hl.1 rfl (Nat.le_of_ble_eq_true rfl) dX6_readProduct_75 ⟨Nat.zero_le _, Nat.zero_le _⟩) hS (fun H locs hP hS => ?_)
  refine lv_iconst (v := (-1)) hx hb dX6_readProduct_78 (by decide) ?_
  refine lv_icmp_ne (tgt := 84) hx hb dX6_readProduct_79 (by decide) (fun h_17 => ?_) (fun h_17 => ?_)
  · rw [if_neg h_17] at hm
    refine lv_aload_n hx hb dX6_readProduct_84 rfl (lv_at hl 0 rfl) ?_
    refine lv_iload_n hx hb dX6_readProduct_85 rfl (lv_at hl 1 rfl) ?_
    refine lv_if_eq (tgt := 93) hx hb dX6_readProduct_86 (by decide) (fun h_18 => ?_) (fun h_18 => ?_)
    · rw [if_pos h_18] at hm
      refine lv_iconst (v := 5) hx hb dX6_readProduct_93 (by decide) ?_
      exact wj_X6_readProduct_94i X hAll kb kx0 kx1 kx2 kx3 hm hP hS (lv_sub hl [0] rfl)
    · rw [if_neg h_18] at hm
      refine lv_iconst (v := 4) hx hb dX6_readProduct_89 (by decide) ?_
      refine lv_goto (tgt := 94) hx hb dX6_readProduct_90 (by decide) ?_
      exact wj_X6_readProduct_94i X hAll kb kx0 kx1 kx2 kx3 hm hP hS (lv_sub hl [0] rfl)
  · rw [if_pos h_17] at hm
    exact kx2 M_16 (Option.some.inj hm).symm _ _ _ hP hS (lv_sub hl [] rfl)

set_option maxHeartbeats 4000000 in
set_option maxRecDepth 100000 in
theorem wj_X6_readProduct_57i (X : CxG g p s m args c cX6_readProduct 2 RX6 wsX6_readProduct) (hAll : okAll g) {fu : Nat} {M : Mem} {s1 : Int32} {o : (Mem) ⊕ ((Mem) ⊕ ((Mem) ⊕ ((Mem) ⊕ (Mem))))} (kb : ∀ (M2 : Mem) , o = .inl M2 → ∀ (H : Heap) (locs : List Loc) (ls : Array Slot), va_P (gD g) vwCl (wlG g M2) H → va_S (AbG g) s.heap H locs → lv_has ls 2 [(0, .ref (ga g 148))] → W p l e (headSpec wsX6_readProduct rmX6_readProduct).room s m args below meth c H locs 0 0 Q (F0 m 10 ls [])) (kx0 : ∀ (M2 : Mem) , o = .inr (.inl M2) → ∀ (H : Heap) (locs : List Loc) (ls : Array Slot), va_P (gD g) vwCl (wlG g M2) H → va_S (AbG g) s.heap H locs → lv_has ls 2 [(0, .ref (ga g 148))] → W p l e (headSpec wsX6_readProduct rmX6_readProduct).room s m args below meth c H locs 0 0 Q (F0 m 51 ls [])) (kx1 : ∀ (M2 : Mem) , o = .inr (.inr (.inl M2)) → ∀ (H : Heap) (locs : List Loc) (ls : Array Slot), va_P (gD g) vwCl (wlG g M2) H → va_S (AbG g) s.heap H locs → lv_has ls 2 [(0, .ref (ga g 148))] → W p l e (headSpec wsX6_readProduct rmX6_readProduct).room s m args below meth c H locs 0 0 Q (F0 m 68 ls [])) (kx2 : ∀ (M2 : Mem) , o = .inr (.inr (.inr (.inl M2))) → ∀ (H : Heap) (locs : List Loc) (ls : Array Slot), va_P (gD g) vwCl (wlG g M2) H → va_S (AbG g) s.heap H locs → lv_has ls 2 [] → W p l e (headSpec wsX6_readProduct rmX6_readProduct).room s m args below meth c H locs 0 0 Q (F0 m 82 ls [])) (kx3 : ∀ (M2 : Mem) , o = .inr (.inr (.inr (.inr M2))) → ∀ (H : Heap) (locs : List Loc) (ls : Array Slot), va_P (gD g) vwCl (wlG g M2) H → va_S (AbG g) s.heap H locs → lv_has ls 2 [] → W p l e (headSpec wsX6_readProduct rmX6_readProduct).room s m args below meth c H locs 0 0 Q (F0 m 101 ls [])) (hm : j_X6_readProduct_57i fu M s1 = some o) {H : Heap} {locs : List Loc} {ls : Array Slot} (hP : va_P (gD g) vwCl (wlG g M) H) (hS : va_S (AbG g) s.heap H locs) (hl : lv_has ls 2 [(0, .ref (ga g 148)), (1, .int s1)]) : W p l e (headSpec wsX6_readProduct rmX6_readProduct).room s m args below meth c H locs 0 0 Q (F0 m 57 ls []) := by
  obtain ⟨⟨hx, hb, hml, hown, hts⟩, -, -⟩ := id X
  unfold j_X6_readProduct_57i at hm
  refine lv_iload_n hx hb dX6_readProduct_57 rfl (lv_at hl 1 rfl) ?_
  refine lv_if_ne (tgt := 74) hx hb dX6_readProduct_58 (by decide) (fun h_13 => ?_) (fun h_13 => ?_)
  · rw [if_neg h_13] at hm
    exact wj_X6_readProduct_74i X hAll kb kx0 kx1 kx2 kx3 hm hP hS (lv_sub hl [0, 1] rfl)
  · rw [if_pos h_13] at hm
    refine lv_aload_n hx hb dX6_readProduct_61 rfl (lv_at hl 0 rfl) ?_
    refine xg_X6_24 X hP hAll uX6_readProduct_X6 mbX6_readProduct_1 dX6_readProduct_62 ?_
    refine lv_if_ne (tgt := 74) hx hb dX6_readProduct_65 (by decide) (fun h_21 => ?_) (fun h_21 => ?_)
    · rw [if_neg h_21] at hm
      exact wj_X6_readProduct_74i X hAll kb kx0 kx1 kx2 kx3 hm hP hS (lv_sub hl [0, 1] rfl)
    · rw [if_pos h_21] at hm
      exact kx1 M (Option.some.inj hm).symm _ _ _ hP hS (lv_sub hl [0] rfl)

set_option maxHeartbeats 4000000 in
set_option maxRecDepth 100000 in
theorem wj_X6_readProduct_28i (X : CxG g p s m args c cX6_readProduct 2 RX6 wsX6_readProduct) (hAll : okAll g) {fu : Nat} {M : Mem} {o : (Mem) ⊕ ((Mem) ⊕ ((Mem) ⊕ ((Mem) ⊕ (Mem))))} (kb : ∀ (M2 : Mem) , o = .inl M2 → ∀ (H : Heap) (locs : List Loc) (ls : Array Slot), va_P (gD g) vwCl (wlG g M2) H → va_S (AbG g) s.heap H locs → lv_has ls 2 [(0, .ref (ga g 148))] → W p l e (headSpec wsX6_readProduct rmX6_readProduct).room s m args below meth c H locs 0 0 Q (F0 m 10 ls [])) (kx0 : ∀ (M2 : Mem) , o = .inr (.inl M2) → ∀ (H : Heap) (locs : List Loc) (ls : Array Slot), va_P (gD g) vwCl (wlG g M2) H → va_S (AbG g) s.heap H locs → lv_has ls 2 [(0, .ref (ga g 148))] → W p l e (headSpec wsX6_readProduct rmX6_readProduct).room s m args below meth c H locs 0 0 Q (F0 m 51 ls [])) (kx1 : ∀ (M2 : Mem) , o = .inr (.inr (.inl M2)) → ∀ (H : Heap) (locs : List Loc) (ls : Array Slot), va_P (gD g) vwCl (wlG g M2) H → va_S (AbG g) s.heap H locs → lv_has ls 2 [(0, .ref (ga g 148))] → W p l e (headSpec wsX6_readProduct rmX6_readProduct).room s m args below meth c H locs 0 0 Q (F0 m 68 ls [])) (kx2 : ∀ (M2 : Mem) , o = .inr (.inr (.inr (.inl M2))) → ∀ (H : Heap) (locs : List Loc) (ls : Array Slot), va_P (gD g) vwCl (wlG g M2) H → va_S (AbG g) s.heap H locs → lv_has ls 2 [] → W p l e (headSpec wsX6_readProduct rmX6_readProduct).room s m args below meth c H locs 0 0 Q (F0 m 82 ls [])) (kx3 : ∀ (M2 : Mem) , o = .inr (.inr (.inr (.inr M2))) → ∀ (H : Heap) (locs : List Loc) (ls : Array Slot), va_P (gD g) vwCl (wlG g M2) H → va_S (AbG g) s.heap H locs → lv_has ls 2 [] → W p l e (headSpec wsX6_readProduct rmX6_readProduct).room s m args below meth c H locs 0 0 Q (F0 m 101 ls [])) (hm : j_X6_readProduct_28i fu M = some o) {H : Heap} {locs : List Loc} {ls : Array Slot} (hP : va_P (gD g) vwCl (wlG g M) H) (hS : va_S (AbG g) s.heap H locs) (hl : lv_has ls 2 [(0, .ref (ga g 148))]) : W p l e (headSpec wsX6_readProduct rmX6_readProduct).room s m args below meth c H locs 0 0 Q (F0 m 28 ls []) := by
  obtain ⟨⟨hx, hb, hml, hown, hts⟩, -, -⟩ := id X
  unfold j_X6_readProduct_28i at hm
  refine lv_aload_n hx hb dX6_readProduct_28 rfl (lv_at hl 0 rfl) ?_
  refine lv_bipush (v := 42) hx hb dX6_readProduct_29 (by decide) ?_
  obtain ⟨r_9, hc_8, hm⟩ := bind_elim hm
  refine x_calli (x_runV (As := [.int 42]) (rest := []) X hP hS (c_X6_isSign l X.2.2 hAll hc_8) (cwV 1 hts gX6_readProduct_X6_isSign rfl rfl rfl (by decide +kernel) ⟨Nat.le_of_ble_eq_true rfl, Nat.le_of_ble_eq_true rfl⟩) (x_recv (C := RX6) (T := TX6) (N := 55) X hP (okc_148 hAll) rfl) rfl hl.1 rfl (Nat.le_of_ble_eq_true rfl) dX6_readProduct_31 ⟨Nat.zero_le _, Nat.zero_le _⟩) hS (fun H locs hP hS => ?_)
  refine lv_istore_n (lv' := [(1, .int r_9), (0, .ref (ga g 148))]) hx hb dX6_readProduct_34 rfl hl (by decide) rfl (fun ls hl => ?_)
  refine lv_aload_n hx hb dX6_readProduct_35 rfl (lv_at hl 1 rfl) ?_
  obtain ⟨M_11, hc_10, hm⟩ := bind_elim hm
  refine x_callv (x_runV (As := []) (rest := []) X hP hS (c_X6_reads l X.2.2 hAll hc_10) (cwV 0 hts gX6_readProduct_X6_reads rfl rfl rfl (by decide +kernel) ⟨Nat.le_of_ble_eq_true rfl, Nat.le_of_ble_eq_true rfl⟩) (x_recv (C := RX6) (T := TX6) (N := 55) X hP (okc_148 hAll) rfl) rfl hl.1 rfl (Nat.le_of_ble_eq_true rfl) dX6_readProduct_36 ⟨Nat.zero_le _, Nat.zero_le _⟩) hS (fun H locs hP hS => ?_)
  refine lv_iload_n hx hb dX6_readProduct_39 rfl (lv_at hl 0 rfl) ?_
  refine lv_if_ne (tgt := 57) hx hb dX6_readProduct_40 (by decide) (fun h_12 => ?_) (fun h_12 => ?_)
  · rw [if_neg h_12] at hm
    exact wj_X6_readProduct_57i X hAll kb kx0 kx1 kx2 kx3 hm hP hS (lv_sub hl [1, 0] rfl)
  · rw [if_pos h_12] at hm
    refine lv_aload_n hx hb dX6_readProduct_43 rfl (lv_at hl 1 rfl) ?_
    refine xg_X6_23 X hP hAll uX6_readProduct_X6 mbX6_readProduct_2 dX6_readProduct_44 ?_
    refine lv_iconst (v := 3) hx hb dX6_readProduct_47 (by decide) ?_
    refine lv_icmp_eq (tgt := 57) hx hb dX6_readProduct_48 (by decide) (fun h_22 => ?_) (fun h_22 => ?_)
    · rw [if_pos h_22] at hm
      exact wj_X6_readProduct_57i X hAll kb kx0 kx1 kx2 kx3 hm hP hS (lv_sub hl [1, 0] rfl)
    · rw [if_neg h_22] at hm
      exact kx0 M_11 (Option.some.inj hm).symm _ _ _ hP hS (lv_sub hl [1] rfl)

set_option maxHeartbeats 4000000 in
set_option maxRecDepth 100000 in
theorem wl_X6_readProduct_10 (X : CxG g p s m args c cX6_readProduct 2 RX6 wsX6_readProduct) (hAll : okAll g) {fu : Nat} {x : (Mem) ⊕ ((Mem) ⊕ ((Mem) ⊕ (Mem)))} (kx0 : ∀ (M2 : Mem) , x = .inl M2 → ∀ (H : Heap) (locs : List Loc) (ls : Array Slot), va_P (gD g) vwCl (wlG g M2) H → va_S (AbG g) s.heap H locs → lv_has ls 2 [(0, .ref (ga g 148))] → W p l e (headSpec wsX6_readProduct rmX6_readProduct).room s m args below meth c H locs 0 0 Q (F0 m 51 ls [])) (kx1 : ∀ (M2 : Mem) , x = .inr (.inl M2) → ∀ (H : Heap) (locs : List Loc) (ls : Array Slot), va_P (gD g) vwCl (wlG g M2) H → va_S (AbG g) s.heap H locs → lv_has ls 2 [(0, .ref (ga g 148))] → W p l e (headSpec wsX6_readProduct rmX6_readProduct).room s m args below meth c H locs 0 0 Q (F0 m 68 ls [])) (kx2 : ∀ (M2 : Mem) , x = .inr (.inr (.inl M2)) → ∀ (H : Heap) (locs : List Loc) (ls : Array Slot), va_P (gD g) vwCl (wlG g M2) H → va_S (AbG g) s.heap H locs → lv_has ls 2 [] → W p l e (headSpec wsX6_readProduct rmX6_readProduct).room s m args below meth c H locs 0 0 Q (F0 m 82 ls [])) (kx3 : ∀ (M2 : Mem) , x = .inr (.inr (.inr M2)) → ∀ (H : Heap) (locs : List Loc) (ls : Array Slot), va_P (gD g) vwCl (wlG g M2) H → va_S (AbG g) s.heap H locs → lv_has ls 2 [] → W p l e (headSpec wsX6_readProduct rmX6_readProduct).room s m args below meth c H locs 0 0 Q (F0 m 101 ls [])) {n : Nat} {q0 : Mem} (h : lp (b_X6_readProduct_10 fu) n q0 = some x) : ∀ (H : Heap) (locs : List Loc) (ls : Array Slot), va_P (gD g) vwCl (wlG g q0) H → va_S (AbG g) s.heap H locs → lv_has ls 2 [(0, .ref (ga g 148))] → W p l e (headSpec wsX6_readProduct rmX6_readProduct).room s m args below meth c H locs 0 0 Q (F0 m 10 ls []) := by
  refine lp_elim (P := fun q0 : Mem => ∀ (H : Heap) (locs : List Loc) (ls : Array Slot), va_P (gD g) vwCl (wlG g q0) H → va_S (AbG g) s.heap H locs → lv_has ls 2 [(0, .ref (ga g 148))] → W p l e (headSpec wsX6_readProduct rmX6_readProduct).room s m args below meth c H locs 0 0 Q (F0 m 10 ls [])) (fun q1 o hm hI hX => ?_) n q0 h
  obtain ⟨M, rfl⟩ : ∃ z, z = q1 := ⟨_, rfl⟩
  have kb : ∀ (M2 : Mem) , o = .inl M2 → ∀ (H : Heap) (locs : List Loc) (ls : Array Slot), va_P (gD g) vwCl (wlG g M2) H → va_S (AbG g) s.heap H locs → lv_has ls 2 [(0, .ref (ga g 148))] → W p l e (headSpec wsX6_readProduct rmX6_readProduct).room s m args below meth c H locs 0 0 Q (F0 m 10 ls []) := fun M2 e => hI _ e
  have kx0 : ∀ (M2 : Mem) , o = .inr (.inl M2) → ∀ (H : Heap) (locs : List Loc) (ls : Array Slot), va_P (gD g) vwCl (wlG g M2) H → va_S (AbG g) s.heap H locs → lv_has ls 2 [(0, .ref (ga g 148))] → W p l e (headSpec wsX6_readProduct rmX6_readProduct).room s m args below meth c H locs 0 0 Q (F0 m 51 ls []) := fun M2 e => kx0 M2 (hX _ e).symm
  have kx1 : ∀ (M2 : Mem) , o = .inr (.inr (.inl M2)) → ∀ (H : Heap) (locs : List Loc) (ls : Array Slot), va_P (gD g) vwCl (wlG g M2) H → va_S (AbG g) s.heap H locs → lv_has ls 2 [(0, .ref (ga g 148))] → W p l e (headSpec wsX6_readProduct rmX6_readProduct).room s m args below meth c H locs 0 0 Q (F0 m 68 ls []) := fun M2 e => kx1 M2 (hX _ e).symm
  have kx2 : ∀ (M2 : Mem) , o = .inr (.inr (.inr (.inl M2))) → ∀ (H : Heap) (locs : List Loc) (ls : Array Slot), va_P (gD g) vwCl (wlG g M2) H → va_S (AbG g) s.heap H locs → lv_has ls 2 [] → W p l e (headSpec wsX6_readProduct rmX6_readProduct).room s m args below meth c H locs 0 0 Q (F0 m 82 ls []) := fun M2 e => kx2 M2 (hX _ e).symm
  have kx3 : ∀ (M2 : Mem) , o = .inr (.inr (.inr (.inr M2))) → ∀ (H : Heap) (locs : List Loc) (ls : Array Slot), va_P (gD g) vwCl (wlG g M2) H → va_S (AbG g) s.heap H locs → lv_has ls 2 [] → W p l e (headSpec wsX6_readProduct rmX6_readProduct).room s m args below meth c H locs 0 0 Q (F0 m 101 ls []) := fun M2 e => kx3 M2 (hX _ e).symm
  clear hI hX
  intro H locs ls hP hS hl
  obtain ⟨⟨hx, hb, hml, hown, hts⟩, -, -⟩ := id X
  have hl : lv_has ls 2 [(0, .ref (ga g 148))] := hl
  have hP : va_P (gD g) vwCl (wlG g M) H := hP
  unfold b_X6_readProduct_10 at hm
  replace hm := un1_e hm
  refine lv_aload_n hx hb dX6_readProduct_10 rfl (lv_at hl 0 rfl) ?_
  refine lv_bipush (v := 42) hx hb dX6_readProduct_11 (by decide) ?_
  obtain ⟨r_6, hc_5, hm⟩ := bind_elim hm
  refine x_calli (x_runV (As := [.int 42]) (rest := []) X hP hS (c_X6_isSign l X.2.2 hAll hc_5) (cwV 1 hts gX6_readProduct_X6_isSign rfl rfl rfl (by decide +kernel) ⟨Nat.le_of_ble_eq_true rfl, Nat.le_of_ble_eq_true rfl⟩) (x_recv (C := RX6) (T := TX6) (N := 55) X hP (okc_148 hAll) rfl) rfl hl.1 rfl (Nat.le_of_ble_eq_true rfl) dX6_readProduct_13 ⟨Nat.zero_le _, Nat.zero_le _⟩) hS (fun H locs hP hS => ?_)
  refine lv_if_ne (tgt := 28) hx hb dX6_readProduct_16 (by decide) (fun h_7 => ?_) (fun h_7 => ?_)
  · rw [if_neg h_7] at hm
    exact wj_X6_readProduct_28i X hAll kb kx0 kx1 kx2 kx3 hm hP hS (lv_sub hl [0] rfl)
  · rw [if_pos h_7] at hm
    refine lv_aload_n hx hb dX6_readProduct_19 rfl (lv_at hl 0 rfl) ?_
    refine lv_bipush (v := 47) hx hb dX6_readProduct_20 (by decide) ?_
    obtain ⟨r_24, hc_23, hm⟩ := bind_elim hm
    refine x_calli (x_runV (As := [.int 47]) (rest := []) X hP hS (c_X6_isSign l X.2.2 hAll hc_23) (cwV 1 hts gX6_readProduct_X6_isSign rfl rfl rfl (by decide +kernel) ⟨Nat.le_of_ble_eq_true rfl, Nat.le_of_ble_eq_true rfl⟩) (x_recv (C := RX6) (T := TX6) (N := 55) X hP (okc_148 hAll) rfl) rfl hl.1 rfl (Nat.le_of_ble_eq_true rfl) dX6_readProduct_22 ⟨Nat.zero_le _, Nat.zero_le _⟩) hS (fun H locs hP hS => ?_)
    refine lv_if_eq (tgt := 101) hx hb dX6_readProduct_25 (by decide) (fun h_25 => ?_) (fun h_25 => ?_)
    · rw [if_pos h_25] at hm
      exact kx3 M (Option.some.inj hm).symm _ _ _ hP hS (lv_sub hl [] rfl)
    · rw [if_neg h_25] at hm
      exact wj_X6_readProduct_28i X hAll kb kx0 kx1 kx2 kx3 hm hP hS (lv_sub hl [0] rfl)

set_option maxHeartbeats 4000000 in
set_option maxRecDepth 100000 in
theorem c_X6_readProduct (l : Launch) {g : GT} (hA : AxG g) (hAll : okAll g)   {fu : Nat} {M : Mem} {rr : Int32} {MM : Mem} (hm : m_X6_readProduct fu M = some (rr, MM)) : CI l yX6_readProduct wsX6_readProduct rmX6_readProduct g [.ref (ga g 148)] M rr MM := by
  refine Met.ofW (cc := cX6_readProduct) (maxL := 2) (ret := (some .int)) (by decide) rfl ?_
  intro p e s m args below meth c s₁ B hml hv
  obtain ⟨rfl, hSx, hP⟩ := hv
  have hr := B.returns
  have hlocks := B.notSynchronized
  have X : CxG g p s m _ c cX6_readProduct 2 RX6 wsX6_readProduct := ⟨⟨B.exec, B.bytes, hml, findClass_of_methodNamed B.named, atoms_spec (ws := wsX6_readProduct) B.pre⟩, hSx, hA⟩
  have hS : va_S (AbG g) s.heap s.heap [] := va_S.rf
  have hl := lv_entry (([.ref (ga g 148)] : List Value)) (n := 2) (Nat.le_of_ble_eq_true rfl)
  rw [lg_entry_eq]
  generalize (lg_sl (([.ref (ga g 148)] : List Value)) ++ List.replicate (2 - (lg_sl (([.ref (ga g 148)] : List Value))).length) Slot.unset).toArray = ls at hl ⊢
  have hl : lv_has ls 2 [(0, .ref (ga g 148))] := hl
  obtain ⟨⟨hx, hb, hml, hown, hts⟩, -, -⟩ := id X
  unfold m_X6_readProduct at hm
  refine lv_aload_n hx hb dX6_readProduct_0 rfl (lv_at hl 0 rfl) ?_
  obtain ⟨⟨r_2, M_3⟩, hc_1, hm⟩ := bind_elim hm
  replace hm := un2_e hm
  refine x_calli (x_runV (As := []) (rest := []) X hP hS (c_X6_readUnit l X.2.2 hAll hc_1) (cwV 0 hts gX6_readProduct_X6_readUnit rfl rfl rfl (by decide +kernel) ⟨Nat.le_of_ble_eq_true rfl, Nat.le_of_ble_eq_true rfl⟩) (x_recv (C := RX6) (T := TX6) (N := 55) X hP (okc_148 hAll) rfl) rfl hl.1 rfl (Nat.le_of_ble_eq_true rfl) dX6_readProduct_1 ⟨Nat.zero_le _, Nat.zero_le _⟩) hS (fun H locs hP hS => ?_)
  refine lv_iconst (v := (-1)) hx hb dX6_readProduct_4 (by decide) ?_
  refine lv_icmp_ne (tgt := 10) hx hb dX6_readProduct_5 (by decide) (fun h_4 => ?_) (fun h_4 => ?_)
  · rw [if_neg h_4] at hm
    obtain ⟨x_26, hL_27, hm⟩ := bind_elim hm
    refine wl_X6_readProduct_10 X hAll ?_ ?_ ?_ ?_ hL_27 _ _ _ hP hS (lv_sub hl [0] rfl)
    · intro M_28 e_x_26 H locs ls hP hS hl
      subst e_x_26
      replace hm := unS_l hm
      replace hm := un1_e hm
      refine lv_aload_n hx hb dX6_readProduct_51 rfl (lv_at hl 0 rfl) ?_
      refine lv_iconst (v := 1) hx hb dX6_readProduct_52 (by decide) ?_
      obtain ⟨⟨r_30, M_31⟩, hc_29, hm⟩ := bind_elim hm
      replace hm := un2_e hm
      refine x_calli (x_runV (As := [.int 1]) (rest := []) X hP hS (c_X6_errs l X.2.2 hAll hc_29) (cwV 1 hts gX6_readProduct_X6_errs rfl rfl rfl (by decide +kernel) ⟨Nat.le_of_ble_eq_true rfl, Nat.le_of_ble_eq_true rfl⟩) (x_recv (C := RX6) (T := TX6) (N := 55) X hP (okc_148 hAll) rfl) rfl hl.1 rfl (Nat.le_of_ble_eq_true rfl) dX6_readProduct_53 ⟨Nat.zero_le _, Nat.zero_le _⟩) hS (fun H locs hP hS => ?_)
      cases hm
      exact x_iret X hP hS hr hlocks dX6_readProduct_56
    · intro M_32 e_x_26 H locs ls hP hS hl
      subst e_x_26
      replace hm := unS_r hm
      replace hm := unS_l hm
      replace hm := un1_e hm
      refine lv_aload_n hx hb dX6_readProduct_68 rfl (lv_at hl 0 rfl) ?_
      refine lv_iconst (v := 2) hx hb dX6_readProduct_69 (by decide) ?_
      obtain ⟨⟨r_34, M_35⟩, hc_33, hm⟩ := bind_elim hm
      replace hm := un2_e hm
      refine x_calli (x_runV (As := [.int 2]) (rest := []) X hP hS (c_X6_errs l X.2.2 hAll hc_33) (cwV 1 hts gX6_readProduct_X6_errs rfl rfl rfl (by decide +kernel) ⟨Nat.le_of_ble_eq_true rfl, Nat.le_of_ble_eq_true rfl⟩) (x_recv (C := RX6) (T := TX6) (N := 55) X hP (okc_148 hAll) rfl) rfl hl.1 rfl (Nat.le_of_ble_eq_true rfl) dX6_readProduct_70 ⟨Nat.zero_le _, Nat.zero_le _⟩) hS (fun H locs hP hS => ?_)
      cases hm
      exact x_iret X hP hS hr hlocks dX6_readProduct_73
    · intro M_36 e_x_26 H locs ls hP hS hl
      subst e_x_26
      replace hm := unS_r hm
      replace hm := unS_r hm
      replace hm := unS_l hm
      replace hm := un1_e hm
      refine lv_iconst (v := (-1)) hx hb dX6_readProduct_82 (by decide) ?_
      cases hm
      exact x_iret X hP hS hr hlocks dX6_readProduct_83
    · intro M_37 e_x_26 H locs ls hP hS hl
      subst e_x_26
      replace hm := unS_r hm
      replace hm := unS_r hm
      replace hm := unS_r hm
      replace hm := un1_e hm
      refine lv_iconst (v := 0) hx hb dX6_readProduct_101 (by decide) ?_
      cases hm
      exact x_iret X hP hS hr hlocks dX6_readProduct_102
  · rw [if_pos h_4] at hm
    refine lv_iconst (v := (-1)) hx hb dX6_readProduct_8 (by decide) ?_
    cases hm
    exact x_iret X hP hS hr hlocks dX6_readProduct_9


/-! X6_readSum -/
def rmX6_readSum : Room := { frames := 5, cells := 0, slots := 0, locals := 107 }
theorem uX6_readSum_X6 : ∀ w ∈ wsX60, w ∈ wsX6_readSum := by decide +kernel
theorem mbX6_readSum_1 : Cond.fieldLink RX6 164 "FootANightModel" "value" "I" ∈ wsX6_readSum := by decide +kernel
set_option maxHeartbeats 4000000 in
set_option maxRecDepth 100000 in
theorem wj_X6_readSum_42i (X : CxG g p s m args c cX6_readSum 2 RX6 wsX6_readSum) (hAll : okAll g) {fu : Nat} {M : Mem} {t0 : Int32} {o : (Mem) ⊕ ((Mem) ⊕ (Mem))} (kb : ∀ (M2 : Mem) , o = .inl M2 → ∀ (H : Heap) (locs : List Loc) (ls : Array Slot), va_P (gD g) vwCl (wlG g M2) H → va_S (AbG g) s.heap H locs → lv_has ls 2 [(0, .ref (ga g 148))] → W p l e (headSpec wsX6_readSum rmX6_readSum).room s m args below meth c H locs 0 0 Q (F0 m 10 ls [])) (kx0 : ∀ (M2 : Mem) , o = .inr (.inl M2) → ∀ (H : Heap) (locs : List Loc) (ls : Array Slot), va_P (gD g) vwCl (wlG g M2) H → va_S (AbG g) s.heap H locs → lv_has ls 2 [] → W p l e (headSpec wsX6_readSum rmX6_readSum).room s m args below meth c H locs 0 0 Q (F0 m 55 ls [])) (kx1 : ∀ (M2 : Mem) , o = .inr (.inr M2) → ∀ (H : Heap) (locs : List Loc) (ls : Array Slot), va_P (gD g) vwCl (wlG g M2) H → va_S (AbG g) s.heap H locs → lv_has ls 2 [] → W p l e (headSpec wsX6_readSum rmX6_readSum).room s m args below meth c H locs 0 0 Q (F0 m 66 ls [])) (hm : j_X6_readSum_42i fu M t0 = some o) {H : Heap} {locs : List Loc} {ls : Array Slot} (hP : va_P (gD g) vwCl (wlG g M) H) (hS : va_S (AbG g) s.heap H locs) (hl : lv_has ls 2 [(0, .ref (ga g 148))]) : W p l e (headSpec wsX6_readSum rmX6_readSum).room s m args below meth c H locs 0 0 Q (F0 m 42 ls [.int t0]) := by
  obtain ⟨⟨hx, hb, hml, hown, hts⟩, -, -⟩ := id X
  unfold j_X6_readSum_42i at hm
  refine lv_istore_n (lv' := [(1, .int t0), (0, .ref (ga g 148))]) hx hb dX6_readSum_42 rfl hl (by decide) rfl (fun ls hl => ?_)
  refine lv_aload_n hx hb dX6_readSum_43 rfl (lv_at hl 1 rfl) ?_
  obtain ⟨M_10, hc_9, hm⟩ := bind_elim hm
  refine x_callv (x_runV (As := []) (rest := []) X hP hS (c_X6_reads l X.2.2 hAll hc_9) (cwV 0 hts gX6_readSum_X6_reads rfl rfl rfl (by decide +kernel) ⟨Nat.le_of_ble_eq_true rfl, Nat.le_of_ble_eq_true rfl⟩) (x_recv (C := RX6) (T := TX6) (N := 55) X hP (okc_148 hAll) rfl) rfl hl.1 rfl (Nat.le_of_ble_eq_true rfl) dX6_readSum_44 ⟨Nat.zero_le _, Nat.zero_le _⟩) hS (fun H locs hP hS => ?_)
  refine lv_aload_n hx hb dX6_readSum_47 rfl (lv_at hl 1 rfl) ?_
  obtain ⟨⟨r_12, M_13⟩, hc_11, hm⟩ := bind_elim hm
  replace hm := un2_e hm
  refine x_calli (x_runV (As := []) (rest := []) X hP hS (c_X6_readProduct l X.2.2 hAll hc_11) (cwV 0 hts gX6_readSum_X6_readProduct rfl rfl rfl (by decide +kernel) ⟨Nat.le_of_ble_eq_true rfl, Nat.le_of_ble_eq_true rfl⟩) (x_recv (C := RX6) (T := TX6) (N := 55) X hP (okc_148 hAll) rfl) rfl hl.1 rfl (Nat.le_of_ble_eq_true rfl) dX6_readSum_48 ⟨Nat.zero_le _, Nat.zero_le _⟩) hS (fun H locs hP hS => ?_)
  refine lv_iconst (v := (-1)) hx hb dX6_readSum_51 (by decide) ?_
  refine lv_icmp_ne (tgt := 57) hx hb dX6_readSum_52 (by decide) (fun h_14 => ?_) (fun h_14 => ?_)
  · rw [if_neg h_14] at hm
    refine lv_aload_n hx hb dX6_readSum_57 rfl (lv_at hl 1 rfl) ?_
    refine lv_iload_n hx hb dX6_readSum_58 rfl (lv_at hl 0 rfl) ?_
    refine lv_iconst (v := 0) hx hb dX6_readSum_59 (by decide) ?_
    obtain ⟨M_16, hc_15, hm⟩ := bind_elim hm
    refine x_callv (x_runV (As := [.int t0, .int 0]) (rest := []) X hP hS (c_X6_emits l X.2.2 hAll hc_15) (cwV 2 hts gX6_readSum_X6_emits rfl rfl rfl (by decide +kernel) ⟨Nat.le_of_ble_eq_true rfl, Nat.le_of_ble_eq_true rfl⟩) (x_recv (C := RX6) (T := TX6) (N := 55) X hP (okc_148 hAll) rfl) rfl hl.1 rfl (Nat.le_of_ble_eq_true rfl) dX6_readSum_60 ⟨Nat.zero_le _, Nat.zero_le _⟩) hS (fun H locs hP hS => ?_)
    refine lv_goto (tgt := 10) hx hb dX6_readSum_63 (by decide) ?_
    exact kb M_16 (Option.some.inj hm).symm _ _ _ hP hS (lv_sub hl [1] rfl)
  · rw [if_pos h_14] at hm
    exact kx0 M_13 (Option.some.inj hm).symm _ _ _ hP hS (lv_sub hl [] rfl)

set_option maxHeartbeats 4000000 in
set_option maxRecDepth 100000 in
theorem wj_X6_readSum_28i (X : CxG g p s m args c cX6_readSum 2 RX6 wsX6_readSum) (hAll : okAll g) {fu : Nat} {M : Mem} {o : (Mem) ⊕ ((Mem) ⊕ (Mem))} (kb : ∀ (M2 : Mem) , o = .inl M2 → ∀ (H : Heap) (locs : List Loc) (ls : Array Slot), va_P (gD g) vwCl (wlG g M2) H → va_S (AbG g) s.heap H locs → lv_has ls 2 [(0, .ref (ga g 148))] → W p l e (headSpec wsX6_readSum rmX6_readSum).room s m args below meth c H locs 0 0 Q (F0 m 10 ls [])) (kx0 : ∀ (M2 : Mem) , o = .inr (.inl M2) → ∀ (H : Heap) (locs : List Loc) (ls : Array Slot), va_P (gD g) vwCl (wlG g M2) H → va_S (AbG g) s.heap H locs → lv_has ls 2 [] → W p l e (headSpec wsX6_readSum rmX6_readSum).room s m args below meth c H locs 0 0 Q (F0 m 55 ls [])) (kx1 : ∀ (M2 : Mem) , o = .inr (.inr M2) → ∀ (H : Heap) (locs : List Loc) (ls : Array Slot), va_P (gD g) vwCl (wlG g M2) H → va_S (AbG g) s.heap H locs → lv_has ls 2 [] → W p l e (headSpec wsX6_readSum rmX6_readSum).room s m args below meth c H locs 0 0 Q (F0 m 66 ls [])) (hm : j_X6_readSum_28i fu M = some o) {H : Heap} {locs : List Loc} {ls : Array Slot} (hP : va_P (gD g) vwCl (wlG g M) H) (hS : va_S (AbG g) s.heap H locs) (hl : lv_has ls 2 [(0, .ref (ga g 148))]) : W p l e (headSpec wsX6_readSum rmX6_readSum).room s m args below meth c H locs 0 0 Q (F0 m 28 ls []) := by
  obtain ⟨⟨hx, hb, hml, hown, hts⟩, -, -⟩ := id X
  unfold j_X6_readSum_28i at hm
  refine lv_aload_n hx hb dX6_readSum_28 rfl (lv_at hl 0 rfl) ?_
  refine xg_X6_24 X hP hAll uX6_readSum_X6 mbX6_readSum_1 dX6_readSum_29 ?_
  refine lv_bipush (v := 43) hx hb dX6_readSum_32 (by decide) ?_
  refine lv_icmp_ne (tgt := 41) hx hb dX6_readSum_34 (by decide) (fun h_8 => ?_) (fun h_8 => ?_)
  · rw [if_neg h_8] at hm
    refine lv_iconst (v := 3) hx hb dX6_readSum_41 (by decide) ?_
    exact wj_X6_readSum_42i X hAll kb kx0 kx1 hm hP hS (lv_sub hl [0] rfl)
  · rw [if_pos h_8] at hm
    refine lv_iconst (v := 2) hx hb dX6_readSum_37 (by decide) ?_
    refine lv_goto (tgt := 42) hx hb dX6_readSum_38 (by decide) ?_
    exact wj_X6_readSum_42i X hAll kb kx0 kx1 hm hP hS (lv_sub hl [0] rfl)

set_option maxHeartbeats 4000000 in
set_option maxRecDepth 100000 in
theorem wl_X6_readSum_10 (X : CxG g p s m args c cX6_readSum 2 RX6 wsX6_readSum) (hAll : okAll g) {fu : Nat} {x : (Mem) ⊕ (Mem)} (kx0 : ∀ (M2 : Mem) , x = .inl M2 → ∀ (H : Heap) (locs : List Loc) (ls : Array Slot), va_P (gD g) vwCl (wlG g M2) H → va_S (AbG g) s.heap H locs → lv_has ls 2 [] → W p l e (headSpec wsX6_readSum rmX6_readSum).room s m args below meth c H locs 0 0 Q (F0 m 55 ls [])) (kx1 : ∀ (M2 : Mem) , x = .inr M2 → ∀ (H : Heap) (locs : List Loc) (ls : Array Slot), va_P (gD g) vwCl (wlG g M2) H → va_S (AbG g) s.heap H locs → lv_has ls 2 [] → W p l e (headSpec wsX6_readSum rmX6_readSum).room s m args below meth c H locs 0 0 Q (F0 m 66 ls [])) {n : Nat} {q0 : Mem} (h : lp (b_X6_readSum_10 fu) n q0 = some x) : ∀ (H : Heap) (locs : List Loc) (ls : Array Slot), va_P (gD g) vwCl (wlG g q0) H → va_S (AbG g) s.heap H locs → lv_has ls 2 [(0, .ref (ga g 148))] → W p l e (headSpec wsX6_readSum rmX6_readSum).room s m args below meth c H locs 0 0 Q (F0 m 10 ls []) := by
  refine lp_elim (P := fun q0 : Mem => ∀ (H : Heap) (locs : List Loc) (ls : Array Slot), va_P (gD g) vwCl (wlG g q0) H → va_S (AbG g) s.heap H locs → lv_has ls 2 [(0, .ref (ga g 148))] → W p l e (headSpec wsX6_readSum rmX6_readSum).room s m args below meth c H locs 0 0 Q (F0 m 10 ls [])) (fun q1 o hm hI hX => ?_) n q0 h
  obtain ⟨M, rfl⟩ : ∃ z, z = q1 := ⟨_, rfl⟩
  have kb : ∀ (M2 : Mem) , o = .inl M2 → ∀ (H : Heap) (locs : List Loc) (ls : Array Slot), va_P (gD g) vwCl (wlG g M2) H → va_S (AbG g) s.heap H locs → lv_has ls 2 [(0, .ref (ga g 148))] → W p l e (headSpec wsX6_readSum rmX6_readSum).room s m args below meth c H locs 0 0 Q (F0 m 10 ls []) := fun M2 e => hI _ e
  have kx0 : ∀ (M2 : Mem) , o = .inr (.inl M2) → ∀ (H : Heap) (locs : List Loc) (ls : Array Slot), va_P (gD g) vwCl (wlG g M2) H → va_S (AbG g) s.heap H locs → lv_has ls 2 [] → W p l e (headSpec wsX6_readSum rmX6_readSum).room s m args below meth c H locs 0 0 Q (F0 m 55 ls []) := fun M2 e => kx0 M2 (hX _ e).symm
  have kx1 : ∀ (M2 : Mem) , o = .inr (.inr M2) → ∀ (H : Heap) (locs : List Loc) (ls : Array Slot), va_P (gD g) vwCl (wlG g M2) H → va_S (AbG g) s.heap H locs → lv_has ls 2 [] → W p l e (headSpec wsX6_readSum rmX6_readSum).room s m args below meth c H locs 0 0 Q (F0 m 66 ls []) := fun M2 e => kx1 M2 (hX _ e).symm
  clear hI hX
  intro H locs ls hP hS hl
  obtain ⟨⟨hx, hb, hml, hown, hts⟩, -, -⟩ := id X
  have hl : lv_has ls 2 [(0, .ref (ga g 148))] := hl
  have hP : va_P (gD g) vwCl (wlG g M) H := hP
  unfold b_X6_readSum_10 at hm
  replace hm := un1_e hm
  refine lv_aload_n hx hb dX6_readSum_10 rfl (lv_at hl 0 rfl) ?_
  refine lv_bipush (v := 43) hx hb dX6_readSum_11 (by decide) ?_
  obtain ⟨r_6, hc_5, hm⟩ := bind_elim hm
  refine x_calli (x_runV (As := [.int 43]) (rest := []) X hP hS (c_X6_isSign l X.2.2 hAll hc_5) (cwV 1 hts gX6_readSum_X6_isSign rfl rfl rfl (by decide +kernel) ⟨Nat.le_of_ble_eq_true rfl, Nat.le_of_ble_eq_true rfl⟩) (x_recv (C := RX6) (T := TX6) (N := 55) X hP (okc_148 hAll) rfl) rfl hl.1 rfl (Nat.le_of_ble_eq_true rfl) dX6_readSum_13 ⟨Nat.zero_le _, Nat.zero_le _⟩) hS (fun H locs hP hS => ?_)
  refine lv_if_ne (tgt := 28) hx hb dX6_readSum_16 (by decide) (fun h_7 => ?_) (fun h_7 => ?_)
  · rw [if_neg h_7] at hm
    exact wj_X6_readSum_28i X hAll kb kx0 kx1 hm hP hS (lv_sub hl [0] rfl)
  · rw [if_pos h_7] at hm
    refine lv_aload_n hx hb dX6_readSum_19 rfl (lv_at hl 0 rfl) ?_
    refine lv_bipush (v := 45) hx hb dX6_readSum_20 (by decide) ?_
    obtain ⟨r_18, hc_17, hm⟩ := bind_elim hm
    refine x_calli (x_runV (As := [.int 45]) (rest := []) X hP hS (c_X6_isSign l X.2.2 hAll hc_17) (cwV 1 hts gX6_readSum_X6_isSign rfl rfl rfl (by decide +kernel) ⟨Nat.le_of_ble_eq_true rfl, Nat.le_of_ble_eq_true rfl⟩) (x_recv (C := RX6) (T := TX6) (N := 55) X hP (okc_148 hAll) rfl) rfl hl.1 rfl (Nat.le_of_ble_eq_true rfl) dX6_readSum_22 ⟨Nat.zero_le _, Nat.zero_le _⟩) hS (fun H locs hP hS => ?_)
    refine lv_if_eq (tgt := 66) hx hb dX6_readSum_25 (by decide) (fun h_19 => ?_) (fun h_19 => ?_)
    · rw [if_pos h_19] at hm
      exact kx1 M (Option.some.inj hm).symm _ _ _ hP hS (lv_sub hl [] rfl)
    · rw [if_neg h_19] at hm
      exact wj_X6_readSum_28i X hAll kb kx0 kx1 hm hP hS (lv_sub hl [0] rfl)

set_option maxHeartbeats 4000000 in
set_option maxRecDepth 100000 in
theorem c_X6_readSum (l : Launch) {g : GT} (hA : AxG g) (hAll : okAll g)   {fu : Nat} {M : Mem} {rr : Int32} {MM : Mem} (hm : m_X6_readSum fu M = some (rr, MM)) : CI l yX6_readSum wsX6_readSum rmX6_readSum g [.ref (ga g 148)] M rr MM := by
  refine Met.ofW (cc := cX6_readSum) (maxL := 2) (ret := (some .int)) (by decide) rfl ?_
  intro p e s m args below meth c s₁ B hml hv
  obtain ⟨rfl, hSx, hP⟩ := hv
  have hr := B.returns
  have hlocks := B.notSynchronized
  have X : CxG g p s m _ c cX6_readSum 2 RX6 wsX6_readSum := ⟨⟨B.exec, B.bytes, hml, findClass_of_methodNamed B.named, atoms_spec (ws := wsX6_readSum) B.pre⟩, hSx, hA⟩
  have hS : va_S (AbG g) s.heap s.heap [] := va_S.rf
  have hl := lv_entry (([.ref (ga g 148)] : List Value)) (n := 2) (Nat.le_of_ble_eq_true rfl)
  rw [lg_entry_eq]
  generalize (lg_sl (([.ref (ga g 148)] : List Value)) ++ List.replicate (2 - (lg_sl (([.ref (ga g 148)] : List Value))).length) Slot.unset).toArray = ls at hl ⊢
  have hl : lv_has ls 2 [(0, .ref (ga g 148))] := hl
  obtain ⟨⟨hx, hb, hml, hown, hts⟩, -, -⟩ := id X
  unfold m_X6_readSum at hm
  refine lv_aload_n hx hb dX6_readSum_0 rfl (lv_at hl 0 rfl) ?_
  obtain ⟨⟨r_2, M_3⟩, hc_1, hm⟩ := bind_elim hm
  replace hm := un2_e hm
  refine x_calli (x_runV (As := []) (rest := []) X hP hS (c_X6_readProduct l X.2.2 hAll hc_1) (cwV 0 hts gX6_readSum_X6_readProduct rfl rfl rfl (by decide +kernel) ⟨Nat.le_of_ble_eq_true rfl, Nat.le_of_ble_eq_true rfl⟩) (x_recv (C := RX6) (T := TX6) (N := 55) X hP (okc_148 hAll) rfl) rfl hl.1 rfl (Nat.le_of_ble_eq_true rfl) dX6_readSum_1 ⟨Nat.zero_le _, Nat.zero_le _⟩) hS (fun H locs hP hS => ?_)
  refine lv_iconst (v := (-1)) hx hb dX6_readSum_4 (by decide) ?_
  refine lv_icmp_ne (tgt := 10) hx hb dX6_readSum_5 (by decide) (fun h_4 => ?_) (fun h_4 => ?_)
  · rw [if_neg h_4] at hm
    obtain ⟨x_20, hL_21, hm⟩ := bind_elim hm
    refine wl_X6_readSum_10 X hAll ?_ ?_ hL_21 _ _ _ hP hS (lv_sub hl [0] rfl)
    · intro M_22 e_x_20 H locs ls hP hS hl
      subst e_x_20
      replace hm := unS_l hm
      replace hm := un1_e hm
      refine lv_iconst (v := (-1)) hx hb dX6_readSum_55 (by decide) ?_
      cases hm
      exact x_iret X hP hS hr hlocks dX6_readSum_56
    · intro M_23 e_x_20 H locs ls hP hS hl
      subst e_x_20
      replace hm := unS_r hm
      replace hm := un1_e hm
      refine lv_iconst (v := 0) hx hb dX6_readSum_66 (by decide) ?_
      cases hm
      exact x_iret X hP hS hr hlocks dX6_readSum_67
  · rw [if_pos h_4] at hm
    refine lv_iconst (v := (-1)) hx hb dX6_readSum_8 (by decide) ?_
    cases hm
    exact x_iret X hP hS hr hlocks dX6_readSum_9


/-! X6_readCompared -/
def rmX6_readCompared : Room := { frames := 6, cells := 0, slots := 0, locals := 128 }
theorem uX6_readCompared_X6 : ∀ w ∈ wsX60, w ∈ wsX6_readCompared := by decide +kernel
theorem mbX6_readCompared_1 : Cond.fieldLink RX6 164 "FootANightModel" "value" "I" ∈ wsX6_readCompared := by decide +kernel
set_option maxHeartbeats 4000000 in
set_option maxRecDepth 100000 in
theorem wj_X6_readCompared_73 (X : CxG g p s m args c cX6_readCompared 2 RX6 wsX6_readCompared) (hAll : okAll g) {fu : Nat} {M : Mem} {t0 : Int32} {rr : Int32} {MM : Mem} (hr : meth.sig.returnType = (some .int)) (hlocks : meth.locks = false) (hm : j_X6_readCompared_73 fu M t0 = some (rr, MM)) {H : Heap} {locs : List Loc} {ls : Array Slot} (hP : va_P (gD g) vwCl (wlG g M) H) (hS : va_S (AbG g) s.heap H locs) (hl : lv_has ls 2 [(0, .ref (ga g 148))]) : W p l e (headSpec wsX6_readCompared rmX6_readCompared).room s m args below meth c H locs 0 0 (MQ below (va_Qi (fun (q : Int32) (_ : Unit) => q = rr) (fun _ t => va_P (gD g) vwCl (wlG g MM) t.heap) (AbG g)) args s 0 0 (AbG g)) (F0 m 73 ls [.int t0]) := by
  obtain ⟨⟨hx, hb, hml, hown, hts⟩, -, -⟩ := id X
  unfold j_X6_readCompared_73 at hm
  refine lv_istore_n (lv' := [(1, .int t0), (0, .ref (ga g 148))]) hx hb dX6_readCompared_73 rfl hl (by decide) rfl (fun ls hl => ?_)
  refine lv_aload_n hx hb dX6_readCompared_74 rfl (lv_at hl 1 rfl) ?_
  obtain ⟨M_11, hc_10, hm⟩ := bind_elim hm
  refine x_callv (x_runV (As := []) (rest := []) X hP hS (c_X6_reads l X.2.2 hAll hc_10) (cwV 0 hts gX6_readCompared_X6_reads rfl rfl rfl (by decide +kernel) ⟨Nat.le_of_ble_eq_true rfl, Nat.le_of_ble_eq_true rfl⟩) (x_recv (C := RX6) (T := TX6) (N := 55) X hP (okc_148 hAll) rfl) rfl hl.1 rfl (Nat.le_of_ble_eq_true rfl) dX6_readCompared_75 ⟨Nat.zero_le _, Nat.zero_le _⟩) hS (fun H locs hP hS => ?_)
  refine lv_aload_n hx hb dX6_readCompared_78 rfl (lv_at hl 1 rfl) ?_
  obtain ⟨⟨r_13, M_14⟩, hc_12, hm⟩ := bind_elim hm
  replace hm := un2_e hm
  refine x_calli (x_runV (As := []) (rest := []) X hP hS (c_X6_readSum l X.2.2 hAll hc_12) (cwV 0 hts gX6_readCompared_X6_readSum rfl rfl rfl (by decide +kernel) ⟨Nat.le_of_ble_eq_true rfl, Nat.le_of_ble_eq_true rfl⟩) (x_recv (C := RX6) (T := TX6) (N := 55) X hP (okc_148 hAll) rfl) rfl hl.1 rfl (Nat.le_of_ble_eq_true rfl) dX6_readCompared_79 ⟨Nat.zero_le _, Nat.zero_le _⟩) hS (fun H locs hP hS => ?_)
  refine lv_iconst (v := (-1)) hx hb dX6_readCompared_82 (by decide) ?_
  refine lv_icmp_ne (tgt := 88) hx hb dX6_readCompared_83 (by decide) (fun h_15 => ?_) (fun h_15 => ?_)
  · rw [if_neg h_15] at hm
    refine lv_aload_n hx hb dX6_readCompared_88 rfl (lv_at hl 1 rfl) ?_
    refine lv_iload_n hx hb dX6_readCompared_89 rfl (lv_at hl 0 rfl) ?_
    refine lv_iconst (v := 0) hx hb dX6_readCompared_90 (by decide) ?_
    obtain ⟨M_17, hc_16, hm⟩ := bind_elim hm
    refine x_callv (x_runV (As := [.int t0, .int 0]) (rest := []) X hP hS (c_X6_emits l X.2.2 hAll hc_16) (cwV 2 hts gX6_readCompared_X6_emits rfl rfl rfl (by decide +kernel) ⟨Nat.le_of_ble_eq_true rfl, Nat.le_of_ble_eq_true rfl⟩) (x_recv (C := RX6) (T := TX6) (N := 55) X hP (okc_148 hAll) rfl) rfl hl.1 rfl (Nat.le_of_ble_eq_true rfl) dX6_readCompared_91 ⟨Nat.zero_le _, Nat.zero_le _⟩) hS (fun H locs hP hS => ?_)
    refine lv_iconst (v := 0) hx hb dX6_readCompared_94 (by decide) ?_
    cases hm
    exact x_iret X hP hS hr hlocks dX6_readCompared_95
  · rw [if_pos h_15] at hm
    refine lv_iconst (v := (-1)) hx hb dX6_readCompared_86 (by decide) ?_
    cases hm
    exact x_iret X hP hS hr hlocks dX6_readCompared_87

set_option maxHeartbeats 4000000 in
set_option maxRecDepth 100000 in
theorem wj_X6_readCompared_43 (X : CxG g p s m args c cX6_readCompared 2 RX6 wsX6_readCompared) (hAll : okAll g) {fu : Nat} {M : Mem} {rr : Int32} {MM : Mem} (hr : meth.sig.returnType = (some .int)) (hlocks : meth.locks = false) (hm : j_X6_readCompared_43 fu M = some (rr, MM)) {H : Heap} {locs : List Loc} {ls : Array Slot} (hP : va_P (gD g) vwCl (wlG g M) H) (hS : va_S (AbG g) s.heap H locs) (hl : lv_has ls 2 [(0, .ref (ga g 148))]) : W p l e (headSpec wsX6_readCompared rmX6_readCompared).room s m args below meth c H locs 0 0 (MQ below (va_Qi (fun (q : Int32) (_ : Unit) => q = rr) (fun _ t => va_P (gD g) vwCl (wlG g MM) t.heap) (AbG g)) args s 0 0 (AbG g)) (F0 m 43 ls []) := by
  obtain ⟨⟨hx, hb, hml, hown, hts⟩, -, -⟩ := id X
  unfold j_X6_readCompared_43 at hm
  refine lv_aload_n hx hb dX6_readCompared_43 rfl (lv_at hl 0 rfl) ?_
  refine xg_X6_24 X hP hAll uX6_readCompared_X6 mbX6_readCompared_1 dX6_readCompared_44 ?_
  refine lv_bipush (v := 60) hx hb dX6_readCompared_47 (by decide) ?_
  refine lv_icmp_ne (tgt := 57) hx hb dX6_readCompared_49 (by decide) (fun h_8 => ?_) (fun h_8 => ?_)
  · rw [if_neg h_8] at hm
    refine lv_aload_n hx hb dX6_readCompared_57 rfl (lv_at hl 0 rfl) ?_
    refine xg_X6_24 X hP hAll uX6_readCompared_X6 mbX6_readCompared_1 dX6_readCompared_58 ?_
    refine lv_bipush (v := 61) hx hb dX6_readCompared_61 (by decide) ?_
    refine lv_icmp_ne (tgt := 71) hx hb dX6_readCompared_63 (by decide) (fun h_9 => ?_) (fun h_9 => ?_)
    · rw [if_neg h_9] at hm
      refine lv_bipush (v := 8) hx hb dX6_readCompared_71 (by decide) ?_
      exact wj_X6_readCompared_73 X hAll hr hlocks hm hP hS (lv_sub hl [0] rfl)
    · rw [if_pos h_9] at hm
      refine lv_bipush (v := 7) hx hb dX6_readCompared_66 (by decide) ?_
      refine lv_goto (tgt := 73) hx hb dX6_readCompared_68 (by decide) ?_
      exact wj_X6_readCompared_73 X hAll hr hlocks hm hP hS (lv_sub hl [0] rfl)
  · rw [if_pos h_8] at hm
    refine lv_bipush (v := 6) hx hb dX6_readCompared_52 (by decide) ?_
    refine lv_goto (tgt := 73) hx hb dX6_readCompared_54 (by decide) ?_
    exact wj_X6_readCompared_73 X hAll hr hlocks hm hP hS (lv_sub hl [0] rfl)

set_option maxHeartbeats 4000000 in
set_option maxRecDepth 100000 in
theorem c_X6_readCompared (l : Launch) {g : GT} (hA : AxG g) (hAll : okAll g)   {fu : Nat} {M : Mem} {rr : Int32} {MM : Mem} (hm : m_X6_readCompared fu M = some (rr, MM)) : CI l yX6_readCompared wsX6_readCompared rmX6_readCompared g [.ref (ga g 148)] M rr MM := by
  refine Met.ofW (cc := cX6_readCompared) (maxL := 2) (ret := (some .int)) (by decide) rfl ?_
  intro p e s m args below meth c s₁ B hml hv
  obtain ⟨rfl, hSx, hP⟩ := hv
  have hr := B.returns
  have hlocks := B.notSynchronized
  have X : CxG g p s m _ c cX6_readCompared 2 RX6 wsX6_readCompared := ⟨⟨B.exec, B.bytes, hml, findClass_of_methodNamed B.named, atoms_spec (ws := wsX6_readCompared) B.pre⟩, hSx, hA⟩
  have hS : va_S (AbG g) s.heap s.heap [] := va_S.rf
  have hl := lv_entry (([.ref (ga g 148)] : List Value)) (n := 2) (Nat.le_of_ble_eq_true rfl)
  rw [lg_entry_eq]
  generalize (lg_sl (([.ref (ga g 148)] : List Value)) ++ List.replicate (2 - (lg_sl (([.ref (ga g 148)] : List Value))).length) Slot.unset).toArray = ls at hl ⊢
  have hl : lv_has ls 2 [(0, .ref (ga g 148))] := hl
  obtain ⟨⟨hx, hb, hml, hown, hts⟩, -, -⟩ := id X
  unfold m_X6_readCompared at hm
  refine lv_aload_n hx hb dX6_readCompared_0 rfl (lv_at hl 0 rfl) ?_
  obtain ⟨⟨r_2, M_3⟩, hc_1, hm⟩ := bind_elim hm
  replace hm := un2_e hm
  refine x_calli (x_runV (As := []) (rest := []) X hP hS (c_X6_readSum l X.2.2 hAll hc_1) (cwV 0 hts gX6_readCompared_X6_readSum rfl rfl rfl (by decide +kernel) ⟨Nat.le_of_ble_eq_true rfl, Nat.le_of_ble_eq_true rfl⟩) (x_recv (C := RX6) (T := TX6) (N := 55) X hP (okc_148 hAll) rfl) rfl hl.1 rfl (Nat.le_of_ble_eq_true rfl) dX6_readCompared_1 ⟨Nat.zero_le _, Nat.zero_le _⟩) hS (fun H locs hP hS => ?_)
  refine lv_iconst (v := (-1)) hx hb dX6_readCompared_4 (by decide) ?_
  refine lv_icmp_ne (tgt := 10) hx hb dX6_readCompared_5 (by decide) (fun h_4 => ?_) (fun h_4 => ?_)
  · rw [if_neg h_4] at hm
    refine lv_aload_n hx hb dX6_readCompared_10 rfl (lv_at hl 0 rfl) ?_
    refine lv_bipush (v := 60) hx hb dX6_readCompared_11 (by decide) ?_
    obtain ⟨r_6, hc_5, hm⟩ := bind_elim hm
    refine x_calli (x_runV (As := [.int 60]) (rest := []) X hP hS (c_X6_isSign l X.2.2 hAll hc_5) (cwV 1 hts gX6_readCompared_X6_isSign rfl rfl rfl (by decide +kernel) ⟨Nat.le_of_ble_eq_true rfl, Nat.le_of_ble_eq_true rfl⟩) (x_recv (C := RX6) (T := TX6) (N := 55) X hP (okc_148 hAll) rfl) rfl hl.1 rfl (Nat.le_of_ble_eq_true rfl) dX6_readCompared_13 ⟨Nat.zero_le _, Nat.zero_le _⟩) hS (fun H locs hP hS => ?_)
    refine lv_if_ne (tgt := 43) hx hb dX6_readCompared_16 (by decide) (fun h_7 => ?_) (fun h_7 => ?_)
    · rw [if_neg h_7] at hm
      exact wj_X6_readCompared_43 X hAll hr hlocks hm hP hS (lv_sub hl [0] rfl)
    · rw [if_pos h_7] at hm
      refine lv_aload_n hx hb dX6_readCompared_19 rfl (lv_at hl 0 rfl) ?_
      refine lv_bipush (v := 61) hx hb dX6_readCompared_20 (by decide) ?_
      obtain ⟨r_19, hc_18, hm⟩ := bind_elim hm
      refine x_calli (x_runV (As := [.int 61]) (rest := []) X hP hS (c_X6_isSign l X.2.2 hAll hc_18) (cwV 1 hts gX6_readCompared_X6_isSign rfl rfl rfl (by decide +kernel) ⟨Nat.le_of_ble_eq_true rfl, Nat.le_of_ble_eq_true rfl⟩) (x_recv (C := RX6) (T := TX6) (N := 55) X hP (okc_148 hAll) rfl) rfl hl.1 rfl (Nat.le_of_ble_eq_true rfl) dX6_readCompared_22 ⟨Nat.zero_le _, Nat.zero_le _⟩) hS (fun H locs hP hS => ?_)
      refine lv_if_ne (tgt := 43) hx hb dX6_readCompared_25 (by decide) (fun h_20 => ?_) (fun h_20 => ?_)
      · rw [if_neg h_20] at hm
        exact wj_X6_readCompared_43 X hAll hr hlocks hm hP hS (lv_sub hl [0] rfl)
      · rw [if_pos h_20] at hm
        refine lv_aload_n hx hb dX6_readCompared_28 rfl (lv_at hl 0 rfl) ?_
        refine lv_bipush (v := 62) hx hb dX6_readCompared_29 (by decide) ?_
        obtain ⟨r_22, hc_21, hm⟩ := bind_elim hm
        refine x_calli (x_runV (As := [.int 62]) (rest := []) X hP hS (c_X6_isSign l X.2.2 hAll hc_21) (cwV 1 hts gX6_readCompared_X6_isSign rfl rfl rfl (by decide +kernel) ⟨Nat.le_of_ble_eq_true rfl, Nat.le_of_ble_eq_true rfl⟩) (x_recv (C := RX6) (T := TX6) (N := 55) X hP (okc_148 hAll) rfl) rfl hl.1 rfl (Nat.le_of_ble_eq_true rfl) dX6_readCompared_31 ⟨Nat.zero_le _, Nat.zero_le _⟩) hS (fun H locs hP hS => ?_)
        refine lv_if_ne (tgt := 43) hx hb dX6_readCompared_34 (by decide) (fun h_23 => ?_) (fun h_23 => ?_)
        · rw [if_neg h_23] at hm
          exact wj_X6_readCompared_43 X hAll hr hlocks hm hP hS (lv_sub hl [0] rfl)
        · rw [if_pos h_23] at hm
          refine lv_aload_n hx hb dX6_readCompared_37 rfl (lv_at hl 0 rfl) ?_
          refine lv_iconst (v := 1) hx hb dX6_readCompared_38 (by decide) ?_
          obtain ⟨⟨r_25, M_26⟩, hc_24, hm⟩ := bind_elim hm
          replace hm := un2_e hm
          refine x_calli (x_runV (As := [.int 1]) (rest := []) X hP hS (c_X6_errs l X.2.2 hAll hc_24) (cwV 1 hts gX6_readCompared_X6_errs rfl rfl rfl (by decide +kernel) ⟨Nat.le_of_ble_eq_true rfl, Nat.le_of_ble_eq_true rfl⟩) (x_recv (C := RX6) (T := TX6) (N := 55) X hP (okc_148 hAll) rfl) rfl hl.1 rfl (Nat.le_of_ble_eq_true rfl) dX6_readCompared_39 ⟨Nat.zero_le _, Nat.zero_le _⟩) hS (fun H locs hP hS => ?_)
          cases hm
          exact x_iret X hP hS hr hlocks dX6_readCompared_42
  · rw [if_pos h_4] at hm
    refine lv_iconst (v := (-1)) hx hb dX6_readCompared_8 (by decide) ?_
    cases hm
    exact x_iret X hP hS hr hlocks dX6_readCompared_9


/-! X6_waits -/
def rmX6_waits : Room := { frames := 0, cells := 0, slots := 0, locals := 0 }
theorem uX6_waits_X6 : ∀ w ∈ wsX60, w ∈ wsX6_waits := by decide +kernel
theorem mbX6_waits_1 : Cond.fieldLink RX6 80 "FootANightModel" "pending" "[I" ∈ wsX6_waits := by decide +kernel
theorem mbX6_waits_2 : Cond.fieldLink RX6 211 "FootANightModel" "pendings" "I" ∈ wsX6_waits := by decide +kernel
set_option maxHeartbeats 4000000 in
set_option maxRecDepth 100000 in
theorem c_X6_waits (l : Launch) {g : GT} (hA : AxG g) (hAll : okAll g)   {M : Mem} {a1 : Int32} {MM : Mem} (hm : m_X6_waits M a1 = some MM) : CV l yX6_waits wsX6_waits rmX6_waits g [.ref (ga g 148), .int a1] M MM := by
  refine Met.ofW (cc := cX6_waits) (maxL := 2) (ret := none) (by decide) rfl ?_
  intro p e s m args below meth c s₁ B hml hv
  obtain ⟨rfl, hSx, hP⟩ := hv
  have hr := B.returns
  have hlocks := B.notSynchronized
  have X : CxG g p s m _ c cX6_waits 2 RX6 wsX6_waits := ⟨⟨B.exec, B.bytes, hml, findClass_of_methodNamed B.named, atoms_spec (ws := wsX6_waits) B.pre⟩, hSx, hA⟩
  have hS : va_S (AbG g) s.heap s.heap [] := va_S.rf
  have hl := lv_entry (([.ref (ga g 148), .int a1] : List Value)) (n := 2) (Nat.le_of_ble_eq_true rfl)
  rw [lg_entry_eq]
  generalize (lg_sl (([.ref (ga g 148), .int a1] : List Value)) ++ List.replicate (2 - (lg_sl (([.ref (ga g 148), .int a1] : List Value))).length) Slot.unset).toArray = ls at hl ⊢
  have hl : lv_has ls 2 [(0, .ref (ga g 148)), (1, .int a1)] := hl
  obtain ⟨⟨hx, hb, hml, hown, hts⟩, -, -⟩ := id X
  unfold m_X6_waits at hm
  refine lv_aload_n hx hb dX6_waits_0 rfl (lv_at hl 0 rfl) ?_
  refine xg_X6_34 X hP hAll uX6_waits_X6 mbX6_waits_1 dX6_waits_1 ?_
  refine lv_aload_n hx hb dX6_waits_4 rfl (lv_at hl 0 rfl) ?_
  refine xg_X6_35 X hP hAll uX6_waits_X6 mbX6_waits_2 dX6_waits_5 ?_
  refine lv_iload_n hx hb dX6_waits_8 rfl (lv_at hl 1 rfl) ?_
  obtain ⟨hb_1, hm⟩ := chk_elim hm
  obtain ⟨M_2, hM_3, hm⟩ := bnd_elim hm
  refine x_iast X hP hS (okc_171 hAll) hM_3 hb_1 dX6_waits_9 (fun H locs hP hS => ?_)
  refine lv_aload_n hx hb dX6_waits_10 rfl (lv_at hl 0 rfl) ?_
  refine lv_aload_n hx hb dX6_waits_11 rfl (lv_at hl 0 rfl) ?_
  refine xg_X6_35 X hP hAll uX6_waits_X6 mbX6_waits_2 dX6_waits_12 ?_
  refine lv_iconst (v := 1) hx hb dX6_waits_15 (by decide) ?_
  refine lv_iadd hx hb dX6_waits_16 ?_
  obtain ⟨M_4, hM_5, hm⟩ := bnd_elim hm
  refine xp_X6_35 X hP hAll uX6_waits_X6 mbX6_waits_2 hS hM_5 dX6_waits_17 (fun H locs hP hS => ?_)
  cases hm
  exact x_vret X hP hS hr hlocks dX6_waits_20

end
