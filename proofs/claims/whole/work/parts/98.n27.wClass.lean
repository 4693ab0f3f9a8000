/-! walks: written by wip/whole/gen/gen.py out of the printed names -/
section
variable {p : Program} {l : Launch} {e : Env} {s : State} {m : MethodId} {args : Array Value} {below : List Frame} {meth : Method} {c : Code} {Q : State → Prop} {g : GT}
/-! X5_state -/
def rmX5_state : Room := { frames := 0, cells := 0, slots := 0, locals := 0 }
theorem uX5_state_X5 : ∀ w ∈ wsX50, w ∈ wsX5_state := by decide +kernel
theorem mbX5_state_1 : Cond.fieldLink RX5 12 "FootANight" "now" "LFootANight$Ring;" ∈ wsX5_state := by decide +kernel
theorem uX5_state_X4 : ∀ w ∈ wsX40, w ∈ wsX5_state := by decide +kernel
theorem mbX5_state_3 : Cond.fieldLink RX5 61 "FootANight$Ring" "drawn" "I" ∈ wsX5_state := by decide +kernel
set_option maxHeartbeats 4000000 in
set_option maxRecDepth 100000 in
theorem c_X5_state (l : Launch) {g : GT} (hA : AxG g) (hAll : okAll g)   {M : Mem} {a1 : Int32} {rr : Int32} {MM : Mem} (hm : m_X5_state M a1 = some (rr, MM)) : CI l yX5_state wsX5_state rmX5_state g [.ref (ga g 146), .int a1] M rr MM := by
  refine Met.ofW (cc := cX5_state) (maxL := 3) (ret := (some .int)) (by decide) rfl ?_
  intro p e s m args below meth c s₁ B hml hv
  obtain ⟨rfl, hSx, hP⟩ := hv
  have hr := B.returns
  have hlocks := B.notSynchronized
  have X : CxG g p s m _ c cX5_state 3 RX5 wsX5_state := ⟨⟨B.exec, B.bytes, hml, findClass_of_methodNamed B.named, atoms_spec (ws := wsX5_state) B.pre⟩, hSx, hA⟩
  have hS : va_S (AbG g) s.heap s.heap [] := va_S.rf
  have hl := lv_entry (([.ref (ga g 146), .int a1] : List Value)) (n := 3) (Nat.le_of_ble_eq_true rfl)
  rw [lg_entry_eq]
  generalize (lg_sl (([.ref (ga g 146), .int a1] : List Value)) ++ List.replicate (3 - (lg_sl (([.ref (ga g 146), .int a1] : List Value))).length) Slot.unset).toArray = ls at hl ⊢
  have hl : lv_has ls 3 [(0, .ref (ga g 146)), (1, .int a1)] := hl
  obtain ⟨⟨hx, hb, hml, hown, hts⟩, -, -⟩ := id X
  unfold m_X5_state at hm
  refine lv_aload_n hx hb dX5_state_0 rfl (lv_at hl 0 rfl) ?_
  refine xg_X5_0 X hP hAll uX5_state_X5 mbX5_state_1 dX5_state_1 ?_
  refine xg_X4_1 X hP (hAll.ring (Or.inl rfl)) uX5_state_X4 mbX5_state_3 dX5_state_4 ?_
  obtain ⟨v_1, hv_2, hm⟩ := bnd_elim hm
  refine x_name hv_2 ?_
  refine lv_istore_n (lv' := [(2, .int v_1), (0, .ref (ga g 146)), (1, .int a1)]) hx hb dX5_state_7 rfl hl (by decide) rfl (fun ls hl => ?_)
  refine lv_aload_n hx hb dX5_state_8 rfl (lv_at hl 1 rfl) ?_
  refine xg_X5_0 X hP hAll uX5_state_X5 mbX5_state_1 dX5_state_9 ?_
  refine lv_iload_n hx hb dX5_state_12 rfl (lv_at hl 2 rfl) ?_
  obtain ⟨M_3, hM_4, hm⟩ := bnd_elim hm
  refine xp_X4_1 X hP (hAll.ring (Or.inl rfl)) uX5_state_X4 mbX5_state_3 hS hM_4 dX5_state_13 (fun H locs hP hS => ?_)
  refine lv_iload_n hx hb dX5_state_16 rfl (lv_at hl 0 rfl) ?_
  cases hm
  exact x_iret X hP hS hr hlocks dX5_state_17


/-! X5_ring -/
def rmX5_ring : Room := { frames := 2, cells := 0, slots := 0, locals := 46 }
theorem uX5_ring_X5 : ∀ w ∈ wsX50, w ∈ wsX5_ring := by decide +kernel
theorem mbX5_ring_1 : Cond.fieldLink RX5 12 "FootANight" "now" "LFootANight$Ring;" ∈ wsX5_ring := by decide +kernel
set_option maxHeartbeats 4000000 in
set_option maxRecDepth 100000 in
theorem c_X5_ring (l : Launch) {g : GT} (hA : AxG g) (hAll : okAll g)   {fu : Nat} {M : Mem} {a1 : Int32} {rr : Int32} {MM : Mem} (hm : m_X5_ring fu M a1 = some (rr, MM)) : CI l yX5_ring wsX5_ring rmX5_ring g [.ref (ga g 146), .int a1] M rr MM := by
  refine Met.ofW (cc := cX5_ring) (maxL := 2) (ret := (some .boolean)) (by decide) rfl ?_
  intro p e s m args below meth c s₁ B hml hv
  obtain ⟨rfl, hSx, hP⟩ := hv
  have hr := B.returns
  have hlocks := B.notSynchronized
  have X : CxG g p s m _ c cX5_ring 2 RX5 wsX5_ring := ⟨⟨B.exec, B.bytes, hml, findClass_of_methodNamed B.named, atoms_spec (ws := wsX5_ring) B.pre⟩, hSx, hA⟩
  have hS : va_S (AbG g) s.heap s.heap [] := va_S.rf
  have hl := lv_entry (([.ref (ga g 146), .int a1] : List Value)) (n := 2) (Nat.le_of_ble_eq_true rfl)
  rw [lg_entry_eq]
  generalize (lg_sl (([.ref (ga g 146), .int a1] : List Value)) ++ List.replicate (2 - (lg_sl (([.ref (ga g 146), .int a1] : List Value))).length) Slot.unset).toArray = ls at hl ⊢
  have hl : lv_has ls 2 [(0, .ref (ga g 146)), (1, .int a1)] := hl
  obtain ⟨⟨hx, hb, hml, hown, hts⟩, -, -⟩ := id X
  unfold m_X5_ring at hm
  refine lv_iload_n hx hb dX5_ring_0 rfl (lv_at hl 1 rfl) ?_
  refine lv_iconst (v := 2) hx hb dX5_ring_1 (by decide) ?_
  refine lv_icmp_lt (tgt := 11) hx hb dX5_ring_2 (by decide) (fun h_1 => ?_) (fun h_1 => ?_)
  · rw [if_pos h_1] at hm
    refine lv_iconst (v := 0) hx hb dX5_ring_11 (by decide) ?_
    cases hm
    exact x_zret X (by decide) hP hS hr hlocks dX5_ring_12
  · rw [if_neg h_1] at hm
    refine lv_iload_n hx hb dX5_ring_5 rfl (lv_at hl 1 rfl) ?_
    refine lv_bipush (v := 10) hx hb dX5_ring_6 (by decide) ?_
    refine lv_icmp_le (tgt := 13) hx hb dX5_ring_8 (by decide) (fun h_2 => ?_) (fun h_2 => ?_)
    · rw [if_pos h_2] at hm
      refine lv_aload_n hx hb dX5_ring_13 rfl (lv_at hl 0 rfl) ?_
      refine xg_X5_0 X hP hAll uX5_ring_X5 mbX5_ring_1 dX5_ring_14 ?_
      refine lv_iload_n hx hb dX5_ring_17 rfl (lv_at hl 1 rfl) ?_
      obtain ⟨M_4, hc_3, hm⟩ := bind_elim hm
      refine x_callv (x_runV (As := [.int a1]) (rest := []) X hP hS (c_X4_begin l X.2.2 (hAll.ring (Or.inl rfl)) hc_3) (cwV 1 hts gX5_ring_X4_begin rfl rfl rfl (by decide +kernel) ⟨Nat.le_of_ble_eq_true rfl, Nat.le_of_ble_eq_true rfl⟩) (x_recv (C := RX4) (T := TX4) (N := 12) X hP (hAll.ring (Or.inl rfl)).obj rfl) rfl hl.1 rfl (Nat.le_of_ble_eq_true rfl) dX5_ring_18 ⟨Nat.zero_le _, Nat.zero_le _⟩) hS (fun H locs hP hS => ?_)
      refine lv_iconst (v := 1) hx hb dX5_ring_21 (by decide) ?_
      cases hm
      exact x_zret X (by decide) hP hS hr hlocks dX5_ring_22
    · rw [if_neg h_2] at hm
      refine lv_iconst (v := 0) hx hb dX5_ring_11 (by decide) ?_
      cases hm
      exact x_zret X (by decide) hP hS hr hlocks dX5_ring_12


/-! X5_mayBe -/
def rmX5_mayBe : Room := { frames := 0, cells := 0, slots := 0, locals := 0 }

set_option maxHeartbeats 4000000 in
set_option maxRecDepth 100000 in
theorem c_X5_mayBe (l : Launch) {g : GT} (hA : AxG g) {i0 : Nat} (oki0 : i0 < 5) {M : Mem} {a1 : Int32} {a2 : Int32} {rr : Int32} (hm : m_X5_mayBe i0 M a1 a2 = some rr) : CI l yX5_mayBe wsX5_mayBe rmX5_mayBe g [.ref (gs g i0), .int a1, .int a2] M rr M := by
  refine Met.ofW (cc := cX5_mayBe) (maxL := 3) (ret := (some .boolean)) (by decide) rfl ?_
  intro p e s m args below meth c s₁ B hml hv
  obtain ⟨rfl, hSx, hP⟩ := hv
  have hr := B.returns
  have hlocks := B.notSynchronized
  have X : CxG g p s m _ c cX5_mayBe 3 RX5 wsX5_mayBe := ⟨⟨B.exec, B.bytes, hml, findClass_of_methodNamed B.named, atoms_spec (ws := wsX5_mayBe) B.pre⟩, hSx, hA⟩
  have hS : va_S (AbG g) s.heap s.heap [] := va_S.rf
  have hl := lv_entry (([.ref (gs g i0), .int a1, .int a2] : List Value)) (n := 3) (Nat.le_of_ble_eq_true rfl)
  rw [lg_entry_eq]
  generalize (lg_sl (([.ref (gs g i0), .int a1, .int a2] : List Value)) ++ List.replicate (3 - (lg_sl (([.ref (gs g i0), .int a1, .int a2] : List Value))).length) Slot.unset).toArray = ls at hl ⊢
  have hl : lv_has ls 3 [(0, .ref (gs g i0)), (1, .int a1), (2, .int a2)] := hl
  obtain ⟨⟨hx, hb, hml, hown, hts⟩, -, -⟩ := id X
  unfold m_X5_mayBe at hm
  refine lv_iload_n hx hb dX5_mayBe_0 rfl (lv_at hl 1 rfl) ?_
  refine lv_if_lt (tgt := 25) hx hb dX5_mayBe_1 (by decide) (fun h_1 => ?_) (fun h_1 => ?_)
  · rw [if_pos h_1] at hm
    refine lv_iconst (v := 0) hx hb dX5_mayBe_25 (by decide) ?_
    cases hm
    exact x_zret X (by decide) hP hS hr hlocks dX5_mayBe_26
  · rw [if_neg h_1] at hm
    refine lv_iload_n hx hb dX5_mayBe_4 rfl (lv_at hl 1 rfl) ?_
    refine lv_aload_n hx hb dX5_mayBe_5 rfl (lv_at hl 0 rfl) ?_
    refine x_stlen (i := i0) X hS oki0 dX5_mayBe_6 ?_
    refine lv_icmp_ge (tgt := 25) hx hb dX5_mayBe_7 (by decide) (fun h_2 => ?_) (fun h_2 => ?_)
    · rw [if_pos h_2] at hm
      refine lv_iconst (v := 0) hx hb dX5_mayBe_25 (by decide) ?_
      cases hm
      exact x_zret X (by decide) hP hS hr hlocks dX5_mayBe_26
    · rw [if_neg h_2] at hm
      refine lv_iload_n hx hb dX5_mayBe_10 rfl (lv_at hl 2 rfl) ?_
      refine lv_if_lt (tgt := 25) hx hb dX5_mayBe_11 (by decide) (fun h_3 => ?_) (fun h_3 => ?_)
      · rw [if_pos h_3] at hm
        refine lv_iconst (v := 0) hx hb dX5_mayBe_25 (by decide) ?_
        cases hm
        exact x_zret X (by decide) hP hS hr hlocks dX5_mayBe_26
      · rw [if_neg h_3] at hm
        refine lv_iload_n hx hb dX5_mayBe_14 rfl (lv_at hl 2 rfl) ?_
        refine lv_aload_n hx hb dX5_mayBe_15 rfl (lv_at hl 0 rfl) ?_
        refine lv_iload_n hx hb dX5_mayBe_16 rfl (lv_at hl 1 rfl) ?_
        obtain ⟨hb_4, hm⟩ := chk_elim hm
        refine x_stld (i := i0) X hS oki0 hb_4 dX5_mayBe_17 ?_
        refine lv_icmp_gt (tgt := 25) hx hb dX5_mayBe_18 (by decide) (fun h_5 => ?_) (fun h_5 => ?_)
        · rw [if_pos h_5] at hm
          refine lv_iconst (v := 0) hx hb dX5_mayBe_25 (by decide) ?_
          cases hm
          exact x_zret X (by decide) hP hS hr hlocks dX5_mayBe_26
        · rw [if_neg h_5] at hm
          refine lv_iconst (v := 1) hx hb dX5_mayBe_21 (by decide) ?_
          refine lv_goto (tgt := 26) hx hb dX5_mayBe_22 (by decide) ?_
          cases hm
          exact x_zret X (by decide) hP hS hr hlocks dX5_mayBe_26


/-! X5_farm -/
def rmX5_farm : Room := { frames := 1, cells := 0, slots := 0, locals := 22 }
theorem uX5_farm_X5 : ∀ w ∈ wsX50, w ∈ wsX5_farm := by decide +kernel
theorem mbX5_farm_1 : Cond.fieldLink RX5 12 "FootANight" "now" "LFootANight$Ring;" ∈ wsX5_farm := by decide +kernel
theorem mbX5_farm_2 : Cond.fieldLink RX5 72 "FootANight" "FARM_MOST" "[I" ∈ wsX5_farm := by decide +kernel
theorem uX5_farm_X4 : ∀ w ∈ wsX40, w ∈ wsX5_farm := by decide +kernel
theorem mbX5_farm_4 : Cond.fieldLink RX5 79 "FootANight$Ring" "lands" "[[I" ∈ wsX5_farm := by decide +kernel
set_option maxHeartbeats 4000000 in
set_option maxRecDepth 100000 in
theorem c_X5_farm (l : Launch) {g : GT} (hA : AxG g) (hAll : okAll g)   {M : Mem} {a1 : Int32} {a2 : Int32} {a3 : Int32} {rr : Int32} {MM : Mem} (hm : m_X5_farm M a1 a2 a3 = some (rr, MM)) : CI l yX5_farm wsX5_farm rmX5_farm g [.ref (ga g 146), .int a1, .int a2, .int a3] M rr MM := by
  refine Met.ofW (cc := cX5_farm) (maxL := 4) (ret := (some .boolean)) (by decide) rfl ?_
  intro p e s m args below meth c s₁ B hml hv
  obtain ⟨rfl, hSx, hP⟩ := hv
  have hr := B.returns
  have hlocks := B.notSynchronized
  have X : CxG g p s m _ c cX5_farm 4 RX5 wsX5_farm := ⟨⟨B.exec, B.bytes, hml, findClass_of_methodNamed B.named, atoms_spec (ws := wsX5_farm) B.pre⟩, hSx, hA⟩
  have hS : va_S (AbG g) s.heap s.heap [] := va_S.rf
  have hl := lv_entry (([.ref (ga g 146), .int a1, .int a2, .int a3] : List Value)) (n := 4) (Nat.le_of_ble_eq_true rfl)
  rw [lg_entry_eq]
  generalize (lg_sl (([.ref (ga g 146), .int a1, .int a2, .int a3] : List Value)) ++ List.replicate (4 - (lg_sl (([.ref (ga g 146), .int a1, .int a2, .int a3] : List Value))).length) Slot.unset).toArray = ls at hl ⊢
  have hl : lv_has ls 4 [(0, .ref (ga g 146)), (1, .int a1), (2, .int a2), (3, .int a3)] := hl
  obtain ⟨⟨hx, hb, hml, hown, hts⟩, -, -⟩ := id X
  unfold m_X5_farm at hm
  refine lv_aload_n hx hb dX5_farm_0 rfl (lv_at hl 0 rfl) ?_
  refine xg_X5_0 X hP hAll uX5_farm_X5 mbX5_farm_1 dX5_farm_1 ?_
  refine lv_iload_n hx hb dX5_farm_4 rfl (lv_at hl 1 rfl) ?_
  obtain ⟨r_2, hc_1, hm⟩ := bind_elim hm
  refine x_calli (x_runV (As := [.int a1]) (rest := []) X hP hS (c_X4_has l X.2.2 (hAll.ring (Or.inl rfl)) hc_1) (cwV 1 hts gX5_farm_X4_has rfl rfl rfl (by decide +kernel) ⟨Nat.le_of_ble_eq_true rfl, Nat.le_of_ble_eq_true rfl⟩) (x_recv (C := RX4) (T := TX4) (N := 12) X hP (hAll.ring (Or.inl rfl)).obj rfl) rfl hl.1 rfl (Nat.le_of_ble_eq_true rfl) dX5_farm_5 ⟨Nat.zero_le _, Nat.zero_le _⟩) hS (fun H locs hP hS => ?_)
  refine lv_if_eq (tgt := 22) hx hb dX5_farm_8 (by decide) (fun h_3 => ?_) (fun h_3 => ?_)
  · rw [if_pos h_3] at hm
    refine lv_iconst (v := 0) hx hb dX5_farm_22 (by decide) ?_
    cases hm
    exact x_zret X (by decide) hP hS hr hlocks dX5_farm_23
  · rw [if_neg h_3] at hm
    refine x_gets X hS 0 (by decide) mbX5_farm_2 dX5_farm_11 ?_
    refine lv_iload_n hx hb dX5_farm_14 rfl (lv_at hl 2 rfl) ?_
    refine lv_iload_n hx hb dX5_farm_15 rfl (lv_at hl 3 rfl) ?_
    obtain ⟨r_5, hc_4, hm⟩ := bind_elim hm
    refine x_calli (x_runS (As := [.ref (gs g 0), .int a2, .int a3]) (rest := []) X hP hS (c_X5_mayBe l X.2.2 (by decide) hc_4) (va_cwS 3 hts gX5_farm_X5_mayBe rfl rfl rfl (by decide +kernel) ⟨Nat.le_of_ble_eq_true rfl, Nat.le_of_ble_eq_true rfl⟩) rfl hl.1 rfl (Nat.le_of_ble_eq_true rfl) dX5_farm_16 ⟨Nat.zero_le _, Nat.zero_le _⟩) hS (fun H locs hP hS => ?_)
    refine lv_if_ne (tgt := 24) hx hb dX5_farm_19 (by decide) (fun h_6 => ?_) (fun h_6 => ?_)
    · rw [if_neg h_6] at hm
      refine lv_aload_n hx hb dX5_farm_24 rfl (lv_at hl 0 rfl) ?_
      refine xg_X5_0 X hP hAll uX5_farm_X5 mbX5_farm_1 dX5_farm_25 ?_
      refine xg_X4_5 X hP (hAll.ring (Or.inl rfl)) uX5_farm_X4 mbX5_farm_4 dX5_farm_28 ?_
      refine lv_iload_n hx hb dX5_farm_31 rfl (lv_at hl 1 rfl) ?_
      obtain ⟨hb_7, hm⟩ := chk_elim hm
      refine x_aaldI X hP (hAll.ring (Or.inl rfl)).lands hb_7 dX5_farm_32 ?_
      refine lv_iload_n hx hb dX5_farm_33 rfl (lv_at hl 2 rfl) ?_
      refine lv_iload_n hx hb dX5_farm_34 rfl (lv_at hl 3 rfl) ?_
      obtain ⟨hb_8, hm⟩ := chk_elim hm
      obtain ⟨M_9, hM_10, hm⟩ := bnd_elim hm
      refine x_iast X hP hS ((hAll.ring (Or.inl rfl)).land (inb_lt hb_7)) hM_10 hb_8 dX5_farm_35 (fun H locs hP hS => ?_)
      refine lv_iconst (v := 1) hx hb dX5_farm_36 (by decide) ?_
      cases hm
      exact x_zret X (by decide) hP hS hr hlocks dX5_farm_37
    · rw [if_pos h_6] at hm
      refine lv_iconst (v := 0) hx hb dX5_farm_22 (by decide) ?_
      cases hm
      exact x_zret X (by decide) hP hS hr hlocks dX5_farm_23


/-! X5_border -/
def rmX5_border : Room := { frames := 1, cells := 0, slots := 0, locals := 22 }
theorem uX5_border_X5 : ∀ w ∈ wsX50, w ∈ wsX5_border := by decide +kernel
theorem mbX5_border_1 : Cond.fieldLink RX5 12 "FootANight" "now" "LFootANight$Ring;" ∈ wsX5_border := by decide +kernel
theorem mbX5_border_2 : Cond.fieldLink RX5 83 "FootANight" "BORDER_MOST" "[I" ∈ wsX5_border := by decide +kernel
theorem uX5_border_X4 : ∀ w ∈ wsX40, w ∈ wsX5_border := by decide +kernel
theorem mbX5_border_4 : Cond.fieldLink RX5 86 "FootANight$Ring" "stakes" "[[I" ∈ wsX5_border := by decide +kernel
set_option maxHeartbeats 4000000 in
set_option maxRecDepth 100000 in
theorem c_X5_border (l : Launch) {g : GT} (hA : AxG g) (hAll : okAll g)   {M : Mem} {a1 : Int32} {a2 : Int32} {a3 : Int32} {rr : Int32} {MM : Mem} (hm : m_X5_border M a1 a2 a3 = some (rr, MM)) : CI l yX5_border wsX5_border rmX5_border g [.ref (ga g 146), .int a1, .int a2, .int a3] M rr MM := by
  refine Met.ofW (cc := cX5_border) (maxL := 4) (ret := (some .boolean)) (by decide) rfl ?_
  intro p e s m args below meth c s₁ B hml hv
  obtain ⟨rfl, hSx, hP⟩ := hv
  have hr := B.returns
  have hlocks := B.notSynchronized
  have X : CxG g p s m _ c cX5_border 4 RX5 wsX5_border := ⟨⟨B.exec, B.bytes, hml, findClass_of_methodNamed B.named, atoms_spec (ws := wsX5_border) B.pre⟩, hSx, hA⟩
  have hS : va_S (AbG g) s.heap s.heap [] := va_S.rf
  have hl := lv_entry (([.ref (ga g 146), .int a1, .int a2, .int a3] : List Value)) (n := 4) (Nat.le_of_ble_eq_true rfl)
  rw [lg_entry_eq]
  generalize (lg_sl (([.ref (ga g 146), .int a1, .int a2, .int a3] : List Value)) ++ List.replicate (4 - (lg_sl (([.ref (ga g 146), .int a1, .int a2, .int a3] : List Value))).length) Slot.unset).toArray = ls at hl ⊢
  have hl : lv_has ls 4 [(0, .ref (ga g 146)), (1, .int a1), (2, .int a2), (3, .int a3)] := hl
  obtain ⟨⟨hx, hb, hml, hown, hts⟩, -, -⟩ := id X
  unfold m_X5_border at hm
  refine lv_aload_n hx hb dX5_border_0 rfl (lv_at hl 0 rfl) ?_
  refine xg_X5_0 X hP hAll uX5_border_X5 mbX5_border_1 dX5_border_1 ?_
  refine lv_iload_n hx hb dX5_border_4 rfl (lv_at hl 1 rfl) ?_
  obtain ⟨r_2, hc_1, hm⟩ := bind_elim hm
  refine x_calli (x_runV (As := [.int a1]) (rest := []) X hP hS (c_X4_has l X.2.2 (hAll.ring (Or.inl rfl)) hc_1) (cwV 1 hts gX5_border_X4_has rfl rfl rfl (by decide +kernel) ⟨Nat.le_of_ble_eq_true rfl, Nat.le_of_ble_eq_true rfl⟩) (x_recv (C := RX4) (T := TX4) (N := 12) X hP (hAll.ring (Or.inl rfl)).obj rfl) rfl hl.1 rfl (Nat.le_of_ble_eq_true rfl) dX5_border_5 ⟨Nat.zero_le _, Nat.zero_le _⟩) hS (fun H locs hP hS => ?_)
  refine lv_if_eq (tgt := 22) hx hb dX5_border_8 (by decide) (fun h_3 => ?_) (fun h_3 => ?_)
  · rw [if_pos h_3] at hm
    refine lv_iconst (v := 0) hx hb dX5_border_22 (by decide) ?_
    cases hm
    exact x_zret X (by decide) hP hS hr hlocks dX5_border_23
  · rw [if_neg h_3] at hm
    refine x_gets X hS 1 (by decide) mbX5_border_2 dX5_border_11 ?_
    refine lv_iload_n hx hb dX5_border_14 rfl (lv_at hl 2 rfl) ?_
    refine lv_iload_n hx hb dX5_border_15 rfl (lv_at hl 3 rfl) ?_
    obtain ⟨r_5, hc_4, hm⟩ := bind_elim hm
    refine x_calli (x_runS (As := [.ref (gs g 1), .int a2, .int a3]) (rest := []) X hP hS (c_X5_mayBe l X.2.2 (by decide) hc_4) (va_cwS 3 hts gX5_border_X5_mayBe rfl rfl rfl (by decide +kernel) ⟨Nat.le_of_ble_eq_true rfl, Nat.le_of_ble_eq_true rfl⟩) rfl hl.1 rfl (Nat.le_of_ble_eq_true rfl) dX5_border_16 ⟨Nat.zero_le _, Nat.zero_le _⟩) hS (fun H locs hP hS => ?_)
    refine lv_if_ne (tgt := 24) hx hb dX5_border_19 (by decide) (fun h_6 => ?_) (fun h_6 => ?_)
    · rw [if_neg h_6] at hm
      refine lv_aload_n hx hb dX5_border_24 rfl (lv_at hl 0 rfl) ?_
      refine xg_X5_0 X hP hAll uX5_border_X5 mbX5_border_1 dX5_border_25 ?_
      refine xg_X4_7 X hP (hAll.ring (Or.inl rfl)) uX5_border_X4 mbX5_border_4 dX5_border_28 ?_
      refine lv_iload_n hx hb dX5_border_31 rfl (lv_at hl 1 rfl) ?_
      obtain ⟨hb_7, hm⟩ := chk_elim hm
      refine x_aaldI X hP (hAll.ring (Or.inl rfl)).stakes hb_7 dX5_border_32 ?_
      refine lv_iload_n hx hb dX5_border_33 rfl (lv_at hl 2 rfl) ?_
      refine lv_iload_n hx hb dX5_border_34 rfl (lv_at hl 3 rfl) ?_
      obtain ⟨hb_8, hm⟩ := chk_elim hm
      obtain ⟨M_9, hM_10, hm⟩ := bnd_elim hm
      refine x_iast X hP hS ((hAll.ring (Or.inl rfl)).stake (inb_lt hb_7)) hM_10 hb_8 dX5_border_35 (fun H locs hP hS => ?_)
      refine lv_aload_n hx hb dX5_border_36 rfl (lv_at hl 0 rfl) ?_
      refine xg_X5_0 X hP hAll uX5_border_X5 mbX5_border_1 dX5_border_37 ?_
      refine xg_X4_7 X hP (hAll.ring (Or.inl rfl)) uX5_border_X4 mbX5_border_4 dX5_border_40 ?_
      refine lv_iload_n hx hb dX5_border_43 rfl (lv_at hl 1 rfl) ?_
      refine x_aaldI X hP (hAll.ring (Or.inl rfl)).stakes hb_7 dX5_border_44 ?_
      refine lv_iconst (v := 2) hx hb dX5_border_45 (by decide) ?_
      refine lv_iconst (v := 0) hx hb dX5_border_46 (by decide) ?_
      obtain ⟨M_11, hM_12, hm⟩ := bnd_elim hm
      refine x_iast X hP hS ((hAll.ring (Or.inl rfl)).stake (inb_lt hb_7)) hM_12 (show inb 2 4 = true from rfl) dX5_border_47 (fun H locs hP hS => ?_)
      refine lv_iconst (v := 1) hx hb dX5_border_48 (by decide) ?_
      cases hm
      exact x_zret X (by decide) hP hS hr hlocks dX5_border_49
    · rw [if_pos h_6] at hm
      refine lv_iconst (v := 0) hx hb dX5_border_22 (by decide) ?_
      cases hm
      exact x_zret X (by decide) hP hS hr hlocks dX5_border_23


/-! X5_set -/
def rmX5_set : Room := { frames := 1, cells := 0, slots := 0, locals := 22 }
theorem mbX5_set_0 : Cond.fieldLink RX5 89 "FootANight" "SETTING_MOST" "[I" ∈ wsX5_set := by decide +kernel
theorem uX5_set_X5 : ∀ w ∈ wsX50, w ∈ wsX5_set := by decide +kernel
theorem mbX5_set_2 : Cond.fieldLink RX5 12 "FootANight" "now" "LFootANight$Ring;" ∈ wsX5_set := by decide +kernel
theorem uX5_set_X4 : ∀ w ∈ wsX40, w ∈ wsX5_set := by decide +kernel
theorem mbX5_set_4 : Cond.fieldLink RX5 92 "FootANight$Ring" "told" "[I" ∈ wsX5_set := by decide +kernel
set_option maxHeartbeats 4000000 in
set_option maxRecDepth 100000 in
theorem c_X5_set (l : Launch) {g : GT} (hA : AxG g) (hAll : okAll g)   {M : Mem} {a1 : Int32} {a2 : Int32} {rr : Int32} {MM : Mem} (hm : m_X5_set M a1 a2 = some (rr, MM)) : CI l yX5_set wsX5_set rmX5_set g [.ref (ga g 146), .int a1, .int a2] M rr MM := by
  refine Met.ofW (cc := cX5_set) (maxL := 3) (ret := (some .boolean)) (by decide) rfl ?_
  intro p e s m args below meth c s₁ B hml hv
  obtain ⟨rfl, hSx, hP⟩ := hv
  have hr := B.returns
  have hlocks := B.notSynchronized
  have X : CxG g p s m _ c cX5_set 3 RX5 wsX5_set := ⟨⟨B.exec, B.bytes, hml, findClass_of_methodNamed B.named, atoms_spec (ws := wsX5_set) B.pre⟩, hSx, hA⟩
  have hS : va_S (AbG g) s.heap s.heap [] := va_S.rf
  have hl := lv_entry (([.ref (ga g 146), .int a1, .int a2] : List Value)) (n := 3) (Nat.le_of_ble_eq_true rfl)
  rw [lg_entry_eq]
  generalize (lg_sl (([.ref (ga g 146), .int a1, .int a2] : List Value)) ++ List.replicate (3 - (lg_sl (([.ref (ga g 146), .int a1, .int a2] : List Value))).length) Slot.unset).toArray = ls at hl ⊢
  have hl : lv_has ls 3 [(0, .ref (ga g 146)), (1, .int a1), (2, .int a2)] := hl
  obtain ⟨⟨hx, hb, hml, hown, hts⟩, -, -⟩ := id X
  unfold m_X5_set at hm
  refine x_gets X hS 2 (by decide) mbX5_set_0 dX5_set_0 ?_
  refine lv_iload_n hx hb dX5_set_3 rfl (lv_at hl 1 rfl) ?_
  refine lv_iload_n hx hb dX5_set_4 rfl (lv_at hl 2 rfl) ?_
  obtain ⟨r_2, hc_1, hm⟩ := bind_elim hm
  refine x_calli (x_runS (As := [.ref (gs g 2), .int a1, .int a2]) (rest := []) X hP hS (c_X5_mayBe l X.2.2 (by decide) hc_1) (va_cwS 3 hts gX5_set_X5_mayBe rfl rfl rfl (by decide +kernel) ⟨Nat.le_of_ble_eq_true rfl, Nat.le_of_ble_eq_true rfl⟩) rfl hl.1 rfl (Nat.le_of_ble_eq_true rfl) dX5_set_5 ⟨Nat.zero_le _, Nat.zero_le _⟩) hS (fun H locs hP hS => ?_)
  refine lv_if_ne (tgt := 13) hx hb dX5_set_8 (by decide) (fun h_3 => ?_) (fun h_3 => ?_)
  · rw [if_neg h_3] at hm
    refine lv_aload_n hx hb dX5_set_13 rfl (lv_at hl 0 rfl) ?_
    refine xg_X5_0 X hP hAll uX5_set_X5 mbX5_set_2 dX5_set_14 ?_
    refine xg_X4_4 X hP (hAll.ring (Or.inl rfl)) uX5_set_X4 mbX5_set_4 dX5_set_17 ?_
    refine lv_iload_n hx hb dX5_set_20 rfl (lv_at hl 1 rfl) ?_
    refine lv_iload_n hx hb dX5_set_21 rfl (lv_at hl 2 rfl) ?_
    obtain ⟨hb_4, hm⟩ := chk_elim hm
    obtain ⟨M_5, hM_6, hm⟩ := bnd_elim hm
    refine x_iast X hP hS (hAll.ring (Or.inl rfl)).told hM_6 hb_4 dX5_set_22 (fun H locs hP hS => ?_)
    refine lv_iconst (v := 1) hx hb dX5_set_23 (by decide) ?_
    cases hm
    exact x_zret X (by decide) hP hS hr hlocks dX5_set_24
  · rw [if_pos h_3] at hm
    refine lv_iconst (v := 0) hx hb dX5_set_11 (by decide) ?_
    cases hm
    exact x_zret X (by decide) hP hS hr hlocks dX5_set_12


/-! X5_worth -/
def rmX5_worth : Room := { frames := 2, cells := 0, slots := 0, locals := 42 }
theorem uX5_worth_X5 : ∀ w ∈ wsX50, w ∈ wsX5_worth := by decide +kernel
theorem mbX5_worth_1 : Cond.fieldLink RX5 12 "FootANight" "now" "LFootANight$Ring;" ∈ wsX5_worth := by decide +kernel
set_option maxHeartbeats 4000000 in
set_option maxRecDepth 100000 in
theorem wj_X5_worth_11 (X : CxG g p s m args c cX5_worth 2 RX5 wsX5_worth) (hAll : okAll g) {M : Mem} {rr : Int32} (hr : meth.sig.returnType = (some .int)) (hlocks : meth.locks = false) (hm : j_X5_worth_11 M = some rr) {H : Heap} {locs : List Loc} {ls : Array Slot} (hP : va_P (gD g) vwCl (wlG g M) H) (hS : va_S (AbG g) s.heap H locs) (hl : lv_has ls 2 []) : W p l e (headSpec wsX5_worth rmX5_worth).room s m args below meth c H locs 0 0 (MQ below (va_Qi (fun (q : Int32) (_ : Unit) => q = rr) (fun _ t => va_P (gD g) vwCl (wlG g M) t.heap) (AbG g)) args s 0 0 (AbG g)) (F0 m 11 ls []) := by
  obtain ⟨⟨hx, hb, hml, hown, hts⟩, -, -⟩ := id X
  unfold j_X5_worth_11 at hm
  refine lv_iconst (v := (-1)) hx hb dX5_worth_11 (by decide) ?_
  refine lv_goto (tgt := 23) hx hb dX5_worth_12 (by decide) ?_
  cases hm
  exact x_iret X hP hS hr hlocks dX5_worth_23

set_option maxHeartbeats 4000000 in
set_option maxRecDepth 100000 in
theorem c_X5_worth (l : Launch) {g : GT} (hA : AxG g) (hAll : okAll g)   {M : Mem} {a1 : Int32} {rr : Int32} (hm : m_X5_worth M a1 = some rr) : CI l yX5_worth wsX5_worth rmX5_worth g [.ref (ga g 146), .int a1] M rr M := by
  refine Met.ofW (cc := cX5_worth) (maxL := 2) (ret := (some .int)) (by decide) rfl ?_
  intro p e s m args below meth c s₁ B hml hv
  obtain ⟨rfl, hSx, hP⟩ := hv
  have hr := B.returns
  have hlocks := B.notSynchronized
  have X : CxG g p s m _ c cX5_worth 2 RX5 wsX5_worth := ⟨⟨B.exec, B.bytes, hml, findClass_of_methodNamed B.named, atoms_spec (ws := wsX5_worth) B.pre⟩, hSx, hA⟩
  have hS : va_S (AbG g) s.heap s.heap [] := va_S.rf
  have hl := lv_entry (([.ref (ga g 146), .int a1] : List Value)) (n := 2) (Nat.le_of_ble_eq_true rfl)
  rw [lg_entry_eq]
  generalize (lg_sl (([.ref (ga g 146), .int a1] : List Value)) ++ List.replicate (2 - (lg_sl (([.ref (ga g 146), .int a1] : List Value))).length) Slot.unset).toArray = ls at hl ⊢
  have hl : lv_has ls 2 [(0, .ref (ga g 146)), (1, .int a1)] := hl
  obtain ⟨⟨hx, hb, hml, hown, hts⟩, -, -⟩ := id X
  unfold m_X5_worth at hm
  refine lv_iload_n hx hb dX5_worth_0 rfl (lv_at hl 1 rfl) ?_
  refine lv_if_lt (tgt := 11) hx hb dX5_worth_1 (by decide) (fun h_1 => ?_) (fun h_1 => ?_)
  · rw [if_pos h_1] at hm
    exact wj_X5_worth_11 X hAll hr hlocks hm hP hS (lv_sub hl [] rfl)
  · rw [if_neg h_1] at hm
    refine lv_iload_n hx hb dX5_worth_4 rfl (lv_at hl 1 rfl) ?_
    refine lv_sipush (v := 600) hx hb dX5_worth_5 (by decide) ?_
    refine lv_icmp_le (tgt := 15) hx hb dX5_worth_8 (by decide) (fun h_2 => ?_) (fun h_2 => ?_)
    · rw [if_pos h_2] at hm
      refine lv_aload_n hx hb dX5_worth_15 rfl (lv_at hl 0 rfl) ?_
      refine xg_X5_0 X hP hAll uX5_worth_X5 mbX5_worth_1 dX5_worth_16 ?_
      refine lv_iload_n hx hb dX5_worth_19 rfl (lv_at hl 1 rfl) ?_
      obtain ⟨r_4, hc_3, hm⟩ := bind_elim hm
      refine x_calli (x_runV (As := [.int a1]) (rest := []) X hP hS (c_X4_worthOf l X.2.2 (hAll.ring (Or.inl rfl)) hc_3) (cwV 1 hts gX5_worth_X4_worthOf rfl rfl rfl (by decide +kernel) ⟨Nat.le_of_ble_eq_true rfl, Nat.le_of_ble_eq_true rfl⟩) (x_recv (C := RX4) (T := TX4) (N := 12) X hP (hAll.ring (Or.inl rfl)).obj rfl) rfl hl.1 rfl (Nat.le_of_ble_eq_true rfl) dX5_worth_20 ⟨Nat.zero_le _, Nat.zero_le _⟩) hS (fun H locs hP hS => ?_)
      cases hm
      exact x_iret X hP hS hr hlocks dX5_worth_23
    · rw [if_neg h_2] at hm
      exact wj_X5_worth_11 X hAll hr hlocks hm hP hS (lv_sub hl [] rfl)


/-! X5_putBytes -/
def rmX5_putBytes : Room := { frames := 0, cells := 0, slots := 0, locals := 0 }
theorem uX5_putBytes_X5 : ∀ w ∈ wsX50, w ∈ wsX5_putBytes := by decide +kernel
theorem mbX5_putBytes_1 : Cond.fieldLink RX5 47 "FootANight" "tapeLength" "I" ∈ wsX5_putBytes := by decide +kernel
theorem mbX5_putBytes_2 : Cond.fieldLink RX5 43 "FootANight" "tape" "[I" ∈ wsX5_putBytes := by decide +kernel
set_option maxHeartbeats 4000000 in
set_option maxRecDepth 100000 in
theorem wl_X5_putBytes_3 (X : CxG g p s m args c cX5_putBytes 3 RX5 wsX5_putBytes) (hAll : okAll g) {fu : Nat} {s1 : Int32} {x : Mem} (kx0 : ∀ (M2 : Mem) , x = M2 → ∀ (H : Heap) (locs : List Loc) (ls : Array Slot), va_P (gD g) vwCl (wlG g M2) H → va_S (AbG g) s.heap H locs → lv_has ls 3 [] → W p l e (headSpec wsX5_putBytes rmX5_putBytes).room s m args below meth c H locs 0 0 Q (F0 m 49 ls [])) {n : Nat} {q0 : Int32 × Mem} (h : lp (b_X5_putBytes_3 fu s1) n q0 = some x) : ∀ (H : Heap) (locs : List Loc) (ls : Array Slot), va_P (gD g) vwCl (wlG g q0.2) H → va_S (AbG g) s.heap H locs → lv_has ls 3 [(0, .ref (ga g 146)), (1, .int s1), (2, .int q0.1)] → W p l e (headSpec wsX5_putBytes rmX5_putBytes).room s m args below meth c H locs 0 0 Q (F0 m 3 ls []) := by
  refine lp_elim (P := fun q0 : Int32 × Mem => ∀ (H : Heap) (locs : List Loc) (ls : Array Slot), va_P (gD g) vwCl (wlG g q0.2) H → va_S (AbG g) s.heap H locs → lv_has ls 3 [(0, .ref (ga g 146)), (1, .int s1), (2, .int q0.1)] → W p l e (headSpec wsX5_putBytes rmX5_putBytes).room s m args below meth c H locs 0 0 Q (F0 m 3 ls [])) (fun q1 o hm hI hX => ?_) n q0 h
  obtain ⟨c2, M⟩ := q1
  have kb : ∀ (d2 : Int32) (M2 : Mem) , o = .inl (d2, M2) → ∀ (H : Heap) (locs : List Loc) (ls : Array Slot), va_P (gD g) vwCl (wlG g M2) H → va_S (AbG g) s.heap H locs → lv_has ls 3 [(0, .ref (ga g 146)), (1, .int s1), (2, .int d2)] → W p l e (headSpec wsX5_putBytes rmX5_putBytes).room s m args below meth c H locs 0 0 Q (F0 m 3 ls []) := fun d2 M2 e => hI _ e
  have kx0 : ∀ (M2 : Mem) , o = .inr M2 → ∀ (H : Heap) (locs : List Loc) (ls : Array Slot), va_P (gD g) vwCl (wlG g M2) H → va_S (AbG g) s.heap H locs → lv_has ls 3 [] → W p l e (headSpec wsX5_putBytes rmX5_putBytes).room s m args below meth c H locs 0 0 Q (F0 m 49 ls []) := fun M2 e => kx0 M2 (hX _ e).symm
  clear hI hX
  intro H locs ls hP hS hl
  obtain ⟨⟨hx, hb, hml, hown, hts⟩, -, -⟩ := id X
  have hl : lv_has ls 3 [(0, .ref (ga g 146)), (1, .int s1), (2, .int c2)] := hl
  have hP : va_P (gD g) vwCl (wlG g M) H := hP
  unfold b_X5_putBytes_3 at hm
  replace hm := un2_e hm
  refine lv_iload_n hx hb dX5_putBytes_3 rfl (lv_at hl 2 rfl) ?_
  refine lv_if_lt (tgt := 49) hx hb dX5_putBytes_4 (by decide) (fun h_1 => ?_) (fun h_1 => ?_)
  · rw [if_pos h_1] at hm
    exact kx0 M (Option.some.inj hm).symm _ _ _ hP hS (lv_sub hl [] rfl)
  · rw [if_neg h_1] at hm
    refine lv_aload_n hx hb dX5_putBytes_7 rfl (lv_at hl 0 rfl) ?_
    refine xg_X5_7 X hP hAll uX5_putBytes_X5 mbX5_putBytes_1 dX5_putBytes_8 ?_
    refine lv_sipush (v := 400) hx hb dX5_putBytes_11 (by decide) ?_
    refine lv_icmp_ge (tgt := 49) hx hb dX5_putBytes_14 (by decide) (fun h_2 => ?_) (fun h_2 => ?_)
    · rw [if_pos h_2] at hm
      exact kx0 M (Option.some.inj hm).symm _ _ _ hP hS (lv_sub hl [] rfl)
    · rw [if_neg h_2] at hm
      refine lv_aload_n hx hb dX5_putBytes_17 rfl (lv_at hl 0 rfl) ?_
      refine xg_X5_6 X hP hAll uX5_putBytes_X5 mbX5_putBytes_2 dX5_putBytes_18 ?_
      refine lv_aload_n hx hb dX5_putBytes_21 rfl (lv_at hl 0 rfl) ?_
      refine xg_X5_7 X hP hAll uX5_putBytes_X5 mbX5_putBytes_1 dX5_putBytes_22 ?_
      refine lv_iload_n hx hb dX5_putBytes_25 rfl (lv_at hl 1 rfl) ?_
      refine lv_iload_n hx hb dX5_putBytes_26 rfl (lv_at hl 2 rfl) ?_
      refine lv_iushr (v := ushr s1 c2) hx hb dX5_putBytes_27 rfl ?_
      refine lv_sipush (v := 255) hx hb dX5_putBytes_28 (by decide) ?_
      refine lv_iand hx hb dX5_putBytes_31 ?_
      obtain ⟨hb_3, hm⟩ := chk_elim hm
      obtain ⟨M_4, hM_5, hm⟩ := bnd_elim hm
      refine x_iast X hP hS (okc_147 hAll) hM_5 hb_3 dX5_putBytes_32 (fun H locs hP hS => ?_)
      refine lv_aload_n hx hb dX5_putBytes_33 rfl (lv_at hl 0 rfl) ?_
      refine lv_dup hx hb dX5_putBytes_34 rfl ?_
      refine xg_X5_7 X hP hAll uX5_putBytes_X5 mbX5_putBytes_1 dX5_putBytes_35 ?_
      refine lv_iconst (v := 1) hx hb dX5_putBytes_38 (by decide) ?_
      refine lv_iadd hx hb dX5_putBytes_39 ?_
      obtain ⟨M_6, hM_7, hm⟩ := bnd_elim hm
      refine xp_X5_7 X hP hAll uX5_putBytes_X5 mbX5_putBytes_1 hS hM_7 dX5_putBytes_40 (fun H locs hP hS => ?_)
      obtain ⟨v_8, hv_9, hm⟩ := bnd_elim hm
      refine lv_iinc (v := v_8) (lv' := [(2, .int v_8), (0, .ref (ga g 146)), (1, .int s1)]) hx hb dX5_putBytes_43 hl (k := 2) rfl (by rw [hv_9]; rfl) (by decide) rfl (fun ls hl => ?_)
      refine lv_goto (tgt := 3) hx hb dX5_putBytes_46 (by decide) ?_
      exact kb v_8 M_6 (Option.some.inj hm).symm _ _ _ hP hS (lv_sub hl [1, 2, 0] rfl)

set_option maxHeartbeats 4000000 in
set_option maxRecDepth 100000 in
theorem c_X5_putBytes (l : Launch) {g : GT} (hA : AxG g) (hAll : okAll g)   {fu : Nat} {M : Mem} {a1 : Int32} {MM : Mem} (hm : m_X5_putBytes fu M a1 = some MM) : CV l yX5_putBytes wsX5_putBytes rmX5_putBytes g [.ref (ga g 146), .int a1] M MM := by
  refine Met.ofW (cc := cX5_putBytes) (maxL := 3) (ret := none) (by decide) rfl ?_
  intro p e s m args below meth c s₁ B hml hv
  obtain ⟨rfl, hSx, hP⟩ := hv
  have hr := B.returns
  have hlocks := B.notSynchronized
  have X : CxG g p s m _ c cX5_putBytes 3 RX5 wsX5_putBytes := ⟨⟨B.exec, B.bytes, hml, findClass_of_methodNamed B.named, atoms_spec (ws := wsX5_putBytes) B.pre⟩, hSx, hA⟩
  have hS : va_S (AbG g) s.heap s.heap [] := va_S.rf
  have hl := lv_entry (([.ref (ga g 146), .int a1] : List Value)) (n := 3) (Nat.le_of_ble_eq_true rfl)
  rw [lg_entry_eq]
  generalize (lg_sl (([.ref (ga g 146), .int a1] : List Value)) ++ List.replicate (3 - (lg_sl (([.ref (ga g 146), .int a1] : List Value))).length) Slot.unset).toArray = ls at hl ⊢
  have hl : lv_has ls 3 [(0, .ref (ga g 146)), (1, .int a1)] := hl
  obtain ⟨⟨hx, hb, hml, hown, hts⟩, -, -⟩ := id X
  unfold m_X5_putBytes at hm
  refine lv_bipush (v := 24) hx hb dX5_putBytes_0 (by decide) ?_
  refine lv_istore_n (lv' := [(2, .int 24), (0, .ref (ga g 146)), (1, .int a1)]) hx hb dX5_putBytes_2 rfl hl (by decide) rfl (fun ls hl => ?_)
  obtain ⟨M_12, hL_11, hm⟩ := bind_elim hm
  refine wl_X5_putBytes_3 X hAll ?_ hL_11 _ _ _ hP hS (lv_sub hl [1, 2, 0] rfl)
  · intro z_M_12 e_M_12 H locs ls hP hS hl
    subst e_M_12
    replace hm := un1_e hm
    cases hm
    exact x_vret X hP hS hr hlocks dX5_putBytes_49


/-! X5_feed -/
def rmX5_feed : Room := { frames := 1, cells := 0, slots := 0, locals := 22 }
theorem uX5_feed_X5 : ∀ w ∈ wsX50, w ∈ wsX5_feed := by decide +kernel
theorem mbX5_feed_1 : Cond.fieldLink RX5 47 "FootANight" "tapeLength" "I" ∈ wsX5_feed := by decide +kernel
set_option maxHeartbeats 4000000 in
set_option maxRecDepth 100000 in
theorem c_X5_feed (l : Launch) {g : GT} (hA : AxG g) (hAll : okAll g)   {fu : Nat} {M : Mem} {a1 : Int32} {a2 : Int32} {a3 : Int32} {a4 : Int32} {a5 : Int32} {rr : Int32} {MM : Mem} (hm : m_X5_feed fu M a1 a2 a3 a4 a5 = some (rr, MM)) : CI l yX5_feed wsX5_feed rmX5_feed g [.ref (ga g 146), .int a1, .int a2, .int a3, .int a4, .int a5] M rr MM := by
  refine Met.ofW (cc := cX5_feed) (maxL := 6) (ret := (some .int)) (by decide) rfl ?_
  intro p e s m args below meth c s₁ B hml hv
  obtain ⟨rfl, hSx, hP⟩ := hv
  have hr := B.returns
  have hlocks := B.notSynchronized
  have X : CxG g p s m _ c cX5_feed 6 RX5 wsX5_feed := ⟨⟨B.exec, B.bytes, hml, findClass_of_methodNamed B.named, atoms_spec (ws := wsX5_feed) B.pre⟩, hSx, hA⟩
  have hS : va_S (AbG g) s.heap s.heap [] := va_S.rf
  have hl := lv_entry (([.ref (ga g 146), .int a1, .int a2, .int a3, .int a4, .int a5] : List Value)) (n := 6) (Nat.le_of_ble_eq_true rfl)
  rw [lg_entry_eq]
  generalize (lg_sl (([.ref (ga g 146), .int a1, .int a2, .int a3, .int a4, .int a5] : List Value)) ++ List.replicate (6 - (lg_sl (([.ref (ga g 146), .int a1, .int a2, .int a3, .int a4, .int a5] : List Value))).length) Slot.unset).toArray = ls at hl ⊢
  have hl : lv_has ls 6 [(0, .ref (ga g 146)), (1, .int a1), (2, .int a2), (3, .int a3), (4, .int a4), (5, .int a5)] := hl
  obtain ⟨⟨hx, hb, hml, hown, hts⟩, -, -⟩ := id X
  unfold m_X5_feed at hm
  refine lv_aload_n hx hb dX5_feed_0 rfl (lv_at hl 0 rfl) ?_
  refine xg_X5_7 X hP hAll uX5_feed_X5 mbX5_feed_1 dX5_feed_1 ?_
  refine lv_bipush (v := 20) hx hb dX5_feed_4 (by decide) ?_
  refine lv_iadd hx hb dX5_feed_6 ?_
  refine lv_sipush (v := 400) hx hb dX5_feed_7 (by decide) ?_
  refine lv_icmp_le (tgt := 15) hx hb dX5_feed_10 (by decide) (fun h_1 => ?_) (fun h_1 => ?_)
  · rw [if_pos h_1] at hm
    refine lv_aload_n hx hb dX5_feed_15 rfl (lv_at hl 0 rfl) ?_
    refine lv_iload_n hx hb dX5_feed_16 rfl (lv_at hl 1 rfl) ?_
    obtain ⟨M_3, hc_2, hm⟩ := bind_elim hm
    refine x_callv (x_runV (As := [.int a1]) (rest := []) X hP hS (c_X5_putBytes l X.2.2 hAll hc_2) (cwV 1 hts gX5_feed_X5_putBytes rfl rfl rfl (by decide +kernel) ⟨Nat.le_of_ble_eq_true rfl, Nat.le_of_ble_eq_true rfl⟩) (x_recv (C := RX5) (T := TX5) (N := 11) X hP (okc_146 hAll) rfl) rfl hl.1 rfl (Nat.le_of_ble_eq_true rfl) dX5_feed_17 ⟨Nat.zero_le _, Nat.zero_le _⟩) hS (fun H locs hP hS => ?_)
    refine lv_aload_n hx hb dX5_feed_20 rfl (lv_at hl 0 rfl) ?_
    refine lv_iload_n hx hb dX5_feed_21 rfl (lv_at hl 2 rfl) ?_
    obtain ⟨M_5, hc_4, hm⟩ := bind_elim hm
    refine x_callv (x_runV (As := [.int a2]) (rest := []) X hP hS (c_X5_putBytes l X.2.2 hAll hc_4) (cwV 1 hts gX5_feed_X5_putBytes rfl rfl rfl (by decide +kernel) ⟨Nat.le_of_ble_eq_true rfl, Nat.le_of_ble_eq_true rfl⟩) (x_recv (C := RX5) (T := TX5) (N := 11) X hP (okc_146 hAll) rfl) rfl hl.1 rfl (Nat.le_of_ble_eq_true rfl) dX5_feed_22 ⟨Nat.zero_le _, Nat.zero_le _⟩) hS (fun H locs hP hS => ?_)
    refine lv_aload_n hx hb dX5_feed_25 rfl (lv_at hl 0 rfl) ?_
    refine lv_iload_n hx hb dX5_feed_26 rfl (lv_at hl 3 rfl) ?_
    obtain ⟨M_7, hc_6, hm⟩ := bind_elim hm
    refine x_callv (x_runV (As := [.int a3]) (rest := []) X hP hS (c_X5_putBytes l X.2.2 hAll hc_6) (cwV 1 hts gX5_feed_X5_putBytes rfl rfl rfl (by decide +kernel) ⟨Nat.le_of_ble_eq_true rfl, Nat.le_of_ble_eq_true rfl⟩) (x_recv (C := RX5) (T := TX5) (N := 11) X hP (okc_146 hAll) rfl) rfl hl.1 rfl (Nat.le_of_ble_eq_true rfl) dX5_feed_27 ⟨Nat.zero_le _, Nat.zero_le _⟩) hS (fun H locs hP hS => ?_)
    refine lv_aload_n hx hb dX5_feed_30 rfl (lv_at hl 0 rfl) ?_
    refine lv_iload hx hb dX5_feed_31 (lv_at hl 4 rfl) ?_
    obtain ⟨M_9, hc_8, hm⟩ := bind_elim hm
    refine x_callv (x_runV (As := [.int a4]) (rest := []) X hP hS (c_X5_putBytes l X.2.2 hAll hc_8) (cwV 1 hts gX5_feed_X5_putBytes rfl rfl rfl (by decide +kernel) ⟨Nat.le_of_ble_eq_true rfl, Nat.le_of_ble_eq_true rfl⟩) (x_recv (C := RX5) (T := TX5) (N := 11) X hP (okc_146 hAll) rfl) rfl hl.1 rfl (Nat.le_of_ble_eq_true rfl) dX5_feed_33 ⟨Nat.zero_le _, Nat.zero_le _⟩) hS (fun H locs hP hS => ?_)
    refine lv_aload_n hx hb dX5_feed_36 rfl (lv_at hl 0 rfl) ?_
    refine lv_iload hx hb dX5_feed_37 (lv_at hl 5 rfl) ?_
    obtain ⟨M_11, hc_10, hm⟩ := bind_elim hm
    refine x_callv (x_runV (As := [.int a5]) (rest := []) X hP hS (c_X5_putBytes l X.2.2 hAll hc_10) (cwV 1 hts gX5_feed_X5_putBytes rfl rfl rfl (by decide +kernel) ⟨Nat.le_of_ble_eq_true rfl, Nat.le_of_ble_eq_true rfl⟩) (x_recv (C := RX5) (T := TX5) (N := 11) X hP (okc_146 hAll) rfl) rfl hl.1 rfl (Nat.le_of_ble_eq_true rfl) dX5_feed_39 ⟨Nat.zero_le _, Nat.zero_le _⟩) hS (fun H locs hP hS => ?_)
    refine lv_aload_n hx hb dX5_feed_42 rfl (lv_at hl 0 rfl) ?_
    refine xg_X5_7 X hP hAll uX5_feed_X5 mbX5_feed_1 dX5_feed_43 ?_
    cases hm
    exact x_iret X hP hS hr hlocks dX5_feed_46
  · rw [if_neg h_1] at hm
    refine lv_iconst (v := (-1)) hx hb dX5_feed_13 (by decide) ?_
    cases hm
    exact x_iret X hP hS hr hlocks dX5_feed_14


/-! X5_end -/
def rmX5_end : Room := { frames := 0, cells := 0, slots := 0, locals := 0 }
theorem uX5_end_X5 : ∀ w ∈ wsX50, w ∈ wsX5_end := by decide +kernel
theorem mbX5_end_1 : Cond.fieldLink RX5 47 "FootANight" "tapeLength" "I" ∈ wsX5_end := by decide +kernel
set_option maxHeartbeats 4000000 in
set_option maxRecDepth 100000 in
theorem c_X5_end (l : Launch) {g : GT} (hA : AxG g) (hAll : okAll g)   {M : Mem} {a1 : Int32} {rr : Int32} {MM : Mem} (hm : m_X5_end M a1 = some (rr, MM)) : CI l yX5_end wsX5_end rmX5_end g [.ref (ga g 146), .int a1] M rr MM := by
  refine Met.ofW (cc := cX5_end) (maxL := 2) (ret := (some .boolean)) (by decide) rfl ?_
  intro p e s m args below meth c s₁ B hml hv
  obtain ⟨rfl, hSx, hP⟩ := hv
  have hr := B.returns
  have hlocks := B.notSynchronized
  have X : CxG g p s m _ c cX5_end 2 RX5 wsX5_end := ⟨⟨B.exec, B.bytes, hml, findClass_of_methodNamed B.named, atoms_spec (ws := wsX5_end) B.pre⟩, hSx, hA⟩
  have hS : va_S (AbG g) s.heap s.heap [] := va_S.rf
  have hl := lv_entry (([.ref (ga g 146), .int a1] : List Value)) (n := 2) (Nat.le_of_ble_eq_true rfl)
  rw [lg_entry_eq]
  generalize (lg_sl (([.ref (ga g 146), .int a1] : List Value)) ++ List.replicate (2 - (lg_sl (([.ref (ga g 146), .int a1] : List Value))).length) Slot.unset).toArray = ls at hl ⊢
  have hl : lv_has ls 2 [(0, .ref (ga g 146)), (1, .int a1)] := hl
  obtain ⟨⟨hx, hb, hml, hown, hts⟩, -, -⟩ := id X
  unfold m_X5_end at hm
  refine lv_iload_n hx hb dX5_end_0 rfl (lv_at hl 1 rfl) ?_
  refine lv_if_lt (tgt := 12) hx hb dX5_end_1 (by decide) (fun h_1 => ?_) (fun h_1 => ?_)
  · rw [if_pos h_1] at hm
    refine lv_iconst (v := 0) hx hb dX5_end_12 (by decide) ?_
    cases hm
    exact x_zret X (by decide) hP hS hr hlocks dX5_end_13
  · rw [if_neg h_1] at hm
    refine lv_iload_n hx hb dX5_end_4 rfl (lv_at hl 1 rfl) ?_
    refine lv_aload_n hx hb dX5_end_5 rfl (lv_at hl 0 rfl) ?_
    refine xg_X5_7 X hP hAll uX5_end_X5 mbX5_end_1 dX5_end_6 ?_
    refine lv_icmp_le (tgt := 14) hx hb dX5_end_9 (by decide) (fun h_2 => ?_) (fun h_2 => ?_)
    · rw [if_pos h_2] at hm
      refine lv_aload_n hx hb dX5_end_14 rfl (lv_at hl 0 rfl) ?_
      refine lv_iload_n hx hb dX5_end_15 rfl (lv_at hl 1 rfl) ?_
      obtain ⟨M_3, hM_4, hm⟩ := bnd_elim hm
      refine xp_X5_7 X hP hAll uX5_end_X5 mbX5_end_1 hS hM_4 dX5_end_16 (fun H locs hP hS => ?_)
      refine lv_iconst (v := 1) hx hb dX5_end_19 (by decide) ?_
      cases hm
      exact x_zret X (by decide) hP hS hr hlocks dX5_end_20
    · rw [if_neg h_2] at hm
      refine lv_iconst (v := 0) hx hb dX5_end_12 (by decide) ?_
      cases hm
      exact x_zret X (by decide) hP hS hr hlocks dX5_end_13


/-! X5_text -/
def rmX5_text : Room := { frames := 9, cells := 0, slots := 0, locals := 194 }
theorem uX5_text_X5 : ∀ w ∈ wsX50, w ∈ wsX5_text := by decide +kernel
theorem mbX5_text_1 : Cond.fieldLink RX5 47 "FootANight" "tapeLength" "I" ∈ wsX5_text := by decide +kernel
theorem mbX5_text_2 : Cond.fieldLink RX5 51 "FootANight" "faultKind" "I" ∈ wsX5_text := by decide +kernel
theorem mbX5_text_3 : Cond.fieldLink RX5 54 "FootANight" "faultPlace" "I" ∈ wsX5_text := by decide +kernel
theorem mbX5_text_4 : Cond.fieldLink RX5 25 "FootANight" "reader" "LFootANight$Reader;" ∈ wsX5_text := by decide +kernel
theorem mbX5_text_5 : Cond.fieldLink RX5 43 "FootANight" "tape" "[I" ∈ wsX5_text := by decide +kernel
theorem mbX5_text_6 : Cond.fieldLink RX5 12 "FootANight" "now" "LFootANight$Ring;" ∈ wsX5_text := by decide +kernel
theorem uX5_text_X4 : ∀ w ∈ wsX40, w ∈ wsX5_text := by decide +kernel
theorem mbX5_text_8 : Cond.fieldLink RX5 112 "FootANight$Ring" "laws" "[LFootANight$Law;" ∈ wsX5_text := by decide +kernel
theorem uX5_text_X3 : ∀ w ∈ wsX30, w ∈ wsX5_text := by decide +kernel
theorem mbX5_text_10 : Cond.fieldLink RX5 116 "FootANight$Reader" "code" "[I" ∈ wsX5_text := by decide +kernel
theorem mbX5_text_11 : Cond.fieldLink RX5 119 "FootANight$Reader" "used" "I" ∈ wsX5_text := by decide +kernel
theorem mbX5_text_12 : Cond.fieldLink RX5 128 "FootANight$Reader" "lines" "I" ∈ wsX5_text := by decide +kernel
theorem mbX5_text_13 : Cond.fieldLink RX5 106 "FootANight$Reader" "fault" "I" ∈ wsX5_text := by decide +kernel
theorem mbX5_text_14 : Cond.fieldLink RX5 109 "FootANight$Reader" "place" "I" ∈ wsX5_text := by decide +kernel
set_option maxHeartbeats 4000000 in
set_option maxRecDepth 100000 in
theorem c_X5_text (l : Launch) {g : GT} (hA : AxG g) (hAll : okAll g)   {fu : Nat} {M : Mem} {a1 : Int32} {rr : Int32} {MM : Mem} (hm : m_X5_text fu M a1 = some (rr, MM)) : CI l yX5_text wsX5_text rmX5_text g [.ref (ga g 146), .int a1] M rr MM := by
  refine Met.ofW (cc := cX5_text) (maxL := 3) (ret := (some .int)) (by decide) rfl ?_
  intro p e s m args below meth c s₁ B hml hv
  obtain ⟨rfl, hSx, hP⟩ := hv
  have hr := B.returns
  have hlocks := B.notSynchronized
  have X : CxG g p s m _ c cX5_text 3 RX5 wsX5_text := ⟨⟨B.exec, B.bytes, hml, findClass_of_methodNamed B.named, atoms_spec (ws := wsX5_text) B.pre⟩, hSx, hA⟩
  have hS : va_S (AbG g) s.heap s.heap [] := va_S.rf
  have hl := lv_entry (([.ref (ga g 146), .int a1] : List Value)) (n := 3) (Nat.le_of_ble_eq_true rfl)
  rw [lg_entry_eq]
  generalize (lg_sl (([.ref (ga g 146), .int a1] : List Value)) ++ List.replicate (3 - (lg_sl (([.ref (ga g 146), .int a1] : List Value))).length) Slot.unset).toArray = ls at hl ⊢
  have hl : lv_has ls 3 [(0, .ref (ga g 146)), (1, .int a1)] := hl
  obtain ⟨⟨hx, hb, hml, hown, hts⟩, -, -⟩ := id X
  unfold m_X5_text at hm
  refine lv_aload_n hx hb dX5_text_0 rfl (lv_at hl 0 rfl) ?_
  refine xg_X5_7 X hP hAll uX5_text_X5 mbX5_text_1 dX5_text_1 ?_
  obtain ⟨v_1, hv_2, hm⟩ := bnd_elim hm
  refine x_name hv_2 ?_
  refine lv_istore_n (lv' := [(2, .int v_1), (0, .ref (ga g 146)), (1, .int a1)]) hx hb dX5_text_4 rfl hl (by decide) rfl (fun ls hl => ?_)
  refine lv_aload_n hx hb dX5_text_5 rfl (lv_at hl 1 rfl) ?_
  refine lv_iconst (v := 0) hx hb dX5_text_6 (by decide) ?_
  obtain ⟨M_3, hM_4, hm⟩ := bnd_elim hm
  refine xp_X5_7 X hP hAll uX5_text_X5 mbX5_text_1 hS hM_4 dX5_text_7 (fun H locs hP hS => ?_)
  refine lv_aload_n hx hb dX5_text_10 rfl (lv_at hl 1 rfl) ?_
  refine lv_iconst (v := 0) hx hb dX5_text_11 (by decide) ?_
  obtain ⟨M_5, hM_6, hm⟩ := bnd_elim hm
  refine xp_X5_8 X hP hAll uX5_text_X5 mbX5_text_2 hS hM_6 dX5_text_12 (fun H locs hP hS => ?_)
  refine lv_aload_n hx hb dX5_text_15 rfl (lv_at hl 1 rfl) ?_
  refine lv_iconst (v := (-1)) hx hb dX5_text_16 (by decide) ?_
  obtain ⟨M_7, hM_8, hm⟩ := bnd_elim hm
  refine xp_X5_9 X hP hAll uX5_text_X5 mbX5_text_3 hS hM_8 dX5_text_17 (fun H locs hP hS => ?_)
  refine lv_iload_n hx hb dX5_text_20 rfl (lv_at hl 2 rfl) ?_
  refine lv_if_lt (tgt := 29) hx hb dX5_text_21 (by decide) (fun h_9 => ?_) (fun h_9 => ?_)
  · rw [if_pos h_9] at hm
    refine lv_iconst (v := (-1)) hx hb dX5_text_29 (by decide) ?_
    cases hm
    exact x_iret X hP hS hr hlocks dX5_text_30
  · rw [if_neg h_9] at hm
    refine lv_iload_n hx hb dX5_text_24 rfl (lv_at hl 2 rfl) ?_
    refine lv_iconst (v := 4) hx hb dX5_text_25 (by decide) ?_
    refine lv_icmp_lt (tgt := 31) hx hb dX5_text_26 (by decide) (fun h_10 => ?_) (fun h_10 => ?_)
    · rw [if_pos h_10] at hm
      refine lv_aload_n hx hb dX5_text_31 rfl (lv_at hl 1 rfl) ?_
      refine xg_X5_3 X hP hAll uX5_text_X5 mbX5_text_4 dX5_text_32 ?_
      refine lv_aload_n hx hb dX5_text_35 rfl (lv_at hl 1 rfl) ?_
      refine xg_X5_6 X hP hAll uX5_text_X5 mbX5_text_5 dX5_text_36 ?_
      refine lv_iload_n hx hb dX5_text_39 rfl (lv_at hl 0 rfl) ?_
      obtain ⟨⟨r_12, M_13⟩, hc_11, hm⟩ := bind_elim hm
      replace hm := un2_e hm
      refine x_calli (x_runV (As := [.ref (ga g 147), .int v_1]) (rest := []) X hP hS (c_X3_accepts l X.2.2 hAll (okc_147 hAll) hc_11) (cwV 2 hts gX5_text_X3_accepts rfl rfl rfl (by decide +kernel) ⟨Nat.le_of_ble_eq_true rfl, Nat.le_of_ble_eq_true rfl⟩) (x_recv (C := RX3) (T := TX3) (N := 17) X hP (okc_111 hAll) rfl) rfl hl.1 rfl (Nat.le_of_ble_eq_true rfl) dX5_text_40 ⟨Nat.zero_le _, Nat.zero_le _⟩) hS (fun H locs hP hS => ?_)
      refine lv_if_ne (tgt := 70) hx hb dX5_text_43 (by decide) (fun h_14 => ?_) (fun h_14 => ?_)
      · rw [if_neg h_14] at hm
        refine lv_aload_n hx hb dX5_text_70 rfl (lv_at hl 1 rfl) ?_
        refine xg_X5_0 X hP hAll uX5_text_X5 mbX5_text_6 dX5_text_71 ?_
        refine xg_X4_8 X hP (hAll.ring (Or.inl rfl)) uX5_text_X4 mbX5_text_8 dX5_text_74 ?_
        refine lv_iload_n hx hb dX5_text_77 rfl (lv_at hl 2 rfl) ?_
        obtain ⟨hb_15, hm⟩ := chk_elim hm
        refine x_aaldL X hP (hAll.ring (Or.inl rfl)).laws hb_15 dX5_text_78 ?_
        refine lv_aload_n hx hb dX5_text_79 rfl (lv_at hl 1 rfl) ?_
        refine xg_X5_3 X hP hAll uX5_text_X5 mbX5_text_4 dX5_text_80 ?_
        refine xg_X3_0 X hP hAll uX5_text_X3 mbX5_text_10 dX5_text_83 ?_
        refine lv_aload_n hx hb dX5_text_86 rfl (lv_at hl 1 rfl) ?_
        refine xg_X5_3 X hP hAll uX5_text_X5 mbX5_text_4 dX5_text_87 ?_
        refine xg_X3_1 X hP hAll uX5_text_X3 mbX5_text_11 dX5_text_90 ?_
        obtain ⟨M_17, hc_16, hm⟩ := bind_elim hm
        refine x_callv (x_runV (As := [.ref (ga g 112), .int (rd M_13 111 1)]) (rest := []) X hP hS (c_X2_take l X.2.2 ((hAll.ring (Or.inl rfl)).law (inb_lt hb_15)) (okc_112 hAll) hc_16) (cwV 2 hts gX5_text_X2_take rfl rfl rfl (by decide +kernel) ⟨Nat.le_of_ble_eq_true rfl, Nat.le_of_ble_eq_true rfl⟩) (x_recv (C := RX2) (T := TX2) (N := 2) X hP ((hAll.ring (Or.inl rfl)).law (inb_lt hb_15)).1 rfl) rfl hl.1 rfl (Nat.le_of_ble_eq_true rfl) dX5_text_93 ⟨Nat.zero_le _, Nat.zero_le _⟩) hS (fun H locs hP hS => ?_)
        refine lv_aload_n hx hb dX5_text_96 rfl (lv_at hl 1 rfl) ?_
        refine xg_X5_3 X hP hAll uX5_text_X5 mbX5_text_4 dX5_text_97 ?_
        refine xg_X3_2 X hP hAll uX5_text_X3 mbX5_text_12 dX5_text_100 ?_
        cases hm
        exact x_iret X hP hS hr hlocks dX5_text_103
      · rw [if_pos h_14] at hm
        refine lv_aload_n hx hb dX5_text_46 rfl (lv_at hl 1 rfl) ?_
        refine lv_aload_n hx hb dX5_text_47 rfl (lv_at hl 1 rfl) ?_
        refine xg_X5_3 X hP hAll uX5_text_X5 mbX5_text_4 dX5_text_48 ?_
        refine xg_X3_3 X hP hAll uX5_text_X3 mbX5_text_13 dX5_text_51 ?_
        obtain ⟨M_18, hM_19, hm⟩ := bnd_elim hm
        refine xp_X5_8 X hP hAll uX5_text_X5 mbX5_text_2 hS hM_19 dX5_text_54 (fun H locs hP hS => ?_)
        refine lv_aload_n hx hb dX5_text_57 rfl (lv_at hl 1 rfl) ?_
        refine lv_aload_n hx hb dX5_text_58 rfl (lv_at hl 1 rfl) ?_
        refine xg_X5_3 X hP hAll uX5_text_X5 mbX5_text_4 dX5_text_59 ?_
        refine xg_X3_4 X hP hAll uX5_text_X3 mbX5_text_14 dX5_text_62 ?_
        obtain ⟨M_20, hM_21, hm⟩ := bnd_elim hm
        refine xp_X5_9 X hP hAll uX5_text_X5 mbX5_text_3 hS hM_21 dX5_text_65 (fun H locs hP hS => ?_)
        refine lv_iconst (v := (-1)) hx hb dX5_text_68 (by decide) ?_
        cases hm
        exact x_iret X hP hS hr hlocks dX5_text_69
    · rw [if_neg h_10] at hm
      refine lv_iconst (v := (-1)) hx hb dX5_text_29 (by decide) ?_
      cases hm
      exact x_iret X hP hS hr hlocks dX5_text_30


/-! X5_fault -/
def rmX5_fault : Room := { frames := 0, cells := 0, slots := 0, locals := 0 }
theorem uX5_fault_X5 : ∀ w ∈ wsX50, w ∈ wsX5_fault := by decide +kernel
theorem mbX5_fault_1 : Cond.fieldLink RX5 54 "FootANight" "faultPlace" "I" ∈ wsX5_fault := by decide +kernel
theorem mbX5_fault_2 : Cond.fieldLink RX5 51 "FootANight" "faultKind" "I" ∈ wsX5_fault := by decide +kernel
set_option maxHeartbeats 4000000 in
set_option maxRecDepth 100000 in
theorem c_X5_fault (l : Launch) {g : GT} (hA : AxG g) (hAll : okAll g)   {M : Mem} {a1 : Int32} {rr : Int32} (hm : m_X5_fault M a1 = some rr) : CI l yX5_fault wsX5_fault rmX5_fault g [.ref (ga g 146), .int a1] M rr M := by
  refine Met.ofW (cc := cX5_fault) (maxL := 2) (ret := (some .int)) (by decide) rfl ?_
  intro p e s m args below meth c s₁ B hml hv
  obtain ⟨rfl, hSx, hP⟩ := hv
  have hr := B.returns
  have hlocks := B.notSynchronized
  have X : CxG g p s m _ c cX5_fault 2 RX5 wsX5_fault := ⟨⟨B.exec, B.bytes, hml, findClass_of_methodNamed B.named, atoms_spec (ws := wsX5_fault) B.pre⟩, hSx, hA⟩
  have hS : va_S (AbG g) s.heap s.heap [] := va_S.rf
  have hl := lv_entry (([.ref (ga g 146), .int a1] : List Value)) (n := 2) (Nat.le_of_ble_eq_true rfl)
  rw [lg_entry_eq]
  generalize (lg_sl (([.ref (ga g 146), .int a1] : List Value)) ++ List.replicate (2 - (lg_sl (([.ref (ga g 146), .int a1] : List Value))).length) Slot.unset).toArray = ls at hl ⊢
  have hl : lv_has ls 2 [(0, .ref (ga g 146)), (1, .int a1)] := hl
  obtain ⟨⟨hx, hb, hml, hown, hts⟩, -, -⟩ := id X
  unfold m_X5_fault at hm
  refine lv_iload_n hx hb dX5_fault_0 rfl (lv_at hl 1 rfl) ?_
  refine lv_if_ne (tgt := 9) hx hb dX5_fault_1 (by decide) (fun h_1 => ?_) (fun h_1 => ?_)
  · rw [if_neg h_1] at hm
    refine lv_iload_n hx hb dX5_fault_9 rfl (lv_at hl 1 rfl) ?_
    refine lv_iconst (v := 1) hx hb dX5_fault_10 (by decide) ?_
    refine lv_icmp_ne (tgt := 21) hx hb dX5_fault_11 (by decide) (fun h_2 => ?_) (fun h_2 => ?_)
    · rw [if_neg h_2] at hm
      refine lv_iconst (v := (-1)) hx hb dX5_fault_21 (by decide) ?_
      cases hm
      exact x_iret X hP hS hr hlocks dX5_fault_22
    · rw [if_pos h_2] at hm
      refine lv_aload_n hx hb dX5_fault_14 rfl (lv_at hl 0 rfl) ?_
      refine xg_X5_9 X hP hAll uX5_fault_X5 mbX5_fault_1 dX5_fault_15 ?_
      refine lv_goto (tgt := 22) hx hb dX5_fault_18 (by decide) ?_
      cases hm
      exact x_iret X hP hS hr hlocks dX5_fault_22
  · rw [if_pos h_1] at hm
    refine lv_aload_n hx hb dX5_fault_4 rfl (lv_at hl 0 rfl) ?_
    refine xg_X5_8 X hP hAll uX5_fault_X5 mbX5_fault_2 dX5_fault_5 ?_
    cases hm
    exact x_iret X hP hS hr hlocks dX5_fault_8


/-! X5_of -/
def rmX5_of : Room := { frames := 4, cells := 0, slots := 0, locals := 93 }
theorem uX5_of_X5 : ∀ w ∈ wsX50, w ∈ wsX5_of := by decide +kernel
theorem mbX5_of_1 : Cond.fieldLink RX5 12 "FootANight" "now" "LFootANight$Ring;" ∈ wsX5_of := by decide +kernel
theorem mbX5_of_2 : Cond.constant RX5 131 (-100000000) ∈ wsX5_of := by decide +kernel
theorem uX5_of_X4 : ∀ w ∈ wsX40, w ∈ wsX5_of := by decide +kernel
theorem mbX5_of_4 : Cond.fieldLink RX5 79 "FootANight$Ring" "lands" "[[I" ∈ wsX5_of := by decide +kernel
set_option maxHeartbeats 4000000 in
set_option maxRecDepth 100000 in
theorem c_X5_of (l : Launch) {g : GT} (hA : AxG g) (hAll : okAll g)   {fu : Nat} {M : Mem} {a1 : Int32} {a2 : Int32} {rr : Int32} {MM : Mem} (hm : m_X5_of fu M a1 a2 = some (rr, MM)) : CI l yX5_of wsX5_of rmX5_of g [.ref (ga g 146), .int a1, .int a2] M rr MM := by
  refine Met.ofW (cc := cX5_of) (maxL := 3) (ret := (some .int)) (by decide) rfl ?_
  intro p e s m args below meth c s₁ B hml hv
  obtain ⟨rfl, hSx, hP⟩ := hv
  have hr := B.returns
  have hlocks := B.notSynchronized
  have X : CxG g p s m _ c cX5_of 3 RX5 wsX5_of := ⟨⟨B.exec, B.bytes, hml, findClass_of_methodNamed B.named, atoms_spec (ws := wsX5_of) B.pre⟩, hSx, hA⟩
  have hS : va_S (AbG g) s.heap s.heap [] := va_S.rf
  have hl := lv_entry (([.ref (ga g 146), .int a1, .int a2] : List Value)) (n := 3) (Nat.le_of_ble_eq_true rfl)
  rw [lg_entry_eq]
  generalize (lg_sl (([.ref (ga g 146), .int a1, .int a2] : List Value)) ++ List.replicate (3 - (lg_sl (([.ref (ga g 146), .int a1, .int a2] : List Value))).length) Slot.unset).toArray = ls at hl ⊢
  have hl : lv_has ls 3 [(0, .ref (ga g 146)), (1, .int a1), (2, .int a2)] := hl
  obtain ⟨⟨hx, hb, hml, hown, hts⟩, -, -⟩ := id X
  unfold m_X5_of at hm
  refine lv_aload_n hx hb dX5_of_0 rfl (lv_at hl 0 rfl) ?_
  refine xg_X5_0 X hP hAll uX5_of_X5 mbX5_of_1 dX5_of_1 ?_
  refine lv_iload_n hx hb dX5_of_4 rfl (lv_at hl 1 rfl) ?_
  obtain ⟨r_2, hc_1, hm⟩ := bind_elim hm
  refine x_calli (x_runV (As := [.int a1]) (rest := []) X hP hS (c_X4_has l X.2.2 (hAll.ring (Or.inl rfl)) hc_1) (cwV 1 hts gX5_of_X4_has rfl rfl rfl (by decide +kernel) ⟨Nat.le_of_ble_eq_true rfl, Nat.le_of_ble_eq_true rfl⟩) (x_recv (C := RX4) (T := TX4) (N := 12) X hP (hAll.ring (Or.inl rfl)).obj rfl) rfl hl.1 rfl (Nat.le_of_ble_eq_true rfl) dX5_of_5 ⟨Nat.zero_le _, Nat.zero_le _⟩) hS (fun H locs hP hS => ?_)
  refine lv_if_eq (tgt := 21) hx hb dX5_of_8 (by decide) (fun h_3 => ?_) (fun h_3 => ?_)
  · rw [if_pos h_3] at hm
    refine lv_ldc (v := (-100000000)) hx hb hown (hts _ mbX5_of_2) dX5_of_21 ?_
    cases hm
    exact x_iret X hP hS hr hlocks dX5_of_23
  · rw [if_neg h_3] at hm
    refine lv_iload_n hx hb dX5_of_11 rfl (lv_at hl 2 rfl) ?_
    refine lv_if_lt (tgt := 21) hx hb dX5_of_12 (by decide) (fun h_4 => ?_) (fun h_4 => ?_)
    · rw [if_pos h_4] at hm
      refine lv_ldc (v := (-100000000)) hx hb hown (hts _ mbX5_of_2) dX5_of_21 ?_
      cases hm
      exact x_iret X hP hS hr hlocks dX5_of_23
    · rw [if_neg h_4] at hm
      refine lv_iload_n hx hb dX5_of_15 rfl (lv_at hl 2 rfl) ?_
      refine lv_bipush (v := 8) hx hb dX5_of_16 (by decide) ?_
      refine lv_icmp_le (tgt := 24) hx hb dX5_of_18 (by decide) (fun h_5 => ?_) (fun h_5 => ?_)
      · rw [if_pos h_5] at hm
        refine lv_iload_n hx hb dX5_of_24 rfl (lv_at hl 2 rfl) ?_
        by_cases h_6 : a2 = 4
        · rw [if_pos h_6] at hm
          refine lv_lookup (off := 27) (tgt := 52) hx hb dX5_of_25 (by decide) (by rw [h_6]; decide) (by decide) ?_
          refine lv_aload_n hx hb dX5_of_52 rfl (lv_at hl 0 rfl) ?_
          refine xg_X5_0 X hP hAll uX5_of_X5 mbX5_of_1 dX5_of_53 ?_
          refine lv_iload_n hx hb dX5_of_56 rfl (lv_at hl 1 rfl) ?_
          obtain ⟨r_8, hc_7, hm⟩ := bind_elim hm
          refine x_calli (x_runV (As := [.int a1]) (rest := []) X hP hS (c_X4_purseAsInt l X.2.2 (hAll.ring (Or.inl rfl)) hc_7) (cwV 1 hts gX5_of_X4_purseAsInt rfl rfl rfl (by decide +kernel) ⟨Nat.le_of_ble_eq_true rfl, Nat.le_of_ble_eq_true rfl⟩) (x_recv (C := RX4) (T := TX4) (N := 12) X hP (hAll.ring (Or.inl rfl)).obj rfl) rfl hl.1 rfl (Nat.le_of_ble_eq_true rfl) dX5_of_57 ⟨Nat.zero_le _, Nat.zero_le _⟩) hS (fun H locs hP hS => ?_)
          cases hm
          exact x_iret X hP hS hr hlocks dX5_of_60
        rw [if_neg h_6] at hm
        by_cases h_9 : a2 = 8
        · rw [if_pos h_9] at hm
          refine lv_lookup (off := 36) (tgt := 61) hx hb dX5_of_25 (by decide) (by rw [h_9]; decide) (by decide) ?_
          refine lv_aload_n hx hb dX5_of_61 rfl (lv_at hl 0 rfl) ?_
          refine xg_X5_0 X hP hAll uX5_of_X5 mbX5_of_1 dX5_of_62 ?_
          refine lv_iload_n hx hb dX5_of_65 rfl (lv_at hl 1 rfl) ?_
          obtain ⟨⟨r_11, M_12⟩, hc_10, hm⟩ := bind_elim hm
          replace hm := un2_e hm
          refine x_calli (x_runV (As := [.int a1]) (rest := []) X hP hS (c_X4_does l X.2.2 (hAll.ring (Or.inl rfl)) hc_10) (cwV 1 hts gX5_of_X4_does rfl rfl rfl (by decide +kernel) ⟨Nat.le_of_ble_eq_true rfl, Nat.le_of_ble_eq_true rfl⟩) (x_recv (C := RX4) (T := TX4) (N := 12) X hP (hAll.ring (Or.inl rfl)).obj rfl) rfl hl.1 rfl (Nat.le_of_ble_eq_true rfl) dX5_of_66 ⟨Nat.zero_le _, Nat.zero_le _⟩) hS (fun H locs hP hS => ?_)
          cases hm
          exact x_iret X hP hS hr hlocks dX5_of_69
        rw [if_neg h_9] at hm
        refine lv_lookup (off := 45) (tgt := 70) hx hb dX5_of_25 (by decide) ((lv_osw h_6 (by decide)).trans ((lv_osw h_9 (by decide)).trans rfl)) (by decide) ?_
        refine lv_aload_n hx hb dX5_of_70 rfl (lv_at hl 0 rfl) ?_
        refine xg_X5_0 X hP hAll uX5_of_X5 mbX5_of_1 dX5_of_71 ?_
        refine xg_X4_5 X hP (hAll.ring (Or.inl rfl)) uX5_of_X4 mbX5_of_4 dX5_of_74 ?_
        refine lv_iload_n hx hb dX5_of_77 rfl (lv_at hl 1 rfl) ?_
        obtain ⟨hb_13, hm⟩ := chk_elim hm
        refine x_aaldI X hP (hAll.ring (Or.inl rfl)).lands hb_13 dX5_of_78 ?_
        refine lv_iload_n hx hb dX5_of_79 rfl (lv_at hl 2 rfl) ?_
        obtain ⟨hb_14, hm⟩ := chk_elim hm
        refine x_iald X hP ((hAll.ring (Or.inl rfl)).land (inb_lt hb_13)) hb_14 dX5_of_80 ?_
        cases hm
        exact x_iret X hP hS hr hlocks dX5_of_81
      · rw [if_neg h_5] at hm
        refine lv_ldc (v := (-100000000)) hx hb hown (hts _ mbX5_of_2) dX5_of_21 ?_
        cases hm
        exact x_iret X hP hS hr hlocks dX5_of_23


/-! X5_stake -/
def rmX5_stake : Room := { frames := 1, cells := 0, slots := 0, locals := 21 }
theorem uX5_stake_X5 : ∀ w ∈ wsX50, w ∈ wsX5_stake := by decide +kernel
theorem mbX5_stake_1 : Cond.fieldLink RX5 12 "FootANight" "now" "LFootANight$Ring;" ∈ wsX5_stake := by decide +kernel
theorem uX5_stake_X4 : ∀ w ∈ wsX40, w ∈ wsX5_stake := by decide +kernel
theorem mbX5_stake_3 : Cond.fieldLink RX5 86 "FootANight$Ring" "stakes" "[[I" ∈ wsX5_stake := by decide +kernel
set_option maxHeartbeats 4000000 in
set_option maxRecDepth 100000 in
theorem c_X5_stake (l : Launch) {g : GT} (hA : AxG g) (hAll : okAll g)   {M : Mem} {a1 : Int32} {a2 : Int32} {rr : Int32} (hm : m_X5_stake M a1 a2 = some rr) : CI l yX5_stake wsX5_stake rmX5_stake g [.ref (ga g 146), .int a1, .int a2] M rr M := by
  refine Met.ofW (cc := cX5_stake) (maxL := 3) (ret := (some .int)) (by decide) rfl ?_
  intro p e s m args below meth c s₁ B hml hv
  obtain ⟨rfl, hSx, hP⟩ := hv
  have hr := B.returns
  have hlocks := B.notSynchronized
  have X : CxG g p s m _ c cX5_stake 3 RX5 wsX5_stake := ⟨⟨B.exec, B.bytes, hml, findClass_of_methodNamed B.named, atoms_spec (ws := wsX5_stake) B.pre⟩, hSx, hA⟩
  have hS : va_S (AbG g) s.heap s.heap [] := va_S.rf
  have hl := lv_entry (([.ref (ga g 146), .int a1, .int a2] : List Value)) (n := 3) (Nat.le_of_ble_eq_true rfl)
  rw [lg_entry_eq]
  generalize (lg_sl (([.ref (ga g 146), .int a1, .int a2] : List Value)) ++ List.replicate (3 - (lg_sl (([.ref (ga g 146), .int a1, .int a2] : List Value))).length) Slot.unset).toArray = ls at hl ⊢
  have hl : lv_has ls 3 [(0, .ref (ga g 146)), (1, .int a1), (2, .int a2)] := hl
  obtain ⟨⟨hx, hb, hml, hown, hts⟩, -, -⟩ := id X
  unfold m_X5_stake at hm
  refine lv_aload_n hx hb dX5_stake_0 rfl (lv_at hl 0 rfl) ?_
  refine xg_X5_0 X hP hAll uX5_stake_X5 mbX5_stake_1 dX5_stake_1 ?_
  refine lv_iload_n hx hb dX5_stake_4 rfl (lv_at hl 1 rfl) ?_
  obtain ⟨r_2, hc_1, hm⟩ := bind_elim hm
  refine x_calli (x_runV (As := [.int a1]) (rest := []) X hP hS (c_X4_has l X.2.2 (hAll.ring (Or.inl rfl)) hc_1) (cwV 1 hts gX5_stake_X4_has rfl rfl rfl (by decide +kernel) ⟨Nat.le_of_ble_eq_true rfl, Nat.le_of_ble_eq_true rfl⟩) (x_recv (C := RX4) (T := TX4) (N := 12) X hP (hAll.ring (Or.inl rfl)).obj rfl) rfl hl.1 rfl (Nat.le_of_ble_eq_true rfl) dX5_stake_5 ⟨Nat.zero_le _, Nat.zero_le _⟩) hS (fun H locs hP hS => ?_)
  refine lv_if_eq (tgt := 20) hx hb dX5_stake_8 (by decide) (fun h_3 => ?_) (fun h_3 => ?_)
  · rw [if_pos h_3] at hm
    refine lv_bipush (v := (-2)) hx hb dX5_stake_20 (by decide) ?_
    cases hm
    exact x_iret X hP hS hr hlocks dX5_stake_22
  · rw [if_neg h_3] at hm
    refine lv_iload_n hx hb dX5_stake_11 rfl (lv_at hl 2 rfl) ?_
    refine lv_if_lt (tgt := 20) hx hb dX5_stake_12 (by decide) (fun h_4 => ?_) (fun h_4 => ?_)
    · rw [if_pos h_4] at hm
      refine lv_bipush (v := (-2)) hx hb dX5_stake_20 (by decide) ?_
      cases hm
      exact x_iret X hP hS hr hlocks dX5_stake_22
    · rw [if_neg h_4] at hm
      refine lv_iload_n hx hb dX5_stake_15 rfl (lv_at hl 2 rfl) ?_
      refine lv_iconst (v := 4) hx hb dX5_stake_16 (by decide) ?_
      refine lv_icmp_lt (tgt := 23) hx hb dX5_stake_17 (by decide) (fun h_5 => ?_) (fun h_5 => ?_)
      · rw [if_pos h_5] at hm
        refine lv_aload_n hx hb dX5_stake_23 rfl (lv_at hl 0 rfl) ?_
        refine xg_X5_0 X hP hAll uX5_stake_X5 mbX5_stake_1 dX5_stake_24 ?_
        refine xg_X4_7 X hP (hAll.ring (Or.inl rfl)) uX5_stake_X4 mbX5_stake_3 dX5_stake_27 ?_
        refine lv_iload_n hx hb dX5_stake_30 rfl (lv_at hl 1 rfl) ?_
        obtain ⟨hb_6, hm⟩ := chk_elim hm
        refine x_aaldI X hP (hAll.ring (Or.inl rfl)).stakes hb_6 dX5_stake_31 ?_
        refine lv_iload_n hx hb dX5_stake_32 rfl (lv_at hl 2 rfl) ?_
        obtain ⟨hb_7, hm⟩ := chk_elim hm
        refine x_iald X hP ((hAll.ring (Or.inl rfl)).stake (inb_lt hb_6)) hb_7 dX5_stake_33 ?_
        cases hm
        exact x_iret X hP hS hr hlocks dX5_stake_34
      · rw [if_neg h_5] at hm
        refine lv_bipush (v := (-2)) hx hb dX5_stake_20 (by decide) ?_
        cases hm
        exact x_iret X hP hS hr hlocks dX5_stake_22


/-! X5_nights -/
def rmX5_nights : Room := { frames := 5, cells := 0, slots := 0, locals := 116 }
theorem uX5_nights_X5 : ∀ w ∈ wsX50, w ∈ wsX5_nights := by decide +kernel
theorem mbX5_nights_1 : Cond.fieldLink RX5 12 "FootANight" "now" "LFootANight$Ring;" ∈ wsX5_nights := by decide +kernel
theorem uX5_nights_X4 : ∀ w ∈ wsX40, w ∈ wsX5_nights := by decide +kernel
theorem mbX5_nights_3 : Cond.fieldLink RX5 138 "FootANight$Ring" "night" "I" ∈ wsX5_nights := by decide +kernel
theorem mbX5_nights_4 : Cond.fieldLink RX5 141 "FootANight$Ring" "moved" "I" ∈ wsX5_nights := by decide +kernel
set_option maxHeartbeats 4000000 in
set_option maxRecDepth 100000 in
theorem c_X5_nights (l : Launch) {g : GT} (hA : AxG g) (hAll : okAll g)   {fu : Nat} {M : Mem} {a1 : Int32} {rr : Int32} {MM : Mem} (hm : m_X5_nights fu M a1 = some (rr, MM)) : CI l yX5_nights wsX5_nights rmX5_nights g [.ref (ga g 146), .int a1] M rr MM := by
  refine Met.ofW (cc := cX5_nights) (maxL := 3) (ret := (some .int)) (by decide) rfl ?_
  intro p e s m args below meth c s₁ B hml hv
  obtain ⟨rfl, hSx, hP⟩ := hv
  have hr := B.returns
  have hlocks := B.notSynchronized
  have X : CxG g p s m _ c cX5_nights 3 RX5 wsX5_nights := ⟨⟨B.exec, B.bytes, hml, findClass_of_methodNamed B.named, atoms_spec (ws := wsX5_nights) B.pre⟩, hSx, hA⟩
  have hS : va_S (AbG g) s.heap s.heap [] := va_S.rf
  have hl := lv_entry (([.ref (ga g 146), .int a1] : List Value)) (n := 3) (Nat.le_of_ble_eq_true rfl)
  rw [lg_entry_eq]
  generalize (lg_sl (([.ref (ga g 146), .int a1] : List Value)) ++ List.replicate (3 - (lg_sl (([.ref (ga g 146), .int a1] : List Value))).length) Slot.unset).toArray = ls at hl ⊢
  have hl : lv_has ls 3 [(0, .ref (ga g 146)), (1, .int a1)] := hl
  obtain ⟨⟨hx, hb, hml, hown, hts⟩, -, -⟩ := id X
  unfold m_X5_nights at hm
  refine lv_iload_n hx hb dX5_nights_0 rfl (lv_at hl 1 rfl) ?_
  refine lv_iconst (v := 1) hx hb dX5_nights_1 (by decide) ?_
  refine lv_icmp_lt (tgt := 26) hx hb dX5_nights_2 (by decide) (fun h_1 => ?_) (fun h_1 => ?_)
  · rw [if_pos h_1] at hm
    refine lv_iconst (v := (-1)) hx hb dX5_nights_26 (by decide) ?_
    cases hm
    exact x_iret X hP hS hr hlocks dX5_nights_27
  · rw [if_neg h_1] at hm
    refine lv_iload_n hx hb dX5_nights_5 rfl (lv_at hl 1 rfl) ?_
    refine lv_bipush (v := 99) hx hb dX5_nights_6 (by decide) ?_
    refine lv_icmp_gt (tgt := 26) hx hb dX5_nights_8 (by decide) (fun h_2 => ?_) (fun h_2 => ?_)
    · rw [if_pos h_2] at hm
      refine lv_iconst (v := (-1)) hx hb dX5_nights_26 (by decide) ?_
      cases hm
      exact x_iret X hP hS hr hlocks dX5_nights_27
    · rw [if_neg h_2] at hm
      refine lv_aload_n hx hb dX5_nights_11 rfl (lv_at hl 0 rfl) ?_
      refine xg_X5_0 X hP hAll uX5_nights_X5 mbX5_nights_1 dX5_nights_12 ?_
      refine xg_X4_2 X hP (hAll.ring (Or.inl rfl)) uX5_nights_X4 mbX5_nights_3 dX5_nights_15 ?_
      refine lv_iload_n hx hb dX5_nights_18 rfl (lv_at hl 1 rfl) ?_
      refine lv_iadd hx hb dX5_nights_19 ?_
      refine lv_sipush (v := 9999) hx hb dX5_nights_20 (by decide) ?_
      refine lv_icmp_le (tgt := 28) hx hb dX5_nights_23 (by decide) (fun h_3 => ?_) (fun h_3 => ?_)
      · rw [if_pos h_3] at hm
        refine lv_aload_n hx hb dX5_nights_28 rfl (lv_at hl 0 rfl) ?_
        refine xg_X5_0 X hP hAll uX5_nights_X5 mbX5_nights_1 dX5_nights_29 ?_
        refine xg_X4_3 X hP (hAll.ring (Or.inl rfl)) uX5_nights_X4 mbX5_nights_4 dX5_nights_32 ?_
        obtain ⟨v_4, hv_5, hm⟩ := bnd_elim hm
        refine x_name hv_5 ?_
        refine lv_istore_n (lv' := [(2, .int v_4), (0, .ref (ga g 146)), (1, .int a1)]) hx hb dX5_nights_35 rfl hl (by decide) rfl (fun ls hl => ?_)
        refine lv_aload_n hx hb dX5_nights_36 rfl (lv_at hl 1 rfl) ?_
        refine xg_X5_0 X hP hAll uX5_nights_X5 mbX5_nights_1 dX5_nights_37 ?_
        refine lv_iload_n hx hb dX5_nights_40 rfl (lv_at hl 2 rfl) ?_
        obtain ⟨M_7, hc_6, hm⟩ := bind_elim hm
        refine x_callv (x_runV (As := [.int a1]) (rest := []) X hP hS (c_X4_pass l X.2.2 (hAll.ring (Or.inl rfl)) hc_6) (cwV 1 hts gX5_nights_X4_pass rfl rfl rfl (by decide +kernel) ⟨Nat.le_of_ble_eq_true rfl, Nat.le_of_ble_eq_true rfl⟩) (x_recv (C := RX4) (T := TX4) (N := 12) X hP (hAll.ring (Or.inl rfl)).obj rfl) rfl hl.1 rfl (Nat.le_of_ble_eq_true rfl) dX5_nights_41 ⟨Nat.zero_le _, Nat.zero_le _⟩) hS (fun H locs hP hS => ?_)
        refine lv_aload_n hx hb dX5_nights_44 rfl (lv_at hl 1 rfl) ?_
        refine xg_X5_0 X hP hAll uX5_nights_X5 mbX5_nights_1 dX5_nights_45 ?_
        refine xg_X4_3 X hP (hAll.ring (Or.inl rfl)) uX5_nights_X4 mbX5_nights_4 dX5_nights_48 ?_
        refine lv_iload_n hx hb dX5_nights_51 rfl (lv_at hl 0 rfl) ?_
        refine lv_isub hx hb dX5_nights_52 ?_
        cases hm
        exact x_iret X hP hS hr hlocks dX5_nights_53
      · rw [if_neg h_3] at hm
        refine lv_iconst (v := (-1)) hx hb dX5_nights_26 (by decide) ?_
        cases hm
        exact x_iret X hP hS hr hlocks dX5_nights_27


/-! X5_value -/
def rmX5_value : Room := { frames := 5, cells := 0, slots := 0, locals := 117 }
theorem uX5_value_X5 : ∀ w ∈ wsX50, w ∈ wsX5_value := by decide +kernel
theorem mbX5_value_1 : Cond.fieldLink RX5 12 "FootANight" "now" "LFootANight$Ring;" ∈ wsX5_value := by decide +kernel
theorem mbX5_value_2 : Cond.constant RX5 131 (-100000000) ∈ wsX5_value := by decide +kernel
set_option maxHeartbeats 4000000 in
set_option maxRecDepth 100000 in
theorem c_X5_value (l : Launch) {g : GT} (hA : AxG g) (hAll : okAll g)   {M : Mem} {a1 : Int32} {a2 : Int32} {rr : Int32} (hm : m_X5_value M a1 a2 = some rr) : CI l yX5_value wsX5_value rmX5_value g [.ref (ga g 146), .int a1, .int a2] M rr M := by
  refine Met.ofW (cc := cX5_value) (maxL := 3) (ret := (some .int)) (by decide) rfl ?_
  intro p e s m args below meth c s₁ B hml hv
  obtain ⟨rfl, hSx, hP⟩ := hv
  have hr := B.returns
  have hlocks := B.notSynchronized
  have X : CxG g p s m _ c cX5_value 3 RX5 wsX5_value := ⟨⟨B.exec, B.bytes, hml, findClass_of_methodNamed B.named, atoms_spec (ws := wsX5_value) B.pre⟩, hSx, hA⟩
  have hS : va_S (AbG g) s.heap s.heap [] := va_S.rf
  have hl := lv_entry (([.ref (ga g 146), .int a1, .int a2] : List Value)) (n := 3) (Nat.le_of_ble_eq_true rfl)
  rw [lg_entry_eq]
  generalize (lg_sl (([.ref (ga g 146), .int a1, .int a2] : List Value)) ++ List.replicate (3 - (lg_sl (([.ref (ga g 146), .int a1, .int a2] : List Value))).length) Slot.unset).toArray = ls at hl ⊢
  have hl : lv_has ls 3 [(0, .ref (ga g 146)), (1, .int a1), (2, .int a2)] := hl
  obtain ⟨⟨hx, hb, hml, hown, hts⟩, -, -⟩ := id X
  unfold m_X5_value at hm
  refine lv_aload_n hx hb dX5_value_0 rfl (lv_at hl 0 rfl) ?_
  refine xg_X5_0 X hP hAll uX5_value_X5 mbX5_value_1 dX5_value_1 ?_
  refine lv_iload_n hx hb dX5_value_4 rfl (lv_at hl 2 rfl) ?_
  obtain ⟨r_2, hc_1, hm⟩ := bind_elim hm
  refine x_calli (x_runV (As := [.int a2]) (rest := []) X hP hS (c_X4_has l X.2.2 (hAll.ring (Or.inl rfl)) hc_1) (cwV 1 hts gX5_value_X4_has rfl rfl rfl (by decide +kernel) ⟨Nat.le_of_ble_eq_true rfl, Nat.le_of_ble_eq_true rfl⟩) (x_recv (C := RX4) (T := TX4) (N := 12) X hP (hAll.ring (Or.inl rfl)).obj rfl) rfl hl.1 rfl (Nat.le_of_ble_eq_true rfl) dX5_value_5 ⟨Nat.zero_le _, Nat.zero_le _⟩) hS (fun H locs hP hS => ?_)
  refine lv_if_eq (tgt := 22) hx hb dX5_value_8 (by decide) (fun h_3 => ?_) (fun h_3 => ?_)
  · rw [if_pos h_3] at hm
    refine lv_ldc (v := (-100000000)) hx hb hown (hts _ mbX5_value_2) dX5_value_22 ?_
    cases hm
    exact x_iret X hP hS hr hlocks dX5_value_24
  · rw [if_neg h_3] at hm
    refine lv_aload_n hx hb dX5_value_11 rfl (lv_at hl 0 rfl) ?_
    refine xg_X5_0 X hP hAll uX5_value_X5 mbX5_value_1 dX5_value_12 ?_
    refine lv_iload_n hx hb dX5_value_15 rfl (lv_at hl 1 rfl) ?_
    obtain ⟨r_5, hc_4, hm⟩ := bind_elim hm
    refine x_calli (x_runV (As := [.int a1]) (rest := []) X hP hS (c_X4_hasRow l X.2.2 (hAll.ring (Or.inl rfl)) hc_4) (cwV 1 hts gX5_value_X4_hasRow rfl rfl rfl (by decide +kernel) ⟨Nat.le_of_ble_eq_true rfl, Nat.le_of_ble_eq_true rfl⟩) (x_recv (C := RX4) (T := TX4) (N := 12) X hP (hAll.ring (Or.inl rfl)).obj rfl) rfl hl.1 rfl (Nat.le_of_ble_eq_true rfl) dX5_value_16 ⟨Nat.zero_le _, Nat.zero_le _⟩) hS (fun H locs hP hS => ?_)
    refine lv_if_ne (tgt := 25) hx hb dX5_value_19 (by decide) (fun h_6 => ?_) (fun h_6 => ?_)
    · rw [if_neg h_6] at hm
      refine lv_aload_n hx hb dX5_value_25 rfl (lv_at hl 0 rfl) ?_
      refine xg_X5_0 X hP hAll uX5_value_X5 mbX5_value_1 dX5_value_26 ?_
      refine lv_iload_n hx hb dX5_value_29 rfl (lv_at hl 1 rfl) ?_
      refine lv_iload_n hx hb dX5_value_30 rfl (lv_at hl 2 rfl) ?_
      obtain ⟨r_8, hc_7, hm⟩ := bind_elim hm
      refine x_calli (x_runS (As := [.ref (ga g 0), .int a1, .int a2]) (rest := []) X hP hS (c_X0_meanInRow l X.2.2 (hAll.ring (Or.inl rfl)) hc_7) (va_cwS 3 hts gX5_value_X0_meanInRow rfl rfl rfl (by decide +kernel) ⟨Nat.le_of_ble_eq_true rfl, Nat.le_of_ble_eq_true rfl⟩) rfl hl.1 rfl (Nat.le_of_ble_eq_true rfl) dX5_value_31 ⟨Nat.zero_le _, Nat.zero_le _⟩) hS (fun H locs hP hS => ?_)
      cases hm
      exact x_iret X hP hS hr hlocks dX5_value_34
    · rw [if_pos h_6] at hm
      refine lv_ldc (v := (-100000000)) hx hb hown (hts _ mbX5_value_2) dX5_value_22 ?_
      cases hm
      exact x_iret X hP hS hr hlocks dX5_value_24


/-! X5_reply -/
def rmX5_reply : Room := { frames := 5, cells := 0, slots := 0, locals := 123 }
theorem uX5_reply_X5 : ∀ w ∈ wsX50, w ∈ wsX5_reply := by decide +kernel
theorem mbX5_reply_1 : Cond.fieldLink RX5 12 "FootANight" "now" "LFootANight$Ring;" ∈ wsX5_reply := by decide +kernel
set_option maxHeartbeats 4000000 in
set_option maxRecDepth 100000 in
theorem c_X5_reply (l : Launch) {g : GT} (hA : AxG g) (hAll : okAll g)   {fu : Nat} {M : Mem} {a1 : Int32} {a2 : Int32} {rr : Int32} (hm : m_X5_reply fu M a1 a2 = some rr) : CI l yX5_reply wsX5_reply rmX5_reply g [.ref (ga g 146), .int a1, .int a2] M rr M := by
  refine Met.ofW (cc := cX5_reply) (maxL := 3) (ret := (some .int)) (by decide) rfl ?_
  intro p e s m args below meth c s₁ B hml hv
  obtain ⟨rfl, hSx, hP⟩ := hv
  have hr := B.returns
  have hlocks := B.notSynchronized
  have X : CxG g p s m _ c cX5_reply 3 RX5 wsX5_reply := ⟨⟨B.exec, B.bytes, hml, findClass_of_methodNamed B.named, atoms_spec (ws := wsX5_reply) B.pre⟩, hSx, hA⟩
  have hS : va_S (AbG g) s.heap s.heap [] := va_S.rf
  have hl := lv_entry (([.ref (ga g 146), .int a1, .int a2] : List Value)) (n := 3) (Nat.le_of_ble_eq_true rfl)
  rw [lg_entry_eq]
  generalize (lg_sl (([.ref (ga g 146), .int a1, .int a2] : List Value)) ++ List.replicate (3 - (lg_sl (([.ref (ga g 146), .int a1, .int a2] : List Value))).length) Slot.unset).toArray = ls at hl ⊢
  have hl : lv_has ls 3 [(0, .ref (ga g 146)), (1, .int a1), (2, .int a2)] := hl
  obtain ⟨⟨hx, hb, hml, hown, hts⟩, -, -⟩ := id X
  unfold m_X5_reply at hm
  refine lv_aload_n hx hb dX5_reply_0 rfl (lv_at hl 0 rfl) ?_
  refine xg_X5_0 X hP hAll uX5_reply_X5 mbX5_reply_1 dX5_reply_1 ?_
  refine lv_iload_n hx hb dX5_reply_4 rfl (lv_at hl 2 rfl) ?_
  obtain ⟨r_2, hc_1, hm⟩ := bind_elim hm
  refine x_calli (x_runV (As := [.int a2]) (rest := []) X hP hS (c_X4_has l X.2.2 (hAll.ring (Or.inl rfl)) hc_1) (cwV 1 hts gX5_reply_X4_has rfl rfl rfl (by decide +kernel) ⟨Nat.le_of_ble_eq_true rfl, Nat.le_of_ble_eq_true rfl⟩) (x_recv (C := RX4) (T := TX4) (N := 12) X hP (hAll.ring (Or.inl rfl)).obj rfl) rfl hl.1 rfl (Nat.le_of_ble_eq_true rfl) dX5_reply_5 ⟨Nat.zero_le _, Nat.zero_le _⟩) hS (fun H locs hP hS => ?_)
  refine lv_if_eq (tgt := 22) hx hb dX5_reply_8 (by decide) (fun h_3 => ?_) (fun h_3 => ?_)
  · rw [if_pos h_3] at hm
    refine lv_iconst (v := (-1)) hx hb dX5_reply_22 (by decide) ?_
    cases hm
    exact x_iret X hP hS hr hlocks dX5_reply_23
  · rw [if_neg h_3] at hm
    refine lv_aload_n hx hb dX5_reply_11 rfl (lv_at hl 0 rfl) ?_
    refine xg_X5_0 X hP hAll uX5_reply_X5 mbX5_reply_1 dX5_reply_12 ?_
    refine lv_iload_n hx hb dX5_reply_15 rfl (lv_at hl 1 rfl) ?_
    obtain ⟨r_5, hc_4, hm⟩ := bind_elim hm
    refine x_calli (x_runV (As := [.int a1]) (rest := []) X hP hS (c_X4_hasRow l X.2.2 (hAll.ring (Or.inl rfl)) hc_4) (cwV 1 hts gX5_reply_X4_hasRow rfl rfl rfl (by decide +kernel) ⟨Nat.le_of_ble_eq_true rfl, Nat.le_of_ble_eq_true rfl⟩) (x_recv (C := RX4) (T := TX4) (N := 12) X hP (hAll.ring (Or.inl rfl)).obj rfl) rfl hl.1 rfl (Nat.le_of_ble_eq_true rfl) dX5_reply_16 ⟨Nat.zero_le _, Nat.zero_le _⟩) hS (fun H locs hP hS => ?_)
    refine lv_if_ne (tgt := 24) hx hb dX5_reply_19 (by decide) (fun h_6 => ?_) (fun h_6 => ?_)
    · rw [if_neg h_6] at hm
      refine lv_aload_n hx hb dX5_reply_24 rfl (lv_at hl 0 rfl) ?_
      refine xg_X5_0 X hP hAll uX5_reply_X5 mbX5_reply_1 dX5_reply_25 ?_
      refine lv_iload_n hx hb dX5_reply_28 rfl (lv_at hl 1 rfl) ?_
      refine lv_iload_n hx hb dX5_reply_29 rfl (lv_at hl 2 rfl) ?_
      obtain ⟨r_8, hc_7, hm⟩ := bind_elim hm
      refine x_calli (x_runS (As := [.ref (ga g 0), .int a1, .int a2]) (rest := []) X hP hS (c_X0_bestDoing l X.2.2 (hAll.ring (Or.inl rfl)) hc_7) (va_cwS 3 hts gX5_reply_X0_bestDoing rfl rfl rfl (by decide +kernel) ⟨Nat.le_of_ble_eq_true rfl, Nat.le_of_ble_eq_true rfl⟩) rfl hl.1 rfl (Nat.le_of_ble_eq_true rfl) dX5_reply_30 ⟨Nat.zero_le _, Nat.zero_le _⟩) hS (fun H locs hP hS => ?_)
      cases hm
      exact x_iret X hP hS hr hlocks dX5_reply_33
    · rw [if_pos h_6] at hm
      refine lv_iconst (v := (-1)) hx hb dX5_reply_22 (by decide) ?_
      cases hm
      exact x_iret X hP hS hr hlocks dX5_reply_23


/-! X5_rests -/
def rmX5_rests : Room := { frames := 6, cells := 0, slots := 0, locals := 148 }
theorem uX5_rests_X5 : ∀ w ∈ wsX50, w ∈ wsX5_rests := by decide +kernel
theorem mbX5_rests_1 : Cond.fieldLink RX5 12 "FootANight" "now" "LFootANight$Ring;" ∈ wsX5_rests := by decide +kernel
theorem uX5_rests_X4 : ∀ w ∈ wsX40, w ∈ wsX5_rests := by decide +kernel
theorem mbX5_rests_3 : Cond.fieldLink RX5 157 "FootANight$Ring" "n" "I" ∈ wsX5_rests := by decide +kernel
theorem mbX5_rests_4 : Cond.fieldLink RX5 32 "FootANight" "counsel" "LFootANight$Counsel;" ∈ wsX5_rests := by decide +kernel
theorem uX5_rests_X0 : ∀ w ∈ wsX00, w ∈ wsX5_rests := by decide +kernel
theorem mbX5_rests_6 : Cond.fieldLink RX5 164 "FootANight$Counsel" "restCount" "I" ∈ wsX5_rests := by decide +kernel
theorem mbX5_rests_7 : Cond.fieldLink RX5 167 "FootANight$Counsel" "restFirst" "I" ∈ wsX5_rests := by decide +kernel
theorem mbX5_rests_8 : Cond.fieldLink RX5 170 "FootANight$Counsel" "restMost" "I" ∈ wsX5_rests := by decide +kernel
theorem mbX5_rests_9 : Cond.fieldLink RX5 173 "FootANight$Counsel" "restAlike" "I" ∈ wsX5_rests := by decide +kernel
set_option maxHeartbeats 4000000 in
set_option maxRecDepth 100000 in
theorem c_X5_rests (l : Launch) {g : GT} (hA : AxG g) (hAll : okAll g)   {fu : Nat} {M : Mem} {a1 : Int32} {rr : Int32} {MM : Mem} (hm : m_X5_rests fu M a1 = some (rr, MM)) : CI l yX5_rests wsX5_rests rmX5_rests g [.ref (ga g 146), .int a1] M rr MM := by
  refine Met.ofW (cc := cX5_rests) (maxL := 2) (ret := (some .int)) (by decide) rfl ?_
  intro p e s m args below meth c s₁ B hml hv
  obtain ⟨rfl, hSx, hP⟩ := hv
  have hr := B.returns
  have hlocks := B.notSynchronized
  have X : CxG g p s m _ c cX5_rests 2 RX5 wsX5_rests := ⟨⟨B.exec, B.bytes, hml, findClass_of_methodNamed B.named, atoms_spec (ws := wsX5_rests) B.pre⟩, hSx, hA⟩
  have hS : va_S (AbG g) s.heap s.heap [] := va_S.rf
  have hl := lv_entry (([.ref (ga g 146), .int a1] : List Value)) (n := 2) (Nat.le_of_ble_eq_true rfl)
  rw [lg_entry_eq]
  generalize (lg_sl (([.ref (ga g 146), .int a1] : List Value)) ++ List.replicate (2 - (lg_sl (([.ref (ga g 146), .int a1] : List Value))).length) Slot.unset).toArray = ls at hl ⊢
  have hl : lv_has ls 2 [(0, .ref (ga g 146)), (1, .int a1)] := hl
  obtain ⟨⟨hx, hb, hml, hown, hts⟩, -, -⟩ := id X
  unfold m_X5_rests at hm
  refine lv_aload_n hx hb dX5_rests_0 rfl (lv_at hl 0 rfl) ?_
  refine xg_X5_0 X hP hAll uX5_rests_X5 mbX5_rests_1 dX5_rests_1 ?_
  refine xg_X4_0 X hP (hAll.ring (Or.inl rfl)) uX5_rests_X4 mbX5_rests_3 dX5_rests_4 ?_
  refine lv_bipush (v := 6) hx hb dX5_rests_7 (by decide) ?_
  refine lv_icmp_gt (tgt := 21) hx hb dX5_rests_9 (by decide) (fun h_1 => ?_) (fun h_1 => ?_)
  · rw [if_pos h_1] at hm
    refine lv_iconst (v := (-1)) hx hb dX5_rests_21 (by decide) ?_
    cases hm
    exact x_iret X hP hS hr hlocks dX5_rests_22
  · rw [if_neg h_1] at hm
    refine lv_iload_n hx hb dX5_rests_12 rfl (lv_at hl 1 rfl) ?_
    refine lv_if_lt (tgt := 21) hx hb dX5_rests_13 (by decide) (fun h_2 => ?_) (fun h_2 => ?_)
    · rw [if_pos h_2] at hm
      refine lv_iconst (v := (-1)) hx hb dX5_rests_21 (by decide) ?_
      cases hm
      exact x_iret X hP hS hr hlocks dX5_rests_22
    · rw [if_neg h_2] at hm
      refine lv_iload_n hx hb dX5_rests_16 rfl (lv_at hl 1 rfl) ?_
      refine lv_iconst (v := 3) hx hb dX5_rests_17 (by decide) ?_
      refine lv_icmp_le (tgt := 23) hx hb dX5_rests_18 (by decide) (fun h_3 => ?_) (fun h_3 => ?_)
      · rw [if_pos h_3] at hm
        refine lv_aload_n hx hb dX5_rests_23 rfl (lv_at hl 0 rfl) ?_
        refine xg_X5_4 X hP hAll uX5_rests_X5 mbX5_rests_4 dX5_rests_24 ?_
        refine lv_aload_n hx hb dX5_rests_27 rfl (lv_at hl 0 rfl) ?_
        refine xg_X5_0 X hP hAll uX5_rests_X5 mbX5_rests_1 dX5_rests_28 ?_
        obtain ⟨M_5, hc_4, hm⟩ := bind_elim hm
        refine x_callv (x_runV (As := [.ref (ga g 0)]) (rest := []) X hP hS (c_X0_findRests l X.2.2 hAll (hAll.ring (Or.inl rfl)) hc_4) (cwV 1 hts gX5_rests_X0_findRests rfl rfl rfl (by decide +kernel) ⟨Nat.le_of_ble_eq_true rfl, Nat.le_of_ble_eq_true rfl⟩) (x_recv (C := RX0) (T := TX0) (N := 12) X hP (okc_115 hAll) rfl) rfl hl.1 rfl (Nat.le_of_ble_eq_true rfl) dX5_rests_31 ⟨Nat.zero_le _, Nat.zero_le _⟩) hS (fun H locs hP hS => ?_)
        refine lv_iload_n hx hb dX5_rests_34 rfl (lv_at hl 1 rfl) ?_
        by_cases h_6 : a1 = 0
        · rw [if_pos h_6] at hm
          refine lv_tableIn (off := 25) (tgt := 60) hx hb dX5_rests_35 (by rw [h_6]; decide) (by rw [h_6]; decide) (by rw [h_6]; rfl) (by decide) ?_
          refine lv_aload_n hx hb dX5_rests_60 rfl (lv_at hl 0 rfl) ?_
          refine xg_X5_4 X hP hAll uX5_rests_X5 mbX5_rests_4 dX5_rests_61 ?_
          refine xg_X0_0 X hP hAll uX5_rests_X0 mbX5_rests_6 dX5_rests_64 ?_
          cases hm
          exact x_iret X hP hS hr hlocks dX5_rests_67
        rw [if_neg h_6] at hm
        by_cases h_7 : a1 = 1
        · rw [if_pos h_7] at hm
          refine lv_tableIn (off := 33) (tgt := 68) hx hb dX5_rests_35 (by rw [h_7]; decide) (by rw [h_7]; decide) (by rw [h_7]; rfl) (by decide) ?_
          refine lv_aload_n hx hb dX5_rests_68 rfl (lv_at hl 0 rfl) ?_
          refine xg_X5_4 X hP hAll uX5_rests_X5 mbX5_rests_4 dX5_rests_69 ?_
          refine xg_X0_1 X hP hAll uX5_rests_X0 mbX5_rests_7 dX5_rests_72 ?_
          cases hm
          exact x_iret X hP hS hr hlocks dX5_rests_75
        rw [if_neg h_7] at hm
        by_cases h_8 : a1 = 2
        · rw [if_pos h_8] at hm
          refine lv_tableIn (off := 41) (tgt := 76) hx hb dX5_rests_35 (by rw [h_8]; decide) (by rw [h_8]; decide) (by rw [h_8]; rfl) (by decide) ?_
          refine lv_aload_n hx hb dX5_rests_76 rfl (lv_at hl 0 rfl) ?_
          refine xg_X5_4 X hP hAll uX5_rests_X5 mbX5_rests_4 dX5_rests_77 ?_
          refine xg_X0_2 X hP hAll uX5_rests_X0 mbX5_rests_8 dX5_rests_80 ?_
          cases hm
          exact x_iret X hP hS hr hlocks dX5_rests_83
        rw [if_neg h_8] at hm
        refine lv_tableOut (tgt := 84) hx hb dX5_rests_35 (by
            have zh_6 := lv_neT h_6 (a := 0) (by decide)
            have zh_7 := lv_neT h_7 (a := 1) (by decide)
            have zh_8 := lv_neT h_8 (a := 2) (by decide)
            omega) (by decide) ?_
        refine lv_aload_n hx hb dX5_rests_84 rfl (lv_at hl 0 rfl) ?_
        refine xg_X5_4 X hP hAll uX5_rests_X5 mbX5_rests_4 dX5_rests_85 ?_
        refine xg_X0_3 X hP hAll uX5_rests_X0 mbX5_rests_9 dX5_rests_88 ?_
        cases hm
        exact x_iret X hP hS hr hlocks dX5_rests_91
      · rw [if_neg h_3] at hm
        refine lv_iconst (v := (-1)) hx hb dX5_rests_21 (by decide) ?_
        cases hm
        exact x_iret X hP hS hr hlocks dX5_rests_22


/-! X5_still -/
def rmX5_still : Room := { frames := 6, cells := 0, slots := 0, locals := 139 }
theorem uX5_still_X5 : ∀ w ∈ wsX50, w ∈ wsX5_still := by decide +kernel
theorem mbX5_still_1 : Cond.fieldLink RX5 32 "FootANight" "counsel" "LFootANight$Counsel;" ∈ wsX5_still := by decide +kernel
theorem mbX5_still_2 : Cond.fieldLink RX5 12 "FootANight" "now" "LFootANight$Ring;" ∈ wsX5_still := by decide +kernel
set_option maxHeartbeats 4000000 in
set_option maxRecDepth 100000 in
theorem c_X5_still (l : Launch) {g : GT} (hA : AxG g) (hAll : okAll g)   {fu : Nat} {M : Mem} {rr : Int32} {MM : Mem} (hm : m_X5_still fu M = some (rr, MM)) : CI l yX5_still wsX5_still rmX5_still g [.ref (ga g 146)] M rr MM := by
  refine Met.ofW (cc := cX5_still) (maxL := 1) (ret := (some .int)) (by decide) rfl ?_
  intro p e s m args below meth c s₁ B hml hv
  obtain ⟨rfl, hSx, hP⟩ := hv
  have hr := B.returns
  have hlocks := B.notSynchronized
  have X : CxG g p s m _ c cX5_still 1 RX5 wsX5_still := ⟨⟨B.exec, B.bytes, hml, findClass_of_methodNamed B.named, atoms_spec (ws := wsX5_still) B.pre⟩, hSx, hA⟩
  have hS : va_S (AbG g) s.heap s.heap [] := va_S.rf
  have hl := lv_entry (([.ref (ga g 146)] : List Value)) (n := 1) (Nat.le_of_ble_eq_true rfl)
  rw [lg_entry_eq]
  generalize (lg_sl (([.ref (ga g 146)] : List Value)) ++ List.replicate (1 - (lg_sl (([.ref (ga g 146)] : List Value))).length) Slot.unset).toArray = ls at hl ⊢
  have hl : lv_has ls 1 [(0, .ref (ga g 146))] := hl
  obtain ⟨⟨hx, hb, hml, hown, hts⟩, -, -⟩ := id X
  unfold m_X5_still at hm
  refine lv_aload_n hx hb dX5_still_0 rfl (lv_at hl 0 rfl) ?_
  refine xg_X5_4 X hP hAll uX5_still_X5 mbX5_still_1 dX5_still_1 ?_
  refine lv_aload_n hx hb dX5_still_4 rfl (lv_at hl 0 rfl) ?_
  refine xg_X5_0 X hP hAll uX5_still_X5 mbX5_still_2 dX5_still_5 ?_
  obtain ⟨⟨r_2, M_3⟩, hc_1, hm⟩ := bind_elim hm
  replace hm := un2_e hm
  refine x_calli (x_runV (As := [.ref (ga g 0)]) (rest := []) X hP hS (c_X0_fewestWatchers l X.2.2 hAll (hAll.ring (Or.inl rfl)) hc_1) (cwV 1 hts gX5_still_X0_fewestWatchers rfl rfl rfl (by decide +kernel) ⟨Nat.le_of_ble_eq_true rfl, Nat.le_of_ble_eq_true rfl⟩) (x_recv (C := RX0) (T := TX0) (N := 12) X hP (okc_115 hAll) rfl) rfl hl.1 rfl (Nat.le_of_ble_eq_true rfl) dX5_still_8 ⟨Nat.zero_le _, Nat.zero_le _⟩) hS (fun H locs hP hS => ?_)
  cases hm
  exact x_iret X hP hS hr hlocks dX5_still_11


/-! X5_walls -/
def rmX5_walls : Room := { frames := 6, cells := 0, slots := 0, locals := 146 }
theorem uX5_walls_X5 : ∀ w ∈ wsX50, w ∈ wsX5_walls := by decide +kernel
theorem mbX5_walls_1 : Cond.fieldLink RX5 19 "FootANight" "dream" "LFootANight$Ring;" ∈ wsX5_walls := by decide +kernel
theorem mbX5_walls_2 : Cond.fieldLink RX5 12 "FootANight" "now" "LFootANight$Ring;" ∈ wsX5_walls := by decide +kernel
theorem mbX5_walls_3 : Cond.fieldLink RX5 32 "FootANight" "counsel" "LFootANight$Counsel;" ∈ wsX5_walls := by decide +kernel
theorem uX5_walls_X0 : ∀ w ∈ wsX00, w ∈ wsX5_walls := by decide +kernel
theorem mbX5_walls_5 : Cond.fieldLink RX5 190 "FootANight$Counsel" "wallWatchers" "I" ∈ wsX5_walls := by decide +kernel
theorem mbX5_walls_6 : Cond.fieldLink RX5 187 "FootANight$Counsel" "wallSet" "I" ∈ wsX5_walls := by decide +kernel
set_option maxHeartbeats 4000000 in
set_option maxRecDepth 100000 in
theorem c_X5_walls (l : Launch) {g : GT} (hA : AxG g) (hAll : okAll g)   {fu : Nat} {M : Mem} {a1 : Int32} {a2 : Int32} {rr : Int32} {MM : Mem} (hm : m_X5_walls fu M a1 a2 = some (rr, MM)) : CI l yX5_walls wsX5_walls rmX5_walls g [.ref (ga g 146), .int a1, .int a2] M rr MM := by
  refine Met.ofW (cc := cX5_walls) (maxL := 3) (ret := (some .int)) (by decide) rfl ?_
  intro p e s m args below meth c s₁ B hml hv
  obtain ⟨rfl, hSx, hP⟩ := hv
  have hr := B.returns
  have hlocks := B.notSynchronized
  have X : CxG g p s m _ c cX5_walls 3 RX5 wsX5_walls := ⟨⟨B.exec, B.bytes, hml, findClass_of_methodNamed B.named, atoms_spec (ws := wsX5_walls) B.pre⟩, hSx, hA⟩
  have hS : va_S (AbG g) s.heap s.heap [] := va_S.rf
  have hl := lv_entry (([.ref (ga g 146), .int a1, .int a2] : List Value)) (n := 3) (Nat.le_of_ble_eq_true rfl)
  rw [lg_entry_eq]
  generalize (lg_sl (([.ref (ga g 146), .int a1, .int a2] : List Value)) ++ List.replicate (3 - (lg_sl (([.ref (ga g 146), .int a1, .int a2] : List Value))).length) Slot.unset).toArray = ls at hl ⊢
  have hl : lv_has ls 3 [(0, .ref (ga g 146)), (1, .int a1), (2, .int a2)] := hl
  obtain ⟨⟨hx, hb, hml, hown, hts⟩, -, -⟩ := id X
  unfold m_X5_walls at hm
  refine lv_iload_n hx hb dX5_walls_0 rfl (lv_at hl 1 rfl) ?_
  refine lv_if_lt (tgt := 18) hx hb dX5_walls_1 (by decide) (fun h_1 => ?_) (fun h_1 => ?_)
  · rw [if_pos h_1] at hm
    refine lv_iconst (v := (-1)) hx hb dX5_walls_18 (by decide) ?_
    cases hm
    exact x_iret X hP hS hr hlocks dX5_walls_19
  · rw [if_neg h_1] at hm
    refine lv_iload_n hx hb dX5_walls_4 rfl (lv_at hl 1 rfl) ?_
    refine lv_iconst (v := 2) hx hb dX5_walls_5 (by decide) ?_
    refine lv_icmp_gt (tgt := 18) hx hb dX5_walls_6 (by decide) (fun h_2 => ?_) (fun h_2 => ?_)
    · rw [if_pos h_2] at hm
      refine lv_iconst (v := (-1)) hx hb dX5_walls_18 (by decide) ?_
      cases hm
      exact x_iret X hP hS hr hlocks dX5_walls_19
    · rw [if_neg h_2] at hm
      refine lv_iload_n hx hb dX5_walls_9 rfl (lv_at hl 2 rfl) ?_
      refine lv_if_lt (tgt := 18) hx hb dX5_walls_10 (by decide) (fun h_3 => ?_) (fun h_3 => ?_)
      · rw [if_pos h_3] at hm
        refine lv_iconst (v := (-1)) hx hb dX5_walls_18 (by decide) ?_
        cases hm
        exact x_iret X hP hS hr hlocks dX5_walls_19
      · rw [if_neg h_3] at hm
        refine lv_iload_n hx hb dX5_walls_13 rfl (lv_at hl 2 rfl) ?_
        refine lv_iconst (v := 1) hx hb dX5_walls_14 (by decide) ?_
        refine lv_icmp_le (tgt := 20) hx hb dX5_walls_15 (by decide) (fun h_4 => ?_) (fun h_4 => ?_)
        · rw [if_pos h_4] at hm
          refine lv_aload_n hx hb dX5_walls_20 rfl (lv_at hl 0 rfl) ?_
          refine xg_X5_2 X hP hAll uX5_walls_X5 mbX5_walls_1 dX5_walls_21 ?_
          refine lv_aload_n hx hb dX5_walls_24 rfl (lv_at hl 0 rfl) ?_
          refine xg_X5_0 X hP hAll uX5_walls_X5 mbX5_walls_2 dX5_walls_25 ?_
          obtain ⟨M_6, hc_5, hm⟩ := bind_elim hm
          refine x_callv (x_runV (As := [.ref (ga g 0)]) (rest := []) X hP hS (c_X4_copy l X.2.2 (hAll.ring (Or.inr (Or.inr rfl))) (hAll.ring (Or.inl rfl)) hc_5) (cwV 1 hts gX5_walls_X4_copy rfl rfl rfl (by decide +kernel) ⟨Nat.le_of_ble_eq_true rfl, Nat.le_of_ble_eq_true rfl⟩) (x_recv (C := RX4) (T := TX4) (N := 12) X hP (hAll.ring (Or.inr (Or.inr rfl))).obj rfl) rfl hl.1 rfl (Nat.le_of_ble_eq_true rfl) dX5_walls_28 ⟨Nat.zero_le _, Nat.zero_le _⟩) hS (fun H locs hP hS => ?_)
          refine lv_aload_n hx hb dX5_walls_31 rfl (lv_at hl 0 rfl) ?_
          refine xg_X5_4 X hP hAll uX5_walls_X5 mbX5_walls_3 dX5_walls_32 ?_
          refine lv_aload_n hx hb dX5_walls_35 rfl (lv_at hl 0 rfl) ?_
          refine xg_X5_2 X hP hAll uX5_walls_X5 mbX5_walls_1 dX5_walls_36 ?_
          refine lv_iload_n hx hb dX5_walls_39 rfl (lv_at hl 1 rfl) ?_
          obtain ⟨M_8, hc_7, hm⟩ := bind_elim hm
          refine x_callv (x_runV (As := [.ref (ga g 74), .int a1]) (rest := []) X hP hS (c_X0_findWalls l X.2.2 hAll (hAll.ring (Or.inr (Or.inr rfl))) hc_7) (cwV 2 hts gX5_walls_X0_findWalls rfl rfl rfl (by decide +kernel) ⟨Nat.le_of_ble_eq_true rfl, Nat.le_of_ble_eq_true rfl⟩) (x_recv (C := RX0) (T := TX0) (N := 12) X hP (okc_115 hAll) rfl) rfl hl.1 rfl (Nat.le_of_ble_eq_true rfl) dX5_walls_40 ⟨Nat.zero_le _, Nat.zero_le _⟩) hS (fun H locs hP hS => ?_)
          refine lv_iload_n hx hb dX5_walls_43 rfl (lv_at hl 2 rfl) ?_
          refine lv_if_ne (tgt := 57) hx hb dX5_walls_44 (by decide) (fun h_9 => ?_) (fun h_9 => ?_)
          · rw [if_neg h_9] at hm
            refine lv_aload_n hx hb dX5_walls_57 rfl (lv_at hl 0 rfl) ?_
            refine xg_X5_4 X hP hAll uX5_walls_X5 mbX5_walls_3 dX5_walls_58 ?_
            refine xg_X0_5 X hP hAll uX5_walls_X0 mbX5_walls_5 dX5_walls_61 ?_
            cases hm
            exact x_iret X hP hS hr hlocks dX5_walls_64
          · rw [if_pos h_9] at hm
            refine lv_aload_n hx hb dX5_walls_47 rfl (lv_at hl 0 rfl) ?_
            refine xg_X5_4 X hP hAll uX5_walls_X5 mbX5_walls_3 dX5_walls_48 ?_
            refine xg_X0_4 X hP hAll uX5_walls_X0 mbX5_walls_6 dX5_walls_51 ?_
            refine lv_goto (tgt := 64) hx hb dX5_walls_54 (by decide) ?_
            cases hm
            exact x_iret X hP hS hr hlocks dX5_walls_64
        · rw [if_neg h_4] at hm
          refine lv_iconst (v := (-1)) hx hb dX5_walls_18 (by decide) ?_
          cases hm
          exact x_iret X hP hS hr hlocks dX5_walls_19


/-! X5_pact -/
def rmX5_pact : Room := { frames := 6, cells := 0, slots := 0, locals := 142 }
theorem uX5_pact_X5 : ∀ w ∈ wsX50, w ∈ wsX5_pact := by decide +kernel
theorem mbX5_pact_1 : Cond.fieldLink RX5 12 "FootANight" "now" "LFootANight$Ring;" ∈ wsX5_pact := by decide +kernel
set_option maxHeartbeats 4000000 in
set_option maxRecDepth 100000 in
theorem c_X5_pact (l : Launch) {g : GT} (hA : AxG g) (hAll : okAll g)   {fu : Nat} {M : Mem} {a1 : Int32} {a2 : Int32} {rr : Int32} (hm : m_X5_pact fu M a1 a2 = some rr) : CI l yX5_pact wsX5_pact rmX5_pact g [.ref (ga g 146), .int a1, .int a2] M rr M := by
  refine Met.ofW (cc := cX5_pact) (maxL := 3) (ret := (some .int)) (by decide) rfl ?_
  intro p e s m args below meth c s₁ B hml hv
  obtain ⟨rfl, hSx, hP⟩ := hv
  have hr := B.returns
  have hlocks := B.notSynchronized
  have X : CxG g p s m _ c cX5_pact 3 RX5 wsX5_pact := ⟨⟨B.exec, B.bytes, hml, findClass_of_methodNamed B.named, atoms_spec (ws := wsX5_pact) B.pre⟩, hSx, hA⟩
  have hS : va_S (AbG g) s.heap s.heap [] := va_S.rf
  have hl := lv_entry (([.ref (ga g 146), .int a1, .int a2] : List Value)) (n := 3) (Nat.le_of_ble_eq_true rfl)
  rw [lg_entry_eq]
  generalize (lg_sl (([.ref (ga g 146), .int a1, .int a2] : List Value)) ++ List.replicate (3 - (lg_sl (([.ref (ga g 146), .int a1, .int a2] : List Value))).length) Slot.unset).toArray = ls at hl ⊢
  have hl : lv_has ls 3 [(0, .ref (ga g 146)), (1, .int a1), (2, .int a2)] := hl
  obtain ⟨⟨hx, hb, hml, hown, hts⟩, -, -⟩ := id X
  unfold m_X5_pact at hm
  refine lv_aload_n hx hb dX5_pact_0 rfl (lv_at hl 0 rfl) ?_
  refine xg_X5_0 X hP hAll uX5_pact_X5 mbX5_pact_1 dX5_pact_1 ?_
  refine lv_iload_n hx hb dX5_pact_4 rfl (lv_at hl 1 rfl) ?_
  obtain ⟨r_2, hc_1, hm⟩ := bind_elim hm
  refine x_calli (x_runV (As := [.int a1]) (rest := []) X hP hS (c_X4_has l X.2.2 (hAll.ring (Or.inl rfl)) hc_1) (cwV 1 hts gX5_pact_X4_has rfl rfl rfl (by decide +kernel) ⟨Nat.le_of_ble_eq_true rfl, Nat.le_of_ble_eq_true rfl⟩) (x_recv (C := RX4) (T := TX4) (N := 12) X hP (hAll.ring (Or.inl rfl)).obj rfl) rfl hl.1 rfl (Nat.le_of_ble_eq_true rfl) dX5_pact_5 ⟨Nat.zero_le _, Nat.zero_le _⟩) hS (fun H locs hP hS => ?_)
  refine lv_if_eq (tgt := 23) hx hb dX5_pact_8 (by decide) (fun h_3 => ?_) (fun h_3 => ?_)
  · rw [if_pos h_3] at hm
    refine lv_iconst (v := (-1)) hx hb dX5_pact_23 (by decide) ?_
    cases hm
    exact x_iret X hP hS hr hlocks dX5_pact_24
  · rw [if_neg h_3] at hm
    refine lv_iload_n hx hb dX5_pact_11 rfl (lv_at hl 2 rfl) ?_
    refine lv_iconst (v := (-1)) hx hb dX5_pact_12 (by decide) ?_
    refine lv_icmp_lt (tgt := 23) hx hb dX5_pact_13 (by decide) (fun h_4 => ?_) (fun h_4 => ?_)
    · rw [if_pos h_4] at hm
      refine lv_iconst (v := (-1)) hx hb dX5_pact_23 (by decide) ?_
      cases hm
      exact x_iret X hP hS hr hlocks dX5_pact_24
    · rw [if_neg h_4] at hm
      refine lv_iload_n hx hb dX5_pact_16 rfl (lv_at hl 2 rfl) ?_
      refine lv_sipush (v := 1000) hx hb dX5_pact_17 (by decide) ?_
      refine lv_icmp_lt (tgt := 25) hx hb dX5_pact_20 (by decide) (fun h_5 => ?_) (fun h_5 => ?_)
      · rw [if_pos h_5] at hm
        refine lv_iload_n hx hb dX5_pact_25 rfl (lv_at hl 2 rfl) ?_
        refine lv_iconst (v := (-1)) hx hb dX5_pact_26 (by decide) ?_
        refine lv_icmp_ne (tgt := 39) hx hb dX5_pact_27 (by decide) (fun h_6 => ?_) (fun h_6 => ?_)
        · rw [if_neg h_6] at hm
          refine lv_aload_n hx hb dX5_pact_39 rfl (lv_at hl 0 rfl) ?_
          refine xg_X5_0 X hP hAll uX5_pact_X5 mbX5_pact_1 dX5_pact_40 ?_
          refine lv_iload_n hx hb dX5_pact_43 rfl (lv_at hl 1 rfl) ?_
          refine lv_iload_n hx hb dX5_pact_44 rfl (lv_at hl 2 rfl) ?_
          obtain ⟨r_8, hc_7, hm⟩ := bind_elim hm
          refine x_calli (x_runS (As := [.ref (ga g 0), .int a1, .int a2]) (rest := []) X hP hS (c_X0_pactHolds l X.2.2 (hAll.ring (Or.inl rfl)) hc_7) (va_cwS 3 hts gX5_pact_X0_pactHolds rfl rfl rfl (by decide +kernel) ⟨Nat.le_of_ble_eq_true rfl, Nat.le_of_ble_eq_true rfl⟩) rfl hl.1 rfl (Nat.le_of_ble_eq_true rfl) dX5_pact_45 ⟨Nat.zero_le _, Nat.zero_le _⟩) hS (fun H locs hP hS => ?_)
          refine lv_if_eq (tgt := 55) hx hb dX5_pact_48 (by decide) (fun h_9 => ?_) (fun h_9 => ?_)
          · rw [if_pos h_9] at hm
            refine lv_iconst (v := 0) hx hb dX5_pact_55 (by decide) ?_
            cases hm
            exact x_iret X hP hS hr hlocks dX5_pact_56
          · rw [if_neg h_9] at hm
            refine lv_iconst (v := 1) hx hb dX5_pact_51 (by decide) ?_
            refine lv_goto (tgt := 56) hx hb dX5_pact_52 (by decide) ?_
            cases hm
            exact x_iret X hP hS hr hlocks dX5_pact_56
        · rw [if_pos h_6] at hm
          refine lv_aload_n hx hb dX5_pact_30 rfl (lv_at hl 0 rfl) ?_
          refine xg_X5_0 X hP hAll uX5_pact_X5 mbX5_pact_1 dX5_pact_31 ?_
          refine lv_iload_n hx hb dX5_pact_34 rfl (lv_at hl 1 rfl) ?_
          obtain ⟨r_11, hc_10, hm⟩ := bind_elim hm
          refine x_calli (x_runS (As := [.ref (ga g 0), .int a1]) (rest := []) X hP hS (c_X0_leastPatience l X.2.2 (hAll.ring (Or.inl rfl)) hc_10) (va_cwS 2 hts gX5_pact_X0_leastPatience rfl rfl rfl (by decide +kernel) ⟨Nat.le_of_ble_eq_true rfl, Nat.le_of_ble_eq_true rfl⟩) rfl hl.1 rfl (Nat.le_of_ble_eq_true rfl) dX5_pact_35 ⟨Nat.zero_le _, Nat.zero_le _⟩) hS (fun H locs hP hS => ?_)
          cases hm
          exact x_iret X hP hS hr hlocks dX5_pact_38
      · rw [if_neg h_5] at hm
        refine lv_iconst (v := (-1)) hx hb dX5_pact_23 (by decide) ?_
        cases hm
        exact x_iret X hP hS hr hlocks dX5_pact_24


/-! X5_two -/
def rmX5_two : Room := { frames := 5, cells := 0, slots := 0, locals := 122 }
theorem uX5_two_X5 : ∀ w ∈ wsX50, w ∈ wsX5_two := by decide +kernel
theorem mbX5_two_1 : Cond.fieldLink RX5 12 "FootANight" "now" "LFootANight$Ring;" ∈ wsX5_two := by decide +kernel
theorem uX5_two_X4 : ∀ w ∈ wsX40, w ∈ wsX5_two := by decide +kernel
theorem mbX5_two_3 : Cond.fieldLink RX5 157 "FootANight$Ring" "n" "I" ∈ wsX5_two := by decide +kernel
theorem mbX5_two_4 : Cond.constantLong RX5 205 (-1) ∈ wsX5_two := by decide +kernel
theorem mbX5_two_5 : Cond.fieldLink RX5 19 "FootANight" "dream" "LFootANight$Ring;" ∈ wsX5_two := by decide +kernel
theorem mbX5_two_6 : Cond.fieldLink RX5 39 "FootANight" "duel" "LFootANight$Duel;" ∈ wsX5_two := by decide +kernel
theorem uX5_two_X1 : ∀ w ∈ wsX10, w ∈ wsX5_two := by decide +kernel
theorem mbX5_two_8 : Cond.fieldLink RX5 218 "FootANight$Duel" "doing" "[I" ∈ wsX5_two := by decide +kernel
theorem mbX5_two_9 : Cond.fieldLink RX5 214 "FootANight$Duel" "later" "[J" ∈ wsX5_two := by decide +kernel
set_option maxHeartbeats 4000000 in
set_option maxRecDepth 100000 in
theorem c_X5_two (l : Launch) {g : GT} (hA : AxG g) (hAll : okAll g)   {fu : Nat} {M : Mem} {a1 : Int32} {a2 : Int32} {a3 : Int32} {a4 : Int32} {rr : Int64} {MM : Mem} (hm : m_X5_two fu M a1 a2 a3 a4 = some (rr, MM)) : CL l yX5_two wsX5_two rmX5_two g [.ref (ga g 146), .int a1, .int a2, .int a3, .int a4] M rr MM := by
  refine Met.ofW (cc := cX5_two) (maxL := 6) (ret := (some .long)) (by decide) rfl ?_
  intro p e s m args below meth c s₁ B hml hv
  obtain ⟨rfl, hSx, hP⟩ := hv
  have hr := B.returns
  have hlocks := B.notSynchronized
  have X : CxG g p s m _ c cX5_two 6 RX5 wsX5_two := ⟨⟨B.exec, B.bytes, hml, findClass_of_methodNamed B.named, atoms_spec (ws := wsX5_two) B.pre⟩, hSx, hA⟩
  have hS : va_S (AbG g) s.heap s.heap [] := va_S.rf
  have hl := lv_entry (([.ref (ga g 146), .int a1, .int a2, .int a3, .int a4] : List Value)) (n := 6) (Nat.le_of_ble_eq_true rfl)
  rw [lg_entry_eq]
  generalize (lg_sl (([.ref (ga g 146), .int a1, .int a2, .int a3, .int a4] : List Value)) ++ List.replicate (6 - (lg_sl (([.ref (ga g 146), .int a1, .int a2, .int a3, .int a4] : List Value))).length) Slot.unset).toArray = ls at hl ⊢
  have hl : lv_has ls 6 [(0, .ref (ga g 146)), (1, .int a1), (2, .int a2), (3, .int a3), (4, .int a4)] := hl
  obtain ⟨⟨hx, hb, hml, hown, hts⟩, -, -⟩ := id X
  unfold m_X5_two at hm
  refine lv_aload_n hx hb dX5_two_0 rfl (lv_at hl 0 rfl) ?_
  refine xg_X5_0 X hP hAll uX5_two_X5 mbX5_two_1 dX5_two_1 ?_
  obtain ⟨r_2, hc_1, hm⟩ := bind_elim hm
  refine x_calli (x_runV (As := []) (rest := []) X hP hS (c_X4_allWidths l X.2.2 (hAll.ring (Or.inl rfl)) hc_1) (cwV 0 hts gX5_two_X4_allWidths rfl rfl rfl (by decide +kernel) ⟨Nat.le_of_ble_eq_true rfl, Nat.le_of_ble_eq_true rfl⟩) (x_recv (C := RX4) (T := TX4) (N := 12) X hP (hAll.ring (Or.inl rfl)).obj rfl) rfl hl.1 rfl (Nat.le_of_ble_eq_true rfl) dX5_two_4 ⟨Nat.zero_le _, Nat.zero_le _⟩) hS (fun H locs hP hS => ?_)
  refine lv_istore (lv' := [(5, .int r_2), (0, .ref (ga g 146)), (1, .int a1), (2, .int a2), (3, .int a3), (4, .int a4)]) hx hb dX5_two_7 hl (by decide) rfl (fun ls hl => ?_)
  refine lv_aload_n hx hb dX5_two_9 rfl (lv_at hl 1 rfl) ?_
  refine xg_X5_0 X hP hAll uX5_two_X5 mbX5_two_1 dX5_two_10 ?_
  refine xg_X4_0 X hP (hAll.ring (Or.inl rfl)) uX5_two_X4 mbX5_two_3 dX5_two_13 ?_
  refine lv_iconst (v := 2) hx hb dX5_two_16 (by decide) ?_
  refine lv_icmp_ne (tgt := 37) hx hb dX5_two_17 (by decide) (fun h_3 => ?_) (fun h_3 => ?_)
  · rw [if_neg h_3] at hm
    refine lv_ldc2 (v := (-1)) hx hb hown (hts _ mbX5_two_4) dX5_two_37 ?_
    cases hm
    exact x_lret X hP hS hr hlocks dX5_two_40
  · rw [if_pos h_3] at hm
    refine lv_iload hx hb dX5_two_20 (lv_at hl 0 rfl) ?_
    refine lv_bipush (v := 60) hx hb dX5_two_22 (by decide) ?_
    refine lv_icmp_gt (tgt := 37) hx hb dX5_two_24 (by decide) (fun h_4 => ?_) (fun h_4 => ?_)
    · rw [if_pos h_4] at hm
      refine lv_ldc2 (v := (-1)) hx hb hown (hts _ mbX5_two_4) dX5_two_37 ?_
      cases hm
      exact x_lret X hP hS hr hlocks dX5_two_40
    · rw [if_neg h_4] at hm
      refine lv_iload_n hx hb dX5_two_27 rfl (lv_at hl 4 rfl) ?_
      refine lv_if_lt (tgt := 37) hx hb dX5_two_28 (by decide) (fun h_5 => ?_) (fun h_5 => ?_)
      · rw [if_pos h_5] at hm
        refine lv_ldc2 (v := (-1)) hx hb hown (hts _ mbX5_two_4) dX5_two_37 ?_
        cases hm
        exact x_lret X hP hS hr hlocks dX5_two_40
      · rw [if_neg h_5] at hm
        refine lv_iload_n hx hb dX5_two_31 rfl (lv_at hl 4 rfl) ?_
        refine lv_iload hx hb dX5_two_32 (lv_at hl 0 rfl) ?_
        refine lv_icmp_le (tgt := 41) hx hb dX5_two_34 (by decide) (fun h_6 => ?_) (fun h_6 => ?_)
        · rw [if_pos h_6] at hm
          refine lv_iload_n hx hb dX5_two_41 rfl (lv_at hl 2 rfl) ?_
          refine lv_iconst (v := 1) hx hb dX5_two_42 (by decide) ?_
          refine lv_icmp_lt (tgt := 74) hx hb dX5_two_43 (by decide) (fun h_7 => ?_) (fun h_7 => ?_)
          · rw [if_pos h_7] at hm
            refine lv_ldc2 (v := (-1)) hx hb hown (hts _ mbX5_two_4) dX5_two_74 ?_
            cases hm
            exact x_lret X hP hS hr hlocks dX5_two_77
          · rw [if_neg h_7] at hm
            refine lv_iload_n hx hb dX5_two_46 rfl (lv_at hl 2 rfl) ?_
            refine lv_bipush (v := 40) hx hb dX5_two_47 (by decide) ?_
            refine lv_icmp_gt (tgt := 74) hx hb dX5_two_49 (by decide) (fun h_8 => ?_) (fun h_8 => ?_)
            · rw [if_pos h_8] at hm
              refine lv_ldc2 (v := (-1)) hx hb hown (hts _ mbX5_two_4) dX5_two_74 ?_
              cases hm
              exact x_lret X hP hS hr hlocks dX5_two_77
            · rw [if_neg h_8] at hm
              refine lv_iload_n hx hb dX5_two_52 rfl (lv_at hl 3 rfl) ?_
              refine lv_if_lt (tgt := 74) hx hb dX5_two_53 (by decide) (fun h_9 => ?_) (fun h_9 => ?_)
              · rw [if_pos h_9] at hm
                refine lv_ldc2 (v := (-1)) hx hb hown (hts _ mbX5_two_4) dX5_two_74 ?_
                cases hm
                exact x_lret X hP hS hr hlocks dX5_two_77
              · rw [if_neg h_9] at hm
                refine lv_iload_n hx hb dX5_two_56 rfl (lv_at hl 3 rfl) ?_
                refine lv_sipush (v := 1000) hx hb dX5_two_57 (by decide) ?_
                refine lv_icmp_ge (tgt := 74) hx hb dX5_two_60 (by decide) (fun h_10 => ?_) (fun h_10 => ?_)
                · rw [if_pos h_10] at hm
                  refine lv_ldc2 (v := (-1)) hx hb hown (hts _ mbX5_two_4) dX5_two_74 ?_
                  cases hm
                  exact x_lret X hP hS hr hlocks dX5_two_77
                · rw [if_neg h_10] at hm
                  refine lv_iload hx hb dX5_two_63 (lv_at hl 5 rfl) ?_
                  refine lv_if_lt (tgt := 74) hx hb dX5_two_65 (by decide) (fun h_11 => ?_) (fun h_11 => ?_)
                  · rw [if_pos h_11] at hm
                    refine lv_ldc2 (v := (-1)) hx hb hown (hts _ mbX5_two_4) dX5_two_74 ?_
                    cases hm
                    exact x_lret X hP hS hr hlocks dX5_two_77
                  · rw [if_neg h_11] at hm
                    refine lv_iload hx hb dX5_two_68 (lv_at hl 5 rfl) ?_
                    refine lv_iconst (v := 1) hx hb dX5_two_70 (by decide) ?_
                    refine lv_icmp_le (tgt := 78) hx hb dX5_two_71 (by decide) (fun h_12 => ?_) (fun h_12 => ?_)
                    · rw [if_pos h_12] at hm
                      refine lv_aload_n hx hb dX5_two_78 rfl (lv_at hl 1 rfl) ?_
                      refine xg_X5_2 X hP hAll uX5_two_X5 mbX5_two_5 dX5_two_79 ?_
                      refine lv_aload_n hx hb dX5_two_82 rfl (lv_at hl 1 rfl) ?_
                      refine xg_X5_0 X hP hAll uX5_two_X5 mbX5_two_1 dX5_two_83 ?_
                      obtain ⟨M_14, hc_13, hm⟩ := bind_elim hm
                      refine x_callv (x_runV (As := [.ref (ga g 0)]) (rest := []) X hP hS (c_X4_copy l X.2.2 (hAll.ring (Or.inr (Or.inr rfl))) (hAll.ring (Or.inl rfl)) hc_13) (cwV 1 hts gX5_two_X4_copy rfl rfl rfl (by decide +kernel) ⟨Nat.le_of_ble_eq_true rfl, Nat.le_of_ble_eq_true rfl⟩) (x_recv (C := RX4) (T := TX4) (N := 12) X hP (hAll.ring (Or.inr (Or.inr rfl))).obj rfl) rfl hl.1 rfl (Nat.le_of_ble_eq_true rfl) dX5_two_86 ⟨Nat.zero_le _, Nat.zero_le _⟩) hS (fun H locs hP hS => ?_)
                      refine lv_aload_n hx hb dX5_two_89 rfl (lv_at hl 1 rfl) ?_
                      refine xg_X5_5 X hP hAll uX5_two_X5 mbX5_two_6 dX5_two_90 ?_
                      refine lv_aload_n hx hb dX5_two_93 rfl (lv_at hl 1 rfl) ?_
                      refine xg_X5_2 X hP hAll uX5_two_X5 mbX5_two_5 dX5_two_94 ?_
                      refine lv_iload hx hb dX5_two_97 (lv_at hl 0 rfl) ?_
                      obtain ⟨M_16, hc_15, hm⟩ := bind_elim hm
                      refine x_callv (x_runV (As := [.ref (ga g 74), .int r_2]) (rest := []) X hP hS (c_X1_prepare l X.2.2 hAll (hAll.ring (Or.inr (Or.inr rfl))) hc_15) (cwV 2 hts gX5_two_X1_prepare rfl rfl rfl (by decide +kernel) ⟨Nat.le_of_ble_eq_true rfl, Nat.le_of_ble_eq_true rfl⟩) (x_recv (C := RX1) (T := TX1) (N := 8) X hP (okc_130 hAll) rfl) rfl hl.1 rfl (Nat.le_of_ble_eq_true rfl) dX5_two_99 ⟨Nat.zero_le _, Nat.zero_le _⟩) hS (fun H locs hP hS => ?_)
                      refine lv_aload_n hx hb dX5_two_102 rfl (lv_at hl 1 rfl) ?_
                      refine xg_X5_5 X hP hAll uX5_two_X5 mbX5_two_6 dX5_two_103 ?_
                      refine lv_iload_n hx hb dX5_two_106 rfl (lv_at hl 2 rfl) ?_
                      refine lv_iload_n hx hb dX5_two_107 rfl (lv_at hl 3 rfl) ?_
                      obtain ⟨M_18, hc_17, hm⟩ := bind_elim hm
                      refine x_callv (x_runV (As := [.int a1, .int a2]) (rest := []) X hP hS (c_X1_play l X.2.2 hAll hc_17) (cwV 2 hts gX5_two_X1_play rfl rfl rfl (by decide +kernel) ⟨Nat.le_of_ble_eq_true rfl, Nat.le_of_ble_eq_true rfl⟩) (x_recv (C := RX1) (T := TX1) (N := 8) X hP (okc_130 hAll) rfl) rfl hl.1 rfl (Nat.le_of_ble_eq_true rfl) dX5_two_108 ⟨Nat.zero_le _, Nat.zero_le _⟩) hS (fun H locs hP hS => ?_)
                      refine lv_iload hx hb dX5_two_111 (lv_at hl 5 rfl) ?_
                      refine lv_if_ne (tgt := 128) hx hb dX5_two_113 (by decide) (fun h_19 => ?_) (fun h_19 => ?_)
                      · rw [if_neg h_19] at hm
                        refine lv_aload_n hx hb dX5_two_128 rfl (lv_at hl 1 rfl) ?_
                        refine xg_X5_5 X hP hAll uX5_two_X5 mbX5_two_6 dX5_two_129 ?_
                        refine xg_X1_1 X hP hAll uX5_two_X1 mbX5_two_8 dX5_two_132 ?_
                        refine lv_iload_n hx hb dX5_two_135 rfl (lv_at hl 4 rfl) ?_
                        obtain ⟨hb_20, hm⟩ := chk_elim hm
                        refine x_iald X hP (okc_132 hAll) hb_20 dX5_two_136 ?_
                        refine lv_i2l (v := (rd M_18 132 (ix a3)).toInt64) hx hb dX5_two_137 rfl ?_
                        cases hm
                        exact x_lret X hP hS hr hlocks dX5_two_138
                      · rw [if_pos h_19] at hm
                        refine lv_aload_n hx hb dX5_two_116 rfl (lv_at hl 1 rfl) ?_
                        refine xg_X5_5 X hP hAll uX5_two_X5 mbX5_two_6 dX5_two_117 ?_
                        refine xg_X1_0 X hP hAll uX5_two_X1 mbX5_two_9 dX5_two_120 ?_
                        refine lv_iload_n hx hb dX5_two_123 rfl (lv_at hl 4 rfl) ?_
                        obtain ⟨hb_21, hm⟩ := chk_elim hm
                        refine x_lald X hP (okc_131 hAll) hb_21 dX5_two_124 ?_
                        refine lv_goto (tgt := 138) hx hb dX5_two_125 (by decide) ?_
                        cases hm
                        exact x_lret X hP hS hr hlocks dX5_two_138
                    · rw [if_neg h_12] at hm
                      refine lv_ldc2 (v := (-1)) hx hb hown (hts _ mbX5_two_4) dX5_two_74 ?_
                      cases hm
                      exact x_lret X hP hS hr hlocks dX5_two_77
        · rw [if_neg h_6] at hm
          refine lv_ldc2 (v := (-1)) hx hb hown (hts _ mbX5_two_4) dX5_two_37 ?_
          cases hm
          exact x_lret X hP hS hr hlocks dX5_two_40


/-! X5_was -/
def rmX5_was : Room := { frames := 1, cells := 0, slots := 0, locals := 21 }
theorem uX5_was_X5 : ∀ w ∈ wsX50, w ∈ wsX5_was := by decide +kernel
theorem mbX5_was_1 : Cond.fieldLink RX5 12 "FootANight" "now" "LFootANight$Ring;" ∈ wsX5_was := by decide +kernel
theorem uX5_was_X4 : ∀ w ∈ wsX40, w ∈ wsX5_was := by decide +kernel
theorem mbX5_was_3 : Cond.fieldLink RX5 79 "FootANight$Ring" "lands" "[[I" ∈ wsX5_was := by decide +kernel
set_option maxHeartbeats 4000000 in
set_option maxRecDepth 100000 in
theorem c_X5_was (l : Launch) {g : GT} (hA : AxG g) (hAll : okAll g)   {M : Mem} {a1 : Int32} {a2 : Int32} {rr : Int32} {MM : Mem} (hm : m_X5_was M a1 a2 = some (rr, MM)) : CI l yX5_was wsX5_was rmX5_was g [.ref (ga g 146), .int a1, .int a2] M rr MM := by
  refine Met.ofW (cc := cX5_was) (maxL := 3) (ret := (some .boolean)) (by decide) rfl ?_
  intro p e s m args below meth c s₁ B hml hv
  obtain ⟨rfl, hSx, hP⟩ := hv
  have hr := B.returns
  have hlocks := B.notSynchronized
  have X : CxG g p s m _ c cX5_was 3 RX5 wsX5_was := ⟨⟨B.exec, B.bytes, hml, findClass_of_methodNamed B.named, atoms_spec (ws := wsX5_was) B.pre⟩, hSx, hA⟩
  have hS : va_S (AbG g) s.heap s.heap [] := va_S.rf
  have hl := lv_entry (([.ref (ga g 146), .int a1, .int a2] : List Value)) (n := 3) (Nat.le_of_ble_eq_true rfl)
  rw [lg_entry_eq]
  generalize (lg_sl (([.ref (ga g 146), .int a1, .int a2] : List Value)) ++ List.replicate (3 - (lg_sl (([.ref (ga g 146), .int a1, .int a2] : List Value))).length) Slot.unset).toArray = ls at hl ⊢
  have hl : lv_has ls 3 [(0, .ref (ga g 146)), (1, .int a1), (2, .int a2)] := hl
  obtain ⟨⟨hx, hb, hml, hown, hts⟩, -, -⟩ := id X
  unfold m_X5_was at hm
  refine lv_aload_n hx hb dX5_was_0 rfl (lv_at hl 0 rfl) ?_
  refine xg_X5_0 X hP hAll uX5_was_X5 mbX5_was_1 dX5_was_1 ?_
  refine lv_iload_n hx hb dX5_was_4 rfl (lv_at hl 1 rfl) ?_
  obtain ⟨r_2, hc_1, hm⟩ := bind_elim hm
  refine x_calli (x_runV (As := [.int a1]) (rest := []) X hP hS (c_X4_has l X.2.2 (hAll.ring (Or.inl rfl)) hc_1) (cwV 1 hts gX5_was_X4_has rfl rfl rfl (by decide +kernel) ⟨Nat.le_of_ble_eq_true rfl, Nat.le_of_ble_eq_true rfl⟩) (x_recv (C := RX4) (T := TX4) (N := 12) X hP (hAll.ring (Or.inl rfl)).obj rfl) rfl hl.1 rfl (Nat.le_of_ble_eq_true rfl) dX5_was_5 ⟨Nat.zero_le _, Nat.zero_le _⟩) hS (fun H locs hP hS => ?_)
  refine lv_if_eq (tgt := 22) hx hb dX5_was_8 (by decide) (fun h_3 => ?_) (fun h_3 => ?_)
  · rw [if_pos h_3] at hm
    refine lv_iconst (v := 0) hx hb dX5_was_22 (by decide) ?_
    cases hm
    exact x_zret X (by decide) hP hS hr hlocks dX5_was_23
  · rw [if_neg h_3] at hm
    refine lv_iload_n hx hb dX5_was_11 rfl (lv_at hl 2 rfl) ?_
    refine lv_iconst (v := (-1)) hx hb dX5_was_12 (by decide) ?_
    refine lv_icmp_lt (tgt := 22) hx hb dX5_was_13 (by decide) (fun h_4 => ?_) (fun h_4 => ?_)
    · rw [if_pos h_4] at hm
      refine lv_iconst (v := 0) hx hb dX5_was_22 (by decide) ?_
      cases hm
      exact x_zret X (by decide) hP hS hr hlocks dX5_was_23
    · rw [if_neg h_4] at hm
      refine lv_iload_n hx hb dX5_was_16 rfl (lv_at hl 2 rfl) ?_
      refine lv_bipush (v := 60) hx hb dX5_was_17 (by decide) ?_
      refine lv_icmp_le (tgt := 24) hx hb dX5_was_19 (by decide) (fun h_5 => ?_) (fun h_5 => ?_)
      · rw [if_pos h_5] at hm
        refine lv_aload_n hx hb dX5_was_24 rfl (lv_at hl 0 rfl) ?_
        refine xg_X5_0 X hP hAll uX5_was_X5 mbX5_was_1 dX5_was_25 ?_
        refine xg_X4_5 X hP (hAll.ring (Or.inl rfl)) uX5_was_X4 mbX5_was_3 dX5_was_28 ?_
        refine lv_iload_n hx hb dX5_was_31 rfl (lv_at hl 1 rfl) ?_
        obtain ⟨hb_6, hm⟩ := chk_elim hm
        refine x_aaldI X hP (hAll.ring (Or.inl rfl)).lands hb_6 dX5_was_32 ?_
        refine lv_bipush (v := 8) hx hb dX5_was_33 (by decide) ?_
        refine lv_iload_n hx hb dX5_was_35 rfl (lv_at hl 2 rfl) ?_
        obtain ⟨M_7, hM_8, hm⟩ := bnd_elim hm
        refine x_iast X hP hS ((hAll.ring (Or.inl rfl)).land (inb_lt hb_6)) hM_8 (show inb 8 9 = true from rfl) dX5_was_36 (fun H locs hP hS => ?_)
        refine lv_iconst (v := 1) hx hb dX5_was_37 (by decide) ?_
        cases hm
        exact x_zret X (by decide) hP hS hr hlocks dX5_was_38
      · rw [if_neg h_5] at hm
        refine lv_iconst (v := 0) hx hb dX5_was_22 (by decide) ?_
        cases hm
        exact x_zret X (by decide) hP hS hr hlocks dX5_was_23


/-! X5_judged -/
def rmX5_judged : Room := { frames := 2, cells := 0, slots := 0, locals := 46 }
theorem uX5_judged_X5 : ∀ w ∈ wsX50, w ∈ wsX5_judged := by decide +kernel
theorem mbX5_judged_1 : Cond.fieldLink RX5 12 "FootANight" "now" "LFootANight$Ring;" ∈ wsX5_judged := by decide +kernel
theorem uX5_judged_X4 : ∀ w ∈ wsX40, w ∈ wsX5_judged := by decide +kernel
theorem mbX5_judged_3 : Cond.fieldLink RX5 92 "FootANight$Ring" "told" "[I" ∈ wsX5_judged := by decide +kernel
set_option maxHeartbeats 4000000 in
set_option maxRecDepth 100000 in
theorem wl_X5_judged_26 (X : CxG g p s m args c cX5_judged 4 RX5 wsX5_judged) (hAll : okAll g) {fu : Nat} {M : Mem} {x : Int32} (kx0 : ∀ (d1 : Int32) , x = d1 → ∀ (H : Heap) (locs : List Loc) (ls : Array Slot), va_P (gD g) vwCl (wlG g M) H → va_S (AbG g) s.heap H locs → lv_has ls 4 [(1, .int d1)] → W p l e (headSpec wsX5_judged rmX5_judged).room s m args below meth c H locs 0 0 Q (F0 m 72 ls [])) {n : Nat} {q0 : Int32 × Int32} (h : lp (b_X5_judged_26 fu M) n q0 = some x) : ∀ (H : Heap) (locs : List Loc) (ls : Array Slot), va_P (gD g) vwCl (wlG g M) H → va_S (AbG g) s.heap H locs → lv_has ls 4 [(0, .ref (ga g 146)), (1, .int q0.1), (2, .int q0.2)] → W p l e (headSpec wsX5_judged rmX5_judged).room s m args below meth c H locs 0 0 Q (F0 m 26 ls []) := by
  refine lp_elim (P := fun q0 : Int32 × Int32 => ∀ (H : Heap) (locs : List Loc) (ls : Array Slot), va_P (gD g) vwCl (wlG g M) H → va_S (AbG g) s.heap H locs → lv_has ls 4 [(0, .ref (ga g 146)), (1, .int q0.1), (2, .int q0.2)] → W p l e (headSpec wsX5_judged rmX5_judged).room s m args below meth c H locs 0 0 Q (F0 m 26 ls [])) (fun q1 o hm hI hX => ?_) n q0 h
  obtain ⟨c1, c2⟩ := q1
  have kb : ∀ (d1 : Int32) (d2 : Int32) , o = .inl (d1, d2) → ∀ (H : Heap) (locs : List Loc) (ls : Array Slot), va_P (gD g) vwCl (wlG g M) H → va_S (AbG g) s.heap H locs → lv_has ls 4 [(0, .ref (ga g 146)), (1, .int d1), (2, .int d2)] → W p l e (headSpec wsX5_judged rmX5_judged).room s m args below meth c H locs 0 0 Q (F0 m 26 ls []) := fun d1 d2 e => hI _ e
  have kx0 : ∀ (d1 : Int32) , o = .inr d1 → ∀ (H : Heap) (locs : List Loc) (ls : Array Slot), va_P (gD g) vwCl (wlG g M) H → va_S (AbG g) s.heap H locs → lv_has ls 4 [(1, .int d1)] → W p l e (headSpec wsX5_judged rmX5_judged).room s m args below meth c H locs 0 0 Q (F0 m 72 ls []) := fun d1 e => kx0 d1 (hX _ e).symm
  clear hI hX
  intro H locs ls hP hS hl
  obtain ⟨⟨hx, hb, hml, hown, hts⟩, -, -⟩ := id X
  have hl : lv_has ls 4 [(0, .ref (ga g 146)), (1, .int c1), (2, .int c2)] := hl
  have hP : va_P (gD g) vwCl (wlG g M) H := hP
  unfold b_X5_judged_26 at hm
  replace hm := un2_e hm
  refine lv_iload_n hx hb dX5_judged_26 rfl (lv_at hl 2 rfl) ?_
  refine lv_aload_n hx hb dX5_judged_27 rfl (lv_at hl 0 rfl) ?_
  refine xg_X5_0 X hP hAll uX5_judged_X5 mbX5_judged_1 dX5_judged_28 ?_
  refine xg_X4_4 X hP (hAll.ring (Or.inl rfl)) uX5_judged_X4 mbX5_judged_3 dX5_judged_31 ?_
  refine lv_bipush (v := 9) hx hb dX5_judged_34 (by decide) ?_
  refine x_iald X hP (hAll.ring (Or.inl rfl)).told (show inb 9 10 = true from rfl) dX5_judged_36 ?_
  refine lv_icmp_gt (tgt := 72) hx hb dX5_judged_37 (by decide) (fun h_6 => ?_) (fun h_6 => ?_)
  · rw [if_pos h_6] at hm
    exact kx0 c1 (Option.some.inj hm).symm _ _ _ hP hS (lv_sub hl [1] rfl)
  · rw [if_neg h_6] at hm
    refine lv_aload_n hx hb dX5_judged_40 rfl (lv_at hl 0 rfl) ?_
    refine xg_X5_0 X hP hAll uX5_judged_X5 mbX5_judged_1 dX5_judged_41 ?_
    refine lv_iload_n hx hb dX5_judged_44 rfl (lv_at hl 2 rfl) ?_
    obtain ⟨r_8, hc_7, hm⟩ := bind_elim hm
    refine x_calli (x_runV (As := [.int c2]) (rest := []) X hP hS (c_X4_feetIfFirstMoved l X.2.2 (hAll.ring (Or.inl rfl)) hc_7) (cwV 1 hts gX5_judged_X4_feetIfFirstMoved rfl rfl rfl (by decide +kernel) ⟨Nat.le_of_ble_eq_true rfl, Nat.le_of_ble_eq_true rfl⟩) (x_recv (C := RX4) (T := TX4) (N := 12) X hP (hAll.ring (Or.inl rfl)).obj rfl) rfl hl.1 rfl (Nat.le_of_ble_eq_true rfl) dX5_judged_45 ⟨Nat.zero_le _, Nat.zero_le _⟩) hS (fun H locs hP hS => ?_)
    refine lv_istore_n (lv' := [(3, .int r_8), (0, .ref (ga g 146)), (1, .int c1), (2, .int c2)]) hx hb dX5_judged_48 rfl hl (by decide) rfl (fun ls hl => ?_)
    refine lv_iload_n hx hb dX5_judged_49 rfl (lv_at hl 0 rfl) ?_
    refine lv_iconst (v := (-1)) hx hb dX5_judged_50 (by decide) ?_
    refine lv_icmp_eq (tgt := 66) hx hb dX5_judged_51 (by decide) (fun h_9 => ?_) (fun h_9 => ?_)
    · rw [if_pos h_9] at hm
      obtain ⟨v_10, hv_11, hm⟩ := bnd_elim hm
      refine lv_iinc (v := v_10) (lv' := [(2, .int v_10), (3, .int r_8), (0, .ref (ga g 146)), (1, .int c1)]) hx hb dX5_judged_66 hl (k := 3) rfl (by rw [hv_11]; rfl) (by decide) rfl (fun ls hl => ?_)
      refine lv_goto (tgt := 26) hx hb dX5_judged_69 (by decide) ?_
      exact kb c1 v_10 (Option.some.inj hm).symm _ _ _ hP hS (lv_sub hl [2, 3, 0] rfl)
    · rw [if_neg h_9] at hm
      refine lv_iload_n hx hb dX5_judged_54 rfl (lv_at hl 2 rfl) ?_
      refine lv_iconst (v := (-1)) hx hb dX5_judged_55 (by decide) ?_
      refine lv_icmp_eq (tgt := 64) hx hb dX5_judged_56 (by decide) (fun h_12 => ?_) (fun h_12 => ?_)
      · rw [if_pos h_12] at hm
        refine lv_iload_n hx hb dX5_judged_64 rfl (lv_at hl 0 rfl) ?_
        refine lv_istore_n (lv' := [(1, .int r_8), (3, .int r_8), (0, .ref (ga g 146)), (2, .int c2)]) hx hb dX5_judged_65 rfl hl (by decide) rfl (fun ls hl => ?_)
        obtain ⟨v_13, hv_14, hm⟩ := bnd_elim hm
        refine lv_iinc (v := v_13) (lv' := [(2, .int v_13), (1, .int r_8), (3, .int r_8), (0, .ref (ga g 146))]) hx hb dX5_judged_66 hl (k := 3) rfl (by rw [hv_14]; rfl) (by decide) rfl (fun ls hl => ?_)
        refine lv_goto (tgt := 26) hx hb dX5_judged_69 (by decide) ?_
        exact kb r_8 v_13 (Option.some.inj hm).symm _ _ _ hP hS (lv_sub hl [3, 1, 0] rfl)
      · rw [if_neg h_12] at hm
        refine lv_iload_n hx hb dX5_judged_59 rfl (lv_at hl 0 rfl) ?_
        refine lv_iload_n hx hb dX5_judged_60 rfl (lv_at hl 2 rfl) ?_
        refine lv_icmp_ge (tgt := 66) hx hb dX5_judged_61 (by decide) (fun h_15 => ?_) (fun h_15 => ?_)
        · rw [if_pos h_15] at hm
          obtain ⟨v_16, hv_17, hm⟩ := bnd_elim hm
          refine lv_iinc (v := v_16) (lv' := [(2, .int v_16), (3, .int r_8), (0, .ref (ga g 146)), (1, .int c1)]) hx hb dX5_judged_66 hl (k := 3) rfl (by rw [hv_17]; rfl) (by decide) rfl (fun ls hl => ?_)
          refine lv_goto (tgt := 26) hx hb dX5_judged_69 (by decide) ?_
          exact kb c1 v_16 (Option.some.inj hm).symm _ _ _ hP hS (lv_sub hl [2, 3, 0] rfl)
        · rw [if_neg h_15] at hm
          refine lv_iload_n hx hb dX5_judged_64 rfl (lv_at hl 0 rfl) ?_
          refine lv_istore_n (lv' := [(1, .int r_8), (3, .int r_8), (0, .ref (ga g 146)), (2, .int c2)]) hx hb dX5_judged_65 rfl hl (by decide) rfl (fun ls hl => ?_)
          obtain ⟨v_18, hv_19, hm⟩ := bnd_elim hm
          refine lv_iinc (v := v_18) (lv' := [(2, .int v_18), (1, .int r_8), (3, .int r_8), (0, .ref (ga g 146))]) hx hb dX5_judged_66 hl (k := 3) rfl (by rw [hv_19]; rfl) (by decide) rfl (fun ls hl => ?_)
          refine lv_goto (tgt := 26) hx hb dX5_judged_69 (by decide) ?_
          exact kb r_8 v_18 (Option.some.inj hm).symm _ _ _ hP hS (lv_sub hl [3, 1, 0] rfl)

set_option maxHeartbeats 4000000 in
set_option maxRecDepth 100000 in
theorem c_X5_judged (l : Launch) {g : GT} (hA : AxG g) (hAll : okAll g)   {fu : Nat} {M : Mem} {rr : Int32} (hm : m_X5_judged fu M = some rr) : CI l yX5_judged wsX5_judged rmX5_judged g [.ref (ga g 146)] M rr M := by
  refine Met.ofW (cc := cX5_judged) (maxL := 4) (ret := (some .int)) (by decide) rfl ?_
  intro p e s m args below meth c s₁ B hml hv
  obtain ⟨rfl, hSx, hP⟩ := hv
  have hr := B.returns
  have hlocks := B.notSynchronized
  have X : CxG g p s m _ c cX5_judged 4 RX5 wsX5_judged := ⟨⟨B.exec, B.bytes, hml, findClass_of_methodNamed B.named, atoms_spec (ws := wsX5_judged) B.pre⟩, hSx, hA⟩
  have hS : va_S (AbG g) s.heap s.heap [] := va_S.rf
  have hl := lv_entry (([.ref (ga g 146)] : List Value)) (n := 4) (Nat.le_of_ble_eq_true rfl)
  rw [lg_entry_eq]
  generalize (lg_sl (([.ref (ga g 146)] : List Value)) ++ List.replicate (4 - (lg_sl (([.ref (ga g 146)] : List Value))).length) Slot.unset).toArray = ls at hl ⊢
  have hl : lv_has ls 4 [(0, .ref (ga g 146))] := hl
  obtain ⟨⟨hx, hb, hml, hown, hts⟩, -, -⟩ := id X
  unfold m_X5_judged at hm
  refine lv_aload_n hx hb dX5_judged_0 rfl (lv_at hl 0 rfl) ?_
  refine xg_X5_0 X hP hAll uX5_judged_X5 mbX5_judged_1 dX5_judged_1 ?_
  obtain ⟨r_2, hc_1, hm⟩ := bind_elim hm
  refine x_calli (x_runV (As := []) (rest := []) X hP hS (c_X4_allWereTold l X.2.2 (hAll.ring (Or.inl rfl)) hc_1) (cwV 0 hts gX5_judged_X4_allWereTold rfl rfl rfl (by decide +kernel) ⟨Nat.le_of_ble_eq_true rfl, Nat.le_of_ble_eq_true rfl⟩) (x_recv (C := RX4) (T := TX4) (N := 12) X hP (hAll.ring (Or.inl rfl)).obj rfl) rfl hl.1 rfl (Nat.le_of_ble_eq_true rfl) dX5_judged_4 ⟨Nat.zero_le _, Nat.zero_le _⟩) hS (fun H locs hP hS => ?_)
  refine lv_if_ne (tgt := 12) hx hb dX5_judged_7 (by decide) (fun h_3 => ?_) (fun h_3 => ?_)
  · rw [if_neg h_3] at hm
    refine lv_iconst (v := (-1)) hx hb dX5_judged_12 (by decide) ?_
    refine lv_istore_n (lv' := [(1, .int (-1)), (0, .ref (ga g 146))]) hx hb dX5_judged_13 rfl hl (by decide) rfl (fun ls hl => ?_)
    refine lv_aload_n hx hb dX5_judged_14 rfl (lv_at hl 1 rfl) ?_
    refine xg_X5_0 X hP hAll uX5_judged_X5 mbX5_judged_1 dX5_judged_15 ?_
    refine xg_X4_4 X hP (hAll.ring (Or.inl rfl)) uX5_judged_X4 mbX5_judged_3 dX5_judged_18 ?_
    refine lv_bipush (v := 9) hx hb dX5_judged_21 (by decide) ?_
    refine x_iald X hP (hAll.ring (Or.inl rfl)).told (show inb 9 10 = true from rfl) dX5_judged_23 ?_
    refine lv_ineg hx hb dX5_judged_24 ?_
    obtain ⟨v_4, hv_5, hm⟩ := bnd_elim hm
    refine x_name hv_5 ?_
    refine lv_istore_n (lv' := [(2, .int v_4), (1, .int (-1)), (0, .ref (ga g 146))]) hx hb dX5_judged_25 rfl hl (by decide) rfl (fun ls hl => ?_)
    obtain ⟨v_22, hL_21, hm⟩ := bind_elim hm
    refine wl_X5_judged_26 X hAll ?_ hL_21 _ _ _ hP hS (lv_sub hl [2, 1, 0] rfl)
    · intro z_v_22 e_v_22 H locs ls hP hS hl
      subst e_v_22
      replace hm := un1_e hm
      refine lv_iload_n hx hb dX5_judged_72 rfl (lv_at hl 0 rfl) ?_
      cases hm
      exact x_iret X hP hS hr hlocks dX5_judged_73
  · rw [if_pos h_3] at hm
    refine lv_iconst (v := (-1)) hx hb dX5_judged_10 (by decide) ?_
    cases hm
    exact x_iret X hP hS hr hlocks dX5_judged_11


/-! X5_feet -/
def rmX5_feet : Room := { frames := 5, cells := 0, slots := 0, locals := 116 }
theorem mbX5_feet_0 : Cond.fieldLink RX5 89 "FootANight" "SETTING_MOST" "[I" ∈ wsX5_feet := by decide +kernel
theorem uX5_feet_X5 : ∀ w ∈ wsX50, w ∈ wsX5_feet := by decide +kernel
theorem mbX5_feet_2 : Cond.fieldLink RX5 19 "FootANight" "dream" "LFootANight$Ring;" ∈ wsX5_feet := by decide +kernel
theorem mbX5_feet_3 : Cond.fieldLink RX5 12 "FootANight" "now" "LFootANight$Ring;" ∈ wsX5_feet := by decide +kernel
theorem uX5_feet_X4 : ∀ w ∈ wsX40, w ∈ wsX5_feet := by decide +kernel
theorem mbX5_feet_5 : Cond.fieldLink RX5 92 "FootANight$Ring" "told" "[I" ∈ wsX5_feet := by decide +kernel
set_option maxHeartbeats 4000000 in
set_option maxRecDepth 100000 in
theorem wl_X5_feet_20 (X : CxG g p s m args c cX5_feet 8 RX5 wsX5_feet) (hAll : okAll g) {fu : Nat} {s1 : Int32} {x : Int32 × Mem} (kx0 : ∀ (d2 : Int32) (M2 : Mem) , x = (d2, M2) → ∀ (H : Heap) (locs : List Loc) (ls : Array Slot), va_P (gD g) vwCl (wlG g M2) H → va_S (AbG g) s.heap H locs → lv_has ls 8 [(2, .int d2)] → W p l e (headSpec wsX5_feet rmX5_feet).room s m args below meth c H locs 0 0 Q (F0 m 95 ls [])) {n : Nat} {q0 : Int32 × Int64 × Int32 × Mem} (h : lp (b_X5_feet_20 fu s1) n q0 = some x) : ∀ (H : Heap) (locs : List Loc) (ls : Array Slot), va_P (gD g) vwCl (wlG g q0.2.2.2) H → va_S (AbG g) s.heap H locs → lv_has ls 8 [(0, .ref (ga g 146)), (1, .int s1), (2, .int q0.1), (3, .long q0.2.1), (5, .int q0.2.2.1)] → W p l e (headSpec wsX5_feet rmX5_feet).room s m args below meth c H locs 0 0 Q (F0 m 20 ls []) := by
  refine lp_elim (P := fun q0 : Int32 × Int64 × Int32 × Mem => ∀ (H : Heap) (locs : List Loc) (ls : Array Slot), va_P (gD g) vwCl (wlG g q0.2.2.2) H → va_S (AbG g) s.heap H locs → lv_has ls 8 [(0, .ref (ga g 146)), (1, .int s1), (2, .int q0.1), (3, .long q0.2.1), (5, .int q0.2.2.1)] → W p l e (headSpec wsX5_feet rmX5_feet).room s m args below meth c H locs 0 0 Q (F0 m 20 ls [])) (fun q1 o hm hI hX => ?_) n q0 h
  obtain ⟨c2, c3, c5, M⟩ := q1
  have kb : ∀ (d2 : Int32) (d3 : Int64) (d5 : Int32) (M2 : Mem) , o = .inl (d2, d3, d5, M2) → ∀ (H : Heap) (locs : List Loc) (ls : Array Slot), va_P (gD g) vwCl (wlG g M2) H → va_S (AbG g) s.heap H locs → lv_has ls 8 [(0, .ref (ga g 146)), (1, .int s1), (2, .int d2), (3, .long d3), (5, .int d5)] → W p l e (headSpec wsX5_feet rmX5_feet).room s m args below meth c H locs 0 0 Q (F0 m 20 ls []) := fun d2 d3 d5 M2 e => hI _ e
  have kx0 : ∀ (d2 : Int32) (M2 : Mem) , o = .inr (d2, M2) → ∀ (H : Heap) (locs : List Loc) (ls : Array Slot), va_P (gD g) vwCl (wlG g M2) H → va_S (AbG g) s.heap H locs → lv_has ls 8 [(2, .int d2)] → W p l e (headSpec wsX5_feet rmX5_feet).room s m args below meth c H locs 0 0 Q (F0 m 95 ls []) := fun d2 M2 e => kx0 d2 M2 (hX _ e).symm
  clear hI hX
  intro H locs ls hP hS hl
  obtain ⟨⟨hx, hb, hml, hown, hts⟩, -, -⟩ := id X
  have hl : lv_has ls 8 [(0, .ref (ga g 146)), (1, .int s1), (2, .int c2), (3, .long c3), (5, .int c5)] := hl
  have hP : va_P (gD g) vwCl (wlG g M) H := hP
  unfold b_X5_feet_20 at hm
  replace hm := un4_e hm
  refine lv_iload hx hb dX5_feet_20 (lv_at hl 4 rfl) ?_
  refine x_gets X hS 2 (by decide) mbX5_feet_0 dX5_feet_22 ?_
  refine lv_bipush (v := 9) hx hb dX5_feet_25 (by decide) ?_
  refine x_stld (i := 2) X hS (by decide) (show inb 9 10 = true from rfl) dX5_feet_27 ?_
  refine lv_icmp_gt (tgt := 95) hx hb dX5_feet_28 (by decide) (fun h_3 => ?_) (fun h_3 => ?_)
  · rw [if_pos h_3] at hm
    exact kx0 c2 M (Option.some.inj hm).symm _ _ _ hP hS (lv_sub hl [2] rfl)
  · rw [if_neg h_3] at hm
    refine lv_aload_n hx hb dX5_feet_31 rfl (lv_at hl 0 rfl) ?_
    refine xg_X5_2 X hP hAll uX5_feet_X5 mbX5_feet_2 dX5_feet_32 ?_
    refine lv_aload_n hx hb dX5_feet_35 rfl (lv_at hl 0 rfl) ?_
    refine xg_X5_0 X hP hAll uX5_feet_X5 mbX5_feet_3 dX5_feet_36 ?_
    obtain ⟨M_5, hc_4, hm⟩ := bind_elim hm
    refine x_callv (x_runV (As := [.ref (ga g 0)]) (rest := []) X hP hS (c_X4_copy l X.2.2 (hAll.ring (Or.inr (Or.inr rfl))) (hAll.ring (Or.inl rfl)) hc_4) (cwV 1 hts gX5_feet_X4_copy rfl rfl rfl (by decide +kernel) ⟨Nat.le_of_ble_eq_true rfl, Nat.le_of_ble_eq_true rfl⟩) (x_recv (C := RX4) (T := TX4) (N := 12) X hP (hAll.ring (Or.inr (Or.inr rfl))).obj rfl) rfl hl.1 rfl (Nat.le_of_ble_eq_true rfl) dX5_feet_39 ⟨Nat.zero_le _, Nat.zero_le _⟩) hS (fun H locs hP hS => ?_)
    refine lv_aload_n hx hb dX5_feet_42 rfl (lv_at hl 0 rfl) ?_
    refine xg_X5_2 X hP hAll uX5_feet_X5 mbX5_feet_2 dX5_feet_43 ?_
    refine xg_X4_4 X hP (hAll.ring (Or.inr (Or.inr rfl))) uX5_feet_X4 mbX5_feet_5 dX5_feet_46 ?_
    refine lv_bipush (v := 9) hx hb dX5_feet_49 (by decide) ?_
    refine lv_iload hx hb dX5_feet_51 (lv_at hl 4 rfl) ?_
    obtain ⟨M_6, hM_7, hm⟩ := bnd_elim hm
    refine x_iast X hP hS (hAll.ring (Or.inr (Or.inr rfl))).told hM_7 (show inb 9 10 = true from rfl) dX5_feet_53 (fun H locs hP hS => ?_)
    refine lv_aload_n hx hb dX5_feet_54 rfl (lv_at hl 0 rfl) ?_
    refine xg_X5_2 X hP hAll uX5_feet_X5 mbX5_feet_2 dX5_feet_55 ?_
    refine lv_iload_n hx hb dX5_feet_58 rfl (lv_at hl 1 rfl) ?_
    obtain ⟨M_9, hc_8, hm⟩ := bind_elim hm
    refine x_callv (x_runV (As := [.int s1]) (rest := []) X hP hS (c_X4_pass l X.2.2 (hAll.ring (Or.inr (Or.inr rfl))) hc_8) (cwV 1 hts gX5_feet_X4_pass rfl rfl rfl (by decide +kernel) ⟨Nat.le_of_ble_eq_true rfl, Nat.le_of_ble_eq_true rfl⟩) (x_recv (C := RX4) (T := TX4) (N := 12) X hP (hAll.ring (Or.inr (Or.inr rfl))).obj rfl) rfl hl.1 rfl (Nat.le_of_ble_eq_true rfl) dX5_feet_59 ⟨Nat.zero_le _, Nat.zero_le _⟩) hS (fun H locs hP hS => ?_)
    refine lv_aload_n hx hb dX5_feet_62 rfl (lv_at hl 0 rfl) ?_
    refine xg_X5_2 X hP hAll uX5_feet_X5 mbX5_feet_2 dX5_feet_63 ?_
    obtain ⟨r_11, hc_10, hm⟩ := bind_elim hm
    refine x_calll (x_runV (As := []) (rest := []) X hP hS (c_X4_allPurses l X.2.2 (hAll.ring (Or.inr (Or.inr rfl))) hc_10) (cwV 0 hts gX5_feet_X4_allPurses rfl rfl rfl (by decide +kernel) ⟨Nat.le_of_ble_eq_true rfl, Nat.le_of_ble_eq_true rfl⟩) (x_recv (C := RX4) (T := TX4) (N := 12) X hP (hAll.ring (Or.inr (Or.inr rfl))).obj rfl) rfl hl.1 rfl (Nat.le_of_ble_eq_true rfl) dX5_feet_66 ⟨Nat.zero_le _, Nat.zero_le _⟩) hS (fun H locs hP hS => ?_)
    refine lv_lstore (lv' := [(6, .long r_11), (0, .ref (ga g 146)), (1, .int s1), (2, .int c2), (3, .long c3), (5, .int c5)]) hx hb dX5_feet_69 hl (by decide) rfl (fun ls hl => ?_)
    refine lv_iload hx hb dX5_feet_71 (lv_at hl 5 rfl) ?_
    refine lv_if_eq (tgt := 83) hx hb dX5_feet_73 (by decide) (fun h_12 => ?_) (fun h_12 => ?_)
    · rw [if_pos h_12] at hm
      refine lv_iload hx hb dX5_feet_83 (lv_at hl 5 rfl) ?_
      refine lv_istore_n (lv' := [(2, .int c5), (6, .long r_11), (0, .ref (ga g 146)), (1, .int s1), (3, .long c3), (5, .int c5)]) hx hb dX5_feet_85 rfl hl (by decide) rfl (fun ls hl => ?_)
      refine lv_lload hx hb dX5_feet_86 (lv_at hl 1 rfl) ?_
      refine lv_lstore_n (lv' := [(3, .long r_11), (2, .int c5), (6, .long r_11), (0, .ref (ga g 146)), (1, .int s1), (5, .int c5)]) hx hb dX5_feet_88 rfl hl (by decide) rfl (fun ls hl => ?_)
      obtain ⟨v_13, hv_14, hm⟩ := bnd_elim hm
      refine lv_iinc (v := v_13) (lv' := [(5, .int v_13), (3, .long r_11), (2, .int c5), (6, .long r_11), (0, .ref (ga g 146)), (1, .int s1)]) hx hb dX5_feet_89 hl (k := 5) rfl (by rw [hv_14]; rfl) (by decide) rfl (fun ls hl => ?_)
      refine lv_goto (tgt := 20) hx hb dX5_feet_92 (by decide) ?_
      exact kb c5 r_11 v_13 M_9 (Option.some.inj hm).symm _ _ _ hP hS (lv_sub hl [4, 5, 2, 1, 0] rfl)
    · rw [if_neg h_12] at hm
      refine lv_lload hx hb dX5_feet_76 (lv_at hl 0 rfl) ?_
      refine lv_lload_n hx hb dX5_feet_78 rfl (lv_at hl 4 rfl) ?_
      refine W.lcmp hx hb dX5_feet_79 ?_
      refine lv_if_le (tgt := 89) hx hb dX5_feet_80 (by decide) (fun h_15 => ?_) (fun h_15 => ?_)
      · rw [if_pos h_15] at hm
        obtain ⟨v_16, hv_17, hm⟩ := bnd_elim hm
        refine lv_iinc (v := v_16) (lv' := [(5, .int v_16), (6, .long r_11), (0, .ref (ga g 146)), (1, .int s1), (2, .int c2), (3, .long c3)]) hx hb dX5_feet_89 hl (k := 5) rfl (by rw [hv_17]; rfl) (by decide) rfl (fun ls hl => ?_)
        refine lv_goto (tgt := 20) hx hb dX5_feet_92 (by decide) ?_
        exact kb c2 c3 v_16 M_9 (Option.some.inj hm).symm _ _ _ hP hS (lv_sub hl [2, 3, 4, 5, 0] rfl)
      · rw [if_neg h_15] at hm
        refine lv_iload hx hb dX5_feet_83 (lv_at hl 5 rfl) ?_
        refine lv_istore_n (lv' := [(2, .int c5), (6, .long r_11), (0, .ref (ga g 146)), (1, .int s1), (3, .long c3), (5, .int c5)]) hx hb dX5_feet_85 rfl hl (by decide) rfl (fun ls hl => ?_)
        refine lv_lload hx hb dX5_feet_86 (lv_at hl 1 rfl) ?_
        refine lv_lstore_n (lv' := [(3, .long r_11), (2, .int c5), (6, .long r_11), (0, .ref (ga g 146)), (1, .int s1), (5, .int c5)]) hx hb dX5_feet_88 rfl hl (by decide) rfl (fun ls hl => ?_)
        obtain ⟨v_18, hv_19, hm⟩ := bnd_elim hm
        refine lv_iinc (v := v_18) (lv' := [(5, .int v_18), (3, .long r_11), (2, .int c5), (6, .long r_11), (0, .ref (ga g 146)), (1, .int s1)]) hx hb dX5_feet_89 hl (k := 5) rfl (by rw [hv_19]; rfl) (by decide) rfl (fun ls hl => ?_)
        refine lv_goto (tgt := 20) hx hb dX5_feet_92 (by decide) ?_
        exact kb c5 r_11 v_18 M_9 (Option.some.inj hm).symm _ _ _ hP hS (lv_sub hl [4, 5, 2, 1, 0] rfl)

set_option maxHeartbeats 4000000 in
set_option maxRecDepth 100000 in
theorem c_X5_feet (l : Launch) {g : GT} (hA : AxG g) (hAll : okAll g)   {fu : Nat} {M : Mem} {a1 : Int32} {rr : Int32} {MM : Mem} (hm : m_X5_feet fu M a1 = some (rr, MM)) : CI l yX5_feet wsX5_feet rmX5_feet g [.ref (ga g 146), .int a1] M rr MM := by
  refine Met.ofW (cc := cX5_feet) (maxL := 8) (ret := (some .int)) (by decide) rfl ?_
  intro p e s m args below meth c s₁ B hml hv
  obtain ⟨rfl, hSx, hP⟩ := hv
  have hr := B.returns
  have hlocks := B.notSynchronized
  have X : CxG g p s m _ c cX5_feet 8 RX5 wsX5_feet := ⟨⟨B.exec, B.bytes, hml, findClass_of_methodNamed B.named, atoms_spec (ws := wsX5_feet) B.pre⟩, hSx, hA⟩
  have hS : va_S (AbG g) s.heap s.heap [] := va_S.rf
  have hl := lv_entry (([.ref (ga g 146), .int a1] : List Value)) (n := 8) (Nat.le_of_ble_eq_true rfl)
  rw [lg_entry_eq]
  generalize (lg_sl (([.ref (ga g 146), .int a1] : List Value)) ++ List.replicate (8 - (lg_sl (([.ref (ga g 146), .int a1] : List Value))).length) Slot.unset).toArray = ls at hl ⊢
  have hl : lv_has ls 8 [(0, .ref (ga g 146)), (1, .int a1)] := hl
  obtain ⟨⟨hx, hb, hml, hown, hts⟩, -, -⟩ := id X
  unfold m_X5_feet at hm
  refine lv_iload_n hx hb dX5_feet_0 rfl (lv_at hl 1 rfl) ?_
  refine lv_iconst (v := 1) hx hb dX5_feet_1 (by decide) ?_
  refine lv_icmp_lt (tgt := 11) hx hb dX5_feet_2 (by decide) (fun h_1 => ?_) (fun h_1 => ?_)
  · rw [if_pos h_1] at hm
    refine lv_iconst (v := (-1)) hx hb dX5_feet_11 (by decide) ?_
    cases hm
    exact x_iret X hP hS hr hlocks dX5_feet_12
  · rw [if_neg h_1] at hm
    refine lv_iload_n hx hb dX5_feet_5 rfl (lv_at hl 1 rfl) ?_
    refine lv_bipush (v := 60) hx hb dX5_feet_6 (by decide) ?_
    refine lv_icmp_le (tgt := 13) hx hb dX5_feet_8 (by decide) (fun h_2 => ?_) (fun h_2 => ?_)
    · rw [if_pos h_2] at hm
      refine lv_iconst (v := 0) hx hb dX5_feet_13 (by decide) ?_
      refine lv_istore_n (lv' := [(2, .int 0), (0, .ref (ga g 146)), (1, .int a1)]) hx hb dX5_feet_14 rfl hl (by decide) rfl (fun ls hl => ?_)
      refine lv_lconst (v := 0) hx hb dX5_feet_15 (by decide) ?_
      refine lv_lstore_n (lv' := [(3, .long 0), (2, .int 0), (0, .ref (ga g 146)), (1, .int a1)]) hx hb dX5_feet_16 rfl hl (by decide) rfl (fun ls hl => ?_)
      refine lv_iconst (v := 0) hx hb dX5_feet_17 (by decide) ?_
      refine lv_istore (lv' := [(5, .int 0), (3, .long 0), (2, .int 0), (0, .ref (ga g 146)), (1, .int a1)]) hx hb dX5_feet_18 hl (by decide) rfl (fun ls hl => ?_)
      obtain ⟨x_20, hL_21, hm⟩ := bind_elim hm
      refine wl_X5_feet_20 X hAll ?_ hL_21 _ _ _ hP hS (lv_sub hl [3, 4, 2, 1, 0] rfl)
      · intro v_22 M_23 e_x_20 H locs ls hP hS hl
        subst e_x_20
        replace hm := un2_e hm
        refine lv_iload_n hx hb dX5_feet_95 rfl (lv_at hl 0 rfl) ?_
        cases hm
        exact x_iret X hP hS hr hlocks dX5_feet_96
    · rw [if_neg h_2] at hm
      refine lv_iconst (v := (-1)) hx hb dX5_feet_11 (by decide) ?_
      cases hm
      exact x_iret X hP hS hr hlocks dX5_feet_12


/-! X5_thought -/
def rmX5_thought : Room := { frames := 5, cells := 0, slots := 0, locals := 116 }
theorem mbX5_thought_0 : Cond.constant RX5 131 (-100000000) ∈ wsX5_thought := by decide +kernel
theorem uX5_thought_X5 : ∀ w ∈ wsX50, w ∈ wsX5_thought := by decide +kernel
theorem mbX5_thought_2 : Cond.fieldLink RX5 19 "FootANight" "dream" "LFootANight$Ring;" ∈ wsX5_thought := by decide +kernel
theorem mbX5_thought_3 : Cond.fieldLink RX5 12 "FootANight" "now" "LFootANight$Ring;" ∈ wsX5_thought := by decide +kernel
theorem uX5_thought_X4 : ∀ w ∈ wsX40, w ∈ wsX5_thought := by decide +kernel
theorem mbX5_thought_5 : Cond.fieldLink RX5 141 "FootANight$Ring" "moved" "I" ∈ wsX5_thought := by decide +kernel
set_option maxHeartbeats 4000000 in
set_option maxRecDepth 100000 in
theorem c_X5_thought (l : Launch) {g : GT} (hA : AxG g) (hAll : okAll g)   {fu : Nat} {M : Mem} {a1 : Int32} {a2 : Int32} {rr : Int32} {MM : Mem} (hm : m_X5_thought fu M a1 a2 = some (rr, MM)) : CI l yX5_thought wsX5_thought rmX5_thought g [.ref (ga g 146), .int a1, .int a2] M rr MM := by
  refine Met.ofW (cc := cX5_thought) (maxL := 3) (ret := (some .int)) (by decide) rfl ?_
  intro p e s m args below meth c s₁ B hml hv
  obtain ⟨rfl, hSx, hP⟩ := hv
  have hr := B.returns
  have hlocks := B.notSynchronized
  have X : CxG g p s m _ c cX5_thought 3 RX5 wsX5_thought := ⟨⟨B.exec, B.bytes, hml, findClass_of_methodNamed B.named, atoms_spec (ws := wsX5_thought) B.pre⟩, hSx, hA⟩
  have hS : va_S (AbG g) s.heap s.heap [] := va_S.rf
  have hl := lv_entry (([.ref (ga g 146), .int a1, .int a2] : List Value)) (n := 3) (Nat.le_of_ble_eq_true rfl)
  rw [lg_entry_eq]
  generalize (lg_sl (([.ref (ga g 146), .int a1, .int a2] : List Value)) ++ List.replicate (3 - (lg_sl (([.ref (ga g 146), .int a1, .int a2] : List Value))).length) Slot.unset).toArray = ls at hl ⊢
  have hl : lv_has ls 3 [(0, .ref (ga g 146)), (1, .int a1), (2, .int a2)] := hl
  obtain ⟨⟨hx, hb, hml, hown, hts⟩, -, -⟩ := id X
  unfold m_X5_thought at hm
  refine lv_iload_n hx hb dX5_thought_0 rfl (lv_at hl 1 rfl) ?_
  refine lv_iconst (v := 1) hx hb dX5_thought_1 (by decide) ?_
  refine lv_icmp_lt (tgt := 20) hx hb dX5_thought_2 (by decide) (fun h_1 => ?_) (fun h_1 => ?_)
  · rw [if_pos h_1] at hm
    refine lv_ldc (v := (-100000000)) hx hb hown (hts _ mbX5_thought_0) dX5_thought_20 ?_
    cases hm
    exact x_iret X hP hS hr hlocks dX5_thought_22
  · rw [if_neg h_1] at hm
    refine lv_iload_n hx hb dX5_thought_5 rfl (lv_at hl 1 rfl) ?_
    refine lv_bipush (v := 60) hx hb dX5_thought_6 (by decide) ?_
    refine lv_icmp_gt (tgt := 20) hx hb dX5_thought_8 (by decide) (fun h_2 => ?_) (fun h_2 => ?_)
    · rw [if_pos h_2] at hm
      refine lv_ldc (v := (-100000000)) hx hb hown (hts _ mbX5_thought_0) dX5_thought_20 ?_
      cases hm
      exact x_iret X hP hS hr hlocks dX5_thought_22
    · rw [if_neg h_2] at hm
      refine lv_iload_n hx hb dX5_thought_11 rfl (lv_at hl 2 rfl) ?_
      refine lv_if_lt (tgt := 20) hx hb dX5_thought_12 (by decide) (fun h_3 => ?_) (fun h_3 => ?_)
      · rw [if_pos h_3] at hm
        refine lv_ldc (v := (-100000000)) hx hb hown (hts _ mbX5_thought_0) dX5_thought_20 ?_
        cases hm
        exact x_iret X hP hS hr hlocks dX5_thought_22
      · rw [if_neg h_3] at hm
        refine lv_iload_n hx hb dX5_thought_15 rfl (lv_at hl 2 rfl) ?_
        refine lv_iconst (v := 3) hx hb dX5_thought_16 (by decide) ?_
        refine lv_icmp_le (tgt := 23) hx hb dX5_thought_17 (by decide) (fun h_4 => ?_) (fun h_4 => ?_)
        · rw [if_pos h_4] at hm
          refine lv_aload_n hx hb dX5_thought_23 rfl (lv_at hl 0 rfl) ?_
          refine xg_X5_2 X hP hAll uX5_thought_X5 mbX5_thought_2 dX5_thought_24 ?_
          refine lv_aload_n hx hb dX5_thought_27 rfl (lv_at hl 0 rfl) ?_
          refine xg_X5_0 X hP hAll uX5_thought_X5 mbX5_thought_3 dX5_thought_28 ?_
          obtain ⟨M_6, hc_5, hm⟩ := bind_elim hm
          refine x_callv (x_runV (As := [.ref (ga g 0)]) (rest := []) X hP hS (c_X4_copy l X.2.2 (hAll.ring (Or.inr (Or.inr rfl))) (hAll.ring (Or.inl rfl)) hc_5) (cwV 1 hts gX5_thought_X4_copy rfl rfl rfl (by decide +kernel) ⟨Nat.le_of_ble_eq_true rfl, Nat.le_of_ble_eq_true rfl⟩) (x_recv (C := RX4) (T := TX4) (N := 12) X hP (hAll.ring (Or.inr (Or.inr rfl))).obj rfl) rfl hl.1 rfl (Nat.le_of_ble_eq_true rfl) dX5_thought_31 ⟨Nat.zero_le _, Nat.zero_le _⟩) hS (fun H locs hP hS => ?_)
          refine lv_aload_n hx hb dX5_thought_34 rfl (lv_at hl 0 rfl) ?_
          refine xg_X5_2 X hP hAll uX5_thought_X5 mbX5_thought_2 dX5_thought_35 ?_
          refine lv_iload_n hx hb dX5_thought_38 rfl (lv_at hl 1 rfl) ?_
          obtain ⟨M_8, hc_7, hm⟩ := bind_elim hm
          refine x_callv (x_runV (As := [.int a1]) (rest := []) X hP hS (c_X4_pass l X.2.2 (hAll.ring (Or.inr (Or.inr rfl))) hc_7) (cwV 1 hts gX5_thought_X4_pass rfl rfl rfl (by decide +kernel) ⟨Nat.le_of_ble_eq_true rfl, Nat.le_of_ble_eq_true rfl⟩) (x_recv (C := RX4) (T := TX4) (N := 12) X hP (hAll.ring (Or.inr (Or.inr rfl))).obj rfl) rfl hl.1 rfl (Nat.le_of_ble_eq_true rfl) dX5_thought_39 ⟨Nat.zero_le _, Nat.zero_le _⟩) hS (fun H locs hP hS => ?_)
          refine lv_iload_n hx hb dX5_thought_42 rfl (lv_at hl 2 rfl) ?_
          by_cases h_9 : a2 = 0
          · rw [if_pos h_9] at hm
            refine lv_tableIn (off := 25) (tgt := 68) hx hb dX5_thought_43 (by rw [h_9]; decide) (by rw [h_9]; decide) (by rw [h_9]; rfl) (by decide) ?_
            refine lv_aload_n hx hb dX5_thought_68 rfl (lv_at hl 0 rfl) ?_
            refine xg_X5_2 X hP hAll uX5_thought_X5 mbX5_thought_2 dX5_thought_69 ?_
            obtain ⟨r_11, hc_10, hm⟩ := bind_elim hm
            refine x_calll (x_runV (As := []) (rest := []) X hP hS (c_X4_allPurses l X.2.2 (hAll.ring (Or.inr (Or.inr rfl))) hc_10) (cwV 0 hts gX5_thought_X4_allPurses rfl rfl rfl (by decide +kernel) ⟨Nat.le_of_ble_eq_true rfl, Nat.le_of_ble_eq_true rfl⟩) (x_recv (C := RX4) (T := TX4) (N := 12) X hP (hAll.ring (Or.inr (Or.inr rfl))).obj rfl) rfl hl.1 rfl (Nat.le_of_ble_eq_true rfl) dX5_thought_72 ⟨Nat.zero_le _, Nat.zero_le _⟩) hS (fun H locs hP hS => ?_)
            refine lv_aload_n hx hb dX5_thought_75 rfl (lv_at hl 0 rfl) ?_
            refine xg_X5_0 X hP hAll uX5_thought_X5 mbX5_thought_3 dX5_thought_76 ?_
            obtain ⟨r_13, hc_12, hm⟩ := bind_elim hm
            refine x_calll (x_runV (As := []) (rest := [.long r_11]) X hP hS (c_X4_allPurses l X.2.2 (hAll.ring (Or.inl rfl)) hc_12) (cwV 0 hts gX5_thought_X4_allPurses rfl rfl rfl (by decide +kernel) ⟨Nat.le_of_ble_eq_true rfl, Nat.le_of_ble_eq_true rfl⟩) (x_recv (C := RX4) (T := TX4) (N := 12) X hP (hAll.ring (Or.inl rfl)).obj rfl) rfl hl.1 rfl (Nat.le_of_ble_eq_true rfl) dX5_thought_79 ⟨Nat.zero_le _, Nat.zero_le _⟩) hS (fun H locs hP hS => ?_)
            refine lv_lsub hx hb dX5_thought_82 ?_
            refine lv_l2i (v := (r_11 - r_13).toInt32) hx hb dX5_thought_83 rfl ?_
            cases hm
            exact x_iret X hP hS hr hlocks dX5_thought_84
          rw [if_neg h_9] at hm
          by_cases h_14 : a2 = 1
          · rw [if_pos h_14] at hm
            refine lv_tableIn (off := 42) (tgt := 85) hx hb dX5_thought_43 (by rw [h_14]; decide) (by rw [h_14]; decide) (by rw [h_14]; rfl) (by decide) ?_
            refine lv_aload_n hx hb dX5_thought_85 rfl (lv_at hl 0 rfl) ?_
            refine xg_X5_2 X hP hAll uX5_thought_X5 mbX5_thought_2 dX5_thought_86 ?_
            refine xg_X4_3 X hP (hAll.ring (Or.inr (Or.inr rfl))) uX5_thought_X4 mbX5_thought_5 dX5_thought_89 ?_
            refine lv_aload_n hx hb dX5_thought_92 rfl (lv_at hl 0 rfl) ?_
            refine xg_X5_0 X hP hAll uX5_thought_X5 mbX5_thought_3 dX5_thought_93 ?_
            refine xg_X4_3 X hP (hAll.ring (Or.inl rfl)) uX5_thought_X4 mbX5_thought_5 dX5_thought_96 ?_
            refine lv_isub hx hb dX5_thought_99 ?_
            cases hm
            exact x_iret X hP hS hr hlocks dX5_thought_100
          rw [if_neg h_14] at hm
          by_cases h_15 : a2 = 2
          · rw [if_pos h_15] at hm
            refine lv_tableIn (off := 58) (tgt := 101) hx hb dX5_thought_43 (by rw [h_15]; decide) (by rw [h_15]; decide) (by rw [h_15]; rfl) (by decide) ?_
            refine lv_aload_n hx hb dX5_thought_101 rfl (lv_at hl 0 rfl) ?_
            refine xg_X5_2 X hP hAll uX5_thought_X5 mbX5_thought_2 dX5_thought_102 ?_
            refine lv_bipush (v := 6) hx hb dX5_thought_105 (by decide) ?_
            obtain ⟨r_17, hc_16, hm⟩ := bind_elim hm
            refine x_calli (x_runV (As := [.int 6]) (rest := []) X hP hS (c_X4_added l X.2.2 (hAll.ring (Or.inr (Or.inr rfl))) hc_16) (cwV 1 hts gX5_thought_X4_added rfl rfl rfl (by decide +kernel) ⟨Nat.le_of_ble_eq_true rfl, Nat.le_of_ble_eq_true rfl⟩) (x_recv (C := RX4) (T := TX4) (N := 12) X hP (hAll.ring (Or.inr (Or.inr rfl))).obj rfl) rfl hl.1 rfl (Nat.le_of_ble_eq_true rfl) dX5_thought_107 ⟨Nat.zero_le _, Nat.zero_le _⟩) hS (fun H locs hP hS => ?_)
            refine lv_aload_n hx hb dX5_thought_110 rfl (lv_at hl 0 rfl) ?_
            refine xg_X5_0 X hP hAll uX5_thought_X5 mbX5_thought_3 dX5_thought_111 ?_
            refine lv_bipush (v := 6) hx hb dX5_thought_114 (by decide) ?_
            obtain ⟨r_19, hc_18, hm⟩ := bind_elim hm
            refine x_calli (x_runV (As := [.int 6]) (rest := [.int r_17]) X hP hS (c_X4_added l X.2.2 (hAll.ring (Or.inl rfl)) hc_18) (cwV 1 hts gX5_thought_X4_added rfl rfl rfl (by decide +kernel) ⟨Nat.le_of_ble_eq_true rfl, Nat.le_of_ble_eq_true rfl⟩) (x_recv (C := RX4) (T := TX4) (N := 12) X hP (hAll.ring (Or.inl rfl)).obj rfl) rfl hl.1 rfl (Nat.le_of_ble_eq_true rfl) dX5_thought_116 ⟨Nat.zero_le _, Nat.zero_le _⟩) hS (fun H locs hP hS => ?_)
            refine lv_isub hx hb dX5_thought_119 ?_
            cases hm
            exact x_iret X hP hS hr hlocks dX5_thought_120
          rw [if_neg h_15] at hm
          refine lv_tableOut (tgt := 121) hx hb dX5_thought_43 (by
              have zh_9 := lv_neT h_9 (a := 0) (by decide)
              have zh_14 := lv_neT h_14 (a := 1) (by decide)
              have zh_15 := lv_neT h_15 (a := 2) (by decide)
              omega) (by decide) ?_
          refine lv_aload_n hx hb dX5_thought_121 rfl (lv_at hl 0 rfl) ?_
          refine xg_X5_2 X hP hAll uX5_thought_X5 mbX5_thought_2 dX5_thought_122 ?_
          obtain ⟨r_21, hc_20, hm⟩ := bind_elim hm
          refine x_calli (x_runV (As := []) (rest := []) X hP hS (c_X4_countEaten l X.2.2 (hAll.ring (Or.inr (Or.inr rfl))) hc_20) (cwV 0 hts gX5_thought_X4_countEaten rfl rfl rfl (by decide +kernel) ⟨Nat.le_of_ble_eq_true rfl, Nat.le_of_ble_eq_true rfl⟩) (x_recv (C := RX4) (T := TX4) (N := 12) X hP (hAll.ring (Or.inr (Or.inr rfl))).obj rfl) rfl hl.1 rfl (Nat.le_of_ble_eq_true rfl) dX5_thought_125 ⟨Nat.zero_le _, Nat.zero_le _⟩) hS (fun H locs hP hS => ?_)
          cases hm
          exact x_iret X hP hS hr hlocks dX5_thought_128
        · rw [if_neg h_4] at hm
          refine lv_ldc (v := (-100000000)) hx hb hown (hts _ mbX5_thought_0) dX5_thought_20 ?_
          cases hm
          exact x_iret X hP hS hr hlocks dX5_thought_22


/-! X5_image -/
def rmX5_image : Room := { frames := 3, cells := 0, slots := 0, locals := 70 }
theorem uX5_image_X5 : ∀ w ∈ wsX50, w ∈ wsX5_image := by decide +kernel
theorem mbX5_image_1 : Cond.fieldLink RX5 57 "FootANight" "hasImage" "Z" ∈ wsX5_image := by decide +kernel
theorem mbX5_image_2 : Cond.fieldLink RX5 12 "FootANight" "now" "LFootANight$Ring;" ∈ wsX5_image := by decide +kernel
theorem mbX5_image_3 : Cond.fieldLink RX5 16 "FootANight" "kept" "LFootANight$Ring;" ∈ wsX5_image := by decide +kernel
set_option maxHeartbeats 4000000 in
set_option maxRecDepth 100000 in
theorem c_X5_image (l : Launch) {g : GT} (hA : AxG g) (hAll : okAll g)   {fu : Nat} {M : Mem} {a1 : Int32} {rr : Int32} {MM : Mem} (hm : m_X5_image fu M a1 = some (rr, MM)) : CI l yX5_image wsX5_image rmX5_image g [.ref (ga g 146), .int a1] M rr MM := by
  refine Met.ofW (cc := cX5_image) (maxL := 2) (ret := (some .boolean)) (by decide) rfl ?_
  intro p e s m args below meth c s₁ B hml hv
  obtain ⟨rfl, hSx, hP⟩ := hv
  have hr := B.returns
  have hlocks := B.notSynchronized
  have X : CxG g p s m _ c cX5_image 2 RX5 wsX5_image := ⟨⟨B.exec, B.bytes, hml, findClass_of_methodNamed B.named, atoms_spec (ws := wsX5_image) B.pre⟩, hSx, hA⟩
  have hS : va_S (AbG g) s.heap s.heap [] := va_S.rf
  have hl := lv_entry (([.ref (ga g 146), .int a1] : List Value)) (n := 2) (Nat.le_of_ble_eq_true rfl)
  rw [lg_entry_eq]
  generalize (lg_sl (([.ref (ga g 146), .int a1] : List Value)) ++ List.replicate (2 - (lg_sl (([.ref (ga g 146), .int a1] : List Value))).length) Slot.unset).toArray = ls at hl ⊢
  have hl : lv_has ls 2 [(0, .ref (ga g 146)), (1, .int a1)] := hl
  obtain ⟨⟨hx, hb, hml, hown, hts⟩, -, -⟩ := id X
  unfold m_X5_image at hm
  refine lv_iload_n hx hb dX5_image_0 rfl (lv_at hl 1 rfl) ?_
  refine lv_if_eq (tgt := 23) hx hb dX5_image_1 (by decide) (fun h_1 => ?_) (fun h_1 => ?_)
  · rw [if_pos h_1] at hm
    refine lv_aload_n hx hb dX5_image_23 rfl (lv_at hl 0 rfl) ?_
    refine xg_X5_10 X hP hAll uX5_image_X5 mbX5_image_1 dX5_image_24 ?_
    refine lv_if_eq (tgt := 41) hx hb dX5_image_27 (by decide) (fun h_2 => ?_) (fun h_2 => ?_)
    · rw [if_pos h_2] at hm
      refine lv_aload_n hx hb dX5_image_41 rfl (lv_at hl 0 rfl) ?_
      refine xg_X5_10 X hP hAll uX5_image_X5 mbX5_image_1 dX5_image_42 ?_
      obtain ⟨hz_3, hm⟩ := chk_elim hm
      cases hm
      exact x_zret X (isB_or hz_3) hP hS hr hlocks dX5_image_45
    · rw [if_neg h_2] at hm
      refine lv_aload_n hx hb dX5_image_30 rfl (lv_at hl 0 rfl) ?_
      refine xg_X5_0 X hP hAll uX5_image_X5 mbX5_image_2 dX5_image_31 ?_
      refine lv_aload_n hx hb dX5_image_34 rfl (lv_at hl 0 rfl) ?_
      refine xg_X5_1 X hP hAll uX5_image_X5 mbX5_image_3 dX5_image_35 ?_
      obtain ⟨M_5, hc_4, hm⟩ := bind_elim hm
      refine x_callv (x_runV (As := [.ref (ga g 37)]) (rest := []) X hP hS (c_X4_copy l X.2.2 (hAll.ring (Or.inl rfl)) (hAll.ring (Or.inr (Or.inl rfl))) hc_4) (cwV 1 hts gX5_image_X4_copy rfl rfl rfl (by decide +kernel) ⟨Nat.le_of_ble_eq_true rfl, Nat.le_of_ble_eq_true rfl⟩) (x_recv (C := RX4) (T := TX4) (N := 12) X hP (hAll.ring (Or.inl rfl)).obj rfl) rfl hl.1 rfl (Nat.le_of_ble_eq_true rfl) dX5_image_38 ⟨Nat.zero_le _, Nat.zero_le _⟩) hS (fun H locs hP hS => ?_)
      refine lv_aload_n hx hb dX5_image_41 rfl (lv_at hl 0 rfl) ?_
      refine xg_X5_10 X hP hAll uX5_image_X5 mbX5_image_1 dX5_image_42 ?_
      obtain ⟨hz_6, hm⟩ := chk_elim hm
      cases hm
      exact x_zret X (isB_or hz_6) hP hS hr hlocks dX5_image_45
  · rw [if_neg h_1] at hm
    refine lv_aload_n hx hb dX5_image_4 rfl (lv_at hl 0 rfl) ?_
    refine xg_X5_1 X hP hAll uX5_image_X5 mbX5_image_3 dX5_image_5 ?_
    refine lv_aload_n hx hb dX5_image_8 rfl (lv_at hl 0 rfl) ?_
    refine xg_X5_0 X hP hAll uX5_image_X5 mbX5_image_2 dX5_image_9 ?_
    obtain ⟨M_8, hc_7, hm⟩ := bind_elim hm
    refine x_callv (x_runV (As := [.ref (ga g 0)]) (rest := []) X hP hS (c_X4_copy l X.2.2 (hAll.ring (Or.inr (Or.inl rfl))) (hAll.ring (Or.inl rfl)) hc_7) (cwV 1 hts gX5_image_X4_copy rfl rfl rfl (by decide +kernel) ⟨Nat.le_of_ble_eq_true rfl, Nat.le_of_ble_eq_true rfl⟩) (x_recv (C := RX4) (T := TX4) (N := 12) X hP (hAll.ring (Or.inr (Or.inl rfl))).obj rfl) rfl hl.1 rfl (Nat.le_of_ble_eq_true rfl) dX5_image_12 ⟨Nat.zero_le _, Nat.zero_le _⟩) hS (fun H locs hP hS => ?_)
    refine lv_aload_n hx hb dX5_image_15 rfl (lv_at hl 0 rfl) ?_
    refine lv_iconst (v := 1) hx hb dX5_image_16 (by decide) ?_
    obtain ⟨M_9, hM_10, hm⟩ := bnd_elim hm
    refine xp_X5_10 X hP hAll uX5_image_X5 mbX5_image_1 hS hM_10 (by decide) dX5_image_17 (fun H locs hP hS => ?_)
    refine lv_goto (tgt := 41) hx hb dX5_image_20 (by decide) ?_
    refine lv_aload_n hx hb dX5_image_41 rfl (lv_at hl 0 rfl) ?_
    refine xg_X5_10 X hP hAll uX5_image_X5 mbX5_image_1 dX5_image_42 ?_
    obtain ⟨hz_11, hm⟩ := chk_elim hm
    cases hm
    exact x_zret X (isB_or hz_11) hP hS hr hlocks dX5_image_45


/-! X5_look -/
def rmX5_look : Room := { frames := 2, cells := 0, slots := 0, locals := 43 }
theorem uX5_look_X5 : ∀ w ∈ wsX50, w ∈ wsX5_look := by decide +kernel
theorem mbX5_look_1 : Cond.fieldLink RX5 12 "FootANight" "now" "LFootANight$Ring;" ∈ wsX5_look := by decide +kernel
theorem uX5_look_X4 : ∀ w ∈ wsX40, w ∈ wsX5_look := by decide +kernel
theorem mbX5_look_3 : Cond.fieldLink RX5 157 "FootANight$Ring" "n" "I" ∈ wsX5_look := by decide +kernel
theorem mbX5_look_4 : Cond.fieldLink RX5 138 "FootANight$Ring" "night" "I" ∈ wsX5_look := by decide +kernel
theorem mbX5_look_5 : Cond.fieldLink RX5 141 "FootANight$Ring" "moved" "I" ∈ wsX5_look := by decide +kernel
theorem mbX5_look_6 : Cond.fieldLink RX5 92 "FootANight$Ring" "told" "[I" ∈ wsX5_look := by decide +kernel
set_option maxHeartbeats 4000000 in
set_option maxRecDepth 100000 in
theorem wj_X5_look_25 (X : CxG g p s m args c cX5_look 2 RX5 wsX5_look) (hAll : okAll g) {fu : Nat} {M : Mem} {s1 : Int32} {rr : Int32} (hr : meth.sig.returnType = (some .int)) (hlocks : meth.locks = false) (hm : j_X5_look_25 fu M s1 = some rr) {H : Heap} {locs : List Loc} {ls : Array Slot} (hP : va_P (gD g) vwCl (wlG g M) H) (hS : va_S (AbG g) s.heap H locs) (hl : lv_has ls 2 [(0, .ref (ga g 146)), (1, .int s1)]) : W p l e (headSpec wsX5_look rmX5_look).room s m args below meth c H locs 0 0 (MQ below (va_Qi (fun (q : Int32) (_ : Unit) => q = rr) (fun _ t => va_P (gD g) vwCl (wlG g M) t.heap) (AbG g)) args s 0 0 (AbG g)) (F0 m 25 ls []) := by
  obtain ⟨⟨hx, hb, hml, hown, hts⟩, -, -⟩ := id X
  unfold j_X5_look_25 at hm
  refine lv_iload_n hx hb dX5_look_25 rfl (lv_at hl 1 rfl) ?_
  by_cases h_2 : s1 = 0
  · rw [if_pos h_2] at hm
    refine lv_tableIn (off := 34) (tgt := 60) hx hb dX5_look_26 (by rw [h_2]; decide) (by rw [h_2]; decide) (by rw [h_2]; rfl) (by decide) ?_
    refine lv_aload_n hx hb dX5_look_60 rfl (lv_at hl 0 rfl) ?_
    refine xg_X5_0 X hP hAll uX5_look_X5 mbX5_look_1 dX5_look_61 ?_
    refine xg_X4_0 X hP (hAll.ring (Or.inl rfl)) uX5_look_X4 mbX5_look_3 dX5_look_64 ?_
    cases hm
    exact x_iret X hP hS hr hlocks dX5_look_67
  rw [if_neg h_2] at hm
  by_cases h_3 : s1 = 1
  · rw [if_pos h_3] at hm
    refine lv_tableIn (off := 42) (tgt := 68) hx hb dX5_look_26 (by rw [h_3]; decide) (by rw [h_3]; decide) (by rw [h_3]; rfl) (by decide) ?_
    refine lv_aload_n hx hb dX5_look_68 rfl (lv_at hl 0 rfl) ?_
    refine xg_X5_0 X hP hAll uX5_look_X5 mbX5_look_1 dX5_look_69 ?_
    refine xg_X4_2 X hP (hAll.ring (Or.inl rfl)) uX5_look_X4 mbX5_look_4 dX5_look_72 ?_
    cases hm
    exact x_iret X hP hS hr hlocks dX5_look_75
  rw [if_neg h_3] at hm
  by_cases h_4 : s1 = 2
  · rw [if_pos h_4] at hm
    refine lv_tableIn (off := 50) (tgt := 76) hx hb dX5_look_26 (by rw [h_4]; decide) (by rw [h_4]; decide) (by rw [h_4]; rfl) (by decide) ?_
    refine lv_aload_n hx hb dX5_look_76 rfl (lv_at hl 0 rfl) ?_
    refine xg_X5_0 X hP hAll uX5_look_X5 mbX5_look_1 dX5_look_77 ?_
    refine xg_X4_3 X hP (hAll.ring (Or.inl rfl)) uX5_look_X4 mbX5_look_5 dX5_look_80 ?_
    cases hm
    exact x_iret X hP hS hr hlocks dX5_look_83
  rw [if_neg h_4] at hm
  by_cases h_5 : s1 = 3
  · rw [if_pos h_5] at hm
    refine lv_tableIn (off := 58) (tgt := 84) hx hb dX5_look_26 (by rw [h_5]; decide) (by rw [h_5]; decide) (by rw [h_5]; rfl) (by decide) ?_
    refine lv_aload_n hx hb dX5_look_84 rfl (lv_at hl 0 rfl) ?_
    refine xg_X5_0 X hP hAll uX5_look_X5 mbX5_look_1 dX5_look_85 ?_
    obtain ⟨r_7, hc_6, hm⟩ := bind_elim hm
    refine x_calli (x_runV (As := []) (rest := []) X hP hS (c_X4_allWidths l X.2.2 (hAll.ring (Or.inl rfl)) hc_6) (cwV 0 hts gX5_look_X4_allWidths rfl rfl rfl (by decide +kernel) ⟨Nat.le_of_ble_eq_true rfl, Nat.le_of_ble_eq_true rfl⟩) (x_recv (C := RX4) (T := TX4) (N := 12) X hP (hAll.ring (Or.inl rfl)).obj rfl) rfl hl.1 rfl (Nat.le_of_ble_eq_true rfl) dX5_look_88 ⟨Nat.zero_le _, Nat.zero_le _⟩) hS (fun H locs hP hS => ?_)
    cases hm
    exact x_iret X hP hS hr hlocks dX5_look_91
  rw [if_neg h_5] at hm
  by_cases h_8 : s1 = 4
  · rw [if_pos h_8] at hm
    refine lv_tableIn (off := 66) (tgt := 92) hx hb dX5_look_26 (by rw [h_8]; decide) (by rw [h_8]; decide) (by rw [h_8]; rfl) (by decide) ?_
    refine lv_aload_n hx hb dX5_look_92 rfl (lv_at hl 0 rfl) ?_
    refine xg_X5_0 X hP hAll uX5_look_X5 mbX5_look_1 dX5_look_93 ?_
    obtain ⟨r_10, hc_9, hm⟩ := bind_elim hm
    refine x_calli (x_runV (As := []) (rest := []) X hP hS (c_X4_countEaten l X.2.2 (hAll.ring (Or.inl rfl)) hc_9) (cwV 0 hts gX5_look_X4_countEaten rfl rfl rfl (by decide +kernel) ⟨Nat.le_of_ble_eq_true rfl, Nat.le_of_ble_eq_true rfl⟩) (x_recv (C := RX4) (T := TX4) (N := 12) X hP (hAll.ring (Or.inl rfl)).obj rfl) rfl hl.1 rfl (Nat.le_of_ble_eq_true rfl) dX5_look_96 ⟨Nat.zero_le _, Nat.zero_le _⟩) hS (fun H locs hP hS => ?_)
    cases hm
    exact x_iret X hP hS hr hlocks dX5_look_99
  rw [if_neg h_8] at hm
  refine lv_tableOut (tgt := 100) hx hb dX5_look_26 (by
      have zh_2 := lv_neT h_2 (a := 0) (by decide)
      have zh_3 := lv_neT h_3 (a := 1) (by decide)
      have zh_4 := lv_neT h_4 (a := 2) (by decide)
      have zh_5 := lv_neT h_5 (a := 3) (by decide)
      have zh_8 := lv_neT h_8 (a := 4) (by decide)
      omega) (by decide) ?_
  refine lv_iconst (v := (-1)) hx hb dX5_look_100 (by decide) ?_
  cases hm
  exact x_iret X hP hS hr hlocks dX5_look_101

set_option maxHeartbeats 4000000 in
set_option maxRecDepth 100000 in
theorem c_X5_look (l : Launch) {g : GT} (hA : AxG g) (hAll : okAll g)   {fu : Nat} {M : Mem} {a1 : Int32} {rr : Int32} (hm : m_X5_look fu M a1 = some rr) : CI l yX5_look wsX5_look rmX5_look g [.ref (ga g 146), .int a1] M rr M := by
  refine Met.ofW (cc := cX5_look) (maxL := 2) (ret := (some .int)) (by decide) rfl ?_
  intro p e s m args below meth c s₁ B hml hv
  obtain ⟨rfl, hSx, hP⟩ := hv
  have hr := B.returns
  have hlocks := B.notSynchronized
  have X : CxG g p s m _ c cX5_look 2 RX5 wsX5_look := ⟨⟨B.exec, B.bytes, hml, findClass_of_methodNamed B.named, atoms_spec (ws := wsX5_look) B.pre⟩, hSx, hA⟩
  have hS : va_S (AbG g) s.heap s.heap [] := va_S.rf
  have hl := lv_entry (([.ref (ga g 146), .int a1] : List Value)) (n := 2) (Nat.le_of_ble_eq_true rfl)
  rw [lg_entry_eq]
  generalize (lg_sl (([.ref (ga g 146), .int a1] : List Value)) ++ List.replicate (2 - (lg_sl (([.ref (ga g 146), .int a1] : List Value))).length) Slot.unset).toArray = ls at hl ⊢
  have hl : lv_has ls 2 [(0, .ref (ga g 146)), (1, .int a1)] := hl
  obtain ⟨⟨hx, hb, hml, hown, hts⟩, -, -⟩ := id X
  unfold m_X5_look at hm
  refine lv_iload_n hx hb dX5_look_0 rfl (lv_at hl 1 rfl) ?_
  refine lv_bipush (v := 10) hx hb dX5_look_1 (by decide) ?_
  refine lv_icmp_lt (tgt := 25) hx hb dX5_look_3 (by decide) (fun h_1 => ?_) (fun h_1 => ?_)
  · rw [if_pos h_1] at hm
    exact wj_X5_look_25 X hAll hr hlocks hm hP hS (lv_sub hl [0, 1] rfl)
  · rw [if_neg h_1] at hm
    refine lv_iload_n hx hb dX5_look_6 rfl (lv_at hl 1 rfl) ?_
    refine lv_bipush (v := 20) hx hb dX5_look_7 (by decide) ?_
    refine lv_icmp_ge (tgt := 25) hx hb dX5_look_9 (by decide) (fun h_11 => ?_) (fun h_11 => ?_)
    · rw [if_pos h_11] at hm
      exact wj_X5_look_25 X hAll hr hlocks hm hP hS (lv_sub hl [0, 1] rfl)
    · rw [if_neg h_11] at hm
      refine lv_aload_n hx hb dX5_look_12 rfl (lv_at hl 0 rfl) ?_
      refine xg_X5_0 X hP hAll uX5_look_X5 mbX5_look_1 dX5_look_13 ?_
      refine xg_X4_4 X hP (hAll.ring (Or.inl rfl)) uX5_look_X4 mbX5_look_6 dX5_look_16 ?_
      refine lv_iload_n hx hb dX5_look_19 rfl (lv_at hl 1 rfl) ?_
      refine lv_bipush (v := 10) hx hb dX5_look_20 (by decide) ?_
      refine lv_isub hx hb dX5_look_22 ?_
      obtain ⟨hb_12, hm⟩ := chk_elim hm
      refine x_iald X hP (hAll.ring (Or.inl rfl)).told hb_12 dX5_look_23 ?_
      cases hm
      exact x_iret X hP hS hr hlocks dX5_look_24

end
