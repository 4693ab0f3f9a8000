/-! walks: written by wip/whole/gen/gen.py out of the printed names -/
section
variable {p : Program} {l : Launch} {e : Env} {s : State} {m : MethodId} {args : Array Value} {below : List Frame} {meth : Method} {c : Code} {Q : State → Prop} {g : GT}
/-! X6_settles -/
def rmX6_settles : Room := { frames := 1, cells := 0, slots := 0, locals := 22 }
theorem uX6_settles_X6 : ∀ w ∈ wsX60, w ∈ wsX6_settles := by decide +kernel
theorem mbX6_settles_1 : Cond.fieldLink RX6 211 "FootANightModel" "pendings" "I" ∈ wsX6_settles := by decide +kernel
theorem mbX6_settles_2 : Cond.fieldLink RX6 80 "FootANightModel" "pending" "[I" ∈ wsX6_settles := by decide +kernel
theorem mbX6_settles_3 : Cond.fieldLink RX6 214 "FootANightModel" "open" "I" ∈ wsX6_settles := by decide +kernel
set_option maxHeartbeats 4000000 in
set_option maxRecDepth 100000 in
theorem wl_X6_settles_0 (X : CxG g p s m args c cX6_settles 2 RX6 wsX6_settles) (hAll : okAll g) {fu : Nat} {s1 : Int32} {x : Mem} (kx0 : ∀ (M2 : Mem) , x = M2 → ∀ (H : Heap) (locs : List Loc) (ls : Array Slot), va_P (gD g) vwCl (wlG g M2) H → va_S (AbG g) s.heap H locs → lv_has ls 2 [] → W p l e (headSpec wsX6_settles rmX6_settles).room s m args below meth c H locs 0 0 Q (F0 m 57 ls [])) {n : Nat} {q0 : Mem} (h : lp (b_X6_settles_0 fu s1) n q0 = some x) : ∀ (H : Heap) (locs : List Loc) (ls : Array Slot), va_P (gD g) vwCl (wlG g q0) H → va_S (AbG g) s.heap H locs → lv_has ls 2 [(0, .ref (ga g 148)), (1, .int s1)] → W p l e (headSpec wsX6_settles rmX6_settles).room s m args below meth c H locs 0 0 Q (F0 m 0 ls []) := by
  refine lp_elim (P := fun q0 : Mem => ∀ (H : Heap) (locs : List Loc) (ls : Array Slot), va_P (gD g) vwCl (wlG g q0) H → va_S (AbG g) s.heap H locs → lv_has ls 2 [(0, .ref (ga g 148)), (1, .int s1)] → W p l e (headSpec wsX6_settles rmX6_settles).room s m args below meth c H locs 0 0 Q (F0 m 0 ls [])) (fun q1 o hm hI hX => ?_) n q0 h
  obtain ⟨M, rfl⟩ : ∃ z, z = q1 := ⟨_, rfl⟩
  have kb : ∀ (M2 : Mem) , o = .inl M2 → ∀ (H : Heap) (locs : List Loc) (ls : Array Slot), va_P (gD g) vwCl (wlG g M2) H → va_S (AbG g) s.heap H locs → lv_has ls 2 [(0, .ref (ga g 148)), (1, .int s1)] → W p l e (headSpec wsX6_settles rmX6_settles).room s m args below meth c H locs 0 0 Q (F0 m 0 ls []) := fun M2 e => hI _ e
  have kx0 : ∀ (M2 : Mem) , o = .inr M2 → ∀ (H : Heap) (locs : List Loc) (ls : Array Slot), va_P (gD g) vwCl (wlG g M2) H → va_S (AbG g) s.heap H locs → lv_has ls 2 [] → W p l e (headSpec wsX6_settles rmX6_settles).room s m args below meth c H locs 0 0 Q (F0 m 57 ls []) := fun M2 e => kx0 M2 (hX _ e).symm
  clear hI hX
  intro H locs ls hP hS hl
  obtain ⟨⟨hx, hb, hml, hown, hts⟩, -, -⟩ := id X
  have hl : lv_has ls 2 [(0, .ref (ga g 148)), (1, .int s1)] := hl
  have hP : va_P (gD g) vwCl (wlG g M) H := hP
  unfold b_X6_settles_0 at hm
  replace hm := un1_e hm
  refine lv_aload_n hx hb dX6_settles_0 rfl (lv_at hl 0 rfl) ?_
  refine xg_X6_35 X hP hAll uX6_settles_X6 mbX6_settles_1 dX6_settles_1 ?_
  refine lv_if_le (tgt := 57) hx hb dX6_settles_4 (by decide) (fun h_1 => ?_) (fun h_1 => ?_)
  · rw [if_pos h_1] at hm
    exact kx0 M (Option.some.inj hm).symm _ _ _ hP hS (lv_sub hl [] rfl)
  · rw [if_neg h_1] at hm
    refine lv_aload_n hx hb dX6_settles_7 rfl (lv_at hl 0 rfl) ?_
    refine xg_X6_34 X hP hAll uX6_settles_X6 mbX6_settles_2 dX6_settles_8 ?_
    refine lv_aload_n hx hb dX6_settles_11 rfl (lv_at hl 0 rfl) ?_
    refine xg_X6_35 X hP hAll uX6_settles_X6 mbX6_settles_1 dX6_settles_12 ?_
    refine lv_iconst (v := 1) hx hb dX6_settles_15 (by decide) ?_
    refine lv_isub hx hb dX6_settles_16 ?_
    obtain ⟨hb_2, hm⟩ := chk_elim hm
    refine x_iald X hP (okc_171 hAll) hb_2 dX6_settles_17 ?_
    refine lv_iload_n hx hb dX6_settles_18 rfl (lv_at hl 1 rfl) ?_
    refine lv_icmp_ne (tgt := 57) hx hb dX6_settles_19 (by decide) (fun h_3 => ?_) (fun h_3 => ?_)
    · rw [if_neg h_3] at hm
      exact kx0 M (Option.some.inj hm).symm _ _ _ hP hS (lv_sub hl [] rfl)
    · rw [if_pos h_3] at hm
      refine lv_aload_n hx hb dX6_settles_22 rfl (lv_at hl 0 rfl) ?_
      refine lv_aload_n hx hb dX6_settles_23 rfl (lv_at hl 0 rfl) ?_
      refine xg_X6_35 X hP hAll uX6_settles_X6 mbX6_settles_1 dX6_settles_24 ?_
      refine lv_iconst (v := 1) hx hb dX6_settles_27 (by decide) ?_
      refine lv_isub hx hb dX6_settles_28 ?_
      obtain ⟨M_4, hM_5, hm⟩ := bnd_elim hm
      refine xp_X6_35 X hP hAll uX6_settles_X6 mbX6_settles_1 hS hM_5 dX6_settles_29 (fun H locs hP hS => ?_)
      refine lv_aload_n hx hb dX6_settles_32 rfl (lv_at hl 0 rfl) ?_
      refine lv_iload_n hx hb dX6_settles_33 rfl (lv_at hl 1 rfl) ?_
      refine lv_iconst (v := 0) hx hb dX6_settles_34 (by decide) ?_
      obtain ⟨M_7, hc_6, hm⟩ := bind_elim hm
      refine x_callv (x_runV (As := [.int s1, .int 0]) (rest := []) X hP hS (c_X6_emits l X.2.2 hAll hc_6) (cwV 2 hts gX6_settles_X6_emits rfl rfl rfl (by decide +kernel) ⟨Nat.le_of_ble_eq_true rfl, Nat.le_of_ble_eq_true rfl⟩) (x_recv (C := RX6) (T := TX6) (N := 55) X hP (okc_148 hAll) rfl) rfl hl.1 rfl (Nat.le_of_ble_eq_true rfl) dX6_settles_35 ⟨Nat.zero_le _, Nat.zero_le _⟩) hS (fun H locs hP hS => ?_)
      refine lv_iload_n hx hb dX6_settles_38 rfl (lv_at hl 1 rfl) ?_
      refine lv_bipush (v := 9) hx hb dX6_settles_39 (by decide) ?_
      refine lv_icmp_ne (tgt := 0) hx hb dX6_settles_41 (by decide) (fun h_8 => ?_) (fun h_8 => ?_)
      · rw [if_neg h_8] at hm
        exact kb M_7 (Option.some.inj hm).symm _ _ _ hP hS (lv_sub hl [0, 1] rfl)
      · rw [if_pos h_8] at hm
        refine lv_aload_n hx hb dX6_settles_44 rfl (lv_at hl 0 rfl) ?_
        refine lv_aload_n hx hb dX6_settles_45 rfl (lv_at hl 0 rfl) ?_
        refine xg_X6_33 X hP hAll uX6_settles_X6 mbX6_settles_3 dX6_settles_46 ?_
        refine lv_iconst (v := 1) hx hb dX6_settles_49 (by decide) ?_
        refine lv_isub hx hb dX6_settles_50 ?_
        obtain ⟨M_9, hM_10, hm⟩ := bnd_elim hm
        refine xp_X6_33 X hP hAll uX6_settles_X6 mbX6_settles_3 hS hM_10 dX6_settles_51 (fun H locs hP hS => ?_)
        refine lv_goto (tgt := 0) hx hb dX6_settles_54 (by decide) ?_
        exact kb M_9 (Option.some.inj hm).symm _ _ _ hP hS (lv_sub hl [0, 1] rfl)

set_option maxHeartbeats 4000000 in
set_option maxRecDepth 100000 in
theorem c_X6_settles (l : Launch) {g : GT} (hA : AxG g) (hAll : okAll g)   {fu : Nat} {M : Mem} {a1 : Int32} {MM : Mem} (hm : m_X6_settles fu M a1 = some MM) : CV l yX6_settles wsX6_settles rmX6_settles g [.ref (ga g 148), .int a1] M MM := by
  refine Met.ofW (cc := cX6_settles) (maxL := 2) (ret := none) (by decide) rfl ?_
  intro p e s m args below meth c s₁ B hml hv
  obtain ⟨rfl, hSx, hP⟩ := hv
  have hr := B.returns
  have hlocks := B.notSynchronized
  have X : CxG g p s m _ c cX6_settles 2 RX6 wsX6_settles := ⟨⟨B.exec, B.bytes, hml, findClass_of_methodNamed B.named, atoms_spec (ws := wsX6_settles) B.pre⟩, hSx, hA⟩
  have hS : va_S (AbG g) s.heap s.heap [] := va_S.rf
  have hl := lv_entry (([.ref (ga g 148), .int a1] : List Value)) (n := 2) (Nat.le_of_ble_eq_true rfl)
  rw [lg_entry_eq]
  generalize (lg_sl (([.ref (ga g 148), .int a1] : List Value)) ++ List.replicate (2 - (lg_sl (([.ref (ga g 148), .int a1] : List Value))).length) Slot.unset).toArray = ls at hl ⊢
  have hl : lv_has ls 2 [(0, .ref (ga g 148)), (1, .int a1)] := hl
  obtain ⟨⟨hx, hb, hml, hown, hts⟩, -, -⟩ := id X
  unfold m_X6_settles at hm
  obtain ⟨M_13, hL_12, hm⟩ := bind_elim hm
  refine wl_X6_settles_0 X hAll ?_ hL_12 _ _ _ hP hS (lv_sub hl [0, 1] rfl)
  · intro z_M_13 e_M_13 H locs ls hP hS hl
    subst e_M_13
    replace hm := un1_e hm
    cases hm
    exact x_vret X hP hS hr hlocks dX6_settles_57


/-! X6_readAny -/
def rmX6_readAny : Room := { frames := 7, cells := 0, slots := 0, locals := 149 }
theorem uX6_readAny_X6 : ∀ w ∈ wsX60, w ∈ wsX6_readAny := by decide +kernel
theorem mbX6_readAny_1 : Cond.fieldLink RX6 211 "FootANightModel" "pendings" "I" ∈ wsX6_readAny := by decide +kernel
theorem mbX6_readAny_2 : Cond.fieldLink RX6 214 "FootANightModel" "open" "I" ∈ wsX6_readAny := by decide +kernel
set_option maxHeartbeats 4000000 in
set_option maxRecDepth 100000 in
theorem wj_X6_readAny_77i (X : CxG g p s m args c cX6_readAny 4 RX6 wsX6_readAny) (hAll : okAll g) {fu : Nat} {M : Mem} {s1 : Int32} {s2 : Int32} {t1 : Int32} {o : (Int32 × Int32 × Mem) ⊕ ((Mem) ⊕ ((Mem) ⊕ ((Mem) ⊕ (Mem))))} (kb : ∀ (d1 : Int32) (d2 : Int32) (M2 : Mem) , o = .inl (d1, d2, M2) → ∀ (H : Heap) (locs : List Loc) (ls : Array Slot), va_P (gD g) vwCl (wlG g M2) H → va_S (AbG g) s.heap H locs → lv_has ls 4 [(0, .ref (ga g 148)), (1, .int d1), (2, .int d2)] → W p l e (headSpec wsX6_readAny rmX6_readAny).room s m args below meth c H locs 0 0 Q (F0 m 9 ls [])) (kx0 : ∀ (M2 : Mem) , o = .inr (.inl M2) → ∀ (H : Heap) (locs : List Loc) (ls : Array Slot), va_P (gD g) vwCl (wlG g M2) H → va_S (AbG g) s.heap H locs → lv_has ls 4 [(0, .ref (ga g 148))] → W p l e (headSpec wsX6_readAny rmX6_readAny).room s m args below meth c H locs 0 0 Q (F0 m 41 ls [])) (kx1 : ∀ (M2 : Mem) , o = .inr (.inr (.inl M2)) → ∀ (H : Heap) (locs : List Loc) (ls : Array Slot), va_P (gD g) vwCl (wlG g M2) H → va_S (AbG g) s.heap H locs → lv_has ls 4 [] → W p l e (headSpec wsX6_readAny rmX6_readAny).room s m args below meth c H locs 0 0 Q (F0 m 95 ls [])) (kx2 : ∀ (M2 : Mem) , o = .inr (.inr (.inr (.inl M2))) → ∀ (H : Heap) (locs : List Loc) (ls : Array Slot), va_P (gD g) vwCl (wlG g M2) H → va_S (AbG g) s.heap H locs → lv_has ls 4 [] → W p l e (headSpec wsX6_readAny rmX6_readAny).room s m args below meth c H locs 0 0 Q (F0 m 188 ls [])) (kx3 : ∀ (M2 : Mem) , o = .inr (.inr (.inr (.inr M2))) → ∀ (H : Heap) (locs : List Loc) (ls : Array Slot), va_P (gD g) vwCl (wlG g M2) H → va_S (AbG g) s.heap H locs → lv_has ls 4 [(0, .ref (ga g 148))] → W p l e (headSpec wsX6_readAny rmX6_readAny).room s m args below meth c H locs 0 0 Q (F0 m 199 ls [])) (hm : j_X6_readAny_77i fu M s1 s2 t1 = some o) {H : Heap} {locs : List Loc} {ls : Array Slot} (hP : va_P (gD g) vwCl (wlG g M) H) (hS : va_S (AbG g) s.heap H locs) (hl : lv_has ls 4 [(0, .ref (ga g 148)), (1, .int s1), (2, .int s2)]) : W p l e (headSpec wsX6_readAny rmX6_readAny).room s m args below meth c H locs 0 0 Q (F0 m 77 ls [.int t1, .ref (ga g 148)]) := by
  obtain ⟨⟨hx, hb, hml, hown, hts⟩, -, -⟩ := id X
  unfold j_X6_readAny_77i at hm
  obtain ⟨M_51, hc_50, hm⟩ := bind_elim hm
  refine x_callv (x_runV (As := [.int t1]) (rest := []) X hP hS (c_X6_waits l X.2.2 hAll hc_50) (cwV 1 hts gX6_readAny_X6_waits rfl rfl rfl (by decide +kernel) ⟨Nat.le_of_ble_eq_true rfl, Nat.le_of_ble_eq_true rfl⟩) (x_recv (C := RX6) (T := TX6) (N := 55) X hP (okc_148 hAll) rfl) rfl hl.1 rfl (Nat.le_of_ble_eq_true rfl) dX6_readAny_77 ⟨Nat.zero_le _, Nat.zero_le _⟩) hS (fun H locs hP hS => ?_)
  refine lv_aload_n hx hb dX6_readAny_80 rfl (lv_at hl 0 rfl) ?_
  obtain ⟨M_53, hc_52, hm⟩ := bind_elim hm
  refine x_callv (x_runV (As := []) (rest := []) X hP hS (c_X6_reads l X.2.2 hAll hc_52) (cwV 0 hts gX6_readAny_X6_reads rfl rfl rfl (by decide +kernel) ⟨Nat.le_of_ble_eq_true rfl, Nat.le_of_ble_eq_true rfl⟩) (x_recv (C := RX6) (T := TX6) (N := 55) X hP (okc_148 hAll) rfl) rfl hl.1 rfl (Nat.le_of_ble_eq_true rfl) dX6_readAny_81 ⟨Nat.zero_le _, Nat.zero_le _⟩) hS (fun H locs hP hS => ?_)
  refine lv_goto (tgt := 9) hx hb dX6_readAny_84 (by decide) ?_
  exact kb s1 s2 M_53 (Option.some.inj hm).symm _ _ _ hP hS (lv_sub hl [0, 1, 2] rfl)

set_option maxHeartbeats 4000000 in
set_option maxRecDepth 100000 in
theorem wj_X6_readAny_65i (X : CxG g p s m args c cX6_readAny 4 RX6 wsX6_readAny) (hAll : okAll g) {fu : Nat} {M : Mem} {s1 : Int32} {s2 : Int32} {s3 : Int32} {o : (Int32 × Int32 × Mem) ⊕ ((Mem) ⊕ ((Mem) ⊕ ((Mem) ⊕ (Mem))))} (kb : ∀ (d1 : Int32) (d2 : Int32) (M2 : Mem) , o = .inl (d1, d2, M2) → ∀ (H : Heap) (locs : List Loc) (ls : Array Slot), va_P (gD g) vwCl (wlG g M2) H → va_S (AbG g) s.heap H locs → lv_has ls 4 [(0, .ref (ga g 148)), (1, .int d1), (2, .int d2)] → W p l e (headSpec wsX6_readAny rmX6_readAny).room s m args below meth c H locs 0 0 Q (F0 m 9 ls [])) (kx0 : ∀ (M2 : Mem) , o = .inr (.inl M2) → ∀ (H : Heap) (locs : List Loc) (ls : Array Slot), va_P (gD g) vwCl (wlG g M2) H → va_S (AbG g) s.heap H locs → lv_has ls 4 [(0, .ref (ga g 148))] → W p l e (headSpec wsX6_readAny rmX6_readAny).room s m args below meth c H locs 0 0 Q (F0 m 41 ls [])) (kx1 : ∀ (M2 : Mem) , o = .inr (.inr (.inl M2)) → ∀ (H : Heap) (locs : List Loc) (ls : Array Slot), va_P (gD g) vwCl (wlG g M2) H → va_S (AbG g) s.heap H locs → lv_has ls 4 [] → W p l e (headSpec wsX6_readAny rmX6_readAny).room s m args below meth c H locs 0 0 Q (F0 m 95 ls [])) (kx2 : ∀ (M2 : Mem) , o = .inr (.inr (.inr (.inl M2))) → ∀ (H : Heap) (locs : List Loc) (ls : Array Slot), va_P (gD g) vwCl (wlG g M2) H → va_S (AbG g) s.heap H locs → lv_has ls 4 [] → W p l e (headSpec wsX6_readAny rmX6_readAny).room s m args below meth c H locs 0 0 Q (F0 m 188 ls [])) (kx3 : ∀ (M2 : Mem) , o = .inr (.inr (.inr (.inr M2))) → ∀ (H : Heap) (locs : List Loc) (ls : Array Slot), va_P (gD g) vwCl (wlG g M2) H → va_S (AbG g) s.heap H locs → lv_has ls 4 [(0, .ref (ga g 148))] → W p l e (headSpec wsX6_readAny rmX6_readAny).room s m args below meth c H locs 0 0 Q (F0 m 199 ls [])) (hm : j_X6_readAny_65i fu M s1 s2 s3 = some o) {H : Heap} {locs : List Loc} {ls : Array Slot} (hP : va_P (gD g) vwCl (wlG g M) H) (hS : va_S (AbG g) s.heap H locs) (hl : lv_has ls 4 [(0, .ref (ga g 148)), (1, .int s1), (2, .int s2), (3, .int s3)]) : W p l e (headSpec wsX6_readAny rmX6_readAny).room s m args below meth c H locs 0 0 Q (F0 m 65 ls []) := by
  obtain ⟨⟨hx, hb, hml, hown, hts⟩, -, -⟩ := id X
  unfold j_X6_readAny_65i at hm
  refine lv_aload_n hx hb dX6_readAny_65 rfl (lv_at hl 0 rfl) ?_
  refine lv_iload_n hx hb dX6_readAny_66 rfl (lv_at hl 3 rfl) ?_
  refine lv_if_eq (tgt := 75) hx hb dX6_readAny_67 (by decide) (fun h_49 => ?_) (fun h_49 => ?_)
  · rw [if_pos h_49] at hm
    refine lv_bipush (v := 12) hx hb dX6_readAny_75 (by decide) ?_
    exact wj_X6_readAny_77i X hAll kb kx0 kx1 kx2 kx3 hm hP hS (lv_sub hl [0, 1, 2] rfl)
  · rw [if_neg h_49] at hm
    refine lv_bipush (v := 9) hx hb dX6_readAny_70 (by decide) ?_
    refine lv_goto (tgt := 77) hx hb dX6_readAny_72 (by decide) ?_
    exact wj_X6_readAny_77i X hAll kb kx0 kx1 kx2 kx3 hm hP hS (lv_sub hl [0, 1, 2] rfl)

set_option maxHeartbeats 4000000 in
set_option maxRecDepth 100000 in
theorem wj_X6_readAny_32i (X : CxG g p s m args c cX6_readAny 4 RX6 wsX6_readAny) (hAll : okAll g) {fu : Nat} {M : Mem} {s1 : Int32} {s2 : Int32} {s3 : Int32} {o : (Int32 × Int32 × Mem) ⊕ ((Mem) ⊕ ((Mem) ⊕ ((Mem) ⊕ (Mem))))} (kb : ∀ (d1 : Int32) (d2 : Int32) (M2 : Mem) , o = .inl (d1, d2, M2) → ∀ (H : Heap) (locs : List Loc) (ls : Array Slot), va_P (gD g) vwCl (wlG g M2) H → va_S (AbG g) s.heap H locs → lv_has ls 4 [(0, .ref (ga g 148)), (1, .int d1), (2, .int d2)] → W p l e (headSpec wsX6_readAny rmX6_readAny).room s m args below meth c H locs 0 0 Q (F0 m 9 ls [])) (kx0 : ∀ (M2 : Mem) , o = .inr (.inl M2) → ∀ (H : Heap) (locs : List Loc) (ls : Array Slot), va_P (gD g) vwCl (wlG g M2) H → va_S (AbG g) s.heap H locs → lv_has ls 4 [(0, .ref (ga g 148))] → W p l e (headSpec wsX6_readAny rmX6_readAny).room s m args below meth c H locs 0 0 Q (F0 m 41 ls [])) (kx1 : ∀ (M2 : Mem) , o = .inr (.inr (.inl M2)) → ∀ (H : Heap) (locs : List Loc) (ls : Array Slot), va_P (gD g) vwCl (wlG g M2) H → va_S (AbG g) s.heap H locs → lv_has ls 4 [] → W p l e (headSpec wsX6_readAny rmX6_readAny).room s m args below meth c H locs 0 0 Q (F0 m 95 ls [])) (kx2 : ∀ (M2 : Mem) , o = .inr (.inr (.inr (.inl M2))) → ∀ (H : Heap) (locs : List Loc) (ls : Array Slot), va_P (gD g) vwCl (wlG g M2) H → va_S (AbG g) s.heap H locs → lv_has ls 4 [] → W p l e (headSpec wsX6_readAny rmX6_readAny).room s m args below meth c H locs 0 0 Q (F0 m 188 ls [])) (kx3 : ∀ (M2 : Mem) , o = .inr (.inr (.inr (.inr M2))) → ∀ (H : Heap) (locs : List Loc) (ls : Array Slot), va_P (gD g) vwCl (wlG g M2) H → va_S (AbG g) s.heap H locs → lv_has ls 4 [(0, .ref (ga g 148))] → W p l e (headSpec wsX6_readAny rmX6_readAny).room s m args below meth c H locs 0 0 Q (F0 m 199 ls [])) (hm : j_X6_readAny_32i fu M s1 s2 s3 = some o) {H : Heap} {locs : List Loc} {ls : Array Slot} (hP : va_P (gD g) vwCl (wlG g M) H) (hS : va_S (AbG g) s.heap H locs) (hl : lv_has ls 4 [(0, .ref (ga g 148)), (1, .int s1), (2, .int s2), (3, .int s3)]) : W p l e (headSpec wsX6_readAny rmX6_readAny).room s m args below meth c H locs 0 0 Q (F0 m 32 ls []) := by
  obtain ⟨⟨hx, hb, hml, hown, hts⟩, -, -⟩ := id X
  unfold j_X6_readAny_32i at hm
  refine lv_aload_n hx hb dX6_readAny_32 rfl (lv_at hl 0 rfl) ?_
  refine xg_X6_33 X hP hAll uX6_readAny_X6 mbX6_readAny_2 dX6_readAny_33 ?_
  refine lv_bipush (v := 8) hx hb dX6_readAny_36 (by decide) ?_
  refine lv_icmp_ne (tgt := 47) hx hb dX6_readAny_38 (by decide) (fun h_45 => ?_) (fun h_45 => ?_)
  · rw [if_neg h_45] at hm
    refine lv_aload_n hx hb dX6_readAny_47 rfl (lv_at hl 0 rfl) ?_
    refine lv_aload_n hx hb dX6_readAny_48 rfl (lv_at hl 0 rfl) ?_
    refine xg_X6_33 X hP hAll uX6_readAny_X6 mbX6_readAny_2 dX6_readAny_49 ?_
    refine lv_iconst (v := 1) hx hb dX6_readAny_52 (by decide) ?_
    refine lv_iadd hx hb dX6_readAny_53 ?_
    obtain ⟨M_46, hM_47, hm⟩ := bnd_elim hm
    refine xp_X6_33 X hP hAll uX6_readAny_X6 mbX6_readAny_2 hS hM_47 dX6_readAny_54 (fun H locs hP hS => ?_)
    refine lv_iload_n hx hb dX6_readAny_57 rfl (lv_at hl 3 rfl) ?_
    refine lv_if_ne (tgt := 65) hx hb dX6_readAny_58 (by decide) (fun h_48 => ?_) (fun h_48 => ?_)
    · rw [if_neg h_48] at hm
      exact wj_X6_readAny_65i X hAll kb kx0 kx1 kx2 kx3 hm hP hS (lv_sub hl [0, 1, 2, 3] rfl)
    · rw [if_pos h_48] at hm
      refine lv_iload_n hx hb dX6_readAny_61 rfl (lv_at hl 1 rfl) ?_
      refine lv_iconst (v := 1) hx hb dX6_readAny_62 (by decide) ?_
      refine lv_iadd hx hb dX6_readAny_63 ?_
      obtain ⟨v_54, hv_55, hm⟩ := bnd_elim hm
      refine x_name hv_55 ?_
      refine lv_istore_n (lv' := [(1, .int v_54), (0, .ref (ga g 148)), (2, .int s2), (3, .int s3)]) hx hb dX6_readAny_64 rfl hl (by decide) rfl (fun ls hl => ?_)
      exact wj_X6_readAny_65i X hAll kb kx0 kx1 kx2 kx3 hm hP hS (lv_sub hl [1, 0, 2, 3] rfl)
  · rw [if_pos h_45] at hm
    exact kx0 M (Option.some.inj hm).symm _ _ _ hP hS (lv_sub hl [0] rfl)

set_option maxHeartbeats 4000000 in
set_option maxRecDepth 100000 in
theorem wl_X6_readAny_9 (X : CxG g p s m args c cX6_readAny 4 RX6 wsX6_readAny) (hAll : okAll g) {fu : Nat} {x : (Mem) ⊕ ((Mem) ⊕ ((Mem) ⊕ (Mem)))} (kx0 : ∀ (M2 : Mem) , x = .inl M2 → ∀ (H : Heap) (locs : List Loc) (ls : Array Slot), va_P (gD g) vwCl (wlG g M2) H → va_S (AbG g) s.heap H locs → lv_has ls 4 [(0, .ref (ga g 148))] → W p l e (headSpec wsX6_readAny rmX6_readAny).room s m args below meth c H locs 0 0 Q (F0 m 41 ls [])) (kx1 : ∀ (M2 : Mem) , x = .inr (.inl M2) → ∀ (H : Heap) (locs : List Loc) (ls : Array Slot), va_P (gD g) vwCl (wlG g M2) H → va_S (AbG g) s.heap H locs → lv_has ls 4 [] → W p l e (headSpec wsX6_readAny rmX6_readAny).room s m args below meth c H locs 0 0 Q (F0 m 95 ls [])) (kx2 : ∀ (M2 : Mem) , x = .inr (.inr (.inl M2)) → ∀ (H : Heap) (locs : List Loc) (ls : Array Slot), va_P (gD g) vwCl (wlG g M2) H → va_S (AbG g) s.heap H locs → lv_has ls 4 [] → W p l e (headSpec wsX6_readAny rmX6_readAny).room s m args below meth c H locs 0 0 Q (F0 m 188 ls [])) (kx3 : ∀ (M2 : Mem) , x = .inr (.inr (.inr M2)) → ∀ (H : Heap) (locs : List Loc) (ls : Array Slot), va_P (gD g) vwCl (wlG g M2) H → va_S (AbG g) s.heap H locs → lv_has ls 4 [(0, .ref (ga g 148))] → W p l e (headSpec wsX6_readAny rmX6_readAny).room s m args below meth c H locs 0 0 Q (F0 m 199 ls [])) {n : Nat} {q0 : Int32 × Int32 × Mem} (h : lp (b_X6_readAny_9 fu) n q0 = some x) : ∀ (H : Heap) (locs : List Loc) (ls : Array Slot), va_P (gD g) vwCl (wlG g q0.2.2) H → va_S (AbG g) s.heap H locs → lv_has ls 4 [(0, .ref (ga g 148)), (1, .int q0.1), (2, .int q0.2.1)] → W p l e (headSpec wsX6_readAny rmX6_readAny).room s m args below meth c H locs 0 0 Q (F0 m 9 ls []) := by
  refine lp_elim (P := fun q0 : Int32 × Int32 × Mem => ∀ (H : Heap) (locs : List Loc) (ls : Array Slot), va_P (gD g) vwCl (wlG g q0.2.2) H → va_S (AbG g) s.heap H locs → lv_has ls 4 [(0, .ref (ga g 148)), (1, .int q0.1), (2, .int q0.2.1)] → W p l e (headSpec wsX6_readAny rmX6_readAny).room s m args below meth c H locs 0 0 Q (F0 m 9 ls [])) (fun q1 o hm hI hX => ?_) n q0 h
  obtain ⟨c1, c2, M⟩ := q1
  have kb : ∀ (d1 : Int32) (d2 : Int32) (M2 : Mem) , o = .inl (d1, d2, M2) → ∀ (H : Heap) (locs : List Loc) (ls : Array Slot), va_P (gD g) vwCl (wlG g M2) H → va_S (AbG g) s.heap H locs → lv_has ls 4 [(0, .ref (ga g 148)), (1, .int d1), (2, .int d2)] → W p l e (headSpec wsX6_readAny rmX6_readAny).room s m args below meth c H locs 0 0 Q (F0 m 9 ls []) := fun d1 d2 M2 e => hI _ e
  have kx0 : ∀ (M2 : Mem) , o = .inr (.inl M2) → ∀ (H : Heap) (locs : List Loc) (ls : Array Slot), va_P (gD g) vwCl (wlG g M2) H → va_S (AbG g) s.heap H locs → lv_has ls 4 [(0, .ref (ga g 148))] → W p l e (headSpec wsX6_readAny rmX6_readAny).room s m args below meth c H locs 0 0 Q (F0 m 41 ls []) := fun M2 e => kx0 M2 (hX _ e).symm
  have kx1 : ∀ (M2 : Mem) , o = .inr (.inr (.inl M2)) → ∀ (H : Heap) (locs : List Loc) (ls : Array Slot), va_P (gD g) vwCl (wlG g M2) H → va_S (AbG g) s.heap H locs → lv_has ls 4 [] → W p l e (headSpec wsX6_readAny rmX6_readAny).room s m args below meth c H locs 0 0 Q (F0 m 95 ls []) := fun M2 e => kx1 M2 (hX _ e).symm
  have kx2 : ∀ (M2 : Mem) , o = .inr (.inr (.inr (.inl M2))) → ∀ (H : Heap) (locs : List Loc) (ls : Array Slot), va_P (gD g) vwCl (wlG g M2) H → va_S (AbG g) s.heap H locs → lv_has ls 4 [] → W p l e (headSpec wsX6_readAny rmX6_readAny).room s m args below meth c H locs 0 0 Q (F0 m 188 ls []) := fun M2 e => kx2 M2 (hX _ e).symm
  have kx3 : ∀ (M2 : Mem) , o = .inr (.inr (.inr (.inr M2))) → ∀ (H : Heap) (locs : List Loc) (ls : Array Slot), va_P (gD g) vwCl (wlG g M2) H → va_S (AbG g) s.heap H locs → lv_has ls 4 [(0, .ref (ga g 148))] → W p l e (headSpec wsX6_readAny rmX6_readAny).room s m args below meth c H locs 0 0 Q (F0 m 199 ls []) := fun M2 e => kx3 M2 (hX _ e).symm
  clear hI hX
  intro H locs ls hP hS hl
  obtain ⟨⟨hx, hb, hml, hown, hts⟩, -, -⟩ := id X
  have hl : lv_has ls 4 [(0, .ref (ga g 148)), (1, .int c1), (2, .int c2)] := hl
  have hP : va_P (gD g) vwCl (wlG g M) H := hP
  unfold b_X6_readAny_9 at hm
  replace hm := un3_e hm
  refine lv_iload_n hx hb dX6_readAny_9 rfl (lv_at hl 2 rfl) ?_
  refine lv_if_eq (tgt := 108) hx hb dX6_readAny_10 (by decide) (fun h_3 => ?_) (fun h_3 => ?_)
  · rw [if_pos h_3] at hm
    refine lv_aload_n hx hb dX6_readAny_108 rfl (lv_at hl 0 rfl) ?_
    refine lv_iconst (v := 3) hx hb dX6_readAny_109 (by decide) ?_
    obtain ⟨r_5, hc_4, hm⟩ := bind_elim hm
    refine x_calli (x_runV (As := [.int 3]) (rest := []) X hP hS (c_X6_isWord l X.2.2 hAll hc_4) (cwV 1 hts gX6_readAny_X6_isWord rfl rfl rfl (by decide +kernel) ⟨Nat.le_of_ble_eq_true rfl, Nat.le_of_ble_eq_true rfl⟩) (x_recv (C := RX6) (T := TX6) (N := 55) X hP (okc_148 hAll) rfl) rfl hl.1 rfl (Nat.le_of_ble_eq_true rfl) dX6_readAny_110 ⟨Nat.zero_le _, Nat.zero_le _⟩) hS (fun H locs hP hS => ?_)
    refine lv_if_eq (tgt := 137) hx hb dX6_readAny_113 (by decide) (fun h_6 => ?_) (fun h_6 => ?_)
    · rw [if_pos h_6] at hm
      refine lv_aload_n hx hb dX6_readAny_137 rfl (lv_at hl 0 rfl) ?_
      refine lv_iconst (v := 2) hx hb dX6_readAny_138 (by decide) ?_
      obtain ⟨r_8, hc_7, hm⟩ := bind_elim hm
      refine x_calli (x_runV (As := [.int 2]) (rest := []) X hP hS (c_X6_isWord l X.2.2 hAll hc_7) (cwV 1 hts gX6_readAny_X6_isWord rfl rfl rfl (by decide +kernel) ⟨Nat.le_of_ble_eq_true rfl, Nat.le_of_ble_eq_true rfl⟩) (x_recv (C := RX6) (T := TX6) (N := 55) X hP (okc_148 hAll) rfl) rfl hl.1 rfl (Nat.le_of_ble_eq_true rfl) dX6_readAny_139 ⟨Nat.zero_le _, Nat.zero_le _⟩) hS (fun H locs hP hS => ?_)
      refine lv_if_eq (tgt := 172) hx hb dX6_readAny_142 (by decide) (fun h_9 => ?_) (fun h_9 => ?_)
      · rw [if_pos h_9] at hm
        refine lv_aload_n hx hb dX6_readAny_172 rfl (lv_at hl 0 rfl) ?_
        refine lv_bipush (v := 10) hx hb dX6_readAny_173 (by decide) ?_
        obtain ⟨M_11, hc_10, hm⟩ := bind_elim hm
        refine x_callv (x_runV (As := [.int 10]) (rest := []) X hP hS (c_X6_settles l X.2.2 hAll hc_10) (cwV 1 hts gX6_readAny_X6_settles rfl rfl rfl (by decide +kernel) ⟨Nat.le_of_ble_eq_true rfl, Nat.le_of_ble_eq_true rfl⟩) (x_recv (C := RX6) (T := TX6) (N := 55) X hP (okc_148 hAll) rfl) rfl hl.1 rfl (Nat.le_of_ble_eq_true rfl) dX6_readAny_175 ⟨Nat.zero_le _, Nat.zero_le _⟩) hS (fun H locs hP hS => ?_)
        refine lv_aload_n hx hb dX6_readAny_178 rfl (lv_at hl 0 rfl) ?_
        refine lv_bipush (v := 11) hx hb dX6_readAny_179 (by decide) ?_
        obtain ⟨M_13, hc_12, hm⟩ := bind_elim hm
        refine x_callv (x_runV (As := [.int 11]) (rest := []) X hP hS (c_X6_settles l X.2.2 hAll hc_12) (cwV 1 hts gX6_readAny_X6_settles rfl rfl rfl (by decide +kernel) ⟨Nat.le_of_ble_eq_true rfl, Nat.le_of_ble_eq_true rfl⟩) (x_recv (C := RX6) (T := TX6) (N := 55) X hP (okc_148 hAll) rfl) rfl hl.1 rfl (Nat.le_of_ble_eq_true rfl) dX6_readAny_181 ⟨Nat.zero_le _, Nat.zero_le _⟩) hS (fun H locs hP hS => ?_)
        refine lv_iload_n hx hb dX6_readAny_184 rfl (lv_at hl 1 rfl) ?_
        refine lv_if_ne (tgt := 190) hx hb dX6_readAny_185 (by decide) (fun h_14 => ?_) (fun h_14 => ?_)
        · rw [if_neg h_14] at hm
          refine lv_aload_n hx hb dX6_readAny_190 rfl (lv_at hl 0 rfl) ?_
          refine lv_bipush (v := 41) hx hb dX6_readAny_191 (by decide) ?_
          obtain ⟨r_16, hc_15, hm⟩ := bind_elim hm
          refine x_calli (x_runV (As := [.int 41]) (rest := []) X hP hS (c_X6_isSign l X.2.2 hAll hc_15) (cwV 1 hts gX6_readAny_X6_isSign rfl rfl rfl (by decide +kernel) ⟨Nat.le_of_ble_eq_true rfl, Nat.le_of_ble_eq_true rfl⟩) (x_recv (C := RX6) (T := TX6) (N := 55) X hP (okc_148 hAll) rfl) rfl hl.1 rfl (Nat.le_of_ble_eq_true rfl) dX6_readAny_193 ⟨Nat.zero_le _, Nat.zero_le _⟩) hS (fun H locs hP hS => ?_)
          refine lv_if_ne (tgt := 205) hx hb dX6_readAny_196 (by decide) (fun h_17 => ?_) (fun h_17 => ?_)
          · rw [if_neg h_17] at hm
            refine lv_aload_n hx hb dX6_readAny_205 rfl (lv_at hl 0 rfl) ?_
            refine lv_aload_n hx hb dX6_readAny_206 rfl (lv_at hl 0 rfl) ?_
            refine xg_X6_35 X hP hAll uX6_readAny_X6 mbX6_readAny_1 dX6_readAny_207 ?_
            refine lv_iconst (v := 1) hx hb dX6_readAny_210 (by decide) ?_
            refine lv_isub hx hb dX6_readAny_211 ?_
            obtain ⟨M_18, hM_19, hm⟩ := bnd_elim hm
            refine xp_X6_35 X hP hAll uX6_readAny_X6 mbX6_readAny_1 hS hM_19 dX6_readAny_212 (fun H locs hP hS => ?_)
            refine lv_iload_n hx hb dX6_readAny_215 rfl (lv_at hl 1 rfl) ?_
            refine lv_iconst (v := 1) hx hb dX6_readAny_216 (by decide) ?_
            refine lv_isub hx hb dX6_readAny_217 ?_
            obtain ⟨v_20, hv_21, hm⟩ := bnd_elim hm
            refine x_name hv_21 ?_
            refine lv_istore_n (lv' := [(1, .int v_20), (0, .ref (ga g 148)), (2, .int c2)]) hx hb dX6_readAny_218 rfl hl (by decide) rfl (fun ls hl => ?_)
            refine lv_aload_n hx hb dX6_readAny_219 rfl (lv_at hl 1 rfl) ?_
            refine lv_aload_n hx hb dX6_readAny_220 rfl (lv_at hl 1 rfl) ?_
            refine xg_X6_33 X hP hAll uX6_readAny_X6 mbX6_readAny_2 dX6_readAny_221 ?_
            refine lv_iconst (v := 1) hx hb dX6_readAny_224 (by decide) ?_
            refine lv_isub hx hb dX6_readAny_225 ?_
            obtain ⟨M_22, hM_23, hm⟩ := bnd_elim hm
            refine xp_X6_33 X hP hAll uX6_readAny_X6 mbX6_readAny_2 hS hM_23 dX6_readAny_226 (fun H locs hP hS => ?_)
            refine lv_aload_n hx hb dX6_readAny_229 rfl (lv_at hl 1 rfl) ?_
            refine lv_bipush (v := 9) hx hb dX6_readAny_230 (by decide) ?_
            obtain ⟨M_25, hc_24, hm⟩ := bind_elim hm
            refine x_callv (x_runV (As := [.int 9]) (rest := []) X hP hS (c_X6_settles l X.2.2 hAll hc_24) (cwV 1 hts gX6_readAny_X6_settles rfl rfl rfl (by decide +kernel) ⟨Nat.le_of_ble_eq_true rfl, Nat.le_of_ble_eq_true rfl⟩) (x_recv (C := RX6) (T := TX6) (N := 55) X hP (okc_148 hAll) rfl) rfl hl.1 rfl (Nat.le_of_ble_eq_true rfl) dX6_readAny_232 ⟨Nat.zero_le _, Nat.zero_le _⟩) hS (fun H locs hP hS => ?_)
            refine lv_aload_n hx hb dX6_readAny_235 rfl (lv_at hl 1 rfl) ?_
            obtain ⟨M_27, hc_26, hm⟩ := bind_elim hm
            refine x_callv (x_runV (As := []) (rest := []) X hP hS (c_X6_reads l X.2.2 hAll hc_26) (cwV 0 hts gX6_readAny_X6_reads rfl rfl rfl (by decide +kernel) ⟨Nat.le_of_ble_eq_true rfl, Nat.le_of_ble_eq_true rfl⟩) (x_recv (C := RX6) (T := TX6) (N := 55) X hP (okc_148 hAll) rfl) rfl hl.1 rfl (Nat.le_of_ble_eq_true rfl) dX6_readAny_236 ⟨Nat.zero_le _, Nat.zero_le _⟩) hS (fun H locs hP hS => ?_)
            refine lv_goto (tgt := 9) hx hb dX6_readAny_239 (by decide) ?_
            exact kb v_20 c2 M_27 (Option.some.inj hm).symm _ _ _ hP hS (lv_sub hl [1, 0, 2] rfl)
          · rw [if_pos h_17] at hm
            exact kx3 M_13 (Option.some.inj hm).symm _ _ _ hP hS (lv_sub hl [0] rfl)
        · rw [if_pos h_14] at hm
          exact kx2 M_13 (Option.some.inj hm).symm _ _ _ hP hS (lv_sub hl [] rfl)
      · rw [if_neg h_9] at hm
        refine lv_aload_n hx hb dX6_readAny_145 rfl (lv_at hl 0 rfl) ?_
        refine lv_bipush (v := 10) hx hb dX6_readAny_146 (by decide) ?_
        obtain ⟨M_29, hc_28, hm⟩ := bind_elim hm
        refine x_callv (x_runV (As := [.int 10]) (rest := []) X hP hS (c_X6_settles l X.2.2 hAll hc_28) (cwV 1 hts gX6_readAny_X6_settles rfl rfl rfl (by decide +kernel) ⟨Nat.le_of_ble_eq_true rfl, Nat.le_of_ble_eq_true rfl⟩) (x_recv (C := RX6) (T := TX6) (N := 55) X hP (okc_148 hAll) rfl) rfl hl.1 rfl (Nat.le_of_ble_eq_true rfl) dX6_readAny_148 ⟨Nat.zero_le _, Nat.zero_le _⟩) hS (fun H locs hP hS => ?_)
        refine lv_aload_n hx hb dX6_readAny_151 rfl (lv_at hl 0 rfl) ?_
        refine lv_bipush (v := 11) hx hb dX6_readAny_152 (by decide) ?_
        obtain ⟨M_31, hc_30, hm⟩ := bind_elim hm
        refine x_callv (x_runV (As := [.int 11]) (rest := []) X hP hS (c_X6_settles l X.2.2 hAll hc_30) (cwV 1 hts gX6_readAny_X6_settles rfl rfl rfl (by decide +kernel) ⟨Nat.le_of_ble_eq_true rfl, Nat.le_of_ble_eq_true rfl⟩) (x_recv (C := RX6) (T := TX6) (N := 55) X hP (okc_148 hAll) rfl) rfl hl.1 rfl (Nat.le_of_ble_eq_true rfl) dX6_readAny_154 ⟨Nat.zero_le _, Nat.zero_le _⟩) hS (fun H locs hP hS => ?_)
        refine lv_aload_n hx hb dX6_readAny_157 rfl (lv_at hl 0 rfl) ?_
        refine lv_bipush (v := 11) hx hb dX6_readAny_158 (by decide) ?_
        obtain ⟨M_33, hc_32, hm⟩ := bind_elim hm
        refine x_callv (x_runV (As := [.int 11]) (rest := []) X hP hS (c_X6_waits l X.2.2 hAll hc_32) (cwV 1 hts gX6_readAny_X6_waits rfl rfl rfl (by decide +kernel) ⟨Nat.le_of_ble_eq_true rfl, Nat.le_of_ble_eq_true rfl⟩) (x_recv (C := RX6) (T := TX6) (N := 55) X hP (okc_148 hAll) rfl) rfl hl.1 rfl (Nat.le_of_ble_eq_true rfl) dX6_readAny_160 ⟨Nat.zero_le _, Nat.zero_le _⟩) hS (fun H locs hP hS => ?_)
        refine lv_aload_n hx hb dX6_readAny_163 rfl (lv_at hl 0 rfl) ?_
        obtain ⟨M_35, hc_34, hm⟩ := bind_elim hm
        refine x_callv (x_runV (As := []) (rest := []) X hP hS (c_X6_reads l X.2.2 hAll hc_34) (cwV 0 hts gX6_readAny_X6_reads rfl rfl rfl (by decide +kernel) ⟨Nat.le_of_ble_eq_true rfl, Nat.le_of_ble_eq_true rfl⟩) (x_recv (C := RX6) (T := TX6) (N := 55) X hP (okc_148 hAll) rfl) rfl hl.1 rfl (Nat.le_of_ble_eq_true rfl) dX6_readAny_164 ⟨Nat.zero_le _, Nat.zero_le _⟩) hS (fun H locs hP hS => ?_)
        refine lv_iconst (v := 1) hx hb dX6_readAny_167 (by decide) ?_
        refine lv_istore_n (lv' := [(2, .int 1), (0, .ref (ga g 148)), (1, .int c1)]) hx hb dX6_readAny_168 rfl hl (by decide) rfl (fun ls hl => ?_)
        refine lv_goto (tgt := 9) hx hb dX6_readAny_169 (by decide) ?_
        exact kb c1 1 M_35 (Option.some.inj hm).symm _ _ _ hP hS (lv_sub hl [1, 2, 0] rfl)
    · rw [if_neg h_6] at hm
      refine lv_aload_n hx hb dX6_readAny_116 rfl (lv_at hl 0 rfl) ?_
      refine lv_bipush (v := 10) hx hb dX6_readAny_117 (by decide) ?_
      obtain ⟨M_37, hc_36, hm⟩ := bind_elim hm
      refine x_callv (x_runV (As := [.int 10]) (rest := []) X hP hS (c_X6_settles l X.2.2 hAll hc_36) (cwV 1 hts gX6_readAny_X6_settles rfl rfl rfl (by decide +kernel) ⟨Nat.le_of_ble_eq_true rfl, Nat.le_of_ble_eq_true rfl⟩) (x_recv (C := RX6) (T := TX6) (N := 55) X hP (okc_148 hAll) rfl) rfl hl.1 rfl (Nat.le_of_ble_eq_true rfl) dX6_readAny_119 ⟨Nat.zero_le _, Nat.zero_le _⟩) hS (fun H locs hP hS => ?_)
      refine lv_aload_n hx hb dX6_readAny_122 rfl (lv_at hl 0 rfl) ?_
      refine lv_bipush (v := 10) hx hb dX6_readAny_123 (by decide) ?_
      obtain ⟨M_39, hc_38, hm⟩ := bind_elim hm
      refine x_callv (x_runV (As := [.int 10]) (rest := []) X hP hS (c_X6_waits l X.2.2 hAll hc_38) (cwV 1 hts gX6_readAny_X6_waits rfl rfl rfl (by decide +kernel) ⟨Nat.le_of_ble_eq_true rfl, Nat.le_of_ble_eq_true rfl⟩) (x_recv (C := RX6) (T := TX6) (N := 55) X hP (okc_148 hAll) rfl) rfl hl.1 rfl (Nat.le_of_ble_eq_true rfl) dX6_readAny_125 ⟨Nat.zero_le _, Nat.zero_le _⟩) hS (fun H locs hP hS => ?_)
      refine lv_aload_n hx hb dX6_readAny_128 rfl (lv_at hl 0 rfl) ?_
      obtain ⟨M_41, hc_40, hm⟩ := bind_elim hm
      refine x_callv (x_runV (As := []) (rest := []) X hP hS (c_X6_reads l X.2.2 hAll hc_40) (cwV 0 hts gX6_readAny_X6_reads rfl rfl rfl (by decide +kernel) ⟨Nat.le_of_ble_eq_true rfl, Nat.le_of_ble_eq_true rfl⟩) (x_recv (C := RX6) (T := TX6) (N := 55) X hP (okc_148 hAll) rfl) rfl hl.1 rfl (Nat.le_of_ble_eq_true rfl) dX6_readAny_129 ⟨Nat.zero_le _, Nat.zero_le _⟩) hS (fun H locs hP hS => ?_)
      refine lv_iconst (v := 1) hx hb dX6_readAny_132 (by decide) ?_
      refine lv_istore_n (lv' := [(2, .int 1), (0, .ref (ga g 148)), (1, .int c1)]) hx hb dX6_readAny_133 rfl hl (by decide) rfl (fun ls hl => ?_)
      refine lv_goto (tgt := 9) hx hb dX6_readAny_134 (by decide) ?_
      exact kb c1 1 M_41 (Option.some.inj hm).symm _ _ _ hP hS (lv_sub hl [1, 2, 0] rfl)
  · rw [if_neg h_3] at hm
    refine lv_aload_n hx hb dX6_readAny_13 rfl (lv_at hl 0 rfl) ?_
    refine lv_iconst (v := 4) hx hb dX6_readAny_14 (by decide) ?_
    obtain ⟨r_43, hc_42, hm⟩ := bind_elim hm
    refine x_calli (x_runV (As := [.int 4]) (rest := []) X hP hS (c_X6_isWord l X.2.2 hAll hc_42) (cwV 1 hts gX6_readAny_X6_isWord rfl rfl rfl (by decide +kernel) ⟨Nat.le_of_ble_eq_true rfl, Nat.le_of_ble_eq_true rfl⟩) (x_recv (C := RX6) (T := TX6) (N := 55) X hP (okc_148 hAll) rfl) rfl hl.1 rfl (Nat.le_of_ble_eq_true rfl) dX6_readAny_15 ⟨Nat.zero_le _, Nat.zero_le _⟩) hS (fun H locs hP hS => ?_)
    refine lv_istore_n (lv' := [(3, .int r_43), (0, .ref (ga g 148)), (1, .int c1), (2, .int c2)]) hx hb dX6_readAny_18 rfl hl (by decide) rfl (fun ls hl => ?_)
    refine lv_iload_n hx hb dX6_readAny_19 rfl (lv_at hl 0 rfl) ?_
    refine lv_if_ne (tgt := 32) hx hb dX6_readAny_20 (by decide) (fun h_44 => ?_) (fun h_44 => ?_)
    · rw [if_neg h_44] at hm
      exact wj_X6_readAny_32i X hAll kb kx0 kx1 kx2 kx3 hm hP hS (lv_sub hl [1, 2, 3, 0] rfl)
    · rw [if_pos h_44] at hm
      refine lv_aload_n hx hb dX6_readAny_23 rfl (lv_at hl 1 rfl) ?_
      refine lv_bipush (v := 40) hx hb dX6_readAny_24 (by decide) ?_
      obtain ⟨r_57, hc_56, hm⟩ := bind_elim hm
      refine x_calli (x_runV (As := [.int 40]) (rest := []) X hP hS (c_X6_isSign l X.2.2 hAll hc_56) (cwV 1 hts gX6_readAny_X6_isSign rfl rfl rfl (by decide +kernel) ⟨Nat.le_of_ble_eq_true rfl, Nat.le_of_ble_eq_true rfl⟩) (x_recv (C := RX6) (T := TX6) (N := 55) X hP (okc_148 hAll) rfl) rfl hl.1 rfl (Nat.le_of_ble_eq_true rfl) dX6_readAny_26 ⟨Nat.zero_le _, Nat.zero_le _⟩) hS (fun H locs hP hS => ?_)
      refine lv_if_eq (tgt := 87) hx hb dX6_readAny_29 (by decide) (fun h_58 => ?_) (fun h_58 => ?_)
      · rw [if_pos h_58] at hm
        refine lv_aload_n hx hb dX6_readAny_87 rfl (lv_at hl 1 rfl) ?_
        obtain ⟨⟨r_60, M_61⟩, hc_59, hm⟩ := bind_elim hm
        replace hm := un2_e hm
        refine x_calli (x_runV (As := []) (rest := []) X hP hS (c_X6_readCompared l X.2.2 hAll hc_59) (cwV 0 hts gX6_readAny_X6_readCompared rfl rfl rfl (by decide +kernel) ⟨Nat.le_of_ble_eq_true rfl, Nat.le_of_ble_eq_true rfl⟩) (x_recv (C := RX6) (T := TX6) (N := 55) X hP (okc_148 hAll) rfl) rfl hl.1 rfl (Nat.le_of_ble_eq_true rfl) dX6_readAny_88 ⟨Nat.zero_le _, Nat.zero_le _⟩) hS (fun H locs hP hS => ?_)
        refine lv_iconst (v := (-1)) hx hb dX6_readAny_91 (by decide) ?_
        refine lv_icmp_ne (tgt := 97) hx hb dX6_readAny_92 (by decide) (fun h_62 => ?_) (fun h_62 => ?_)
        · rw [if_neg h_62] at hm
          refine lv_aload_n hx hb dX6_readAny_97 rfl (lv_at hl 1 rfl) ?_
          refine lv_bipush (v := 9) hx hb dX6_readAny_98 (by decide) ?_
          obtain ⟨M_64, hc_63, hm⟩ := bind_elim hm
          refine x_callv (x_runV (As := [.int 9]) (rest := []) X hP hS (c_X6_settles l X.2.2 hAll hc_63) (cwV 1 hts gX6_readAny_X6_settles rfl rfl rfl (by decide +kernel) ⟨Nat.le_of_ble_eq_true rfl, Nat.le_of_ble_eq_true rfl⟩) (x_recv (C := RX6) (T := TX6) (N := 55) X hP (okc_148 hAll) rfl) rfl hl.1 rfl (Nat.le_of_ble_eq_true rfl) dX6_readAny_100 ⟨Nat.zero_le _, Nat.zero_le _⟩) hS (fun H locs hP hS => ?_)
          refine lv_iconst (v := 0) hx hb dX6_readAny_103 (by decide) ?_
          refine lv_istore_n (lv' := [(2, .int 0), (3, .int r_43), (0, .ref (ga g 148)), (1, .int c1)]) hx hb dX6_readAny_104 rfl hl (by decide) rfl (fun ls hl => ?_)
          refine lv_goto (tgt := 9) hx hb dX6_readAny_105 (by decide) ?_
          exact kb c1 0 M_64 (Option.some.inj hm).symm _ _ _ hP hS (lv_sub hl [2, 3, 0] rfl)
        · rw [if_pos h_62] at hm
          exact kx1 M_61 (Option.some.inj hm).symm _ _ _ hP hS (lv_sub hl [] rfl)
      · rw [if_neg h_58] at hm
        exact wj_X6_readAny_32i X hAll kb kx0 kx1 kx2 kx3 hm hP hS (lv_sub hl [1, 2, 3, 0] rfl)

set_option maxHeartbeats 4000000 in
set_option maxRecDepth 100000 in
theorem c_X6_readAny (l : Launch) {g : GT} (hA : AxG g) (hAll : okAll g)   {fu : Nat} {M : Mem} {rr : Int32} {MM : Mem} (hm : m_X6_readAny fu M = some (rr, MM)) : CI l yX6_readAny wsX6_readAny rmX6_readAny g [.ref (ga g 148)] M rr MM := by
  refine Met.ofW (cc := cX6_readAny) (maxL := 4) (ret := (some .int)) (by decide) rfl ?_
  intro p e s m args below meth c s₁ B hml hv
  obtain ⟨rfl, hSx, hP⟩ := hv
  have hr := B.returns
  have hlocks := B.notSynchronized
  have X : CxG g p s m _ c cX6_readAny 4 RX6 wsX6_readAny := ⟨⟨B.exec, B.bytes, hml, findClass_of_methodNamed B.named, atoms_spec (ws := wsX6_readAny) B.pre⟩, hSx, hA⟩
  have hS : va_S (AbG g) s.heap s.heap [] := va_S.rf
  have hl := lv_entry (([.ref (ga g 148)] : List Value)) (n := 4) (Nat.le_of_ble_eq_true rfl)
  rw [lg_entry_eq]
  generalize (lg_sl (([.ref (ga g 148)] : List Value)) ++ List.replicate (4 - (lg_sl (([.ref (ga g 148)] : List Value))).length) Slot.unset).toArray = ls at hl ⊢
  have hl : lv_has ls 4 [(0, .ref (ga g 148))] := hl
  obtain ⟨⟨hx, hb, hml, hown, hts⟩, -, -⟩ := id X
  unfold m_X6_readAny at hm
  refine lv_iconst (v := 0) hx hb dX6_readAny_0 (by decide) ?_
  refine lv_istore_n (lv' := [(1, .int 0), (0, .ref (ga g 148))]) hx hb dX6_readAny_1 rfl hl (by decide) rfl (fun ls hl => ?_)
  refine lv_aload_n hx hb dX6_readAny_2 rfl (lv_at hl 1 rfl) ?_
  refine lv_iconst (v := 0) hx hb dX6_readAny_3 (by decide) ?_
  obtain ⟨M_1, hM_2, hm⟩ := bnd_elim hm
  refine xp_X6_35 X hP hAll uX6_readAny_X6 mbX6_readAny_1 hS hM_2 dX6_readAny_4 (fun H locs hP hS => ?_)
  refine lv_iconst (v := 1) hx hb dX6_readAny_7 (by decide) ?_
  refine lv_istore_n (lv' := [(2, .int 1), (1, .int 0), (0, .ref (ga g 148))]) hx hb dX6_readAny_8 rfl hl (by decide) rfl (fun ls hl => ?_)
  obtain ⟨x_65, hL_66, hm⟩ := bind_elim hm
  refine wl_X6_readAny_9 X hAll ?_ ?_ ?_ ?_ hL_66 _ _ _ hP hS (lv_sub hl [2, 1, 0] rfl)
  · intro M_67 e_x_65 H locs ls hP hS hl
    subst e_x_65
    replace hm := unS_l hm
    replace hm := un1_e hm
    refine lv_aload_n hx hb dX6_readAny_41 rfl (lv_at hl 0 rfl) ?_
    refine lv_iconst (v := 3) hx hb dX6_readAny_42 (by decide) ?_
    obtain ⟨⟨r_69, M_70⟩, hc_68, hm⟩ := bind_elim hm
    replace hm := un2_e hm
    refine x_calli (x_runV (As := [.int 3]) (rest := []) X hP hS (c_X6_errs l X.2.2 hAll hc_68) (cwV 1 hts gX6_readAny_X6_errs rfl rfl rfl (by decide +kernel) ⟨Nat.le_of_ble_eq_true rfl, Nat.le_of_ble_eq_true rfl⟩) (x_recv (C := RX6) (T := TX6) (N := 55) X hP (okc_148 hAll) rfl) rfl hl.1 rfl (Nat.le_of_ble_eq_true rfl) dX6_readAny_43 ⟨Nat.zero_le _, Nat.zero_le _⟩) hS (fun H locs hP hS => ?_)
    cases hm
    exact x_iret X hP hS hr hlocks dX6_readAny_46
  · intro M_71 e_x_65 H locs ls hP hS hl
    subst e_x_65
    replace hm := unS_r hm
    replace hm := unS_l hm
    replace hm := un1_e hm
    refine lv_iconst (v := (-1)) hx hb dX6_readAny_95 (by decide) ?_
    cases hm
    exact x_iret X hP hS hr hlocks dX6_readAny_96
  · intro M_72 e_x_65 H locs ls hP hS hl
    subst e_x_65
    replace hm := unS_r hm
    replace hm := unS_r hm
    replace hm := unS_l hm
    replace hm := un1_e hm
    refine lv_iconst (v := 0) hx hb dX6_readAny_188 (by decide) ?_
    cases hm
    exact x_iret X hP hS hr hlocks dX6_readAny_189
  · intro M_73 e_x_65 H locs ls hP hS hl
    subst e_x_65
    replace hm := unS_r hm
    replace hm := unS_r hm
    replace hm := unS_r hm
    replace hm := un1_e hm
    refine lv_aload_n hx hb dX6_readAny_199 rfl (lv_at hl 0 rfl) ?_
    refine lv_iconst (v := 1) hx hb dX6_readAny_200 (by decide) ?_
    obtain ⟨⟨r_75, M_76⟩, hc_74, hm⟩ := bind_elim hm
    replace hm := un2_e hm
    refine x_calli (x_runV (As := [.int 1]) (rest := []) X hP hS (c_X6_errs l X.2.2 hAll hc_74) (cwV 1 hts gX6_readAny_X6_errs rfl rfl rfl (by decide +kernel) ⟨Nat.le_of_ble_eq_true rfl, Nat.le_of_ble_eq_true rfl⟩) (x_recv (C := RX6) (T := TX6) (N := 55) X hP (okc_148 hAll) rfl) rfl hl.1 rfl (Nat.le_of_ble_eq_true rfl) dX6_readAny_201 ⟨Nat.zero_le _, Nat.zero_le _⟩) hS (fun H locs hP hS => ?_)
    cases hm
    exact x_iret X hP hS hr hlocks dX6_readAny_204


/-! X6_readLaw -/
def rmX6_readLaw : Room := { frames := 8, cells := 0, slots := 0, locals := 172 }
theorem uX6_readLaw_X6 : ∀ w ∈ wsX60, w ∈ wsX6_readLaw := by decide +kernel
theorem mbX6_readLaw_1 : Cond.fieldLink RX6 161 "FootANightModel" "token" "I" ∈ wsX6_readLaw := by decide +kernel
theorem mbX6_readLaw_2 : Cond.fieldLink RX6 164 "FootANightModel" "value" "I" ∈ wsX6_readLaw := by decide +kernel
theorem mbX6_readLaw_3 : Cond.fieldLink RX6 65 "FootANightModel" "lineDoing" "[I" ∈ wsX6_readLaw := by decide +kernel
theorem mbX6_readLaw_4 : Cond.fieldLink RX6 68 "FootANightModel" "lineFrom" "[I" ∈ wsX6_readLaw := by decide +kernel
theorem mbX6_readLaw_5 : Cond.fieldLink RX6 185 "FootANightModel" "many" "I" ∈ wsX6_readLaw := by decide +kernel
theorem mbX6_readLaw_6 : Cond.fieldLink RX6 71 "FootANightModel" "lineTo" "[I" ∈ wsX6_readLaw := by decide +kernel
set_option maxHeartbeats 4000000 in
set_option maxRecDepth 100000 in
theorem wj_X6_readLaw_105i (X : CxG g p s m args c cX6_readLaw 3 RX6 wsX6_readLaw) (hAll : okAll g) {fu : Nat} {M : Mem} {s1 : Int32} {s2 : Int32} {o : (Int32 × Mem) ⊕ ((Mem) ⊕ ((Mem) ⊕ ((Mem) ⊕ ((Mem) ⊕ ((Mem) ⊕ (Int32 × Mem))))))} (kb : ∀ (d1 : Int32) (M2 : Mem) , o = .inl (d1, M2) → ∀ (H : Heap) (locs : List Loc) (ls : Array Slot), va_P (gD g) vwCl (wlG g M2) H → va_S (AbG g) s.heap H locs → lv_has ls 3 [(0, .ref (ga g 148)), (1, .int d1)] → W p l e (headSpec wsX6_readLaw rmX6_readLaw).room s m args below meth c H locs 0 0 Q (F0 m 2 ls [])) (kx0 : ∀ (M2 : Mem) , o = .inr (.inl M2) → ∀ (H : Heap) (locs : List Loc) (ls : Array Slot), va_P (gD g) vwCl (wlG g M2) H → va_S (AbG g) s.heap H locs → lv_has ls 3 [(0, .ref (ga g 148))] → W p l e (headSpec wsX6_readLaw rmX6_readLaw).room s m args below meth c H locs 0 0 Q (F0 m 16 ls [])) (kx1 : ∀ (M2 : Mem) , o = .inr (.inr (.inl M2)) → ∀ (H : Heap) (locs : List Loc) (ls : Array Slot), va_P (gD g) vwCl (wlG g M2) H → va_S (AbG g) s.heap H locs → lv_has ls 3 [(0, .ref (ga g 148))] → W p l e (headSpec wsX6_readLaw rmX6_readLaw).room s m args below meth c H locs 0 0 Q (F0 m 39 ls [])) (kx2 : ∀ (M2 : Mem) , o = .inr (.inr (.inr (.inl M2))) → ∀ (H : Heap) (locs : List Loc) (ls : Array Slot), va_P (gD g) vwCl (wlG g M2) H → va_S (AbG g) s.heap H locs → lv_has ls 3 [(0, .ref (ga g 148))] → W p l e (headSpec wsX6_readLaw rmX6_readLaw).room s m args below meth c H locs 0 0 Q (F0 m 53 ls [])) (kx3 : ∀ (M2 : Mem) , o = .inr (.inr (.inr (.inr (.inl M2)))) → ∀ (H : Heap) (locs : List Loc) (ls : Array Slot), va_P (gD g) vwCl (wlG g M2) H → va_S (AbG g) s.heap H locs → lv_has ls 3 [] → W p l e (headSpec wsX6_readLaw rmX6_readLaw).room s m args below meth c H locs 0 0 Q (F0 m 103 ls [])) (kx4 : ∀ (M2 : Mem) , o = .inr (.inr (.inr (.inr (.inr (.inl M2))))) → ∀ (H : Heap) (locs : List Loc) (ls : Array Slot), va_P (gD g) vwCl (wlG g M2) H → va_S (AbG g) s.heap H locs → lv_has ls 3 [(0, .ref (ga g 148))] → W p l e (headSpec wsX6_readLaw rmX6_readLaw).room s m args below meth c H locs 0 0 Q (F0 m 124 ls [])) (kx5 : ∀ (d1 : Int32) (M2 : Mem) , o = .inr (.inr (.inr (.inr (.inr (.inr (d1, M2)))))) → ∀ (H : Heap) (locs : List Loc) (ls : Array Slot), va_P (gD g) vwCl (wlG g M2) H → va_S (AbG g) s.heap H locs → lv_has ls 3 [(0, .ref (ga g 148)), (1, .int d1)] → W p l e (headSpec wsX6_readLaw rmX6_readLaw).room s m args below meth c H locs 0 0 Q (F0 m 141 ls [])) (hm : j_X6_readLaw_105i fu M s1 s2 = some o) {H : Heap} {locs : List Loc} {ls : Array Slot} (hP : va_P (gD g) vwCl (wlG g M) H) (hS : va_S (AbG g) s.heap H locs) (hl : lv_has ls 3 [(0, .ref (ga g 148)), (1, .int s1), (2, .int s2)]) : W p l e (headSpec wsX6_readLaw rmX6_readLaw).room s m args below meth c H locs 0 0 Q (F0 m 105 ls []) := by
  obtain ⟨⟨hx, hb, hml, hown, hts⟩, -, -⟩ := id X
  unfold j_X6_readLaw_105i at hm
  refine lv_aload_n hx hb dX6_readLaw_105 rfl (lv_at hl 0 rfl) ?_
  refine xg_X6_29 X hP hAll uX6_readLaw_X6 mbX6_readLaw_6 dX6_readLaw_106 ?_
  refine lv_iload_n hx hb dX6_readLaw_109 rfl (lv_at hl 2 rfl) ?_
  refine lv_aload_n hx hb dX6_readLaw_110 rfl (lv_at hl 0 rfl) ?_
  refine xg_X6_32 X hP hAll uX6_readLaw_X6 mbX6_readLaw_5 dX6_readLaw_111 ?_
  obtain ⟨hb_21, hm⟩ := chk_elim hm
  obtain ⟨M_22, hM_23, hm⟩ := bnd_elim hm
  refine x_iast X hP hS (okc_168 hAll) hM_23 hb_21 dX6_readLaw_114 (fun H locs hP hS => ?_)
  refine lv_aload_n hx hb dX6_readLaw_115 rfl (lv_at hl 0 rfl) ?_
  refine lv_bipush (v := 59) hx hb dX6_readLaw_116 (by decide) ?_
  obtain ⟨r_25, hc_24, hm⟩ := bind_elim hm
  refine x_calli (x_runV (As := [.int 59]) (rest := []) X hP hS (c_X6_isSign l X.2.2 hAll hc_24) (cwV 1 hts gX6_readLaw_X6_isSign rfl rfl rfl (by decide +kernel) ⟨Nat.le_of_ble_eq_true rfl, Nat.le_of_ble_eq_true rfl⟩) (x_recv (C := RX6) (T := TX6) (N := 55) X hP (okc_148 hAll) rfl) rfl hl.1 rfl (Nat.le_of_ble_eq_true rfl) dX6_readLaw_118 ⟨Nat.zero_le _, Nat.zero_le _⟩) hS (fun H locs hP hS => ?_)
  refine lv_if_ne (tgt := 130) hx hb dX6_readLaw_121 (by decide) (fun h_26 => ?_) (fun h_26 => ?_)
  · rw [if_neg h_26] at hm
    refine lv_aload_n hx hb dX6_readLaw_130 rfl (lv_at hl 0 rfl) ?_
    obtain ⟨M_28, hc_27, hm⟩ := bind_elim hm
    refine x_callv (x_runV (As := []) (rest := []) X hP hS (c_X6_reads l X.2.2 hAll hc_27) (cwV 0 hts gX6_readLaw_X6_reads rfl rfl rfl (by decide +kernel) ⟨Nat.le_of_ble_eq_true rfl, Nat.le_of_ble_eq_true rfl⟩) (x_recv (C := RX6) (T := TX6) (N := 55) X hP (okc_148 hAll) rfl) rfl hl.1 rfl (Nat.le_of_ble_eq_true rfl) dX6_readLaw_131 ⟨Nat.zero_le _, Nat.zero_le _⟩) hS (fun H locs hP hS => ?_)
    refine lv_iload_n hx hb dX6_readLaw_134 rfl (lv_at hl 1 rfl) ?_
    refine lv_iconst (v := 1) hx hb dX6_readLaw_135 (by decide) ?_
    refine lv_iadd hx hb dX6_readLaw_136 ?_
    obtain ⟨v_29, hv_30, hm⟩ := bnd_elim hm
    refine x_name hv_30 ?_
    refine lv_istore_n (lv' := [(1, .int v_29), (0, .ref (ga g 148)), (2, .int s2)]) hx hb dX6_readLaw_137 rfl hl (by decide) rfl (fun ls hl => ?_)
    refine lv_goto (tgt := 2) hx hb dX6_readLaw_138 (by decide) ?_
    exact kb v_29 M_28 (Option.some.inj hm).symm _ _ _ hP hS (lv_sub hl [1, 0] rfl)
  · rw [if_pos h_26] at hm
    exact kx4 M_22 (Option.some.inj hm).symm _ _ _ hP hS (lv_sub hl [0] rfl)

set_option maxHeartbeats 4000000 in
set_option maxRecDepth 100000 in
theorem wl_X6_readLaw_2 (X : CxG g p s m args c cX6_readLaw 3 RX6 wsX6_readLaw) (hAll : okAll g) {fu : Nat} {x : (Mem) ⊕ ((Mem) ⊕ ((Mem) ⊕ ((Mem) ⊕ ((Mem) ⊕ (Int32 × Mem)))))} (kx0 : ∀ (M2 : Mem) , x = .inl M2 → ∀ (H : Heap) (locs : List Loc) (ls : Array Slot), va_P (gD g) vwCl (wlG g M2) H → va_S (AbG g) s.heap H locs → lv_has ls 3 [(0, .ref (ga g 148))] → W p l e (headSpec wsX6_readLaw rmX6_readLaw).room s m args below meth c H locs 0 0 Q (F0 m 16 ls [])) (kx1 : ∀ (M2 : Mem) , x = .inr (.inl M2) → ∀ (H : Heap) (locs : List Loc) (ls : Array Slot), va_P (gD g) vwCl (wlG g M2) H → va_S (AbG g) s.heap H locs → lv_has ls 3 [(0, .ref (ga g 148))] → W p l e (headSpec wsX6_readLaw rmX6_readLaw).room s m args below meth c H locs 0 0 Q (F0 m 39 ls [])) (kx2 : ∀ (M2 : Mem) , x = .inr (.inr (.inl M2)) → ∀ (H : Heap) (locs : List Loc) (ls : Array Slot), va_P (gD g) vwCl (wlG g M2) H → va_S (AbG g) s.heap H locs → lv_has ls 3 [(0, .ref (ga g 148))] → W p l e (headSpec wsX6_readLaw rmX6_readLaw).room s m args below meth c H locs 0 0 Q (F0 m 53 ls [])) (kx3 : ∀ (M2 : Mem) , x = .inr (.inr (.inr (.inl M2))) → ∀ (H : Heap) (locs : List Loc) (ls : Array Slot), va_P (gD g) vwCl (wlG g M2) H → va_S (AbG g) s.heap H locs → lv_has ls 3 [] → W p l e (headSpec wsX6_readLaw rmX6_readLaw).room s m args below meth c H locs 0 0 Q (F0 m 103 ls [])) (kx4 : ∀ (M2 : Mem) , x = .inr (.inr (.inr (.inr (.inl M2)))) → ∀ (H : Heap) (locs : List Loc) (ls : Array Slot), va_P (gD g) vwCl (wlG g M2) H → va_S (AbG g) s.heap H locs → lv_has ls 3 [(0, .ref (ga g 148))] → W p l e (headSpec wsX6_readLaw rmX6_readLaw).room s m args below meth c H locs 0 0 Q (F0 m 124 ls [])) (kx5 : ∀ (d1 : Int32) (M2 : Mem) , x = .inr (.inr (.inr (.inr (.inr (d1, M2))))) → ∀ (H : Heap) (locs : List Loc) (ls : Array Slot), va_P (gD g) vwCl (wlG g M2) H → va_S (AbG g) s.heap H locs → lv_has ls 3 [(0, .ref (ga g 148)), (1, .int d1)] → W p l e (headSpec wsX6_readLaw rmX6_readLaw).room s m args below meth c H locs 0 0 Q (F0 m 141 ls [])) {n : Nat} {q0 : Int32 × Mem} (h : lp (b_X6_readLaw_2 fu) n q0 = some x) : ∀ (H : Heap) (locs : List Loc) (ls : Array Slot), va_P (gD g) vwCl (wlG g q0.2) H → va_S (AbG g) s.heap H locs → lv_has ls 3 [(0, .ref (ga g 148)), (1, .int q0.1)] → W p l e (headSpec wsX6_readLaw rmX6_readLaw).room s m args below meth c H locs 0 0 Q (F0 m 2 ls []) := by
  refine lp_elim (P := fun q0 : Int32 × Mem => ∀ (H : Heap) (locs : List Loc) (ls : Array Slot), va_P (gD g) vwCl (wlG g q0.2) H → va_S (AbG g) s.heap H locs → lv_has ls 3 [(0, .ref (ga g 148)), (1, .int q0.1)] → W p l e (headSpec wsX6_readLaw rmX6_readLaw).room s m args below meth c H locs 0 0 Q (F0 m 2 ls [])) (fun q1 o hm hI hX => ?_) n q0 h
  obtain ⟨c1, M⟩ := q1
  have kb : ∀ (d1 : Int32) (M2 : Mem) , o = .inl (d1, M2) → ∀ (H : Heap) (locs : List Loc) (ls : Array Slot), va_P (gD g) vwCl (wlG g M2) H → va_S (AbG g) s.heap H locs → lv_has ls 3 [(0, .ref (ga g 148)), (1, .int d1)] → W p l e (headSpec wsX6_readLaw rmX6_readLaw).room s m args below meth c H locs 0 0 Q (F0 m 2 ls []) := fun d1 M2 e => hI _ e
  have kx0 : ∀ (M2 : Mem) , o = .inr (.inl M2) → ∀ (H : Heap) (locs : List Loc) (ls : Array Slot), va_P (gD g) vwCl (wlG g M2) H → va_S (AbG g) s.heap H locs → lv_has ls 3 [(0, .ref (ga g 148))] → W p l e (headSpec wsX6_readLaw rmX6_readLaw).room s m args below meth c H locs 0 0 Q (F0 m 16 ls []) := fun M2 e => kx0 M2 (hX _ e).symm
  have kx1 : ∀ (M2 : Mem) , o = .inr (.inr (.inl M2)) → ∀ (H : Heap) (locs : List Loc) (ls : Array Slot), va_P (gD g) vwCl (wlG g M2) H → va_S (AbG g) s.heap H locs → lv_has ls 3 [(0, .ref (ga g 148))] → W p l e (headSpec wsX6_readLaw rmX6_readLaw).room s m args below meth c H locs 0 0 Q (F0 m 39 ls []) := fun M2 e => kx1 M2 (hX _ e).symm
  have kx2 : ∀ (M2 : Mem) , o = .inr (.inr (.inr (.inl M2))) → ∀ (H : Heap) (locs : List Loc) (ls : Array Slot), va_P (gD g) vwCl (wlG g M2) H → va_S (AbG g) s.heap H locs → lv_has ls 3 [(0, .ref (ga g 148))] → W p l e (headSpec wsX6_readLaw rmX6_readLaw).room s m args below meth c H locs 0 0 Q (F0 m 53 ls []) := fun M2 e => kx2 M2 (hX _ e).symm
  have kx3 : ∀ (M2 : Mem) , o = .inr (.inr (.inr (.inr (.inl M2)))) → ∀ (H : Heap) (locs : List Loc) (ls : Array Slot), va_P (gD g) vwCl (wlG g M2) H → va_S (AbG g) s.heap H locs → lv_has ls 3 [] → W p l e (headSpec wsX6_readLaw rmX6_readLaw).room s m args below meth c H locs 0 0 Q (F0 m 103 ls []) := fun M2 e => kx3 M2 (hX _ e).symm
  have kx4 : ∀ (M2 : Mem) , o = .inr (.inr (.inr (.inr (.inr (.inl M2))))) → ∀ (H : Heap) (locs : List Loc) (ls : Array Slot), va_P (gD g) vwCl (wlG g M2) H → va_S (AbG g) s.heap H locs → lv_has ls 3 [(0, .ref (ga g 148))] → W p l e (headSpec wsX6_readLaw rmX6_readLaw).room s m args below meth c H locs 0 0 Q (F0 m 124 ls []) := fun M2 e => kx4 M2 (hX _ e).symm
  have kx5 : ∀ (d1 : Int32) (M2 : Mem) , o = .inr (.inr (.inr (.inr (.inr (.inr (d1, M2)))))) → ∀ (H : Heap) (locs : List Loc) (ls : Array Slot), va_P (gD g) vwCl (wlG g M2) H → va_S (AbG g) s.heap H locs → lv_has ls 3 [(0, .ref (ga g 148)), (1, .int d1)] → W p l e (headSpec wsX6_readLaw rmX6_readLaw).room s m args below meth c H locs 0 0 Q (F0 m 141 ls []) := fun d1 M2 e => kx5 d1 M2 (hX _ e).symm
  clear hI hX
  intro H locs ls hP hS hl
  obtain ⟨⟨hx, hb, hml, hown, hts⟩, -, -⟩ := id X
  have hl : lv_has ls 3 [(0, .ref (ga g 148)), (1, .int c1)] := hl
  have hP : va_P (gD g) vwCl (wlG g M) H := hP
  unfold b_X6_readLaw_2 at hm
  replace hm := un2_e hm
  refine lv_aload_n hx hb dX6_readLaw_2 rfl (lv_at hl 0 rfl) ?_
  refine lv_iconst (v := 0) hx hb dX6_readLaw_3 (by decide) ?_
  obtain ⟨r_2, hc_1, hm⟩ := bind_elim hm
  refine x_calli (x_runV (As := [.int 0]) (rest := []) X hP hS (c_X6_isWord l X.2.2 hAll hc_1) (cwV 1 hts gX6_readLaw_X6_isWord rfl rfl rfl (by decide +kernel) ⟨Nat.le_of_ble_eq_true rfl, Nat.le_of_ble_eq_true rfl⟩) (x_recv (C := RX6) (T := TX6) (N := 55) X hP (okc_148 hAll) rfl) rfl hl.1 rfl (Nat.le_of_ble_eq_true rfl) dX6_readLaw_4 ⟨Nat.zero_le _, Nat.zero_le _⟩) hS (fun H locs hP hS => ?_)
  refine lv_if_eq (tgt := 141) hx hb dX6_readLaw_7 (by decide) (fun h_3 => ?_) (fun h_3 => ?_)
  · rw [if_pos h_3] at hm
    exact kx5 c1 M (Option.some.inj hm).symm _ _ _ hP hS (lv_sub hl [0, 1] rfl)
  · rw [if_neg h_3] at hm
    refine lv_iload_n hx hb dX6_readLaw_10 rfl (lv_at hl 1 rfl) ?_
    refine lv_bipush (v := 16) hx hb dX6_readLaw_11 (by decide) ?_
    refine lv_icmp_ne (tgt := 22) hx hb dX6_readLaw_13 (by decide) (fun h_4 => ?_) (fun h_4 => ?_)
    · rw [if_neg h_4] at hm
      refine lv_bipush (v := 64) hx hb dX6_readLaw_22 (by decide) ?_
      refine lv_iload_n hx hb dX6_readLaw_24 rfl (lv_at hl 1 rfl) ?_
      refine lv_iadd hx hb dX6_readLaw_25 ?_
      obtain ⟨v_5, hv_6, hm⟩ := bnd_elim hm
      refine x_name hv_6 ?_
      refine lv_istore_n (lv' := [(2, .int v_5), (0, .ref (ga g 148)), (1, .int c1)]) hx hb dX6_readLaw_26 rfl hl (by decide) rfl (fun ls hl => ?_)
      refine lv_aload_n hx hb dX6_readLaw_27 rfl (lv_at hl 1 rfl) ?_
      obtain ⟨M_8, hc_7, hm⟩ := bind_elim hm
      refine x_callv (x_runV (As := []) (rest := []) X hP hS (c_X6_reads l X.2.2 hAll hc_7) (cwV 0 hts gX6_readLaw_X6_reads rfl rfl rfl (by decide +kernel) ⟨Nat.le_of_ble_eq_true rfl, Nat.le_of_ble_eq_true rfl⟩) (x_recv (C := RX6) (T := TX6) (N := 55) X hP (okc_148 hAll) rfl) rfl hl.1 rfl (Nat.le_of_ble_eq_true rfl) dX6_readLaw_28 ⟨Nat.zero_le _, Nat.zero_le _⟩) hS (fun H locs hP hS => ?_)
      refine lv_aload_n hx hb dX6_readLaw_31 rfl (lv_at hl 1 rfl) ?_
      refine xg_X6_23 X hP hAll uX6_readLaw_X6 mbX6_readLaw_1 dX6_readLaw_32 ?_
      refine lv_iconst (v := 3) hx hb dX6_readLaw_35 (by decide) ?_
      refine lv_icmp_eq (tgt := 45) hx hb dX6_readLaw_36 (by decide) (fun h_9 => ?_) (fun h_9 => ?_)
      · rw [if_pos h_9] at hm
        refine lv_aload_n hx hb dX6_readLaw_45 rfl (lv_at hl 1 rfl) ?_
        refine xg_X6_24 X hP hAll uX6_readLaw_X6 mbX6_readLaw_2 dX6_readLaw_46 ?_
        refine lv_iconst (v := 3) hx hb dX6_readLaw_49 (by decide) ?_
        refine lv_icmp_le (tgt := 59) hx hb dX6_readLaw_50 (by decide) (fun h_10 => ?_) (fun h_10 => ?_)
        · rw [if_pos h_10] at hm
          refine lv_aload_n hx hb dX6_readLaw_59 rfl (lv_at hl 1 rfl) ?_
          refine xg_X6_27 X hP hAll uX6_readLaw_X6 mbX6_readLaw_3 dX6_readLaw_60 ?_
          refine lv_iload_n hx hb dX6_readLaw_63 rfl (lv_at hl 0 rfl) ?_
          refine lv_aload_n hx hb dX6_readLaw_64 rfl (lv_at hl 1 rfl) ?_
          refine xg_X6_24 X hP hAll uX6_readLaw_X6 mbX6_readLaw_2 dX6_readLaw_65 ?_
          obtain ⟨hb_11, hm⟩ := chk_elim hm
          obtain ⟨M_12, hM_13, hm⟩ := bnd_elim hm
          refine x_iast X hP hS (okc_166 hAll) hM_13 hb_11 dX6_readLaw_68 (fun H locs hP hS => ?_)
          refine lv_aload_n hx hb dX6_readLaw_69 rfl (lv_at hl 1 rfl) ?_
          obtain ⟨M_15, hc_14, hm⟩ := bind_elim hm
          refine x_callv (x_runV (As := []) (rest := []) X hP hS (c_X6_reads l X.2.2 hAll hc_14) (cwV 0 hts gX6_readLaw_X6_reads rfl rfl rfl (by decide +kernel) ⟨Nat.le_of_ble_eq_true rfl, Nat.le_of_ble_eq_true rfl⟩) (x_recv (C := RX6) (T := TX6) (N := 55) X hP (okc_148 hAll) rfl) rfl hl.1 rfl (Nat.le_of_ble_eq_true rfl) dX6_readLaw_70 ⟨Nat.zero_le _, Nat.zero_le _⟩) hS (fun H locs hP hS => ?_)
          refine lv_aload_n hx hb dX6_readLaw_73 rfl (lv_at hl 1 rfl) ?_
          refine xg_X6_28 X hP hAll uX6_readLaw_X6 mbX6_readLaw_4 dX6_readLaw_74 ?_
          refine lv_iload_n hx hb dX6_readLaw_77 rfl (lv_at hl 0 rfl) ?_
          refine lv_aload_n hx hb dX6_readLaw_78 rfl (lv_at hl 1 rfl) ?_
          refine xg_X6_32 X hP hAll uX6_readLaw_X6 mbX6_readLaw_5 dX6_readLaw_79 ?_
          obtain ⟨M_16, hM_17, hm⟩ := bnd_elim hm
          refine x_iast X hP hS (okc_167 hAll) hM_17 hb_11 dX6_readLaw_82 (fun H locs hP hS => ?_)
          refine lv_aload_n hx hb dX6_readLaw_83 rfl (lv_at hl 1 rfl) ?_
          refine lv_iconst (v := 1) hx hb dX6_readLaw_84 (by decide) ?_
          obtain ⟨r_19, hc_18, hm⟩ := bind_elim hm
          refine x_calli (x_runV (As := [.int 1]) (rest := []) X hP hS (c_X6_isWord l X.2.2 hAll hc_18) (cwV 1 hts gX6_readLaw_X6_isWord rfl rfl rfl (by decide +kernel) ⟨Nat.le_of_ble_eq_true rfl, Nat.le_of_ble_eq_true rfl⟩) (x_recv (C := RX6) (T := TX6) (N := 55) X hP (okc_148 hAll) rfl) rfl hl.1 rfl (Nat.le_of_ble_eq_true rfl) dX6_readLaw_85 ⟨Nat.zero_le _, Nat.zero_le _⟩) hS (fun H locs hP hS => ?_)
          refine lv_if_eq (tgt := 105) hx hb dX6_readLaw_88 (by decide) (fun h_20 => ?_) (fun h_20 => ?_)
          · rw [if_pos h_20] at hm
            exact wj_X6_readLaw_105i X hAll kb kx0 kx1 kx2 kx3 kx4 kx5 hm hP hS (lv_sub hl [1, 2, 0] rfl)
          · rw [if_neg h_20] at hm
            refine lv_aload_n hx hb dX6_readLaw_91 rfl (lv_at hl 1 rfl) ?_
            obtain ⟨M_32, hc_31, hm⟩ := bind_elim hm
            refine x_callv (x_runV (As := []) (rest := []) X hP hS (c_X6_reads l X.2.2 hAll hc_31) (cwV 0 hts gX6_readLaw_X6_reads rfl rfl rfl (by decide +kernel) ⟨Nat.le_of_ble_eq_true rfl, Nat.le_of_ble_eq_true rfl⟩) (x_recv (C := RX6) (T := TX6) (N := 55) X hP (okc_148 hAll) rfl) rfl hl.1 rfl (Nat.le_of_ble_eq_true rfl) dX6_readLaw_92 ⟨Nat.zero_le _, Nat.zero_le _⟩) hS (fun H locs hP hS => ?_)
            refine lv_aload_n hx hb dX6_readLaw_95 rfl (lv_at hl 1 rfl) ?_
            obtain ⟨⟨r_34, M_35⟩, hc_33, hm⟩ := bind_elim hm
            replace hm := un2_e hm
            refine x_calli (x_runV (As := []) (rest := []) X hP hS (c_X6_readAny l X.2.2 hAll hc_33) (cwV 0 hts gX6_readLaw_X6_readAny rfl rfl rfl (by decide +kernel) ⟨Nat.le_of_ble_eq_true rfl, Nat.le_of_ble_eq_true rfl⟩) (x_recv (C := RX6) (T := TX6) (N := 55) X hP (okc_148 hAll) rfl) rfl hl.1 rfl (Nat.le_of_ble_eq_true rfl) dX6_readLaw_96 ⟨Nat.zero_le _, Nat.zero_le _⟩) hS (fun H locs hP hS => ?_)
            refine lv_iconst (v := (-1)) hx hb dX6_readLaw_99 (by decide) ?_
            refine lv_icmp_ne (tgt := 105) hx hb dX6_readLaw_100 (by decide) (fun h_36 => ?_) (fun h_36 => ?_)
            · rw [if_neg h_36] at hm
              exact wj_X6_readLaw_105i X hAll kb kx0 kx1 kx2 kx3 kx4 kx5 hm hP hS (lv_sub hl [1, 2, 0] rfl)
            · rw [if_pos h_36] at hm
              exact kx3 M_35 (Option.some.inj hm).symm _ _ _ hP hS (lv_sub hl [] rfl)
        · rw [if_neg h_10] at hm
          exact kx2 M_8 (Option.some.inj hm).symm _ _ _ hP hS (lv_sub hl [1] rfl)
      · rw [if_neg h_9] at hm
        exact kx1 M_8 (Option.some.inj hm).symm _ _ _ hP hS (lv_sub hl [1] rfl)
    · rw [if_pos h_4] at hm
      exact kx0 M (Option.some.inj hm).symm _ _ _ hP hS (lv_sub hl [0] rfl)

set_option maxHeartbeats 4000000 in
set_option maxRecDepth 100000 in
theorem c_X6_readLaw (l : Launch) {g : GT} (hA : AxG g) (hAll : okAll g)   {fu : Nat} {M : Mem} {rr : Int32} {MM : Mem} (hm : m_X6_readLaw fu M = some (rr, MM)) : CI l yX6_readLaw wsX6_readLaw rmX6_readLaw g [.ref (ga g 148)] M rr MM := by
  refine Met.ofW (cc := cX6_readLaw) (maxL := 3) (ret := (some .int)) (by decide) rfl ?_
  intro p e s m args below meth c s₁ B hml hv
  obtain ⟨rfl, hSx, hP⟩ := hv
  have hr := B.returns
  have hlocks := B.notSynchronized
  have X : CxG g p s m _ c cX6_readLaw 3 RX6 wsX6_readLaw := ⟨⟨B.exec, B.bytes, hml, findClass_of_methodNamed B.named, atoms_spec (ws := wsX6_readLaw) B.pre⟩, hSx, hA⟩
  have hS : va_S (AbG g) s.heap s.heap [] := va_S.rf
  have hl := lv_entry (([.ref (ga g 148)] : List Value)) (n := 3) (Nat.le_of_ble_eq_true rfl)
  rw [lg_entry_eq]
  generalize (lg_sl (([.ref (ga g 148)] : List Value)) ++ List.replicate (3 - (lg_sl (([.ref (ga g 148)] : List Value))).length) Slot.unset).toArray = ls at hl ⊢
  have hl : lv_has ls 3 [(0, .ref (ga g 148))] := hl
  obtain ⟨⟨hx, hb, hml, hown, hts⟩, -, -⟩ := id X
  unfold m_X6_readLaw at hm
  refine lv_iconst (v := 0) hx hb dX6_readLaw_0 (by decide) ?_
  refine lv_istore_n (lv' := [(1, .int 0), (0, .ref (ga g 148))]) hx hb dX6_readLaw_1 rfl hl (by decide) rfl (fun ls hl => ?_)
  obtain ⟨x_37, hL_38, hm⟩ := bind_elim hm
  refine wl_X6_readLaw_2 X hAll ?_ ?_ ?_ ?_ ?_ ?_ hL_38 _ _ _ hP hS (lv_sub hl [1, 0] rfl)
  · intro M_39 e_x_37 H locs ls hP hS hl
    subst e_x_37
    replace hm := unS_l hm
    replace hm := un1_e hm
    refine lv_aload_n hx hb dX6_readLaw_16 rfl (lv_at hl 0 rfl) ?_
    refine lv_iconst (v := 3) hx hb dX6_readLaw_17 (by decide) ?_
    obtain ⟨⟨r_41, M_42⟩, hc_40, hm⟩ := bind_elim hm
    replace hm := un2_e hm
    refine x_calli (x_runV (As := [.int 3]) (rest := []) X hP hS (c_X6_errs l X.2.2 hAll hc_40) (cwV 1 hts gX6_readLaw_X6_errs rfl rfl rfl (by decide +kernel) ⟨Nat.le_of_ble_eq_true rfl, Nat.le_of_ble_eq_true rfl⟩) (x_recv (C := RX6) (T := TX6) (N := 55) X hP (okc_148 hAll) rfl) rfl hl.1 rfl (Nat.le_of_ble_eq_true rfl) dX6_readLaw_18 ⟨Nat.zero_le _, Nat.zero_le _⟩) hS (fun H locs hP hS => ?_)
    cases hm
    exact x_iret X hP hS hr hlocks dX6_readLaw_21
  · intro M_43 e_x_37 H locs ls hP hS hl
    subst e_x_37
    replace hm := unS_r hm
    replace hm := unS_l hm
    replace hm := un1_e hm
    refine lv_aload_n hx hb dX6_readLaw_39 rfl (lv_at hl 0 rfl) ?_
    refine lv_iconst (v := 1) hx hb dX6_readLaw_40 (by decide) ?_
    obtain ⟨⟨r_45, M_46⟩, hc_44, hm⟩ := bind_elim hm
    replace hm := un2_e hm
    refine x_calli (x_runV (As := [.int 1]) (rest := []) X hP hS (c_X6_errs l X.2.2 hAll hc_44) (cwV 1 hts gX6_readLaw_X6_errs rfl rfl rfl (by decide +kernel) ⟨Nat.le_of_ble_eq_true rfl, Nat.le_of_ble_eq_true rfl⟩) (x_recv (C := RX6) (T := TX6) (N := 55) X hP (okc_148 hAll) rfl) rfl hl.1 rfl (Nat.le_of_ble_eq_true rfl) dX6_readLaw_41 ⟨Nat.zero_le _, Nat.zero_le _⟩) hS (fun H locs hP hS => ?_)
    cases hm
    exact x_iret X hP hS hr hlocks dX6_readLaw_44
  · intro M_47 e_x_37 H locs ls hP hS hl
    subst e_x_37
    replace hm := unS_r hm
    replace hm := unS_r hm
    replace hm := unS_l hm
    replace hm := un1_e hm
    refine lv_aload_n hx hb dX6_readLaw_53 rfl (lv_at hl 0 rfl) ?_
    refine lv_iconst (v := 2) hx hb dX6_readLaw_54 (by decide) ?_
    obtain ⟨⟨r_49, M_50⟩, hc_48, hm⟩ := bind_elim hm
    replace hm := un2_e hm
    refine x_calli (x_runV (As := [.int 2]) (rest := []) X hP hS (c_X6_errs l X.2.2 hAll hc_48) (cwV 1 hts gX6_readLaw_X6_errs rfl rfl rfl (by decide +kernel) ⟨Nat.le_of_ble_eq_true rfl, Nat.le_of_ble_eq_true rfl⟩) (x_recv (C := RX6) (T := TX6) (N := 55) X hP (okc_148 hAll) rfl) rfl hl.1 rfl (Nat.le_of_ble_eq_true rfl) dX6_readLaw_55 ⟨Nat.zero_le _, Nat.zero_le _⟩) hS (fun H locs hP hS => ?_)
    cases hm
    exact x_iret X hP hS hr hlocks dX6_readLaw_58
  · intro M_51 e_x_37 H locs ls hP hS hl
    subst e_x_37
    replace hm := unS_r hm
    replace hm := unS_r hm
    replace hm := unS_r hm
    replace hm := unS_l hm
    replace hm := un1_e hm
    refine lv_iconst (v := (-1)) hx hb dX6_readLaw_103 (by decide) ?_
    cases hm
    exact x_iret X hP hS hr hlocks dX6_readLaw_104
  · intro M_52 e_x_37 H locs ls hP hS hl
    subst e_x_37
    replace hm := unS_r hm
    replace hm := unS_r hm
    replace hm := unS_r hm
    replace hm := unS_r hm
    replace hm := unS_l hm
    replace hm := un1_e hm
    refine lv_aload_n hx hb dX6_readLaw_124 rfl (lv_at hl 0 rfl) ?_
    refine lv_iconst (v := 1) hx hb dX6_readLaw_125 (by decide) ?_
    obtain ⟨⟨r_54, M_55⟩, hc_53, hm⟩ := bind_elim hm
    replace hm := un2_e hm
    refine x_calli (x_runV (As := [.int 1]) (rest := []) X hP hS (c_X6_errs l X.2.2 hAll hc_53) (cwV 1 hts gX6_readLaw_X6_errs rfl rfl rfl (by decide +kernel) ⟨Nat.le_of_ble_eq_true rfl, Nat.le_of_ble_eq_true rfl⟩) (x_recv (C := RX6) (T := TX6) (N := 55) X hP (okc_148 hAll) rfl) rfl hl.1 rfl (Nat.le_of_ble_eq_true rfl) dX6_readLaw_126 ⟨Nat.zero_le _, Nat.zero_le _⟩) hS (fun H locs hP hS => ?_)
    cases hm
    exact x_iret X hP hS hr hlocks dX6_readLaw_129
  · intro v_56 M_57 e_x_37 H locs ls hP hS hl
    subst e_x_37
    replace hm := unS_r hm
    replace hm := unS_r hm
    replace hm := unS_r hm
    replace hm := unS_r hm
    replace hm := unS_r hm
    replace hm := un2_e hm
    refine lv_aload_n hx hb dX6_readLaw_141 rfl (lv_at hl 0 rfl) ?_
    refine xg_X6_23 X hP hAll uX6_readLaw_X6 mbX6_readLaw_1 dX6_readLaw_142 ?_
    refine lv_if_ne (tgt := 152) hx hb dX6_readLaw_145 (by decide) (fun h_58 => ?_) (fun h_58 => ?_)
    · rw [if_neg h_58] at hm
      refine lv_aload_n hx hb dX6_readLaw_152 rfl (lv_at hl 0 rfl) ?_
      refine lv_iconst (v := 1) hx hb dX6_readLaw_153 (by decide) ?_
      obtain ⟨⟨r_60, M_61⟩, hc_59, hm⟩ := bind_elim hm
      replace hm := un2_e hm
      refine x_calli (x_runV (As := [.int 1]) (rest := []) X hP hS (c_X6_errs l X.2.2 hAll hc_59) (cwV 1 hts gX6_readLaw_X6_errs rfl rfl rfl (by decide +kernel) ⟨Nat.le_of_ble_eq_true rfl, Nat.le_of_ble_eq_true rfl⟩) (x_recv (C := RX6) (T := TX6) (N := 55) X hP (okc_148 hAll) rfl) rfl hl.1 rfl (Nat.le_of_ble_eq_true rfl) dX6_readLaw_154 ⟨Nat.zero_le _, Nat.zero_le _⟩) hS (fun H locs hP hS => ?_)
      cases hm
      exact x_iret X hP hS hr hlocks dX6_readLaw_157
    · rw [if_pos h_58] at hm
      refine lv_iload_n hx hb dX6_readLaw_148 rfl (lv_at hl 1 rfl) ?_
      refine lv_goto (tgt := 157) hx hb dX6_readLaw_149 (by decide) ?_
      cases hm
      exact x_iret X hP hS hr hlocks dX6_readLaw_157


/-! X6_text -/
def rmX6_text : Room := { frames := 9, cells := 0, slots := 0, locals := 194 }
theorem uX6_text_X6 : ∀ w ∈ wsX60, w ∈ wsX6_text := by decide +kernel
theorem mbX6_text_1 : Cond.fieldLink RX6 121 "FootANightModel" "told" "I" ∈ wsX6_text := by decide +kernel
theorem mbX6_text_2 : Cond.fieldLink RX6 232 "FootANightModel" "faultKind" "I" ∈ wsX6_text := by decide +kernel
theorem mbX6_text_3 : Cond.fieldLink RX6 83 "FootANightModel" "faultPlace" "I" ∈ wsX6_text := by decide +kernel
theorem mbX6_text_4 : Cond.fieldLink RX6 152 "FootANightModel" "spot" "I" ∈ wsX6_text := by decide +kernel
theorem mbX6_text_5 : Cond.fieldLink RX6 185 "FootANightModel" "many" "I" ∈ wsX6_text := by decide +kernel
theorem mbX6_text_6 : Cond.fieldLink RX6 214 "FootANightModel" "open" "I" ∈ wsX6_text := by decide +kernel
theorem mbX6_text_7 : Cond.fieldLink RX6 145 "FootANightModel" "taped" "I" ∈ wsX6_text := by decide +kernel
theorem mbX6_text_8 : Cond.fieldLink RX6 65 "FootANightModel" "lineDoing" "[I" ∈ wsX6_text := by decide +kernel
theorem mbX6_text_9 : Cond.fieldLink RX6 68 "FootANightModel" "lineFrom" "[I" ∈ wsX6_text := by decide +kernel
theorem mbX6_text_10 : Cond.fieldLink RX6 71 "FootANightModel" "lineTo" "[I" ∈ wsX6_text := by decide +kernel
theorem mbX6_text_11 : Cond.fieldLink RX6 74 "FootANightModel" "op" "[I" ∈ wsX6_text := by decide +kernel
theorem mbX6_text_12 : Cond.fieldLink RX6 77 "FootANightModel" "arg" "[I" ∈ wsX6_text := by decide +kernel
theorem mbX6_text_13 : Cond.fieldLink RX6 62 "FootANightModel" "lineMany" "[I" ∈ wsX6_text := by decide +kernel
theorem mbX6_text_14 : Cond.fieldLink RX6 179 "FootANightModel" "readFault" "I" ∈ wsX6_text := by decide +kernel
theorem mbX6_text_15 : Cond.fieldLink RX6 182 "FootANightModel" "readPlace" "I" ∈ wsX6_text := by decide +kernel
set_option maxHeartbeats 4000000 in
set_option maxRecDepth 100000 in
theorem wl_X6_text_95 (X : CxG g p s m args c cX6_text 5 RX6 wsX6_text) (hAll : okAll g) {fu : Nat} {s1 : Int32} {s3 : Int32} {x : Mem} (kx0 : ∀ (M2 : Mem) , x = M2 → ∀ (H : Heap) (locs : List Loc) (ls : Array Slot), va_P (gD g) vwCl (wlG g M2) H → va_S (AbG g) s.heap H locs → lv_has ls 5 [(0, .ref (ga g 148)), (1, .int s1), (3, .int s3)] → W p l e (headSpec wsX6_text rmX6_text).room s m args below meth c H locs 0 0 Q (F0 m 173 ls [])) {n : Nat} {q0 : Int32 × Mem} (h : lp (b_X6_text_95 fu s1 s3) n q0 = some x) : ∀ (H : Heap) (locs : List Loc) (ls : Array Slot), va_P (gD g) vwCl (wlG g q0.2) H → va_S (AbG g) s.heap H locs → lv_has ls 5 [(0, .ref (ga g 148)), (1, .int s1), (3, .int s3), (4, .int q0.1)] → W p l e (headSpec wsX6_text rmX6_text).room s m args below meth c H locs 0 0 Q (F0 m 95 ls []) := by
  refine lp_elim (P := fun q0 : Int32 × Mem => ∀ (H : Heap) (locs : List Loc) (ls : Array Slot), va_P (gD g) vwCl (wlG g q0.2) H → va_S (AbG g) s.heap H locs → lv_has ls 5 [(0, .ref (ga g 148)), (1, .int s1), (3, .int s3), (4, .int q0.1)] → W p l e (headSpec wsX6_text rmX6_text).room s m args below meth c H locs 0 0 Q (F0 m 95 ls [])) (fun q1 o hm hI hX => ?_) n q0 h
  obtain ⟨c4, M⟩ := q1
  have kb : ∀ (d4 : Int32) (M2 : Mem) , o = .inl (d4, M2) → ∀ (H : Heap) (locs : List Loc) (ls : Array Slot), va_P (gD g) vwCl (wlG g M2) H → va_S (AbG g) s.heap H locs → lv_has ls 5 [(0, .ref (ga g 148)), (1, .int s1), (3, .int s3), (4, .int d4)] → W p l e (headSpec wsX6_text rmX6_text).room s m args below meth c H locs 0 0 Q (F0 m 95 ls []) := fun d4 M2 e => hI _ e
  have kx0 : ∀ (M2 : Mem) , o = .inr M2 → ∀ (H : Heap) (locs : List Loc) (ls : Array Slot), va_P (gD g) vwCl (wlG g M2) H → va_S (AbG g) s.heap H locs → lv_has ls 5 [(0, .ref (ga g 148)), (1, .int s1), (3, .int s3)] → W p l e (headSpec wsX6_text rmX6_text).room s m args below meth c H locs 0 0 Q (F0 m 173 ls []) := fun M2 e => kx0 M2 (hX _ e).symm
  clear hI hX
  intro H locs ls hP hS hl
  obtain ⟨⟨hx, hb, hml, hown, hts⟩, -, -⟩ := id X
  have hl : lv_has ls 5 [(0, .ref (ga g 148)), (1, .int s1), (3, .int s3), (4, .int c4)] := hl
  have hP : va_P (gD g) vwCl (wlG g M) H := hP
  unfold b_X6_text_95 at hm
  replace hm := un2_e hm
  refine lv_iload hx hb dX6_text_95 (lv_at hl 3 rfl) ?_
  refine lv_iload_n hx hb dX6_text_97 rfl (lv_at hl 2 rfl) ?_
  refine lv_icmp_ge (tgt := 173) hx hb dX6_text_98 (by decide) (fun h_22 => ?_) (fun h_22 => ?_)
  · rw [if_pos h_22] at hm
    exact kx0 M (Option.some.inj hm).symm _ _ _ hP hS (lv_sub hl [0, 1, 2] rfl)
  · rw [if_neg h_22] at hm
    refine lv_aload_n hx hb dX6_text_101 rfl (lv_at hl 0 rfl) ?_
    refine xg_X6_27 X hP hAll uX6_text_X6 mbX6_text_8 dX6_text_102 ?_
    refine lv_bipush (v := 16) hx hb dX6_text_105 (by decide) ?_
    refine lv_iload_n hx hb dX6_text_107 rfl (lv_at hl 1 rfl) ?_
    refine lv_imul hx hb dX6_text_108 ?_
    refine lv_iload hx hb dX6_text_109 (lv_at hl 3 rfl) ?_
    refine lv_iadd hx hb dX6_text_111 ?_
    refine lv_aload_n hx hb dX6_text_112 rfl (lv_at hl 0 rfl) ?_
    refine xg_X6_27 X hP hAll uX6_text_X6 mbX6_text_8 dX6_text_113 ?_
    refine lv_bipush (v := 64) hx hb dX6_text_116 (by decide) ?_
    refine lv_iload hx hb dX6_text_118 (lv_at hl 3 rfl) ?_
    refine lv_iadd hx hb dX6_text_120 ?_
    obtain ⟨hb_23, hm⟩ := chk_elim hm
    refine x_iald X hP (okc_166 hAll) hb_23 dX6_text_121 ?_
    obtain ⟨hb_24, hm⟩ := chk_elim hm
    obtain ⟨M_25, hM_26, hm⟩ := bnd_elim hm
    refine x_iast X hP hS (okc_166 hAll) hM_26 hb_24 dX6_text_122 (fun H locs hP hS => ?_)
    refine lv_aload_n hx hb dX6_text_123 rfl (lv_at hl 0 rfl) ?_
    refine xg_X6_28 X hP hAll uX6_text_X6 mbX6_text_9 dX6_text_124 ?_
    refine lv_bipush (v := 16) hx hb dX6_text_127 (by decide) ?_
    refine lv_iload_n hx hb dX6_text_129 rfl (lv_at hl 1 rfl) ?_
    refine lv_imul hx hb dX6_text_130 ?_
    refine lv_iload hx hb dX6_text_131 (lv_at hl 3 rfl) ?_
    refine lv_iadd hx hb dX6_text_133 ?_
    refine lv_aload_n hx hb dX6_text_134 rfl (lv_at hl 0 rfl) ?_
    refine xg_X6_28 X hP hAll uX6_text_X6 mbX6_text_9 dX6_text_135 ?_
    refine lv_bipush (v := 64) hx hb dX6_text_138 (by decide) ?_
    refine lv_iload hx hb dX6_text_140 (lv_at hl 3 rfl) ?_
    refine lv_iadd hx hb dX6_text_142 ?_
    refine x_iald X hP (okc_167 hAll) hb_23 dX6_text_143 ?_
    obtain ⟨M_27, hM_28, hm⟩ := bnd_elim hm
    refine x_iast X hP hS (okc_167 hAll) hM_28 hb_24 dX6_text_144 (fun H locs hP hS => ?_)
    refine lv_aload_n hx hb dX6_text_145 rfl (lv_at hl 0 rfl) ?_
    refine xg_X6_29 X hP hAll uX6_text_X6 mbX6_text_10 dX6_text_146 ?_
    refine lv_bipush (v := 16) hx hb dX6_text_149 (by decide) ?_
    refine lv_iload_n hx hb dX6_text_151 rfl (lv_at hl 1 rfl) ?_
    refine lv_imul hx hb dX6_text_152 ?_
    refine lv_iload hx hb dX6_text_153 (lv_at hl 3 rfl) ?_
    refine lv_iadd hx hb dX6_text_155 ?_
    refine lv_aload_n hx hb dX6_text_156 rfl (lv_at hl 0 rfl) ?_
    refine xg_X6_29 X hP hAll uX6_text_X6 mbX6_text_10 dX6_text_157 ?_
    refine lv_bipush (v := 64) hx hb dX6_text_160 (by decide) ?_
    refine lv_iload hx hb dX6_text_162 (lv_at hl 3 rfl) ?_
    refine lv_iadd hx hb dX6_text_164 ?_
    refine x_iald X hP (okc_168 hAll) hb_23 dX6_text_165 ?_
    obtain ⟨M_29, hM_30, hm⟩ := bnd_elim hm
    refine x_iast X hP hS (okc_168 hAll) hM_30 hb_24 dX6_text_166 (fun H locs hP hS => ?_)
    obtain ⟨v_31, hv_32, hm⟩ := bnd_elim hm
    refine lv_iinc (v := v_31) (lv' := [(4, .int v_31), (0, .ref (ga g 148)), (1, .int s1), (3, .int s3)]) hx hb dX6_text_167 hl (k := 3) rfl (by rw [hv_32]; rfl) (by decide) rfl (fun ls hl => ?_)
    refine lv_goto (tgt := 95) hx hb dX6_text_170 (by decide) ?_
    exact kb v_31 M_29 (Option.some.inj hm).symm _ _ _ hP hS (lv_sub hl [1, 2, 3, 0] rfl)

set_option maxHeartbeats 4000000 in
set_option maxRecDepth 100000 in
theorem wl_X6_text_176 (X : CxG g p s m args c cX6_text 5 RX6 wsX6_text) (hAll : okAll g) {fu : Nat} {s1 : Int32} {s3 : Int32} {x : Mem} (kx0 : ∀ (M2 : Mem) , x = M2 → ∀ (H : Heap) (locs : List Loc) (ls : Array Slot), va_P (gD g) vwCl (wlG g M2) H → va_S (AbG g) s.heap H locs → lv_has ls 5 [(0, .ref (ga g 148)), (1, .int s1), (3, .int s3)] → W p l e (headSpec wsX6_text rmX6_text).room s m args below meth c H locs 0 0 Q (F0 m 239 ls [])) {n : Nat} {q0 : Int32 × Mem} (h : lp (b_X6_text_176 fu s1 s3) n q0 = some x) : ∀ (H : Heap) (locs : List Loc) (ls : Array Slot), va_P (gD g) vwCl (wlG g q0.2) H → va_S (AbG g) s.heap H locs → lv_has ls 5 [(0, .ref (ga g 148)), (1, .int s1), (3, .int s3), (4, .int q0.1)] → W p l e (headSpec wsX6_text rmX6_text).room s m args below meth c H locs 0 0 Q (F0 m 176 ls []) := by
  refine lp_elim (P := fun q0 : Int32 × Mem => ∀ (H : Heap) (locs : List Loc) (ls : Array Slot), va_P (gD g) vwCl (wlG g q0.2) H → va_S (AbG g) s.heap H locs → lv_has ls 5 [(0, .ref (ga g 148)), (1, .int s1), (3, .int s3), (4, .int q0.1)] → W p l e (headSpec wsX6_text rmX6_text).room s m args below meth c H locs 0 0 Q (F0 m 176 ls [])) (fun q1 o hm hI hX => ?_) n q0 h
  obtain ⟨c4, M⟩ := q1
  have kb : ∀ (d4 : Int32) (M2 : Mem) , o = .inl (d4, M2) → ∀ (H : Heap) (locs : List Loc) (ls : Array Slot), va_P (gD g) vwCl (wlG g M2) H → va_S (AbG g) s.heap H locs → lv_has ls 5 [(0, .ref (ga g 148)), (1, .int s1), (3, .int s3), (4, .int d4)] → W p l e (headSpec wsX6_text rmX6_text).room s m args below meth c H locs 0 0 Q (F0 m 176 ls []) := fun d4 M2 e => hI _ e
  have kx0 : ∀ (M2 : Mem) , o = .inr M2 → ∀ (H : Heap) (locs : List Loc) (ls : Array Slot), va_P (gD g) vwCl (wlG g M2) H → va_S (AbG g) s.heap H locs → lv_has ls 5 [(0, .ref (ga g 148)), (1, .int s1), (3, .int s3)] → W p l e (headSpec wsX6_text rmX6_text).room s m args below meth c H locs 0 0 Q (F0 m 239 ls []) := fun M2 e => kx0 M2 (hX _ e).symm
  clear hI hX
  intro H locs ls hP hS hl
  obtain ⟨⟨hx, hb, hml, hown, hts⟩, -, -⟩ := id X
  have hl : lv_has ls 5 [(0, .ref (ga g 148)), (1, .int s1), (3, .int s3), (4, .int c4)] := hl
  have hP : va_P (gD g) vwCl (wlG g M) H := hP
  unfold b_X6_text_176 at hm
  replace hm := un2_e hm
  refine lv_iload hx hb dX6_text_176 (lv_at hl 3 rfl) ?_
  refine lv_aload_n hx hb dX6_text_178 rfl (lv_at hl 0 rfl) ?_
  refine xg_X6_32 X hP hAll uX6_text_X6 mbX6_text_5 dX6_text_179 ?_
  refine lv_icmp_ge (tgt := 239) hx hb dX6_text_182 (by decide) (fun h_36 => ?_) (fun h_36 => ?_)
  · rw [if_pos h_36] at hm
    exact kx0 M (Option.some.inj hm).symm _ _ _ hP hS (lv_sub hl [0, 1, 2] rfl)
  · rw [if_neg h_36] at hm
    refine lv_aload_n hx hb dX6_text_185 rfl (lv_at hl 0 rfl) ?_
    refine xg_X6_30 X hP hAll uX6_text_X6 mbX6_text_11 dX6_text_186 ?_
    refine lv_sipush (v := 400) hx hb dX6_text_189 (by decide) ?_
    refine lv_iload_n hx hb dX6_text_192 rfl (lv_at hl 1 rfl) ?_
    refine lv_imul hx hb dX6_text_193 ?_
    refine lv_iload hx hb dX6_text_194 (lv_at hl 3 rfl) ?_
    refine lv_iadd hx hb dX6_text_196 ?_
    refine lv_aload_n hx hb dX6_text_197 rfl (lv_at hl 0 rfl) ?_
    refine xg_X6_30 X hP hAll uX6_text_X6 mbX6_text_11 dX6_text_198 ?_
    refine lv_sipush (v := 1600) hx hb dX6_text_201 (by decide) ?_
    refine lv_iload hx hb dX6_text_204 (lv_at hl 3 rfl) ?_
    refine lv_iadd hx hb dX6_text_206 ?_
    obtain ⟨hb_37, hm⟩ := chk_elim hm
    refine x_iald X hP (okc_169 hAll) hb_37 dX6_text_207 ?_
    obtain ⟨hb_38, hm⟩ := chk_elim hm
    obtain ⟨M_39, hM_40, hm⟩ := bnd_elim hm
    refine x_iast X hP hS (okc_169 hAll) hM_40 hb_38 dX6_text_208 (fun H locs hP hS => ?_)
    refine lv_aload_n hx hb dX6_text_209 rfl (lv_at hl 0 rfl) ?_
    refine xg_X6_31 X hP hAll uX6_text_X6 mbX6_text_12 dX6_text_210 ?_
    refine lv_sipush (v := 400) hx hb dX6_text_213 (by decide) ?_
    refine lv_iload_n hx hb dX6_text_216 rfl (lv_at hl 1 rfl) ?_
    refine lv_imul hx hb dX6_text_217 ?_
    refine lv_iload hx hb dX6_text_218 (lv_at hl 3 rfl) ?_
    refine lv_iadd hx hb dX6_text_220 ?_
    refine lv_aload_n hx hb dX6_text_221 rfl (lv_at hl 0 rfl) ?_
    refine xg_X6_31 X hP hAll uX6_text_X6 mbX6_text_12 dX6_text_222 ?_
    refine lv_sipush (v := 1600) hx hb dX6_text_225 (by decide) ?_
    refine lv_iload hx hb dX6_text_228 (lv_at hl 3 rfl) ?_
    refine lv_iadd hx hb dX6_text_230 ?_
    refine x_iald X hP (okc_170 hAll) hb_37 dX6_text_231 ?_
    obtain ⟨M_41, hM_42, hm⟩ := bnd_elim hm
    refine x_iast X hP hS (okc_170 hAll) hM_42 hb_38 dX6_text_232 (fun H locs hP hS => ?_)
    obtain ⟨v_43, hv_44, hm⟩ := bnd_elim hm
    refine lv_iinc (v := v_43) (lv' := [(4, .int v_43), (0, .ref (ga g 148)), (1, .int s1), (3, .int s3)]) hx hb dX6_text_233 hl (k := 3) rfl (by rw [hv_44]; rfl) (by decide) rfl (fun ls hl => ?_)
    refine lv_goto (tgt := 176) hx hb dX6_text_236 (by decide) ?_
    exact kb v_43 M_41 (Option.some.inj hm).symm _ _ _ hP hS (lv_sub hl [1, 2, 3, 0] rfl)

set_option maxHeartbeats 4000000 in
set_option maxRecDepth 100000 in
theorem wj_X6_text_85 (X : CxG g p s m args c cX6_text 5 RX6 wsX6_text) (hAll : okAll g) {fu : Nat} {M : Mem} {s1 : Int32} {s3 : Int32} {rr : Int32} {MM : Mem} (hr : meth.sig.returnType = (some .int)) (hlocks : meth.locks = false) (hm : j_X6_text_85 fu M s1 s3 = some (rr, MM)) {H : Heap} {locs : List Loc} {ls : Array Slot} (hP : va_P (gD g) vwCl (wlG g M) H) (hS : va_S (AbG g) s.heap H locs) (hl : lv_has ls 5 [(0, .ref (ga g 148)), (1, .int s1), (3, .int s3)]) : W p l e (headSpec wsX6_text rmX6_text).room s m args below meth c H locs 0 0 (MQ below (va_Qi (fun (q : Int32) (_ : Unit) => q = rr) (fun _ t => va_P (gD g) vwCl (wlG g MM) t.heap) (AbG g)) args s 0 0 (AbG g)) (F0 m 85 ls []) := by
  obtain ⟨⟨hx, hb, hml, hown, hts⟩, -, -⟩ := id X
  unfold j_X6_text_85 at hm
  refine lv_iload_n hx hb dX6_text_85 rfl (lv_at hl 2 rfl) ?_
  refine lv_iconst (v := (-1)) hx hb dX6_text_86 (by decide) ?_
  refine lv_icmp_ne (tgt := 92) hx hb dX6_text_87 (by decide) (fun h_21 => ?_) (fun h_21 => ?_)
  · rw [if_neg h_21] at hm
    refine lv_iconst (v := 0) hx hb dX6_text_92 (by decide) ?_
    refine lv_istore (lv' := [(4, .int 0), (0, .ref (ga g 148)), (1, .int s1), (3, .int s3)]) hx hb dX6_text_93 hl (by decide) rfl (fun ls hl => ?_)
    obtain ⟨M_35, hL_34, hm⟩ := bind_elim hm
    refine wl_X6_text_95 X hAll ?_ hL_34 _ _ _ hP hS (lv_sub hl [1, 2, 3, 0] rfl)
    · intro z_M_35 e_M_35 H locs ls hP hS hl
      subst e_M_35
      replace hm := un1_e hm
      refine lv_iconst (v := 0) hx hb dX6_text_173 (by decide) ?_
      refine lv_istore (lv' := [(4, .int 0), (0, .ref (ga g 148)), (1, .int s1), (3, .int s3)]) hx hb dX6_text_174 hl (by decide) rfl (fun ls hl => ?_)
      obtain ⟨M_47, hL_46, hm⟩ := bind_elim hm
      refine wl_X6_text_176 X hAll ?_ hL_46 _ _ _ hP hS (lv_sub hl [1, 2, 3, 0] rfl)
      · intro z_M_47 e_M_47 H locs ls hP hS hl
        subst e_M_47
        replace hm := un1_e hm
        refine lv_aload_n hx hb dX6_text_239 rfl (lv_at hl 0 rfl) ?_
        refine xg_X6_26 X hP hAll uX6_text_X6 mbX6_text_13 dX6_text_240 ?_
        refine lv_iload_n hx hb dX6_text_243 rfl (lv_at hl 1 rfl) ?_
        refine lv_iload_n hx hb dX6_text_244 rfl (lv_at hl 2 rfl) ?_
        obtain ⟨hb_48, hm⟩ := chk_elim hm
        obtain ⟨M_49, hM_50, hm⟩ := bnd_elim hm
        refine x_iast X hP hS (okc_165 hAll) hM_50 hb_48 dX6_text_245 (fun H locs hP hS => ?_)
        refine lv_iload_n hx hb dX6_text_246 rfl (lv_at hl 2 rfl) ?_
        cases hm
        exact x_iret X hP hS hr hlocks dX6_text_247
  · rw [if_pos h_21] at hm
    refine lv_iconst (v := (-1)) hx hb dX6_text_90 (by decide) ?_
    cases hm
    exact x_iret X hP hS hr hlocks dX6_text_91

set_option maxHeartbeats 4000000 in
set_option maxRecDepth 100000 in
theorem wj_X6_text_54 (X : CxG g p s m args c cX6_text 5 RX6 wsX6_text) (hAll : okAll g) {fu : Nat} {M : Mem} {s1 : Int32} {s2 : Int32} {t0 : Int32} {rr : Int32} {MM : Mem} (hr : meth.sig.returnType = (some .int)) (hlocks : meth.locks = false) (hm : j_X6_text_54 fu M s1 s2 t0 = some (rr, MM)) {H : Heap} {locs : List Loc} {ls : Array Slot} (hP : va_P (gD g) vwCl (wlG g M) H) (hS : va_S (AbG g) s.heap H locs) (hl : lv_has ls 5 [(0, .ref (ga g 148)), (1, .int s1), (2, .int s2)]) : W p l e (headSpec wsX6_text rmX6_text).room s m args below meth c H locs 0 0 (MQ below (va_Qi (fun (q : Int32) (_ : Unit) => q = rr) (fun _ t => va_P (gD g) vwCl (wlG g MM) t.heap) (AbG g)) args s 0 0 (AbG g)) (F0 m 54 ls [.int t0]) := by
  obtain ⟨⟨hx, hb, hml, hown, hts⟩, -, -⟩ := id X
  unfold j_X6_text_54 at hm
  refine lv_istore_n (lv' := [(3, .int t0), (0, .ref (ga g 148)), (1, .int s1), (2, .int s2)]) hx hb dX6_text_54 rfl hl (by decide) rfl (fun ls hl => ?_)
  refine lv_aload_n hx hb dX6_text_55 rfl (lv_at hl 1 rfl) ?_
  refine lv_iconst (v := 0) hx hb dX6_text_56 (by decide) ?_
  obtain ⟨M_18, hM_19, hm⟩ := bnd_elim hm
  refine xp_X6_20 X hP hAll uX6_text_X6 mbX6_text_7 hS hM_19 dX6_text_57 (fun H locs hP hS => ?_)
  refine lv_iload_n hx hb dX6_text_60 rfl (lv_at hl 3 rfl) ?_
  refine lv_if_eq (tgt := 85) hx hb dX6_text_61 (by decide) (fun h_20 => ?_) (fun h_20 => ?_)
  · rw [if_pos h_20] at hm
    exact wj_X6_text_85 X hAll hr hlocks hm hP hS (lv_sub hl [1, 2, 0] rfl)
  · rw [if_neg h_20] at hm
    refine lv_iload_n hx hb dX6_text_64 rfl (lv_at hl 0 rfl) ?_
    refine lv_iconst (v := (-1)) hx hb dX6_text_65 (by decide) ?_
    refine lv_icmp_ne (tgt := 85) hx hb dX6_text_66 (by decide) (fun h_51 => ?_) (fun h_51 => ?_)
    · rw [if_neg h_51] at hm
      exact wj_X6_text_85 X hAll hr hlocks hm hP hS (lv_sub hl [1, 2, 0] rfl)
    · rw [if_pos h_51] at hm
      refine lv_aload_n hx hb dX6_text_69 rfl (lv_at hl 1 rfl) ?_
      refine lv_aload_n hx hb dX6_text_70 rfl (lv_at hl 1 rfl) ?_
      refine xg_X6_36 X hP hAll uX6_text_X6 mbX6_text_14 dX6_text_71 ?_
      obtain ⟨M_52, hM_53, hm⟩ := bnd_elim hm
      refine xp_X6_38 X hP hAll uX6_text_X6 mbX6_text_2 hS hM_53 dX6_text_74 (fun H locs hP hS => ?_)
      refine lv_aload_n hx hb dX6_text_77 rfl (lv_at hl 1 rfl) ?_
      refine lv_aload_n hx hb dX6_text_78 rfl (lv_at hl 1 rfl) ?_
      refine xg_X6_37 X hP hAll uX6_text_X6 mbX6_text_15 dX6_text_79 ?_
      obtain ⟨M_54, hM_55, hm⟩ := bnd_elim hm
      refine xp_X6_39 X hP hAll uX6_text_X6 mbX6_text_3 hS hM_55 dX6_text_82 (fun H locs hP hS => ?_)
      exact wj_X6_text_85 X hAll hr hlocks hm hP hS (lv_sub hl [1, 2, 0] rfl)

set_option maxHeartbeats 4000000 in
set_option maxRecDepth 100000 in
theorem c_X6_text (l : Launch) {g : GT} (hA : AxG g) (hAll : okAll g)   {fu : Nat} {M : Mem} {a1 : Int32} {rr : Int32} {MM : Mem} (hm : m_X6_text fu M a1 = some (rr, MM)) : CI l yX6_text wsX6_text rmX6_text g [.ref (ga g 148), .int a1] M rr MM := by
  refine Met.ofW (cc := cX6_text) (maxL := 5) (ret := (some .int)) (by decide) rfl ?_
  intro p e s m args below meth c s₁ B hml hv
  obtain ⟨rfl, hSx, hP⟩ := hv
  have hr := B.returns
  have hlocks := B.notSynchronized
  have X : CxG g p s m _ c cX6_text 5 RX6 wsX6_text := ⟨⟨B.exec, B.bytes, hml, findClass_of_methodNamed B.named, atoms_spec (ws := wsX6_text) B.pre⟩, hSx, hA⟩
  have hS : va_S (AbG g) s.heap s.heap [] := va_S.rf
  have hl := lv_entry (([.ref (ga g 148), .int a1] : List Value)) (n := 5) (Nat.le_of_ble_eq_true rfl)
  rw [lg_entry_eq]
  generalize (lg_sl (([.ref (ga g 148), .int a1] : List Value)) ++ List.replicate (5 - (lg_sl (([.ref (ga g 148), .int a1] : List Value))).length) Slot.unset).toArray = ls at hl ⊢
  have hl : lv_has ls 5 [(0, .ref (ga g 148)), (1, .int a1)] := hl
  obtain ⟨⟨hx, hb, hml, hown, hts⟩, -, -⟩ := id X
  unfold m_X6_text at hm
  refine lv_aload_n hx hb dX6_text_0 rfl (lv_at hl 0 rfl) ?_
  refine lv_iconst (v := 0) hx hb dX6_text_1 (by decide) ?_
  obtain ⟨M_1, hM_2, hm⟩ := bnd_elim hm
  refine xp_X6_0 X hP hAll uX6_text_X6 mbX6_text_1 hS hM_2 dX6_text_2 (fun H locs hP hS => ?_)
  refine lv_aload_n hx hb dX6_text_5 rfl (lv_at hl 0 rfl) ?_
  refine lv_iconst (v := 0) hx hb dX6_text_6 (by decide) ?_
  obtain ⟨M_3, hM_4, hm⟩ := bnd_elim hm
  refine xp_X6_38 X hP hAll uX6_text_X6 mbX6_text_2 hS hM_4 dX6_text_7 (fun H locs hP hS => ?_)
  refine lv_aload_n hx hb dX6_text_10 rfl (lv_at hl 0 rfl) ?_
  refine lv_iconst (v := (-1)) hx hb dX6_text_11 (by decide) ?_
  obtain ⟨M_5, hM_6, hm⟩ := bnd_elim hm
  refine xp_X6_39 X hP hAll uX6_text_X6 mbX6_text_3 hS hM_6 dX6_text_12 (fun H locs hP hS => ?_)
  refine lv_aload_n hx hb dX6_text_15 rfl (lv_at hl 0 rfl) ?_
  refine lv_iload_n hx hb dX6_text_16 rfl (lv_at hl 1 rfl) ?_
  refine lv_iconst (v := 0) hx hb dX6_text_17 (by decide) ?_
  refine lv_iconst (v := 3) hx hb dX6_text_18 (by decide) ?_
  obtain ⟨r_8, hc_7, hm⟩ := bind_elim hm
  refine x_calli (x_runV (As := [.int a1, .int 0, .int 3]) (rest := []) X hP hS (c_X6_isIn l X.2.2 hc_7) (cwV 3 hts gX6_text_X6_isIn rfl rfl rfl (by decide +kernel) ⟨Nat.le_of_ble_eq_true rfl, Nat.le_of_ble_eq_true rfl⟩) (x_recv (C := RX6) (T := TX6) (N := 55) X hP (okc_148 hAll) rfl) rfl hl.1 rfl (Nat.le_of_ble_eq_true rfl) dX6_text_19 ⟨Nat.zero_le _, Nat.zero_le _⟩) hS (fun H locs hP hS => ?_)
  refine lv_istore_n (lv' := [(2, .int r_8), (0, .ref (ga g 148)), (1, .int a1)]) hx hb dX6_text_22 rfl hl (by decide) rfl (fun ls hl => ?_)
  refine lv_aload_n hx hb dX6_text_23 rfl (lv_at hl 1 rfl) ?_
  refine lv_iconst (v := 0) hx hb dX6_text_24 (by decide) ?_
  obtain ⟨M_9, hM_10, hm⟩ := bnd_elim hm
  refine xp_X6_21 X hP hAll uX6_text_X6 mbX6_text_4 hS hM_10 dX6_text_25 (fun H locs hP hS => ?_)
  refine lv_aload_n hx hb dX6_text_28 rfl (lv_at hl 1 rfl) ?_
  refine lv_iconst (v := 0) hx hb dX6_text_29 (by decide) ?_
  obtain ⟨M_11, hM_12, hm⟩ := bnd_elim hm
  refine xp_X6_32 X hP hAll uX6_text_X6 mbX6_text_5 hS hM_12 dX6_text_30 (fun H locs hP hS => ?_)
  refine lv_aload_n hx hb dX6_text_33 rfl (lv_at hl 1 rfl) ?_
  refine lv_iconst (v := 0) hx hb dX6_text_34 (by decide) ?_
  obtain ⟨M_13, hM_14, hm⟩ := bnd_elim hm
  refine xp_X6_33 X hP hAll uX6_text_X6 mbX6_text_6 hS hM_14 dX6_text_35 (fun H locs hP hS => ?_)
  refine lv_aload_n hx hb dX6_text_38 rfl (lv_at hl 1 rfl) ?_
  obtain ⟨M_16, hc_15, hm⟩ := bind_elim hm
  refine x_callv (x_runV (As := []) (rest := []) X hP hS (c_X6_reads l X.2.2 hAll hc_15) (cwV 0 hts gX6_text_X6_reads rfl rfl rfl (by decide +kernel) ⟨Nat.le_of_ble_eq_true rfl, Nat.le_of_ble_eq_true rfl⟩) (x_recv (C := RX6) (T := TX6) (N := 55) X hP (okc_148 hAll) rfl) rfl hl.1 rfl (Nat.le_of_ble_eq_true rfl) dX6_text_39 ⟨Nat.zero_le _, Nat.zero_le _⟩) hS (fun H locs hP hS => ?_)
  refine lv_iload_n hx hb dX6_text_42 rfl (lv_at hl 0 rfl) ?_
  refine lv_if_eq (tgt := 53) hx hb dX6_text_43 (by decide) (fun h_17 => ?_) (fun h_17 => ?_)
  · rw [if_pos h_17] at hm
    refine lv_iconst (v := (-1)) hx hb dX6_text_53 (by decide) ?_
    exact wj_X6_text_54 X hAll hr hlocks hm hP hS (lv_sub hl [1, 2, 0] rfl)
  · rw [if_neg h_17] at hm
    refine lv_aload_n hx hb dX6_text_46 rfl (lv_at hl 1 rfl) ?_
    obtain ⟨⟨r_57, M_58⟩, hc_56, hm⟩ := bind_elim hm
    replace hm := un2_e hm
    refine x_calli (x_runV (As := []) (rest := []) X hP hS (c_X6_readLaw l X.2.2 hAll hc_56) (cwV 0 hts gX6_text_X6_readLaw rfl rfl rfl (by decide +kernel) ⟨Nat.le_of_ble_eq_true rfl, Nat.le_of_ble_eq_true rfl⟩) (x_recv (C := RX6) (T := TX6) (N := 55) X hP (okc_148 hAll) rfl) rfl hl.1 rfl (Nat.le_of_ble_eq_true rfl) dX6_text_47 ⟨Nat.zero_le _, Nat.zero_le _⟩) hS (fun H locs hP hS => ?_)
    refine lv_goto (tgt := 54) hx hb dX6_text_50 (by decide) ?_
    exact wj_X6_text_54 X hAll hr hlocks hm hP hS (lv_sub hl [1, 2, 0] rfl)


/-! X6_fault -/
def rmX6_fault : Room := { frames := 0, cells := 0, slots := 0, locals := 0 }
theorem uX6_fault_X6 : ∀ w ∈ wsX60, w ∈ wsX6_fault := by decide +kernel
theorem mbX6_fault_1 : Cond.fieldLink RX6 121 "FootANightModel" "told" "I" ∈ wsX6_fault := by decide +kernel
theorem mbX6_fault_2 : Cond.fieldLink RX6 83 "FootANightModel" "faultPlace" "I" ∈ wsX6_fault := by decide +kernel
theorem mbX6_fault_3 : Cond.fieldLink RX6 232 "FootANightModel" "faultKind" "I" ∈ wsX6_fault := by decide +kernel
set_option maxHeartbeats 4000000 in
set_option maxRecDepth 100000 in
theorem c_X6_fault (l : Launch) {g : GT} (hA : AxG g) (hAll : okAll g)   {M : Mem} {a1 : Int32} {rr : Int32} {MM : Mem} (hm : m_X6_fault M a1 = some (rr, MM)) : CI l yX6_fault wsX6_fault rmX6_fault g [.ref (ga g 148), .int a1] M rr MM := by
  refine Met.ofW (cc := cX6_fault) (maxL := 2) (ret := (some .int)) (by decide) rfl ?_
  intro p e s m args below meth c s₁ B hml hv
  obtain ⟨rfl, hSx, hP⟩ := hv
  have hr := B.returns
  have hlocks := B.notSynchronized
  have X : CxG g p s m _ c cX6_fault 2 RX6 wsX6_fault := ⟨⟨B.exec, B.bytes, hml, findClass_of_methodNamed B.named, atoms_spec (ws := wsX6_fault) B.pre⟩, hSx, hA⟩
  have hS : va_S (AbG g) s.heap s.heap [] := va_S.rf
  have hl := lv_entry (([.ref (ga g 148), .int a1] : List Value)) (n := 2) (Nat.le_of_ble_eq_true rfl)
  rw [lg_entry_eq]
  generalize (lg_sl (([.ref (ga g 148), .int a1] : List Value)) ++ List.replicate (2 - (lg_sl (([.ref (ga g 148), .int a1] : List Value))).length) Slot.unset).toArray = ls at hl ⊢
  have hl : lv_has ls 2 [(0, .ref (ga g 148)), (1, .int a1)] := hl
  obtain ⟨⟨hx, hb, hml, hown, hts⟩, -, -⟩ := id X
  unfold m_X6_fault at hm
  refine lv_aload_n hx hb dX6_fault_0 rfl (lv_at hl 0 rfl) ?_
  refine lv_iconst (v := 0) hx hb dX6_fault_1 (by decide) ?_
  obtain ⟨M_1, hM_2, hm⟩ := bnd_elim hm
  refine xp_X6_0 X hP hAll uX6_fault_X6 mbX6_fault_1 hS hM_2 dX6_fault_2 (fun H locs hP hS => ?_)
  refine lv_iload_n hx hb dX6_fault_5 rfl (lv_at hl 1 rfl) ?_
  refine lv_if_ne (tgt := 16) hx hb dX6_fault_6 (by decide) (fun h_3 => ?_) (fun h_3 => ?_)
  · rw [if_neg h_3] at hm
    refine lv_iload_n hx hb dX6_fault_16 rfl (lv_at hl 1 rfl) ?_
    refine lv_iconst (v := 1) hx hb dX6_fault_17 (by decide) ?_
    refine lv_icmp_ne (tgt := 28) hx hb dX6_fault_18 (by decide) (fun h_4 => ?_) (fun h_4 => ?_)
    · rw [if_neg h_4] at hm
      refine lv_iconst (v := (-1)) hx hb dX6_fault_28 (by decide) ?_
      cases hm
      exact x_iret X hP hS hr hlocks dX6_fault_29
    · rw [if_pos h_4] at hm
      refine lv_aload_n hx hb dX6_fault_21 rfl (lv_at hl 0 rfl) ?_
      refine xg_X6_39 X hP hAll uX6_fault_X6 mbX6_fault_2 dX6_fault_22 ?_
      refine lv_goto (tgt := 29) hx hb dX6_fault_25 (by decide) ?_
      cases hm
      exact x_iret X hP hS hr hlocks dX6_fault_29
  · rw [if_pos h_3] at hm
    refine lv_aload_n hx hb dX6_fault_9 rfl (lv_at hl 0 rfl) ?_
    refine xg_X6_38 X hP hAll uX6_fault_X6 mbX6_fault_3 dX6_fault_10 ?_
    refine lv_goto (tgt := 29) hx hb dX6_fault_13 (by decide) ?_
    cases hm
    exact x_iret X hP hS hr hlocks dX6_fault_29


/-! X6_twoOf -/
def rmX6_twoOf : Room := { frames := 0, cells := 0, slots := 0, locals := 0 }

set_option maxHeartbeats 4000000 in
set_option maxRecDepth 100000 in
theorem c_X6_twoOf (l : Launch) {g : GT} (hA : AxG g)   {M : Mem} {a1 : Int32} {a2 : Int32} {a3 : Int32} {rr : Int32} (hm : m_X6_twoOf M a1 a2 a3 = some rr) : CI l yX6_twoOf wsX6_twoOf rmX6_twoOf g [.ref (ga g 148), .int a1, .int a2, .int a3] M rr M := by
  refine Met.ofW (cc := cX6_twoOf) (maxL := 4) (ret := (some .int)) (by decide) rfl ?_
  intro p e s m args below meth c s₁ B hml hv
  obtain ⟨rfl, hSx, hP⟩ := hv
  have hr := B.returns
  have hlocks := B.notSynchronized
  have X : CxG g p s m _ c cX6_twoOf 4 RX6 wsX6_twoOf := ⟨⟨B.exec, B.bytes, hml, findClass_of_methodNamed B.named, atoms_spec (ws := wsX6_twoOf) B.pre⟩, hSx, hA⟩
  have hS : va_S (AbG g) s.heap s.heap [] := va_S.rf
  have hl := lv_entry (([.ref (ga g 148), .int a1, .int a2, .int a3] : List Value)) (n := 4) (Nat.le_of_ble_eq_true rfl)
  rw [lg_entry_eq]
  generalize (lg_sl (([.ref (ga g 148), .int a1, .int a2, .int a3] : List Value)) ++ List.replicate (4 - (lg_sl (([.ref (ga g 148), .int a1, .int a2, .int a3] : List Value))).length) Slot.unset).toArray = ls at hl ⊢
  have hl : lv_has ls 4 [(0, .ref (ga g 148)), (1, .int a1), (2, .int a2), (3, .int a3)] := hl
  obtain ⟨⟨hx, hb, hml, hown, hts⟩, -, -⟩ := id X
  unfold m_X6_twoOf at hm
  refine lv_iload_n hx hb dX6_twoOf_0 rfl (lv_at hl 1 rfl) ?_
  refine lv_iconst (v := 2) hx hb dX6_twoOf_1 (by decide) ?_
  refine lv_icmp_ne (tgt := 9) hx hb dX6_twoOf_2 (by decide) (fun h_1 => ?_) (fun h_1 => ?_)
  · rw [if_neg h_1] at hm
    refine lv_iload_n hx hb dX6_twoOf_9 rfl (lv_at hl 1 rfl) ?_
    refine lv_iconst (v := 3) hx hb dX6_twoOf_10 (by decide) ?_
    refine lv_icmp_ne (tgt := 18) hx hb dX6_twoOf_11 (by decide) (fun h_2 => ?_) (fun h_2 => ?_)
    · rw [if_neg h_2] at hm
      refine lv_iload_n hx hb dX6_twoOf_18 rfl (lv_at hl 1 rfl) ?_
      refine lv_iconst (v := 4) hx hb dX6_twoOf_19 (by decide) ?_
      refine lv_icmp_ne (tgt := 27) hx hb dX6_twoOf_20 (by decide) (fun h_3 => ?_) (fun h_3 => ?_)
      · rw [if_neg h_3] at hm
        refine lv_iload_n hx hb dX6_twoOf_27 rfl (lv_at hl 1 rfl) ?_
        refine lv_iconst (v := 5) hx hb dX6_twoOf_28 (by decide) ?_
        refine lv_icmp_ne (tgt := 36) hx hb dX6_twoOf_29 (by decide) (fun h_4 => ?_) (fun h_4 => ?_)
        · rw [if_neg h_4] at hm
          refine lv_iload_n hx hb dX6_twoOf_36 rfl (lv_at hl 1 rfl) ?_
          refine lv_bipush (v := 6) hx hb dX6_twoOf_37 (by decide) ?_
          refine lv_icmp_ne (tgt := 53) hx hb dX6_twoOf_39 (by decide) (fun h_5 => ?_) (fun h_5 => ?_)
          · rw [if_neg h_5] at hm
            refine lv_iload_n hx hb dX6_twoOf_53 rfl (lv_at hl 1 rfl) ?_
            refine lv_bipush (v := 7) hx hb dX6_twoOf_54 (by decide) ?_
            refine lv_icmp_ne (tgt := 70) hx hb dX6_twoOf_56 (by decide) (fun h_6 => ?_) (fun h_6 => ?_)
            · rw [if_neg h_6] at hm
              refine lv_iload_n hx hb dX6_twoOf_70 rfl (lv_at hl 1 rfl) ?_
              refine lv_bipush (v := 8) hx hb dX6_twoOf_71 (by decide) ?_
              refine lv_icmp_ne (tgt := 87) hx hb dX6_twoOf_73 (by decide) (fun h_7 => ?_) (fun h_7 => ?_)
              · rw [if_neg h_7] at hm
                refine lv_iload_n hx hb dX6_twoOf_87 rfl (lv_at hl 1 rfl) ?_
                refine lv_bipush (v := 10) hx hb dX6_twoOf_88 (by decide) ?_
                refine lv_icmp_ne (tgt := 99) hx hb dX6_twoOf_90 (by decide) (fun h_8 => ?_) (fun h_8 => ?_)
                · rw [if_neg h_8] at hm
                  refine lv_iload_n hx hb dX6_twoOf_99 rfl (lv_at hl 2 rfl) ?_
                  refine lv_iload_n hx hb dX6_twoOf_100 rfl (lv_at hl 3 rfl) ?_
                  refine lv_iadd hx hb dX6_twoOf_101 ?_
                  refine lv_if_le (tgt := 109) hx hb dX6_twoOf_102 (by decide) (fun h_9 => ?_) (fun h_9 => ?_)
                  · rw [if_pos h_9] at hm
                    refine lv_iconst (v := 0) hx hb dX6_twoOf_109 (by decide) ?_
                    cases hm
                    exact x_iret X hP hS hr hlocks dX6_twoOf_110
                  · rw [if_neg h_9] at hm
                    refine lv_iconst (v := 1) hx hb dX6_twoOf_105 (by decide) ?_
                    refine lv_goto (tgt := 110) hx hb dX6_twoOf_106 (by decide) ?_
                    cases hm
                    exact x_iret X hP hS hr hlocks dX6_twoOf_110
                · rw [if_pos h_8] at hm
                  refine lv_iload_n hx hb dX6_twoOf_93 rfl (lv_at hl 2 rfl) ?_
                  refine lv_iload_n hx hb dX6_twoOf_94 rfl (lv_at hl 3 rfl) ?_
                  refine lv_imul hx hb dX6_twoOf_95 ?_
                  refine lv_goto (tgt := 110) hx hb dX6_twoOf_96 (by decide) ?_
                  cases hm
                  exact x_iret X hP hS hr hlocks dX6_twoOf_110
              · rw [if_pos h_7] at hm
                refine lv_iload_n hx hb dX6_twoOf_76 rfl (lv_at hl 2 rfl) ?_
                refine lv_iload_n hx hb dX6_twoOf_77 rfl (lv_at hl 3 rfl) ?_
                refine lv_icmp_le (tgt := 85) hx hb dX6_twoOf_78 (by decide) (fun h_10 => ?_) (fun h_10 => ?_)
                · rw [if_pos h_10] at hm
                  refine lv_iconst (v := 0) hx hb dX6_twoOf_85 (by decide) ?_
                  cases hm
                  exact x_iret X hP hS hr hlocks dX6_twoOf_86
                · rw [if_neg h_10] at hm
                  refine lv_iconst (v := 1) hx hb dX6_twoOf_81 (by decide) ?_
                  refine lv_goto (tgt := 86) hx hb dX6_twoOf_82 (by decide) ?_
                  cases hm
                  exact x_iret X hP hS hr hlocks dX6_twoOf_86
            · rw [if_pos h_6] at hm
              refine lv_iload_n hx hb dX6_twoOf_59 rfl (lv_at hl 2 rfl) ?_
              refine lv_iload_n hx hb dX6_twoOf_60 rfl (lv_at hl 3 rfl) ?_
              refine lv_icmp_ne (tgt := 68) hx hb dX6_twoOf_61 (by decide) (fun h_11 => ?_) (fun h_11 => ?_)
              · rw [if_neg h_11] at hm
                refine lv_iconst (v := 0) hx hb dX6_twoOf_68 (by decide) ?_
                cases hm
                exact x_iret X hP hS hr hlocks dX6_twoOf_69
              · rw [if_pos h_11] at hm
                refine lv_iconst (v := 1) hx hb dX6_twoOf_64 (by decide) ?_
                refine lv_goto (tgt := 69) hx hb dX6_twoOf_65 (by decide) ?_
                cases hm
                exact x_iret X hP hS hr hlocks dX6_twoOf_69
          · rw [if_pos h_5] at hm
            refine lv_iload_n hx hb dX6_twoOf_42 rfl (lv_at hl 2 rfl) ?_
            refine lv_iload_n hx hb dX6_twoOf_43 rfl (lv_at hl 3 rfl) ?_
            refine lv_icmp_ge (tgt := 51) hx hb dX6_twoOf_44 (by decide) (fun h_12 => ?_) (fun h_12 => ?_)
            · rw [if_pos h_12] at hm
              refine lv_iconst (v := 0) hx hb dX6_twoOf_51 (by decide) ?_
              cases hm
              exact x_iret X hP hS hr hlocks dX6_twoOf_52
            · rw [if_neg h_12] at hm
              refine lv_iconst (v := 1) hx hb dX6_twoOf_47 (by decide) ?_
              refine lv_goto (tgt := 52) hx hb dX6_twoOf_48 (by decide) ?_
              cases hm
              exact x_iret X hP hS hr hlocks dX6_twoOf_52
        · rw [if_pos h_4] at hm
          refine lv_iload_n hx hb dX6_twoOf_32 rfl (lv_at hl 2 rfl) ?_
          refine lv_iload_n hx hb dX6_twoOf_33 rfl (lv_at hl 3 rfl) ?_
          obtain ⟨hz_13, hm⟩ := chk_elim hm
          refine lv_idiv hx hb dX6_twoOf_34 (nz_of hz_13) ?_
          cases hm
          exact x_iret X hP hS hr hlocks dX6_twoOf_35
      · rw [if_pos h_3] at hm
        refine lv_iload_n hx hb dX6_twoOf_23 rfl (lv_at hl 2 rfl) ?_
        refine lv_iload_n hx hb dX6_twoOf_24 rfl (lv_at hl 3 rfl) ?_
        refine lv_imul hx hb dX6_twoOf_25 ?_
        cases hm
        exact x_iret X hP hS hr hlocks dX6_twoOf_26
    · rw [if_pos h_2] at hm
      refine lv_iload_n hx hb dX6_twoOf_14 rfl (lv_at hl 2 rfl) ?_
      refine lv_iload_n hx hb dX6_twoOf_15 rfl (lv_at hl 3 rfl) ?_
      refine lv_isub hx hb dX6_twoOf_16 ?_
      cases hm
      exact x_iret X hP hS hr hlocks dX6_twoOf_17
  · rw [if_pos h_1] at hm
    refine lv_iload_n hx hb dX6_twoOf_5 rfl (lv_at hl 2 rfl) ?_
    refine lv_iload_n hx hb dX6_twoOf_6 rfl (lv_at hl 3 rfl) ?_
    refine lv_iadd hx hb dX6_twoOf_7 ?_
    cases hm
    exact x_iret X hP hS hr hlocks dX6_twoOf_8


/-! X6_worthAt -/
def rmX6_worthAt : Room := { frames := 1, cells := 0, slots := 0, locals := 23 }
theorem uX6_worthAt_X6 : ∀ w ∈ wsX60, w ∈ wsX6_worthAt := by decide +kernel
theorem mbX6_worthAt_1 : Cond.fieldLink RX6 74 "FootANightModel" "op" "[I" ∈ wsX6_worthAt := by decide +kernel
theorem mbX6_worthAt_2 : Cond.fieldLink RX6 89 "FootANightModel" "stack" "[I" ∈ wsX6_worthAt := by decide +kernel
theorem mbX6_worthAt_3 : Cond.fieldLink RX6 86 "FootANightModel" "asked" "[I" ∈ wsX6_worthAt := by decide +kernel
theorem mbX6_worthAt_4 : Cond.fieldLink RX6 77 "FootANightModel" "arg" "[I" ∈ wsX6_worthAt := by decide +kernel
set_option maxHeartbeats 4000000 in
set_option maxRecDepth 100000 in
theorem wj_X6_worthAt_83i (X : CxG g p s m args c cX6_worthAt 6 RX6 wsX6_worthAt) (hAll : okAll g) {fu : Nat} {M : Mem} {s1 : Int32} {s3 : Int32} {s4 : Int32} {s5 : Int32} {t1 : Int32} {t2 : Int32} {o : (Int32 × Int32 × Mem) ⊕ (Mem)} (kb : ∀ (d4 : Int32) (d5 : Int32) (M2 : Mem) , o = .inl (d4, d5, M2) → ∀ (H : Heap) (locs : List Loc) (ls : Array Slot), va_P (gD g) vwCl (wlG g M2) H → va_S (AbG g) s.heap H locs → lv_has ls 6 [(0, .ref (ga g 148)), (1, .int s1), (3, .int s3), (4, .int d4), (5, .int d5)] → W p l e (headSpec wsX6_worthAt rmX6_worthAt).room s m args below meth c H locs 0 0 Q (F0 m 12 ls [])) (kx0 : ∀ (M2 : Mem) , o = .inr M2 → ∀ (H : Heap) (locs : List Loc) (ls : Array Slot), va_P (gD g) vwCl (wlG g M2) H → va_S (AbG g) s.heap H locs → lv_has ls 6 [(0, .ref (ga g 148))] → W p l e (headSpec wsX6_worthAt rmX6_worthAt).room s m args below meth c H locs 0 0 Q (F0 m 176 ls [])) (hm : j_X6_worthAt_83i fu M s1 s3 s4 s5 t1 t2 = some o) {H : Heap} {locs : List Loc} {ls : Array Slot} (hP : va_P (gD g) vwCl (wlG g M) H) (hS : va_S (AbG g) s.heap H locs) (hl : lv_has ls 6 [(0, .ref (ga g 148)), (1, .int s1), (3, .int s3), (4, .int s4), (5, .int s5)]) : W p l e (headSpec wsX6_worthAt rmX6_worthAt).room s m args below meth c H locs 0 0 Q (F0 m 83 ls [.int t2, .int t1, .ref (ga g 173)]) := by
  obtain ⟨⟨hx, hb, hml, hown, hts⟩, -, -⟩ := id X
  unfold j_X6_worthAt_83i at hm
  obtain ⟨hb_9, hm⟩ := chk_elim hm
  obtain ⟨M_10, hM_11, hm⟩ := bnd_elim hm
  refine x_iast X hP hS (okc_173 hAll) hM_11 hb_9 dX6_worthAt_83 (fun H locs hP hS => ?_)
  refine lv_iload hx hb dX6_worthAt_84 (lv_at hl 3 rfl) ?_
  refine lv_iconst (v := 1) hx hb dX6_worthAt_86 (by decide) ?_
  refine lv_iadd hx hb dX6_worthAt_87 ?_
  obtain ⟨v_12, hv_13, hm⟩ := bnd_elim hm
  refine x_name hv_13 ?_
  refine lv_istore (lv' := [(4, .int v_12), (0, .ref (ga g 148)), (1, .int s1), (3, .int s3), (5, .int s5)]) hx hb dX6_worthAt_88 hl (by decide) rfl (fun ls hl => ?_)
  refine lv_goto (tgt := 170) hx hb dX6_worthAt_90 (by decide) ?_
  obtain ⟨v_14, hv_15, hm⟩ := bnd_elim hm
  refine lv_iinc (v := v_14) (lv' := [(5, .int v_14), (4, .int v_12), (0, .ref (ga g 148)), (1, .int s1), (3, .int s3)]) hx hb dX6_worthAt_170 hl (k := 4) rfl (by rw [hv_15]; rfl) (by decide) rfl (fun ls hl => ?_)
  refine lv_goto (tgt := 12) hx hb dX6_worthAt_173 (by decide) ?_
  exact kb v_12 v_14 M_10 (Option.some.inj hm).symm _ _ _ hP hS (lv_sub hl [2, 3, 4, 1, 0] rfl)

set_option maxHeartbeats 4000000 in
set_option maxRecDepth 100000 in
theorem wj_X6_worthAt_45i (X : CxG g p s m args c cX6_worthAt 6 RX6 wsX6_worthAt) (hAll : okAll g) {fu : Nat} {M : Mem} {s1 : Int32} {s3 : Int32} {s4 : Int32} {s5 : Int32} {o : (Int32 × Int32 × Mem) ⊕ (Mem)} (kb : ∀ (d4 : Int32) (d5 : Int32) (M2 : Mem) , o = .inl (d4, d5, M2) → ∀ (H : Heap) (locs : List Loc) (ls : Array Slot), va_P (gD g) vwCl (wlG g M2) H → va_S (AbG g) s.heap H locs → lv_has ls 6 [(0, .ref (ga g 148)), (1, .int s1), (3, .int s3), (4, .int d4), (5, .int d5)] → W p l e (headSpec wsX6_worthAt rmX6_worthAt).room s m args below meth c H locs 0 0 Q (F0 m 12 ls [])) (kx0 : ∀ (M2 : Mem) , o = .inr M2 → ∀ (H : Heap) (locs : List Loc) (ls : Array Slot), va_P (gD g) vwCl (wlG g M2) H → va_S (AbG g) s.heap H locs → lv_has ls 6 [(0, .ref (ga g 148))] → W p l e (headSpec wsX6_worthAt rmX6_worthAt).room s m args below meth c H locs 0 0 Q (F0 m 176 ls [])) (hm : j_X6_worthAt_45i fu M s1 s3 s4 s5 = some o) {H : Heap} {locs : List Loc} {ls : Array Slot} (hP : va_P (gD g) vwCl (wlG g M) H) (hS : va_S (AbG g) s.heap H locs) (hl : lv_has ls 6 [(0, .ref (ga g 148)), (1, .int s1), (3, .int s3), (4, .int s4), (5, .int s5)]) : W p l e (headSpec wsX6_worthAt rmX6_worthAt).room s m args below meth c H locs 0 0 Q (F0 m 45 ls []) := by
  obtain ⟨⟨hx, hb, hml, hown, hts⟩, -, -⟩ := id X
  unfold j_X6_worthAt_45i at hm
  refine lv_aload_n hx hb dX6_worthAt_45 rfl (lv_at hl 0 rfl) ?_
  refine xg_X6_41 X hP hAll uX6_worthAt_X6 mbX6_worthAt_2 dX6_worthAt_46 ?_
  refine lv_iload hx hb dX6_worthAt_49 (lv_at hl 3 rfl) ?_
  refine lv_aload_n hx hb dX6_worthAt_51 rfl (lv_at hl 0 rfl) ?_
  refine xg_X6_30 X hP hAll uX6_worthAt_X6 mbX6_worthAt_1 dX6_worthAt_52 ?_
  refine lv_iload hx hb dX6_worthAt_55 (lv_at hl 4 rfl) ?_
  obtain ⟨hb_6, hm⟩ := chk_elim hm
  refine x_iald X hP (okc_169 hAll) hb_6 dX6_worthAt_57 ?_
  refine lv_if_ne (tgt := 71) hx hb dX6_worthAt_58 (by decide) (fun h_7 => ?_) (fun h_7 => ?_)
  · rw [if_neg h_7] at hm
    refine lv_aload_n hx hb dX6_worthAt_71 rfl (lv_at hl 0 rfl) ?_
    refine xg_X6_40 X hP hAll uX6_worthAt_X6 mbX6_worthAt_3 dX6_worthAt_72 ?_
    refine lv_aload_n hx hb dX6_worthAt_75 rfl (lv_at hl 0 rfl) ?_
    refine xg_X6_31 X hP hAll uX6_worthAt_X6 mbX6_worthAt_4 dX6_worthAt_76 ?_
    refine lv_iload hx hb dX6_worthAt_79 (lv_at hl 4 rfl) ?_
    refine x_iald X hP (okc_170 hAll) hb_6 dX6_worthAt_81 ?_
    obtain ⟨hb_8, hm⟩ := chk_elim hm
    refine x_iald X hP (okc_172 hAll) hb_8 dX6_worthAt_82 ?_
    exact wj_X6_worthAt_83i X hAll kb kx0 hm hP hS (lv_sub hl [0, 1, 2, 3, 4] rfl)
  · rw [if_pos h_7] at hm
    refine lv_aload_n hx hb dX6_worthAt_61 rfl (lv_at hl 0 rfl) ?_
    refine xg_X6_31 X hP hAll uX6_worthAt_X6 mbX6_worthAt_4 dX6_worthAt_62 ?_
    refine lv_iload hx hb dX6_worthAt_65 (lv_at hl 4 rfl) ?_
    refine x_iald X hP (okc_170 hAll) hb_6 dX6_worthAt_67 ?_
    refine lv_goto (tgt := 83) hx hb dX6_worthAt_68 (by decide) ?_
    exact wj_X6_worthAt_83i X hAll kb kx0 hm hP hS (lv_sub hl [0, 1, 2, 3, 4] rfl)

set_option maxHeartbeats 4000000 in
set_option maxRecDepth 100000 in
theorem wl_X6_worthAt_12 (X : CxG g p s m args c cX6_worthAt 6 RX6 wsX6_worthAt) (hAll : okAll g) {fu : Nat} {s1 : Int32} {s3 : Int32} {x : Mem} (kx0 : ∀ (M2 : Mem) , x = M2 → ∀ (H : Heap) (locs : List Loc) (ls : Array Slot), va_P (gD g) vwCl (wlG g M2) H → va_S (AbG g) s.heap H locs → lv_has ls 6 [(0, .ref (ga g 148))] → W p l e (headSpec wsX6_worthAt rmX6_worthAt).room s m args below meth c H locs 0 0 Q (F0 m 176 ls [])) {n : Nat} {q0 : Int32 × Int32 × Mem} (h : lp (b_X6_worthAt_12 fu s1 s3) n q0 = some x) : ∀ (H : Heap) (locs : List Loc) (ls : Array Slot), va_P (gD g) vwCl (wlG g q0.2.2) H → va_S (AbG g) s.heap H locs → lv_has ls 6 [(0, .ref (ga g 148)), (1, .int s1), (3, .int s3), (4, .int q0.1), (5, .int q0.2.1)] → W p l e (headSpec wsX6_worthAt rmX6_worthAt).room s m args below meth c H locs 0 0 Q (F0 m 12 ls []) := by
  refine lp_elim (P := fun q0 : Int32 × Int32 × Mem => ∀ (H : Heap) (locs : List Loc) (ls : Array Slot), va_P (gD g) vwCl (wlG g q0.2.2) H → va_S (AbG g) s.heap H locs → lv_has ls 6 [(0, .ref (ga g 148)), (1, .int s1), (3, .int s3), (4, .int q0.1), (5, .int q0.2.1)] → W p l e (headSpec wsX6_worthAt rmX6_worthAt).room s m args below meth c H locs 0 0 Q (F0 m 12 ls [])) (fun q1 o hm hI hX => ?_) n q0 h
  obtain ⟨c4, c5, M⟩ := q1
  have kb : ∀ (d4 : Int32) (d5 : Int32) (M2 : Mem) , o = .inl (d4, d5, M2) → ∀ (H : Heap) (locs : List Loc) (ls : Array Slot), va_P (gD g) vwCl (wlG g M2) H → va_S (AbG g) s.heap H locs → lv_has ls 6 [(0, .ref (ga g 148)), (1, .int s1), (3, .int s3), (4, .int d4), (5, .int d5)] → W p l e (headSpec wsX6_worthAt rmX6_worthAt).room s m args below meth c H locs 0 0 Q (F0 m 12 ls []) := fun d4 d5 M2 e => hI _ e
  have kx0 : ∀ (M2 : Mem) , o = .inr M2 → ∀ (H : Heap) (locs : List Loc) (ls : Array Slot), va_P (gD g) vwCl (wlG g M2) H → va_S (AbG g) s.heap H locs → lv_has ls 6 [(0, .ref (ga g 148))] → W p l e (headSpec wsX6_worthAt rmX6_worthAt).room s m args below meth c H locs 0 0 Q (F0 m 176 ls []) := fun M2 e => kx0 M2 (hX _ e).symm
  clear hI hX
  intro H locs ls hP hS hl
  obtain ⟨⟨hx, hb, hml, hown, hts⟩, -, -⟩ := id X
  have hl : lv_has ls 6 [(0, .ref (ga g 148)), (1, .int s1), (3, .int s3), (4, .int c4), (5, .int c5)] := hl
  have hP : va_P (gD g) vwCl (wlG g M) H := hP
  unfold b_X6_worthAt_12 at hm
  replace hm := un3_e hm
  refine lv_iload hx hb dX6_worthAt_12 (lv_at hl 4 rfl) ?_
  refine lv_sipush (v := 400) hx hb dX6_worthAt_14 (by decide) ?_
  refine lv_iload_n hx hb dX6_worthAt_17 rfl (lv_at hl 1 rfl) ?_
  refine lv_imul hx hb dX6_worthAt_18 ?_
  refine lv_iload_n hx hb dX6_worthAt_19 rfl (lv_at hl 2 rfl) ?_
  refine lv_iadd hx hb dX6_worthAt_20 ?_
  refine lv_icmp_ge (tgt := 176) hx hb dX6_worthAt_21 (by decide) (fun h_3 => ?_) (fun h_3 => ?_)
  · rw [if_pos h_3] at hm
    exact kx0 M (Option.some.inj hm).symm _ _ _ hP hS (lv_sub hl [0] rfl)
  · rw [if_neg h_3] at hm
    refine lv_aload_n hx hb dX6_worthAt_24 rfl (lv_at hl 0 rfl) ?_
    refine xg_X6_30 X hP hAll uX6_worthAt_X6 mbX6_worthAt_1 dX6_worthAt_25 ?_
    refine lv_iload hx hb dX6_worthAt_28 (lv_at hl 4 rfl) ?_
    obtain ⟨hb_4, hm⟩ := chk_elim hm
    refine x_iald X hP (okc_169 hAll) hb_4 dX6_worthAt_30 ?_
    refine lv_if_eq (tgt := 45) hx hb dX6_worthAt_31 (by decide) (fun h_5 => ?_) (fun h_5 => ?_)
    · rw [if_pos h_5] at hm
      exact wj_X6_worthAt_45i X hAll kb kx0 hm hP hS (lv_sub hl [0, 1, 2, 3, 4] rfl)
    · rw [if_neg h_5] at hm
      refine lv_aload_n hx hb dX6_worthAt_34 rfl (lv_at hl 0 rfl) ?_
      refine xg_X6_30 X hP hAll uX6_worthAt_X6 mbX6_worthAt_1 dX6_worthAt_35 ?_
      refine lv_iload hx hb dX6_worthAt_38 (lv_at hl 4 rfl) ?_
      refine x_iald X hP (okc_169 hAll) hb_4 dX6_worthAt_40 ?_
      refine lv_iconst (v := 1) hx hb dX6_worthAt_41 (by decide) ?_
      refine lv_icmp_ne (tgt := 93) hx hb dX6_worthAt_42 (by decide) (fun h_16 => ?_) (fun h_16 => ?_)
      · rw [if_neg h_16] at hm
        refine lv_aload_n hx hb dX6_worthAt_93 rfl (lv_at hl 0 rfl) ?_
        refine xg_X6_30 X hP hAll uX6_worthAt_X6 mbX6_worthAt_1 dX6_worthAt_94 ?_
        refine lv_iload hx hb dX6_worthAt_97 (lv_at hl 4 rfl) ?_
        refine x_iald X hP (okc_169 hAll) hb_4 dX6_worthAt_99 ?_
        refine lv_bipush (v := 9) hx hb dX6_worthAt_100 (by decide) ?_
        refine lv_icmp_ne (tgt := 128) hx hb dX6_worthAt_102 (by decide) (fun h_17 => ?_) (fun h_17 => ?_)
        · rw [if_neg h_17] at hm
          refine lv_iload hx hb dX6_worthAt_128 (lv_at hl 3 rfl) ?_
          refine lv_iconst (v := 1) hx hb dX6_worthAt_130 (by decide) ?_
          refine lv_isub hx hb dX6_worthAt_131 ?_
          obtain ⟨v_18, hv_19, hm⟩ := bnd_elim hm
          refine x_name hv_19 ?_
          refine lv_istore (lv' := [(4, .int v_18), (0, .ref (ga g 148)), (1, .int s1), (3, .int s3), (5, .int c5)]) hx hb dX6_worthAt_132 hl (by decide) rfl (fun ls hl => ?_)
          refine lv_aload_n hx hb dX6_worthAt_134 rfl (lv_at hl 1 rfl) ?_
          refine xg_X6_41 X hP hAll uX6_worthAt_X6 mbX6_worthAt_2 dX6_worthAt_135 ?_
          refine lv_iload hx hb dX6_worthAt_138 (lv_at hl 0 rfl) ?_
          refine lv_iconst (v := 1) hx hb dX6_worthAt_140 (by decide) ?_
          refine lv_isub hx hb dX6_worthAt_141 ?_
          refine lv_aload_n hx hb dX6_worthAt_142 rfl (lv_at hl 1 rfl) ?_
          refine lv_aload_n hx hb dX6_worthAt_143 rfl (lv_at hl 1 rfl) ?_
          refine xg_X6_30 X hP hAll uX6_worthAt_X6 mbX6_worthAt_1 dX6_worthAt_144 ?_
          refine lv_iload hx hb dX6_worthAt_147 (lv_at hl 4 rfl) ?_
          refine x_iald X hP (okc_169 hAll) hb_4 dX6_worthAt_149 ?_
          refine lv_aload_n hx hb dX6_worthAt_150 rfl (lv_at hl 1 rfl) ?_
          refine xg_X6_41 X hP hAll uX6_worthAt_X6 mbX6_worthAt_2 dX6_worthAt_151 ?_
          refine lv_iload hx hb dX6_worthAt_154 (lv_at hl 0 rfl) ?_
          refine lv_iconst (v := 1) hx hb dX6_worthAt_156 (by decide) ?_
          refine lv_isub hx hb dX6_worthAt_157 ?_
          obtain ⟨hb_20, hm⟩ := chk_elim hm
          refine x_iald X hP (okc_173 hAll) hb_20 dX6_worthAt_158 ?_
          refine lv_aload_n hx hb dX6_worthAt_159 rfl (lv_at hl 1 rfl) ?_
          refine xg_X6_41 X hP hAll uX6_worthAt_X6 mbX6_worthAt_2 dX6_worthAt_160 ?_
          refine lv_iload hx hb dX6_worthAt_163 (lv_at hl 0 rfl) ?_
          obtain ⟨hb_21, hm⟩ := chk_elim hm
          refine x_iald X hP (okc_173 hAll) hb_21 dX6_worthAt_165 ?_
          obtain ⟨r_23, hc_22, hm⟩ := bind_elim hm
          refine x_calli (x_runV (As := [.int (rd M 169 (ix c5)), .int (rd M 173 (ix (v_18 - 1))), .int (rd M 173 (ix v_18))]) (rest := [.int (v_18 - 1), .ref (ga g 173)]) X hP hS (c_X6_twoOf l X.2.2 hc_22) (cwV 3 hts gX6_worthAt_X6_twoOf rfl rfl rfl (by decide +kernel) ⟨Nat.le_of_ble_eq_true rfl, Nat.le_of_ble_eq_true rfl⟩) (x_recv (C := RX6) (T := TX6) (N := 55) X hP (okc_148 hAll) rfl) rfl hl.1 rfl (Nat.le_of_ble_eq_true rfl) dX6_worthAt_166 ⟨Nat.zero_le _, Nat.zero_le _⟩) hS (fun H locs hP hS => ?_)
          obtain ⟨M_24, hM_25, hm⟩ := bnd_elim hm
          refine x_iast X hP hS (okc_173 hAll) hM_25 hb_20 dX6_worthAt_169 (fun H locs hP hS => ?_)
          obtain ⟨v_26, hv_27, hm⟩ := bnd_elim hm
          refine lv_iinc (v := v_26) (lv' := [(5, .int v_26), (4, .int v_18), (0, .ref (ga g 148)), (1, .int s1), (3, .int s3)]) hx hb dX6_worthAt_170 hl (k := 4) rfl (by rw [hv_27]; rfl) (by decide) rfl (fun ls hl => ?_)
          refine lv_goto (tgt := 12) hx hb dX6_worthAt_173 (by decide) ?_
          exact kb v_18 v_26 M_24 (Option.some.inj hm).symm _ _ _ hP hS (lv_sub hl [2, 3, 4, 1, 0] rfl)
        · rw [if_pos h_17] at hm
          refine lv_aload_n hx hb dX6_worthAt_105 rfl (lv_at hl 0 rfl) ?_
          refine xg_X6_41 X hP hAll uX6_worthAt_X6 mbX6_worthAt_2 dX6_worthAt_106 ?_
          refine lv_iload hx hb dX6_worthAt_109 (lv_at hl 3 rfl) ?_
          refine lv_iconst (v := 1) hx hb dX6_worthAt_111 (by decide) ?_
          refine lv_isub hx hb dX6_worthAt_112 ?_
          refine lv_iconst (v := 1) hx hb dX6_worthAt_113 (by decide) ?_
          refine lv_aload_n hx hb dX6_worthAt_114 rfl (lv_at hl 0 rfl) ?_
          refine xg_X6_41 X hP hAll uX6_worthAt_X6 mbX6_worthAt_2 dX6_worthAt_115 ?_
          refine lv_iload hx hb dX6_worthAt_118 (lv_at hl 3 rfl) ?_
          refine lv_iconst (v := 1) hx hb dX6_worthAt_120 (by decide) ?_
          refine lv_isub hx hb dX6_worthAt_121 ?_
          obtain ⟨hb_28, hm⟩ := chk_elim hm
          refine x_iald X hP (okc_173 hAll) hb_28 dX6_worthAt_122 ?_
          refine lv_isub hx hb dX6_worthAt_123 ?_
          obtain ⟨M_29, hM_30, hm⟩ := bnd_elim hm
          refine x_iast X hP hS (okc_173 hAll) hM_30 hb_28 dX6_worthAt_124 (fun H locs hP hS => ?_)
          refine lv_goto (tgt := 170) hx hb dX6_worthAt_125 (by decide) ?_
          obtain ⟨v_31, hv_32, hm⟩ := bnd_elim hm
          refine lv_iinc (v := v_31) (lv' := [(5, .int v_31), (0, .ref (ga g 148)), (1, .int s1), (3, .int s3), (4, .int c4)]) hx hb dX6_worthAt_170 hl (k := 4) rfl (by rw [hv_32]; rfl) (by decide) rfl (fun ls hl => ?_)
          refine lv_goto (tgt := 12) hx hb dX6_worthAt_173 (by decide) ?_
          exact kb c4 v_31 M_29 (Option.some.inj hm).symm _ _ _ hP hS (lv_sub hl [1, 2, 3, 4, 0] rfl)
      · rw [if_pos h_16] at hm
        exact wj_X6_worthAt_45i X hAll kb kx0 hm hP hS (lv_sub hl [0, 1, 2, 3, 4] rfl)

set_option maxHeartbeats 4000000 in
set_option maxRecDepth 100000 in
theorem c_X6_worthAt (l : Launch) {g : GT} (hA : AxG g) (hAll : okAll g)   {fu : Nat} {M : Mem} {a1 : Int32} {a2 : Int32} {a3 : Int32} {rr : Int32} {MM : Mem} (hm : m_X6_worthAt fu M a1 a2 a3 = some (rr, MM)) : CI l yX6_worthAt wsX6_worthAt rmX6_worthAt g [.ref (ga g 148), .int a1, .int a2, .int a3] M rr MM := by
  refine Met.ofW (cc := cX6_worthAt) (maxL := 6) (ret := (some .int)) (by decide) rfl ?_
  intro p e s m args below meth c s₁ B hml hv
  obtain ⟨rfl, hSx, hP⟩ := hv
  have hr := B.returns
  have hlocks := B.notSynchronized
  have X : CxG g p s m _ c cX6_worthAt 6 RX6 wsX6_worthAt := ⟨⟨B.exec, B.bytes, hml, findClass_of_methodNamed B.named, atoms_spec (ws := wsX6_worthAt) B.pre⟩, hSx, hA⟩
  have hS : va_S (AbG g) s.heap s.heap [] := va_S.rf
  have hl := lv_entry (([.ref (ga g 148), .int a1, .int a2, .int a3] : List Value)) (n := 6) (Nat.le_of_ble_eq_true rfl)
  rw [lg_entry_eq]
  generalize (lg_sl (([.ref (ga g 148), .int a1, .int a2, .int a3] : List Value)) ++ List.replicate (6 - (lg_sl (([.ref (ga g 148), .int a1, .int a2, .int a3] : List Value))).length) Slot.unset).toArray = ls at hl ⊢
  have hl : lv_has ls 6 [(0, .ref (ga g 148)), (1, .int a1), (2, .int a2), (3, .int a3)] := hl
  obtain ⟨⟨hx, hb, hml, hown, hts⟩, -, -⟩ := id X
  unfold m_X6_worthAt at hm
  refine lv_iconst (v := 0) hx hb dX6_worthAt_0 (by decide) ?_
  refine lv_istore (lv' := [(4, .int 0), (0, .ref (ga g 148)), (1, .int a1), (2, .int a2), (3, .int a3)]) hx hb dX6_worthAt_1 hl (by decide) rfl (fun ls hl => ?_)
  refine lv_sipush (v := 400) hx hb dX6_worthAt_3 (by decide) ?_
  refine lv_iload_n hx hb dX6_worthAt_6 rfl (lv_at hl 2 rfl) ?_
  refine lv_imul hx hb dX6_worthAt_7 ?_
  refine lv_iload_n hx hb dX6_worthAt_8 rfl (lv_at hl 3 rfl) ?_
  refine lv_iadd hx hb dX6_worthAt_9 ?_
  obtain ⟨v_1, hv_2, hm⟩ := bnd_elim hm
  refine x_name hv_2 ?_
  refine lv_istore (lv' := [(5, .int v_1), (4, .int 0), (0, .ref (ga g 148)), (1, .int a1), (2, .int a2), (3, .int a3)]) hx hb dX6_worthAt_10 hl (by decide) rfl (fun ls hl => ?_)
  obtain ⟨M_35, hL_34, hm⟩ := bind_elim hm
  refine wl_X6_worthAt_12 X hAll ?_ hL_34 _ _ _ hP hS (lv_sub hl [2, 3, 5, 1, 0] rfl)
  · intro z_M_35 e_M_35 H locs ls hP hS hl
    subst e_M_35
    replace hm := un1_e hm
    refine lv_aload_n hx hb dX6_worthAt_176 rfl (lv_at hl 0 rfl) ?_
    refine xg_X6_41 X hP hAll uX6_worthAt_X6 mbX6_worthAt_2 dX6_worthAt_177 ?_
    refine lv_iconst (v := 0) hx hb dX6_worthAt_180 (by decide) ?_
    refine x_iald X hP (okc_173 hAll) (show inb 0 420 = true from rfl) dX6_worthAt_181 ?_
    cases hm
    exact x_iret X hP hS hr hlocks dX6_worthAt_182


/-! X6_doingBy -/
def rmX6_doingBy : Room := { frames := 2, cells := 0, slots := 0, locals := 48 }
theorem uX6_doingBy_X6 : ∀ w ∈ wsX60, w ∈ wsX6_doingBy := by decide +kernel
theorem mbX6_doingBy_1 : Cond.fieldLink RX6 62 "FootANightModel" "lineMany" "[I" ∈ wsX6_doingBy := by decide +kernel
theorem mbX6_doingBy_2 : Cond.fieldLink RX6 71 "FootANightModel" "lineTo" "[I" ∈ wsX6_doingBy := by decide +kernel
theorem mbX6_doingBy_3 : Cond.fieldLink RX6 68 "FootANightModel" "lineFrom" "[I" ∈ wsX6_doingBy := by decide +kernel
theorem mbX6_doingBy_4 : Cond.fieldLink RX6 65 "FootANightModel" "lineDoing" "[I" ∈ wsX6_doingBy := by decide +kernel
set_option maxHeartbeats 4000000 in
set_option maxRecDepth 100000 in
theorem wl_X6_doingBy_5 (X : CxG g p s m args c cX6_doingBy 3 RX6 wsX6_doingBy) (hAll : okAll g) {fu : Nat} {s1 : Int32} {x : (Int32 × Mem) ⊕ (Mem)} (kx0 : ∀ (d2 : Int32) (M2 : Mem) , x = .inl (d2, M2) → ∀ (H : Heap) (locs : List Loc) (ls : Array Slot), va_P (gD g) vwCl (wlG g M2) H → va_S (AbG g) s.heap H locs → lv_has ls 3 [(0, .ref (ga g 148)), (2, .int d2)] → W p l e (headSpec wsX6_doingBy rmX6_doingBy).room s m args below meth c H locs 0 0 Q (F0 m 55 ls [])) (kx1 : ∀ (M2 : Mem) , x = .inr M2 → ∀ (H : Heap) (locs : List Loc) (ls : Array Slot), va_P (gD g) vwCl (wlG g M2) H → va_S (AbG g) s.heap H locs → lv_has ls 3 [] → W p l e (headSpec wsX6_doingBy rmX6_doingBy).room s m args below meth c H locs 0 0 Q (F0 m 68 ls [])) {n : Nat} {q0 : Int32 × Mem} (h : lp (b_X6_doingBy_5 fu s1) n q0 = some x) : ∀ (H : Heap) (locs : List Loc) (ls : Array Slot), va_P (gD g) vwCl (wlG g q0.2) H → va_S (AbG g) s.heap H locs → lv_has ls 3 [(0, .ref (ga g 148)), (1, .int s1), (2, .int q0.1)] → W p l e (headSpec wsX6_doingBy rmX6_doingBy).room s m args below meth c H locs 0 0 Q (F0 m 5 ls []) := by
  refine lp_elim (P := fun q0 : Int32 × Mem => ∀ (H : Heap) (locs : List Loc) (ls : Array Slot), va_P (gD g) vwCl (wlG g q0.2) H → va_S (AbG g) s.heap H locs → lv_has ls 3 [(0, .ref (ga g 148)), (1, .int s1), (2, .int q0.1)] → W p l e (headSpec wsX6_doingBy rmX6_doingBy).room s m args below meth c H locs 0 0 Q (F0 m 5 ls [])) (fun q1 o hm hI hX => ?_) n q0 h
  obtain ⟨c2, M⟩ := q1
  have kb : ∀ (d2 : Int32) (M2 : Mem) , o = .inl (d2, M2) → ∀ (H : Heap) (locs : List Loc) (ls : Array Slot), va_P (gD g) vwCl (wlG g M2) H → va_S (AbG g) s.heap H locs → lv_has ls 3 [(0, .ref (ga g 148)), (1, .int s1), (2, .int d2)] → W p l e (headSpec wsX6_doingBy rmX6_doingBy).room s m args below meth c H locs 0 0 Q (F0 m 5 ls []) := fun d2 M2 e => hI _ e
  have kx0 : ∀ (d2 : Int32) (M2 : Mem) , o = .inr (.inl (d2, M2)) → ∀ (H : Heap) (locs : List Loc) (ls : Array Slot), va_P (gD g) vwCl (wlG g M2) H → va_S (AbG g) s.heap H locs → lv_has ls 3 [(0, .ref (ga g 148)), (2, .int d2)] → W p l e (headSpec wsX6_doingBy rmX6_doingBy).room s m args below meth c H locs 0 0 Q (F0 m 55 ls []) := fun d2 M2 e => kx0 d2 M2 (hX _ e).symm
  have kx1 : ∀ (M2 : Mem) , o = .inr (.inr M2) → ∀ (H : Heap) (locs : List Loc) (ls : Array Slot), va_P (gD g) vwCl (wlG g M2) H → va_S (AbG g) s.heap H locs → lv_has ls 3 [] → W p l e (headSpec wsX6_doingBy rmX6_doingBy).room s m args below meth c H locs 0 0 Q (F0 m 68 ls []) := fun M2 e => kx1 M2 (hX _ e).symm
  clear hI hX
  intro H locs ls hP hS hl
  obtain ⟨⟨hx, hb, hml, hown, hts⟩, -, -⟩ := id X
  have hl : lv_has ls 3 [(0, .ref (ga g 148)), (1, .int s1), (2, .int c2)] := hl
  have hP : va_P (gD g) vwCl (wlG g M) H := hP
  unfold b_X6_doingBy_5 at hm
  replace hm := un2_e hm
  refine lv_iload_n hx hb dX6_doingBy_5 rfl (lv_at hl 2 rfl) ?_
  refine lv_bipush (v := 16) hx hb dX6_doingBy_6 (by decide) ?_
  refine lv_iload_n hx hb dX6_doingBy_8 rfl (lv_at hl 1 rfl) ?_
  refine lv_imul hx hb dX6_doingBy_9 ?_
  refine lv_aload_n hx hb dX6_doingBy_10 rfl (lv_at hl 0 rfl) ?_
  refine xg_X6_26 X hP hAll uX6_doingBy_X6 mbX6_doingBy_1 dX6_doingBy_11 ?_
  refine lv_iload_n hx hb dX6_doingBy_14 rfl (lv_at hl 1 rfl) ?_
  obtain ⟨hb_3, hm⟩ := chk_elim hm
  refine x_iald X hP (okc_165 hAll) hb_3 dX6_doingBy_15 ?_
  refine lv_iadd hx hb dX6_doingBy_16 ?_
  refine lv_icmp_ge (tgt := 68) hx hb dX6_doingBy_17 (by decide) (fun h_4 => ?_) (fun h_4 => ?_)
  · rw [if_pos h_4] at hm
    exact kx1 M (Option.some.inj hm).symm _ _ _ hP hS (lv_sub hl [] rfl)
  · rw [if_neg h_4] at hm
    refine lv_aload_n hx hb dX6_doingBy_20 rfl (lv_at hl 0 rfl) ?_
    refine xg_X6_29 X hP hAll uX6_doingBy_X6 mbX6_doingBy_2 dX6_doingBy_21 ?_
    refine lv_iload_n hx hb dX6_doingBy_24 rfl (lv_at hl 2 rfl) ?_
    obtain ⟨hb_5, hm⟩ := chk_elim hm
    refine x_iald X hP (okc_168 hAll) hb_5 dX6_doingBy_25 ?_
    refine lv_aload_n hx hb dX6_doingBy_26 rfl (lv_at hl 0 rfl) ?_
    refine xg_X6_28 X hP hAll uX6_doingBy_X6 mbX6_doingBy_3 dX6_doingBy_27 ?_
    refine lv_iload_n hx hb dX6_doingBy_30 rfl (lv_at hl 2 rfl) ?_
    refine x_iald X hP (okc_167 hAll) hb_5 dX6_doingBy_31 ?_
    refine lv_icmp_eq (tgt := 55) hx hb dX6_doingBy_32 (by decide) (fun h_6 => ?_) (fun h_6 => ?_)
    · rw [if_pos h_6] at hm
      exact kx0 c2 M (Option.some.inj hm).symm _ _ _ hP hS (lv_sub hl [0, 2] rfl)
    · rw [if_neg h_6] at hm
      refine lv_aload_n hx hb dX6_doingBy_35 rfl (lv_at hl 0 rfl) ?_
      refine lv_iload_n hx hb dX6_doingBy_36 rfl (lv_at hl 1 rfl) ?_
      refine lv_aload_n hx hb dX6_doingBy_37 rfl (lv_at hl 0 rfl) ?_
      refine xg_X6_28 X hP hAll uX6_doingBy_X6 mbX6_doingBy_3 dX6_doingBy_38 ?_
      refine lv_iload_n hx hb dX6_doingBy_41 rfl (lv_at hl 2 rfl) ?_
      refine x_iald X hP (okc_167 hAll) hb_5 dX6_doingBy_42 ?_
      refine lv_aload_n hx hb dX6_doingBy_43 rfl (lv_at hl 0 rfl) ?_
      refine xg_X6_29 X hP hAll uX6_doingBy_X6 mbX6_doingBy_2 dX6_doingBy_44 ?_
      refine lv_iload_n hx hb dX6_doingBy_47 rfl (lv_at hl 2 rfl) ?_
      refine x_iald X hP (okc_168 hAll) hb_5 dX6_doingBy_48 ?_
      obtain ⟨⟨r_8, M_9⟩, hc_7, hm⟩ := bind_elim hm
      replace hm := un2_e hm
      refine x_calli (x_runV (As := [.int s1, .int (rd M 167 (ix c2)), .int (rd M 168 (ix c2))]) (rest := []) X hP hS (c_X6_worthAt l X.2.2 hAll hc_7) (cwV 3 hts gX6_doingBy_X6_worthAt rfl rfl rfl (by decide +kernel) ⟨Nat.le_of_ble_eq_true rfl, Nat.le_of_ble_eq_true rfl⟩) (x_recv (C := RX6) (T := TX6) (N := 55) X hP (okc_148 hAll) rfl) rfl hl.1 rfl (Nat.le_of_ble_eq_true rfl) dX6_doingBy_49 ⟨Nat.zero_le _, Nat.zero_le _⟩) hS (fun H locs hP hS => ?_)
      refine lv_if_eq (tgt := 62) hx hb dX6_doingBy_52 (by decide) (fun h_10 => ?_) (fun h_10 => ?_)
      · rw [if_pos h_10] at hm
        obtain ⟨v_11, hv_12, hm⟩ := bnd_elim hm
        refine lv_iinc (v := v_11) (lv' := [(2, .int v_11), (0, .ref (ga g 148)), (1, .int s1)]) hx hb dX6_doingBy_62 hl (k := 2) rfl (by rw [hv_12]; rfl) (by decide) rfl (fun ls hl => ?_)
        refine lv_goto (tgt := 5) hx hb dX6_doingBy_65 (by decide) ?_
        exact kb v_11 M_9 (Option.some.inj hm).symm _ _ _ hP hS (lv_sub hl [1, 2, 0] rfl)
      · rw [if_neg h_10] at hm
        exact kx0 c2 M_9 (Option.some.inj hm).symm _ _ _ hP hS (lv_sub hl [0, 2] rfl)

set_option maxHeartbeats 4000000 in
set_option maxRecDepth 100000 in
theorem c_X6_doingBy (l : Launch) {g : GT} (hA : AxG g) (hAll : okAll g)   {fu : Nat} {M : Mem} {a1 : Int32} {rr : Int32} {MM : Mem} (hm : m_X6_doingBy fu M a1 = some (rr, MM)) : CI l yX6_doingBy wsX6_doingBy rmX6_doingBy g [.ref (ga g 148), .int a1] M rr MM := by
  refine Met.ofW (cc := cX6_doingBy) (maxL := 3) (ret := (some .int)) (by decide) rfl ?_
  intro p e s m args below meth c s₁ B hml hv
  obtain ⟨rfl, hSx, hP⟩ := hv
  have hr := B.returns
  have hlocks := B.notSynchronized
  have X : CxG g p s m _ c cX6_doingBy 3 RX6 wsX6_doingBy := ⟨⟨B.exec, B.bytes, hml, findClass_of_methodNamed B.named, atoms_spec (ws := wsX6_doingBy) B.pre⟩, hSx, hA⟩
  have hS : va_S (AbG g) s.heap s.heap [] := va_S.rf
  have hl := lv_entry (([.ref (ga g 148), .int a1] : List Value)) (n := 3) (Nat.le_of_ble_eq_true rfl)
  rw [lg_entry_eq]
  generalize (lg_sl (([.ref (ga g 148), .int a1] : List Value)) ++ List.replicate (3 - (lg_sl (([.ref (ga g 148), .int a1] : List Value))).length) Slot.unset).toArray = ls at hl ⊢
  have hl : lv_has ls 3 [(0, .ref (ga g 148)), (1, .int a1)] := hl
  obtain ⟨⟨hx, hb, hml, hown, hts⟩, -, -⟩ := id X
  unfold m_X6_doingBy at hm
  refine lv_bipush (v := 16) hx hb dX6_doingBy_0 (by decide) ?_
  refine lv_iload_n hx hb dX6_doingBy_2 rfl (lv_at hl 1 rfl) ?_
  refine lv_imul hx hb dX6_doingBy_3 ?_
  obtain ⟨v_1, hv_2, hm⟩ := bnd_elim hm
  refine x_name hv_2 ?_
  refine lv_istore_n (lv' := [(2, .int v_1), (0, .ref (ga g 148)), (1, .int a1)]) hx hb dX6_doingBy_4 rfl hl (by decide) rfl (fun ls hl => ?_)
  obtain ⟨x_13, hL_14, hm⟩ := bind_elim hm
  refine wl_X6_doingBy_5 X hAll ?_ ?_ hL_14 _ _ _ hP hS (lv_sub hl [1, 2, 0] rfl)
  · intro v_15 M_16 e_x_13 H locs ls hP hS hl
    subst e_x_13
    replace hm := unS_l hm
    replace hm := un2_e hm
    refine lv_aload_n hx hb dX6_doingBy_55 rfl (lv_at hl 0 rfl) ?_
    refine xg_X6_27 X hP hAll uX6_doingBy_X6 mbX6_doingBy_4 dX6_doingBy_56 ?_
    refine lv_iload_n hx hb dX6_doingBy_59 rfl (lv_at hl 1 rfl) ?_
    obtain ⟨hb_17, hm⟩ := chk_elim hm
    refine x_iald X hP (okc_166 hAll) hb_17 dX6_doingBy_60 ?_
    cases hm
    exact x_iret X hP hS hr hlocks dX6_doingBy_61
  · intro M_18 e_x_13 H locs ls hP hS hl
    subst e_x_13
    replace hm := unS_r hm
    replace hm := un1_e hm
    refine lv_iconst (v := 0) hx hb dX6_doingBy_68 (by decide) ?_
    cases hm
    exact x_iret X hP hS hr hlocks dX6_doingBy_69


/-! X6_doingOf -/
def rmX6_doingOf : Room := { frames := 3, cells := 0, slots := 0, locals := 70 }
theorem uX6_doingOf_X6 : ∀ w ∈ wsX60, w ∈ wsX6_doingOf := by decide +kernel
theorem mbX6_doingOf_1 : Cond.fieldLink RX6 13 "FootANightModel" "wide" "[I" ∈ wsX6_doingOf := by decide +kernel
theorem mbX6_doingOf_2 : Cond.fieldLink RX6 86 "FootANightModel" "asked" "[I" ∈ wsX6_doingOf := by decide +kernel
theorem mbX6_doingOf_3 : Cond.fieldLink RX6 53 "FootANightModel" "settings" "[I" ∈ wsX6_doingOf := by decide +kernel
theorem mbX6_doingOf_4 : Cond.fieldLink RX6 251 "FootANightModel" "night" "I" ∈ wsX6_doingOf := by decide +kernel
theorem mbX6_doingOf_5 : Cond.fieldLink RX6 29 "FootANightModel" "hit" "[I" ∈ wsX6_doingOf := by decide +kernel
theorem mbX6_doingOf_6 : Cond.fieldLink RX6 23 "FootANightModel" "dogOf" "[I" ∈ wsX6_doingOf := by decide +kernel
theorem mbX6_doingOf_7 : Cond.fieldLink RX6 20 "FootANightModel" "familyOf" "[I" ∈ wsX6_doingOf := by decide +kernel
theorem mbX6_doingOf_8 : Cond.fieldLink RX6 38 "FootANightModel" "wallOf" "[I" ∈ wsX6_doingOf := by decide +kernel
theorem mbX6_doingOf_9 : Cond.fieldLink RX6 26 "FootANightModel" "purse" "[I" ∈ wsX6_doingOf := by decide +kernel
theorem mbX6_doingOf_10 : Cond.fieldLink RX6 17 "FootANightModel" "lawOf" "[I" ∈ wsX6_doingOf := by decide +kernel
set_option maxHeartbeats 4000000 in
set_option maxRecDepth 100000 in
theorem wj_X6_doingOf_240 (X : CxG g p s m args c cX6_doingOf 5 RX6 wsX6_doingOf) (hAll : okAll g) {fu : Nat} {M : Mem} {s1 : Int32} {s3 : Int32} {t1 : Int32} {t2 : Int32} {rr : Int32} {MM : Mem} (hr : meth.sig.returnType = (some .int)) (hlocks : meth.locks = false) (hm : j_X6_doingOf_240 fu M s1 s3 t1 t2 = some (rr, MM)) {H : Heap} {locs : List Loc} {ls : Array Slot} (hP : va_P (gD g) vwCl (wlG g M) H) (hS : va_S (AbG g) s.heap H locs) (hl : lv_has ls 5 [(0, .ref (ga g 148)), (1, .int s1), (3, .int s3)]) : W p l e (headSpec wsX6_doingOf rmX6_doingOf).room s m args below meth c H locs 0 0 (MQ below (va_Qi (fun (q : Int32) (_ : Unit) => q = rr) (fun _ t => va_P (gD g) vwCl (wlG g MM) t.heap) (AbG g)) args s 0 0 (AbG g)) (F0 m 240 ls [.int t2, .int t1, .ref (ga g 172)]) := by
  obtain ⟨⟨hx, hb, hml, hown, hts⟩, -, -⟩ := id X
  unfold j_X6_doingOf_240 at hm
  obtain ⟨hb_51, hm⟩ := chk_elim hm
  obtain ⟨M_52, hM_53, hm⟩ := bnd_elim hm
  refine x_iast X hP hS (okc_172 hAll) hM_53 hb_51 dX6_doingOf_240 (fun H locs hP hS => ?_)
  refine lv_aload_n hx hb dX6_doingOf_241 rfl (lv_at hl 0 rfl) ?_
  refine xg_X6_40 X hP hAll uX6_doingOf_X6 mbX6_doingOf_2 dX6_doingOf_242 ?_
  refine lv_bipush (v := 12) hx hb dX6_doingOf_245 (by decide) ?_
  refine lv_aload_n hx hb dX6_doingOf_247 rfl (lv_at hl 0 rfl) ?_
  refine xg_X6_13 X hP hAll uX6_doingOf_X6 mbX6_doingOf_8 dX6_doingOf_248 ?_
  refine lv_iload_n hx hb dX6_doingOf_251 rfl (lv_at hl 2 rfl) ?_
  obtain ⟨hb_54, hm⟩ := chk_elim hm
  refine x_iald X hP (okc_157 hAll) hb_54 dX6_doingOf_252 ?_
  obtain ⟨M_55, hM_56, hm⟩ := bnd_elim hm
  refine x_iast X hP hS (okc_172 hAll) hM_56 (show inb 12 15 = true from rfl) dX6_doingOf_253 (fun H locs hP hS => ?_)
  refine lv_aload_n hx hb dX6_doingOf_254 rfl (lv_at hl 0 rfl) ?_
  refine xg_X6_40 X hP hAll uX6_doingOf_X6 mbX6_doingOf_2 dX6_doingOf_255 ?_
  refine lv_bipush (v := 13) hx hb dX6_doingOf_258 (by decide) ?_
  refine lv_aload_n hx hb dX6_doingOf_260 rfl (lv_at hl 0 rfl) ?_
  refine xg_X6_13 X hP hAll uX6_doingOf_X6 mbX6_doingOf_8 dX6_doingOf_261 ?_
  refine lv_iload_n hx hb dX6_doingOf_264 rfl (lv_at hl 1 rfl) ?_
  obtain ⟨hb_57, hm⟩ := chk_elim hm
  refine x_iald X hP (okc_157 hAll) hb_57 dX6_doingOf_265 ?_
  obtain ⟨M_58, hM_59, hm⟩ := bnd_elim hm
  refine x_iast X hP hS (okc_172 hAll) hM_59 (show inb 13 15 = true from rfl) dX6_doingOf_266 (fun H locs hP hS => ?_)
  refine lv_aload_n hx hb dX6_doingOf_267 rfl (lv_at hl 0 rfl) ?_
  refine xg_X6_40 X hP hAll uX6_doingOf_X6 mbX6_doingOf_2 dX6_doingOf_268 ?_
  refine lv_bipush (v := 14) hx hb dX6_doingOf_271 (by decide) ?_
  refine lv_aload_n hx hb dX6_doingOf_273 rfl (lv_at hl 0 rfl) ?_
  refine xg_X6_9 X hP hAll uX6_doingOf_X6 mbX6_doingOf_9 dX6_doingOf_274 ?_
  refine lv_iload_n hx hb dX6_doingOf_277 rfl (lv_at hl 1 rfl) ?_
  refine x_iald X hP (okc_153 hAll) hb_57 dX6_doingOf_278 ?_
  obtain ⟨M_60, hM_61, hm⟩ := bnd_elim hm
  refine x_iast X hP hS (okc_172 hAll) hM_61 (show inb 14 15 = true from rfl) dX6_doingOf_279 (fun H locs hP hS => ?_)
  refine lv_aload_n hx hb dX6_doingOf_280 rfl (lv_at hl 0 rfl) ?_
  refine lv_aload_n hx hb dX6_doingOf_281 rfl (lv_at hl 0 rfl) ?_
  refine xg_X6_6 X hP hAll uX6_doingOf_X6 mbX6_doingOf_10 dX6_doingOf_282 ?_
  refine lv_iload_n hx hb dX6_doingOf_285 rfl (lv_at hl 1 rfl) ?_
  refine x_iald X hP (okc_150 hAll) hb_57 dX6_doingOf_286 ?_
  obtain ⟨⟨r_63, M_64⟩, hc_62, hm⟩ := bind_elim hm
  replace hm := un2_e hm
  refine x_calli (x_runV (As := [.int (rd M_60 150 (ix s1))]) (rest := []) X hP hS (c_X6_doingBy l X.2.2 hAll hc_62) (cwV 1 hts gX6_doingOf_X6_doingBy rfl rfl rfl (by decide +kernel) ⟨Nat.le_of_ble_eq_true rfl, Nat.le_of_ble_eq_true rfl⟩) (x_recv (C := RX6) (T := TX6) (N := 55) X hP (okc_148 hAll) rfl) rfl hl.1 rfl (Nat.le_of_ble_eq_true rfl) dX6_doingOf_287 ⟨Nat.zero_le _, Nat.zero_le _⟩) hS (fun H locs hP hS => ?_)
  cases hm
  exact x_iret X hP hS hr hlocks dX6_doingOf_290

set_option maxHeartbeats 4000000 in
set_option maxRecDepth 100000 in
theorem wj_X6_doingOf_212 (X : CxG g p s m args c cX6_doingOf 5 RX6 wsX6_doingOf) (hAll : okAll g) {fu : Nat} {M : Mem} {s1 : Int32} {s3 : Int32} {s4 : Int32} {t1 : Int32} {t2 : Int32} {rr : Int32} {MM : Mem} (hr : meth.sig.returnType = (some .int)) (hlocks : meth.locks = false) (hm : j_X6_doingOf_212 fu M s1 s3 s4 t1 t2 = some (rr, MM)) {H : Heap} {locs : List Loc} {ls : Array Slot} (hP : va_P (gD g) vwCl (wlG g M) H) (hS : va_S (AbG g) s.heap H locs) (hl : lv_has ls 5 [(0, .ref (ga g 148)), (1, .int s1), (3, .int s3), (4, .int s4)]) : W p l e (headSpec wsX6_doingOf rmX6_doingOf).room s m args below meth c H locs 0 0 (MQ below (va_Qi (fun (q : Int32) (_ : Unit) => q = rr) (fun _ t => va_P (gD g) vwCl (wlG g MM) t.heap) (AbG g)) args s 0 0 (AbG g)) (F0 m 212 ls [.int t2, .int t1, .ref (ga g 172)]) := by
  obtain ⟨⟨hx, hb, hml, hown, hts⟩, -, -⟩ := id X
  unfold j_X6_doingOf_212 at hm
  obtain ⟨hb_45, hm⟩ := chk_elim hm
  obtain ⟨M_46, hM_47, hm⟩ := bnd_elim hm
  refine x_iast X hP hS (okc_172 hAll) hM_47 hb_45 dX6_doingOf_212 (fun H locs hP hS => ?_)
  refine lv_aload_n hx hb dX6_doingOf_213 rfl (lv_at hl 0 rfl) ?_
  refine xg_X6_40 X hP hAll uX6_doingOf_X6 mbX6_doingOf_2 dX6_doingOf_214 ?_
  refine lv_bipush (v := 11) hx hb dX6_doingOf_217 (by decide) ?_
  refine lv_aload_n hx hb dX6_doingOf_219 rfl (lv_at hl 0 rfl) ?_
  refine xg_X6_7 X hP hAll uX6_doingOf_X6 mbX6_doingOf_7 dX6_doingOf_220 ?_
  refine lv_iload hx hb dX6_doingOf_223 (lv_at hl 3 rfl) ?_
  obtain ⟨hb_48, hm⟩ := chk_elim hm
  refine x_iald X hP (okc_151 hAll) hb_48 dX6_doingOf_225 ?_
  refine lv_aload_n hx hb dX6_doingOf_226 rfl (lv_at hl 0 rfl) ?_
  refine xg_X6_7 X hP hAll uX6_doingOf_X6 mbX6_doingOf_7 dX6_doingOf_227 ?_
  refine lv_iload_n hx hb dX6_doingOf_230 rfl (lv_at hl 1 rfl) ?_
  obtain ⟨hb_49, hm⟩ := chk_elim hm
  refine x_iald X hP (okc_151 hAll) hb_49 dX6_doingOf_231 ?_
  refine lv_icmp_ne (tgt := 239) hx hb dX6_doingOf_232 (by decide) (fun h_50 => ?_) (fun h_50 => ?_)
  · rw [if_neg h_50] at hm
    refine lv_iconst (v := 0) hx hb dX6_doingOf_239 (by decide) ?_
    exact wj_X6_doingOf_240 X hAll hr hlocks hm hP hS (lv_sub hl [0, 1, 2] rfl)
  · rw [if_pos h_50] at hm
    refine lv_iconst (v := 1) hx hb dX6_doingOf_235 (by decide) ?_
    refine lv_goto (tgt := 240) hx hb dX6_doingOf_236 (by decide) ?_
    exact wj_X6_doingOf_240 X hAll hr hlocks hm hP hS (lv_sub hl [0, 1, 2] rfl)

set_option maxHeartbeats 4000000 in
set_option maxRecDepth 100000 in
theorem wj_X6_doingOf_118 (X : CxG g p s m args c cX6_doingOf 5 RX6 wsX6_doingOf) (hAll : okAll g) {fu : Nat} {M : Mem} {s1 : Int32} {s3 : Int32} {s4 : Int32} {t1 : Int32} {t2 : Int32} {t4 : Int32} {rr : Int32} {MM : Mem} (hr : meth.sig.returnType = (some .int)) (hlocks : meth.locks = false) (hm : j_X6_doingOf_118 fu M s1 s3 s4 t1 t2 t4 = some (rr, MM)) {H : Heap} {locs : List Loc} {ls : Array Slot} (hP : va_P (gD g) vwCl (wlG g M) H) (hS : va_S (AbG g) s.heap H locs) (hl : lv_has ls 5 [(0, .ref (ga g 148)), (1, .int s1), (3, .int s3), (4, .int s4)]) : W p l e (headSpec wsX6_doingOf rmX6_doingOf).room s m args below meth c H locs 0 0 (MQ below (va_Qi (fun (q : Int32) (_ : Unit) => q = rr) (fun _ t => va_P (gD g) vwCl (wlG g MM) t.heap) (AbG g)) args s 0 0 (AbG g)) (F0 m 118 ls [.int t4, .ref (ga g 148), .int t2, .int t1, .ref (ga g 172)]) := by
  obtain ⟨⟨hx, hb, hml, hown, hts⟩, -, -⟩ := id X
  unfold j_X6_doingOf_118 at hm
  obtain ⟨r_27, hc_26, hm⟩ := bind_elim hm
  refine x_calli (x_runV (As := [.int t4]) (rest := [.int t2, .int t1, .ref (ga g 172)]) X hP hS (c_X6_worthOf l X.2.2 hAll hc_26) (cwV 1 hts gX6_doingOf_X6_worthOf rfl rfl rfl (by decide +kernel) ⟨Nat.le_of_ble_eq_true rfl, Nat.le_of_ble_eq_true rfl⟩) (x_recv (C := RX6) (T := TX6) (N := 55) X hP (okc_148 hAll) rfl) rfl hl.1 rfl (Nat.le_of_ble_eq_true rfl) dX6_doingOf_118 ⟨Nat.zero_le _, Nat.zero_le _⟩) hS (fun H locs hP hS => ?_)
  refine lv_isub hx hb dX6_doingOf_121 ?_
  obtain ⟨hb_28, hm⟩ := chk_elim hm
  obtain ⟨M_29, hM_30, hm⟩ := bnd_elim hm
  refine x_iast X hP hS (okc_172 hAll) hM_30 hb_28 dX6_doingOf_122 (fun H locs hP hS => ?_)
  refine lv_aload_n hx hb dX6_doingOf_123 rfl (lv_at hl 0 rfl) ?_
  refine xg_X6_40 X hP hAll uX6_doingOf_X6 mbX6_doingOf_2 dX6_doingOf_124 ?_
  refine lv_iconst (v := 5) hx hb dX6_doingOf_127 (by decide) ?_
  refine lv_aload_n hx hb dX6_doingOf_128 rfl (lv_at hl 0 rfl) ?_
  refine xg_X6_3 X hP hAll uX6_doingOf_X6 mbX6_doingOf_4 dX6_doingOf_129 ?_
  obtain ⟨M_31, hM_32, hm⟩ := bnd_elim hm
  refine x_iast X hP hS (okc_172 hAll) hM_32 (show inb 5 15 = true from rfl) dX6_doingOf_132 (fun H locs hP hS => ?_)
  refine lv_aload_n hx hb dX6_doingOf_133 rfl (lv_at hl 0 rfl) ?_
  refine xg_X6_40 X hP hAll uX6_doingOf_X6 mbX6_doingOf_2 dX6_doingOf_134 ?_
  refine lv_bipush (v := 6) hx hb dX6_doingOf_137 (by decide) ?_
  refine lv_aload_n hx hb dX6_doingOf_139 rfl (lv_at hl 0 rfl) ?_
  refine xg_X6_10 X hP hAll uX6_doingOf_X6 mbX6_doingOf_5 dX6_doingOf_140 ?_
  refine lv_iload_n hx hb dX6_doingOf_143 rfl (lv_at hl 1 rfl) ?_
  obtain ⟨hb_33, hm⟩ := chk_elim hm
  refine x_iald X hP (okc_154 hAll) hb_33 dX6_doingOf_144 ?_
  obtain ⟨M_34, hM_35, hm⟩ := bnd_elim hm
  refine x_iast X hP hS (okc_172 hAll) hM_35 (show inb 6 15 = true from rfl) dX6_doingOf_145 (fun H locs hP hS => ?_)
  refine lv_aload_n hx hb dX6_doingOf_146 rfl (lv_at hl 0 rfl) ?_
  refine xg_X6_40 X hP hAll uX6_doingOf_X6 mbX6_doingOf_2 dX6_doingOf_147 ?_
  refine lv_bipush (v := 7) hx hb dX6_doingOf_150 (by decide) ?_
  refine lv_aload_n hx hb dX6_doingOf_152 rfl (lv_at hl 0 rfl) ?_
  refine xg_X6_8 X hP hAll uX6_doingOf_X6 mbX6_doingOf_6 dX6_doingOf_153 ?_
  refine lv_iload_n hx hb dX6_doingOf_156 rfl (lv_at hl 1 rfl) ?_
  refine x_iald X hP (okc_152 hAll) hb_33 dX6_doingOf_157 ?_
  obtain ⟨M_36, hM_37, hm⟩ := bnd_elim hm
  refine x_iast X hP hS (okc_172 hAll) hM_37 (show inb 7 15 = true from rfl) dX6_doingOf_158 (fun H locs hP hS => ?_)
  refine lv_aload_n hx hb dX6_doingOf_159 rfl (lv_at hl 0 rfl) ?_
  refine xg_X6_40 X hP hAll uX6_doingOf_X6 mbX6_doingOf_2 dX6_doingOf_160 ?_
  refine lv_bipush (v := 8) hx hb dX6_doingOf_163 (by decide) ?_
  refine lv_aload_n hx hb dX6_doingOf_165 rfl (lv_at hl 0 rfl) ?_
  refine xg_X6_8 X hP hAll uX6_doingOf_X6 mbX6_doingOf_6 dX6_doingOf_166 ?_
  refine lv_iload_n hx hb dX6_doingOf_169 rfl (lv_at hl 2 rfl) ?_
  obtain ⟨hb_38, hm⟩ := chk_elim hm
  refine x_iald X hP (okc_152 hAll) hb_38 dX6_doingOf_170 ?_
  obtain ⟨M_39, hM_40, hm⟩ := bnd_elim hm
  refine x_iast X hP hS (okc_172 hAll) hM_40 (show inb 8 15 = true from rfl) dX6_doingOf_171 (fun H locs hP hS => ?_)
  refine lv_aload_n hx hb dX6_doingOf_172 rfl (lv_at hl 0 rfl) ?_
  refine xg_X6_40 X hP hAll uX6_doingOf_X6 mbX6_doingOf_2 dX6_doingOf_173 ?_
  refine lv_bipush (v := 9) hx hb dX6_doingOf_176 (by decide) ?_
  refine lv_aload_n hx hb dX6_doingOf_178 rfl (lv_at hl 0 rfl) ?_
  refine xg_X6_8 X hP hAll uX6_doingOf_X6 mbX6_doingOf_6 dX6_doingOf_179 ?_
  refine lv_iload hx hb dX6_doingOf_182 (lv_at hl 3 rfl) ?_
  obtain ⟨hb_41, hm⟩ := chk_elim hm
  refine x_iald X hP (okc_152 hAll) hb_41 dX6_doingOf_184 ?_
  obtain ⟨M_42, hM_43, hm⟩ := bnd_elim hm
  refine x_iast X hP hS (okc_172 hAll) hM_43 (show inb 9 15 = true from rfl) dX6_doingOf_185 (fun H locs hP hS => ?_)
  refine lv_aload_n hx hb dX6_doingOf_186 rfl (lv_at hl 0 rfl) ?_
  refine xg_X6_40 X hP hAll uX6_doingOf_X6 mbX6_doingOf_2 dX6_doingOf_187 ?_
  refine lv_bipush (v := 10) hx hb dX6_doingOf_190 (by decide) ?_
  refine lv_aload_n hx hb dX6_doingOf_192 rfl (lv_at hl 0 rfl) ?_
  refine xg_X6_7 X hP hAll uX6_doingOf_X6 mbX6_doingOf_7 dX6_doingOf_193 ?_
  refine lv_iload_n hx hb dX6_doingOf_196 rfl (lv_at hl 2 rfl) ?_
  refine x_iald X hP (okc_151 hAll) hb_38 dX6_doingOf_197 ?_
  refine lv_aload_n hx hb dX6_doingOf_198 rfl (lv_at hl 0 rfl) ?_
  refine xg_X6_7 X hP hAll uX6_doingOf_X6 mbX6_doingOf_7 dX6_doingOf_199 ?_
  refine lv_iload_n hx hb dX6_doingOf_202 rfl (lv_at hl 1 rfl) ?_
  refine x_iald X hP (okc_151 hAll) hb_33 dX6_doingOf_203 ?_
  refine lv_icmp_ne (tgt := 211) hx hb dX6_doingOf_204 (by decide) (fun h_44 => ?_) (fun h_44 => ?_)
  · rw [if_neg h_44] at hm
    refine lv_iconst (v := 0) hx hb dX6_doingOf_211 (by decide) ?_
    exact wj_X6_doingOf_212 X hAll hr hlocks hm hP hS (lv_sub hl [0, 1, 2, 3] rfl)
  · rw [if_pos h_44] at hm
    refine lv_iconst (v := 1) hx hb dX6_doingOf_207 (by decide) ?_
    refine lv_goto (tgt := 212) hx hb dX6_doingOf_208 (by decide) ?_
    exact wj_X6_doingOf_212 X hAll hr hlocks hm hP hS (lv_sub hl [0, 1, 2, 3] rfl)

set_option maxHeartbeats 4000000 in
set_option maxRecDepth 100000 in
theorem c_X6_doingOf (l : Launch) {g : GT} (hA : AxG g) (hAll : okAll g)   {fu : Nat} {M : Mem} {a1 : Int32} {rr : Int32} {MM : Mem} (hm : m_X6_doingOf fu M a1 = some (rr, MM)) : CI l yX6_doingOf wsX6_doingOf rmX6_doingOf g [.ref (ga g 148), .int a1] M rr MM := by
  refine Met.ofW (cc := cX6_doingOf) (maxL := 5) (ret := (some .int)) (by decide) rfl ?_
  intro p e s m args below meth c s₁ B hml hv
  obtain ⟨rfl, hSx, hP⟩ := hv
  have hr := B.returns
  have hlocks := B.notSynchronized
  have X : CxG g p s m _ c cX6_doingOf 5 RX6 wsX6_doingOf := ⟨⟨B.exec, B.bytes, hml, findClass_of_methodNamed B.named, atoms_spec (ws := wsX6_doingOf) B.pre⟩, hSx, hA⟩
  have hS : va_S (AbG g) s.heap s.heap [] := va_S.rf
  have hl := lv_entry (([.ref (ga g 148), .int a1] : List Value)) (n := 5) (Nat.le_of_ble_eq_true rfl)
  rw [lg_entry_eq]
  generalize (lg_sl (([.ref (ga g 148), .int a1] : List Value)) ++ List.replicate (5 - (lg_sl (([.ref (ga g 148), .int a1] : List Value))).length) Slot.unset).toArray = ls at hl ⊢
  have hl : lv_has ls 5 [(0, .ref (ga g 148)), (1, .int a1)] := hl
  obtain ⟨⟨hx, hb, hml, hown, hts⟩, -, -⟩ := id X
  unfold m_X6_doingOf at hm
  refine lv_aload_n hx hb dX6_doingOf_0 rfl (lv_at hl 0 rfl) ?_
  refine xg_X6_5 X hP hAll uX6_doingOf_X6 mbX6_doingOf_1 dX6_doingOf_1 ?_
  refine lv_iload_n hx hb dX6_doingOf_4 rfl (lv_at hl 1 rfl) ?_
  obtain ⟨hb_1, hm⟩ := chk_elim hm
  refine x_iald X hP (okc_149 hAll) hb_1 dX6_doingOf_5 ?_
  obtain ⟨v_2, hv_3, hm⟩ := bnd_elim hm
  refine x_name hv_3 ?_
  refine lv_istore_n (lv' := [(2, .int v_2), (0, .ref (ga g 148)), (1, .int a1)]) hx hb dX6_doingOf_6 rfl hl (by decide) rfl (fun ls hl => ?_)
  refine lv_iload_n hx hb dX6_doingOf_7 rfl (lv_at hl 0 rfl) ?_
  refine lv_if_ne (tgt := 13) hx hb dX6_doingOf_8 (by decide) (fun h_4 => ?_) (fun h_4 => ?_)
  · rw [if_neg h_4] at hm
    refine lv_aload_n hx hb dX6_doingOf_13 rfl (lv_at hl 1 rfl) ?_
    refine lv_iload_n hx hb dX6_doingOf_14 rfl (lv_at hl 2 rfl) ?_
    obtain ⟨r_6, hc_5, hm⟩ := bind_elim hm
    refine x_calli (x_runV (As := [.int a1]) (rest := []) X hP hS (c_X6_leftOf l X.2.2 hAll hc_5) (cwV 1 hts gX6_doingOf_X6_leftOf rfl rfl rfl (by decide +kernel) ⟨Nat.le_of_ble_eq_true rfl, Nat.le_of_ble_eq_true rfl⟩) (x_recv (C := RX6) (T := TX6) (N := 55) X hP (okc_148 hAll) rfl) rfl hl.1 rfl (Nat.le_of_ble_eq_true rfl) dX6_doingOf_15 ⟨Nat.zero_le _, Nat.zero_le _⟩) hS (fun H locs hP hS => ?_)
    refine lv_istore_n (lv' := [(3, .int r_6), (2, .int v_2), (0, .ref (ga g 148)), (1, .int a1)]) hx hb dX6_doingOf_18 rfl hl (by decide) rfl (fun ls hl => ?_)
    refine lv_aload_n hx hb dX6_doingOf_19 rfl (lv_at hl 2 rfl) ?_
    refine lv_iload_n hx hb dX6_doingOf_20 rfl (lv_at hl 3 rfl) ?_
    obtain ⟨r_8, hc_7, hm⟩ := bind_elim hm
    refine x_calli (x_runV (As := [.int a1]) (rest := []) X hP hS (c_X6_rightOf l X.2.2 hAll hc_7) (cwV 1 hts gX6_doingOf_X6_rightOf rfl rfl rfl (by decide +kernel) ⟨Nat.le_of_ble_eq_true rfl, Nat.le_of_ble_eq_true rfl⟩) (x_recv (C := RX6) (T := TX6) (N := 55) X hP (okc_148 hAll) rfl) rfl hl.1 rfl (Nat.le_of_ble_eq_true rfl) dX6_doingOf_21 ⟨Nat.zero_le _, Nat.zero_le _⟩) hS (fun H locs hP hS => ?_)
    refine lv_istore (lv' := [(4, .int r_8), (3, .int r_6), (2, .int v_2), (0, .ref (ga g 148)), (1, .int a1)]) hx hb dX6_doingOf_24 hl (by decide) rfl (fun ls hl => ?_)
    refine lv_aload_n hx hb dX6_doingOf_26 rfl (lv_at hl 3 rfl) ?_
    refine xg_X6_40 X hP hAll uX6_doingOf_X6 mbX6_doingOf_2 dX6_doingOf_27 ?_
    refine lv_iconst (v := 0) hx hb dX6_doingOf_30 (by decide) ?_
    refine lv_iload_n hx hb dX6_doingOf_31 rfl (lv_at hl 2 rfl) ?_
    obtain ⟨M_9, hM_10, hm⟩ := bnd_elim hm
    refine x_iast X hP hS (okc_172 hAll) hM_10 (show inb 0 15 = true from rfl) dX6_doingOf_32 (fun H locs hP hS => ?_)
    refine lv_aload_n hx hb dX6_doingOf_33 rfl (lv_at hl 3 rfl) ?_
    refine xg_X6_40 X hP hAll uX6_doingOf_X6 mbX6_doingOf_2 dX6_doingOf_34 ?_
    refine lv_iconst (v := 1) hx hb dX6_doingOf_37 (by decide) ?_
    refine lv_aload_n hx hb dX6_doingOf_38 rfl (lv_at hl 3 rfl) ?_
    refine xg_X6_5 X hP hAll uX6_doingOf_X6 mbX6_doingOf_1 dX6_doingOf_39 ?_
    refine lv_iload_n hx hb dX6_doingOf_42 rfl (lv_at hl 1 rfl) ?_
    obtain ⟨hb_11, hm⟩ := chk_elim hm
    refine x_iald X hP (okc_149 hAll) hb_11 dX6_doingOf_43 ?_
    obtain ⟨M_12, hM_13, hm⟩ := bnd_elim hm
    refine x_iast X hP hS (okc_172 hAll) hM_13 (show inb 1 15 = true from rfl) dX6_doingOf_44 (fun H locs hP hS => ?_)
    refine lv_aload_n hx hb dX6_doingOf_45 rfl (lv_at hl 3 rfl) ?_
    refine xg_X6_40 X hP hAll uX6_doingOf_X6 mbX6_doingOf_2 dX6_doingOf_46 ?_
    refine lv_iconst (v := 2) hx hb dX6_doingOf_49 (by decide) ?_
    refine lv_aload_n hx hb dX6_doingOf_50 rfl (lv_at hl 3 rfl) ?_
    refine xg_X6_5 X hP hAll uX6_doingOf_X6 mbX6_doingOf_1 dX6_doingOf_51 ?_
    refine lv_iload hx hb dX6_doingOf_54 (lv_at hl 0 rfl) ?_
    obtain ⟨hb_14, hm⟩ := chk_elim hm
    refine x_iald X hP (okc_149 hAll) hb_14 dX6_doingOf_56 ?_
    obtain ⟨M_15, hM_16, hm⟩ := bnd_elim hm
    refine x_iast X hP hS (okc_172 hAll) hM_16 (show inb 2 15 = true from rfl) dX6_doingOf_57 (fun H locs hP hS => ?_)
    refine lv_aload_n hx hb dX6_doingOf_58 rfl (lv_at hl 3 rfl) ?_
    refine xg_X6_40 X hP hAll uX6_doingOf_X6 mbX6_doingOf_2 dX6_doingOf_59 ?_
    refine lv_iconst (v := 3) hx hb dX6_doingOf_62 (by decide) ?_
    refine lv_aload_n hx hb dX6_doingOf_63 rfl (lv_at hl 3 rfl) ?_
    refine lv_iload_n hx hb dX6_doingOf_64 rfl (lv_at hl 2 rfl) ?_
    refine lv_aload_n hx hb dX6_doingOf_65 rfl (lv_at hl 3 rfl) ?_
    refine xg_X6_18 X hP hAll uX6_doingOf_X6 mbX6_doingOf_3 dX6_doingOf_66 ?_
    refine lv_bipush (v := 9) hx hb dX6_doingOf_69 (by decide) ?_
    refine x_iald X hP (okc_162 hAll) (show inb 9 10 = true from rfl) dX6_doingOf_71 ?_
    refine lv_iadd hx hb dX6_doingOf_72 ?_
    obtain ⟨r_18, hc_17, hm⟩ := bind_elim hm
    refine x_calli (x_runV (As := [.int (v_2 + (rd M_15 162 (ix 9)))]) (rest := [.int 3, .ref (ga g 172)]) X hP hS (c_X6_worthOf l X.2.2 hAll hc_17) (cwV 1 hts gX6_doingOf_X6_worthOf rfl rfl rfl (by decide +kernel) ⟨Nat.le_of_ble_eq_true rfl, Nat.le_of_ble_eq_true rfl⟩) (x_recv (C := RX6) (T := TX6) (N := 55) X hP (okc_148 hAll) rfl) rfl hl.1 rfl (Nat.le_of_ble_eq_true rfl) dX6_doingOf_73 ⟨Nat.zero_le _, Nat.zero_le _⟩) hS (fun H locs hP hS => ?_)
    refine lv_aload_n hx hb dX6_doingOf_76 rfl (lv_at hl 3 rfl) ?_
    refine lv_iload_n hx hb dX6_doingOf_77 rfl (lv_at hl 2 rfl) ?_
    obtain ⟨r_20, hc_19, hm⟩ := bind_elim hm
    refine x_calli (x_runV (As := [.int v_2]) (rest := [.int r_18, .int 3, .ref (ga g 172)]) X hP hS (c_X6_worthOf l X.2.2 hAll hc_19) (cwV 1 hts gX6_doingOf_X6_worthOf rfl rfl rfl (by decide +kernel) ⟨Nat.le_of_ble_eq_true rfl, Nat.le_of_ble_eq_true rfl⟩) (x_recv (C := RX6) (T := TX6) (N := 55) X hP (okc_148 hAll) rfl) rfl hl.1 rfl (Nat.le_of_ble_eq_true rfl) dX6_doingOf_78 ⟨Nat.zero_le _, Nat.zero_le _⟩) hS (fun H locs hP hS => ?_)
    refine lv_isub hx hb dX6_doingOf_81 ?_
    obtain ⟨M_21, hM_22, hm⟩ := bnd_elim hm
    refine x_iast X hP hS (okc_172 hAll) hM_22 (show inb 3 15 = true from rfl) dX6_doingOf_82 (fun H locs hP hS => ?_)
    refine lv_aload_n hx hb dX6_doingOf_83 rfl (lv_at hl 3 rfl) ?_
    refine xg_X6_40 X hP hAll uX6_doingOf_X6 mbX6_doingOf_2 dX6_doingOf_84 ?_
    refine lv_iconst (v := 4) hx hb dX6_doingOf_87 (by decide) ?_
    refine lv_aload_n hx hb dX6_doingOf_88 rfl (lv_at hl 3 rfl) ?_
    refine lv_iload_n hx hb dX6_doingOf_89 rfl (lv_at hl 2 rfl) ?_
    obtain ⟨r_24, hc_23, hm⟩ := bind_elim hm
    refine x_calli (x_runV (As := [.int v_2]) (rest := [.int 4, .ref (ga g 172)]) X hP hS (c_X6_worthOf l X.2.2 hAll hc_23) (cwV 1 hts gX6_doingOf_X6_worthOf rfl rfl rfl (by decide +kernel) ⟨Nat.le_of_ble_eq_true rfl, Nat.le_of_ble_eq_true rfl⟩) (x_recv (C := RX6) (T := TX6) (N := 55) X hP (okc_148 hAll) rfl) rfl hl.1 rfl (Nat.le_of_ble_eq_true rfl) dX6_doingOf_90 ⟨Nat.zero_le _, Nat.zero_le _⟩) hS (fun H locs hP hS => ?_)
    refine lv_aload_n hx hb dX6_doingOf_93 rfl (lv_at hl 3 rfl) ?_
    refine lv_iload_n hx hb dX6_doingOf_94 rfl (lv_at hl 2 rfl) ?_
    refine lv_aload_n hx hb dX6_doingOf_95 rfl (lv_at hl 3 rfl) ?_
    refine xg_X6_18 X hP hAll uX6_doingOf_X6 mbX6_doingOf_3 dX6_doingOf_96 ?_
    refine lv_bipush (v := 9) hx hb dX6_doingOf_99 (by decide) ?_
    refine x_iald X hP (okc_162 hAll) (show inb 9 10 = true from rfl) dX6_doingOf_101 ?_
    refine lv_icmp_le (tgt := 117) hx hb dX6_doingOf_102 (by decide) (fun h_25 => ?_) (fun h_25 => ?_)
    · rw [if_pos h_25] at hm
      refine lv_iconst (v := 0) hx hb dX6_doingOf_117 (by decide) ?_
      exact wj_X6_doingOf_118 X hAll hr hlocks hm hP hS (lv_sub hl [3, 4, 1, 0] rfl)
    · rw [if_neg h_25] at hm
      refine lv_iload_n hx hb dX6_doingOf_105 rfl (lv_at hl 2 rfl) ?_
      refine lv_aload_n hx hb dX6_doingOf_106 rfl (lv_at hl 3 rfl) ?_
      refine xg_X6_18 X hP hAll uX6_doingOf_X6 mbX6_doingOf_3 dX6_doingOf_107 ?_
      refine lv_bipush (v := 9) hx hb dX6_doingOf_110 (by decide) ?_
      refine x_iald X hP (okc_162 hAll) (show inb 9 10 = true from rfl) dX6_doingOf_112 ?_
      refine lv_isub hx hb dX6_doingOf_113 ?_
      refine lv_goto (tgt := 118) hx hb dX6_doingOf_114 (by decide) ?_
      exact wj_X6_doingOf_118 X hAll hr hlocks hm hP hS (lv_sub hl [3, 4, 1, 0] rfl)
  · rw [if_pos h_4] at hm
    refine lv_iconst (v := 0) hx hb dX6_doingOf_11 (by decide) ?_
    cases hm
    exact x_iret X hP hS hr hlocks dX6_doingOf_12


/-! X6_isStopped -/
def rmX6_isStopped : Room := { frames := 1, cells := 0, slots := 0, locals := 21 }
theorem uX6_isStopped_X6 : ∀ w ∈ wsX60, w ∈ wsX6_isStopped := by decide +kernel
theorem mbX6_isStopped_1 : Cond.fieldLink RX6 92 "FootANightModel" "doing" "[I" ∈ wsX6_isStopped := by decide +kernel
theorem mbX6_isStopped_2 : Cond.fieldLink RX6 23 "FootANightModel" "dogOf" "[I" ∈ wsX6_isStopped := by decide +kernel
theorem mbX6_isStopped_3 : Cond.fieldLink RX6 53 "FootANightModel" "settings" "[I" ∈ wsX6_isStopped := by decide +kernel
set_option maxHeartbeats 4000000 in
set_option maxRecDepth 100000 in
theorem c_X6_isStopped (l : Launch) {g : GT} (hA : AxG g) (hAll : okAll g)   {M : Mem} {a1 : Int32} {rr : Int32} {MM : Mem} (hm : m_X6_isStopped M a1 = some (rr, MM)) : CI l yX6_isStopped wsX6_isStopped rmX6_isStopped g [.ref (ga g 148), .int a1] M rr MM := by
  refine Met.ofW (cc := cX6_isStopped) (maxL := 2) (ret := (some .boolean)) (by decide) rfl ?_
  intro p e s m args below meth c s₁ B hml hv
  obtain ⟨rfl, hSx, hP⟩ := hv
  have hr := B.returns
  have hlocks := B.notSynchronized
  have X : CxG g p s m _ c cX6_isStopped 2 RX6 wsX6_isStopped := ⟨⟨B.exec, B.bytes, hml, findClass_of_methodNamed B.named, atoms_spec (ws := wsX6_isStopped) B.pre⟩, hSx, hA⟩
  have hS : va_S (AbG g) s.heap s.heap [] := va_S.rf
  have hl := lv_entry (([.ref (ga g 148), .int a1] : List Value)) (n := 2) (Nat.le_of_ble_eq_true rfl)
  rw [lg_entry_eq]
  generalize (lg_sl (([.ref (ga g 148), .int a1] : List Value)) ++ List.replicate (2 - (lg_sl (([.ref (ga g 148), .int a1] : List Value))).length) Slot.unset).toArray = ls at hl ⊢
  have hl : lv_has ls 2 [(0, .ref (ga g 148)), (1, .int a1)] := hl
  obtain ⟨⟨hx, hb, hml, hown, hts⟩, -, -⟩ := id X
  unfold m_X6_isStopped at hm
  refine lv_aload_n hx hb dX6_isStopped_0 rfl (lv_at hl 0 rfl) ?_
  refine xg_X6_42 X hP hAll uX6_isStopped_X6 mbX6_isStopped_1 dX6_isStopped_1 ?_
  refine lv_iload_n hx hb dX6_isStopped_4 rfl (lv_at hl 1 rfl) ?_
  obtain ⟨hb_1, hm⟩ := chk_elim hm
  refine x_iald X hP (okc_174 hAll) hb_1 dX6_isStopped_5 ?_
  refine lv_iconst (v := 1) hx hb dX6_isStopped_6 (by decide) ?_
  refine lv_icmp_ne (tgt := 33) hx hb dX6_isStopped_7 (by decide) (fun h_2 => ?_) (fun h_2 => ?_)
  · rw [if_neg h_2] at hm
    refine lv_aload_n hx hb dX6_isStopped_33 rfl (lv_at hl 0 rfl) ?_
    refine xg_X6_8 X hP hAll uX6_isStopped_X6 mbX6_isStopped_2 dX6_isStopped_34 ?_
    refine lv_iload_n hx hb dX6_isStopped_37 rfl (lv_at hl 1 rfl) ?_
    refine x_iald X hP (okc_152 hAll) hb_1 dX6_isStopped_38 ?_
    refine lv_iconst (v := 1) hx hb dX6_isStopped_39 (by decide) ?_
    refine lv_icmp_ne (tgt := 64) hx hb dX6_isStopped_40 (by decide) (fun h_3 => ?_) (fun h_3 => ?_)
    · rw [if_neg h_3] at hm
      refine lv_iconst (v := 0) hx hb dX6_isStopped_64 (by decide) ?_
      cases hm
      exact x_zret X (by decide) hP hS hr hlocks dX6_isStopped_65
    · rw [if_pos h_3] at hm
      refine lv_aload_n hx hb dX6_isStopped_43 rfl (lv_at hl 0 rfl) ?_
      refine lv_sipush (v := 1000) hx hb dX6_isStopped_44 (by decide) ?_
      obtain ⟨⟨r_5, M_6⟩, hc_4, hm⟩ := bind_elim hm
      replace hm := un2_e hm
      refine x_calli (x_runV (As := [.int 1000]) (rest := []) X hP hS (c_X6_draw l X.2.2 hAll hc_4) (cwV 1 hts gX6_isStopped_X6_draw rfl rfl rfl (by decide +kernel) ⟨Nat.le_of_ble_eq_true rfl, Nat.le_of_ble_eq_true rfl⟩) (x_recv (C := RX6) (T := TX6) (N := 55) X hP (okc_148 hAll) rfl) rfl hl.1 rfl (Nat.le_of_ble_eq_true rfl) dX6_isStopped_47 ⟨Nat.zero_le _, Nat.zero_le _⟩) hS (fun H locs hP hS => ?_)
      refine lv_aload_n hx hb dX6_isStopped_50 rfl (lv_at hl 0 rfl) ?_
      refine xg_X6_18 X hP hAll uX6_isStopped_X6 mbX6_isStopped_3 dX6_isStopped_51 ?_
      refine lv_bipush (v := 8) hx hb dX6_isStopped_54 (by decide) ?_
      refine x_iald X hP (okc_162 hAll) (show inb 8 10 = true from rfl) dX6_isStopped_56 ?_
      refine lv_icmp_ge (tgt := 64) hx hb dX6_isStopped_57 (by decide) (fun h_7 => ?_) (fun h_7 => ?_)
      · rw [if_pos h_7] at hm
        refine lv_iconst (v := 0) hx hb dX6_isStopped_64 (by decide) ?_
        cases hm
        exact x_zret X (by decide) hP hS hr hlocks dX6_isStopped_65
      · rw [if_neg h_7] at hm
        refine lv_iconst (v := 1) hx hb dX6_isStopped_60 (by decide) ?_
        refine lv_goto (tgt := 65) hx hb dX6_isStopped_61 (by decide) ?_
        cases hm
        exact x_zret X (by decide) hP hS hr hlocks dX6_isStopped_65
  · rw [if_pos h_2] at hm
    refine lv_aload_n hx hb dX6_isStopped_10 rfl (lv_at hl 0 rfl) ?_
    refine lv_sipush (v := 1000) hx hb dX6_isStopped_11 (by decide) ?_
    obtain ⟨⟨r_9, M_10⟩, hc_8, hm⟩ := bind_elim hm
    replace hm := un2_e hm
    refine x_calli (x_runV (As := [.int 1000]) (rest := []) X hP hS (c_X6_draw l X.2.2 hAll hc_8) (cwV 1 hts gX6_isStopped_X6_draw rfl rfl rfl (by decide +kernel) ⟨Nat.le_of_ble_eq_true rfl, Nat.le_of_ble_eq_true rfl⟩) (x_recv (C := RX6) (T := TX6) (N := 55) X hP (okc_148 hAll) rfl) rfl hl.1 rfl (Nat.le_of_ble_eq_true rfl) dX6_isStopped_14 ⟨Nat.zero_le _, Nat.zero_le _⟩) hS (fun H locs hP hS => ?_)
    refine lv_aload_n hx hb dX6_isStopped_17 rfl (lv_at hl 0 rfl) ?_
    refine xg_X6_18 X hP hAll uX6_isStopped_X6 mbX6_isStopped_3 dX6_isStopped_18 ?_
    refine lv_bipush (v := 7) hx hb dX6_isStopped_21 (by decide) ?_
    refine x_iald X hP (okc_162 hAll) (show inb 7 10 = true from rfl) dX6_isStopped_23 ?_
    refine lv_icmp_ge (tgt := 31) hx hb dX6_isStopped_24 (by decide) (fun h_11 => ?_) (fun h_11 => ?_)
    · rw [if_pos h_11] at hm
      refine lv_iconst (v := 0) hx hb dX6_isStopped_31 (by decide) ?_
      cases hm
      exact x_zret X (by decide) hP hS hr hlocks dX6_isStopped_32
    · rw [if_neg h_11] at hm
      refine lv_iconst (v := 1) hx hb dX6_isStopped_27 (by decide) ?_
      refine lv_goto (tgt := 32) hx hb dX6_isStopped_28 (by decide) ?_
      cases hm
      exact x_zret X (by decide) hP hS hr hlocks dX6_isStopped_32


/-! X6_moves -/
def rmX6_moves : Room := { frames := 2, cells := 0, slots := 0, locals := 42 }
theorem uX6_moves_X6 : ∀ w ∈ wsX60, w ∈ wsX6_moves := by decide +kernel
theorem mbX6_moves_1 : Cond.fieldLink RX6 38 "FootANightModel" "wallOf" "[I" ∈ wsX6_moves := by decide +kernel
theorem mbX6_moves_2 : Cond.fieldLink RX6 53 "FootANightModel" "settings" "[I" ∈ wsX6_moves := by decide +kernel
theorem mbX6_moves_3 : Cond.fieldLink RX6 13 "FootANightModel" "wide" "[I" ∈ wsX6_moves := by decide +kernel
theorem mbX6_moves_4 : Cond.fieldLink RX6 44 "FootANightModel" "pushOf" "[I" ∈ wsX6_moves := by decide +kernel
theorem mbX6_moves_5 : Cond.fieldLink RX6 47 "FootANightModel" "pushedBy" "[I" ∈ wsX6_moves := by decide +kernel
theorem mbX6_moves_6 : Cond.fieldLink RX6 41 "FootANightModel" "heavyOf" "[I" ∈ wsX6_moves := by decide +kernel
theorem mbX6_moves_7 : Cond.fieldLink RX6 95 "FootANightModel" "lost" "[Z" ∈ wsX6_moves := by decide +kernel
theorem mbX6_moves_8 : Cond.fieldLink RX6 263 "FootANightModel" "moved" "I" ∈ wsX6_moves := by decide +kernel
theorem mbX6_moves_9 : Cond.fieldLink RX6 32 "FootANightModel" "caught" "[I" ∈ wsX6_moves := by decide +kernel
theorem mbX6_moves_10 : Cond.fieldLink RX6 26 "FootANightModel" "purse" "[I" ∈ wsX6_moves := by decide +kernel
set_option maxHeartbeats 4000000 in
set_option maxRecDepth 100000 in
theorem wj_X6_moves_107 (X : CxG g p s m args c cX6_moves 5 RX6 wsX6_moves) (hAll : okAll g) {M : Mem} {s1 : Int32} {s2 : Int32} {s3 : Int32} {t1 : Int32} {t2 : Int32} {MM : Mem} (hr : meth.sig.returnType = none) (hlocks : meth.locks = false) (hm : j_X6_moves_107 M s1 s2 s3 t1 t2 = some MM) {H : Heap} {locs : List Loc} {ls : Array Slot} (hP : va_P (gD g) vwCl (wlG g M) H) (hS : va_S (AbG g) s.heap H locs) (hl : lv_has ls 5 [(0, .ref (ga g 148)), (1, .int s1), (2, .int s2), (3, .int s3)]) : W p l e (headSpec wsX6_moves rmX6_moves).room s m args below meth c H locs 0 0 (MQ below (va_Qv (fun (_ : Unit) => True) (fun _ t => va_P (gD g) vwCl (wlG g MM) t.heap) (AbG g)) args s 0 0 (AbG g)) (F0 m 107 ls [.int t2, .int t1, .ref (ga g 159)]) := by
  obtain ⟨⟨hx, hb, hml, hown, hts⟩, -, -⟩ := id X
  unfold j_X6_moves_107 at hm
  obtain ⟨hb_11, hm⟩ := chk_elim hm
  obtain ⟨M_12, hM_13, hm⟩ := bnd_elim hm
  refine x_iast X hP hS (okc_159 hAll) hM_13 hb_11 dX6_moves_107 (fun H locs hP hS => ?_)
  refine lv_aload_n hx hb dX6_moves_108 rfl (lv_at hl 0 rfl) ?_
  refine xg_X6_16 X hP hAll uX6_moves_X6 mbX6_moves_5 dX6_moves_109 ?_
  refine lv_iload_n hx hb dX6_moves_112 rfl (lv_at hl 2 rfl) ?_
  refine lv_iload_n hx hb dX6_moves_113 rfl (lv_at hl 1 rfl) ?_
  obtain ⟨hb_14, hm⟩ := chk_elim hm
  obtain ⟨M_15, hM_16, hm⟩ := bnd_elim hm
  refine x_iast X hP hS (okc_160 hAll) hM_16 hb_14 dX6_moves_114 (fun H locs hP hS => ?_)
  refine lv_aload_n hx hb dX6_moves_115 rfl (lv_at hl 0 rfl) ?_
  refine xg_X6_15 X hP hAll uX6_moves_X6 mbX6_moves_4 dX6_moves_116 ?_
  refine lv_iload_n hx hb dX6_moves_119 rfl (lv_at hl 2 rfl) ?_
  refine x_iald X hP (okc_159 hAll) hb_14 dX6_moves_120 ?_
  refine lv_aload_n hx hb dX6_moves_121 rfl (lv_at hl 0 rfl) ?_
  refine xg_X6_14 X hP hAll uX6_moves_X6 mbX6_moves_6 dX6_moves_122 ?_
  refine lv_iload_n hx hb dX6_moves_125 rfl (lv_at hl 2 rfl) ?_
  refine x_iald X hP (okc_158 hAll) hb_14 dX6_moves_126 ?_
  refine lv_icmp_gt (tgt := 131) hx hb dX6_moves_127 (by decide) (fun h_17 => ?_) (fun h_17 => ?_)
  · rw [if_pos h_17] at hm
    refine lv_aload_n hx hb dX6_moves_131 rfl (lv_at hl 0 rfl) ?_
    refine lv_aload_n hx hb dX6_moves_132 rfl (lv_at hl 0 rfl) ?_
    refine xg_X6_18 X hP hAll uX6_moves_X6 mbX6_moves_2 dX6_moves_133 ?_
    refine lv_bipush (v := 9) hx hb dX6_moves_136 (by decide) ?_
    refine x_iald X hP (okc_162 hAll) (show inb 9 10 = true from rfl) dX6_moves_138 ?_
    refine lv_aload_n hx hb dX6_moves_139 rfl (lv_at hl 0 rfl) ?_
    refine xg_X6_5 X hP hAll uX6_moves_X6 mbX6_moves_3 dX6_moves_140 ?_
    refine lv_iload_n hx hb dX6_moves_143 rfl (lv_at hl 3 rfl) ?_
    obtain ⟨hb_18, hm⟩ := chk_elim hm
    refine x_iald X hP (okc_149 hAll) hb_18 dX6_moves_144 ?_
    obtain ⟨r_20, hc_19, hm⟩ := bind_elim hm
    refine x_calli (x_runV (As := [.int (rd M_15 162 (ix 9)), .int (rd M_15 149 (ix s3))]) (rest := []) X hP hS (c_X6_less l X.2.2 hc_19) (cwV 2 hts gX6_moves_X6_less rfl rfl rfl (by decide +kernel) ⟨Nat.le_of_ble_eq_true rfl, Nat.le_of_ble_eq_true rfl⟩) (x_recv (C := RX6) (T := TX6) (N := 55) X hP (okc_148 hAll) rfl) rfl hl.1 rfl (Nat.le_of_ble_eq_true rfl) dX6_moves_145 ⟨Nat.zero_le _, Nat.zero_le _⟩) hS (fun H locs hP hS => ?_)
    refine lv_istore (lv' := [(4, .int r_20), (0, .ref (ga g 148)), (1, .int s1), (2, .int s2), (3, .int s3)]) hx hb dX6_moves_148 hl (by decide) rfl (fun ls hl => ?_)
    refine lv_aload_n hx hb dX6_moves_150 rfl (lv_at hl 1 rfl) ?_
    refine xg_X6_15 X hP hAll uX6_moves_X6 mbX6_moves_4 dX6_moves_151 ?_
    refine lv_iload_n hx hb dX6_moves_154 rfl (lv_at hl 3 rfl) ?_
    refine lv_iconst (v := 0) hx hb dX6_moves_155 (by decide) ?_
    obtain ⟨M_21, hM_22, hm⟩ := bnd_elim hm
    refine x_iast X hP hS (okc_159 hAll) hM_22 hb_14 dX6_moves_156 (fun H locs hP hS => ?_)
    refine lv_aload_n hx hb dX6_moves_157 rfl (lv_at hl 1 rfl) ?_
    refine xg_X6_5 X hP hAll uX6_moves_X6 mbX6_moves_3 dX6_moves_158 ?_
    refine lv_iload_n hx hb dX6_moves_161 rfl (lv_at hl 4 rfl) ?_
    refine lv_aload_n hx hb dX6_moves_162 rfl (lv_at hl 1 rfl) ?_
    refine xg_X6_5 X hP hAll uX6_moves_X6 mbX6_moves_3 dX6_moves_163 ?_
    refine lv_iload_n hx hb dX6_moves_166 rfl (lv_at hl 4 rfl) ?_
    refine x_iald X hP (okc_149 hAll) hb_18 dX6_moves_167 ?_
    refine lv_iload hx hb dX6_moves_168 (lv_at hl 0 rfl) ?_
    refine lv_isub hx hb dX6_moves_170 ?_
    obtain ⟨M_23, hM_24, hm⟩ := bnd_elim hm
    refine x_iast X hP hS (okc_149 hAll) hM_24 hb_18 dX6_moves_171 (fun H locs hP hS => ?_)
    refine lv_aload_n hx hb dX6_moves_172 rfl (lv_at hl 1 rfl) ?_
    refine xg_X6_5 X hP hAll uX6_moves_X6 mbX6_moves_3 dX6_moves_173 ?_
    refine lv_iload_n hx hb dX6_moves_176 rfl (lv_at hl 2 rfl) ?_
    refine lv_aload_n hx hb dX6_moves_177 rfl (lv_at hl 1 rfl) ?_
    refine xg_X6_5 X hP hAll uX6_moves_X6 mbX6_moves_3 dX6_moves_178 ?_
    refine lv_iload_n hx hb dX6_moves_181 rfl (lv_at hl 2 rfl) ?_
    obtain ⟨hb_25, hm⟩ := chk_elim hm
    refine x_iald X hP (okc_149 hAll) hb_25 dX6_moves_182 ?_
    refine lv_iload hx hb dX6_moves_183 (lv_at hl 0 rfl) ?_
    refine lv_iadd hx hb dX6_moves_185 ?_
    obtain ⟨M_26, hM_27, hm⟩ := bnd_elim hm
    refine x_iast X hP hS (okc_149 hAll) hM_27 hb_25 dX6_moves_186 (fun H locs hP hS => ?_)
    refine lv_aload_n hx hb dX6_moves_187 rfl (lv_at hl 1 rfl) ?_
    refine xg_X6_43 X hP hAll uX6_moves_X6 mbX6_moves_7 dX6_moves_188 ?_
    refine lv_iload_n hx hb dX6_moves_191 rfl (lv_at hl 4 rfl) ?_
    refine lv_iconst (v := 1) hx hb dX6_moves_192 (by decide) ?_
    obtain ⟨M_28, hM_29, hm⟩ := bnd_elim hm
    refine x_zast X hP hS (okc_175 hAll) hM_29 hb_18 rfl dX6_moves_193 (fun H locs hP hS => ?_)
    refine lv_aload_n hx hb dX6_moves_194 rfl (lv_at hl 1 rfl) ?_
    refine lv_aload_n hx hb dX6_moves_195 rfl (lv_at hl 1 rfl) ?_
    refine xg_X6_4 X hP hAll uX6_moves_X6 mbX6_moves_8 dX6_moves_196 ?_
    refine lv_iload hx hb dX6_moves_199 (lv_at hl 0 rfl) ?_
    refine lv_iadd hx hb dX6_moves_201 ?_
    obtain ⟨M_30, hM_31, hm⟩ := bnd_elim hm
    refine xp_X6_4 X hP hAll uX6_moves_X6 mbX6_moves_8 hS hM_31 dX6_moves_202 (fun H locs hP hS => ?_)
    cases hm
    exact x_vret X hP hS hr hlocks dX6_moves_205
  · rw [if_neg h_17] at hm
    cases hm
    exact x_vret X hP hS hr hlocks dX6_moves_130

set_option maxHeartbeats 4000000 in
set_option maxRecDepth 100000 in
theorem c_X6_moves (l : Launch) {g : GT} (hA : AxG g) (hAll : okAll g)   {M : Mem} {a1 : Int32} {a2 : Int32} {a3 : Int32} {MM : Mem} (hm : m_X6_moves M a1 a2 a3 = some MM) : CV l yX6_moves wsX6_moves rmX6_moves g [.ref (ga g 148), .int a1, .int a2, .int a3] M MM := by
  refine Met.ofW (cc := cX6_moves) (maxL := 5) (ret := none) (by decide) rfl ?_
  intro p e s m args below meth c s₁ B hml hv
  obtain ⟨rfl, hSx, hP⟩ := hv
  have hr := B.returns
  have hlocks := B.notSynchronized
  have X : CxG g p s m _ c cX6_moves 5 RX6 wsX6_moves := ⟨⟨B.exec, B.bytes, hml, findClass_of_methodNamed B.named, atoms_spec (ws := wsX6_moves) B.pre⟩, hSx, hA⟩
  have hS : va_S (AbG g) s.heap s.heap [] := va_S.rf
  have hl := lv_entry (([.ref (ga g 148), .int a1, .int a2, .int a3] : List Value)) (n := 5) (Nat.le_of_ble_eq_true rfl)
  rw [lg_entry_eq]
  generalize (lg_sl (([.ref (ga g 148), .int a1, .int a2, .int a3] : List Value)) ++ List.replicate (5 - (lg_sl (([.ref (ga g 148), .int a1, .int a2, .int a3] : List Value))).length) Slot.unset).toArray = ls at hl ⊢
  have hl : lv_has ls 5 [(0, .ref (ga g 148)), (1, .int a1), (2, .int a2), (3, .int a3)] := hl
  obtain ⟨⟨hx, hb, hml, hown, hts⟩, -, -⟩ := id X
  unfold m_X6_moves at hm
  refine lv_aload_n hx hb dX6_moves_0 rfl (lv_at hl 0 rfl) ?_
  refine xg_X6_13 X hP hAll uX6_moves_X6 mbX6_moves_1 dX6_moves_1 ?_
  refine lv_iload_n hx hb dX6_moves_4 rfl (lv_at hl 2 rfl) ?_
  obtain ⟨hb_1, hm⟩ := chk_elim hm
  refine x_iald X hP (okc_157 hAll) hb_1 dX6_moves_5 ?_
  refine lv_iconst (v := 1) hx hb dX6_moves_6 (by decide) ?_
  refine lv_icmp_eq (tgt := 29) hx hb dX6_moves_7 (by decide) (fun h_2 => ?_) (fun h_2 => ?_)
  · rw [if_pos h_2] at hm
    cases hm
    exact x_vret X hP hS hr hlocks dX6_moves_29
  · rw [if_neg h_2] at hm
    refine lv_aload_n hx hb dX6_moves_10 rfl (lv_at hl 0 rfl) ?_
    refine xg_X6_18 X hP hAll uX6_moves_X6 mbX6_moves_2 dX6_moves_11 ?_
    refine lv_bipush (v := 9) hx hb dX6_moves_14 (by decide) ?_
    refine x_iald X hP (okc_162 hAll) (show inb 9 10 = true from rfl) dX6_moves_16 ?_
    refine lv_if_eq (tgt := 29) hx hb dX6_moves_17 (by decide) (fun h_3 => ?_) (fun h_3 => ?_)
    · rw [if_pos h_3] at hm
      cases hm
      exact x_vret X hP hS hr hlocks dX6_moves_29
    · rw [if_neg h_3] at hm
      refine lv_aload_n hx hb dX6_moves_20 rfl (lv_at hl 0 rfl) ?_
      refine xg_X6_5 X hP hAll uX6_moves_X6 mbX6_moves_3 dX6_moves_21 ?_
      refine lv_iload_n hx hb dX6_moves_24 rfl (lv_at hl 3 rfl) ?_
      obtain ⟨hb_4, hm⟩ := chk_elim hm
      refine x_iald X hP (okc_149 hAll) hb_4 dX6_moves_25 ?_
      refine lv_if_ne (tgt := 30) hx hb dX6_moves_26 (by decide) (fun h_5 => ?_) (fun h_5 => ?_)
      · rw [if_neg h_5] at hm
        refine lv_aload_n hx hb dX6_moves_30 rfl (lv_at hl 0 rfl) ?_
        refine lv_iload_n hx hb dX6_moves_31 rfl (lv_at hl 3 rfl) ?_
        obtain ⟨⟨r_7, M_8⟩, hc_6, hm⟩ := bind_elim hm
        replace hm := un2_e hm
        refine x_calli (x_runV (As := [.int a3]) (rest := []) X hP hS (c_X6_isStopped l X.2.2 hAll hc_6) (cwV 1 hts gX6_moves_X6_isStopped rfl rfl rfl (by decide +kernel) ⟨Nat.le_of_ble_eq_true rfl, Nat.le_of_ble_eq_true rfl⟩) (x_recv (C := RX6) (T := TX6) (N := 55) X hP (okc_148 hAll) rfl) rfl hl.1 rfl (Nat.le_of_ble_eq_true rfl) dX6_moves_32 ⟨Nat.zero_le _, Nat.zero_le _⟩) hS (fun H locs hP hS => ?_)
        refine lv_if_eq (tgt := 80) hx hb dX6_moves_35 (by decide) (fun h_9 => ?_) (fun h_9 => ?_)
        · rw [if_pos h_9] at hm
          refine lv_aload_n hx hb dX6_moves_80 rfl (lv_at hl 0 rfl) ?_
          refine xg_X6_15 X hP hAll uX6_moves_X6 mbX6_moves_4 dX6_moves_81 ?_
          refine lv_iload_n hx hb dX6_moves_84 rfl (lv_at hl 2 rfl) ?_
          refine lv_aload_n hx hb dX6_moves_85 rfl (lv_at hl 0 rfl) ?_
          refine xg_X6_16 X hP hAll uX6_moves_X6 mbX6_moves_5 dX6_moves_86 ?_
          refine lv_iload_n hx hb dX6_moves_89 rfl (lv_at hl 2 rfl) ?_
          refine x_iald X hP (okc_160 hAll) hb_1 dX6_moves_90 ?_
          refine lv_iload_n hx hb dX6_moves_91 rfl (lv_at hl 1 rfl) ?_
          refine lv_icmp_ne (tgt := 106) hx hb dX6_moves_92 (by decide) (fun h_10 => ?_) (fun h_10 => ?_)
          · rw [if_neg h_10] at hm
            refine lv_iconst (v := 1) hx hb dX6_moves_106 (by decide) ?_
            exact wj_X6_moves_107 X hAll hr hlocks hm hP hS (lv_sub hl [0, 1, 2, 3] rfl)
          · rw [if_pos h_10] at hm
            refine lv_aload_n hx hb dX6_moves_95 rfl (lv_at hl 0 rfl) ?_
            refine xg_X6_15 X hP hAll uX6_moves_X6 mbX6_moves_4 dX6_moves_96 ?_
            refine lv_iload_n hx hb dX6_moves_99 rfl (lv_at hl 2 rfl) ?_
            refine x_iald X hP (okc_159 hAll) hb_1 dX6_moves_100 ?_
            refine lv_iconst (v := 1) hx hb dX6_moves_101 (by decide) ?_
            refine lv_iadd hx hb dX6_moves_102 ?_
            refine lv_goto (tgt := 107) hx hb dX6_moves_103 (by decide) ?_
            exact wj_X6_moves_107 X hAll hr hlocks hm hP hS (lv_sub hl [0, 1, 2, 3] rfl)
        · rw [if_neg h_9] at hm
          refine lv_aload_n hx hb dX6_moves_38 rfl (lv_at hl 0 rfl) ?_
          refine xg_X6_11 X hP hAll uX6_moves_X6 mbX6_moves_9 dX6_moves_39 ?_
          refine lv_iload_n hx hb dX6_moves_42 rfl (lv_at hl 1 rfl) ?_
          refine lv_aload_n hx hb dX6_moves_43 rfl (lv_at hl 0 rfl) ?_
          refine xg_X6_11 X hP hAll uX6_moves_X6 mbX6_moves_9 dX6_moves_44 ?_
          refine lv_iload_n hx hb dX6_moves_47 rfl (lv_at hl 1 rfl) ?_
          obtain ⟨hb_32, hm⟩ := chk_elim hm
          refine x_iald X hP (okc_155 hAll) hb_32 dX6_moves_48 ?_
          refine lv_iconst (v := 1) hx hb dX6_moves_49 (by decide) ?_
          refine lv_iadd hx hb dX6_moves_50 ?_
          obtain ⟨M_33, hM_34, hm⟩ := bnd_elim hm
          refine x_iast X hP hS (okc_155 hAll) hM_34 hb_32 dX6_moves_51 (fun H locs hP hS => ?_)
          refine lv_aload_n hx hb dX6_moves_52 rfl (lv_at hl 0 rfl) ?_
          refine xg_X6_9 X hP hAll uX6_moves_X6 mbX6_moves_10 dX6_moves_53 ?_
          refine lv_iload_n hx hb dX6_moves_56 rfl (lv_at hl 1 rfl) ?_
          refine lv_aload_n hx hb dX6_moves_57 rfl (lv_at hl 0 rfl) ?_
          refine xg_X6_9 X hP hAll uX6_moves_X6 mbX6_moves_10 dX6_moves_58 ?_
          refine lv_iload_n hx hb dX6_moves_61 rfl (lv_at hl 1 rfl) ?_
          refine x_iald X hP (okc_153 hAll) hb_32 dX6_moves_62 ?_
          refine lv_aload_n hx hb dX6_moves_63 rfl (lv_at hl 0 rfl) ?_
          refine xg_X6_18 X hP hAll uX6_moves_X6 mbX6_moves_2 dX6_moves_64 ?_
          refine lv_bipush (v := 6) hx hb dX6_moves_67 (by decide) ?_
          refine x_iald X hP (okc_162 hAll) (show inb 6 10 = true from rfl) dX6_moves_69 ?_
          refine lv_isub hx hb dX6_moves_70 ?_
          obtain ⟨M_35, hM_36, hm⟩ := bnd_elim hm
          refine x_iast X hP hS (okc_153 hAll) hM_36 hb_32 dX6_moves_71 (fun H locs hP hS => ?_)
          refine lv_aload_n hx hb dX6_moves_72 rfl (lv_at hl 0 rfl) ?_
          refine xg_X6_15 X hP hAll uX6_moves_X6 mbX6_moves_4 dX6_moves_73 ?_
          refine lv_iload_n hx hb dX6_moves_76 rfl (lv_at hl 2 rfl) ?_
          refine lv_iconst (v := 0) hx hb dX6_moves_77 (by decide) ?_
          obtain ⟨M_37, hM_38, hm⟩ := bnd_elim hm
          refine x_iast X hP hS (okc_159 hAll) hM_38 hb_1 dX6_moves_78 (fun H locs hP hS => ?_)
          cases hm
          exact x_vret X hP hS hr hlocks dX6_moves_79
      · rw [if_pos h_5] at hm
        cases hm
        exact x_vret X hP hS hr hlocks dX6_moves_29


/-! X6_goesBy -/
def rmX6_goesBy : Room := { frames := 4, cells := 0, slots := 0, locals := 94 }
theorem uX6_goesBy_X6 : ∀ w ∈ wsX60, w ∈ wsX6_goesBy := by decide +kernel
theorem mbX6_goesBy_1 : Cond.fieldLink RX6 7 "FootANightModel" "n" "I" ∈ wsX6_goesBy := by decide +kernel
theorem mbX6_goesBy_2 : Cond.fieldLink RX6 92 "FootANightModel" "doing" "[I" ∈ wsX6_goesBy := by decide +kernel
theorem mbX6_goesBy_3 : Cond.fieldLink RX6 95 "FootANightModel" "lost" "[Z" ∈ wsX6_goesBy := by decide +kernel
theorem mbX6_goesBy_4 : Cond.fieldLink RX6 53 "FootANightModel" "settings" "[I" ∈ wsX6_goesBy := by decide +kernel
theorem mbX6_goesBy_5 : Cond.fieldLink RX6 26 "FootANightModel" "purse" "[I" ∈ wsX6_goesBy := by decide +kernel
theorem mbX6_goesBy_6 : Cond.fieldLink RX6 13 "FootANightModel" "wide" "[I" ∈ wsX6_goesBy := by decide +kernel
theorem mbX6_goesBy_7 : Cond.fieldLink RX6 23 "FootANightModel" "dogOf" "[I" ∈ wsX6_goesBy := by decide +kernel
theorem mbX6_goesBy_8 : Cond.fieldLink RX6 29 "FootANightModel" "hit" "[I" ∈ wsX6_goesBy := by decide +kernel
theorem mbX6_goesBy_9 : Cond.fieldLink RX6 35 "FootANightModel" "eaten" "[I" ∈ wsX6_goesBy := by decide +kernel
theorem mbX6_goesBy_10 : Cond.fieldLink RX6 251 "FootANightModel" "night" "I" ∈ wsX6_goesBy := by decide +kernel
set_option maxHeartbeats 4000000 in
set_option maxRecDepth 100000 in
theorem wl_X6_goesBy_2 (X : CxG g p s m args c cX6_goesBy 3 RX6 wsX6_goesBy) (hAll : okAll g) {fu : Nat} {x : Mem} (kx0 : ∀ (M2 : Mem) , x = M2 → ∀ (H : Heap) (locs : List Loc) (ls : Array Slot), va_P (gD g) vwCl (wlG g M2) H → va_S (AbG g) s.heap H locs → lv_has ls 3 [(0, .ref (ga g 148))] → W p l e (headSpec wsX6_goesBy rmX6_goesBy).room s m args below meth c H locs 0 0 Q (F0 m 34 ls [])) {n : Nat} {q0 : Int32 × Mem} (h : lp (b_X6_goesBy_2 fu) n q0 = some x) : ∀ (H : Heap) (locs : List Loc) (ls : Array Slot), va_P (gD g) vwCl (wlG g q0.2) H → va_S (AbG g) s.heap H locs → lv_has ls 3 [(0, .ref (ga g 148)), (1, .int q0.1)] → W p l e (headSpec wsX6_goesBy rmX6_goesBy).room s m args below meth c H locs 0 0 Q (F0 m 2 ls []) := by
  refine lp_elim (P := fun q0 : Int32 × Mem => ∀ (H : Heap) (locs : List Loc) (ls : Array Slot), va_P (gD g) vwCl (wlG g q0.2) H → va_S (AbG g) s.heap H locs → lv_has ls 3 [(0, .ref (ga g 148)), (1, .int q0.1)] → W p l e (headSpec wsX6_goesBy rmX6_goesBy).room s m args below meth c H locs 0 0 Q (F0 m 2 ls [])) (fun q1 o hm hI hX => ?_) n q0 h
  obtain ⟨c1, M⟩ := q1
  have kb : ∀ (d1 : Int32) (M2 : Mem) , o = .inl (d1, M2) → ∀ (H : Heap) (locs : List Loc) (ls : Array Slot), va_P (gD g) vwCl (wlG g M2) H → va_S (AbG g) s.heap H locs → lv_has ls 3 [(0, .ref (ga g 148)), (1, .int d1)] → W p l e (headSpec wsX6_goesBy rmX6_goesBy).room s m args below meth c H locs 0 0 Q (F0 m 2 ls []) := fun d1 M2 e => hI _ e
  have kx0 : ∀ (M2 : Mem) , o = .inr M2 → ∀ (H : Heap) (locs : List Loc) (ls : Array Slot), va_P (gD g) vwCl (wlG g M2) H → va_S (AbG g) s.heap H locs → lv_has ls 3 [(0, .ref (ga g 148))] → W p l e (headSpec wsX6_goesBy rmX6_goesBy).room s m args below meth c H locs 0 0 Q (F0 m 34 ls []) := fun M2 e => kx0 M2 (hX _ e).symm
  clear hI hX
  intro H locs ls hP hS hl
  obtain ⟨⟨hx, hb, hml, hown, hts⟩, -, -⟩ := id X
  have hl : lv_has ls 3 [(0, .ref (ga g 148)), (1, .int c1)] := hl
  have hP : va_P (gD g) vwCl (wlG g M) H := hP
  unfold b_X6_goesBy_2 at hm
  replace hm := un2_e hm
  refine lv_iload_n hx hb dX6_goesBy_2 rfl (lv_at hl 1 rfl) ?_
  refine lv_aload_n hx hb dX6_goesBy_3 rfl (lv_at hl 0 rfl) ?_
  refine xg_X6_2 X hP hAll uX6_goesBy_X6 mbX6_goesBy_1 dX6_goesBy_4 ?_
  refine lv_icmp_ge (tgt := 34) hx hb dX6_goesBy_7 (by decide) (fun h_1 => ?_) (fun h_1 => ?_)
  · rw [if_pos h_1] at hm
    exact kx0 M (Option.some.inj hm).symm _ _ _ hP hS (lv_sub hl [0] rfl)
  · rw [if_neg h_1] at hm
    refine lv_aload_n hx hb dX6_goesBy_10 rfl (lv_at hl 0 rfl) ?_
    refine xg_X6_42 X hP hAll uX6_goesBy_X6 mbX6_goesBy_2 dX6_goesBy_11 ?_
    refine lv_iload_n hx hb dX6_goesBy_14 rfl (lv_at hl 1 rfl) ?_
    refine lv_aload_n hx hb dX6_goesBy_15 rfl (lv_at hl 0 rfl) ?_
    refine lv_iload_n hx hb dX6_goesBy_16 rfl (lv_at hl 1 rfl) ?_
    obtain ⟨⟨r_3, M_4⟩, hc_2, hm⟩ := bind_elim hm
    replace hm := un2_e hm
    refine x_calli (x_runV (As := [.int c1]) (rest := [.int c1, .ref (ga g 174)]) X hP hS (c_X6_doingOf l X.2.2 hAll hc_2) (cwV 1 hts gX6_goesBy_X6_doingOf rfl rfl rfl (by decide +kernel) ⟨Nat.le_of_ble_eq_true rfl, Nat.le_of_ble_eq_true rfl⟩) (x_recv (C := RX6) (T := TX6) (N := 55) X hP (okc_148 hAll) rfl) rfl hl.1 rfl (Nat.le_of_ble_eq_true rfl) dX6_goesBy_17 ⟨Nat.zero_le _, Nat.zero_le _⟩) hS (fun H locs hP hS => ?_)
    obtain ⟨hb_5, hm⟩ := chk_elim hm
    obtain ⟨M_6, hM_7, hm⟩ := bnd_elim hm
    refine x_iast X hP hS (okc_174 hAll) hM_7 hb_5 dX6_goesBy_20 (fun H locs hP hS => ?_)
    refine lv_aload_n hx hb dX6_goesBy_21 rfl (lv_at hl 0 rfl) ?_
    refine xg_X6_43 X hP hAll uX6_goesBy_X6 mbX6_goesBy_3 dX6_goesBy_22 ?_
    refine lv_iload_n hx hb dX6_goesBy_25 rfl (lv_at hl 1 rfl) ?_
    refine lv_iconst (v := 0) hx hb dX6_goesBy_26 (by decide) ?_
    obtain ⟨M_8, hM_9, hm⟩ := bnd_elim hm
    refine x_zast X hP hS (okc_175 hAll) hM_9 hb_5 rfl dX6_goesBy_27 (fun H locs hP hS => ?_)
    obtain ⟨v_10, hv_11, hm⟩ := bnd_elim hm
    refine lv_iinc (v := v_10) (lv' := [(1, .int v_10), (0, .ref (ga g 148))]) hx hb dX6_goesBy_28 hl (k := 1) rfl (by rw [hv_11]; rfl) (by decide) rfl (fun ls hl => ?_)
    refine lv_goto (tgt := 2) hx hb dX6_goesBy_31 (by decide) ?_
    exact kb v_10 M_8 (Option.some.inj hm).symm _ _ _ hP hS (lv_sub hl [1, 0] rfl)

set_option maxHeartbeats 4000000 in
set_option maxRecDepth 100000 in
theorem wj_X6_goesBy_69i (X : CxG g p s m args c cX6_goesBy 3 RX6 wsX6_goesBy) (hAll : okAll g) {fu : Nat} {M : Mem} {s1 : Int32} {o : (Int32 × Mem) ⊕ (Mem)} (kb : ∀ (d1 : Int32) (M2 : Mem) , o = .inl (d1, M2) → ∀ (H : Heap) (locs : List Loc) (ls : Array Slot), va_P (gD g) vwCl (wlG g M2) H → va_S (AbG g) s.heap H locs → lv_has ls 3 [(0, .ref (ga g 148)), (1, .int d1)] → W p l e (headSpec wsX6_goesBy rmX6_goesBy).room s m args below meth c H locs 0 0 Q (F0 m 36 ls [])) (kx0 : ∀ (M2 : Mem) , o = .inr M2 → ∀ (H : Heap) (locs : List Loc) (ls : Array Slot), va_P (gD g) vwCl (wlG g M2) H → va_S (AbG g) s.heap H locs → lv_has ls 3 [(0, .ref (ga g 148))] → W p l e (headSpec wsX6_goesBy rmX6_goesBy).room s m args below meth c H locs 0 0 Q (F0 m 96 ls [])) (hm : j_X6_goesBy_69i fu M s1 = some o) {H : Heap} {locs : List Loc} {ls : Array Slot} (hP : va_P (gD g) vwCl (wlG g M) H) (hS : va_S (AbG g) s.heap H locs) (hl : lv_has ls 3 [(0, .ref (ga g 148)), (1, .int s1)]) : W p l e (headSpec wsX6_goesBy rmX6_goesBy).room s m args below meth c H locs 0 0 Q (F0 m 69 ls []) := by
  obtain ⟨⟨hx, hb, hml, hown, hts⟩, -, -⟩ := id X
  unfold j_X6_goesBy_69i at hm
  refine lv_aload_n hx hb dX6_goesBy_69 rfl (lv_at hl 0 rfl) ?_
  refine xg_X6_42 X hP hAll uX6_goesBy_X6 mbX6_goesBy_2 dX6_goesBy_70 ?_
  refine lv_iload_n hx hb dX6_goesBy_73 rfl (lv_at hl 1 rfl) ?_
  obtain ⟨hb_18, hm⟩ := chk_elim hm
  refine x_iald X hP (okc_174 hAll) hb_18 dX6_goesBy_74 ?_
  refine lv_iconst (v := 3) hx hb dX6_goesBy_75 (by decide) ?_
  refine lv_icmp_ne (tgt := 90) hx hb dX6_goesBy_76 (by decide) (fun h_19 => ?_) (fun h_19 => ?_)
  · rw [if_neg h_19] at hm
    obtain ⟨v_20, hv_21, hm⟩ := bnd_elim hm
    refine lv_iinc (v := v_20) (lv' := [(1, .int v_20), (0, .ref (ga g 148))]) hx hb dX6_goesBy_90 hl (k := 1) rfl (by rw [hv_21]; rfl) (by decide) rfl (fun ls hl => ?_)
    refine lv_goto (tgt := 36) hx hb dX6_goesBy_93 (by decide) ?_
    exact kb v_20 M (Option.some.inj hm).symm _ _ _ hP hS (lv_sub hl [1, 0] rfl)
  · rw [if_pos h_19] at hm
    refine lv_aload_n hx hb dX6_goesBy_79 rfl (lv_at hl 0 rfl) ?_
    refine lv_iload_n hx hb dX6_goesBy_80 rfl (lv_at hl 1 rfl) ?_
    refine lv_iload_n hx hb dX6_goesBy_81 rfl (lv_at hl 1 rfl) ?_
    refine lv_aload_n hx hb dX6_goesBy_82 rfl (lv_at hl 0 rfl) ?_
    refine lv_iload_n hx hb dX6_goesBy_83 rfl (lv_at hl 1 rfl) ?_
    obtain ⟨r_23, hc_22, hm⟩ := bind_elim hm
    refine x_calli (x_runV (As := [.int s1]) (rest := [.int s1, .int s1, .ref (ga g 148)]) X hP hS (c_X6_rightOf l X.2.2 hAll hc_22) (cwV 1 hts gX6_goesBy_X6_rightOf rfl rfl rfl (by decide +kernel) ⟨Nat.le_of_ble_eq_true rfl, Nat.le_of_ble_eq_true rfl⟩) (x_recv (C := RX6) (T := TX6) (N := 55) X hP (okc_148 hAll) rfl) rfl hl.1 rfl (Nat.le_of_ble_eq_true rfl) dX6_goesBy_84 ⟨Nat.zero_le _, Nat.zero_le _⟩) hS (fun H locs hP hS => ?_)
    obtain ⟨M_25, hc_24, hm⟩ := bind_elim hm
    refine x_callv (x_runV (As := [.int s1, .int s1, .int r_23]) (rest := []) X hP hS (c_X6_moves l X.2.2 hAll hc_24) (cwV 3 hts gX6_goesBy_X6_moves rfl rfl rfl (by decide +kernel) ⟨Nat.le_of_ble_eq_true rfl, Nat.le_of_ble_eq_true rfl⟩) (x_recv (C := RX6) (T := TX6) (N := 55) X hP (okc_148 hAll) rfl) rfl hl.1 rfl (Nat.le_of_ble_eq_true rfl) dX6_goesBy_87 ⟨Nat.zero_le _, Nat.zero_le _⟩) hS (fun H locs hP hS => ?_)
    obtain ⟨v_26, hv_27, hm⟩ := bnd_elim hm
    refine lv_iinc (v := v_26) (lv' := [(1, .int v_26), (0, .ref (ga g 148))]) hx hb dX6_goesBy_90 hl (k := 1) rfl (by rw [hv_27]; rfl) (by decide) rfl (fun ls hl => ?_)
    refine lv_goto (tgt := 36) hx hb dX6_goesBy_93 (by decide) ?_
    exact kb v_26 M_25 (Option.some.inj hm).symm _ _ _ hP hS (lv_sub hl [1, 0] rfl)

set_option maxHeartbeats 4000000 in
set_option maxRecDepth 100000 in
theorem wl_X6_goesBy_36 (X : CxG g p s m args c cX6_goesBy 3 RX6 wsX6_goesBy) (hAll : okAll g) {fu : Nat} {x : Mem} (kx0 : ∀ (M2 : Mem) , x = M2 → ∀ (H : Heap) (locs : List Loc) (ls : Array Slot), va_P (gD g) vwCl (wlG g M2) H → va_S (AbG g) s.heap H locs → lv_has ls 3 [(0, .ref (ga g 148))] → W p l e (headSpec wsX6_goesBy rmX6_goesBy).room s m args below meth c H locs 0 0 Q (F0 m 96 ls [])) {n : Nat} {q0 : Int32 × Mem} (h : lp (b_X6_goesBy_36 fu) n q0 = some x) : ∀ (H : Heap) (locs : List Loc) (ls : Array Slot), va_P (gD g) vwCl (wlG g q0.2) H → va_S (AbG g) s.heap H locs → lv_has ls 3 [(0, .ref (ga g 148)), (1, .int q0.1)] → W p l e (headSpec wsX6_goesBy rmX6_goesBy).room s m args below meth c H locs 0 0 Q (F0 m 36 ls []) := by
  refine lp_elim (P := fun q0 : Int32 × Mem => ∀ (H : Heap) (locs : List Loc) (ls : Array Slot), va_P (gD g) vwCl (wlG g q0.2) H → va_S (AbG g) s.heap H locs → lv_has ls 3 [(0, .ref (ga g 148)), (1, .int q0.1)] → W p l e (headSpec wsX6_goesBy rmX6_goesBy).room s m args below meth c H locs 0 0 Q (F0 m 36 ls [])) (fun q1 o hm hI hX => ?_) n q0 h
  obtain ⟨c1, M⟩ := q1
  have kb : ∀ (d1 : Int32) (M2 : Mem) , o = .inl (d1, M2) → ∀ (H : Heap) (locs : List Loc) (ls : Array Slot), va_P (gD g) vwCl (wlG g M2) H → va_S (AbG g) s.heap H locs → lv_has ls 3 [(0, .ref (ga g 148)), (1, .int d1)] → W p l e (headSpec wsX6_goesBy rmX6_goesBy).room s m args below meth c H locs 0 0 Q (F0 m 36 ls []) := fun d1 M2 e => hI _ e
  have kx0 : ∀ (M2 : Mem) , o = .inr M2 → ∀ (H : Heap) (locs : List Loc) (ls : Array Slot), va_P (gD g) vwCl (wlG g M2) H → va_S (AbG g) s.heap H locs → lv_has ls 3 [(0, .ref (ga g 148))] → W p l e (headSpec wsX6_goesBy rmX6_goesBy).room s m args below meth c H locs 0 0 Q (F0 m 96 ls []) := fun M2 e => kx0 M2 (hX _ e).symm
  clear hI hX
  intro H locs ls hP hS hl
  obtain ⟨⟨hx, hb, hml, hown, hts⟩, -, -⟩ := id X
  have hl : lv_has ls 3 [(0, .ref (ga g 148)), (1, .int c1)] := hl
  have hP : va_P (gD g) vwCl (wlG g M) H := hP
  unfold b_X6_goesBy_36 at hm
  replace hm := un2_e hm
  refine lv_iload_n hx hb dX6_goesBy_36 rfl (lv_at hl 1 rfl) ?_
  refine lv_aload_n hx hb dX6_goesBy_37 rfl (lv_at hl 0 rfl) ?_
  refine xg_X6_2 X hP hAll uX6_goesBy_X6 mbX6_goesBy_1 dX6_goesBy_38 ?_
  refine lv_icmp_ge (tgt := 96) hx hb dX6_goesBy_41 (by decide) (fun h_15 => ?_) (fun h_15 => ?_)
  · rw [if_pos h_15] at hm
    exact kx0 M (Option.some.inj hm).symm _ _ _ hP hS (lv_sub hl [0] rfl)
  · rw [if_neg h_15] at hm
    refine lv_aload_n hx hb dX6_goesBy_44 rfl (lv_at hl 0 rfl) ?_
    refine xg_X6_42 X hP hAll uX6_goesBy_X6 mbX6_goesBy_2 dX6_goesBy_45 ?_
    refine lv_iload_n hx hb dX6_goesBy_48 rfl (lv_at hl 1 rfl) ?_
    obtain ⟨hb_16, hm⟩ := chk_elim hm
    refine x_iald X hP (okc_174 hAll) hb_16 dX6_goesBy_49 ?_
    refine lv_iconst (v := 2) hx hb dX6_goesBy_50 (by decide) ?_
    refine lv_icmp_ne (tgt := 69) hx hb dX6_goesBy_51 (by decide) (fun h_17 => ?_) (fun h_17 => ?_)
    · rw [if_neg h_17] at hm
      exact wj_X6_goesBy_69i X hAll kb kx0 hm hP hS (lv_sub hl [0, 1] rfl)
    · rw [if_pos h_17] at hm
      refine lv_aload_n hx hb dX6_goesBy_54 rfl (lv_at hl 0 rfl) ?_
      refine lv_iload_n hx hb dX6_goesBy_55 rfl (lv_at hl 1 rfl) ?_
      refine lv_aload_n hx hb dX6_goesBy_56 rfl (lv_at hl 0 rfl) ?_
      refine lv_iload_n hx hb dX6_goesBy_57 rfl (lv_at hl 1 rfl) ?_
      obtain ⟨r_29, hc_28, hm⟩ := bind_elim hm
      refine x_calli (x_runV (As := [.int c1]) (rest := [.int c1, .ref (ga g 148)]) X hP hS (c_X6_leftOf l X.2.2 hAll hc_28) (cwV 1 hts gX6_goesBy_X6_leftOf rfl rfl rfl (by decide +kernel) ⟨Nat.le_of_ble_eq_true rfl, Nat.le_of_ble_eq_true rfl⟩) (x_recv (C := RX6) (T := TX6) (N := 55) X hP (okc_148 hAll) rfl) rfl hl.1 rfl (Nat.le_of_ble_eq_true rfl) dX6_goesBy_58 ⟨Nat.zero_le _, Nat.zero_le _⟩) hS (fun H locs hP hS => ?_)
      refine lv_aload_n hx hb dX6_goesBy_61 rfl (lv_at hl 0 rfl) ?_
      refine lv_iload_n hx hb dX6_goesBy_62 rfl (lv_at hl 1 rfl) ?_
      obtain ⟨r_31, hc_30, hm⟩ := bind_elim hm
      refine x_calli (x_runV (As := [.int c1]) (rest := [.int r_29, .int c1, .ref (ga g 148)]) X hP hS (c_X6_leftOf l X.2.2 hAll hc_30) (cwV 1 hts gX6_goesBy_X6_leftOf rfl rfl rfl (by decide +kernel) ⟨Nat.le_of_ble_eq_true rfl, Nat.le_of_ble_eq_true rfl⟩) (x_recv (C := RX6) (T := TX6) (N := 55) X hP (okc_148 hAll) rfl) rfl hl.1 rfl (Nat.le_of_ble_eq_true rfl) dX6_goesBy_63 ⟨Nat.zero_le _, Nat.zero_le _⟩) hS (fun H locs hP hS => ?_)
      obtain ⟨M_33, hc_32, hm⟩ := bind_elim hm
      refine x_callv (x_runV (As := [.int c1, .int r_29, .int r_31]) (rest := []) X hP hS (c_X6_moves l X.2.2 hAll hc_32) (cwV 3 hts gX6_goesBy_X6_moves rfl rfl rfl (by decide +kernel) ⟨Nat.le_of_ble_eq_true rfl, Nat.le_of_ble_eq_true rfl⟩) (x_recv (C := RX6) (T := TX6) (N := 55) X hP (okc_148 hAll) rfl) rfl hl.1 rfl (Nat.le_of_ble_eq_true rfl) dX6_goesBy_66 ⟨Nat.zero_le _, Nat.zero_le _⟩) hS (fun H locs hP hS => ?_)
      exact wj_X6_goesBy_69i X hAll kb kx0 hm hP hS (lv_sub hl [0, 1] rfl)

set_option maxHeartbeats 4000000 in
set_option maxRecDepth 100000 in
theorem wj_X6_goesBy_223i (X : CxG g p s m args c cX6_goesBy 3 RX6 wsX6_goesBy) (hAll : okAll g) {fu : Nat} {M : Mem} {s1 : Int32} {t1 : Int32} {t2 : Int32} {o : (Int32 × Mem) ⊕ (Mem)} (kb : ∀ (d1 : Int32) (M2 : Mem) , o = .inl (d1, M2) → ∀ (H : Heap) (locs : List Loc) (ls : Array Slot), va_P (gD g) vwCl (wlG g M2) H → va_S (AbG g) s.heap H locs → lv_has ls 3 [(0, .ref (ga g 148)), (1, .int d1)] → W p l e (headSpec wsX6_goesBy rmX6_goesBy).room s m args below meth c H locs 0 0 Q (F0 m 98 ls [])) (kx0 : ∀ (M2 : Mem) , o = .inr M2 → ∀ (H : Heap) (locs : List Loc) (ls : Array Slot), va_P (gD g) vwCl (wlG g M2) H → va_S (AbG g) s.heap H locs → lv_has ls 3 [(0, .ref (ga g 148))] → W p l e (headSpec wsX6_goesBy rmX6_goesBy).room s m args below meth c H locs 0 0 Q (F0 m 259 ls [])) (hm : j_X6_goesBy_223i fu M s1 t1 t2 = some o) {H : Heap} {locs : List Loc} {ls : Array Slot} (hP : va_P (gD g) vwCl (wlG g M) H) (hS : va_S (AbG g) s.heap H locs) (hl : lv_has ls 3 [(0, .ref (ga g 148)), (1, .int s1)]) : W p l e (headSpec wsX6_goesBy rmX6_goesBy).room s m args below meth c H locs 0 0 Q (F0 m 223 ls [.int t2, .int t1, .ref (ga g 154)]) := by
  obtain ⟨⟨hx, hb, hml, hown, hts⟩, -, -⟩ := id X
  unfold j_X6_goesBy_223i at hm
  obtain ⟨hb_52, hm⟩ := chk_elim hm
  obtain ⟨M_53, hM_54, hm⟩ := bnd_elim hm
  refine x_iast X hP hS (okc_154 hAll) hM_54 hb_52 dX6_goesBy_223 (fun H locs hP hS => ?_)
  refine lv_aload_n hx hb dX6_goesBy_224 rfl (lv_at hl 0 rfl) ?_
  refine xg_X6_5 X hP hAll uX6_goesBy_X6 mbX6_goesBy_6 dX6_goesBy_225 ?_
  refine lv_iload_n hx hb dX6_goesBy_228 rfl (lv_at hl 1 rfl) ?_
  obtain ⟨hb_55, hm⟩ := chk_elim hm
  refine x_iald X hP (okc_149 hAll) hb_55 dX6_goesBy_229 ?_
  refine lv_if_ne (tgt := 253) hx hb dX6_goesBy_230 (by decide) (fun h_56 => ?_) (fun h_56 => ?_)
  · rw [if_neg h_56] at hm
    obtain ⟨v_57, hv_58, hm⟩ := bnd_elim hm
    refine lv_iinc (v := v_57) (lv' := [(1, .int v_57), (0, .ref (ga g 148))]) hx hb dX6_goesBy_253 hl (k := 1) rfl (by rw [hv_58]; rfl) (by decide) rfl (fun ls hl => ?_)
    refine lv_goto (tgt := 98) hx hb dX6_goesBy_256 (by decide) ?_
    exact kb v_57 M_53 (Option.some.inj hm).symm _ _ _ hP hS (lv_sub hl [1, 0] rfl)
  · rw [if_pos h_56] at hm
    refine lv_aload_n hx hb dX6_goesBy_233 rfl (lv_at hl 0 rfl) ?_
    refine xg_X6_12 X hP hAll uX6_goesBy_X6 mbX6_goesBy_9 dX6_goesBy_234 ?_
    refine lv_iload_n hx hb dX6_goesBy_237 rfl (lv_at hl 1 rfl) ?_
    refine x_iald X hP (okc_156 hAll) hb_55 dX6_goesBy_238 ?_
    refine lv_iconst (v := (-1)) hx hb dX6_goesBy_239 (by decide) ?_
    refine lv_icmp_ne (tgt := 253) hx hb dX6_goesBy_240 (by decide) (fun h_59 => ?_) (fun h_59 => ?_)
    · rw [if_neg h_59] at hm
      obtain ⟨v_60, hv_61, hm⟩ := bnd_elim hm
      refine lv_iinc (v := v_60) (lv' := [(1, .int v_60), (0, .ref (ga g 148))]) hx hb dX6_goesBy_253 hl (k := 1) rfl (by rw [hv_61]; rfl) (by decide) rfl (fun ls hl => ?_)
      refine lv_goto (tgt := 98) hx hb dX6_goesBy_256 (by decide) ?_
      exact kb v_60 M_53 (Option.some.inj hm).symm _ _ _ hP hS (lv_sub hl [1, 0] rfl)
    · rw [if_pos h_59] at hm
      refine lv_aload_n hx hb dX6_goesBy_243 rfl (lv_at hl 0 rfl) ?_
      refine xg_X6_12 X hP hAll uX6_goesBy_X6 mbX6_goesBy_9 dX6_goesBy_244 ?_
      refine lv_iload_n hx hb dX6_goesBy_247 rfl (lv_at hl 1 rfl) ?_
      refine lv_aload_n hx hb dX6_goesBy_248 rfl (lv_at hl 0 rfl) ?_
      refine xg_X6_3 X hP hAll uX6_goesBy_X6 mbX6_goesBy_10 dX6_goesBy_249 ?_
      obtain ⟨M_62, hM_63, hm⟩ := bnd_elim hm
      refine x_iast X hP hS (okc_156 hAll) hM_63 hb_55 dX6_goesBy_252 (fun H locs hP hS => ?_)
      obtain ⟨v_64, hv_65, hm⟩ := bnd_elim hm
      refine lv_iinc (v := v_64) (lv' := [(1, .int v_64), (0, .ref (ga g 148))]) hx hb dX6_goesBy_253 hl (k := 1) rfl (by rw [hv_65]; rfl) (by decide) rfl (fun ls hl => ?_)
      refine lv_goto (tgt := 98) hx hb dX6_goesBy_256 (by decide) ?_
      exact kb v_64 M_62 (Option.some.inj hm).symm _ _ _ hP hS (lv_sub hl [1, 0] rfl)

set_option maxHeartbeats 4000000 in
set_option maxRecDepth 100000 in
theorem wj_X6_goesBy_189i (X : CxG g p s m args c cX6_goesBy 3 RX6 wsX6_goesBy) (hAll : okAll g) {fu : Nat} {M : Mem} {s1 : Int32} {t1 : Int32} {t2 : Int32} {t3 : Int32} {o : (Int32 × Mem) ⊕ (Mem)} (kb : ∀ (d1 : Int32) (M2 : Mem) , o = .inl (d1, M2) → ∀ (H : Heap) (locs : List Loc) (ls : Array Slot), va_P (gD g) vwCl (wlG g M2) H → va_S (AbG g) s.heap H locs → lv_has ls 3 [(0, .ref (ga g 148)), (1, .int d1)] → W p l e (headSpec wsX6_goesBy rmX6_goesBy).room s m args below meth c H locs 0 0 Q (F0 m 98 ls [])) (kx0 : ∀ (M2 : Mem) , o = .inr M2 → ∀ (H : Heap) (locs : List Loc) (ls : Array Slot), va_P (gD g) vwCl (wlG g M2) H → va_S (AbG g) s.heap H locs → lv_has ls 3 [(0, .ref (ga g 148))] → W p l e (headSpec wsX6_goesBy rmX6_goesBy).room s m args below meth c H locs 0 0 Q (F0 m 259 ls [])) (hm : j_X6_goesBy_189i fu M s1 t1 t2 t3 = some o) {H : Heap} {locs : List Loc} {ls : Array Slot} (hP : va_P (gD g) vwCl (wlG g M) H) (hS : va_S (AbG g) s.heap H locs) (hl : lv_has ls 3 [(0, .ref (ga g 148)), (1, .int s1)]) : W p l e (headSpec wsX6_goesBy rmX6_goesBy).room s m args below meth c H locs 0 0 Q (F0 m 189 ls [.int t3, .int t2, .int t1, .ref (ga g 153)]) := by
  obtain ⟨⟨hx, hb, hml, hown, hts⟩, -, -⟩ := id X
  unfold j_X6_goesBy_189i at hm
  refine lv_isub hx hb dX6_goesBy_189 ?_
  obtain ⟨hb_45, hm⟩ := chk_elim hm
  obtain ⟨M_46, hM_47, hm⟩ := bnd_elim hm
  refine x_iast X hP hS (okc_153 hAll) hM_47 hb_45 dX6_goesBy_190 (fun H locs hP hS => ?_)
  refine lv_aload_n hx hb dX6_goesBy_191 rfl (lv_at hl 0 rfl) ?_
  refine xg_X6_10 X hP hAll uX6_goesBy_X6 mbX6_goesBy_8 dX6_goesBy_192 ?_
  refine lv_iload_n hx hb dX6_goesBy_195 rfl (lv_at hl 1 rfl) ?_
  refine lv_aload_n hx hb dX6_goesBy_196 rfl (lv_at hl 0 rfl) ?_
  refine xg_X6_43 X hP hAll uX6_goesBy_X6 mbX6_goesBy_3 dX6_goesBy_197 ?_
  refine lv_iload_n hx hb dX6_goesBy_200 rfl (lv_at hl 1 rfl) ?_
  obtain ⟨hb_48, hm⟩ := chk_elim hm
  refine x_zald X hP (okc_175 hAll) hb_48 dX6_goesBy_201 ?_
  refine lv_if_eq (tgt := 209) hx hb dX6_goesBy_202 (by decide) (fun h_49 => ?_) (fun h_49 => ?_)
  · rw [if_pos h_49] at hm
    refine lv_aload_n hx hb dX6_goesBy_209 rfl (lv_at hl 0 rfl) ?_
    refine lv_bipush (v := 99) hx hb dX6_goesBy_210 (by decide) ?_
    refine lv_aload_n hx hb dX6_goesBy_212 rfl (lv_at hl 0 rfl) ?_
    refine xg_X6_10 X hP hAll uX6_goesBy_X6 mbX6_goesBy_8 dX6_goesBy_213 ?_
    refine lv_iload_n hx hb dX6_goesBy_216 rfl (lv_at hl 1 rfl) ?_
    refine x_iald X hP (okc_154 hAll) hb_48 dX6_goesBy_217 ?_
    refine lv_iconst (v := 1) hx hb dX6_goesBy_218 (by decide) ?_
    refine lv_iadd hx hb dX6_goesBy_219 ?_
    obtain ⟨r_51, hc_50, hm⟩ := bind_elim hm
    refine x_calli (x_runV (As := [.int 99, .int ((rd M_46 154 (ix s1)) + 1)]) (rest := [.int s1, .ref (ga g 154)]) X hP hS (c_X6_less l X.2.2 hc_50) (cwV 2 hts gX6_goesBy_X6_less rfl rfl rfl (by decide +kernel) ⟨Nat.le_of_ble_eq_true rfl, Nat.le_of_ble_eq_true rfl⟩) (x_recv (C := RX6) (T := TX6) (N := 55) X hP (okc_148 hAll) rfl) rfl hl.1 rfl (Nat.le_of_ble_eq_true rfl) dX6_goesBy_220 ⟨Nat.zero_le _, Nat.zero_le _⟩) hS (fun H locs hP hS => ?_)
    exact wj_X6_goesBy_223i X hAll kb kx0 hm hP hS (lv_sub hl [0, 1] rfl)
  · rw [if_neg h_49] at hm
    refine lv_iconst (v := 0) hx hb dX6_goesBy_205 (by decide) ?_
    refine lv_goto (tgt := 223) hx hb dX6_goesBy_206 (by decide) ?_
    exact wj_X6_goesBy_223i X hAll kb kx0 hm hP hS (lv_sub hl [0, 1] rfl)

set_option maxHeartbeats 4000000 in
set_option maxRecDepth 100000 in
theorem wj_X6_goesBy_144i (X : CxG g p s m args c cX6_goesBy 3 RX6 wsX6_goesBy) (hAll : okAll g) {fu : Nat} {M : Mem} {s1 : Int32} {t0 : Int32} {o : (Int32 × Mem) ⊕ (Mem)} (kb : ∀ (d1 : Int32) (M2 : Mem) , o = .inl (d1, M2) → ∀ (H : Heap) (locs : List Loc) (ls : Array Slot), va_P (gD g) vwCl (wlG g M2) H → va_S (AbG g) s.heap H locs → lv_has ls 3 [(0, .ref (ga g 148)), (1, .int d1)] → W p l e (headSpec wsX6_goesBy rmX6_goesBy).room s m args below meth c H locs 0 0 Q (F0 m 98 ls [])) (kx0 : ∀ (M2 : Mem) , o = .inr M2 → ∀ (H : Heap) (locs : List Loc) (ls : Array Slot), va_P (gD g) vwCl (wlG g M2) H → va_S (AbG g) s.heap H locs → lv_has ls 3 [(0, .ref (ga g 148))] → W p l e (headSpec wsX6_goesBy rmX6_goesBy).room s m args below meth c H locs 0 0 Q (F0 m 259 ls [])) (hm : j_X6_goesBy_144i fu M s1 t0 = some o) {H : Heap} {locs : List Loc} {ls : Array Slot} (hP : va_P (gD g) vwCl (wlG g M) H) (hS : va_S (AbG g) s.heap H locs) (hl : lv_has ls 3 [(0, .ref (ga g 148)), (1, .int s1)]) : W p l e (headSpec wsX6_goesBy rmX6_goesBy).room s m args below meth c H locs 0 0 Q (F0 m 144 ls [.int t0]) := by
  obtain ⟨⟨hx, hb, hml, hown, hts⟩, -, -⟩ := id X
  unfold j_X6_goesBy_144i at hm
  refine lv_istore_n (lv' := [(2, .int t0), (0, .ref (ga g 148)), (1, .int s1)]) hx hb dX6_goesBy_144 rfl hl (by decide) rfl (fun ls hl => ?_)
  refine lv_aload_n hx hb dX6_goesBy_145 rfl (lv_at hl 1 rfl) ?_
  refine xg_X6_9 X hP hAll uX6_goesBy_X6 mbX6_goesBy_5 dX6_goesBy_146 ?_
  refine lv_iload_n hx hb dX6_goesBy_149 rfl (lv_at hl 2 rfl) ?_
  refine lv_aload_n hx hb dX6_goesBy_150 rfl (lv_at hl 1 rfl) ?_
  refine xg_X6_9 X hP hAll uX6_goesBy_X6 mbX6_goesBy_5 dX6_goesBy_151 ?_
  refine lv_iload_n hx hb dX6_goesBy_154 rfl (lv_at hl 2 rfl) ?_
  obtain ⟨hb_41, hm⟩ := chk_elim hm
  refine x_iald X hP (okc_153 hAll) hb_41 dX6_goesBy_155 ?_
  refine lv_aload_n hx hb dX6_goesBy_156 rfl (lv_at hl 1 rfl) ?_
  refine lv_aload_n hx hb dX6_goesBy_157 rfl (lv_at hl 1 rfl) ?_
  refine xg_X6_5 X hP hAll uX6_goesBy_X6 mbX6_goesBy_6 dX6_goesBy_158 ?_
  refine lv_iload_n hx hb dX6_goesBy_161 rfl (lv_at hl 2 rfl) ?_
  refine x_iald X hP (okc_149 hAll) hb_41 dX6_goesBy_162 ?_
  obtain ⟨r_43, hc_42, hm⟩ := bind_elim hm
  refine x_calli (x_runV (As := [.int (rd M 149 (ix s1))]) (rest := [.int (rd M 153 (ix s1)), .int s1, .ref (ga g 153)]) X hP hS (c_X6_worthOf l X.2.2 hAll hc_42) (cwV 1 hts gX6_goesBy_X6_worthOf rfl rfl rfl (by decide +kernel) ⟨Nat.le_of_ble_eq_true rfl, Nat.le_of_ble_eq_true rfl⟩) (x_recv (C := RX6) (T := TX6) (N := 55) X hP (okc_148 hAll) rfl) rfl hl.1 rfl (Nat.le_of_ble_eq_true rfl) dX6_goesBy_163 ⟨Nat.zero_le _, Nat.zero_le _⟩) hS (fun H locs hP hS => ?_)
  refine lv_iadd hx hb dX6_goesBy_166 ?_
  refine lv_iload_n hx hb dX6_goesBy_167 rfl (lv_at hl 0 rfl) ?_
  refine lv_isub hx hb dX6_goesBy_168 ?_
  refine lv_aload_n hx hb dX6_goesBy_169 rfl (lv_at hl 1 rfl) ?_
  refine xg_X6_8 X hP hAll uX6_goesBy_X6 mbX6_goesBy_7 dX6_goesBy_170 ?_
  refine lv_iload_n hx hb dX6_goesBy_173 rfl (lv_at hl 2 rfl) ?_
  refine x_iald X hP (okc_152 hAll) hb_41 dX6_goesBy_174 ?_
  refine lv_iconst (v := 1) hx hb dX6_goesBy_175 (by decide) ?_
  refine lv_icmp_ne (tgt := 188) hx hb dX6_goesBy_176 (by decide) (fun h_44 => ?_) (fun h_44 => ?_)
  · rw [if_neg h_44] at hm
    refine lv_iconst (v := 0) hx hb dX6_goesBy_188 (by decide) ?_
    exact wj_X6_goesBy_189i X hAll kb kx0 hm hP hS (lv_sub hl [1, 2] rfl)
  · rw [if_pos h_44] at hm
    refine lv_aload_n hx hb dX6_goesBy_179 rfl (lv_at hl 1 rfl) ?_
    refine xg_X6_18 X hP hAll uX6_goesBy_X6 mbX6_goesBy_4 dX6_goesBy_180 ?_
    refine lv_iconst (v := 5) hx hb dX6_goesBy_183 (by decide) ?_
    refine x_iald X hP (okc_162 hAll) (show inb 5 10 = true from rfl) dX6_goesBy_184 ?_
    refine lv_goto (tgt := 189) hx hb dX6_goesBy_185 (by decide) ?_
    exact wj_X6_goesBy_189i X hAll kb kx0 hm hP hS (lv_sub hl [1, 2] rfl)

set_option maxHeartbeats 4000000 in
set_option maxRecDepth 100000 in
theorem wl_X6_goesBy_98 (X : CxG g p s m args c cX6_goesBy 3 RX6 wsX6_goesBy) (hAll : okAll g) {fu : Nat} {x : Mem} (kx0 : ∀ (M2 : Mem) , x = M2 → ∀ (H : Heap) (locs : List Loc) (ls : Array Slot), va_P (gD g) vwCl (wlG g M2) H → va_S (AbG g) s.heap H locs → lv_has ls 3 [(0, .ref (ga g 148))] → W p l e (headSpec wsX6_goesBy rmX6_goesBy).room s m args below meth c H locs 0 0 Q (F0 m 259 ls [])) {n : Nat} {q0 : Int32 × Mem} (h : lp (b_X6_goesBy_98 fu) n q0 = some x) : ∀ (H : Heap) (locs : List Loc) (ls : Array Slot), va_P (gD g) vwCl (wlG g q0.2) H → va_S (AbG g) s.heap H locs → lv_has ls 3 [(0, .ref (ga g 148)), (1, .int q0.1)] → W p l e (headSpec wsX6_goesBy rmX6_goesBy).room s m args below meth c H locs 0 0 Q (F0 m 98 ls []) := by
  refine lp_elim (P := fun q0 : Int32 × Mem => ∀ (H : Heap) (locs : List Loc) (ls : Array Slot), va_P (gD g) vwCl (wlG g q0.2) H → va_S (AbG g) s.heap H locs → lv_has ls 3 [(0, .ref (ga g 148)), (1, .int q0.1)] → W p l e (headSpec wsX6_goesBy rmX6_goesBy).room s m args below meth c H locs 0 0 Q (F0 m 98 ls [])) (fun q1 o hm hI hX => ?_) n q0 h
  obtain ⟨c1, M⟩ := q1
  have kb : ∀ (d1 : Int32) (M2 : Mem) , o = .inl (d1, M2) → ∀ (H : Heap) (locs : List Loc) (ls : Array Slot), va_P (gD g) vwCl (wlG g M2) H → va_S (AbG g) s.heap H locs → lv_has ls 3 [(0, .ref (ga g 148)), (1, .int d1)] → W p l e (headSpec wsX6_goesBy rmX6_goesBy).room s m args below meth c H locs 0 0 Q (F0 m 98 ls []) := fun d1 M2 e => hI _ e
  have kx0 : ∀ (M2 : Mem) , o = .inr M2 → ∀ (H : Heap) (locs : List Loc) (ls : Array Slot), va_P (gD g) vwCl (wlG g M2) H → va_S (AbG g) s.heap H locs → lv_has ls 3 [(0, .ref (ga g 148))] → W p l e (headSpec wsX6_goesBy rmX6_goesBy).room s m args below meth c H locs 0 0 Q (F0 m 259 ls []) := fun M2 e => kx0 M2 (hX _ e).symm
  clear hI hX
  intro H locs ls hP hS hl
  obtain ⟨⟨hx, hb, hml, hown, hts⟩, -, -⟩ := id X
  have hl : lv_has ls 3 [(0, .ref (ga g 148)), (1, .int c1)] := hl
  have hP : va_P (gD g) vwCl (wlG g M) H := hP
  unfold b_X6_goesBy_98 at hm
  replace hm := un2_e hm
  refine lv_iload_n hx hb dX6_goesBy_98 rfl (lv_at hl 1 rfl) ?_
  refine lv_aload_n hx hb dX6_goesBy_99 rfl (lv_at hl 0 rfl) ?_
  refine xg_X6_2 X hP hAll uX6_goesBy_X6 mbX6_goesBy_1 dX6_goesBy_100 ?_
  refine lv_icmp_ge (tgt := 259) hx hb dX6_goesBy_103 (by decide) (fun h_37 => ?_) (fun h_37 => ?_)
  · rw [if_pos h_37] at hm
    exact kx0 M (Option.some.inj hm).symm _ _ _ hP hS (lv_sub hl [0] rfl)
  · rw [if_neg h_37] at hm
    refine lv_aload_n hx hb dX6_goesBy_106 rfl (lv_at hl 0 rfl) ?_
    refine xg_X6_42 X hP hAll uX6_goesBy_X6 mbX6_goesBy_2 dX6_goesBy_107 ?_
    refine lv_iload_n hx hb dX6_goesBy_110 rfl (lv_at hl 1 rfl) ?_
    obtain ⟨hb_38, hm⟩ := chk_elim hm
    refine x_iald X hP (okc_174 hAll) hb_38 dX6_goesBy_111 ?_
    refine lv_iconst (v := 1) hx hb dX6_goesBy_112 (by decide) ?_
    refine lv_icmp_ne (tgt := 125) hx hb dX6_goesBy_113 (by decide) (fun h_39 => ?_) (fun h_39 => ?_)
    · rw [if_neg h_39] at hm
      refine lv_aload_n hx hb dX6_goesBy_125 rfl (lv_at hl 0 rfl) ?_
      refine xg_X6_42 X hP hAll uX6_goesBy_X6 mbX6_goesBy_2 dX6_goesBy_126 ?_
      refine lv_iload_n hx hb dX6_goesBy_129 rfl (lv_at hl 1 rfl) ?_
      refine x_iald X hP (okc_174 hAll) hb_38 dX6_goesBy_130 ?_
      refine lv_if_ne (tgt := 138) hx hb dX6_goesBy_131 (by decide) (fun h_40 => ?_) (fun h_40 => ?_)
      · rw [if_neg h_40] at hm
        refine lv_aload_n hx hb dX6_goesBy_138 rfl (lv_at hl 0 rfl) ?_
        refine xg_X6_18 X hP hAll uX6_goesBy_X6 mbX6_goesBy_4 dX6_goesBy_139 ?_
        refine lv_iconst (v := 3) hx hb dX6_goesBy_142 (by decide) ?_
        refine x_iald X hP (okc_162 hAll) (show inb 3 10 = true from rfl) dX6_goesBy_143 ?_
        exact wj_X6_goesBy_144i X hAll kb kx0 hm hP hS (lv_sub hl [0, 1] rfl)
      · rw [if_pos h_40] at hm
        refine lv_iconst (v := 0) hx hb dX6_goesBy_134 (by decide) ?_
        refine lv_goto (tgt := 144) hx hb dX6_goesBy_135 (by decide) ?_
        exact wj_X6_goesBy_144i X hAll kb kx0 hm hP hS (lv_sub hl [0, 1] rfl)
    · rw [if_pos h_39] at hm
      refine lv_aload_n hx hb dX6_goesBy_116 rfl (lv_at hl 0 rfl) ?_
      refine xg_X6_18 X hP hAll uX6_goesBy_X6 mbX6_goesBy_4 dX6_goesBy_117 ?_
      refine lv_iconst (v := 4) hx hb dX6_goesBy_120 (by decide) ?_
      refine x_iald X hP (okc_162 hAll) (show inb 4 10 = true from rfl) dX6_goesBy_121 ?_
      refine lv_goto (tgt := 144) hx hb dX6_goesBy_122 (by decide) ?_
      exact wj_X6_goesBy_144i X hAll kb kx0 hm hP hS (lv_sub hl [0, 1] rfl)

set_option maxHeartbeats 4000000 in
set_option maxRecDepth 100000 in
theorem c_X6_goesBy (l : Launch) {g : GT} (hA : AxG g) (hAll : okAll g)   {fu : Nat} {M : Mem} {MM : Mem} (hm : m_X6_goesBy fu M = some MM) : CV l yX6_goesBy wsX6_goesBy rmX6_goesBy g [.ref (ga g 148)] M MM := by
  refine Met.ofW (cc := cX6_goesBy) (maxL := 3) (ret := none) (by decide) rfl ?_
  intro p e s m args below meth c s₁ B hml hv
  obtain ⟨rfl, hSx, hP⟩ := hv
  have hr := B.returns
  have hlocks := B.notSynchronized
  have X : CxG g p s m _ c cX6_goesBy 3 RX6 wsX6_goesBy := ⟨⟨B.exec, B.bytes, hml, findClass_of_methodNamed B.named, atoms_spec (ws := wsX6_goesBy) B.pre⟩, hSx, hA⟩
  have hS : va_S (AbG g) s.heap s.heap [] := va_S.rf
  have hl := lv_entry (([.ref (ga g 148)] : List Value)) (n := 3) (Nat.le_of_ble_eq_true rfl)
  rw [lg_entry_eq]
  generalize (lg_sl (([.ref (ga g 148)] : List Value)) ++ List.replicate (3 - (lg_sl (([.ref (ga g 148)] : List Value))).length) Slot.unset).toArray = ls at hl ⊢
  have hl : lv_has ls 3 [(0, .ref (ga g 148))] := hl
  obtain ⟨⟨hx, hb, hml, hown, hts⟩, -, -⟩ := id X
  unfold m_X6_goesBy at hm
  refine lv_iconst (v := 0) hx hb dX6_goesBy_0 (by decide) ?_
  refine lv_istore_n (lv' := [(1, .int 0), (0, .ref (ga g 148))]) hx hb dX6_goesBy_1 rfl hl (by decide) rfl (fun ls hl => ?_)
  obtain ⟨M_14, hL_13, hm⟩ := bind_elim hm
  refine wl_X6_goesBy_2 X hAll ?_ hL_13 _ _ _ hP hS (lv_sub hl [1, 0] rfl)
  · intro z_M_14 e_M_14 H locs ls hP hS hl
    subst e_M_14
    replace hm := un1_e hm
    refine lv_iconst (v := 0) hx hb dX6_goesBy_34 (by decide) ?_
    refine lv_istore_n (lv' := [(1, .int 0), (0, .ref (ga g 148))]) hx hb dX6_goesBy_35 rfl hl (by decide) rfl (fun ls hl => ?_)
    obtain ⟨M_36, hL_35, hm⟩ := bind_elim hm
    refine wl_X6_goesBy_36 X hAll ?_ hL_35 _ _ _ hP hS (lv_sub hl [1, 0] rfl)
    · intro z_M_36 e_M_36 H locs ls hP hS hl
      subst e_M_36
      replace hm := un1_e hm
      refine lv_iconst (v := 0) hx hb dX6_goesBy_96 (by decide) ?_
      refine lv_istore_n (lv' := [(1, .int 0), (0, .ref (ga g 148))]) hx hb dX6_goesBy_97 rfl hl (by decide) rfl (fun ls hl => ?_)
      obtain ⟨M_68, hL_67, hm⟩ := bind_elim hm
      refine wl_X6_goesBy_98 X hAll ?_ hL_67 _ _ _ hP hS (lv_sub hl [1, 0] rfl)
      · intro z_M_68 e_M_68 H locs ls hP hS hl
        subst e_M_68
        replace hm := un1_e hm
        refine lv_aload_n hx hb dX6_goesBy_259 rfl (lv_at hl 0 rfl) ?_
        refine lv_aload_n hx hb dX6_goesBy_260 rfl (lv_at hl 0 rfl) ?_
        refine xg_X6_3 X hP hAll uX6_goesBy_X6 mbX6_goesBy_10 dX6_goesBy_261 ?_
        refine lv_iconst (v := 1) hx hb dX6_goesBy_264 (by decide) ?_
        refine lv_iadd hx hb dX6_goesBy_265 ?_
        obtain ⟨M_69, hM_70, hm⟩ := bnd_elim hm
        refine xp_X6_3 X hP hAll uX6_goesBy_X6 mbX6_goesBy_10 hS hM_70 dX6_goesBy_266 (fun H locs hP hS => ?_)
        cases hm
        exact x_vret X hP hS hr hlocks dX6_goesBy_269


/-! X6_nights -/
def rmX6_nights : Room := { frames := 5, cells := 0, slots := 0, locals := 116 }
theorem uX6_nights_X6 : ∀ w ∈ wsX60, w ∈ wsX6_nights := by decide +kernel
theorem mbX6_nights_1 : Cond.fieldLink RX6 121 "FootANightModel" "told" "I" ∈ wsX6_nights := by decide +kernel
theorem mbX6_nights_2 : Cond.fieldLink RX6 251 "FootANightModel" "night" "I" ∈ wsX6_nights := by decide +kernel
theorem mbX6_nights_3 : Cond.fieldLink RX6 263 "FootANightModel" "moved" "I" ∈ wsX6_nights := by decide +kernel
set_option maxHeartbeats 4000000 in
set_option maxRecDepth 100000 in
theorem wl_X6_nights_37 (X : CxG g p s m args c cX6_nights 4 RX6 wsX6_nights) (hAll : okAll g) {fu : Nat} {s1 : Int32} {s2 : Int32} {x : Mem} (kx0 : ∀ (M2 : Mem) , x = M2 → ∀ (H : Heap) (locs : List Loc) (ls : Array Slot), va_P (gD g) vwCl (wlG g M2) H → va_S (AbG g) s.heap H locs → lv_has ls 4 [(0, .ref (ga g 148)), (2, .int s2)] → W p l e (headSpec wsX6_nights rmX6_nights).room s m args below meth c H locs 0 0 Q (F0 m 52 ls [])) {n : Nat} {q0 : Int32 × Mem} (h : lp (b_X6_nights_37 fu s1 s2) n q0 = some x) : ∀ (H : Heap) (locs : List Loc) (ls : Array Slot), va_P (gD g) vwCl (wlG g q0.2) H → va_S (AbG g) s.heap H locs → lv_has ls 4 [(0, .ref (ga g 148)), (1, .int s1), (2, .int s2), (3, .int q0.1)] → W p l e (headSpec wsX6_nights rmX6_nights).room s m args below meth c H locs 0 0 Q (F0 m 37 ls []) := by
  refine lp_elim (P := fun q0 : Int32 × Mem => ∀ (H : Heap) (locs : List Loc) (ls : Array Slot), va_P (gD g) vwCl (wlG g q0.2) H → va_S (AbG g) s.heap H locs → lv_has ls 4 [(0, .ref (ga g 148)), (1, .int s1), (2, .int s2), (3, .int q0.1)] → W p l e (headSpec wsX6_nights rmX6_nights).room s m args below meth c H locs 0 0 Q (F0 m 37 ls [])) (fun q1 o hm hI hX => ?_) n q0 h
  obtain ⟨c3, M⟩ := q1
  have kb : ∀ (d3 : Int32) (M2 : Mem) , o = .inl (d3, M2) → ∀ (H : Heap) (locs : List Loc) (ls : Array Slot), va_P (gD g) vwCl (wlG g M2) H → va_S (AbG g) s.heap H locs → lv_has ls 4 [(0, .ref (ga g 148)), (1, .int s1), (2, .int s2), (3, .int d3)] → W p l e (headSpec wsX6_nights rmX6_nights).room s m args below meth c H locs 0 0 Q (F0 m 37 ls []) := fun d3 M2 e => hI _ e
  have kx0 : ∀ (M2 : Mem) , o = .inr M2 → ∀ (H : Heap) (locs : List Loc) (ls : Array Slot), va_P (gD g) vwCl (wlG g M2) H → va_S (AbG g) s.heap H locs → lv_has ls 4 [(0, .ref (ga g 148)), (2, .int s2)] → W p l e (headSpec wsX6_nights rmX6_nights).room s m args below meth c H locs 0 0 Q (F0 m 52 ls []) := fun M2 e => kx0 M2 (hX _ e).symm
  clear hI hX
  intro H locs ls hP hS hl
  obtain ⟨⟨hx, hb, hml, hown, hts⟩, -, -⟩ := id X
  have hl : lv_has ls 4 [(0, .ref (ga g 148)), (1, .int s1), (2, .int s2), (3, .int c3)] := hl
  have hP : va_P (gD g) vwCl (wlG g M) H := hP
  unfold b_X6_nights_37 at hm
  replace hm := un2_e hm
  refine lv_iload_n hx hb dX6_nights_37 rfl (lv_at hl 3 rfl) ?_
  refine lv_iload_n hx hb dX6_nights_38 rfl (lv_at hl 1 rfl) ?_
  refine lv_icmp_ge (tgt := 52) hx hb dX6_nights_39 (by decide) (fun h_9 => ?_) (fun h_9 => ?_)
  · rw [if_pos h_9] at hm
    exact kx0 M (Option.some.inj hm).symm _ _ _ hP hS (lv_sub hl [0, 2] rfl)
  · rw [if_neg h_9] at hm
    refine lv_aload_n hx hb dX6_nights_42 rfl (lv_at hl 0 rfl) ?_
    obtain ⟨M_11, hc_10, hm⟩ := bind_elim hm
    refine x_callv (x_runV (As := []) (rest := []) X hP hS (c_X6_goesBy l X.2.2 hAll hc_10) (cwV 0 hts gX6_nights_X6_goesBy rfl rfl rfl (by decide +kernel) ⟨Nat.le_of_ble_eq_true rfl, Nat.le_of_ble_eq_true rfl⟩) (x_recv (C := RX6) (T := TX6) (N := 55) X hP (okc_148 hAll) rfl) rfl hl.1 rfl (Nat.le_of_ble_eq_true rfl) dX6_nights_43 ⟨Nat.zero_le _, Nat.zero_le _⟩) hS (fun H locs hP hS => ?_)
    obtain ⟨v_12, hv_13, hm⟩ := bnd_elim hm
    refine lv_iinc (v := v_12) (lv' := [(3, .int v_12), (0, .ref (ga g 148)), (1, .int s1), (2, .int s2)]) hx hb dX6_nights_46 hl (k := 3) rfl (by rw [hv_13]; rfl) (by decide) rfl (fun ls hl => ?_)
    refine lv_goto (tgt := 37) hx hb dX6_nights_49 (by decide) ?_
    exact kb v_12 M_11 (Option.some.inj hm).symm _ _ _ hP hS (lv_sub hl [1, 2, 3, 0] rfl)

set_option maxHeartbeats 4000000 in
set_option maxRecDepth 100000 in
theorem c_X6_nights (l : Launch) {g : GT} (hA : AxG g) (hAll : okAll g)   {fu : Nat} {M : Mem} {a1 : Int32} {rr : Int32} {MM : Mem} (hm : m_X6_nights fu M a1 = some (rr, MM)) : CI l yX6_nights wsX6_nights rmX6_nights g [.ref (ga g 148), .int a1] M rr MM := by
  refine Met.ofW (cc := cX6_nights) (maxL := 4) (ret := (some .int)) (by decide) rfl ?_
  intro p e s m args below meth c s₁ B hml hv
  obtain ⟨rfl, hSx, hP⟩ := hv
  have hr := B.returns
  have hlocks := B.notSynchronized
  have X : CxG g p s m _ c cX6_nights 4 RX6 wsX6_nights := ⟨⟨B.exec, B.bytes, hml, findClass_of_methodNamed B.named, atoms_spec (ws := wsX6_nights) B.pre⟩, hSx, hA⟩
  have hS : va_S (AbG g) s.heap s.heap [] := va_S.rf
  have hl := lv_entry (([.ref (ga g 148), .int a1] : List Value)) (n := 4) (Nat.le_of_ble_eq_true rfl)
  rw [lg_entry_eq]
  generalize (lg_sl (([.ref (ga g 148), .int a1] : List Value)) ++ List.replicate (4 - (lg_sl (([.ref (ga g 148), .int a1] : List Value))).length) Slot.unset).toArray = ls at hl ⊢
  have hl : lv_has ls 4 [(0, .ref (ga g 148)), (1, .int a1)] := hl
  obtain ⟨⟨hx, hb, hml, hown, hts⟩, -, -⟩ := id X
  unfold m_X6_nights at hm
  refine lv_aload_n hx hb dX6_nights_0 rfl (lv_at hl 0 rfl) ?_
  refine lv_iconst (v := 0) hx hb dX6_nights_1 (by decide) ?_
  obtain ⟨M_1, hM_2, hm⟩ := bnd_elim hm
  refine xp_X6_0 X hP hAll uX6_nights_X6 mbX6_nights_1 hS hM_2 dX6_nights_2 (fun H locs hP hS => ?_)
  refine lv_aload_n hx hb dX6_nights_5 rfl (lv_at hl 0 rfl) ?_
  refine lv_iload_n hx hb dX6_nights_6 rfl (lv_at hl 1 rfl) ?_
  refine lv_iconst (v := 1) hx hb dX6_nights_7 (by decide) ?_
  refine lv_bipush (v := 99) hx hb dX6_nights_8 (by decide) ?_
  obtain ⟨r_4, hc_3, hm⟩ := bind_elim hm
  refine x_calli (x_runV (As := [.int a1, .int 1, .int 99]) (rest := []) X hP hS (c_X6_isIn l X.2.2 hc_3) (cwV 3 hts gX6_nights_X6_isIn rfl rfl rfl (by decide +kernel) ⟨Nat.le_of_ble_eq_true rfl, Nat.le_of_ble_eq_true rfl⟩) (x_recv (C := RX6) (T := TX6) (N := 55) X hP (okc_148 hAll) rfl) rfl hl.1 rfl (Nat.le_of_ble_eq_true rfl) dX6_nights_10 ⟨Nat.zero_le _, Nat.zero_le _⟩) hS (fun H locs hP hS => ?_)
  refine lv_if_eq (tgt := 28) hx hb dX6_nights_13 (by decide) (fun h_5 => ?_) (fun h_5 => ?_)
  · rw [if_pos h_5] at hm
    refine lv_iconst (v := (-1)) hx hb dX6_nights_28 (by decide) ?_
    cases hm
    exact x_iret X hP hS hr hlocks dX6_nights_29
  · rw [if_neg h_5] at hm
    refine lv_aload_n hx hb dX6_nights_16 rfl (lv_at hl 0 rfl) ?_
    refine xg_X6_3 X hP hAll uX6_nights_X6 mbX6_nights_2 dX6_nights_17 ?_
    refine lv_iload_n hx hb dX6_nights_20 rfl (lv_at hl 1 rfl) ?_
    refine lv_iadd hx hb dX6_nights_21 ?_
    refine lv_sipush (v := 9999) hx hb dX6_nights_22 (by decide) ?_
    refine lv_icmp_le (tgt := 30) hx hb dX6_nights_25 (by decide) (fun h_6 => ?_) (fun h_6 => ?_)
    · rw [if_pos h_6] at hm
      refine lv_aload_n hx hb dX6_nights_30 rfl (lv_at hl 0 rfl) ?_
      refine xg_X6_4 X hP hAll uX6_nights_X6 mbX6_nights_3 dX6_nights_31 ?_
      obtain ⟨v_7, hv_8, hm⟩ := bnd_elim hm
      refine x_name hv_8 ?_
      refine lv_istore_n (lv' := [(2, .int v_7), (0, .ref (ga g 148)), (1, .int a1)]) hx hb dX6_nights_34 rfl hl (by decide) rfl (fun ls hl => ?_)
      refine lv_iconst (v := 0) hx hb dX6_nights_35 (by decide) ?_
      refine lv_istore_n (lv' := [(3, .int 0), (2, .int v_7), (0, .ref (ga g 148)), (1, .int a1)]) hx hb dX6_nights_36 rfl hl (by decide) rfl (fun ls hl => ?_)
      obtain ⟨M_16, hL_15, hm⟩ := bind_elim hm
      refine wl_X6_nights_37 X hAll ?_ hL_15 _ _ _ hP hS (lv_sub hl [2, 3, 1, 0] rfl)
      · intro z_M_16 e_M_16 H locs ls hP hS hl
        subst e_M_16
        replace hm := un1_e hm
        refine lv_aload_n hx hb dX6_nights_52 rfl (lv_at hl 0 rfl) ?_
        refine xg_X6_4 X hP hAll uX6_nights_X6 mbX6_nights_3 dX6_nights_53 ?_
        refine lv_iload_n hx hb dX6_nights_56 rfl (lv_at hl 1 rfl) ?_
        refine lv_isub hx hb dX6_nights_57 ?_
        cases hm
        exact x_iret X hP hS hr hlocks dX6_nights_58
    · rw [if_neg h_6] at hm
      refine lv_iconst (v := (-1)) hx hb dX6_nights_28 (by decide) ?_
      cases hm
      exact x_iret X hP hS hr hlocks dX6_nights_29


/-! X6_of -/
def rmX6_of : Room := { frames := 4, cells := 0, slots := 0, locals := 94 }
theorem uX6_of_X6 : ∀ w ∈ wsX60, w ∈ wsX6_of := by decide +kernel
theorem mbX6_of_1 : Cond.fieldLink RX6 121 "FootANightModel" "told" "I" ∈ wsX6_of := by decide +kernel
theorem mbX6_of_2 : Cond.constant RX6 276 (-100000000) ∈ wsX6_of := by decide +kernel
theorem mbX6_of_3 : Cond.fieldLink RX6 35 "FootANightModel" "eaten" "[I" ∈ wsX6_of := by decide +kernel
theorem mbX6_of_4 : Cond.fieldLink RX6 32 "FootANightModel" "caught" "[I" ∈ wsX6_of := by decide +kernel
theorem mbX6_of_5 : Cond.fieldLink RX6 29 "FootANightModel" "hit" "[I" ∈ wsX6_of := by decide +kernel
theorem mbX6_of_6 : Cond.fieldLink RX6 26 "FootANightModel" "purse" "[I" ∈ wsX6_of := by decide +kernel
theorem mbX6_of_7 : Cond.fieldLink RX6 23 "FootANightModel" "dogOf" "[I" ∈ wsX6_of := by decide +kernel
theorem mbX6_of_8 : Cond.fieldLink RX6 20 "FootANightModel" "familyOf" "[I" ∈ wsX6_of := by decide +kernel
theorem mbX6_of_9 : Cond.fieldLink RX6 17 "FootANightModel" "lawOf" "[I" ∈ wsX6_of := by decide +kernel
theorem mbX6_of_10 : Cond.fieldLink RX6 13 "FootANightModel" "wide" "[I" ∈ wsX6_of := by decide +kernel
set_option maxHeartbeats 4000000 in
set_option maxRecDepth 100000 in
theorem c_X6_of (l : Launch) {g : GT} (hA : AxG g) (hAll : okAll g)   {fu : Nat} {M : Mem} {a1 : Int32} {a2 : Int32} {rr : Int32} {MM : Mem} (hm : m_X6_of fu M a1 a2 = some (rr, MM)) : CI l yX6_of wsX6_of rmX6_of g [.ref (ga g 148), .int a1, .int a2] M rr MM := by
  refine Met.ofW (cc := cX6_of) (maxL := 3) (ret := (some .int)) (by decide) rfl ?_
  intro p e s m args below meth c s₁ B hml hv
  obtain ⟨rfl, hSx, hP⟩ := hv
  have hr := B.returns
  have hlocks := B.notSynchronized
  have X : CxG g p s m _ c cX6_of 3 RX6 wsX6_of := ⟨⟨B.exec, B.bytes, hml, findClass_of_methodNamed B.named, atoms_spec (ws := wsX6_of) B.pre⟩, hSx, hA⟩
  have hS : va_S (AbG g) s.heap s.heap [] := va_S.rf
  have hl := lv_entry (([.ref (ga g 148), .int a1, .int a2] : List Value)) (n := 3) (Nat.le_of_ble_eq_true rfl)
  rw [lg_entry_eq]
  generalize (lg_sl (([.ref (ga g 148), .int a1, .int a2] : List Value)) ++ List.replicate (3 - (lg_sl (([.ref (ga g 148), .int a1, .int a2] : List Value))).length) Slot.unset).toArray = ls at hl ⊢
  have hl : lv_has ls 3 [(0, .ref (ga g 148)), (1, .int a1), (2, .int a2)] := hl
  obtain ⟨⟨hx, hb, hml, hown, hts⟩, -, -⟩ := id X
  unfold m_X6_of at hm
  refine lv_aload_n hx hb dX6_of_0 rfl (lv_at hl 0 rfl) ?_
  refine lv_iconst (v := 0) hx hb dX6_of_1 (by decide) ?_
  obtain ⟨M_1, hM_2, hm⟩ := bnd_elim hm
  refine xp_X6_0 X hP hAll uX6_of_X6 mbX6_of_1 hS hM_2 dX6_of_2 (fun H locs hP hS => ?_)
  refine lv_aload_n hx hb dX6_of_5 rfl (lv_at hl 0 rfl) ?_
  refine lv_iload_n hx hb dX6_of_6 rfl (lv_at hl 1 rfl) ?_
  obtain ⟨r_4, hc_3, hm⟩ := bind_elim hm
  refine x_calli (x_runV (As := [.int a1]) (rest := []) X hP hS (c_X6_isFarm l X.2.2 hAll hc_3) (cwV 1 hts gX6_of_X6_isFarm rfl rfl rfl (by decide +kernel) ⟨Nat.le_of_ble_eq_true rfl, Nat.le_of_ble_eq_true rfl⟩) (x_recv (C := RX6) (T := TX6) (N := 55) X hP (okc_148 hAll) rfl) rfl hl.1 rfl (Nat.le_of_ble_eq_true rfl) dX6_of_7 ⟨Nat.zero_le _, Nat.zero_le _⟩) hS (fun H locs hP hS => ?_)
  refine lv_if_ne (tgt := 17) hx hb dX6_of_10 (by decide) (fun h_5 => ?_) (fun h_5 => ?_)
  · rw [if_neg h_5] at hm
    refine lv_iload_n hx hb dX6_of_17 rfl (lv_at hl 2 rfl) ?_
    refine lv_if_ne (tgt := 28) hx hb dX6_of_18 (by decide) (fun h_6 => ?_) (fun h_6 => ?_)
    · rw [if_neg h_6] at hm
      refine lv_iload_n hx hb dX6_of_28 rfl (lv_at hl 2 rfl) ?_
      refine lv_iconst (v := 1) hx hb dX6_of_29 (by decide) ?_
      refine lv_icmp_ne (tgt := 40) hx hb dX6_of_30 (by decide) (fun h_7 => ?_) (fun h_7 => ?_)
      · rw [if_neg h_7] at hm
        refine lv_iload_n hx hb dX6_of_40 rfl (lv_at hl 2 rfl) ?_
        refine lv_iconst (v := 2) hx hb dX6_of_41 (by decide) ?_
        refine lv_icmp_ne (tgt := 52) hx hb dX6_of_42 (by decide) (fun h_8 => ?_) (fun h_8 => ?_)
        · rw [if_neg h_8] at hm
          refine lv_iload_n hx hb dX6_of_52 rfl (lv_at hl 2 rfl) ?_
          refine lv_iconst (v := 3) hx hb dX6_of_53 (by decide) ?_
          refine lv_icmp_ne (tgt := 64) hx hb dX6_of_54 (by decide) (fun h_9 => ?_) (fun h_9 => ?_)
          · rw [if_neg h_9] at hm
            refine lv_iload_n hx hb dX6_of_64 rfl (lv_at hl 2 rfl) ?_
            refine lv_iconst (v := 4) hx hb dX6_of_65 (by decide) ?_
            refine lv_icmp_ne (tgt := 76) hx hb dX6_of_66 (by decide) (fun h_10 => ?_) (fun h_10 => ?_)
            · rw [if_neg h_10] at hm
              refine lv_iload_n hx hb dX6_of_76 rfl (lv_at hl 2 rfl) ?_
              refine lv_iconst (v := 5) hx hb dX6_of_77 (by decide) ?_
              refine lv_icmp_ne (tgt := 88) hx hb dX6_of_78 (by decide) (fun h_11 => ?_) (fun h_11 => ?_)
              · rw [if_neg h_11] at hm
                refine lv_iload_n hx hb dX6_of_88 rfl (lv_at hl 2 rfl) ?_
                refine lv_bipush (v := 6) hx hb dX6_of_89 (by decide) ?_
                refine lv_icmp_ne (tgt := 101) hx hb dX6_of_91 (by decide) (fun h_12 => ?_) (fun h_12 => ?_)
                · rw [if_neg h_12] at hm
                  refine lv_iload_n hx hb dX6_of_101 rfl (lv_at hl 2 rfl) ?_
                  refine lv_bipush (v := 7) hx hb dX6_of_102 (by decide) ?_
                  refine lv_icmp_ne (tgt := 114) hx hb dX6_of_104 (by decide) (fun h_13 => ?_) (fun h_13 => ?_)
                  · rw [if_neg h_13] at hm
                    refine lv_iload_n hx hb dX6_of_114 rfl (lv_at hl 2 rfl) ?_
                    refine lv_bipush (v := 8) hx hb dX6_of_115 (by decide) ?_
                    refine lv_icmp_ne (tgt := 128) hx hb dX6_of_117 (by decide) (fun h_14 => ?_) (fun h_14 => ?_)
                    · rw [if_neg h_14] at hm
                      refine lv_ldcw (v := (-100000000)) hx hb hown (hts _ mbX6_of_2) dX6_of_128 ?_
                      cases hm
                      exact x_iret X hP hS hr hlocks dX6_of_131
                    · rw [if_pos h_14] at hm
                      refine lv_aload_n hx hb dX6_of_120 rfl (lv_at hl 0 rfl) ?_
                      refine lv_iload_n hx hb dX6_of_121 rfl (lv_at hl 1 rfl) ?_
                      obtain ⟨⟨r_16, M_17⟩, hc_15, hm⟩ := bind_elim hm
                      replace hm := un2_e hm
                      refine x_calli (x_runV (As := [.int a1]) (rest := []) X hP hS (c_X6_doingOf l X.2.2 hAll hc_15) (cwV 1 hts gX6_of_X6_doingOf rfl rfl rfl (by decide +kernel) ⟨Nat.le_of_ble_eq_true rfl, Nat.le_of_ble_eq_true rfl⟩) (x_recv (C := RX6) (T := TX6) (N := 55) X hP (okc_148 hAll) rfl) rfl hl.1 rfl (Nat.le_of_ble_eq_true rfl) dX6_of_122 ⟨Nat.zero_le _, Nat.zero_le _⟩) hS (fun H locs hP hS => ?_)
                      refine lv_goto (tgt := 131) hx hb dX6_of_125 (by decide) ?_
                      cases hm
                      exact x_iret X hP hS hr hlocks dX6_of_131
                  · rw [if_pos h_13] at hm
                    refine lv_aload_n hx hb dX6_of_107 rfl (lv_at hl 0 rfl) ?_
                    refine xg_X6_12 X hP hAll uX6_of_X6 mbX6_of_3 dX6_of_108 ?_
                    refine lv_iload_n hx hb dX6_of_111 rfl (lv_at hl 1 rfl) ?_
                    obtain ⟨hb_18, hm⟩ := chk_elim hm
                    refine x_iald X hP (okc_156 hAll) hb_18 dX6_of_112 ?_
                    cases hm
                    exact x_iret X hP hS hr hlocks dX6_of_113
                · rw [if_pos h_12] at hm
                  refine lv_aload_n hx hb dX6_of_94 rfl (lv_at hl 0 rfl) ?_
                  refine xg_X6_11 X hP hAll uX6_of_X6 mbX6_of_4 dX6_of_95 ?_
                  refine lv_iload_n hx hb dX6_of_98 rfl (lv_at hl 1 rfl) ?_
                  obtain ⟨hb_19, hm⟩ := chk_elim hm
                  refine x_iald X hP (okc_155 hAll) hb_19 dX6_of_99 ?_
                  cases hm
                  exact x_iret X hP hS hr hlocks dX6_of_100
              · rw [if_pos h_11] at hm
                refine lv_aload_n hx hb dX6_of_81 rfl (lv_at hl 0 rfl) ?_
                refine xg_X6_10 X hP hAll uX6_of_X6 mbX6_of_5 dX6_of_82 ?_
                refine lv_iload_n hx hb dX6_of_85 rfl (lv_at hl 1 rfl) ?_
                obtain ⟨hb_20, hm⟩ := chk_elim hm
                refine x_iald X hP (okc_154 hAll) hb_20 dX6_of_86 ?_
                cases hm
                exact x_iret X hP hS hr hlocks dX6_of_87
            · rw [if_pos h_10] at hm
              refine lv_aload_n hx hb dX6_of_69 rfl (lv_at hl 0 rfl) ?_
              refine xg_X6_9 X hP hAll uX6_of_X6 mbX6_of_6 dX6_of_70 ?_
              refine lv_iload_n hx hb dX6_of_73 rfl (lv_at hl 1 rfl) ?_
              obtain ⟨hb_21, hm⟩ := chk_elim hm
              refine x_iald X hP (okc_153 hAll) hb_21 dX6_of_74 ?_
              cases hm
              exact x_iret X hP hS hr hlocks dX6_of_75
          · rw [if_pos h_9] at hm
            refine lv_aload_n hx hb dX6_of_57 rfl (lv_at hl 0 rfl) ?_
            refine xg_X6_8 X hP hAll uX6_of_X6 mbX6_of_7 dX6_of_58 ?_
            refine lv_iload_n hx hb dX6_of_61 rfl (lv_at hl 1 rfl) ?_
            obtain ⟨hb_22, hm⟩ := chk_elim hm
            refine x_iald X hP (okc_152 hAll) hb_22 dX6_of_62 ?_
            cases hm
            exact x_iret X hP hS hr hlocks dX6_of_63
        · rw [if_pos h_8] at hm
          refine lv_aload_n hx hb dX6_of_45 rfl (lv_at hl 0 rfl) ?_
          refine xg_X6_7 X hP hAll uX6_of_X6 mbX6_of_8 dX6_of_46 ?_
          refine lv_iload_n hx hb dX6_of_49 rfl (lv_at hl 1 rfl) ?_
          obtain ⟨hb_23, hm⟩ := chk_elim hm
          refine x_iald X hP (okc_151 hAll) hb_23 dX6_of_50 ?_
          cases hm
          exact x_iret X hP hS hr hlocks dX6_of_51
      · rw [if_pos h_7] at hm
        refine lv_aload_n hx hb dX6_of_33 rfl (lv_at hl 0 rfl) ?_
        refine xg_X6_6 X hP hAll uX6_of_X6 mbX6_of_9 dX6_of_34 ?_
        refine lv_iload_n hx hb dX6_of_37 rfl (lv_at hl 1 rfl) ?_
        obtain ⟨hb_24, hm⟩ := chk_elim hm
        refine x_iald X hP (okc_150 hAll) hb_24 dX6_of_38 ?_
        cases hm
        exact x_iret X hP hS hr hlocks dX6_of_39
    · rw [if_pos h_6] at hm
      refine lv_aload_n hx hb dX6_of_21 rfl (lv_at hl 0 rfl) ?_
      refine xg_X6_5 X hP hAll uX6_of_X6 mbX6_of_10 dX6_of_22 ?_
      refine lv_iload_n hx hb dX6_of_25 rfl (lv_at hl 1 rfl) ?_
      obtain ⟨hb_25, hm⟩ := chk_elim hm
      refine x_iald X hP (okc_149 hAll) hb_25 dX6_of_26 ?_
      cases hm
      exact x_iret X hP hS hr hlocks dX6_of_27
  · rw [if_pos h_5] at hm
    refine lv_ldcw (v := (-100000000)) hx hb hown (hts _ mbX6_of_2) dX6_of_13 ?_
    cases hm
    exact x_iret X hP hS hr hlocks dX6_of_16

end
