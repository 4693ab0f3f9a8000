/-! walks: written by wip/whole/gen/gen.py out of the printed names -/
section
variable {p : Program} {l : Launch} {e : Env} {s : State} {m : MethodId} {args : Array Value} {below : List Frame} {meth : Method} {c : Code} {Q : State → Prop} {g : GT}
/-! X3_isLetter -/
def rmX3_isLetter : Room := { frames := 0, cells := 0, slots := 0, locals := 0 }

set_option maxHeartbeats 4000000 in
set_option maxRecDepth 100000 in
theorem wj_X3_isLetter_24 (X : CxG g p s m args c cX3_isLetter 1 RX3 wsX3_isLetter) {M : Mem} {rr : Int32} (hr : meth.sig.returnType = (some .boolean)) (hlocks : meth.locks = false) (hm : j_X3_isLetter_24 M = some rr) {H : Heap} {locs : List Loc} {ls : Array Slot} (hP : va_P (gD g) vwCl (wlG g M) H) (hS : va_S (AbG g) s.heap H locs) (hl : lv_has ls 1 []) : W p l e (headSpec wsX3_isLetter rmX3_isLetter).room s m args below meth c H locs 0 0 (MQ below (va_Qi (fun (q : Int32) (_ : Unit) => q = rr) (fun _ t => va_P (gD g) vwCl (wlG g M) t.heap) (AbG g)) args s 0 0 (AbG g)) (F0 m 24 ls []) := by
  obtain ⟨⟨hx, hb, hml, hown, hts⟩, -, -⟩ := id X
  unfold j_X3_isLetter_24 at hm
  refine lv_iconst (v := 1) hx hb dX3_isLetter_24 (by decide) ?_
  refine lv_goto (tgt := 29) hx hb dX3_isLetter_25 (by decide) ?_
  cases hm
  exact x_zret X (by decide) hP hS hr hlocks dX3_isLetter_29

set_option maxHeartbeats 4000000 in
set_option maxRecDepth 100000 in
theorem wj_X3_isLetter_12 (X : CxG g p s m args c cX3_isLetter 1 RX3 wsX3_isLetter) {M : Mem} {s0 : Int32} {rr : Int32} (hr : meth.sig.returnType = (some .boolean)) (hlocks : meth.locks = false) (hm : j_X3_isLetter_12 M s0 = some rr) {H : Heap} {locs : List Loc} {ls : Array Slot} (hP : va_P (gD g) vwCl (wlG g M) H) (hS : va_S (AbG g) s.heap H locs) (hl : lv_has ls 1 [(0, .int s0)]) : W p l e (headSpec wsX3_isLetter rmX3_isLetter).room s m args below meth c H locs 0 0 (MQ below (va_Qi (fun (q : Int32) (_ : Unit) => q = rr) (fun _ t => va_P (gD g) vwCl (wlG g M) t.heap) (AbG g)) args s 0 0 (AbG g)) (F0 m 12 ls []) := by
  obtain ⟨⟨hx, hb, hml, hown, hts⟩, -, -⟩ := id X
  unfold j_X3_isLetter_12 at hm
  refine lv_iload_n hx hb dX3_isLetter_12 rfl (lv_at hl 0 rfl) ?_
  refine lv_bipush (v := 65) hx hb dX3_isLetter_13 (by decide) ?_
  refine lv_icmp_lt (tgt := 28) hx hb dX3_isLetter_15 (by decide) (fun h_2 => ?_) (fun h_2 => ?_)
  · rw [if_pos h_2] at hm
    refine lv_iconst (v := 0) hx hb dX3_isLetter_28 (by decide) ?_
    cases hm
    exact x_zret X (by decide) hP hS hr hlocks dX3_isLetter_29
  · rw [if_neg h_2] at hm
    refine lv_iload_n hx hb dX3_isLetter_18 rfl (lv_at hl 0 rfl) ?_
    refine lv_bipush (v := 90) hx hb dX3_isLetter_19 (by decide) ?_
    refine lv_icmp_gt (tgt := 28) hx hb dX3_isLetter_21 (by decide) (fun h_3 => ?_) (fun h_3 => ?_)
    · rw [if_pos h_3] at hm
      refine lv_iconst (v := 0) hx hb dX3_isLetter_28 (by decide) ?_
      cases hm
      exact x_zret X (by decide) hP hS hr hlocks dX3_isLetter_29
    · rw [if_neg h_3] at hm
      exact wj_X3_isLetter_24 X hr hlocks hm hP hS (lv_sub hl [] rfl)

set_option maxHeartbeats 4000000 in
set_option maxRecDepth 100000 in
theorem c_X3_isLetter (l : Launch) {g : GT} (hA : AxG g)   {M : Mem} {a0 : Int32} {rr : Int32} (hm : m_X3_isLetter M a0 = some rr) : CI l yX3_isLetter wsX3_isLetter rmX3_isLetter g [.int a0] M rr M := by
  refine Met.ofW (cc := cX3_isLetter) (maxL := 1) (ret := (some .boolean)) (by decide) rfl ?_
  intro p e s m args below meth c s₁ B hml hv
  obtain ⟨rfl, hSx, hP⟩ := hv
  have hr := B.returns
  have hlocks := B.notSynchronized
  have X : CxG g p s m _ c cX3_isLetter 1 RX3 wsX3_isLetter := ⟨⟨B.exec, B.bytes, hml, findClass_of_methodNamed B.named, atoms_spec (ws := wsX3_isLetter) B.pre⟩, hSx, hA⟩
  have hS : va_S (AbG g) s.heap s.heap [] := va_S.rf
  have hl := lv_entry (([.int a0] : List Value)) (n := 1) (Nat.le_of_ble_eq_true rfl)
  rw [lg_entry_eq]
  generalize (lg_sl (([.int a0] : List Value)) ++ List.replicate (1 - (lg_sl (([.int a0] : List Value))).length) Slot.unset).toArray = ls at hl ⊢
  have hl : lv_has ls 1 [(0, .int a0)] := hl
  obtain ⟨⟨hx, hb, hml, hown, hts⟩, -, -⟩ := id X
  unfold m_X3_isLetter at hm
  refine lv_iload_n hx hb dX3_isLetter_0 rfl (lv_at hl 0 rfl) ?_
  refine lv_bipush (v := 97) hx hb dX3_isLetter_1 (by decide) ?_
  refine lv_icmp_lt (tgt := 12) hx hb dX3_isLetter_3 (by decide) (fun h_1 => ?_) (fun h_1 => ?_)
  · rw [if_pos h_1] at hm
    exact wj_X3_isLetter_12 X hr hlocks hm hP hS (lv_sub hl [0] rfl)
  · rw [if_neg h_1] at hm
    refine lv_iload_n hx hb dX3_isLetter_6 rfl (lv_at hl 0 rfl) ?_
    refine lv_bipush (v := 122) hx hb dX3_isLetter_7 (by decide) ?_
    refine lv_icmp_le (tgt := 24) hx hb dX3_isLetter_9 (by decide) (fun h_4 => ?_) (fun h_4 => ?_)
    · rw [if_pos h_4] at hm
      exact wj_X3_isLetter_24 X hr hlocks hm hP hS (lv_sub hl [] rfl)
    · rw [if_neg h_4] at hm
      exact wj_X3_isLetter_12 X hr hlocks hm hP hS (lv_sub hl [0] rfl)


/-! X3_standsAtHand -/
def rmX3_standsAtHand : Room := { frames := 4, cells := 0, slots := 0, locals := 85 }
theorem uX3_standsAtHand_X3 : ∀ w ∈ wsX30, w ∈ wsX3_standsAtHand := by decide +kernel
theorem mbX3_standsAtHand_1 : Cond.fieldLink RX3 34 "FootANight$Reader" "start" "I" ∈ wsX3_standsAtHand := by decide +kernel
theorem mbX3_standsAtHand_2 : Cond.fieldLink RX3 37 "FootANight$Reader" "behind" "I" ∈ wsX3_standsAtHand := by decide +kernel
theorem mbX3_standsAtHand_3 : Cond.fieldLink RX3 28 "FootANight$Reader" "bytes" "[I" ∈ wsX3_standsAtHand := by decide +kernel
set_option maxHeartbeats 4000000 in
set_option maxRecDepth 100000 in
theorem wl_X3_standsAtHand_5 (X : CxG g p s m args c cX3_standsAtHand 3 RX3 wsX3_standsAtHand) (hAll : okAll g) {fu : Nat} {M : Mem} {s1 : Int32} {x : (Unit) ⊕ (Unit)} (kx0 : ∀ (_u : Unit) , x = .inl () → ∀ (H : Heap) (locs : List Loc) (ls : Array Slot), va_P (gD g) vwCl (wlG g M) H → va_S (AbG g) s.heap H locs → lv_has ls 3 [] → W p l e (headSpec wsX3_standsAtHand rmX3_standsAtHand).room s m args below meth c H locs 0 0 Q (F0 m 35 ls [])) (kx1 : ∀ (_u : Unit) , x = .inr () → ∀ (H : Heap) (locs : List Loc) (ls : Array Slot), va_P (gD g) vwCl (wlG g M) H → va_S (AbG g) s.heap H locs → lv_has ls 3 [] → W p l e (headSpec wsX3_standsAtHand rmX3_standsAtHand).room s m args below meth c H locs 0 0 Q (F0 m 43 ls [])) {n : Nat} {q0 : Int32} (h : lp (b_X3_standsAtHand_5 fu M s1) n q0 = some x) : ∀ (H : Heap) (locs : List Loc) (ls : Array Slot), va_P (gD g) vwCl (wlG g M) H → va_S (AbG g) s.heap H locs → lv_has ls 3 [(0, .ref (ga g 111)), (1, .int s1), (2, .int q0)] → W p l e (headSpec wsX3_standsAtHand rmX3_standsAtHand).room s m args below meth c H locs 0 0 Q (F0 m 5 ls []) := by
  refine lp_elim (P := fun q0 : Int32 => ∀ (H : Heap) (locs : List Loc) (ls : Array Slot), va_P (gD g) vwCl (wlG g M) H → va_S (AbG g) s.heap H locs → lv_has ls 3 [(0, .ref (ga g 111)), (1, .int s1), (2, .int q0)] → W p l e (headSpec wsX3_standsAtHand rmX3_standsAtHand).room s m args below meth c H locs 0 0 Q (F0 m 5 ls [])) (fun q1 o hm hI hX => ?_) n q0 h
  obtain ⟨c2, rfl⟩ : ∃ z, z = q1 := ⟨_, rfl⟩
  have kb : ∀ (d2 : Int32) , o = .inl d2 → ∀ (H : Heap) (locs : List Loc) (ls : Array Slot), va_P (gD g) vwCl (wlG g M) H → va_S (AbG g) s.heap H locs → lv_has ls 3 [(0, .ref (ga g 111)), (1, .int s1), (2, .int d2)] → W p l e (headSpec wsX3_standsAtHand rmX3_standsAtHand).room s m args below meth c H locs 0 0 Q (F0 m 5 ls []) := fun d2 e => hI _ e
  have kx0 : ∀ (_u : Unit) , o = .inr (.inl ()) → ∀ (H : Heap) (locs : List Loc) (ls : Array Slot), va_P (gD g) vwCl (wlG g M) H → va_S (AbG g) s.heap H locs → lv_has ls 3 [] → W p l e (headSpec wsX3_standsAtHand rmX3_standsAtHand).room s m args below meth c H locs 0 0 Q (F0 m 35 ls []) := fun _u e => kx0 _u (hX _ e).symm
  have kx1 : ∀ (_u : Unit) , o = .inr (.inr ()) → ∀ (H : Heap) (locs : List Loc) (ls : Array Slot), va_P (gD g) vwCl (wlG g M) H → va_S (AbG g) s.heap H locs → lv_has ls 3 [] → W p l e (headSpec wsX3_standsAtHand rmX3_standsAtHand).room s m args below meth c H locs 0 0 Q (F0 m 43 ls []) := fun _u e => kx1 _u (hX _ e).symm
  clear hI hX
  intro H locs ls hP hS hl
  obtain ⟨⟨hx, hb, hml, hown, hts⟩, -, -⟩ := id X
  have hl : lv_has ls 3 [(0, .ref (ga g 111)), (1, .int s1), (2, .int c2)] := hl
  have hP : va_P (gD g) vwCl (wlG g M) H := hP
  unfold b_X3_standsAtHand_5 at hm
  replace hm := un1_e hm
  refine lv_iload_n hx hb dX3_standsAtHand_5 rfl (lv_at hl 2 rfl) ?_
  refine lv_aload_n hx hb dX3_standsAtHand_6 rfl (lv_at hl 0 rfl) ?_
  refine xg_X3_8 X hP hAll uX3_standsAtHand_X3 mbX3_standsAtHand_2 dX3_standsAtHand_7 ?_
  refine lv_icmp_ge (tgt := 43) hx hb dX3_standsAtHand_10 (by decide) (fun h_3 => ?_) (fun h_3 => ?_)
  · rw [if_pos h_3] at hm
    exact kx1 () (Option.some.inj hm).symm _ _ _ hP hS (lv_sub hl [] rfl)
  · rw [if_neg h_3] at hm
    refine va_ldcS hx hb hown X.2.1.2.2.2.2 dX3_standsAtHand_13 ?_
    refine lv_iload_n hx hb dX3_standsAtHand_15 rfl (lv_at hl 1 rfl) ?_
    refine lv_iload_n hx hb dX3_standsAtHand_16 rfl (lv_at hl 2 rfl) ?_
    refine lv_iadd hx hb dX3_standsAtHand_17 ?_
    refine lv_aload_n hx hb dX3_standsAtHand_18 rfl (lv_at hl 0 rfl) ?_
    refine xg_X3_7 X hP hAll uX3_standsAtHand_X3 mbX3_standsAtHand_1 dX3_standsAtHand_19 ?_
    refine lv_isub hx hb dX3_standsAtHand_22 ?_
    obtain ⟨hb_4, hm⟩ := chk_elim hm
    refine x_calli (x_runV (As := [.int ((s1 + c2) - (rd M 111 7))]) (rest := []) X hP hS (c_charAt l X.2.2 hb_4) (cwV 1 hts gX3_standsAtHand_J0_charAt_5068e rfl rfl rfl (by decide +kernel) ⟨Nat.le_of_ble_eq_true rfl, Nat.le_of_ble_eq_true rfl⟩) (x_recvS X hS) rfl hl.1 rfl (Nat.le_of_ble_eq_true rfl) dX3_standsAtHand_23 ⟨Nat.zero_le _, Nat.zero_le _⟩) hS (fun H locs hP hS => ?_)
    refine lv_aload_n hx hb dX3_standsAtHand_26 rfl (lv_at hl 0 rfl) ?_
    refine xg_X3_5 X hP hAll uX3_standsAtHand_X3 mbX3_standsAtHand_3 dX3_standsAtHand_27 ?_
    refine lv_iload_n hx hb dX3_standsAtHand_30 rfl (lv_at hl 2 rfl) ?_
    obtain ⟨hb_5, hm⟩ := chk_elim hm
    refine x_iald X hP (okc_113 hAll) hb_5 dX3_standsAtHand_31 ?_
    refine lv_icmp_eq (tgt := 37) hx hb dX3_standsAtHand_32 (by decide) (fun h_6 => ?_) (fun h_6 => ?_)
    · rw [if_pos h_6] at hm
      obtain ⟨v_7, hv_8, hm⟩ := bnd_elim hm
      refine lv_iinc (v := v_7) (lv' := [(2, .int v_7), (0, .ref (ga g 111)), (1, .int s1)]) hx hb dX3_standsAtHand_37 hl (k := 2) rfl (by rw [hv_8]; rfl) (by decide) rfl (fun ls hl => ?_)
      refine lv_goto (tgt := 5) hx hb dX3_standsAtHand_40 (by decide) ?_
      exact kb v_7 (Option.some.inj hm).symm _ _ _ hP hS (lv_sub hl [1, 2, 0] rfl)
    · rw [if_neg h_6] at hm
      exact kx0 () (Option.some.inj hm).symm _ _ _ hP hS (lv_sub hl [] rfl)

set_option maxHeartbeats 4000000 in
set_option maxRecDepth 100000 in
theorem c_X3_standsAtHand (l : Launch) {g : GT} (hA : AxG g) (hAll : okAll g)   {fu : Nat} {M : Mem} {a1 : Int32} {rr : Int32} (hm : m_X3_standsAtHand fu M a1 = some rr) : CI l yX3_standsAtHand wsX3_standsAtHand rmX3_standsAtHand g [.ref (ga g 111), .int a1] M rr M := by
  refine Met.ofW (cc := cX3_standsAtHand) (maxL := 3) (ret := (some .boolean)) (by decide) rfl ?_
  intro p e s m args below meth c s₁ B hml hv
  obtain ⟨rfl, hSx, hP⟩ := hv
  have hr := B.returns
  have hlocks := B.notSynchronized
  have X : CxG g p s m _ c cX3_standsAtHand 3 RX3 wsX3_standsAtHand := ⟨⟨B.exec, B.bytes, hml, findClass_of_methodNamed B.named, atoms_spec (ws := wsX3_standsAtHand) B.pre⟩, hSx, hA⟩
  have hS : va_S (AbG g) s.heap s.heap [] := va_S.rf
  have hl := lv_entry (([.ref (ga g 111), .int a1] : List Value)) (n := 3) (Nat.le_of_ble_eq_true rfl)
  rw [lg_entry_eq]
  generalize (lg_sl (([.ref (ga g 111), .int a1] : List Value)) ++ List.replicate (3 - (lg_sl (([.ref (ga g 111), .int a1] : List Value))).length) Slot.unset).toArray = ls at hl ⊢
  have hl : lv_has ls 3 [(0, .ref (ga g 111)), (1, .int a1)] := hl
  obtain ⟨⟨hx, hb, hml, hown, hts⟩, -, -⟩ := id X
  unfold m_X3_standsAtHand at hm
  refine lv_aload_n hx hb dX3_standsAtHand_0 rfl (lv_at hl 0 rfl) ?_
  refine xg_X3_7 X hP hAll uX3_standsAtHand_X3 mbX3_standsAtHand_1 dX3_standsAtHand_1 ?_
  obtain ⟨v_1, hv_2, hm⟩ := bnd_elim hm
  refine x_name hv_2 ?_
  refine lv_istore_n (lv' := [(2, .int v_1), (0, .ref (ga g 111)), (1, .int a1)]) hx hb dX3_standsAtHand_4 rfl hl (by decide) rfl (fun ls hl => ?_)
  obtain ⟨x_9, hL_10, hm⟩ := bind_elim hm
  refine wl_X3_standsAtHand_5 X hAll ?_ ?_ hL_10 _ _ _ hP hS (lv_sub hl [1, 2, 0] rfl)
  · intro _u e_x_9 H locs ls hP hS hl
    subst e_x_9
    replace hm := unS_l hm
    replace hm := un0_e hm
    refine lv_iconst (v := 0) hx hb dX3_standsAtHand_35 (by decide) ?_
    cases hm
    exact x_zret X (by decide) hP hS hr hlocks dX3_standsAtHand_36
  · intro _u e_x_9 H locs ls hP hS hl
    subst e_x_9
    replace hm := unS_r hm
    replace hm := un0_e hm
    refine lv_iconst (v := 1) hx hb dX3_standsAtHand_43 (by decide) ?_
    cases hm
    exact x_zret X (by decide) hP hS hr hlocks dX3_standsAtHand_44


/-! X3_keywordAtHand -/
def rmX3_keywordAtHand : Room := { frames := 5, cells := 0, slots := 0, locals := 107 }
theorem uX3_keywordAtHand_X3 : ∀ w ∈ wsX30, w ∈ wsX3_keywordAtHand := by decide +kernel
theorem mbX3_keywordAtHand_1 : Cond.fieldLink RX3 37 "FootANight$Reader" "behind" "I" ∈ wsX3_keywordAtHand := by decide +kernel
theorem mbX3_keywordAtHand_2 : Cond.fieldLink RX3 34 "FootANight$Reader" "start" "I" ∈ wsX3_keywordAtHand := by decide +kernel
set_option maxHeartbeats 4000000 in
set_option maxRecDepth 100000 in
theorem wj_X3_keywordAtHand_51i (X : CxG g p s m args c cX3_keywordAtHand 4 RX3 wsX3_keywordAtHand) (hAll : okAll g) {fu : Nat} {M : Mem} {s1 : Int32} {s3 : Int32} {o : (Int32 × Int32 × Int32) ⊕ ((Int32) ⊕ (Unit))} (kb : ∀ (d1 : Int32) (d2 : Int32) (d3 : Int32) , o = .inl (d1, d2, d3) → ∀ (H : Heap) (locs : List Loc) (ls : Array Slot), va_P (gD g) vwCl (wlG g M) H → va_S (AbG g) s.heap H locs → lv_has ls 4 [(0, .ref (ga g 111)), (1, .int d1), (2, .int d2), (3, .int d3)] → W p l e (headSpec wsX3_keywordAtHand rmX3_keywordAtHand).room s m args below meth c H locs 0 0 Q (F0 m 6 ls [])) (kx0 : ∀ (d1 : Int32) , o = .inr (.inl d1) → ∀ (H : Heap) (locs : List Loc) (ls : Array Slot), va_P (gD g) vwCl (wlG g M) H → va_S (AbG g) s.heap H locs → lv_has ls 4 [(1, .int d1)] → W p l e (headSpec wsX3_keywordAtHand rmX3_keywordAtHand).room s m args below meth c H locs 0 0 Q (F0 m 49 ls [])) (kx1 : ∀ (_u : Unit) , o = .inr (.inr ()) → ∀ (H : Heap) (locs : List Loc) (ls : Array Slot), va_P (gD g) vwCl (wlG g M) H → va_S (AbG g) s.heap H locs → lv_has ls 4 [] → W p l e (headSpec wsX3_keywordAtHand rmX3_keywordAtHand).room s m args below meth c H locs 0 0 Q (F0 m 64 ls [])) (hm : j_X3_keywordAtHand_51i fu M s1 s3 = some o) {H : Heap} {locs : List Loc} {ls : Array Slot} (hP : va_P (gD g) vwCl (wlG g M) H) (hS : va_S (AbG g) s.heap H locs) (hl : lv_has ls 4 [(0, .ref (ga g 111)), (1, .int s1), (3, .int s3)]) : W p l e (headSpec wsX3_keywordAtHand rmX3_keywordAtHand).room s m args below meth c H locs 0 0 Q (F0 m 51 ls []) := by
  obtain ⟨⟨hx, hb, hml, hown, hts⟩, -, -⟩ := id X
  unfold j_X3_keywordAtHand_51i at hm
  obtain ⟨v_7, hv_8, hm⟩ := bnd_elim hm
  refine lv_iinc (v := v_7) (lv' := [(1, .int v_7), (0, .ref (ga g 111)), (3, .int s3)]) hx hb dX3_keywordAtHand_51 hl (k := 1) rfl (by rw [hv_8]; rfl) (by decide) rfl (fun ls hl => ?_)
  refine lv_iload_n hx hb dX3_keywordAtHand_54 rfl (lv_at hl 2 rfl) ?_
  refine lv_iconst (v := 1) hx hb dX3_keywordAtHand_55 (by decide) ?_
  refine lv_iadd hx hb dX3_keywordAtHand_56 ?_
  obtain ⟨v_9, hv_10, hm⟩ := bnd_elim hm
  refine x_name hv_10 ?_
  refine lv_istore_n (lv' := [(2, .int v_9), (1, .int v_7), (0, .ref (ga g 111)), (3, .int s3)]) hx hb dX3_keywordAtHand_57 rfl hl (by decide) rfl (fun ls hl => ?_)
  obtain ⟨v_11, hv_12, hm⟩ := bnd_elim hm
  refine lv_iinc (v := v_11) (lv' := [(3, .int v_11), (2, .int v_9), (1, .int v_7), (0, .ref (ga g 111))]) hx hb dX3_keywordAtHand_58 hl (k := 3) rfl (by rw [hv_12]; rfl) (by decide) rfl (fun ls hl => ?_)
  refine lv_goto (tgt := 6) hx hb dX3_keywordAtHand_61 (by decide) ?_
  exact kb v_7 v_9 v_11 (Option.some.inj hm).symm _ _ _ hP hS (lv_sub hl [3, 2, 1, 0] rfl)

set_option maxHeartbeats 4000000 in
set_option maxRecDepth 100000 in
theorem wl_X3_keywordAtHand_6 (X : CxG g p s m args c cX3_keywordAtHand 4 RX3 wsX3_keywordAtHand) (hAll : okAll g) {fu : Nat} {M : Mem} {x : (Int32) ⊕ (Unit)} (kx0 : ∀ (d1 : Int32) , x = .inl d1 → ∀ (H : Heap) (locs : List Loc) (ls : Array Slot), va_P (gD g) vwCl (wlG g M) H → va_S (AbG g) s.heap H locs → lv_has ls 4 [(1, .int d1)] → W p l e (headSpec wsX3_keywordAtHand rmX3_keywordAtHand).room s m args below meth c H locs 0 0 Q (F0 m 49 ls [])) (kx1 : ∀ (_u : Unit) , x = .inr () → ∀ (H : Heap) (locs : List Loc) (ls : Array Slot), va_P (gD g) vwCl (wlG g M) H → va_S (AbG g) s.heap H locs → lv_has ls 4 [] → W p l e (headSpec wsX3_keywordAtHand rmX3_keywordAtHand).room s m args below meth c H locs 0 0 Q (F0 m 64 ls [])) {n : Nat} {q0 : Int32 × Int32 × Int32} (h : lp (b_X3_keywordAtHand_6 fu M) n q0 = some x) : ∀ (H : Heap) (locs : List Loc) (ls : Array Slot), va_P (gD g) vwCl (wlG g M) H → va_S (AbG g) s.heap H locs → lv_has ls 4 [(0, .ref (ga g 111)), (1, .int q0.1), (2, .int q0.2.1), (3, .int q0.2.2)] → W p l e (headSpec wsX3_keywordAtHand rmX3_keywordAtHand).room s m args below meth c H locs 0 0 Q (F0 m 6 ls []) := by
  refine lp_elim (P := fun q0 : Int32 × Int32 × Int32 => ∀ (H : Heap) (locs : List Loc) (ls : Array Slot), va_P (gD g) vwCl (wlG g M) H → va_S (AbG g) s.heap H locs → lv_has ls 4 [(0, .ref (ga g 111)), (1, .int q0.1), (2, .int q0.2.1), (3, .int q0.2.2)] → W p l e (headSpec wsX3_keywordAtHand rmX3_keywordAtHand).room s m args below meth c H locs 0 0 Q (F0 m 6 ls [])) (fun q1 o hm hI hX => ?_) n q0 h
  obtain ⟨c1, c2, c3⟩ := q1
  have kb : ∀ (d1 : Int32) (d2 : Int32) (d3 : Int32) , o = .inl (d1, d2, d3) → ∀ (H : Heap) (locs : List Loc) (ls : Array Slot), va_P (gD g) vwCl (wlG g M) H → va_S (AbG g) s.heap H locs → lv_has ls 4 [(0, .ref (ga g 111)), (1, .int d1), (2, .int d2), (3, .int d3)] → W p l e (headSpec wsX3_keywordAtHand rmX3_keywordAtHand).room s m args below meth c H locs 0 0 Q (F0 m 6 ls []) := fun d1 d2 d3 e => hI _ e
  have kx0 : ∀ (d1 : Int32) , o = .inr (.inl d1) → ∀ (H : Heap) (locs : List Loc) (ls : Array Slot), va_P (gD g) vwCl (wlG g M) H → va_S (AbG g) s.heap H locs → lv_has ls 4 [(1, .int d1)] → W p l e (headSpec wsX3_keywordAtHand rmX3_keywordAtHand).room s m args below meth c H locs 0 0 Q (F0 m 49 ls []) := fun d1 e => kx0 d1 (hX _ e).symm
  have kx1 : ∀ (_u : Unit) , o = .inr (.inr ()) → ∀ (H : Heap) (locs : List Loc) (ls : Array Slot), va_P (gD g) vwCl (wlG g M) H → va_S (AbG g) s.heap H locs → lv_has ls 4 [] → W p l e (headSpec wsX3_keywordAtHand rmX3_keywordAtHand).room s m args below meth c H locs 0 0 Q (F0 m 64 ls []) := fun _u e => kx1 _u (hX _ e).symm
  clear hI hX
  intro H locs ls hP hS hl
  obtain ⟨⟨hx, hb, hml, hown, hts⟩, -, -⟩ := id X
  have hl : lv_has ls 4 [(0, .ref (ga g 111)), (1, .int c1), (2, .int c2), (3, .int c3)] := hl
  have hP : va_P (gD g) vwCl (wlG g M) H := hP
  unfold b_X3_keywordAtHand_6 at hm
  replace hm := un3_e hm
  refine lv_iload_n hx hb dX3_keywordAtHand_6 rfl (lv_at hl 3 rfl) ?_
  refine va_ldcS hx hb hown X.2.1.2.2.2.2 dX3_keywordAtHand_7 ?_
  refine x_calli (x_runV (As := []) (rest := [.int c3]) X hP hS (c_strlen l X.2.2) (cwV 0 hts gX3_keywordAtHand_J0_length_8abf5 rfl rfl rfl (by decide +kernel) ⟨Nat.le_of_ble_eq_true rfl, Nat.le_of_ble_eq_true rfl⟩) (x_recvS X hS) rfl hl.1 rfl (Nat.le_of_ble_eq_true rfl) dX3_keywordAtHand_9 ⟨Nat.zero_le _, Nat.zero_le _⟩) hS (fun H locs hP hS => ?_)
  refine lv_icmp_ge (tgt := 64) hx hb dX3_keywordAtHand_12 (by decide) (fun h_1 => ?_) (fun h_1 => ?_)
  · rw [if_pos h_1] at hm
    exact kx1 () (Option.some.inj hm).symm _ _ _ hP hS (lv_sub hl [] rfl)
  · rw [if_neg h_1] at hm
    refine va_ldcS hx hb hown X.2.1.2.2.2.2 dX3_keywordAtHand_15 ?_
    refine lv_iload_n hx hb dX3_keywordAtHand_17 rfl (lv_at hl 3 rfl) ?_
    obtain ⟨hb_2, hm⟩ := chk_elim hm
    refine x_calli (x_runV (As := [.int c3]) (rest := []) X hP hS (c_charAt l X.2.2 hb_2) (cwV 1 hts gX3_keywordAtHand_J0_charAt_5068e rfl rfl rfl (by decide +kernel) ⟨Nat.le_of_ble_eq_true rfl, Nat.le_of_ble_eq_true rfl⟩) (x_recvS X hS) rfl hl.1 rfl (Nat.le_of_ble_eq_true rfl) dX3_keywordAtHand_18 ⟨Nat.zero_le _, Nat.zero_le _⟩) hS (fun H locs hP hS => ?_)
    refine lv_bipush (v := 32) hx hb dX3_keywordAtHand_21 (by decide) ?_
    refine lv_icmp_ne (tgt := 58) hx hb dX3_keywordAtHand_23 (by decide) (fun h_3 => ?_) (fun h_3 => ?_)
    · rw [if_neg h_3] at hm
      obtain ⟨v_4, hv_5, hm⟩ := bnd_elim hm
      refine lv_iinc (v := v_4) (lv' := [(3, .int v_4), (0, .ref (ga g 111)), (1, .int c1), (2, .int c2)]) hx hb dX3_keywordAtHand_58 hl (k := 3) rfl (by rw [hv_5]; rfl) (by decide) rfl (fun ls hl => ?_)
      refine lv_goto (tgt := 6) hx hb dX3_keywordAtHand_61 (by decide) ?_
      exact kb c1 c2 v_4 (Option.some.inj hm).symm _ _ _ hP hS (lv_sub hl [1, 2, 3, 0] rfl)
    · rw [if_pos h_3] at hm
      refine lv_iload_n hx hb dX3_keywordAtHand_26 rfl (lv_at hl 3 rfl) ?_
      refine lv_iload_n hx hb dX3_keywordAtHand_27 rfl (lv_at hl 2 rfl) ?_
      refine lv_isub hx hb dX3_keywordAtHand_28 ?_
      refine lv_aload_n hx hb dX3_keywordAtHand_29 rfl (lv_at hl 0 rfl) ?_
      refine xg_X3_8 X hP hAll uX3_keywordAtHand_X3 mbX3_keywordAtHand_1 dX3_keywordAtHand_30 ?_
      refine lv_aload_n hx hb dX3_keywordAtHand_33 rfl (lv_at hl 0 rfl) ?_
      refine xg_X3_7 X hP hAll uX3_keywordAtHand_X3 mbX3_keywordAtHand_2 dX3_keywordAtHand_34 ?_
      refine lv_isub hx hb dX3_keywordAtHand_37 ?_
      refine lv_icmp_ne (tgt := 51) hx hb dX3_keywordAtHand_38 (by decide) (fun h_6 => ?_) (fun h_6 => ?_)
      · rw [if_neg h_6] at hm
        exact wj_X3_keywordAtHand_51i X hAll kb kx0 kx1 hm hP hS (lv_sub hl [0, 1, 3] rfl)
      · rw [if_pos h_6] at hm
        refine lv_aload_n hx hb dX3_keywordAtHand_41 rfl (lv_at hl 0 rfl) ?_
        refine lv_iload_n hx hb dX3_keywordAtHand_42 rfl (lv_at hl 2 rfl) ?_
        obtain ⟨r_14, hc_13, hm⟩ := bind_elim hm
        refine x_calli (x_runV (As := [.int c2]) (rest := []) X hP hS (c_X3_standsAtHand l X.2.2 hAll hc_13) (cwV 1 hts gX3_keywordAtHand_X3_standsAtHand rfl rfl rfl (by decide +kernel) ⟨Nat.le_of_ble_eq_true rfl, Nat.le_of_ble_eq_true rfl⟩) (x_recv (C := RX3) (T := TX3) (N := 17) X hP (okc_111 hAll) rfl) rfl hl.1 rfl (Nat.le_of_ble_eq_true rfl) dX3_keywordAtHand_43 ⟨Nat.zero_le _, Nat.zero_le _⟩) hS (fun H locs hP hS => ?_)
        refine lv_if_eq (tgt := 51) hx hb dX3_keywordAtHand_46 (by decide) (fun h_15 => ?_) (fun h_15 => ?_)
        · rw [if_pos h_15] at hm
          exact wj_X3_keywordAtHand_51i X hAll kb kx0 kx1 hm hP hS (lv_sub hl [0, 1, 3] rfl)
        · rw [if_neg h_15] at hm
          exact kx0 c1 (Option.some.inj hm).symm _ _ _ hP hS (lv_sub hl [1] rfl)

set_option maxHeartbeats 4000000 in
set_option maxRecDepth 100000 in
theorem c_X3_keywordAtHand (l : Launch) {g : GT} (hA : AxG g) (hAll : okAll g)   {fu : Nat} {M : Mem} {rr : Int32} (hm : m_X3_keywordAtHand fu M = some rr) : CI l yX3_keywordAtHand wsX3_keywordAtHand rmX3_keywordAtHand g [.ref (ga g 111)] M rr M := by
  refine Met.ofW (cc := cX3_keywordAtHand) (maxL := 4) (ret := (some .int)) (by decide) rfl ?_
  intro p e s m args below meth c s₁ B hml hv
  obtain ⟨rfl, hSx, hP⟩ := hv
  have hr := B.returns
  have hlocks := B.notSynchronized
  have X : CxG g p s m _ c cX3_keywordAtHand 4 RX3 wsX3_keywordAtHand := ⟨⟨B.exec, B.bytes, hml, findClass_of_methodNamed B.named, atoms_spec (ws := wsX3_keywordAtHand) B.pre⟩, hSx, hA⟩
  have hS : va_S (AbG g) s.heap s.heap [] := va_S.rf
  have hl := lv_entry (([.ref (ga g 111)] : List Value)) (n := 4) (Nat.le_of_ble_eq_true rfl)
  rw [lg_entry_eq]
  generalize (lg_sl (([.ref (ga g 111)] : List Value)) ++ List.replicate (4 - (lg_sl (([.ref (ga g 111)] : List Value))).length) Slot.unset).toArray = ls at hl ⊢
  have hl : lv_has ls 4 [(0, .ref (ga g 111))] := hl
  obtain ⟨⟨hx, hb, hml, hown, hts⟩, -, -⟩ := id X
  unfold m_X3_keywordAtHand at hm
  refine lv_iconst (v := 0) hx hb dX3_keywordAtHand_0 (by decide) ?_
  refine lv_istore_n (lv' := [(1, .int 0), (0, .ref (ga g 111))]) hx hb dX3_keywordAtHand_1 rfl hl (by decide) rfl (fun ls hl => ?_)
  refine lv_iconst (v := 0) hx hb dX3_keywordAtHand_2 (by decide) ?_
  refine lv_istore_n (lv' := [(2, .int 0), (1, .int 0), (0, .ref (ga g 111))]) hx hb dX3_keywordAtHand_3 rfl hl (by decide) rfl (fun ls hl => ?_)
  refine lv_iconst (v := 0) hx hb dX3_keywordAtHand_4 (by decide) ?_
  refine lv_istore_n (lv' := [(3, .int 0), (2, .int 0), (1, .int 0), (0, .ref (ga g 111))]) hx hb dX3_keywordAtHand_5 rfl hl (by decide) rfl (fun ls hl => ?_)
  obtain ⟨x_16, hL_17, hm⟩ := bind_elim hm
  refine wl_X3_keywordAtHand_6 X hAll ?_ ?_ hL_17 _ _ _ hP hS (lv_sub hl [3, 2, 1, 0] rfl)
  · intro v_18 e_x_16 H locs ls hP hS hl
    subst e_x_16
    replace hm := unS_l hm
    replace hm := un1_e hm
    refine lv_iload_n hx hb dX3_keywordAtHand_49 rfl (lv_at hl 0 rfl) ?_
    cases hm
    exact x_iret X hP hS hr hlocks dX3_keywordAtHand_50
  · intro _u e_x_16 H locs ls hP hS hl
    subst e_x_16
    replace hm := unS_r hm
    replace hm := un0_e hm
    refine lv_iconst (v := (-1)) hx hb dX3_keywordAtHand_64 (by decide) ?_
    cases hm
    exact x_iret X hP hS hr hlocks dX3_keywordAtHand_65


/-! X3_advanceWord -/
def rmX3_advanceWord : Room := { frames := 6, cells := 0, slots := 0, locals := 130 }
theorem uX3_advanceWord_X3 : ∀ w ∈ wsX30, w ∈ wsX3_advanceWord := by decide +kernel
theorem mbX3_advanceWord_1 : Cond.fieldLink RX3 37 "FootANight$Reader" "behind" "I" ∈ wsX3_advanceWord := by decide +kernel
theorem mbX3_advanceWord_2 : Cond.fieldLink RX3 31 "FootANight$Reader" "length" "I" ∈ wsX3_advanceWord := by decide +kernel
theorem mbX3_advanceWord_3 : Cond.fieldLink RX3 28 "FootANight$Reader" "bytes" "[I" ∈ wsX3_advanceWord := by decide +kernel
theorem mbX3_advanceWord_4 : Cond.fieldLink RX3 40 "FootANight$Reader" "kind" "I" ∈ wsX3_advanceWord := by decide +kernel
set_option maxHeartbeats 4000000 in
set_option maxRecDepth 100000 in
theorem wl_X3_advanceWord_0 (X : CxG g p s m args c cX3_advanceWord 2 RX3 wsX3_advanceWord) (hAll : okAll g) {fu : Nat} {x : Mem} (kx0 : ∀ (M2 : Mem) , x = M2 → ∀ (H : Heap) (locs : List Loc) (ls : Array Slot), va_P (gD g) vwCl (wlG g M2) H → va_S (AbG g) s.heap H locs → lv_has ls 2 [(0, .ref (ga g 111))] → W p l e (headSpec wsX3_advanceWord rmX3_advanceWord).room s m args below meth c H locs 0 0 Q (F0 m 39 ls [])) {n : Nat} {q0 : Mem} (h : lp (b_X3_advanceWord_0 fu) n q0 = some x) : ∀ (H : Heap) (locs : List Loc) (ls : Array Slot), va_P (gD g) vwCl (wlG g q0) H → va_S (AbG g) s.heap H locs → lv_has ls 2 [(0, .ref (ga g 111))] → W p l e (headSpec wsX3_advanceWord rmX3_advanceWord).room s m args below meth c H locs 0 0 Q (F0 m 0 ls []) := by
  refine lp_elim (P := fun q0 : Mem => ∀ (H : Heap) (locs : List Loc) (ls : Array Slot), va_P (gD g) vwCl (wlG g q0) H → va_S (AbG g) s.heap H locs → lv_has ls 2 [(0, .ref (ga g 111))] → W p l e (headSpec wsX3_advanceWord rmX3_advanceWord).room s m args below meth c H locs 0 0 Q (F0 m 0 ls [])) (fun q1 o hm hI hX => ?_) n q0 h
  obtain ⟨M, rfl⟩ : ∃ z, z = q1 := ⟨_, rfl⟩
  have kb : ∀ (M2 : Mem) , o = .inl M2 → ∀ (H : Heap) (locs : List Loc) (ls : Array Slot), va_P (gD g) vwCl (wlG g M2) H → va_S (AbG g) s.heap H locs → lv_has ls 2 [(0, .ref (ga g 111))] → W p l e (headSpec wsX3_advanceWord rmX3_advanceWord).room s m args below meth c H locs 0 0 Q (F0 m 0 ls []) := fun M2 e => hI _ e
  have kx0 : ∀ (M2 : Mem) , o = .inr M2 → ∀ (H : Heap) (locs : List Loc) (ls : Array Slot), va_P (gD g) vwCl (wlG g M2) H → va_S (AbG g) s.heap H locs → lv_has ls 2 [(0, .ref (ga g 111))] → W p l e (headSpec wsX3_advanceWord rmX3_advanceWord).room s m args below meth c H locs 0 0 Q (F0 m 39 ls []) := fun M2 e => kx0 M2 (hX _ e).symm
  clear hI hX
  intro H locs ls hP hS hl
  obtain ⟨⟨hx, hb, hml, hown, hts⟩, -, -⟩ := id X
  have hl : lv_has ls 2 [(0, .ref (ga g 111))] := hl
  have hP : va_P (gD g) vwCl (wlG g M) H := hP
  unfold b_X3_advanceWord_0 at hm
  replace hm := un1_e hm
  refine lv_aload_n hx hb dX3_advanceWord_0 rfl (lv_at hl 0 rfl) ?_
  refine xg_X3_8 X hP hAll uX3_advanceWord_X3 mbX3_advanceWord_1 dX3_advanceWord_1 ?_
  refine lv_aload_n hx hb dX3_advanceWord_4 rfl (lv_at hl 0 rfl) ?_
  refine xg_X3_6 X hP hAll uX3_advanceWord_X3 mbX3_advanceWord_2 dX3_advanceWord_5 ?_
  refine lv_icmp_ge (tgt := 39) hx hb dX3_advanceWord_8 (by decide) (fun h_1 => ?_) (fun h_1 => ?_)
  · rw [if_pos h_1] at hm
    exact kx0 M (Option.some.inj hm).symm _ _ _ hP hS (lv_sub hl [0] rfl)
  · rw [if_neg h_1] at hm
    refine lv_aload_n hx hb dX3_advanceWord_11 rfl (lv_at hl 0 rfl) ?_
    refine xg_X3_5 X hP hAll uX3_advanceWord_X3 mbX3_advanceWord_3 dX3_advanceWord_12 ?_
    refine lv_aload_n hx hb dX3_advanceWord_15 rfl (lv_at hl 0 rfl) ?_
    refine xg_X3_8 X hP hAll uX3_advanceWord_X3 mbX3_advanceWord_1 dX3_advanceWord_16 ?_
    obtain ⟨hb_2, hm⟩ := chk_elim hm
    refine x_iald X hP (okc_113 hAll) hb_2 dX3_advanceWord_19 ?_
    obtain ⟨r_4, hc_3, hm⟩ := bind_elim hm
    refine x_calli (x_runS (As := [.int (rd M 113 (ix (rd M 111 8)))]) (rest := []) X hP hS (c_X3_isLetter l X.2.2 hc_3) (va_cwS 1 hts gX3_advanceWord_X3_isLetter rfl rfl rfl (by decide +kernel) ⟨Nat.le_of_ble_eq_true rfl, Nat.le_of_ble_eq_true rfl⟩) rfl hl.1 rfl (Nat.le_of_ble_eq_true rfl) dX3_advanceWord_20 ⟨Nat.zero_le _, Nat.zero_le _⟩) hS (fun H locs hP hS => ?_)
    refine lv_if_eq (tgt := 39) hx hb dX3_advanceWord_23 (by decide) (fun h_5 => ?_) (fun h_5 => ?_)
    · rw [if_pos h_5] at hm
      exact kx0 M (Option.some.inj hm).symm _ _ _ hP hS (lv_sub hl [0] rfl)
    · rw [if_neg h_5] at hm
      refine lv_aload_n hx hb dX3_advanceWord_26 rfl (lv_at hl 0 rfl) ?_
      refine lv_dup hx hb dX3_advanceWord_27 rfl ?_
      refine xg_X3_8 X hP hAll uX3_advanceWord_X3 mbX3_advanceWord_1 dX3_advanceWord_28 ?_
      refine lv_iconst (v := 1) hx hb dX3_advanceWord_31 (by decide) ?_
      refine lv_iadd hx hb dX3_advanceWord_32 ?_
      obtain ⟨M_6, hM_7, hm⟩ := bnd_elim hm
      refine xp_X3_8 X hP hAll uX3_advanceWord_X3 mbX3_advanceWord_1 hS hM_7 dX3_advanceWord_33 (fun H locs hP hS => ?_)
      refine lv_goto (tgt := 0) hx hb dX3_advanceWord_36 (by decide) ?_
      exact kb M_6 (Option.some.inj hm).symm _ _ _ hP hS (lv_sub hl [0] rfl)

set_option maxHeartbeats 4000000 in
set_option maxRecDepth 100000 in
theorem wj_X3_advanceWord_59 (X : CxG g p s m args c cX3_advanceWord 2 RX3 wsX3_advanceWord) (hAll : okAll g) {fu : Nat} {M : Mem} {t1 : Int32} {MM : Mem} (hr : meth.sig.returnType = none) (hlocks : meth.locks = false) (hm : j_X3_advanceWord_59 fu M t1 = some MM) {H : Heap} {locs : List Loc} {ls : Array Slot} (hP : va_P (gD g) vwCl (wlG g M) H) (hS : va_S (AbG g) s.heap H locs) (hl : lv_has ls 2 []) : W p l e (headSpec wsX3_advanceWord rmX3_advanceWord).room s m args below meth c H locs 0 0 (MQ below (va_Qv (fun (_ : Unit) => True) (fun _ t => va_P (gD g) vwCl (wlG g MM) t.heap) (AbG g)) args s 0 0 (AbG g)) (F0 m 59 ls [.int t1, .ref (ga g 111)]) := by
  obtain ⟨⟨hx, hb, hml, hown, hts⟩, -, -⟩ := id X
  unfold j_X3_advanceWord_59 at hm
  obtain ⟨M_14, hM_15, hm⟩ := bnd_elim hm
  refine xp_X3_9 X hP hAll uX3_advanceWord_X3 mbX3_advanceWord_4 hS hM_15 dX3_advanceWord_59 (fun H locs hP hS => ?_)
  cases hm
  exact x_vret X hP hS hr hlocks dX3_advanceWord_62

set_option maxHeartbeats 4000000 in
set_option maxRecDepth 100000 in
theorem c_X3_advanceWord (l : Launch) {g : GT} (hA : AxG g) (hAll : okAll g)   {fu : Nat} {M : Mem} {MM : Mem} (hm : m_X3_advanceWord fu M = some MM) : CV l yX3_advanceWord wsX3_advanceWord rmX3_advanceWord g [.ref (ga g 111)] M MM := by
  refine Met.ofW (cc := cX3_advanceWord) (maxL := 2) (ret := none) (by decide) rfl ?_
  intro p e s m args below meth c s₁ B hml hv
  obtain ⟨rfl, hSx, hP⟩ := hv
  have hr := B.returns
  have hlocks := B.notSynchronized
  have X : CxG g p s m _ c cX3_advanceWord 2 RX3 wsX3_advanceWord := ⟨⟨B.exec, B.bytes, hml, findClass_of_methodNamed B.named, atoms_spec (ws := wsX3_advanceWord) B.pre⟩, hSx, hA⟩
  have hS : va_S (AbG g) s.heap s.heap [] := va_S.rf
  have hl := lv_entry (([.ref (ga g 111)] : List Value)) (n := 2) (Nat.le_of_ble_eq_true rfl)
  rw [lg_entry_eq]
  generalize (lg_sl (([.ref (ga g 111)] : List Value)) ++ List.replicate (2 - (lg_sl (([.ref (ga g 111)] : List Value))).length) Slot.unset).toArray = ls at hl ⊢
  have hl : lv_has ls 2 [(0, .ref (ga g 111))] := hl
  obtain ⟨⟨hx, hb, hml, hown, hts⟩, -, -⟩ := id X
  unfold m_X3_advanceWord at hm
  obtain ⟨M_10, hL_9, hm⟩ := bind_elim hm
  refine wl_X3_advanceWord_0 X hAll ?_ hL_9 _ _ _ hP hS (lv_sub hl [0] rfl)
  · intro z_M_10 e_M_10 H locs ls hP hS hl
    subst e_M_10
    replace hm := un1_e hm
    refine lv_aload_n hx hb dX3_advanceWord_39 rfl (lv_at hl 0 rfl) ?_
    obtain ⟨r_12, hc_11, hm⟩ := bind_elim hm
    refine x_calli (x_runV (As := []) (rest := []) X hP hS (c_X3_keywordAtHand l X.2.2 hAll hc_11) (cwV 0 hts gX3_advanceWord_X3_keywordAtHand rfl rfl rfl (by decide +kernel) ⟨Nat.le_of_ble_eq_true rfl, Nat.le_of_ble_eq_true rfl⟩) (x_recv (C := RX3) (T := TX3) (N := 17) X hP (okc_111 hAll) rfl) rfl hl.1 rfl (Nat.le_of_ble_eq_true rfl) dX3_advanceWord_40 ⟨Nat.zero_le _, Nat.zero_le _⟩) hS (fun H locs hP hS => ?_)
    refine lv_istore_n (lv' := [(1, .int r_12), (0, .ref (ga g 111))]) hx hb dX3_advanceWord_43 rfl hl (by decide) rfl (fun ls hl => ?_)
    refine lv_aload_n hx hb dX3_advanceWord_44 rfl (lv_at hl 1 rfl) ?_
    refine lv_iload_n hx hb dX3_advanceWord_45 rfl (lv_at hl 0 rfl) ?_
    refine lv_iconst (v := (-1)) hx hb dX3_advanceWord_46 (by decide) ?_
    refine lv_icmp_ne (tgt := 54) hx hb dX3_advanceWord_47 (by decide) (fun h_13 => ?_) (fun h_13 => ?_)
    · rw [if_neg h_13] at hm
      refine lv_sipush (v := 200) hx hb dX3_advanceWord_54 (by decide) ?_
      refine lv_iload_n hx hb dX3_advanceWord_57 rfl (lv_at hl 0 rfl) ?_
      refine lv_iadd hx hb dX3_advanceWord_58 ?_
      exact wj_X3_advanceWord_59 X hAll hr hlocks hm hP hS (lv_sub hl [] rfl)
    · rw [if_pos h_13] at hm
      refine lv_iconst (v := 2) hx hb dX3_advanceWord_50 (by decide) ?_
      refine lv_goto (tgt := 59) hx hb dX3_advanceWord_51 (by decide) ?_
      exact wj_X3_advanceWord_59 X hAll hr hlocks hm hP hS (lv_sub hl [] rfl)


/-! X3_isDigit -/
def rmX3_isDigit : Room := { frames := 0, cells := 0, slots := 0, locals := 0 }

set_option maxHeartbeats 4000000 in
set_option maxRecDepth 100000 in
theorem c_X3_isDigit (l : Launch) {g : GT} (hA : AxG g)   {M : Mem} {a0 : Int32} {rr : Int32} (hm : m_X3_isDigit M a0 = some rr) : CI l yX3_isDigit wsX3_isDigit rmX3_isDigit g [.int a0] M rr M := by
  refine Met.ofW (cc := cX3_isDigit) (maxL := 1) (ret := (some .boolean)) (by decide) rfl ?_
  intro p e s m args below meth c s₁ B hml hv
  obtain ⟨rfl, hSx, hP⟩ := hv
  have hr := B.returns
  have hlocks := B.notSynchronized
  have X : CxG g p s m _ c cX3_isDigit 1 RX3 wsX3_isDigit := ⟨⟨B.exec, B.bytes, hml, findClass_of_methodNamed B.named, atoms_spec (ws := wsX3_isDigit) B.pre⟩, hSx, hA⟩
  have hS : va_S (AbG g) s.heap s.heap [] := va_S.rf
  have hl := lv_entry (([.int a0] : List Value)) (n := 1) (Nat.le_of_ble_eq_true rfl)
  rw [lg_entry_eq]
  generalize (lg_sl (([.int a0] : List Value)) ++ List.replicate (1 - (lg_sl (([.int a0] : List Value))).length) Slot.unset).toArray = ls at hl ⊢
  have hl : lv_has ls 1 [(0, .int a0)] := hl
  obtain ⟨⟨hx, hb, hml, hown, hts⟩, -, -⟩ := id X
  unfold m_X3_isDigit at hm
  refine lv_iload_n hx hb dX3_isDigit_0 rfl (lv_at hl 0 rfl) ?_
  refine lv_bipush (v := 48) hx hb dX3_isDigit_1 (by decide) ?_
  refine lv_icmp_lt (tgt := 16) hx hb dX3_isDigit_3 (by decide) (fun h_1 => ?_) (fun h_1 => ?_)
  · rw [if_pos h_1] at hm
    refine lv_iconst (v := 0) hx hb dX3_isDigit_16 (by decide) ?_
    cases hm
    exact x_zret X (by decide) hP hS hr hlocks dX3_isDigit_17
  · rw [if_neg h_1] at hm
    refine lv_iload_n hx hb dX3_isDigit_6 rfl (lv_at hl 0 rfl) ?_
    refine lv_bipush (v := 57) hx hb dX3_isDigit_7 (by decide) ?_
    refine lv_icmp_gt (tgt := 16) hx hb dX3_isDigit_9 (by decide) (fun h_2 => ?_) (fun h_2 => ?_)
    · rw [if_pos h_2] at hm
      refine lv_iconst (v := 0) hx hb dX3_isDigit_16 (by decide) ?_
      cases hm
      exact x_zret X (by decide) hP hS hr hlocks dX3_isDigit_17
    · rw [if_neg h_2] at hm
      refine lv_iconst (v := 1) hx hb dX3_isDigit_12 (by decide) ?_
      refine lv_goto (tgt := 17) hx hb dX3_isDigit_13 (by decide) ?_
      cases hm
      exact x_zret X (by decide) hP hS hr hlocks dX3_isDigit_17


/-! X3_advanceNumber -/
def rmX3_advanceNumber : Room := { frames := 1, cells := 0, slots := 0, locals := 20 }
theorem uX3_advanceNumber_X3 : ∀ w ∈ wsX30, w ∈ wsX3_advanceNumber := by decide +kernel
theorem mbX3_advanceNumber_1 : Cond.fieldLink RX3 43 "FootANight$Reader" "number" "I" ∈ wsX3_advanceNumber := by decide +kernel
theorem mbX3_advanceNumber_2 : Cond.fieldLink RX3 37 "FootANight$Reader" "behind" "I" ∈ wsX3_advanceNumber := by decide +kernel
theorem mbX3_advanceNumber_3 : Cond.fieldLink RX3 31 "FootANight$Reader" "length" "I" ∈ wsX3_advanceNumber := by decide +kernel
theorem mbX3_advanceNumber_4 : Cond.fieldLink RX3 28 "FootANight$Reader" "bytes" "[I" ∈ wsX3_advanceNumber := by decide +kernel
theorem mbX3_advanceNumber_5 : Cond.fieldLink RX3 34 "FootANight$Reader" "start" "I" ∈ wsX3_advanceNumber := by decide +kernel
theorem mbX3_advanceNumber_6 : Cond.fieldLink RX3 40 "FootANight$Reader" "kind" "I" ∈ wsX3_advanceNumber := by decide +kernel
set_option maxHeartbeats 4000000 in
set_option maxRecDepth 100000 in
theorem wl_X3_advanceNumber_5 (X : CxG g p s m args c cX3_advanceNumber 1 RX3 wsX3_advanceNumber) (hAll : okAll g) {fu : Nat} {x : Mem} (kx0 : ∀ (M2 : Mem) , x = M2 → ∀ (H : Heap) (locs : List Loc) (ls : Array Slot), va_P (gD g) vwCl (wlG g M2) H → va_S (AbG g) s.heap H locs → lv_has ls 1 [(0, .ref (ga g 111))] → W p l e (headSpec wsX3_advanceNumber rmX3_advanceNumber).room s m args below meth c H locs 0 0 Q (F0 m 68 ls [])) {n : Nat} {q0 : Mem} (h : lp (b_X3_advanceNumber_5 fu) n q0 = some x) : ∀ (H : Heap) (locs : List Loc) (ls : Array Slot), va_P (gD g) vwCl (wlG g q0) H → va_S (AbG g) s.heap H locs → lv_has ls 1 [(0, .ref (ga g 111))] → W p l e (headSpec wsX3_advanceNumber rmX3_advanceNumber).room s m args below meth c H locs 0 0 Q (F0 m 5 ls []) := by
  refine lp_elim (P := fun q0 : Mem => ∀ (H : Heap) (locs : List Loc) (ls : Array Slot), va_P (gD g) vwCl (wlG g q0) H → va_S (AbG g) s.heap H locs → lv_has ls 1 [(0, .ref (ga g 111))] → W p l e (headSpec wsX3_advanceNumber rmX3_advanceNumber).room s m args below meth c H locs 0 0 Q (F0 m 5 ls [])) (fun q1 o hm hI hX => ?_) n q0 h
  obtain ⟨M, rfl⟩ : ∃ z, z = q1 := ⟨_, rfl⟩
  have kb : ∀ (M2 : Mem) , o = .inl M2 → ∀ (H : Heap) (locs : List Loc) (ls : Array Slot), va_P (gD g) vwCl (wlG g M2) H → va_S (AbG g) s.heap H locs → lv_has ls 1 [(0, .ref (ga g 111))] → W p l e (headSpec wsX3_advanceNumber rmX3_advanceNumber).room s m args below meth c H locs 0 0 Q (F0 m 5 ls []) := fun M2 e => hI _ e
  have kx0 : ∀ (M2 : Mem) , o = .inr M2 → ∀ (H : Heap) (locs : List Loc) (ls : Array Slot), va_P (gD g) vwCl (wlG g M2) H → va_S (AbG g) s.heap H locs → lv_has ls 1 [(0, .ref (ga g 111))] → W p l e (headSpec wsX3_advanceNumber rmX3_advanceNumber).room s m args below meth c H locs 0 0 Q (F0 m 68 ls []) := fun M2 e => kx0 M2 (hX _ e).symm
  clear hI hX
  intro H locs ls hP hS hl
  obtain ⟨⟨hx, hb, hml, hown, hts⟩, -, -⟩ := id X
  have hl : lv_has ls 1 [(0, .ref (ga g 111))] := hl
  have hP : va_P (gD g) vwCl (wlG g M) H := hP
  unfold b_X3_advanceNumber_5 at hm
  replace hm := un1_e hm
  refine lv_aload_n hx hb dX3_advanceNumber_5 rfl (lv_at hl 0 rfl) ?_
  refine xg_X3_8 X hP hAll uX3_advanceNumber_X3 mbX3_advanceNumber_2 dX3_advanceNumber_6 ?_
  refine lv_aload_n hx hb dX3_advanceNumber_9 rfl (lv_at hl 0 rfl) ?_
  refine xg_X3_6 X hP hAll uX3_advanceNumber_X3 mbX3_advanceNumber_3 dX3_advanceNumber_10 ?_
  refine lv_icmp_ge (tgt := 68) hx hb dX3_advanceNumber_13 (by decide) (fun h_3 => ?_) (fun h_3 => ?_)
  · rw [if_pos h_3] at hm
    exact kx0 M (Option.some.inj hm).symm _ _ _ hP hS (lv_sub hl [0] rfl)
  · rw [if_neg h_3] at hm
    refine lv_aload_n hx hb dX3_advanceNumber_16 rfl (lv_at hl 0 rfl) ?_
    refine xg_X3_5 X hP hAll uX3_advanceNumber_X3 mbX3_advanceNumber_4 dX3_advanceNumber_17 ?_
    refine lv_aload_n hx hb dX3_advanceNumber_20 rfl (lv_at hl 0 rfl) ?_
    refine xg_X3_8 X hP hAll uX3_advanceNumber_X3 mbX3_advanceNumber_2 dX3_advanceNumber_21 ?_
    obtain ⟨hb_4, hm⟩ := chk_elim hm
    refine x_iald X hP (okc_113 hAll) hb_4 dX3_advanceNumber_24 ?_
    obtain ⟨r_6, hc_5, hm⟩ := bind_elim hm
    refine x_calli (x_runS (As := [.int (rd M 113 (ix (rd M 111 8)))]) (rest := []) X hP hS (c_X3_isDigit l X.2.2 hc_5) (va_cwS 1 hts gX3_advanceNumber_X3_isDigit rfl rfl rfl (by decide +kernel) ⟨Nat.le_of_ble_eq_true rfl, Nat.le_of_ble_eq_true rfl⟩) rfl hl.1 rfl (Nat.le_of_ble_eq_true rfl) dX3_advanceNumber_25 ⟨Nat.zero_le _, Nat.zero_le _⟩) hS (fun H locs hP hS => ?_)
    refine lv_if_eq (tgt := 68) hx hb dX3_advanceNumber_28 (by decide) (fun h_7 => ?_) (fun h_7 => ?_)
    · rw [if_pos h_7] at hm
      exact kx0 M (Option.some.inj hm).symm _ _ _ hP hS (lv_sub hl [0] rfl)
    · rw [if_neg h_7] at hm
      refine lv_aload_n hx hb dX3_advanceNumber_31 rfl (lv_at hl 0 rfl) ?_
      refine lv_bipush (v := 10) hx hb dX3_advanceNumber_32 (by decide) ?_
      refine lv_aload_n hx hb dX3_advanceNumber_34 rfl (lv_at hl 0 rfl) ?_
      refine xg_X3_10 X hP hAll uX3_advanceNumber_X3 mbX3_advanceNumber_1 dX3_advanceNumber_35 ?_
      refine lv_imul hx hb dX3_advanceNumber_38 ?_
      refine lv_aload_n hx hb dX3_advanceNumber_39 rfl (lv_at hl 0 rfl) ?_
      refine xg_X3_5 X hP hAll uX3_advanceNumber_X3 mbX3_advanceNumber_4 dX3_advanceNumber_40 ?_
      refine lv_aload_n hx hb dX3_advanceNumber_43 rfl (lv_at hl 0 rfl) ?_
      refine xg_X3_8 X hP hAll uX3_advanceNumber_X3 mbX3_advanceNumber_2 dX3_advanceNumber_44 ?_
      refine x_iald X hP (okc_113 hAll) hb_4 dX3_advanceNumber_47 ?_
      refine lv_iadd hx hb dX3_advanceNumber_48 ?_
      refine lv_bipush (v := 48) hx hb dX3_advanceNumber_49 (by decide) ?_
      refine lv_isub hx hb dX3_advanceNumber_51 ?_
      obtain ⟨M_8, hM_9, hm⟩ := bnd_elim hm
      refine xp_X3_10 X hP hAll uX3_advanceNumber_X3 mbX3_advanceNumber_1 hS hM_9 dX3_advanceNumber_52 (fun H locs hP hS => ?_)
      refine lv_aload_n hx hb dX3_advanceNumber_55 rfl (lv_at hl 0 rfl) ?_
      refine lv_dup hx hb dX3_advanceNumber_56 rfl ?_
      refine xg_X3_8 X hP hAll uX3_advanceNumber_X3 mbX3_advanceNumber_2 dX3_advanceNumber_57 ?_
      refine lv_iconst (v := 1) hx hb dX3_advanceNumber_60 (by decide) ?_
      refine lv_iadd hx hb dX3_advanceNumber_61 ?_
      obtain ⟨M_10, hM_11, hm⟩ := bnd_elim hm
      refine xp_X3_8 X hP hAll uX3_advanceNumber_X3 mbX3_advanceNumber_2 hS hM_11 dX3_advanceNumber_62 (fun H locs hP hS => ?_)
      refine lv_goto (tgt := 5) hx hb dX3_advanceNumber_65 (by decide) ?_
      exact kb M_10 (Option.some.inj hm).symm _ _ _ hP hS (lv_sub hl [0] rfl)

set_option maxHeartbeats 4000000 in
set_option maxRecDepth 100000 in
theorem wj_X3_advanceNumber_87 (X : CxG g p s m args c cX3_advanceNumber 1 RX3 wsX3_advanceNumber) (hAll : okAll g) {fu : Nat} {M : Mem} {t1 : Int32} {MM : Mem} (hr : meth.sig.returnType = none) (hlocks : meth.locks = false) (hm : j_X3_advanceNumber_87 fu M t1 = some MM) {H : Heap} {locs : List Loc} {ls : Array Slot} (hP : va_P (gD g) vwCl (wlG g M) H) (hS : va_S (AbG g) s.heap H locs) (hl : lv_has ls 1 []) : W p l e (headSpec wsX3_advanceNumber rmX3_advanceNumber).room s m args below meth c H locs 0 0 (MQ below (va_Qv (fun (_ : Unit) => True) (fun _ t => va_P (gD g) vwCl (wlG g MM) t.heap) (AbG g)) args s 0 0 (AbG g)) (F0 m 87 ls [.int t1, .ref (ga g 111)]) := by
  obtain ⟨⟨hx, hb, hml, hown, hts⟩, -, -⟩ := id X
  unfold j_X3_advanceNumber_87 at hm
  obtain ⟨M_16, hM_17, hm⟩ := bnd_elim hm
  refine xp_X3_9 X hP hAll uX3_advanceNumber_X3 mbX3_advanceNumber_6 hS hM_17 dX3_advanceNumber_87 (fun H locs hP hS => ?_)
  cases hm
  exact x_vret X hP hS hr hlocks dX3_advanceNumber_90

set_option maxHeartbeats 4000000 in
set_option maxRecDepth 100000 in
theorem c_X3_advanceNumber (l : Launch) {g : GT} (hA : AxG g) (hAll : okAll g)   {fu : Nat} {M : Mem} {MM : Mem} (hm : m_X3_advanceNumber fu M = some MM) : CV l yX3_advanceNumber wsX3_advanceNumber rmX3_advanceNumber g [.ref (ga g 111)] M MM := by
  refine Met.ofW (cc := cX3_advanceNumber) (maxL := 1) (ret := none) (by decide) rfl ?_
  intro p e s m args below meth c s₁ B hml hv
  obtain ⟨rfl, hSx, hP⟩ := hv
  have hr := B.returns
  have hlocks := B.notSynchronized
  have X : CxG g p s m _ c cX3_advanceNumber 1 RX3 wsX3_advanceNumber := ⟨⟨B.exec, B.bytes, hml, findClass_of_methodNamed B.named, atoms_spec (ws := wsX3_advanceNumber) B.pre⟩, hSx, hA⟩
  have hS : va_S (AbG g) s.heap s.heap [] := va_S.rf
  have hl := lv_entry (([.ref (ga g 111)] : List Value)) (n := 1) (Nat.le_of_ble_eq_true rfl)
  rw [lg_entry_eq]
  generalize (lg_sl (([.ref (ga g 111)] : List Value)) ++ List.replicate (1 - (lg_sl (([.ref (ga g 111)] : List Value))).length) Slot.unset).toArray = ls at hl ⊢
  have hl : lv_has ls 1 [(0, .ref (ga g 111))] := hl
  obtain ⟨⟨hx, hb, hml, hown, hts⟩, -, -⟩ := id X
  unfold m_X3_advanceNumber at hm
  refine lv_aload_n hx hb dX3_advanceNumber_0 rfl (lv_at hl 0 rfl) ?_
  refine lv_iconst (v := 0) hx hb dX3_advanceNumber_1 (by decide) ?_
  obtain ⟨M_1, hM_2, hm⟩ := bnd_elim hm
  refine xp_X3_10 X hP hAll uX3_advanceNumber_X3 mbX3_advanceNumber_1 hS hM_2 dX3_advanceNumber_2 (fun H locs hP hS => ?_)
  obtain ⟨M_14, hL_13, hm⟩ := bind_elim hm
  refine wl_X3_advanceNumber_5 X hAll ?_ hL_13 _ _ _ hP hS (lv_sub hl [0] rfl)
  · intro z_M_14 e_M_14 H locs ls hP hS hl
    subst e_M_14
    replace hm := un1_e hm
    refine lv_aload_n hx hb dX3_advanceNumber_68 rfl (lv_at hl 0 rfl) ?_
    refine lv_aload_n hx hb dX3_advanceNumber_69 rfl (lv_at hl 0 rfl) ?_
    refine xg_X3_8 X hP hAll uX3_advanceNumber_X3 mbX3_advanceNumber_2 dX3_advanceNumber_70 ?_
    refine lv_aload_n hx hb dX3_advanceNumber_73 rfl (lv_at hl 0 rfl) ?_
    refine xg_X3_7 X hP hAll uX3_advanceNumber_X3 mbX3_advanceNumber_5 dX3_advanceNumber_74 ?_
    refine lv_isub hx hb dX3_advanceNumber_77 ?_
    refine lv_iconst (v := 4) hx hb dX3_advanceNumber_78 (by decide) ?_
    refine lv_icmp_le (tgt := 86) hx hb dX3_advanceNumber_79 (by decide) (fun h_15 => ?_) (fun h_15 => ?_)
    · rw [if_pos h_15] at hm
      refine lv_iconst (v := 1) hx hb dX3_advanceNumber_86 (by decide) ?_
      exact wj_X3_advanceNumber_87 X hAll hr hlocks hm hP hS (lv_sub hl [] rfl)
    · rw [if_neg h_15] at hm
      refine lv_iconst (v := 2) hx hb dX3_advanceNumber_82 (by decide) ?_
      refine lv_goto (tgt := 87) hx hb dX3_advanceNumber_83 (by decide) ?_
      exact wj_X3_advanceNumber_87 X hAll hr hlocks hm hP hS (lv_sub hl [] rfl)


/-! X3_isSign -/
def rmX3_isSign : Room := { frames := 0, cells := 0, slots := 0, locals := 0 }

set_option maxHeartbeats 4000000 in
set_option maxRecDepth 100000 in
theorem wj_X3_isSign_36 (X : CxG g p s m args c cX3_isSign 1 RX3 wsX3_isSign) {M : Mem} {rr : Int32} (hr : meth.sig.returnType = (some .boolean)) (hlocks : meth.locks = false) (hm : j_X3_isSign_36 M = some rr) {H : Heap} {locs : List Loc} {ls : Array Slot} (hP : va_P (gD g) vwCl (wlG g M) H) (hS : va_S (AbG g) s.heap H locs) (hl : lv_has ls 1 []) : W p l e (headSpec wsX3_isSign rmX3_isSign).room s m args below meth c H locs 0 0 (MQ below (va_Qi (fun (q : Int32) (_ : Unit) => q = rr) (fun _ t => va_P (gD g) vwCl (wlG g M) t.heap) (AbG g)) args s 0 0 (AbG g)) (F0 m 36 ls []) := by
  obtain ⟨⟨hx, hb, hml, hown, hts⟩, -, -⟩ := id X
  unfold j_X3_isSign_36 at hm
  refine lv_iconst (v := 1) hx hb dX3_isSign_36 (by decide) ?_
  refine lv_goto (tgt := 41) hx hb dX3_isSign_37 (by decide) ?_
  cases hm
  exact x_zret X (by decide) hP hS hr hlocks dX3_isSign_41

set_option maxHeartbeats 4000000 in
set_option maxRecDepth 100000 in
theorem wj_X3_isSign_12 (X : CxG g p s m args c cX3_isSign 1 RX3 wsX3_isSign) {M : Mem} {s0 : Int32} {rr : Int32} (hr : meth.sig.returnType = (some .boolean)) (hlocks : meth.locks = false) (hm : j_X3_isSign_12 M s0 = some rr) {H : Heap} {locs : List Loc} {ls : Array Slot} (hP : va_P (gD g) vwCl (wlG g M) H) (hS : va_S (AbG g) s.heap H locs) (hl : lv_has ls 1 [(0, .int s0)]) : W p l e (headSpec wsX3_isSign rmX3_isSign).room s m args below meth c H locs 0 0 (MQ below (va_Qi (fun (q : Int32) (_ : Unit) => q = rr) (fun _ t => va_P (gD g) vwCl (wlG g M) t.heap) (AbG g)) args s 0 0 (AbG g)) (F0 m 12 ls []) := by
  obtain ⟨⟨hx, hb, hml, hown, hts⟩, -, -⟩ := id X
  unfold j_X3_isSign_12 at hm
  refine lv_iload_n hx hb dX3_isSign_12 rfl (lv_at hl 0 rfl) ?_
  refine lv_bipush (v := 45) hx hb dX3_isSign_13 (by decide) ?_
  refine lv_icmp_eq (tgt := 36) hx hb dX3_isSign_15 (by decide) (fun h_2 => ?_) (fun h_2 => ?_)
  · rw [if_pos h_2] at hm
    exact wj_X3_isSign_36 X hr hlocks hm hP hS (lv_sub hl [] rfl)
  · rw [if_neg h_2] at hm
    refine lv_iload_n hx hb dX3_isSign_18 rfl (lv_at hl 0 rfl) ?_
    refine lv_bipush (v := 47) hx hb dX3_isSign_19 (by decide) ?_
    refine lv_icmp_eq (tgt := 36) hx hb dX3_isSign_21 (by decide) (fun h_3 => ?_) (fun h_3 => ?_)
    · rw [if_pos h_3] at hm
      exact wj_X3_isSign_36 X hr hlocks hm hP hS (lv_sub hl [] rfl)
    · rw [if_neg h_3] at hm
      refine lv_iload_n hx hb dX3_isSign_24 rfl (lv_at hl 0 rfl) ?_
      refine lv_bipush (v := 59) hx hb dX3_isSign_25 (by decide) ?_
      refine lv_icmp_lt (tgt := 40) hx hb dX3_isSign_27 (by decide) (fun h_4 => ?_) (fun h_4 => ?_)
      · rw [if_pos h_4] at hm
        refine lv_iconst (v := 0) hx hb dX3_isSign_40 (by decide) ?_
        cases hm
        exact x_zret X (by decide) hP hS hr hlocks dX3_isSign_41
      · rw [if_neg h_4] at hm
        refine lv_iload_n hx hb dX3_isSign_30 rfl (lv_at hl 0 rfl) ?_
        refine lv_bipush (v := 62) hx hb dX3_isSign_31 (by decide) ?_
        refine lv_icmp_gt (tgt := 40) hx hb dX3_isSign_33 (by decide) (fun h_5 => ?_) (fun h_5 => ?_)
        · rw [if_pos h_5] at hm
          refine lv_iconst (v := 0) hx hb dX3_isSign_40 (by decide) ?_
          cases hm
          exact x_zret X (by decide) hP hS hr hlocks dX3_isSign_41
        · rw [if_neg h_5] at hm
          exact wj_X3_isSign_36 X hr hlocks hm hP hS (lv_sub hl [] rfl)

set_option maxHeartbeats 4000000 in
set_option maxRecDepth 100000 in
theorem c_X3_isSign (l : Launch) {g : GT} (hA : AxG g)   {M : Mem} {a0 : Int32} {rr : Int32} (hm : m_X3_isSign M a0 = some rr) : CI l yX3_isSign wsX3_isSign rmX3_isSign g [.int a0] M rr M := by
  refine Met.ofW (cc := cX3_isSign) (maxL := 1) (ret := (some .boolean)) (by decide) rfl ?_
  intro p e s m args below meth c s₁ B hml hv
  obtain ⟨rfl, hSx, hP⟩ := hv
  have hr := B.returns
  have hlocks := B.notSynchronized
  have X : CxG g p s m _ c cX3_isSign 1 RX3 wsX3_isSign := ⟨⟨B.exec, B.bytes, hml, findClass_of_methodNamed B.named, atoms_spec (ws := wsX3_isSign) B.pre⟩, hSx, hA⟩
  have hS : va_S (AbG g) s.heap s.heap [] := va_S.rf
  have hl := lv_entry (([.int a0] : List Value)) (n := 1) (Nat.le_of_ble_eq_true rfl)
  rw [lg_entry_eq]
  generalize (lg_sl (([.int a0] : List Value)) ++ List.replicate (1 - (lg_sl (([.int a0] : List Value))).length) Slot.unset).toArray = ls at hl ⊢
  have hl : lv_has ls 1 [(0, .int a0)] := hl
  obtain ⟨⟨hx, hb, hml, hown, hts⟩, -, -⟩ := id X
  unfold m_X3_isSign at hm
  refine lv_iload_n hx hb dX3_isSign_0 rfl (lv_at hl 0 rfl) ?_
  refine lv_bipush (v := 40) hx hb dX3_isSign_1 (by decide) ?_
  refine lv_icmp_lt (tgt := 12) hx hb dX3_isSign_3 (by decide) (fun h_1 => ?_) (fun h_1 => ?_)
  · rw [if_pos h_1] at hm
    exact wj_X3_isSign_12 X hr hlocks hm hP hS (lv_sub hl [0] rfl)
  · rw [if_neg h_1] at hm
    refine lv_iload_n hx hb dX3_isSign_6 rfl (lv_at hl 0 rfl) ?_
    refine lv_bipush (v := 43) hx hb dX3_isSign_7 (by decide) ?_
    refine lv_icmp_le (tgt := 36) hx hb dX3_isSign_9 (by decide) (fun h_6 => ?_) (fun h_6 => ?_)
    · rw [if_pos h_6] at hm
      exact wj_X3_isSign_36 X hr hlocks hm hP hS (lv_sub hl [] rfl)
    · rw [if_neg h_6] at hm
      exact wj_X3_isSign_12 X hr hlocks hm hP hS (lv_sub hl [0] rfl)


/-! X3_advance -/
def rmX3_advance : Room := { frames := 7, cells := 0, slots := 0, locals := 151 }
theorem uX3_advance_X3 : ∀ w ∈ wsX30, w ∈ wsX3_advance := by decide +kernel
theorem mbX3_advance_1 : Cond.fieldLink RX3 37 "FootANight$Reader" "behind" "I" ∈ wsX3_advance := by decide +kernel
theorem mbX3_advance_2 : Cond.fieldLink RX3 34 "FootANight$Reader" "start" "I" ∈ wsX3_advance := by decide +kernel
theorem mbX3_advance_3 : Cond.fieldLink RX3 31 "FootANight$Reader" "length" "I" ∈ wsX3_advance := by decide +kernel
theorem mbX3_advance_4 : Cond.fieldLink RX3 28 "FootANight$Reader" "bytes" "[I" ∈ wsX3_advance := by decide +kernel
theorem mbX3_advance_5 : Cond.fieldLink RX3 40 "FootANight$Reader" "kind" "I" ∈ wsX3_advance := by decide +kernel
set_option maxHeartbeats 4000000 in
set_option maxRecDepth 100000 in
theorem wj_X3_advance_47i (X : CxG g p s m args c cX3_advance 1 RX3 wsX3_advance) (hAll : okAll g) {fu : Nat} {M : Mem} {o : (Mem) ⊕ (Mem)} (kb : ∀ (M2 : Mem) , o = .inl M2 → ∀ (H : Heap) (locs : List Loc) (ls : Array Slot), va_P (gD g) vwCl (wlG g M2) H → va_S (AbG g) s.heap H locs → lv_has ls 1 [(0, .ref (ga g 111))] → W p l e (headSpec wsX3_advance rmX3_advance).room s m args below meth c H locs 0 0 Q (F0 m 8 ls [])) (kx0 : ∀ (M2 : Mem) , o = .inr M2 → ∀ (H : Heap) (locs : List Loc) (ls : Array Slot), va_P (gD g) vwCl (wlG g M2) H → va_S (AbG g) s.heap H locs → lv_has ls 1 [(0, .ref (ga g 111))] → W p l e (headSpec wsX3_advance rmX3_advance).room s m args below meth c H locs 0 0 Q (F0 m 60 ls [])) (hm : j_X3_advance_47i fu M = some o) {H : Heap} {locs : List Loc} {ls : Array Slot} (hP : va_P (gD g) vwCl (wlG g M) H) (hS : va_S (AbG g) s.heap H locs) (hl : lv_has ls 1 [(0, .ref (ga g 111))]) : W p l e (headSpec wsX3_advance rmX3_advance).room s m args below meth c H locs 0 0 Q (F0 m 47 ls []) := by
  obtain ⟨⟨hx, hb, hml, hown, hts⟩, -, -⟩ := id X
  unfold j_X3_advance_47i at hm
  refine lv_aload_n hx hb dX3_advance_47 rfl (lv_at hl 0 rfl) ?_
  refine lv_dup hx hb dX3_advance_48 rfl ?_
  refine xg_X3_7 X hP hAll uX3_advance_X3 mbX3_advance_2 dX3_advance_49 ?_
  refine lv_iconst (v := 1) hx hb dX3_advance_52 (by decide) ?_
  refine lv_iadd hx hb dX3_advance_53 ?_
  obtain ⟨M_6, hM_7, hm⟩ := bnd_elim hm
  refine xp_X3_7 X hP hAll uX3_advance_X3 mbX3_advance_2 hS hM_7 dX3_advance_54 (fun H locs hP hS => ?_)
  refine lv_goto (tgt := 8) hx hb dX3_advance_57 (by decide) ?_
  exact kb M_6 (Option.some.inj hm).symm _ _ _ hP hS (lv_sub hl [0] rfl)

set_option maxHeartbeats 4000000 in
set_option maxRecDepth 100000 in
theorem wl_X3_advance_8 (X : CxG g p s m args c cX3_advance 1 RX3 wsX3_advance) (hAll : okAll g) {fu : Nat} {x : Mem} (kx0 : ∀ (M2 : Mem) , x = M2 → ∀ (H : Heap) (locs : List Loc) (ls : Array Slot), va_P (gD g) vwCl (wlG g M2) H → va_S (AbG g) s.heap H locs → lv_has ls 1 [(0, .ref (ga g 111))] → W p l e (headSpec wsX3_advance rmX3_advance).room s m args below meth c H locs 0 0 Q (F0 m 60 ls [])) {n : Nat} {q0 : Mem} (h : lp (b_X3_advance_8 fu) n q0 = some x) : ∀ (H : Heap) (locs : List Loc) (ls : Array Slot), va_P (gD g) vwCl (wlG g q0) H → va_S (AbG g) s.heap H locs → lv_has ls 1 [(0, .ref (ga g 111))] → W p l e (headSpec wsX3_advance rmX3_advance).room s m args below meth c H locs 0 0 Q (F0 m 8 ls []) := by
  refine lp_elim (P := fun q0 : Mem => ∀ (H : Heap) (locs : List Loc) (ls : Array Slot), va_P (gD g) vwCl (wlG g q0) H → va_S (AbG g) s.heap H locs → lv_has ls 1 [(0, .ref (ga g 111))] → W p l e (headSpec wsX3_advance rmX3_advance).room s m args below meth c H locs 0 0 Q (F0 m 8 ls [])) (fun q1 o hm hI hX => ?_) n q0 h
  obtain ⟨M, rfl⟩ : ∃ z, z = q1 := ⟨_, rfl⟩
  have kb : ∀ (M2 : Mem) , o = .inl M2 → ∀ (H : Heap) (locs : List Loc) (ls : Array Slot), va_P (gD g) vwCl (wlG g M2) H → va_S (AbG g) s.heap H locs → lv_has ls 1 [(0, .ref (ga g 111))] → W p l e (headSpec wsX3_advance rmX3_advance).room s m args below meth c H locs 0 0 Q (F0 m 8 ls []) := fun M2 e => hI _ e
  have kx0 : ∀ (M2 : Mem) , o = .inr M2 → ∀ (H : Heap) (locs : List Loc) (ls : Array Slot), va_P (gD g) vwCl (wlG g M2) H → va_S (AbG g) s.heap H locs → lv_has ls 1 [(0, .ref (ga g 111))] → W p l e (headSpec wsX3_advance rmX3_advance).room s m args below meth c H locs 0 0 Q (F0 m 60 ls []) := fun M2 e => kx0 M2 (hX _ e).symm
  clear hI hX
  intro H locs ls hP hS hl
  obtain ⟨⟨hx, hb, hml, hown, hts⟩, -, -⟩ := id X
  have hl : lv_has ls 1 [(0, .ref (ga g 111))] := hl
  have hP : va_P (gD g) vwCl (wlG g M) H := hP
  unfold b_X3_advance_8 at hm
  replace hm := un1_e hm
  refine lv_aload_n hx hb dX3_advance_8 rfl (lv_at hl 0 rfl) ?_
  refine xg_X3_7 X hP hAll uX3_advance_X3 mbX3_advance_2 dX3_advance_9 ?_
  refine lv_aload_n hx hb dX3_advance_12 rfl (lv_at hl 0 rfl) ?_
  refine xg_X3_6 X hP hAll uX3_advance_X3 mbX3_advance_3 dX3_advance_13 ?_
  refine lv_icmp_ge (tgt := 60) hx hb dX3_advance_16 (by decide) (fun h_3 => ?_) (fun h_3 => ?_)
  · rw [if_pos h_3] at hm
    exact kx0 M (Option.some.inj hm).symm _ _ _ hP hS (lv_sub hl [0] rfl)
  · rw [if_neg h_3] at hm
    refine lv_aload_n hx hb dX3_advance_19 rfl (lv_at hl 0 rfl) ?_
    refine xg_X3_5 X hP hAll uX3_advance_X3 mbX3_advance_4 dX3_advance_20 ?_
    refine lv_aload_n hx hb dX3_advance_23 rfl (lv_at hl 0 rfl) ?_
    refine xg_X3_7 X hP hAll uX3_advance_X3 mbX3_advance_2 dX3_advance_24 ?_
    obtain ⟨hb_4, hm⟩ := chk_elim hm
    refine x_iald X hP (okc_113 hAll) hb_4 dX3_advance_27 ?_
    refine lv_bipush (v := 32) hx hb dX3_advance_28 (by decide) ?_
    refine lv_icmp_eq (tgt := 47) hx hb dX3_advance_30 (by decide) (fun h_5 => ?_) (fun h_5 => ?_)
    · rw [if_pos h_5] at hm
      exact wj_X3_advance_47i X hAll kb kx0 hm hP hS (lv_sub hl [0] rfl)
    · rw [if_neg h_5] at hm
      refine lv_aload_n hx hb dX3_advance_33 rfl (lv_at hl 0 rfl) ?_
      refine xg_X3_5 X hP hAll uX3_advance_X3 mbX3_advance_4 dX3_advance_34 ?_
      refine lv_aload_n hx hb dX3_advance_37 rfl (lv_at hl 0 rfl) ?_
      refine xg_X3_7 X hP hAll uX3_advance_X3 mbX3_advance_2 dX3_advance_38 ?_
      refine x_iald X hP (okc_113 hAll) hb_4 dX3_advance_41 ?_
      refine lv_bipush (v := 10) hx hb dX3_advance_42 (by decide) ?_
      refine lv_icmp_ne (tgt := 60) hx hb dX3_advance_44 (by decide) (fun h_8 => ?_) (fun h_8 => ?_)
      · rw [if_neg h_8] at hm
        exact kx0 M (Option.some.inj hm).symm _ _ _ hP hS (lv_sub hl [0] rfl)
      · rw [if_pos h_8] at hm
        exact wj_X3_advance_47i X hAll kb kx0 hm hP hS (lv_sub hl [0] rfl)

set_option maxHeartbeats 4000000 in
set_option maxRecDepth 100000 in
theorem wj_X3_advance_170 (X : CxG g p s m args c cX3_advance 1 RX3 wsX3_advance) (hAll : okAll g) {fu : Nat} {M : Mem} {t1 : Int32} {MM : Mem} (hr : meth.sig.returnType = none) (hlocks : meth.locks = false) (hm : j_X3_advance_170 fu M t1 = some MM) {H : Heap} {locs : List Loc} {ls : Array Slot} (hP : va_P (gD g) vwCl (wlG g M) H) (hS : va_S (AbG g) s.heap H locs) (hl : lv_has ls 1 []) : W p l e (headSpec wsX3_advance rmX3_advance).room s m args below meth c H locs 0 0 (MQ below (va_Qv (fun (_ : Unit) => True) (fun _ t => va_P (gD g) vwCl (wlG g MM) t.heap) (AbG g)) args s 0 0 (AbG g)) (F0 m 170 ls [.int t1, .ref (ga g 111)]) := by
  obtain ⟨⟨hx, hb, hml, hown, hts⟩, -, -⟩ := id X
  unfold j_X3_advance_170 at hm
  obtain ⟨M_28, hM_29, hm⟩ := bnd_elim hm
  refine xp_X3_9 X hP hAll uX3_advance_X3 mbX3_advance_5 hS hM_29 dX3_advance_170 (fun H locs hP hS => ?_)
  cases hm
  exact x_vret X hP hS hr hlocks dX3_advance_173

set_option maxHeartbeats 4000000 in
set_option maxRecDepth 100000 in
theorem c_X3_advance (l : Launch) {g : GT} (hA : AxG g) (hAll : okAll g)   {fu : Nat} {M : Mem} {MM : Mem} (hm : m_X3_advance fu M = some MM) : CV l yX3_advance wsX3_advance rmX3_advance g [.ref (ga g 111)] M MM := by
  refine Met.ofW (cc := cX3_advance) (maxL := 1) (ret := none) (by decide) rfl ?_
  intro p e s m args below meth c s₁ B hml hv
  obtain ⟨rfl, hSx, hP⟩ := hv
  have hr := B.returns
  have hlocks := B.notSynchronized
  have X : CxG g p s m _ c cX3_advance 1 RX3 wsX3_advance := ⟨⟨B.exec, B.bytes, hml, findClass_of_methodNamed B.named, atoms_spec (ws := wsX3_advance) B.pre⟩, hSx, hA⟩
  have hS : va_S (AbG g) s.heap s.heap [] := va_S.rf
  have hl := lv_entry (([.ref (ga g 111)] : List Value)) (n := 1) (Nat.le_of_ble_eq_true rfl)
  rw [lg_entry_eq]
  generalize (lg_sl (([.ref (ga g 111)] : List Value)) ++ List.replicate (1 - (lg_sl (([.ref (ga g 111)] : List Value))).length) Slot.unset).toArray = ls at hl ⊢
  have hl : lv_has ls 1 [(0, .ref (ga g 111))] := hl
  obtain ⟨⟨hx, hb, hml, hown, hts⟩, -, -⟩ := id X
  unfold m_X3_advance at hm
  refine lv_aload_n hx hb dX3_advance_0 rfl (lv_at hl 0 rfl) ?_
  refine lv_aload_n hx hb dX3_advance_1 rfl (lv_at hl 0 rfl) ?_
  refine xg_X3_8 X hP hAll uX3_advance_X3 mbX3_advance_1 dX3_advance_2 ?_
  obtain ⟨M_1, hM_2, hm⟩ := bnd_elim hm
  refine xp_X3_7 X hP hAll uX3_advance_X3 mbX3_advance_2 hS hM_2 dX3_advance_5 (fun H locs hP hS => ?_)
  obtain ⟨M_11, hL_10, hm⟩ := bind_elim hm
  refine wl_X3_advance_8 X hAll ?_ hL_10 _ _ _ hP hS (lv_sub hl [0] rfl)
  · intro z_M_11 e_M_11 H locs ls hP hS hl
    subst e_M_11
    replace hm := un1_e hm
    refine lv_aload_n hx hb dX3_advance_60 rfl (lv_at hl 0 rfl) ?_
    refine lv_aload_n hx hb dX3_advance_61 rfl (lv_at hl 0 rfl) ?_
    refine xg_X3_7 X hP hAll uX3_advance_X3 mbX3_advance_2 dX3_advance_62 ?_
    obtain ⟨M_12, hM_13, hm⟩ := bnd_elim hm
    refine xp_X3_8 X hP hAll uX3_advance_X3 mbX3_advance_1 hS hM_13 dX3_advance_65 (fun H locs hP hS => ?_)
    refine lv_aload_n hx hb dX3_advance_68 rfl (lv_at hl 0 rfl) ?_
    refine xg_X3_7 X hP hAll uX3_advance_X3 mbX3_advance_2 dX3_advance_69 ?_
    refine lv_aload_n hx hb dX3_advance_72 rfl (lv_at hl 0 rfl) ?_
    refine xg_X3_6 X hP hAll uX3_advance_X3 mbX3_advance_3 dX3_advance_73 ?_
    refine lv_icmp_lt (tgt := 87) hx hb dX3_advance_76 (by decide) (fun h_14 => ?_) (fun h_14 => ?_)
    · rw [if_pos h_14] at hm
      refine lv_aload_n hx hb dX3_advance_87 rfl (lv_at hl 0 rfl) ?_
      refine xg_X3_5 X hP hAll uX3_advance_X3 mbX3_advance_4 dX3_advance_88 ?_
      refine lv_aload_n hx hb dX3_advance_91 rfl (lv_at hl 0 rfl) ?_
      refine xg_X3_7 X hP hAll uX3_advance_X3 mbX3_advance_2 dX3_advance_92 ?_
      obtain ⟨hb_15, hm⟩ := chk_elim hm
      refine x_iald X hP (okc_113 hAll) hb_15 dX3_advance_95 ?_
      obtain ⟨r_17, hc_16, hm⟩ := bind_elim hm
      refine x_calli (x_runS (As := [.int (rd M_12 113 (ix (rd M_12 111 7)))]) (rest := []) X hP hS (c_X3_isLetter l X.2.2 hc_16) (va_cwS 1 hts gX3_advance_X3_isLetter rfl rfl rfl (by decide +kernel) ⟨Nat.le_of_ble_eq_true rfl, Nat.le_of_ble_eq_true rfl⟩) rfl hl.1 rfl (Nat.le_of_ble_eq_true rfl) dX3_advance_96 ⟨Nat.zero_le _, Nat.zero_le _⟩) hS (fun H locs hP hS => ?_)
      refine lv_if_eq (tgt := 109) hx hb dX3_advance_99 (by decide) (fun h_18 => ?_) (fun h_18 => ?_)
      · rw [if_pos h_18] at hm
        refine lv_aload_n hx hb dX3_advance_109 rfl (lv_at hl 0 rfl) ?_
        refine xg_X3_5 X hP hAll uX3_advance_X3 mbX3_advance_4 dX3_advance_110 ?_
        refine lv_aload_n hx hb dX3_advance_113 rfl (lv_at hl 0 rfl) ?_
        refine xg_X3_7 X hP hAll uX3_advance_X3 mbX3_advance_2 dX3_advance_114 ?_
        refine x_iald X hP (okc_113 hAll) hb_15 dX3_advance_117 ?_
        obtain ⟨r_20, hc_19, hm⟩ := bind_elim hm
        refine x_calli (x_runS (As := [.int (rd M_12 113 (ix (rd M_12 111 7)))]) (rest := []) X hP hS (c_X3_isDigit l X.2.2 hc_19) (va_cwS 1 hts gX3_advance_X3_isDigit rfl rfl rfl (by decide +kernel) ⟨Nat.le_of_ble_eq_true rfl, Nat.le_of_ble_eq_true rfl⟩) rfl hl.1 rfl (Nat.le_of_ble_eq_true rfl) dX3_advance_118 ⟨Nat.zero_le _, Nat.zero_le _⟩) hS (fun H locs hP hS => ?_)
        refine lv_if_eq (tgt := 131) hx hb dX3_advance_121 (by decide) (fun h_21 => ?_) (fun h_21 => ?_)
        · rw [if_pos h_21] at hm
          refine lv_aload_n hx hb dX3_advance_131 rfl (lv_at hl 0 rfl) ?_
          refine lv_aload_n hx hb dX3_advance_132 rfl (lv_at hl 0 rfl) ?_
          refine xg_X3_7 X hP hAll uX3_advance_X3 mbX3_advance_2 dX3_advance_133 ?_
          refine lv_iconst (v := 1) hx hb dX3_advance_136 (by decide) ?_
          refine lv_iadd hx hb dX3_advance_137 ?_
          obtain ⟨M_22, hM_23, hm⟩ := bnd_elim hm
          refine xp_X3_8 X hP hAll uX3_advance_X3 mbX3_advance_1 hS hM_23 dX3_advance_138 (fun H locs hP hS => ?_)
          refine lv_aload_n hx hb dX3_advance_141 rfl (lv_at hl 0 rfl) ?_
          refine lv_aload_n hx hb dX3_advance_142 rfl (lv_at hl 0 rfl) ?_
          refine xg_X3_5 X hP hAll uX3_advance_X3 mbX3_advance_4 dX3_advance_143 ?_
          refine lv_aload_n hx hb dX3_advance_146 rfl (lv_at hl 0 rfl) ?_
          refine xg_X3_7 X hP hAll uX3_advance_X3 mbX3_advance_2 dX3_advance_147 ?_
          obtain ⟨hb_24, hm⟩ := chk_elim hm
          refine x_iald X hP (okc_113 hAll) hb_24 dX3_advance_150 ?_
          obtain ⟨r_26, hc_25, hm⟩ := bind_elim hm
          refine x_calli (x_runS (As := [.int (rd M_22 113 (ix (rd M_22 111 7)))]) (rest := [.ref (ga g 111)]) X hP hS (c_X3_isSign l X.2.2 hc_25) (va_cwS 1 hts gX3_advance_X3_isSign rfl rfl rfl (by decide +kernel) ⟨Nat.le_of_ble_eq_true rfl, Nat.le_of_ble_eq_true rfl⟩) rfl hl.1 rfl (Nat.le_of_ble_eq_true rfl) dX3_advance_151 ⟨Nat.zero_le _, Nat.zero_le _⟩) hS (fun H locs hP hS => ?_)
          refine lv_if_eq (tgt := 169) hx hb dX3_advance_154 (by decide) (fun h_27 => ?_) (fun h_27 => ?_)
          · rw [if_pos h_27] at hm
            refine lv_iconst (v := 2) hx hb dX3_advance_169 (by decide) ?_
            exact wj_X3_advance_170 X hAll hr hlocks hm hP hS (lv_sub hl [] rfl)
          · rw [if_neg h_27] at hm
            refine lv_aload_n hx hb dX3_advance_157 rfl (lv_at hl 0 rfl) ?_
            refine xg_X3_5 X hP hAll uX3_advance_X3 mbX3_advance_4 dX3_advance_158 ?_
            refine lv_aload_n hx hb dX3_advance_161 rfl (lv_at hl 0 rfl) ?_
            refine xg_X3_7 X hP hAll uX3_advance_X3 mbX3_advance_2 dX3_advance_162 ?_
            refine x_iald X hP (okc_113 hAll) hb_24 dX3_advance_165 ?_
            refine lv_goto (tgt := 170) hx hb dX3_advance_166 (by decide) ?_
            exact wj_X3_advance_170 X hAll hr hlocks hm hP hS (lv_sub hl [] rfl)
        · rw [if_neg h_21] at hm
          refine lv_aload_n hx hb dX3_advance_124 rfl (lv_at hl 0 rfl) ?_
          obtain ⟨M_31, hc_30, hm⟩ := bind_elim hm
          refine x_callv (x_runV (As := []) (rest := []) X hP hS (c_X3_advanceNumber l X.2.2 hAll hc_30) (cwV 0 hts gX3_advance_X3_advanceNumber rfl rfl rfl (by decide +kernel) ⟨Nat.le_of_ble_eq_true rfl, Nat.le_of_ble_eq_true rfl⟩) (x_recv (C := RX3) (T := TX3) (N := 17) X hP (okc_111 hAll) rfl) rfl hl.1 rfl (Nat.le_of_ble_eq_true rfl) dX3_advance_125 ⟨Nat.zero_le _, Nat.zero_le _⟩) hS (fun H locs hP hS => ?_)
          refine lv_goto (tgt := 173) hx hb dX3_advance_128 (by decide) ?_
          cases hm
          exact x_vret X hP hS hr hlocks dX3_advance_173
      · rw [if_neg h_18] at hm
        refine lv_aload_n hx hb dX3_advance_102 rfl (lv_at hl 0 rfl) ?_
        obtain ⟨M_33, hc_32, hm⟩ := bind_elim hm
        refine x_callv (x_runV (As := []) (rest := []) X hP hS (c_X3_advanceWord l X.2.2 hAll hc_32) (cwV 0 hts gX3_advance_X3_advanceWord rfl rfl rfl (by decide +kernel) ⟨Nat.le_of_ble_eq_true rfl, Nat.le_of_ble_eq_true rfl⟩) (x_recv (C := RX3) (T := TX3) (N := 17) X hP (okc_111 hAll) rfl) rfl hl.1 rfl (Nat.le_of_ble_eq_true rfl) dX3_advance_103 ⟨Nat.zero_le _, Nat.zero_le _⟩) hS (fun H locs hP hS => ?_)
        refine lv_goto (tgt := 173) hx hb dX3_advance_106 (by decide) ?_
        cases hm
        exact x_vret X hP hS hr hlocks dX3_advance_173
    · rw [if_neg h_14] at hm
      refine lv_aload_n hx hb dX3_advance_79 rfl (lv_at hl 0 rfl) ?_
      refine lv_iconst (v := 0) hx hb dX3_advance_80 (by decide) ?_
      obtain ⟨M_34, hM_35, hm⟩ := bnd_elim hm
      refine xp_X3_9 X hP hAll uX3_advance_X3 mbX3_advance_5 hS hM_35 dX3_advance_81 (fun H locs hP hS => ?_)
      refine lv_goto (tgt := 173) hx hb dX3_advance_84 (by decide) ?_
      cases hm
      exact x_vret X hP hS hr hlocks dX3_advance_173


/-! X3_refuse -/
def rmX3_refuse : Room := { frames := 0, cells := 0, slots := 0, locals := 0 }
theorem uX3_refuse_X3 : ∀ w ∈ wsX30, w ∈ wsX3_refuse := by decide +kernel
theorem mbX3_refuse_1 : Cond.fieldLink RX3 22 "FootANight$Reader" "fault" "I" ∈ wsX3_refuse := by decide +kernel
theorem mbX3_refuse_2 : Cond.fieldLink RX3 34 "FootANight$Reader" "start" "I" ∈ wsX3_refuse := by decide +kernel
theorem mbX3_refuse_3 : Cond.fieldLink RX3 25 "FootANight$Reader" "place" "I" ∈ wsX3_refuse := by decide +kernel
set_option maxHeartbeats 4000000 in
set_option maxRecDepth 100000 in
theorem c_X3_refuse (l : Launch) {g : GT} (hA : AxG g) (hAll : okAll g)   {M : Mem} {a1 : Int32} {rr : Int32} {MM : Mem} (hm : m_X3_refuse M a1 = some (rr, MM)) : CI l yX3_refuse wsX3_refuse rmX3_refuse g [.ref (ga g 111), .int a1] M rr MM := by
  refine Met.ofW (cc := cX3_refuse) (maxL := 2) (ret := (some .boolean)) (by decide) rfl ?_
  intro p e s m args below meth c s₁ B hml hv
  obtain ⟨rfl, hSx, hP⟩ := hv
  have hr := B.returns
  have hlocks := B.notSynchronized
  have X : CxG g p s m _ c cX3_refuse 2 RX3 wsX3_refuse := ⟨⟨B.exec, B.bytes, hml, findClass_of_methodNamed B.named, atoms_spec (ws := wsX3_refuse) B.pre⟩, hSx, hA⟩
  have hS : va_S (AbG g) s.heap s.heap [] := va_S.rf
  have hl := lv_entry (([.ref (ga g 111), .int a1] : List Value)) (n := 2) (Nat.le_of_ble_eq_true rfl)
  rw [lg_entry_eq]
  generalize (lg_sl (([.ref (ga g 111), .int a1] : List Value)) ++ List.replicate (2 - (lg_sl (([.ref (ga g 111), .int a1] : List Value))).length) Slot.unset).toArray = ls at hl ⊢
  have hl : lv_has ls 2 [(0, .ref (ga g 111)), (1, .int a1)] := hl
  obtain ⟨⟨hx, hb, hml, hown, hts⟩, -, -⟩ := id X
  unfold m_X3_refuse at hm
  refine lv_aload_n hx hb dX3_refuse_0 rfl (lv_at hl 0 rfl) ?_
  refine lv_iload_n hx hb dX3_refuse_1 rfl (lv_at hl 1 rfl) ?_
  obtain ⟨M_1, hM_2, hm⟩ := bnd_elim hm
  refine xp_X3_3 X hP hAll uX3_refuse_X3 mbX3_refuse_1 hS hM_2 dX3_refuse_2 (fun H locs hP hS => ?_)
  refine lv_aload_n hx hb dX3_refuse_5 rfl (lv_at hl 0 rfl) ?_
  refine lv_aload_n hx hb dX3_refuse_6 rfl (lv_at hl 0 rfl) ?_
  refine xg_X3_7 X hP hAll uX3_refuse_X3 mbX3_refuse_2 dX3_refuse_7 ?_
  obtain ⟨M_3, hM_4, hm⟩ := bnd_elim hm
  refine xp_X3_4 X hP hAll uX3_refuse_X3 mbX3_refuse_3 hS hM_4 dX3_refuse_10 (fun H locs hP hS => ?_)
  refine lv_iconst (v := 0) hx hb dX3_refuse_13 (by decide) ?_
  cases hm
  exact x_zret X (by decide) hP hS hr hlocks dX3_refuse_14


/-! X3_expect -/
def rmX3_expect : Room := { frames := 0, cells := 0, slots := 0, locals := 0 }
theorem uX3_expect_X3 : ∀ w ∈ wsX30, w ∈ wsX3_expect := by decide +kernel
theorem mbX3_expect_1 : Cond.fieldLink RX3 46 "FootANight$Reader" "next" "I" ∈ wsX3_expect := by decide +kernel
set_option maxHeartbeats 4000000 in
set_option maxRecDepth 100000 in
theorem c_X3_expect (l : Launch) {g : GT} (hA : AxG g) (hAll : okAll g)   {M : Mem} {a1 : Int32} {rr : Int32} {MM : Mem} (hm : m_X3_expect M a1 = some (rr, MM)) : CI l yX3_expect wsX3_expect rmX3_expect g [.ref (ga g 111), .int a1] M rr MM := by
  refine Met.ofW (cc := cX3_expect) (maxL := 2) (ret := (some .boolean)) (by decide) rfl ?_
  intro p e s m args below meth c s₁ B hml hv
  obtain ⟨rfl, hSx, hP⟩ := hv
  have hr := B.returns
  have hlocks := B.notSynchronized
  have X : CxG g p s m _ c cX3_expect 2 RX3 wsX3_expect := ⟨⟨B.exec, B.bytes, hml, findClass_of_methodNamed B.named, atoms_spec (ws := wsX3_expect) B.pre⟩, hSx, hA⟩
  have hS : va_S (AbG g) s.heap s.heap [] := va_S.rf
  have hl := lv_entry (([.ref (ga g 111), .int a1] : List Value)) (n := 2) (Nat.le_of_ble_eq_true rfl)
  rw [lg_entry_eq]
  generalize (lg_sl (([.ref (ga g 111), .int a1] : List Value)) ++ List.replicate (2 - (lg_sl (([.ref (ga g 111), .int a1] : List Value))).length) Slot.unset).toArray = ls at hl ⊢
  have hl : lv_has ls 2 [(0, .ref (ga g 111)), (1, .int a1)] := hl
  obtain ⟨⟨hx, hb, hml, hown, hts⟩, -, -⟩ := id X
  unfold m_X3_expect at hm
  refine lv_aload_n hx hb dX3_expect_0 rfl (lv_at hl 0 rfl) ?_
  refine lv_iload_n hx hb dX3_expect_1 rfl (lv_at hl 1 rfl) ?_
  obtain ⟨M_1, hM_2, hm⟩ := bnd_elim hm
  refine xp_X3_11 X hP hAll uX3_expect_X3 mbX3_expect_1 hS hM_2 dX3_expect_2 (fun H locs hP hS => ?_)
  refine lv_iconst (v := 1) hx hb dX3_expect_5 (by decide) ?_
  cases hm
  exact x_zret X (by decide) hP hS hr hlocks dX3_expect_6


/-! X3_readsDo -/
def rmX3_readsDo : Room := { frames := 1, cells := 0, slots := 0, locals := 21 }
theorem uX3_readsDo_X3 : ∀ w ∈ wsX30, w ∈ wsX3_readsDo := by decide +kernel
theorem mbX3_readsDo_1 : Cond.fieldLink RX3 40 "FootANight$Reader" "kind" "I" ∈ wsX3_readsDo := by decide +kernel
theorem mbX3_readsDo_2 : Cond.fieldLink RX3 19 "FootANight$Reader" "lines" "I" ∈ wsX3_readsDo := by decide +kernel
set_option maxHeartbeats 4000000 in
set_option maxRecDepth 100000 in
theorem c_X3_readsDo (l : Launch) {g : GT} (hA : AxG g) (hAll : okAll g)   {M : Mem} {rr : Int32} {MM : Mem} (hm : m_X3_readsDo M = some (rr, MM)) : CI l yX3_readsDo wsX3_readsDo rmX3_readsDo g [.ref (ga g 111)] M rr MM := by
  refine Met.ofW (cc := cX3_readsDo) (maxL := 1) (ret := (some .boolean)) (by decide) rfl ?_
  intro p e s m args below meth c s₁ B hml hv
  obtain ⟨rfl, hSx, hP⟩ := hv
  have hr := B.returns
  have hlocks := B.notSynchronized
  have X : CxG g p s m _ c cX3_readsDo 1 RX3 wsX3_readsDo := ⟨⟨B.exec, B.bytes, hml, findClass_of_methodNamed B.named, atoms_spec (ws := wsX3_readsDo) B.pre⟩, hSx, hA⟩
  have hS : va_S (AbG g) s.heap s.heap [] := va_S.rf
  have hl := lv_entry (([.ref (ga g 111)] : List Value)) (n := 1) (Nat.le_of_ble_eq_true rfl)
  rw [lg_entry_eq]
  generalize (lg_sl (([.ref (ga g 111)] : List Value)) ++ List.replicate (1 - (lg_sl (([.ref (ga g 111)] : List Value))).length) Slot.unset).toArray = ls at hl ⊢
  have hl : lv_has ls 1 [(0, .ref (ga g 111))] := hl
  obtain ⟨⟨hx, hb, hml, hown, hts⟩, -, -⟩ := id X
  unfold m_X3_readsDo at hm
  refine lv_aload_n hx hb dX3_readsDo_0 rfl (lv_at hl 0 rfl) ?_
  refine xg_X3_9 X hP hAll uX3_readsDo_X3 mbX3_readsDo_1 dX3_readsDo_1 ?_
  refine lv_sipush (v := 200) hx hb dX3_readsDo_4 (by decide) ?_
  refine lv_icmp_eq (tgt := 16) hx hb dX3_readsDo_7 (by decide) (fun h_1 => ?_) (fun h_1 => ?_)
  · rw [if_pos h_1] at hm
    refine lv_aload_n hx hb dX3_readsDo_16 rfl (lv_at hl 0 rfl) ?_
    refine xg_X3_2 X hP hAll uX3_readsDo_X3 mbX3_readsDo_2 dX3_readsDo_17 ?_
    refine lv_bipush (v := 16) hx hb dX3_readsDo_20 (by decide) ?_
    refine lv_icmp_lt (tgt := 31) hx hb dX3_readsDo_22 (by decide) (fun h_2 => ?_) (fun h_2 => ?_)
    · rw [if_pos h_2] at hm
      refine lv_aload_n hx hb dX3_readsDo_31 rfl (lv_at hl 0 rfl) ?_
      refine lv_dup hx hb dX3_readsDo_32 rfl ?_
      refine xg_X3_2 X hP hAll uX3_readsDo_X3 mbX3_readsDo_2 dX3_readsDo_33 ?_
      refine lv_iconst (v := 1) hx hb dX3_readsDo_36 (by decide) ?_
      refine lv_iadd hx hb dX3_readsDo_37 ?_
      obtain ⟨M_3, hM_4, hm⟩ := bnd_elim hm
      refine xp_X3_2 X hP hAll uX3_readsDo_X3 mbX3_readsDo_2 hS hM_4 dX3_readsDo_38 (fun H locs hP hS => ?_)
      refine lv_aload_n hx hb dX3_readsDo_41 rfl (lv_at hl 0 rfl) ?_
      refine lv_iconst (v := 1) hx hb dX3_readsDo_42 (by decide) ?_
      obtain ⟨⟨r_6, M_7⟩, hc_5, hm⟩ := bind_elim hm
      replace hm := un2_e hm
      refine x_calli (x_runV (As := [.int 1]) (rest := []) X hP hS (c_X3_expect l X.2.2 hAll hc_5) (cwV 1 hts gX3_readsDo_X3_expect rfl rfl rfl (by decide +kernel) ⟨Nat.le_of_ble_eq_true rfl, Nat.le_of_ble_eq_true rfl⟩) (x_recv (C := RX3) (T := TX3) (N := 17) X hP (okc_111 hAll) rfl) rfl hl.1 rfl (Nat.le_of_ble_eq_true rfl) dX3_readsDo_43 ⟨Nat.zero_le _, Nat.zero_le _⟩) hS (fun H locs hP hS => ?_)
      obtain ⟨hz_8, hm⟩ := chk_elim hm
      cases hm
      exact x_zret X (isB_or hz_8) hP hS hr hlocks dX3_readsDo_46
    · rw [if_neg h_2] at hm
      refine lv_aload_n hx hb dX3_readsDo_25 rfl (lv_at hl 0 rfl) ?_
      refine lv_iconst (v := 3) hx hb dX3_readsDo_26 (by decide) ?_
      obtain ⟨⟨r_10, M_11⟩, hc_9, hm⟩ := bind_elim hm
      replace hm := un2_e hm
      refine x_calli (x_runV (As := [.int 3]) (rest := []) X hP hS (c_X3_refuse l X.2.2 hAll hc_9) (cwV 1 hts gX3_readsDo_X3_refuse rfl rfl rfl (by decide +kernel) ⟨Nat.le_of_ble_eq_true rfl, Nat.le_of_ble_eq_true rfl⟩) (x_recv (C := RX3) (T := TX3) (N := 17) X hP (okc_111 hAll) rfl) rfl hl.1 rfl (Nat.le_of_ble_eq_true rfl) dX3_readsDo_27 ⟨Nat.zero_le _, Nat.zero_le _⟩) hS (fun H locs hP hS => ?_)
      obtain ⟨hz_12, hm⟩ := chk_elim hm
      cases hm
      exact x_zret X (isB_or hz_12) hP hS hr hlocks dX3_readsDo_30
  · rw [if_neg h_1] at hm
    refine lv_aload_n hx hb dX3_readsDo_10 rfl (lv_at hl 0 rfl) ?_
    refine lv_iconst (v := 1) hx hb dX3_readsDo_11 (by decide) ?_
    obtain ⟨⟨r_14, M_15⟩, hc_13, hm⟩ := bind_elim hm
    replace hm := un2_e hm
    refine x_calli (x_runV (As := [.int 1]) (rest := []) X hP hS (c_X3_refuse l X.2.2 hAll hc_13) (cwV 1 hts gX3_readsDo_X3_refuse rfl rfl rfl (by decide +kernel) ⟨Nat.le_of_ble_eq_true rfl, Nat.le_of_ble_eq_true rfl⟩) (x_recv (C := RX3) (T := TX3) (N := 17) X hP (okc_111 hAll) rfl) rfl hl.1 rfl (Nat.le_of_ble_eq_true rfl) dX3_readsDo_12 ⟨Nat.zero_le _, Nat.zero_le _⟩) hS (fun H locs hP hS => ?_)
    obtain ⟨hz_16, hm⟩ := chk_elim hm
    cases hm
    exact x_zret X (isB_or hz_16) hP hS hr hlocks dX3_readsDo_15


/-! X3_readsDoing -/
def rmX3_readsDoing : Room := { frames := 1, cells := 0, slots := 0, locals := 21 }
theorem uX3_readsDoing_X3 : ∀ w ∈ wsX30, w ∈ wsX3_readsDoing := by decide +kernel
theorem mbX3_readsDoing_1 : Cond.fieldLink RX3 40 "FootANight$Reader" "kind" "I" ∈ wsX3_readsDoing := by decide +kernel
theorem mbX3_readsDoing_2 : Cond.fieldLink RX3 43 "FootANight$Reader" "number" "I" ∈ wsX3_readsDoing := by decide +kernel
theorem mbX3_readsDoing_3 : Cond.fieldLink RX3 49 "FootANight$Reader" "doing" "I" ∈ wsX3_readsDoing := by decide +kernel
set_option maxHeartbeats 4000000 in
set_option maxRecDepth 100000 in
theorem c_X3_readsDoing (l : Launch) {g : GT} (hA : AxG g) (hAll : okAll g)   {M : Mem} {rr : Int32} {MM : Mem} (hm : m_X3_readsDoing M = some (rr, MM)) : CI l yX3_readsDoing wsX3_readsDoing rmX3_readsDoing g [.ref (ga g 111)] M rr MM := by
  refine Met.ofW (cc := cX3_readsDoing) (maxL := 1) (ret := (some .boolean)) (by decide) rfl ?_
  intro p e s m args below meth c s₁ B hml hv
  obtain ⟨rfl, hSx, hP⟩ := hv
  have hr := B.returns
  have hlocks := B.notSynchronized
  have X : CxG g p s m _ c cX3_readsDoing 1 RX3 wsX3_readsDoing := ⟨⟨B.exec, B.bytes, hml, findClass_of_methodNamed B.named, atoms_spec (ws := wsX3_readsDoing) B.pre⟩, hSx, hA⟩
  have hS : va_S (AbG g) s.heap s.heap [] := va_S.rf
  have hl := lv_entry (([.ref (ga g 111)] : List Value)) (n := 1) (Nat.le_of_ble_eq_true rfl)
  rw [lg_entry_eq]
  generalize (lg_sl (([.ref (ga g 111)] : List Value)) ++ List.replicate (1 - (lg_sl (([.ref (ga g 111)] : List Value))).length) Slot.unset).toArray = ls at hl ⊢
  have hl : lv_has ls 1 [(0, .ref (ga g 111))] := hl
  obtain ⟨⟨hx, hb, hml, hown, hts⟩, -, -⟩ := id X
  unfold m_X3_readsDoing at hm
  refine lv_aload_n hx hb dX3_readsDoing_0 rfl (lv_at hl 0 rfl) ?_
  refine xg_X3_9 X hP hAll uX3_readsDoing_X3 mbX3_readsDoing_1 dX3_readsDoing_1 ?_
  refine lv_iconst (v := 1) hx hb dX3_readsDoing_4 (by decide) ?_
  refine lv_icmp_eq (tgt := 14) hx hb dX3_readsDoing_5 (by decide) (fun h_1 => ?_) (fun h_1 => ?_)
  · rw [if_pos h_1] at hm
    refine lv_aload_n hx hb dX3_readsDoing_14 rfl (lv_at hl 0 rfl) ?_
    refine xg_X3_10 X hP hAll uX3_readsDoing_X3 mbX3_readsDoing_2 dX3_readsDoing_15 ?_
    refine lv_iconst (v := 4) hx hb dX3_readsDoing_18 (by decide) ?_
    refine lv_icmp_lt (tgt := 28) hx hb dX3_readsDoing_19 (by decide) (fun h_2 => ?_) (fun h_2 => ?_)
    · rw [if_pos h_2] at hm
      refine lv_aload_n hx hb dX3_readsDoing_28 rfl (lv_at hl 0 rfl) ?_
      refine lv_aload_n hx hb dX3_readsDoing_29 rfl (lv_at hl 0 rfl) ?_
      refine xg_X3_10 X hP hAll uX3_readsDoing_X3 mbX3_readsDoing_2 dX3_readsDoing_30 ?_
      obtain ⟨M_3, hM_4, hm⟩ := bnd_elim hm
      refine xp_X3_12 X hP hAll uX3_readsDoing_X3 mbX3_readsDoing_3 hS hM_4 dX3_readsDoing_33 (fun H locs hP hS => ?_)
      refine lv_aload_n hx hb dX3_readsDoing_36 rfl (lv_at hl 0 rfl) ?_
      refine lv_iconst (v := 2) hx hb dX3_readsDoing_37 (by decide) ?_
      obtain ⟨⟨r_6, M_7⟩, hc_5, hm⟩ := bind_elim hm
      replace hm := un2_e hm
      refine x_calli (x_runV (As := [.int 2]) (rest := []) X hP hS (c_X3_expect l X.2.2 hAll hc_5) (cwV 1 hts gX3_readsDoing_X3_expect rfl rfl rfl (by decide +kernel) ⟨Nat.le_of_ble_eq_true rfl, Nat.le_of_ble_eq_true rfl⟩) (x_recv (C := RX3) (T := TX3) (N := 17) X hP (okc_111 hAll) rfl) rfl hl.1 rfl (Nat.le_of_ble_eq_true rfl) dX3_readsDoing_38 ⟨Nat.zero_le _, Nat.zero_le _⟩) hS (fun H locs hP hS => ?_)
      obtain ⟨hz_8, hm⟩ := chk_elim hm
      cases hm
      exact x_zret X (isB_or hz_8) hP hS hr hlocks dX3_readsDoing_41
    · rw [if_neg h_2] at hm
      refine lv_aload_n hx hb dX3_readsDoing_22 rfl (lv_at hl 0 rfl) ?_
      refine lv_iconst (v := 2) hx hb dX3_readsDoing_23 (by decide) ?_
      obtain ⟨⟨r_10, M_11⟩, hc_9, hm⟩ := bind_elim hm
      replace hm := un2_e hm
      refine x_calli (x_runV (As := [.int 2]) (rest := []) X hP hS (c_X3_refuse l X.2.2 hAll hc_9) (cwV 1 hts gX3_readsDoing_X3_refuse rfl rfl rfl (by decide +kernel) ⟨Nat.le_of_ble_eq_true rfl, Nat.le_of_ble_eq_true rfl⟩) (x_recv (C := RX3) (T := TX3) (N := 17) X hP (okc_111 hAll) rfl) rfl hl.1 rfl (Nat.le_of_ble_eq_true rfl) dX3_readsDoing_24 ⟨Nat.zero_le _, Nat.zero_le _⟩) hS (fun H locs hP hS => ?_)
      obtain ⟨hz_12, hm⟩ := chk_elim hm
      cases hm
      exact x_zret X (isB_or hz_12) hP hS hr hlocks dX3_readsDoing_27
  · rw [if_neg h_1] at hm
    refine lv_aload_n hx hb dX3_readsDoing_8 rfl (lv_at hl 0 rfl) ?_
    refine lv_iconst (v := 1) hx hb dX3_readsDoing_9 (by decide) ?_
    obtain ⟨⟨r_14, M_15⟩, hc_13, hm⟩ := bind_elim hm
    replace hm := un2_e hm
    refine x_calli (x_runV (As := [.int 1]) (rest := []) X hP hS (c_X3_refuse l X.2.2 hAll hc_13) (cwV 1 hts gX3_readsDoing_X3_refuse rfl rfl rfl (by decide +kernel) ⟨Nat.le_of_ble_eq_true rfl, Nat.le_of_ble_eq_true rfl⟩) (x_recv (C := RX3) (T := TX3) (N := 17) X hP (okc_111 hAll) rfl) rfl hl.1 rfl (Nat.le_of_ble_eq_true rfl) dX3_readsDoing_10 ⟨Nat.zero_le _, Nat.zero_le _⟩) hS (fun H locs hP hS => ?_)
    obtain ⟨hz_16, hm⟩ := chk_elim hm
    cases hm
    exact x_zret X (isB_or hz_16) hP hS hr hlocks dX3_readsDoing_13


/-! X3_emit -/
def rmX3_emit : Room := { frames := 0, cells := 0, slots := 0, locals := 0 }
theorem uX3_emit_X3 : ∀ w ∈ wsX30, w ∈ wsX3_emit := by decide +kernel
theorem mbX3_emit_1 : Cond.fieldLink RX3 15 "FootANight$Reader" "used" "I" ∈ wsX3_emit := by decide +kernel
theorem mbX3_emit_2 : Cond.fieldLink RX3 9 "FootANight$Reader" "code" "[I" ∈ wsX3_emit := by decide +kernel
set_option maxHeartbeats 4000000 in
set_option maxRecDepth 100000 in
theorem c_X3_emit (l : Launch) {g : GT} (hA : AxG g) (hAll : okAll g)   {M : Mem} {a1 : Int32} {MM : Mem} (hm : m_X3_emit M a1 = some MM) : CV l yX3_emit wsX3_emit rmX3_emit g [.ref (ga g 111), .int a1] M MM := by
  refine Met.ofW (cc := cX3_emit) (maxL := 2) (ret := none) (by decide) rfl ?_
  intro p e s m args below meth c s₁ B hml hv
  obtain ⟨rfl, hSx, hP⟩ := hv
  have hr := B.returns
  have hlocks := B.notSynchronized
  have X : CxG g p s m _ c cX3_emit 2 RX3 wsX3_emit := ⟨⟨B.exec, B.bytes, hml, findClass_of_methodNamed B.named, atoms_spec (ws := wsX3_emit) B.pre⟩, hSx, hA⟩
  have hS : va_S (AbG g) s.heap s.heap [] := va_S.rf
  have hl := lv_entry (([.ref (ga g 111), .int a1] : List Value)) (n := 2) (Nat.le_of_ble_eq_true rfl)
  rw [lg_entry_eq]
  generalize (lg_sl (([.ref (ga g 111), .int a1] : List Value)) ++ List.replicate (2 - (lg_sl (([.ref (ga g 111), .int a1] : List Value))).length) Slot.unset).toArray = ls at hl ⊢
  have hl : lv_has ls 2 [(0, .ref (ga g 111)), (1, .int a1)] := hl
  obtain ⟨⟨hx, hb, hml, hown, hts⟩, -, -⟩ := id X
  unfold m_X3_emit at hm
  refine lv_aload_n hx hb dX3_emit_0 rfl (lv_at hl 0 rfl) ?_
  refine xg_X3_1 X hP hAll uX3_emit_X3 mbX3_emit_1 dX3_emit_1 ?_
  refine lv_aload_n hx hb dX3_emit_4 rfl (lv_at hl 0 rfl) ?_
  refine xg_X3_0 X hP hAll uX3_emit_X3 mbX3_emit_2 dX3_emit_5 ?_
  refine x_alen X hP (okc_112 hAll) (by decide) dX3_emit_8 ?_
  refine lv_icmp_ge (tgt := 32) hx hb dX3_emit_9 (by decide) (fun h_1 => ?_) (fun h_1 => ?_)
  · rw [if_pos h_1] at hm
    cases hm
    exact x_vret X hP hS hr hlocks dX3_emit_32
  · rw [if_neg h_1] at hm
    refine lv_aload_n hx hb dX3_emit_12 rfl (lv_at hl 0 rfl) ?_
    refine xg_X3_0 X hP hAll uX3_emit_X3 mbX3_emit_2 dX3_emit_13 ?_
    refine lv_aload_n hx hb dX3_emit_16 rfl (lv_at hl 0 rfl) ?_
    refine xg_X3_1 X hP hAll uX3_emit_X3 mbX3_emit_1 dX3_emit_17 ?_
    refine lv_iload_n hx hb dX3_emit_20 rfl (lv_at hl 1 rfl) ?_
    obtain ⟨hb_2, hm⟩ := chk_elim hm
    obtain ⟨M_3, hM_4, hm⟩ := bnd_elim hm
    refine x_iast X hP hS (okc_112 hAll) hM_4 hb_2 dX3_emit_21 (fun H locs hP hS => ?_)
    refine lv_aload_n hx hb dX3_emit_22 rfl (lv_at hl 0 rfl) ?_
    refine lv_dup hx hb dX3_emit_23 rfl ?_
    refine xg_X3_1 X hP hAll uX3_emit_X3 mbX3_emit_1 dX3_emit_24 ?_
    refine lv_iconst (v := 1) hx hb dX3_emit_27 (by decide) ?_
    refine lv_iadd hx hb dX3_emit_28 ?_
    obtain ⟨M_5, hM_6, hm⟩ := bnd_elim hm
    refine xp_X3_1 X hP hAll uX3_emit_X3 mbX3_emit_1 hS hM_6 dX3_emit_29 (fun H locs hP hS => ?_)
    cases hm
    exact x_vret X hP hS hr hlocks dX3_emit_32


/-! X3_readsWhen -/
def rmX3_readsWhen : Room := { frames := 1, cells := 0, slots := 0, locals := 21 }
theorem uX3_readsWhen_X3 : ∀ w ∈ wsX30, w ∈ wsX3_readsWhen := by decide +kernel
theorem mbX3_readsWhen_1 : Cond.fieldLink RX3 40 "FootANight$Reader" "kind" "I" ∈ wsX3_readsWhen := by decide +kernel
theorem mbX3_readsWhen_2 : Cond.fieldLink RX3 49 "FootANight$Reader" "doing" "I" ∈ wsX3_readsWhen := by decide +kernel
set_option maxHeartbeats 4000000 in
set_option maxRecDepth 100000 in
theorem c_X3_readsWhen (l : Launch) {g : GT} (hA : AxG g) (hAll : okAll g)   {M : Mem} {rr : Int32} {MM : Mem} (hm : m_X3_readsWhen M = some (rr, MM)) : CI l yX3_readsWhen wsX3_readsWhen rmX3_readsWhen g [.ref (ga g 111)] M rr MM := by
  refine Met.ofW (cc := cX3_readsWhen) (maxL := 1) (ret := (some .boolean)) (by decide) rfl ?_
  intro p e s m args below meth c s₁ B hml hv
  obtain ⟨rfl, hSx, hP⟩ := hv
  have hr := B.returns
  have hlocks := B.notSynchronized
  have X : CxG g p s m _ c cX3_readsWhen 1 RX3 wsX3_readsWhen := ⟨⟨B.exec, B.bytes, hml, findClass_of_methodNamed B.named, atoms_spec (ws := wsX3_readsWhen) B.pre⟩, hSx, hA⟩
  have hS : va_S (AbG g) s.heap s.heap [] := va_S.rf
  have hl := lv_entry (([.ref (ga g 111)] : List Value)) (n := 1) (Nat.le_of_ble_eq_true rfl)
  rw [lg_entry_eq]
  generalize (lg_sl (([.ref (ga g 111)] : List Value)) ++ List.replicate (1 - (lg_sl (([.ref (ga g 111)] : List Value))).length) Slot.unset).toArray = ls at hl ⊢
  have hl : lv_has ls 1 [(0, .ref (ga g 111))] := hl
  obtain ⟨⟨hx, hb, hml, hown, hts⟩, -, -⟩ := id X
  unfold m_X3_readsWhen at hm
  refine lv_aload_n hx hb dX3_readsWhen_0 rfl (lv_at hl 0 rfl) ?_
  refine xg_X3_9 X hP hAll uX3_readsWhen_X3 mbX3_readsWhen_1 dX3_readsWhen_1 ?_
  refine lv_sipush (v := 201) hx hb dX3_readsWhen_4 (by decide) ?_
  refine lv_icmp_ne (tgt := 16) hx hb dX3_readsWhen_7 (by decide) (fun h_1 => ?_) (fun h_1 => ?_)
  · rw [if_neg h_1] at hm
    refine lv_aload_n hx hb dX3_readsWhen_16 rfl (lv_at hl 0 rfl) ?_
    refine xg_X3_9 X hP hAll uX3_readsWhen_X3 mbX3_readsWhen_1 dX3_readsWhen_17 ?_
    refine lv_bipush (v := 59) hx hb dX3_readsWhen_20 (by decide) ?_
    refine lv_icmp_eq (tgt := 31) hx hb dX3_readsWhen_22 (by decide) (fun h_2 => ?_) (fun h_2 => ?_)
    · rw [if_pos h_2] at hm
      refine lv_aload_n hx hb dX3_readsWhen_31 rfl (lv_at hl 0 rfl) ?_
      refine lv_iconst (v := 1) hx hb dX3_readsWhen_32 (by decide) ?_
      obtain ⟨M_4, hc_3, hm⟩ := bind_elim hm
      refine x_callv (x_runV (As := [.int 1]) (rest := []) X hP hS (c_X3_emit l X.2.2 hAll hc_3) (cwV 1 hts gX3_readsWhen_X3_emit rfl rfl rfl (by decide +kernel) ⟨Nat.le_of_ble_eq_true rfl, Nat.le_of_ble_eq_true rfl⟩) (x_recv (C := RX3) (T := TX3) (N := 17) X hP (okc_111 hAll) rfl) rfl hl.1 rfl (Nat.le_of_ble_eq_true rfl) dX3_readsWhen_33 ⟨Nat.zero_le _, Nat.zero_le _⟩) hS (fun H locs hP hS => ?_)
      refine lv_aload_n hx hb dX3_readsWhen_36 rfl (lv_at hl 0 rfl) ?_
      refine lv_sipush (v := 10400) hx hb dX3_readsWhen_37 (by decide) ?_
      refine lv_aload_n hx hb dX3_readsWhen_40 rfl (lv_at hl 0 rfl) ?_
      refine xg_X3_12 X hP hAll uX3_readsWhen_X3 mbX3_readsWhen_2 dX3_readsWhen_41 ?_
      refine lv_iadd hx hb dX3_readsWhen_44 ?_
      obtain ⟨M_6, hc_5, hm⟩ := bind_elim hm
      refine x_callv (x_runV (As := [.int (10400 + (rd M_4 111 12))]) (rest := []) X hP hS (c_X3_emit l X.2.2 hAll hc_5) (cwV 1 hts gX3_readsWhen_X3_emit rfl rfl rfl (by decide +kernel) ⟨Nat.le_of_ble_eq_true rfl, Nat.le_of_ble_eq_true rfl⟩) (x_recv (C := RX3) (T := TX3) (N := 17) X hP (okc_111 hAll) rfl) rfl hl.1 rfl (Nat.le_of_ble_eq_true rfl) dX3_readsWhen_45 ⟨Nat.zero_le _, Nat.zero_le _⟩) hS (fun H locs hP hS => ?_)
      refine lv_aload_n hx hb dX3_readsWhen_48 rfl (lv_at hl 0 rfl) ?_
      refine lv_iconst (v := 0) hx hb dX3_readsWhen_49 (by decide) ?_
      obtain ⟨⟨r_8, M_9⟩, hc_7, hm⟩ := bind_elim hm
      replace hm := un2_e hm
      refine x_calli (x_runV (As := [.int 0]) (rest := []) X hP hS (c_X3_expect l X.2.2 hAll hc_7) (cwV 1 hts gX3_readsWhen_X3_expect rfl rfl rfl (by decide +kernel) ⟨Nat.le_of_ble_eq_true rfl, Nat.le_of_ble_eq_true rfl⟩) (x_recv (C := RX3) (T := TX3) (N := 17) X hP (okc_111 hAll) rfl) rfl hl.1 rfl (Nat.le_of_ble_eq_true rfl) dX3_readsWhen_50 ⟨Nat.zero_le _, Nat.zero_le _⟩) hS (fun H locs hP hS => ?_)
      obtain ⟨hz_10, hm⟩ := chk_elim hm
      cases hm
      exact x_zret X (isB_or hz_10) hP hS hr hlocks dX3_readsWhen_53
    · rw [if_neg h_2] at hm
      refine lv_aload_n hx hb dX3_readsWhen_25 rfl (lv_at hl 0 rfl) ?_
      refine lv_iconst (v := 1) hx hb dX3_readsWhen_26 (by decide) ?_
      obtain ⟨⟨r_12, M_13⟩, hc_11, hm⟩ := bind_elim hm
      replace hm := un2_e hm
      refine x_calli (x_runV (As := [.int 1]) (rest := []) X hP hS (c_X3_refuse l X.2.2 hAll hc_11) (cwV 1 hts gX3_readsWhen_X3_refuse rfl rfl rfl (by decide +kernel) ⟨Nat.le_of_ble_eq_true rfl, Nat.le_of_ble_eq_true rfl⟩) (x_recv (C := RX3) (T := TX3) (N := 17) X hP (okc_111 hAll) rfl) rfl hl.1 rfl (Nat.le_of_ble_eq_true rfl) dX3_readsWhen_27 ⟨Nat.zero_le _, Nat.zero_le _⟩) hS (fun H locs hP hS => ?_)
      obtain ⟨hz_14, hm⟩ := chk_elim hm
      cases hm
      exact x_zret X (isB_or hz_14) hP hS hr hlocks dX3_readsWhen_30
  · rw [if_pos h_1] at hm
    refine lv_aload_n hx hb dX3_readsWhen_10 rfl (lv_at hl 0 rfl) ?_
    refine lv_iconst (v := 3) hx hb dX3_readsWhen_11 (by decide) ?_
    obtain ⟨⟨r_16, M_17⟩, hc_15, hm⟩ := bind_elim hm
    replace hm := un2_e hm
    refine x_calli (x_runV (As := [.int 3]) (rest := []) X hP hS (c_X3_expect l X.2.2 hAll hc_15) (cwV 1 hts gX3_readsWhen_X3_expect rfl rfl rfl (by decide +kernel) ⟨Nat.le_of_ble_eq_true rfl, Nat.le_of_ble_eq_true rfl⟩) (x_recv (C := RX3) (T := TX3) (N := 17) X hP (okc_111 hAll) rfl) rfl hl.1 rfl (Nat.le_of_ble_eq_true rfl) dX3_readsWhen_12 ⟨Nat.zero_le _, Nat.zero_le _⟩) hS (fun H locs hP hS => ?_)
    obtain ⟨hz_18, hm⟩ := chk_elim hm
    cases hm
    exact x_zret X (isB_or hz_18) hP hS hr hlocks dX3_readsWhen_15


/-! X3_readsUnit -/
def rmX3_readsUnit : Room := { frames := 1, cells := 0, slots := 0, locals := 21 }
theorem uX3_readsUnit_X3 : ∀ w ∈ wsX30, w ∈ wsX3_readsUnit := by decide +kernel
theorem mbX3_readsUnit_1 : Cond.fieldLink RX3 40 "FootANight$Reader" "kind" "I" ∈ wsX3_readsUnit := by decide +kernel
theorem mbX3_readsUnit_2 : Cond.fieldLink RX3 43 "FootANight$Reader" "number" "I" ∈ wsX3_readsUnit := by decide +kernel
set_option maxHeartbeats 4000000 in
set_option maxRecDepth 100000 in
theorem wj_X3_readsUnit_54 (X : CxG g p s m args c cX3_readsUnit 1 RX3 wsX3_readsUnit) (hAll : okAll g) {M : Mem} {rr : Int32} {MM : Mem} (hr : meth.sig.returnType = (some .boolean)) (hlocks : meth.locks = false) (hm : j_X3_readsUnit_54 M = some (rr, MM)) {H : Heap} {locs : List Loc} {ls : Array Slot} (hP : va_P (gD g) vwCl (wlG g M) H) (hS : va_S (AbG g) s.heap H locs) (hl : lv_has ls 1 [(0, .ref (ga g 111))]) : W p l e (headSpec wsX3_readsUnit rmX3_readsUnit).room s m args below meth c H locs 0 0 (MQ below (va_Qi (fun (q : Int32) (_ : Unit) => q = rr) (fun _ t => va_P (gD g) vwCl (wlG g MM) t.heap) (AbG g)) args s 0 0 (AbG g)) (F0 m 54 ls []) := by
  obtain ⟨⟨hx, hb, hml, hown, hts⟩, -, -⟩ := id X
  unfold j_X3_readsUnit_54 at hm
  refine lv_aload_n hx hb dX3_readsUnit_54 rfl (lv_at hl 0 rfl) ?_
  refine lv_bipush (v := 6) hx hb dX3_readsUnit_55 (by decide) ?_
  obtain ⟨⟨r_10, M_11⟩, hc_9, hm⟩ := bind_elim hm
  replace hm := un2_e hm
  refine x_calli (x_runV (As := [.int 6]) (rest := []) X hP hS (c_X3_expect l X.2.2 hAll hc_9) (cwV 1 hts gX3_readsUnit_X3_expect rfl rfl rfl (by decide +kernel) ⟨Nat.le_of_ble_eq_true rfl, Nat.le_of_ble_eq_true rfl⟩) (x_recv (C := RX3) (T := TX3) (N := 17) X hP (okc_111 hAll) rfl) rfl hl.1 rfl (Nat.le_of_ble_eq_true rfl) dX3_readsUnit_57 ⟨Nat.zero_le _, Nat.zero_le _⟩) hS (fun H locs hP hS => ?_)
  obtain ⟨hz_12, hm⟩ := chk_elim hm
  cases hm
  exact x_zret X (isB_or hz_12) hP hS hr hlocks dX3_readsUnit_60

set_option maxHeartbeats 4000000 in
set_option maxRecDepth 100000 in
theorem c_X3_readsUnit (l : Launch) {g : GT} (hA : AxG g) (hAll : okAll g)   {M : Mem} {rr : Int32} {MM : Mem} (hm : m_X3_readsUnit M = some (rr, MM)) : CI l yX3_readsUnit wsX3_readsUnit rmX3_readsUnit g [.ref (ga g 111)] M rr MM := by
  refine Met.ofW (cc := cX3_readsUnit) (maxL := 1) (ret := (some .boolean)) (by decide) rfl ?_
  intro p e s m args below meth c s₁ B hml hv
  obtain ⟨rfl, hSx, hP⟩ := hv
  have hr := B.returns
  have hlocks := B.notSynchronized
  have X : CxG g p s m _ c cX3_readsUnit 1 RX3 wsX3_readsUnit := ⟨⟨B.exec, B.bytes, hml, findClass_of_methodNamed B.named, atoms_spec (ws := wsX3_readsUnit) B.pre⟩, hSx, hA⟩
  have hS : va_S (AbG g) s.heap s.heap [] := va_S.rf
  have hl := lv_entry (([.ref (ga g 111)] : List Value)) (n := 1) (Nat.le_of_ble_eq_true rfl)
  rw [lg_entry_eq]
  generalize (lg_sl (([.ref (ga g 111)] : List Value)) ++ List.replicate (1 - (lg_sl (([.ref (ga g 111)] : List Value))).length) Slot.unset).toArray = ls at hl ⊢
  have hl : lv_has ls 1 [(0, .ref (ga g 111))] := hl
  obtain ⟨⟨hx, hb, hml, hown, hts⟩, -, -⟩ := id X
  unfold m_X3_readsUnit at hm
  refine lv_aload_n hx hb dX3_readsUnit_0 rfl (lv_at hl 0 rfl) ?_
  refine xg_X3_9 X hP hAll uX3_readsUnit_X3 mbX3_readsUnit_1 dX3_readsUnit_1 ?_
  refine lv_iconst (v := 1) hx hb dX3_readsUnit_4 (by decide) ?_
  refine lv_icmp_ne (tgt := 19) hx hb dX3_readsUnit_5 (by decide) (fun h_1 => ?_) (fun h_1 => ?_)
  · rw [if_neg h_1] at hm
    refine lv_aload_n hx hb dX3_readsUnit_19 rfl (lv_at hl 0 rfl) ?_
    refine xg_X3_9 X hP hAll uX3_readsUnit_X3 mbX3_readsUnit_1 dX3_readsUnit_20 ?_
    refine lv_sipush (v := 205) hx hb dX3_readsUnit_23 (by decide) ?_
    refine lv_icmp_lt (tgt := 48) hx hb dX3_readsUnit_26 (by decide) (fun h_2 => ?_) (fun h_2 => ?_)
    · rw [if_pos h_2] at hm
      refine lv_aload_n hx hb dX3_readsUnit_48 rfl (lv_at hl 0 rfl) ?_
      refine lv_iconst (v := 1) hx hb dX3_readsUnit_49 (by decide) ?_
      obtain ⟨⟨r_4, M_5⟩, hc_3, hm⟩ := bind_elim hm
      replace hm := un2_e hm
      refine x_calli (x_runV (As := [.int 1]) (rest := []) X hP hS (c_X3_refuse l X.2.2 hAll hc_3) (cwV 1 hts gX3_readsUnit_X3_refuse rfl rfl rfl (by decide +kernel) ⟨Nat.le_of_ble_eq_true rfl, Nat.le_of_ble_eq_true rfl⟩) (x_recv (C := RX3) (T := TX3) (N := 17) X hP (okc_111 hAll) rfl) rfl hl.1 rfl (Nat.le_of_ble_eq_true rfl) dX3_readsUnit_50 ⟨Nat.zero_le _, Nat.zero_le _⟩) hS (fun H locs hP hS => ?_)
      obtain ⟨hz_6, hm⟩ := chk_elim hm
      cases hm
      exact x_zret X (isB_or hz_6) hP hS hr hlocks dX3_readsUnit_53
    · rw [if_neg h_2] at hm
      refine lv_aload_n hx hb dX3_readsUnit_29 rfl (lv_at hl 0 rfl) ?_
      refine lv_sipush (v := 10000) hx hb dX3_readsUnit_30 (by decide) ?_
      refine lv_aload_n hx hb dX3_readsUnit_33 rfl (lv_at hl 0 rfl) ?_
      refine xg_X3_9 X hP hAll uX3_readsUnit_X3 mbX3_readsUnit_1 dX3_readsUnit_34 ?_
      refine lv_iadd hx hb dX3_readsUnit_37 ?_
      refine lv_sipush (v := 205) hx hb dX3_readsUnit_38 (by decide) ?_
      refine lv_isub hx hb dX3_readsUnit_41 ?_
      obtain ⟨M_8, hc_7, hm⟩ := bind_elim hm
      refine x_callv (x_runV (As := [.int ((10000 + (rd M 111 9)) - 205)]) (rest := []) X hP hS (c_X3_emit l X.2.2 hAll hc_7) (cwV 1 hts gX3_readsUnit_X3_emit rfl rfl rfl (by decide +kernel) ⟨Nat.le_of_ble_eq_true rfl, Nat.le_of_ble_eq_true rfl⟩) (x_recv (C := RX3) (T := TX3) (N := 17) X hP (okc_111 hAll) rfl) rfl hl.1 rfl (Nat.le_of_ble_eq_true rfl) dX3_readsUnit_42 ⟨Nat.zero_le _, Nat.zero_le _⟩) hS (fun H locs hP hS => ?_)
      refine lv_goto (tgt := 54) hx hb dX3_readsUnit_45 (by decide) ?_
      exact wj_X3_readsUnit_54 X hAll hr hlocks hm hP hS (lv_sub hl [0] rfl)
  · rw [if_pos h_1] at hm
    refine lv_aload_n hx hb dX3_readsUnit_8 rfl (lv_at hl 0 rfl) ?_
    refine lv_aload_n hx hb dX3_readsUnit_9 rfl (lv_at hl 0 rfl) ?_
    refine xg_X3_10 X hP hAll uX3_readsUnit_X3 mbX3_readsUnit_2 dX3_readsUnit_10 ?_
    obtain ⟨M_14, hc_13, hm⟩ := bind_elim hm
    refine x_callv (x_runV (As := [.int (rd M 111 10)]) (rest := []) X hP hS (c_X3_emit l X.2.2 hAll hc_13) (cwV 1 hts gX3_readsUnit_X3_emit rfl rfl rfl (by decide +kernel) ⟨Nat.le_of_ble_eq_true rfl, Nat.le_of_ble_eq_true rfl⟩) (x_recv (C := RX3) (T := TX3) (N := 17) X hP (okc_111 hAll) rfl) rfl hl.1 rfl (Nat.le_of_ble_eq_true rfl) dX3_readsUnit_13 ⟨Nat.zero_le _, Nat.zero_le _⟩) hS (fun H locs hP hS => ?_)
    refine lv_goto (tgt := 54) hx hb dX3_readsUnit_16 (by decide) ?_
    exact wj_X3_readsUnit_54 X hAll hr hlocks hm hP hS (lv_sub hl [0] rfl)


/-! X3_putSign -/
def rmX3_putSign : Room := { frames := 1, cells := 0, slots := 0, locals := 21 }
theorem uX3_putSign_X3 : ∀ w ∈ wsX30, w ∈ wsX3_putSign := by decide +kernel
theorem mbX3_putSign_1 : Cond.fieldLink RX3 59 "FootANight$Reader" "waiting" "I" ∈ wsX3_putSign := by decide +kernel
theorem mbX3_putSign_2 : Cond.fieldLink RX3 56 "FootANight$Reader" "signs" "[I" ∈ wsX3_putSign := by decide +kernel
theorem mbX3_putSign_3 : Cond.fieldLink RX3 40 "FootANight$Reader" "kind" "I" ∈ wsX3_putSign := by decide +kernel
set_option maxHeartbeats 4000000 in
set_option maxRecDepth 100000 in
theorem wj_X3_putSign_35 (X : CxG g p s m args c cX3_putSign 2 RX3 wsX3_putSign) (hAll : okAll g) {M : Mem} {s1 : Int32} {rr : Int32} {MM : Mem} (hr : meth.sig.returnType = (some .boolean)) (hlocks : meth.locks = false) (hm : j_X3_putSign_35 M s1 = some (rr, MM)) {H : Heap} {locs : List Loc} {ls : Array Slot} (hP : va_P (gD g) vwCl (wlG g M) H) (hS : va_S (AbG g) s.heap H locs) (hl : lv_has ls 2 [(0, .ref (ga g 111)), (1, .int s1)]) : W p l e (headSpec wsX3_putSign rmX3_putSign).room s m args below meth c H locs 0 0 (MQ below (va_Qi (fun (q : Int32) (_ : Unit) => q = rr) (fun _ t => va_P (gD g) vwCl (wlG g MM) t.heap) (AbG g)) args s 0 0 (AbG g)) (F0 m 35 ls []) := by
  obtain ⟨⟨hx, hb, hml, hown, hts⟩, -, -⟩ := id X
  unfold j_X3_putSign_35 at hm
  refine lv_aload_n hx hb dX3_putSign_35 rfl (lv_at hl 0 rfl) ?_
  refine lv_iload_n hx hb dX3_putSign_36 rfl (lv_at hl 1 rfl) ?_
  obtain ⟨⟨r_3, M_4⟩, hc_2, hm⟩ := bind_elim hm
  replace hm := un2_e hm
  refine x_calli (x_runV (As := [.int s1]) (rest := []) X hP hS (c_X3_expect l X.2.2 hAll hc_2) (cwV 1 hts gX3_putSign_X3_expect rfl rfl rfl (by decide +kernel) ⟨Nat.le_of_ble_eq_true rfl, Nat.le_of_ble_eq_true rfl⟩) (x_recv (C := RX3) (T := TX3) (N := 17) X hP (okc_111 hAll) rfl) rfl hl.1 rfl (Nat.le_of_ble_eq_true rfl) dX3_putSign_37 ⟨Nat.zero_le _, Nat.zero_le _⟩) hS (fun H locs hP hS => ?_)
  obtain ⟨hz_5, hm⟩ := chk_elim hm
  cases hm
  exact x_zret X (isB_or hz_5) hP hS hr hlocks dX3_putSign_40

set_option maxHeartbeats 4000000 in
set_option maxRecDepth 100000 in
theorem c_X3_putSign (l : Launch) {g : GT} (hA : AxG g) (hAll : okAll g)   {M : Mem} {a1 : Int32} {rr : Int32} {MM : Mem} (hm : m_X3_putSign M a1 = some (rr, MM)) : CI l yX3_putSign wsX3_putSign rmX3_putSign g [.ref (ga g 111), .int a1] M rr MM := by
  refine Met.ofW (cc := cX3_putSign) (maxL := 2) (ret := (some .boolean)) (by decide) rfl ?_
  intro p e s m args below meth c s₁ B hml hv
  obtain ⟨rfl, hSx, hP⟩ := hv
  have hr := B.returns
  have hlocks := B.notSynchronized
  have X : CxG g p s m _ c cX3_putSign 2 RX3 wsX3_putSign := ⟨⟨B.exec, B.bytes, hml, findClass_of_methodNamed B.named, atoms_spec (ws := wsX3_putSign) B.pre⟩, hSx, hA⟩
  have hS : va_S (AbG g) s.heap s.heap [] := va_S.rf
  have hl := lv_entry (([.ref (ga g 111), .int a1] : List Value)) (n := 2) (Nat.le_of_ble_eq_true rfl)
  rw [lg_entry_eq]
  generalize (lg_sl (([.ref (ga g 111), .int a1] : List Value)) ++ List.replicate (2 - (lg_sl (([.ref (ga g 111), .int a1] : List Value))).length) Slot.unset).toArray = ls at hl ⊢
  have hl : lv_has ls 2 [(0, .ref (ga g 111)), (1, .int a1)] := hl
  obtain ⟨⟨hx, hb, hml, hown, hts⟩, -, -⟩ := id X
  unfold m_X3_putSign at hm
  refine lv_aload_n hx hb dX3_putSign_0 rfl (lv_at hl 0 rfl) ?_
  refine xg_X3_15 X hP hAll uX3_putSign_X3 mbX3_putSign_1 dX3_putSign_1 ?_
  refine lv_aload_n hx hb dX3_putSign_4 rfl (lv_at hl 0 rfl) ?_
  refine xg_X3_14 X hP hAll uX3_putSign_X3 mbX3_putSign_2 dX3_putSign_5 ?_
  refine x_alen X hP (okc_114 hAll) (by decide) dX3_putSign_8 ?_
  refine lv_icmp_ge (tgt := 35) hx hb dX3_putSign_9 (by decide) (fun h_1 => ?_) (fun h_1 => ?_)
  · rw [if_pos h_1] at hm
    exact wj_X3_putSign_35 X hAll hr hlocks hm hP hS (lv_sub hl [0, 1] rfl)
  · rw [if_neg h_1] at hm
    refine lv_aload_n hx hb dX3_putSign_12 rfl (lv_at hl 0 rfl) ?_
    refine xg_X3_14 X hP hAll uX3_putSign_X3 mbX3_putSign_2 dX3_putSign_13 ?_
    refine lv_aload_n hx hb dX3_putSign_16 rfl (lv_at hl 0 rfl) ?_
    refine xg_X3_15 X hP hAll uX3_putSign_X3 mbX3_putSign_1 dX3_putSign_17 ?_
    refine lv_aload_n hx hb dX3_putSign_20 rfl (lv_at hl 0 rfl) ?_
    refine xg_X3_9 X hP hAll uX3_putSign_X3 mbX3_putSign_3 dX3_putSign_21 ?_
    obtain ⟨hb_6, hm⟩ := chk_elim hm
    obtain ⟨M_7, hM_8, hm⟩ := bnd_elim hm
    refine x_iast X hP hS (okc_114 hAll) hM_8 hb_6 dX3_putSign_24 (fun H locs hP hS => ?_)
    refine lv_aload_n hx hb dX3_putSign_25 rfl (lv_at hl 0 rfl) ?_
    refine lv_dup hx hb dX3_putSign_26 rfl ?_
    refine xg_X3_15 X hP hAll uX3_putSign_X3 mbX3_putSign_1 dX3_putSign_27 ?_
    refine lv_iconst (v := 1) hx hb dX3_putSign_30 (by decide) ?_
    refine lv_iadd hx hb dX3_putSign_31 ?_
    obtain ⟨M_9, hM_10, hm⟩ := bnd_elim hm
    refine xp_X3_15 X hP hAll uX3_putSign_X3 mbX3_putSign_1 hS hM_10 dX3_putSign_32 (fun H locs hP hS => ?_)
    exact wj_X3_putSign_35 X hAll hr hlocks hm hP hS (lv_sub hl [0, 1] rfl)


/-! X3_readsCondition -/
def rmX3_readsCondition : Room := { frames := 2, cells := 0, slots := 0, locals := 42 }
theorem uX3_readsCondition_X3 : ∀ w ∈ wsX30, w ∈ wsX3_readsCondition := by decide +kernel
theorem mbX3_readsCondition_1 : Cond.fieldLink RX3 40 "FootANight$Reader" "kind" "I" ∈ wsX3_readsCondition := by decide +kernel
theorem mbX3_readsCondition_2 : Cond.fieldLink RX3 62 "FootANight$Reader" "open" "I" ∈ wsX3_readsCondition := by decide +kernel
theorem mbX3_readsCondition_3 : Cond.fieldLink RX3 52 "FootANight$Reader" "compared" "Z" ∈ wsX3_readsCondition := by decide +kernel
set_option maxHeartbeats 4000000 in
set_option maxRecDepth 100000 in
theorem wj_X3_readsCondition_29 (X : CxG g p s m args c cX3_readsCondition 1 RX3 wsX3_readsCondition) (hAll : okAll g) {M : Mem} {rr : Int32} {MM : Mem} (hr : meth.sig.returnType = (some .boolean)) (hlocks : meth.locks = false) (hm : j_X3_readsCondition_29 M = some (rr, MM)) {H : Heap} {locs : List Loc} {ls : Array Slot} (hP : va_P (gD g) vwCl (wlG g M) H) (hS : va_S (AbG g) s.heap H locs) (hl : lv_has ls 1 [(0, .ref (ga g 111))]) : W p l e (headSpec wsX3_readsCondition rmX3_readsCondition).room s m args below meth c H locs 0 0 (MQ below (va_Qi (fun (q : Int32) (_ : Unit) => q = rr) (fun _ t => va_P (gD g) vwCl (wlG g MM) t.heap) (AbG g)) args s 0 0 (AbG g)) (F0 m 29 ls []) := by
  obtain ⟨⟨hx, hb, hml, hown, hts⟩, -, -⟩ := id X
  unfold j_X3_readsCondition_29 at hm
  refine lv_aload_n hx hb dX3_readsCondition_29 rfl (lv_at hl 0 rfl) ?_
  refine xg_X3_16 X hP hAll uX3_readsCondition_X3 mbX3_readsCondition_2 dX3_readsCondition_30 ?_
  refine lv_bipush (v := 8) hx hb dX3_readsCondition_33 (by decide) ?_
  refine lv_icmp_lt (tgt := 44) hx hb dX3_readsCondition_35 (by decide) (fun h_2 => ?_) (fun h_2 => ?_)
  · rw [if_pos h_2] at hm
    refine lv_aload_n hx hb dX3_readsCondition_44 rfl (lv_at hl 0 rfl) ?_
    refine lv_dup hx hb dX3_readsCondition_45 rfl ?_
    refine xg_X3_16 X hP hAll uX3_readsCondition_X3 mbX3_readsCondition_2 dX3_readsCondition_46 ?_
    refine lv_iconst (v := 1) hx hb dX3_readsCondition_49 (by decide) ?_
    refine lv_iadd hx hb dX3_readsCondition_50 ?_
    obtain ⟨M_3, hM_4, hm⟩ := bnd_elim hm
    refine xp_X3_16 X hP hAll uX3_readsCondition_X3 mbX3_readsCondition_2 hS hM_4 dX3_readsCondition_51 (fun H locs hP hS => ?_)
    refine lv_aload_n hx hb dX3_readsCondition_54 rfl (lv_at hl 0 rfl) ?_
    refine lv_iconst (v := 3) hx hb dX3_readsCondition_55 (by decide) ?_
    obtain ⟨⟨r_6, M_7⟩, hc_5, hm⟩ := bind_elim hm
    replace hm := un2_e hm
    refine x_calli (x_runV (As := [.int 3]) (rest := []) X hP hS (c_X3_putSign l X.2.2 hAll hc_5) (cwV 1 hts gX3_readsCondition_X3_putSign rfl rfl rfl (by decide +kernel) ⟨Nat.le_of_ble_eq_true rfl, Nat.le_of_ble_eq_true rfl⟩) (x_recv (C := RX3) (T := TX3) (N := 17) X hP (okc_111 hAll) rfl) rfl hl.1 rfl (Nat.le_of_ble_eq_true rfl) dX3_readsCondition_56 ⟨Nat.zero_le _, Nat.zero_le _⟩) hS (fun H locs hP hS => ?_)
    obtain ⟨hz_8, hm⟩ := chk_elim hm
    cases hm
    exact x_zret X (isB_or hz_8) hP hS hr hlocks dX3_readsCondition_59
  · rw [if_neg h_2] at hm
    refine lv_aload_n hx hb dX3_readsCondition_38 rfl (lv_at hl 0 rfl) ?_
    refine lv_iconst (v := 3) hx hb dX3_readsCondition_39 (by decide) ?_
    obtain ⟨⟨r_10, M_11⟩, hc_9, hm⟩ := bind_elim hm
    replace hm := un2_e hm
    refine x_calli (x_runV (As := [.int 3]) (rest := []) X hP hS (c_X3_refuse l X.2.2 hAll hc_9) (cwV 1 hts gX3_readsCondition_X3_refuse rfl rfl rfl (by decide +kernel) ⟨Nat.le_of_ble_eq_true rfl, Nat.le_of_ble_eq_true rfl⟩) (x_recv (C := RX3) (T := TX3) (N := 17) X hP (okc_111 hAll) rfl) rfl hl.1 rfl (Nat.le_of_ble_eq_true rfl) dX3_readsCondition_40 ⟨Nat.zero_le _, Nat.zero_le _⟩) hS (fun H locs hP hS => ?_)
    obtain ⟨hz_12, hm⟩ := chk_elim hm
    cases hm
    exact x_zret X (isB_or hz_12) hP hS hr hlocks dX3_readsCondition_43

set_option maxHeartbeats 4000000 in
set_option maxRecDepth 100000 in
theorem c_X3_readsCondition (l : Launch) {g : GT} (hA : AxG g) (hAll : okAll g)   {M : Mem} {rr : Int32} {MM : Mem} (hm : m_X3_readsCondition M = some (rr, MM)) : CI l yX3_readsCondition wsX3_readsCondition rmX3_readsCondition g [.ref (ga g 111)] M rr MM := by
  refine Met.ofW (cc := cX3_readsCondition) (maxL := 1) (ret := (some .boolean)) (by decide) rfl ?_
  intro p e s m args below meth c s₁ B hml hv
  obtain ⟨rfl, hSx, hP⟩ := hv
  have hr := B.returns
  have hlocks := B.notSynchronized
  have X : CxG g p s m _ c cX3_readsCondition 1 RX3 wsX3_readsCondition := ⟨⟨B.exec, B.bytes, hml, findClass_of_methodNamed B.named, atoms_spec (ws := wsX3_readsCondition) B.pre⟩, hSx, hA⟩
  have hS : va_S (AbG g) s.heap s.heap [] := va_S.rf
  have hl := lv_entry (([.ref (ga g 111)] : List Value)) (n := 1) (Nat.le_of_ble_eq_true rfl)
  rw [lg_entry_eq]
  generalize (lg_sl (([.ref (ga g 111)] : List Value)) ++ List.replicate (1 - (lg_sl (([.ref (ga g 111)] : List Value))).length) Slot.unset).toArray = ls at hl ⊢
  have hl : lv_has ls 1 [(0, .ref (ga g 111))] := hl
  obtain ⟨⟨hx, hb, hml, hown, hts⟩, -, -⟩ := id X
  unfold m_X3_readsCondition at hm
  refine lv_aload_n hx hb dX3_readsCondition_0 rfl (lv_at hl 0 rfl) ?_
  refine xg_X3_9 X hP hAll uX3_readsCondition_X3 mbX3_readsCondition_1 dX3_readsCondition_1 ?_
  refine lv_sipush (v := 204) hx hb dX3_readsCondition_4 (by decide) ?_
  refine lv_icmp_eq (tgt := 29) hx hb dX3_readsCondition_7 (by decide) (fun h_1 => ?_) (fun h_1 => ?_)
  · rw [if_pos h_1] at hm
    exact wj_X3_readsCondition_29 X hAll hr hlocks hm hP hS (lv_sub hl [0] rfl)
  · rw [if_neg h_1] at hm
    refine lv_aload_n hx hb dX3_readsCondition_10 rfl (lv_at hl 0 rfl) ?_
    refine xg_X3_9 X hP hAll uX3_readsCondition_X3 mbX3_readsCondition_1 dX3_readsCondition_11 ?_
    refine lv_bipush (v := 40) hx hb dX3_readsCondition_14 (by decide) ?_
    refine lv_icmp_eq (tgt := 29) hx hb dX3_readsCondition_16 (by decide) (fun h_13 => ?_) (fun h_13 => ?_)
    · rw [if_pos h_13] at hm
      exact wj_X3_readsCondition_29 X hAll hr hlocks hm hP hS (lv_sub hl [0] rfl)
    · rw [if_neg h_13] at hm
      refine lv_aload_n hx hb dX3_readsCondition_19 rfl (lv_at hl 0 rfl) ?_
      refine lv_iconst (v := 0) hx hb dX3_readsCondition_20 (by decide) ?_
      obtain ⟨M_14, hM_15, hm⟩ := bnd_elim hm
      refine xp_X3_13 X hP hAll uX3_readsCondition_X3 mbX3_readsCondition_3 hS hM_15 (by decide) dX3_readsCondition_21 (fun H locs hP hS => ?_)
      refine lv_aload_n hx hb dX3_readsCondition_24 rfl (lv_at hl 0 rfl) ?_
      obtain ⟨⟨r_17, M_18⟩, hc_16, hm⟩ := bind_elim hm
      replace hm := un2_e hm
      refine x_calli (x_runV (As := []) (rest := []) X hP hS (c_X3_readsUnit l X.2.2 hAll hc_16) (cwV 0 hts gX3_readsCondition_X3_readsUnit rfl rfl rfl (by decide +kernel) ⟨Nat.le_of_ble_eq_true rfl, Nat.le_of_ble_eq_true rfl⟩) (x_recv (C := RX3) (T := TX3) (N := 17) X hP (okc_111 hAll) rfl) rfl hl.1 rfl (Nat.le_of_ble_eq_true rfl) dX3_readsCondition_25 ⟨Nat.zero_le _, Nat.zero_le _⟩) hS (fun H locs hP hS => ?_)
      obtain ⟨hz_19, hm⟩ := chk_elim hm
      cases hm
      exact x_zret X (isB_or hz_19) hP hS hr hlocks dX3_readsCondition_28


/-! X3_readsPart -/
def rmX3_readsPart : Room := { frames := 2, cells := 0, slots := 0, locals := 41 }
theorem uX3_readsPart_X3 : ∀ w ∈ wsX30, w ∈ wsX3_readsPart := by decide +kernel
theorem mbX3_readsPart_1 : Cond.fieldLink RX3 40 "FootANight$Reader" "kind" "I" ∈ wsX3_readsPart := by decide +kernel
theorem mbX3_readsPart_2 : Cond.fieldLink RX3 43 "FootANight$Reader" "number" "I" ∈ wsX3_readsPart := by decide +kernel
set_option maxHeartbeats 4000000 in
set_option maxRecDepth 100000 in
theorem c_X3_readsPart (l : Launch) {g : GT} (hA : AxG g) (hAll : okAll g)   {M : Mem} {rr : Int32} {MM : Mem} (hm : m_X3_readsPart M = some (rr, MM)) : CI l yX3_readsPart wsX3_readsPart rmX3_readsPart g [.ref (ga g 111)] M rr MM := by
  refine Met.ofW (cc := cX3_readsPart) (maxL := 1) (ret := (some .boolean)) (by decide) rfl ?_
  intro p e s m args below meth c s₁ B hml hv
  obtain ⟨rfl, hSx, hP⟩ := hv
  have hr := B.returns
  have hlocks := B.notSynchronized
  have X : CxG g p s m _ c cX3_readsPart 1 RX3 wsX3_readsPart := ⟨⟨B.exec, B.bytes, hml, findClass_of_methodNamed B.named, atoms_spec (ws := wsX3_readsPart) B.pre⟩, hSx, hA⟩
  have hS : va_S (AbG g) s.heap s.heap [] := va_S.rf
  have hl := lv_entry (([.ref (ga g 111)] : List Value)) (n := 1) (Nat.le_of_ble_eq_true rfl)
  rw [lg_entry_eq]
  generalize (lg_sl (([.ref (ga g 111)] : List Value)) ++ List.replicate (1 - (lg_sl (([.ref (ga g 111)] : List Value))).length) Slot.unset).toArray = ls at hl ⊢
  have hl : lv_has ls 1 [(0, .ref (ga g 111))] := hl
  obtain ⟨⟨hx, hb, hml, hown, hts⟩, -, -⟩ := id X
  unfold m_X3_readsPart at hm
  refine lv_aload_n hx hb dX3_readsPart_0 rfl (lv_at hl 0 rfl) ?_
  refine xg_X3_9 X hP hAll uX3_readsPart_X3 mbX3_readsPart_1 dX3_readsPart_1 ?_
  refine lv_iconst (v := 1) hx hb dX3_readsPart_4 (by decide) ?_
  refine lv_icmp_eq (tgt := 14) hx hb dX3_readsPart_5 (by decide) (fun h_1 => ?_) (fun h_1 => ?_)
  · rw [if_pos h_1] at hm
    refine lv_aload_n hx hb dX3_readsPart_14 rfl (lv_at hl 0 rfl) ?_
    refine xg_X3_10 X hP hAll uX3_readsPart_X3 mbX3_readsPart_2 dX3_readsPart_15 ?_
    refine lv_if_ne (tgt := 29) hx hb dX3_readsPart_18 (by decide) (fun h_2 => ?_) (fun h_2 => ?_)
    · rw [if_neg h_2] at hm
      refine lv_aload_n hx hb dX3_readsPart_29 rfl (lv_at hl 0 rfl) ?_
      obtain ⟨⟨r_4, M_5⟩, hc_3, hm⟩ := bind_elim hm
      replace hm := un2_e hm
      refine x_calli (x_runV (As := []) (rest := []) X hP hS (c_X3_readsUnit l X.2.2 hAll hc_3) (cwV 0 hts gX3_readsPart_X3_readsUnit rfl rfl rfl (by decide +kernel) ⟨Nat.le_of_ble_eq_true rfl, Nat.le_of_ble_eq_true rfl⟩) (x_recv (C := RX3) (T := TX3) (N := 17) X hP (okc_111 hAll) rfl) rfl hl.1 rfl (Nat.le_of_ble_eq_true rfl) dX3_readsPart_30 ⟨Nat.zero_le _, Nat.zero_le _⟩) hS (fun H locs hP hS => ?_)
      obtain ⟨hz_6, hm⟩ := chk_elim hm
      cases hm
      exact x_zret X (isB_or hz_6) hP hS hr hlocks dX3_readsPart_33
    · rw [if_pos h_2] at hm
      refine lv_aload_n hx hb dX3_readsPart_21 rfl (lv_at hl 0 rfl) ?_
      refine lv_iconst (v := 2) hx hb dX3_readsPart_22 (by decide) ?_
      obtain ⟨⟨r_8, M_9⟩, hc_7, hm⟩ := bind_elim hm
      replace hm := un2_e hm
      refine x_calli (x_runV (As := [.int 2]) (rest := []) X hP hS (c_X3_refuse l X.2.2 hAll hc_7) (cwV 1 hts gX3_readsPart_X3_refuse rfl rfl rfl (by decide +kernel) ⟨Nat.le_of_ble_eq_true rfl, Nat.le_of_ble_eq_true rfl⟩) (x_recv (C := RX3) (T := TX3) (N := 17) X hP (okc_111 hAll) rfl) rfl hl.1 rfl (Nat.le_of_ble_eq_true rfl) dX3_readsPart_23 ⟨Nat.zero_le _, Nat.zero_le _⟩) hS (fun H locs hP hS => ?_)
      refine lv_goto (tgt := 33) hx hb dX3_readsPart_26 (by decide) ?_
      obtain ⟨hz_10, hm⟩ := chk_elim hm
      cases hm
      exact x_zret X (isB_or hz_10) hP hS hr hlocks dX3_readsPart_33
  · rw [if_neg h_1] at hm
    refine lv_aload_n hx hb dX3_readsPart_8 rfl (lv_at hl 0 rfl) ?_
    refine lv_iconst (v := 1) hx hb dX3_readsPart_9 (by decide) ?_
    obtain ⟨⟨r_12, M_13⟩, hc_11, hm⟩ := bind_elim hm
    replace hm := un2_e hm
    refine x_calli (x_runV (As := [.int 1]) (rest := []) X hP hS (c_X3_refuse l X.2.2 hAll hc_11) (cwV 1 hts gX3_readsPart_X3_refuse rfl rfl rfl (by decide +kernel) ⟨Nat.le_of_ble_eq_true rfl, Nat.le_of_ble_eq_true rfl⟩) (x_recv (C := RX3) (T := TX3) (N := 17) X hP (okc_111 hAll) rfl) rfl hl.1 rfl (Nat.le_of_ble_eq_true rfl) dX3_readsPart_10 ⟨Nat.zero_le _, Nat.zero_le _⟩) hS (fun H locs hP hS => ?_)
    obtain ⟨hz_14, hm⟩ := chk_elim hm
    cases hm
    exact x_zret X (isB_or hz_14) hP hS hr hlocks dX3_readsPart_13


/-! X3_rankOf -/
def rmX3_rankOf : Room := { frames := 0, cells := 0, slots := 0, locals := 0 }

set_option maxHeartbeats 4000000 in
set_option maxRecDepth 100000 in
theorem c_X3_rankOf (l : Launch) {g : GT} (hA : AxG g)   {M : Mem} {a0 : Int32} {rr : Int32} (hm : m_X3_rankOf M a0 = some rr) : CI l yX3_rankOf wsX3_rankOf rmX3_rankOf g [.int a0] M rr M := by
  refine Met.ofW (cc := cX3_rankOf) (maxL := 1) (ret := (some .int)) (by decide) rfl ?_
  intro p e s m args below meth c s₁ B hml hv
  obtain ⟨rfl, hSx, hP⟩ := hv
  have hr := B.returns
  have hlocks := B.notSynchronized
  have X : CxG g p s m _ c cX3_rankOf 1 RX3 wsX3_rankOf := ⟨⟨B.exec, B.bytes, hml, findClass_of_methodNamed B.named, atoms_spec (ws := wsX3_rankOf) B.pre⟩, hSx, hA⟩
  have hS : va_S (AbG g) s.heap s.heap [] := va_S.rf
  have hl := lv_entry (([.int a0] : List Value)) (n := 1) (Nat.le_of_ble_eq_true rfl)
  rw [lg_entry_eq]
  generalize (lg_sl (([.int a0] : List Value)) ++ List.replicate (1 - (lg_sl (([.int a0] : List Value))).length) Slot.unset).toArray = ls at hl ⊢
  have hl : lv_has ls 1 [(0, .int a0)] := hl
  obtain ⟨⟨hx, hb, hml, hown, hts⟩, -, -⟩ := id X
  unfold m_X3_rankOf at hm
  refine lv_iload_n hx hb dX3_rankOf_0 rfl (lv_at hl 0 rfl) ?_
  by_cases h_1 : a0 = 42
  · rw [if_pos h_1] at hm
    refine lv_lookup (off := 101) (tgt := 102) hx hb dX3_rankOf_1 (by decide) (by rw [h_1]; decide) (by decide) ?_
    refine lv_bipush (v := 6) hx hb dX3_rankOf_102 (by decide) ?_
    cases hm
    exact x_iret X hP hS hr hlocks dX3_rankOf_104
  rw [if_neg h_1] at hm
  by_cases h_2 : a0 = 43
  · rw [if_pos h_2] at hm
    refine lv_lookup (off := 99) (tgt := 100) hx hb dX3_rankOf_1 (by decide) (by rw [h_2]; decide) (by decide) ?_
    refine lv_iconst (v := 5) hx hb dX3_rankOf_100 (by decide) ?_
    cases hm
    exact x_iret X hP hS hr hlocks dX3_rankOf_101
  rw [if_neg h_2] at hm
  by_cases h_3 : a0 = 45
  · rw [if_pos h_3] at hm
    refine lv_lookup (off := 99) (tgt := 100) hx hb dX3_rankOf_1 (by decide) (by rw [h_3]; decide) (by decide) ?_
    refine lv_iconst (v := 5) hx hb dX3_rankOf_100 (by decide) ?_
    cases hm
    exact x_iret X hP hS hr hlocks dX3_rankOf_101
  rw [if_neg h_3] at hm
  by_cases h_4 : a0 = 47
  · rw [if_pos h_4] at hm
    refine lv_lookup (off := 101) (tgt := 102) hx hb dX3_rankOf_1 (by decide) (by rw [h_4]; decide) (by decide) ?_
    refine lv_bipush (v := 6) hx hb dX3_rankOf_102 (by decide) ?_
    cases hm
    exact x_iret X hP hS hr hlocks dX3_rankOf_104
  rw [if_neg h_4] at hm
  by_cases h_5 : a0 = 60
  · rw [if_pos h_5] at hm
    refine lv_lookup (off := 97) (tgt := 98) hx hb dX3_rankOf_1 (by decide) (by rw [h_5]; decide) (by decide) ?_
    refine lv_iconst (v := 4) hx hb dX3_rankOf_98 (by decide) ?_
    cases hm
    exact x_iret X hP hS hr hlocks dX3_rankOf_99
  rw [if_neg h_5] at hm
  by_cases h_6 : a0 = 61
  · rw [if_pos h_6] at hm
    refine lv_lookup (off := 97) (tgt := 98) hx hb dX3_rankOf_1 (by decide) (by rw [h_6]; decide) (by decide) ?_
    refine lv_iconst (v := 4) hx hb dX3_rankOf_98 (by decide) ?_
    cases hm
    exact x_iret X hP hS hr hlocks dX3_rankOf_99
  rw [if_neg h_6] at hm
  by_cases h_7 : a0 = 62
  · rw [if_pos h_7] at hm
    refine lv_lookup (off := 97) (tgt := 98) hx hb dX3_rankOf_1 (by decide) (by rw [h_7]; decide) (by decide) ?_
    refine lv_iconst (v := 4) hx hb dX3_rankOf_98 (by decide) ?_
    cases hm
    exact x_iret X hP hS hr hlocks dX3_rankOf_99
  rw [if_neg h_7] at hm
  by_cases h_8 : a0 = 202
  · rw [if_pos h_8] at hm
    refine lv_lookup (off := 91) (tgt := 92) hx hb dX3_rankOf_1 (by decide) (by rw [h_8]; decide) (by decide) ?_
    refine lv_iconst (v := 1) hx hb dX3_rankOf_92 (by decide) ?_
    cases hm
    exact x_iret X hP hS hr hlocks dX3_rankOf_93
  rw [if_neg h_8] at hm
  by_cases h_9 : a0 = 203
  · rw [if_pos h_9] at hm
    refine lv_lookup (off := 93) (tgt := 94) hx hb dX3_rankOf_1 (by decide) (by rw [h_9]; decide) (by decide) ?_
    refine lv_iconst (v := 2) hx hb dX3_rankOf_94 (by decide) ?_
    cases hm
    exact x_iret X hP hS hr hlocks dX3_rankOf_95
  rw [if_neg h_9] at hm
  by_cases h_10 : a0 = 204
  · rw [if_pos h_10] at hm
    refine lv_lookup (off := 95) (tgt := 96) hx hb dX3_rankOf_1 (by decide) (by rw [h_10]; decide) (by decide) ?_
    refine lv_iconst (v := 3) hx hb dX3_rankOf_96 (by decide) ?_
    cases hm
    exact x_iret X hP hS hr hlocks dX3_rankOf_97
  rw [if_neg h_10] at hm
  refine lv_lookup (off := 104) (tgt := 105) hx hb dX3_rankOf_1 (by decide) ((lv_osw h_1 (by decide)).trans ((lv_osw h_2 (by decide)).trans ((lv_osw h_3 (by decide)).trans ((lv_osw h_4 (by decide)).trans ((lv_osw h_5 (by decide)).trans ((lv_osw h_6 (by decide)).trans ((lv_osw h_7 (by decide)).trans ((lv_osw h_8 (by decide)).trans ((lv_osw h_9 (by decide)).trans ((lv_osw h_10 (by decide)).trans rfl)))))))))) (by decide) ?_
  refine lv_iconst (v := 0) hx hb dX3_rankOf_105 (by decide) ?_
  cases hm
  exact x_iret X hP hS hr hlocks dX3_rankOf_106


/-! X3_settleSigns -/
def rmX3_settleSigns : Room := { frames := 1, cells := 0, slots := 0, locals := 21 }
theorem uX3_settleSigns_X3 : ∀ w ∈ wsX30, w ∈ wsX3_settleSigns := by decide +kernel
theorem mbX3_settleSigns_1 : Cond.fieldLink RX3 59 "FootANight$Reader" "waiting" "I" ∈ wsX3_settleSigns := by decide +kernel
theorem mbX3_settleSigns_2 : Cond.fieldLink RX3 56 "FootANight$Reader" "signs" "[I" ∈ wsX3_settleSigns := by decide +kernel
theorem mbX3_settleSigns_3 : Cond.fieldLink RX3 62 "FootANight$Reader" "open" "I" ∈ wsX3_settleSigns := by decide +kernel
set_option maxHeartbeats 4000000 in
set_option maxRecDepth 100000 in
theorem wl_X3_settleSigns_0 (X : CxG g p s m args c cX3_settleSigns 2 RX3 wsX3_settleSigns) (hAll : okAll g) {fu : Nat} {s1 : Int32} {x : Mem} (kx0 : ∀ (M2 : Mem) , x = M2 → ∀ (H : Heap) (locs : List Loc) (ls : Array Slot), va_P (gD g) vwCl (wlG g M2) H → va_S (AbG g) s.heap H locs → lv_has ls 2 [] → W p l e (headSpec wsX3_settleSigns rmX3_settleSigns).room s m args below meth c H locs 0 0 Q (F0 m 80 ls [])) {n : Nat} {q0 : Mem} (h : lp (b_X3_settleSigns_0 fu s1) n q0 = some x) : ∀ (H : Heap) (locs : List Loc) (ls : Array Slot), va_P (gD g) vwCl (wlG g q0) H → va_S (AbG g) s.heap H locs → lv_has ls 2 [(0, .ref (ga g 111)), (1, .int s1)] → W p l e (headSpec wsX3_settleSigns rmX3_settleSigns).room s m args below meth c H locs 0 0 Q (F0 m 0 ls []) := by
  refine lp_elim (P := fun q0 : Mem => ∀ (H : Heap) (locs : List Loc) (ls : Array Slot), va_P (gD g) vwCl (wlG g q0) H → va_S (AbG g) s.heap H locs → lv_has ls 2 [(0, .ref (ga g 111)), (1, .int s1)] → W p l e (headSpec wsX3_settleSigns rmX3_settleSigns).room s m args below meth c H locs 0 0 Q (F0 m 0 ls [])) (fun q1 o hm hI hX => ?_) n q0 h
  obtain ⟨M, rfl⟩ : ∃ z, z = q1 := ⟨_, rfl⟩
  have kb : ∀ (M2 : Mem) , o = .inl M2 → ∀ (H : Heap) (locs : List Loc) (ls : Array Slot), va_P (gD g) vwCl (wlG g M2) H → va_S (AbG g) s.heap H locs → lv_has ls 2 [(0, .ref (ga g 111)), (1, .int s1)] → W p l e (headSpec wsX3_settleSigns rmX3_settleSigns).room s m args below meth c H locs 0 0 Q (F0 m 0 ls []) := fun M2 e => hI _ e
  have kx0 : ∀ (M2 : Mem) , o = .inr M2 → ∀ (H : Heap) (locs : List Loc) (ls : Array Slot), va_P (gD g) vwCl (wlG g M2) H → va_S (AbG g) s.heap H locs → lv_has ls 2 [] → W p l e (headSpec wsX3_settleSigns rmX3_settleSigns).room s m args below meth c H locs 0 0 Q (F0 m 80 ls []) := fun M2 e => kx0 M2 (hX _ e).symm
  clear hI hX
  intro H locs ls hP hS hl
  obtain ⟨⟨hx, hb, hml, hown, hts⟩, -, -⟩ := id X
  have hl : lv_has ls 2 [(0, .ref (ga g 111)), (1, .int s1)] := hl
  have hP : va_P (gD g) vwCl (wlG g M) H := hP
  unfold b_X3_settleSigns_0 at hm
  replace hm := un1_e hm
  refine lv_aload_n hx hb dX3_settleSigns_0 rfl (lv_at hl 0 rfl) ?_
  refine xg_X3_15 X hP hAll uX3_settleSigns_X3 mbX3_settleSigns_1 dX3_settleSigns_1 ?_
  refine lv_if_le (tgt := 80) hx hb dX3_settleSigns_4 (by decide) (fun h_1 => ?_) (fun h_1 => ?_)
  · rw [if_pos h_1] at hm
    exact kx0 M (Option.some.inj hm).symm _ _ _ hP hS (lv_sub hl [] rfl)
  · rw [if_neg h_1] at hm
    refine lv_aload_n hx hb dX3_settleSigns_7 rfl (lv_at hl 0 rfl) ?_
    refine xg_X3_14 X hP hAll uX3_settleSigns_X3 mbX3_settleSigns_2 dX3_settleSigns_8 ?_
    refine lv_aload_n hx hb dX3_settleSigns_11 rfl (lv_at hl 0 rfl) ?_
    refine xg_X3_15 X hP hAll uX3_settleSigns_X3 mbX3_settleSigns_1 dX3_settleSigns_12 ?_
    refine lv_iconst (v := 1) hx hb dX3_settleSigns_15 (by decide) ?_
    refine lv_isub hx hb dX3_settleSigns_16 ?_
    obtain ⟨hb_2, hm⟩ := chk_elim hm
    refine x_iald X hP (okc_114 hAll) hb_2 dX3_settleSigns_17 ?_
    obtain ⟨r_4, hc_3, hm⟩ := bind_elim hm
    refine x_calli (x_runS (As := [.int (rd M 114 (ix ((rd M 111 15) - 1)))]) (rest := []) X hP hS (c_X3_rankOf l X.2.2 hc_3) (va_cwS 1 hts gX3_settleSigns_X3_rankOf rfl rfl rfl (by decide +kernel) ⟨Nat.le_of_ble_eq_true rfl, Nat.le_of_ble_eq_true rfl⟩) rfl hl.1 rfl (Nat.le_of_ble_eq_true rfl) dX3_settleSigns_18 ⟨Nat.zero_le _, Nat.zero_le _⟩) hS (fun H locs hP hS => ?_)
    refine lv_iload_n hx hb dX3_settleSigns_21 rfl (lv_at hl 1 rfl) ?_
    refine lv_icmp_lt (tgt := 80) hx hb dX3_settleSigns_22 (by decide) (fun h_5 => ?_) (fun h_5 => ?_)
    · rw [if_pos h_5] at hm
      exact kx0 M (Option.some.inj hm).symm _ _ _ hP hS (lv_sub hl [] rfl)
    · rw [if_neg h_5] at hm
      refine lv_aload_n hx hb dX3_settleSigns_25 rfl (lv_at hl 0 rfl) ?_
      refine lv_dup hx hb dX3_settleSigns_26 rfl ?_
      refine xg_X3_15 X hP hAll uX3_settleSigns_X3 mbX3_settleSigns_1 dX3_settleSigns_27 ?_
      refine lv_iconst (v := 1) hx hb dX3_settleSigns_30 (by decide) ?_
      refine lv_isub hx hb dX3_settleSigns_31 ?_
      obtain ⟨M_6, hM_7, hm⟩ := bnd_elim hm
      refine xp_X3_15 X hP hAll uX3_settleSigns_X3 mbX3_settleSigns_1 hS hM_7 dX3_settleSigns_32 (fun H locs hP hS => ?_)
      refine lv_aload_n hx hb dX3_settleSigns_35 rfl (lv_at hl 0 rfl) ?_
      refine lv_sipush (v := 10100) hx hb dX3_settleSigns_36 (by decide) ?_
      refine lv_aload_n hx hb dX3_settleSigns_39 rfl (lv_at hl 0 rfl) ?_
      refine xg_X3_14 X hP hAll uX3_settleSigns_X3 mbX3_settleSigns_2 dX3_settleSigns_40 ?_
      refine lv_aload_n hx hb dX3_settleSigns_43 rfl (lv_at hl 0 rfl) ?_
      refine xg_X3_15 X hP hAll uX3_settleSigns_X3 mbX3_settleSigns_1 dX3_settleSigns_44 ?_
      obtain ⟨hb_8, hm⟩ := chk_elim hm
      refine x_iald X hP (okc_114 hAll) hb_8 dX3_settleSigns_47 ?_
      refine lv_iadd hx hb dX3_settleSigns_48 ?_
      obtain ⟨M_10, hc_9, hm⟩ := bind_elim hm
      refine x_callv (x_runV (As := [.int (10100 + (rd M_6 114 (ix (rd M_6 111 15))))]) (rest := []) X hP hS (c_X3_emit l X.2.2 hAll hc_9) (cwV 1 hts gX3_settleSigns_X3_emit rfl rfl rfl (by decide +kernel) ⟨Nat.le_of_ble_eq_true rfl, Nat.le_of_ble_eq_true rfl⟩) (x_recv (C := RX3) (T := TX3) (N := 17) X hP (okc_111 hAll) rfl) rfl hl.1 rfl (Nat.le_of_ble_eq_true rfl) dX3_settleSigns_49 ⟨Nat.zero_le _, Nat.zero_le _⟩) hS (fun H locs hP hS => ?_)
      refine lv_aload_n hx hb dX3_settleSigns_52 rfl (lv_at hl 0 rfl) ?_
      refine xg_X3_14 X hP hAll uX3_settleSigns_X3 mbX3_settleSigns_2 dX3_settleSigns_53 ?_
      refine lv_aload_n hx hb dX3_settleSigns_56 rfl (lv_at hl 0 rfl) ?_
      refine xg_X3_15 X hP hAll uX3_settleSigns_X3 mbX3_settleSigns_1 dX3_settleSigns_57 ?_
      obtain ⟨hb_11, hm⟩ := chk_elim hm
      refine x_iald X hP (okc_114 hAll) hb_11 dX3_settleSigns_60 ?_
      refine lv_sipush (v := 204) hx hb dX3_settleSigns_61 (by decide) ?_
      refine lv_icmp_ne (tgt := 0) hx hb dX3_settleSigns_64 (by decide) (fun h_12 => ?_) (fun h_12 => ?_)
      · rw [if_neg h_12] at hm
        exact kb M_10 (Option.some.inj hm).symm _ _ _ hP hS (lv_sub hl [0, 1] rfl)
      · rw [if_pos h_12] at hm
        refine lv_aload_n hx hb dX3_settleSigns_67 rfl (lv_at hl 0 rfl) ?_
        refine lv_dup hx hb dX3_settleSigns_68 rfl ?_
        refine xg_X3_16 X hP hAll uX3_settleSigns_X3 mbX3_settleSigns_3 dX3_settleSigns_69 ?_
        refine lv_iconst (v := 1) hx hb dX3_settleSigns_72 (by decide) ?_
        refine lv_isub hx hb dX3_settleSigns_73 ?_
        obtain ⟨M_13, hM_14, hm⟩ := bnd_elim hm
        refine xp_X3_16 X hP hAll uX3_settleSigns_X3 mbX3_settleSigns_3 hS hM_14 dX3_settleSigns_74 (fun H locs hP hS => ?_)
        refine lv_goto (tgt := 0) hx hb dX3_settleSigns_77 (by decide) ?_
        exact kb M_13 (Option.some.inj hm).symm _ _ _ hP hS (lv_sub hl [0, 1] rfl)

set_option maxHeartbeats 4000000 in
set_option maxRecDepth 100000 in
theorem c_X3_settleSigns (l : Launch) {g : GT} (hA : AxG g) (hAll : okAll g)   {fu : Nat} {M : Mem} {a1 : Int32} {MM : Mem} (hm : m_X3_settleSigns fu M a1 = some MM) : CV l yX3_settleSigns wsX3_settleSigns rmX3_settleSigns g [.ref (ga g 111), .int a1] M MM := by
  refine Met.ofW (cc := cX3_settleSigns) (maxL := 2) (ret := none) (by decide) rfl ?_
  intro p e s m args below meth c s₁ B hml hv
  obtain ⟨rfl, hSx, hP⟩ := hv
  have hr := B.returns
  have hlocks := B.notSynchronized
  have X : CxG g p s m _ c cX3_settleSigns 2 RX3 wsX3_settleSigns := ⟨⟨B.exec, B.bytes, hml, findClass_of_methodNamed B.named, atoms_spec (ws := wsX3_settleSigns) B.pre⟩, hSx, hA⟩
  have hS : va_S (AbG g) s.heap s.heap [] := va_S.rf
  have hl := lv_entry (([.ref (ga g 111), .int a1] : List Value)) (n := 2) (Nat.le_of_ble_eq_true rfl)
  rw [lg_entry_eq]
  generalize (lg_sl (([.ref (ga g 111), .int a1] : List Value)) ++ List.replicate (2 - (lg_sl (([.ref (ga g 111), .int a1] : List Value))).length) Slot.unset).toArray = ls at hl ⊢
  have hl : lv_has ls 2 [(0, .ref (ga g 111)), (1, .int a1)] := hl
  obtain ⟨⟨hx, hb, hml, hown, hts⟩, -, -⟩ := id X
  unfold m_X3_settleSigns at hm
  obtain ⟨M_17, hL_16, hm⟩ := bind_elim hm
  refine wl_X3_settleSigns_0 X hAll ?_ hL_16 _ _ _ hP hS (lv_sub hl [0, 1] rfl)
  · intro z_M_17 e_M_17 H locs ls hP hS hl
    subst e_M_17
    replace hm := un1_e hm
    cases hm
    exact x_vret X hP hS hr hlocks dX3_settleSigns_80


/-! X3_readsBehindCondition -/
def rmX3_readsBehindCondition : Room := { frames := 2, cells := 0, slots := 0, locals := 42 }
theorem uX3_readsBehindCondition_X3 : ∀ w ∈ wsX30, w ∈ wsX3_readsBehindCondition := by decide +kernel
theorem mbX3_readsBehindCondition_1 : Cond.fieldLink RX3 40 "FootANight$Reader" "kind" "I" ∈ wsX3_readsBehindCondition := by decide +kernel
theorem mbX3_readsBehindCondition_2 : Cond.fieldLink RX3 59 "FootANight$Reader" "waiting" "I" ∈ wsX3_readsBehindCondition := by decide +kernel
theorem mbX3_readsBehindCondition_3 : Cond.fieldLink RX3 49 "FootANight$Reader" "doing" "I" ∈ wsX3_readsBehindCondition := by decide +kernel
theorem mbX3_readsBehindCondition_4 : Cond.fieldLink RX3 62 "FootANight$Reader" "open" "I" ∈ wsX3_readsBehindCondition := by decide +kernel
set_option maxHeartbeats 4000000 in
set_option maxRecDepth 100000 in
theorem wj_X3_readsBehindCondition_20 (X : CxG g p s m args c cX3_readsBehindCondition 3 RX3 wsX3_readsBehindCondition) (hAll : okAll g) {fu : Nat} {M : Mem} {rr : Int32} {MM : Mem} (hr : meth.sig.returnType = (some .boolean)) (hlocks : meth.locks = false) (hm : j_X3_readsBehindCondition_20 fu M = some (rr, MM)) {H : Heap} {locs : List Loc} {ls : Array Slot} (hP : va_P (gD g) vwCl (wlG g M) H) (hS : va_S (AbG g) s.heap H locs) (hl : lv_has ls 3 [(0, .ref (ga g 111))]) : W p l e (headSpec wsX3_readsBehindCondition rmX3_readsBehindCondition).room s m args below meth c H locs 0 0 (MQ below (va_Qi (fun (q : Int32) (_ : Unit) => q = rr) (fun _ t => va_P (gD g) vwCl (wlG g MM) t.heap) (AbG g)) args s 0 0 (AbG g)) (F0 m 20 ls []) := by
  obtain ⟨⟨hx, hb, hml, hown, hts⟩, -, -⟩ := id X
  unfold j_X3_readsBehindCondition_20 at hm
  refine lv_aload_n hx hb dX3_readsBehindCondition_20 rfl (lv_at hl 0 rfl) ?_
  refine lv_aload_n hx hb dX3_readsBehindCondition_21 rfl (lv_at hl 0 rfl) ?_
  refine xg_X3_9 X hP hAll uX3_readsBehindCondition_X3 mbX3_readsBehindCondition_1 dX3_readsBehindCondition_22 ?_
  obtain ⟨r_3, hc_2, hm⟩ := bind_elim hm
  refine x_calli (x_runS (As := [.int (rd M 111 9)]) (rest := [.ref (ga g 111)]) X hP hS (c_X3_rankOf l X.2.2 hc_2) (va_cwS 1 hts gX3_readsBehindCondition_X3_rankOf rfl rfl rfl (by decide +kernel) ⟨Nat.le_of_ble_eq_true rfl, Nat.le_of_ble_eq_true rfl⟩) rfl hl.1 rfl (Nat.le_of_ble_eq_true rfl) dX3_readsBehindCondition_25 ⟨Nat.zero_le _, Nat.zero_le _⟩) hS (fun H locs hP hS => ?_)
  obtain ⟨M_5, hc_4, hm⟩ := bind_elim hm
  refine x_callv (x_runV (As := [.int r_3]) (rest := []) X hP hS (c_X3_settleSigns l X.2.2 hAll hc_4) (cwV 1 hts gX3_readsBehindCondition_X3_settleSigns rfl rfl rfl (by decide +kernel) ⟨Nat.le_of_ble_eq_true rfl, Nat.le_of_ble_eq_true rfl⟩) (x_recv (C := RX3) (T := TX3) (N := 17) X hP (okc_111 hAll) rfl) rfl hl.1 rfl (Nat.le_of_ble_eq_true rfl) dX3_readsBehindCondition_28 ⟨Nat.zero_le _, Nat.zero_le _⟩) hS (fun H locs hP hS => ?_)
  refine lv_aload_n hx hb dX3_readsBehindCondition_31 rfl (lv_at hl 0 rfl) ?_
  refine lv_iconst (v := 3) hx hb dX3_readsBehindCondition_32 (by decide) ?_
  obtain ⟨⟨r_7, M_8⟩, hc_6, hm⟩ := bind_elim hm
  replace hm := un2_e hm
  refine x_calli (x_runV (As := [.int 3]) (rest := []) X hP hS (c_X3_putSign l X.2.2 hAll hc_6) (cwV 1 hts gX3_readsBehindCondition_X3_putSign rfl rfl rfl (by decide +kernel) ⟨Nat.le_of_ble_eq_true rfl, Nat.le_of_ble_eq_true rfl⟩) (x_recv (C := RX3) (T := TX3) (N := 17) X hP (okc_111 hAll) rfl) rfl hl.1 rfl (Nat.le_of_ble_eq_true rfl) dX3_readsBehindCondition_33 ⟨Nat.zero_le _, Nat.zero_le _⟩) hS (fun H locs hP hS => ?_)
  obtain ⟨hz_9, hm⟩ := chk_elim hm
  cases hm
  exact x_zret X (isB_or hz_9) hP hS hr hlocks dX3_readsBehindCondition_36

set_option maxHeartbeats 4000000 in
set_option maxRecDepth 100000 in
theorem wj_X3_readsBehindCondition_98 (X : CxG g p s m args c cX3_readsBehindCondition 3 RX3 wsX3_readsBehindCondition) (hAll : okAll g) {fu : Nat} {M : Mem} {s1 : Int32} {t0 : Int32} {rr : Int32} {MM : Mem} (hr : meth.sig.returnType = (some .boolean)) (hlocks : meth.locks = false) (hm : j_X3_readsBehindCondition_98 fu M s1 t0 = some (rr, MM)) {H : Heap} {locs : List Loc} {ls : Array Slot} (hP : va_P (gD g) vwCl (wlG g M) H) (hS : va_S (AbG g) s.heap H locs) (hl : lv_has ls 3 [(0, .ref (ga g 111)), (1, .int s1)]) : W p l e (headSpec wsX3_readsBehindCondition rmX3_readsBehindCondition).room s m args below meth c H locs 0 0 (MQ below (va_Qi (fun (q : Int32) (_ : Unit) => q = rr) (fun _ t => va_P (gD g) vwCl (wlG g MM) t.heap) (AbG g)) args s 0 0 (AbG g)) (F0 m 98 ls [.int t0]) := by
  obtain ⟨⟨hx, hb, hml, hown, hts⟩, -, -⟩ := id X
  unfold j_X3_readsBehindCondition_98 at hm
  refine lv_istore_n (lv' := [(2, .int t0), (0, .ref (ga g 111)), (1, .int s1)]) hx hb dX3_readsBehindCondition_98 rfl hl (by decide) rfl (fun ls hl => ?_)
  refine lv_iload_n hx hb dX3_readsBehindCondition_99 rfl (lv_at hl 2 rfl) ?_
  refine lv_iload_n hx hb dX3_readsBehindCondition_100 rfl (lv_at hl 0 rfl) ?_
  refine lv_icmp_eq (tgt := 110) hx hb dX3_readsBehindCondition_101 (by decide) (fun h_18 => ?_) (fun h_18 => ?_)
  · rw [if_pos h_18] at hm
    refine lv_iload_n hx hb dX3_readsBehindCondition_110 rfl (lv_at hl 0 rfl) ?_
    refine lv_if_eq (tgt := 141) hx hb dX3_readsBehindCondition_111 (by decide) (fun h_19 => ?_) (fun h_19 => ?_)
    · rw [if_pos h_19] at hm
      refine lv_aload_n hx hb dX3_readsBehindCondition_141 rfl (lv_at hl 1 rfl) ?_
      refine lv_sipush (v := 10400) hx hb dX3_readsBehindCondition_142 (by decide) ?_
      refine lv_aload_n hx hb dX3_readsBehindCondition_145 rfl (lv_at hl 1 rfl) ?_
      refine xg_X3_12 X hP hAll uX3_readsBehindCondition_X3 mbX3_readsBehindCondition_3 dX3_readsBehindCondition_146 ?_
      refine lv_iadd hx hb dX3_readsBehindCondition_149 ?_
      obtain ⟨M_21, hc_20, hm⟩ := bind_elim hm
      refine x_callv (x_runV (As := [.int (10400 + (rd M 111 12))]) (rest := []) X hP hS (c_X3_emit l X.2.2 hAll hc_20) (cwV 1 hts gX3_readsBehindCondition_X3_emit rfl rfl rfl (by decide +kernel) ⟨Nat.le_of_ble_eq_true rfl, Nat.le_of_ble_eq_true rfl⟩) (x_recv (C := RX3) (T := TX3) (N := 17) X hP (okc_111 hAll) rfl) rfl hl.1 rfl (Nat.le_of_ble_eq_true rfl) dX3_readsBehindCondition_150 ⟨Nat.zero_le _, Nat.zero_le _⟩) hS (fun H locs hP hS => ?_)
      refine lv_aload_n hx hb dX3_readsBehindCondition_153 rfl (lv_at hl 1 rfl) ?_
      refine lv_iconst (v := 0) hx hb dX3_readsBehindCondition_154 (by decide) ?_
      obtain ⟨⟨r_23, M_24⟩, hc_22, hm⟩ := bind_elim hm
      replace hm := un2_e hm
      refine x_calli (x_runV (As := [.int 0]) (rest := []) X hP hS (c_X3_expect l X.2.2 hAll hc_22) (cwV 1 hts gX3_readsBehindCondition_X3_expect rfl rfl rfl (by decide +kernel) ⟨Nat.le_of_ble_eq_true rfl, Nat.le_of_ble_eq_true rfl⟩) (x_recv (C := RX3) (T := TX3) (N := 17) X hP (okc_111 hAll) rfl) rfl hl.1 rfl (Nat.le_of_ble_eq_true rfl) dX3_readsBehindCondition_155 ⟨Nat.zero_le _, Nat.zero_le _⟩) hS (fun H locs hP hS => ?_)
      obtain ⟨hz_25, hm⟩ := chk_elim hm
      cases hm
      exact x_zret X (isB_or hz_25) hP hS hr hlocks dX3_readsBehindCondition_158
    · rw [if_neg h_19] at hm
      refine lv_aload_n hx hb dX3_readsBehindCondition_114 rfl (lv_at hl 1 rfl) ?_
      refine lv_dup hx hb dX3_readsBehindCondition_115 rfl ?_
      refine xg_X3_15 X hP hAll uX3_readsBehindCondition_X3 mbX3_readsBehindCondition_2 dX3_readsBehindCondition_116 ?_
      refine lv_iconst (v := 1) hx hb dX3_readsBehindCondition_119 (by decide) ?_
      refine lv_isub hx hb dX3_readsBehindCondition_120 ?_
      obtain ⟨M_26, hM_27, hm⟩ := bnd_elim hm
      refine xp_X3_15 X hP hAll uX3_readsBehindCondition_X3 mbX3_readsBehindCondition_2 hS hM_27 dX3_readsBehindCondition_121 (fun H locs hP hS => ?_)
      refine lv_aload_n hx hb dX3_readsBehindCondition_124 rfl (lv_at hl 1 rfl) ?_
      refine lv_dup hx hb dX3_readsBehindCondition_125 rfl ?_
      refine xg_X3_16 X hP hAll uX3_readsBehindCondition_X3 mbX3_readsBehindCondition_4 dX3_readsBehindCondition_126 ?_
      refine lv_iconst (v := 1) hx hb dX3_readsBehindCondition_129 (by decide) ?_
      refine lv_isub hx hb dX3_readsBehindCondition_130 ?_
      obtain ⟨M_28, hM_29, hm⟩ := bnd_elim hm
      refine xp_X3_16 X hP hAll uX3_readsBehindCondition_X3 mbX3_readsBehindCondition_4 hS hM_29 dX3_readsBehindCondition_131 (fun H locs hP hS => ?_)
      refine lv_aload_n hx hb dX3_readsBehindCondition_134 rfl (lv_at hl 1 rfl) ?_
      refine lv_bipush (v := 7) hx hb dX3_readsBehindCondition_135 (by decide) ?_
      obtain ⟨⟨r_31, M_32⟩, hc_30, hm⟩ := bind_elim hm
      replace hm := un2_e hm
      refine x_calli (x_runV (As := [.int 7]) (rest := []) X hP hS (c_X3_expect l X.2.2 hAll hc_30) (cwV 1 hts gX3_readsBehindCondition_X3_expect rfl rfl rfl (by decide +kernel) ⟨Nat.le_of_ble_eq_true rfl, Nat.le_of_ble_eq_true rfl⟩) (x_recv (C := RX3) (T := TX3) (N := 17) X hP (okc_111 hAll) rfl) rfl hl.1 rfl (Nat.le_of_ble_eq_true rfl) dX3_readsBehindCondition_137 ⟨Nat.zero_le _, Nat.zero_le _⟩) hS (fun H locs hP hS => ?_)
      obtain ⟨hz_33, hm⟩ := chk_elim hm
      cases hm
      exact x_zret X (isB_or hz_33) hP hS hr hlocks dX3_readsBehindCondition_140
  · rw [if_neg h_18] at hm
    refine lv_aload_n hx hb dX3_readsBehindCondition_104 rfl (lv_at hl 1 rfl) ?_
    refine lv_iconst (v := 1) hx hb dX3_readsBehindCondition_105 (by decide) ?_
    obtain ⟨⟨r_35, M_36⟩, hc_34, hm⟩ := bind_elim hm
    replace hm := un2_e hm
    refine x_calli (x_runV (As := [.int 1]) (rest := []) X hP hS (c_X3_refuse l X.2.2 hAll hc_34) (cwV 1 hts gX3_readsBehindCondition_X3_refuse rfl rfl rfl (by decide +kernel) ⟨Nat.le_of_ble_eq_true rfl, Nat.le_of_ble_eq_true rfl⟩) (x_recv (C := RX3) (T := TX3) (N := 17) X hP (okc_111 hAll) rfl) rfl hl.1 rfl (Nat.le_of_ble_eq_true rfl) dX3_readsBehindCondition_106 ⟨Nat.zero_le _, Nat.zero_le _⟩) hS (fun H locs hP hS => ?_)
    obtain ⟨hz_37, hm⟩ := chk_elim hm
    cases hm
    exact x_zret X (isB_or hz_37) hP hS hr hlocks dX3_readsBehindCondition_109

set_option maxHeartbeats 4000000 in
set_option maxRecDepth 100000 in
theorem wj_X3_readsBehindCondition_83 (X : CxG g p s m args c cX3_readsBehindCondition 3 RX3 wsX3_readsBehindCondition) (hAll : okAll g) {fu : Nat} {M : Mem} {t0 : Int32} {rr : Int32} {MM : Mem} (hr : meth.sig.returnType = (some .boolean)) (hlocks : meth.locks = false) (hm : j_X3_readsBehindCondition_83 fu M t0 = some (rr, MM)) {H : Heap} {locs : List Loc} {ls : Array Slot} (hP : va_P (gD g) vwCl (wlG g M) H) (hS : va_S (AbG g) s.heap H locs) (hl : lv_has ls 3 [(0, .ref (ga g 111))]) : W p l e (headSpec wsX3_readsBehindCondition rmX3_readsBehindCondition).room s m args below meth c H locs 0 0 (MQ below (va_Qi (fun (q : Int32) (_ : Unit) => q = rr) (fun _ t => va_P (gD g) vwCl (wlG g MM) t.heap) (AbG g)) args s 0 0 (AbG g)) (F0 m 83 ls [.int t0]) := by
  obtain ⟨⟨hx, hb, hml, hown, hts⟩, -, -⟩ := id X
  unfold j_X3_readsBehindCondition_83 at hm
  refine lv_istore_n (lv' := [(1, .int t0), (0, .ref (ga g 111))]) hx hb dX3_readsBehindCondition_83 rfl hl (by decide) rfl (fun ls hl => ?_)
  refine lv_aload_n hx hb dX3_readsBehindCondition_84 rfl (lv_at hl 1 rfl) ?_
  refine xg_X3_9 X hP hAll uX3_readsBehindCondition_X3 mbX3_readsBehindCondition_1 dX3_readsBehindCondition_85 ?_
  refine lv_bipush (v := 41) hx hb dX3_readsBehindCondition_88 (by decide) ?_
  refine lv_icmp_ne (tgt := 97) hx hb dX3_readsBehindCondition_90 (by decide) (fun h_17 => ?_) (fun h_17 => ?_)
  · rw [if_neg h_17] at hm
    refine lv_iconst (v := 0) hx hb dX3_readsBehindCondition_97 (by decide) ?_
    exact wj_X3_readsBehindCondition_98 X hAll hr hlocks hm hP hS (lv_sub hl [1, 0] rfl)
  · rw [if_pos h_17] at hm
    refine lv_iconst (v := 1) hx hb dX3_readsBehindCondition_93 (by decide) ?_
    refine lv_goto (tgt := 98) hx hb dX3_readsBehindCondition_94 (by decide) ?_
    exact wj_X3_readsBehindCondition_98 X hAll hr hlocks hm hP hS (lv_sub hl [1, 0] rfl)

set_option maxHeartbeats 4000000 in
set_option maxRecDepth 100000 in
theorem wj_X3_readsBehindCondition_61 (X : CxG g p s m args c cX3_readsBehindCondition 3 RX3 wsX3_readsBehindCondition) (hAll : okAll g) {fu : Nat} {M : Mem} {rr : Int32} {MM : Mem} (hr : meth.sig.returnType = (some .boolean)) (hlocks : meth.locks = false) (hm : j_X3_readsBehindCondition_61 fu M = some (rr, MM)) {H : Heap} {locs : List Loc} {ls : Array Slot} (hP : va_P (gD g) vwCl (wlG g M) H) (hS : va_S (AbG g) s.heap H locs) (hl : lv_has ls 3 [(0, .ref (ga g 111))]) : W p l e (headSpec wsX3_readsBehindCondition rmX3_readsBehindCondition).room s m args below meth c H locs 0 0 (MQ below (va_Qi (fun (q : Int32) (_ : Unit) => q = rr) (fun _ t => va_P (gD g) vwCl (wlG g MM) t.heap) (AbG g)) args s 0 0 (AbG g)) (F0 m 61 ls []) := by
  obtain ⟨⟨hx, hb, hml, hown, hts⟩, -, -⟩ := id X
  unfold j_X3_readsBehindCondition_61 at hm
  refine lv_aload_n hx hb dX3_readsBehindCondition_61 rfl (lv_at hl 0 rfl) ?_
  refine lv_sipush (v := 202) hx hb dX3_readsBehindCondition_62 (by decide) ?_
  obtain ⟨r_13, hc_12, hm⟩ := bind_elim hm
  refine x_calli (x_runS (As := [.int 202]) (rest := [.ref (ga g 111)]) X hP hS (c_X3_rankOf l X.2.2 hc_12) (va_cwS 1 hts gX3_readsBehindCondition_X3_rankOf rfl rfl rfl (by decide +kernel) ⟨Nat.le_of_ble_eq_true rfl, Nat.le_of_ble_eq_true rfl⟩) rfl hl.1 rfl (Nat.le_of_ble_eq_true rfl) dX3_readsBehindCondition_65 ⟨Nat.zero_le _, Nat.zero_le _⟩) hS (fun H locs hP hS => ?_)
  obtain ⟨M_15, hc_14, hm⟩ := bind_elim hm
  refine x_callv (x_runV (As := [.int r_13]) (rest := []) X hP hS (c_X3_settleSigns l X.2.2 hAll hc_14) (cwV 1 hts gX3_readsBehindCondition_X3_settleSigns rfl rfl rfl (by decide +kernel) ⟨Nat.le_of_ble_eq_true rfl, Nat.le_of_ble_eq_true rfl⟩) (x_recv (C := RX3) (T := TX3) (N := 17) X hP (okc_111 hAll) rfl) rfl hl.1 rfl (Nat.le_of_ble_eq_true rfl) dX3_readsBehindCondition_68 ⟨Nat.zero_le _, Nat.zero_le _⟩) hS (fun H locs hP hS => ?_)
  refine lv_aload_n hx hb dX3_readsBehindCondition_71 rfl (lv_at hl 0 rfl) ?_
  refine xg_X3_15 X hP hAll uX3_readsBehindCondition_X3 mbX3_readsBehindCondition_2 dX3_readsBehindCondition_72 ?_
  refine lv_if_le (tgt := 82) hx hb dX3_readsBehindCondition_75 (by decide) (fun h_16 => ?_) (fun h_16 => ?_)
  · rw [if_pos h_16] at hm
    refine lv_iconst (v := 0) hx hb dX3_readsBehindCondition_82 (by decide) ?_
    exact wj_X3_readsBehindCondition_83 X hAll hr hlocks hm hP hS (lv_sub hl [0] rfl)
  · rw [if_neg h_16] at hm
    refine lv_iconst (v := 1) hx hb dX3_readsBehindCondition_78 (by decide) ?_
    refine lv_goto (tgt := 83) hx hb dX3_readsBehindCondition_79 (by decide) ?_
    exact wj_X3_readsBehindCondition_83 X hAll hr hlocks hm hP hS (lv_sub hl [0] rfl)

set_option maxHeartbeats 4000000 in
set_option maxRecDepth 100000 in
theorem c_X3_readsBehindCondition (l : Launch) {g : GT} (hA : AxG g) (hAll : okAll g)   {fu : Nat} {M : Mem} {rr : Int32} {MM : Mem} (hm : m_X3_readsBehindCondition fu M = some (rr, MM)) : CI l yX3_readsBehindCondition wsX3_readsBehindCondition rmX3_readsBehindCondition g [.ref (ga g 111)] M rr MM := by
  refine Met.ofW (cc := cX3_readsBehindCondition) (maxL := 3) (ret := (some .boolean)) (by decide) rfl ?_
  intro p e s m args below meth c s₁ B hml hv
  obtain ⟨rfl, hSx, hP⟩ := hv
  have hr := B.returns
  have hlocks := B.notSynchronized
  have X : CxG g p s m _ c cX3_readsBehindCondition 3 RX3 wsX3_readsBehindCondition := ⟨⟨B.exec, B.bytes, hml, findClass_of_methodNamed B.named, atoms_spec (ws := wsX3_readsBehindCondition) B.pre⟩, hSx, hA⟩
  have hS : va_S (AbG g) s.heap s.heap [] := va_S.rf
  have hl := lv_entry (([.ref (ga g 111)] : List Value)) (n := 3) (Nat.le_of_ble_eq_true rfl)
  rw [lg_entry_eq]
  generalize (lg_sl (([.ref (ga g 111)] : List Value)) ++ List.replicate (3 - (lg_sl (([.ref (ga g 111)] : List Value))).length) Slot.unset).toArray = ls at hl ⊢
  have hl : lv_has ls 3 [(0, .ref (ga g 111))] := hl
  obtain ⟨⟨hx, hb, hml, hown, hts⟩, -, -⟩ := id X
  unfold m_X3_readsBehindCondition at hm
  refine lv_aload_n hx hb dX3_readsBehindCondition_0 rfl (lv_at hl 0 rfl) ?_
  refine xg_X3_9 X hP hAll uX3_readsBehindCondition_X3 mbX3_readsBehindCondition_1 dX3_readsBehindCondition_1 ?_
  refine lv_sipush (v := 203) hx hb dX3_readsBehindCondition_4 (by decide) ?_
  refine lv_icmp_eq (tgt := 20) hx hb dX3_readsBehindCondition_7 (by decide) (fun h_1 => ?_) (fun h_1 => ?_)
  · rw [if_pos h_1] at hm
    exact wj_X3_readsBehindCondition_20 X hAll hr hlocks hm hP hS (lv_sub hl [0] rfl)
  · rw [if_neg h_1] at hm
    refine lv_aload_n hx hb dX3_readsBehindCondition_10 rfl (lv_at hl 0 rfl) ?_
    refine xg_X3_9 X hP hAll uX3_readsBehindCondition_X3 mbX3_readsBehindCondition_1 dX3_readsBehindCondition_11 ?_
    refine lv_sipush (v := 202) hx hb dX3_readsBehindCondition_14 (by decide) ?_
    refine lv_icmp_ne (tgt := 37) hx hb dX3_readsBehindCondition_17 (by decide) (fun h_10 => ?_) (fun h_10 => ?_)
    · rw [if_neg h_10] at hm
      refine lv_aload_n hx hb dX3_readsBehindCondition_37 rfl (lv_at hl 0 rfl) ?_
      refine xg_X3_9 X hP hAll uX3_readsBehindCondition_X3 mbX3_readsBehindCondition_1 dX3_readsBehindCondition_38 ?_
      refine lv_bipush (v := 41) hx hb dX3_readsBehindCondition_41 (by decide) ?_
      refine lv_icmp_eq (tgt := 61) hx hb dX3_readsBehindCondition_43 (by decide) (fun h_11 => ?_) (fun h_11 => ?_)
      · rw [if_pos h_11] at hm
        exact wj_X3_readsBehindCondition_61 X hAll hr hlocks hm hP hS (lv_sub hl [0] rfl)
      · rw [if_neg h_11] at hm
        refine lv_aload_n hx hb dX3_readsBehindCondition_46 rfl (lv_at hl 0 rfl) ?_
        refine xg_X3_9 X hP hAll uX3_readsBehindCondition_X3 mbX3_readsBehindCondition_1 dX3_readsBehindCondition_47 ?_
        refine lv_bipush (v := 59) hx hb dX3_readsBehindCondition_50 (by decide) ?_
        refine lv_icmp_eq (tgt := 61) hx hb dX3_readsBehindCondition_52 (by decide) (fun h_38 => ?_) (fun h_38 => ?_)
        · rw [if_pos h_38] at hm
          exact wj_X3_readsBehindCondition_61 X hAll hr hlocks hm hP hS (lv_sub hl [0] rfl)
        · rw [if_neg h_38] at hm
          refine lv_aload_n hx hb dX3_readsBehindCondition_55 rfl (lv_at hl 0 rfl) ?_
          refine lv_iconst (v := 1) hx hb dX3_readsBehindCondition_56 (by decide) ?_
          obtain ⟨⟨r_40, M_41⟩, hc_39, hm⟩ := bind_elim hm
          replace hm := un2_e hm
          refine x_calli (x_runV (As := [.int 1]) (rest := []) X hP hS (c_X3_refuse l X.2.2 hAll hc_39) (cwV 1 hts gX3_readsBehindCondition_X3_refuse rfl rfl rfl (by decide +kernel) ⟨Nat.le_of_ble_eq_true rfl, Nat.le_of_ble_eq_true rfl⟩) (x_recv (C := RX3) (T := TX3) (N := 17) X hP (okc_111 hAll) rfl) rfl hl.1 rfl (Nat.le_of_ble_eq_true rfl) dX3_readsBehindCondition_57 ⟨Nat.zero_le _, Nat.zero_le _⟩) hS (fun H locs hP hS => ?_)
          obtain ⟨hz_42, hm⟩ := chk_elim hm
          cases hm
          exact x_zret X (isB_or hz_42) hP hS hr hlocks dX3_readsBehindCondition_60
    · rw [if_pos h_10] at hm
      exact wj_X3_readsBehindCondition_20 X hAll hr hlocks hm hP hS (lv_sub hl [0] rfl)


/-! X3_readsBehindUnit -/
def rmX3_readsBehindUnit : Room := { frames := 3, cells := 0, slots := 0, locals := 64 }
theorem uX3_readsBehindUnit_X3 : ∀ w ∈ wsX30, w ∈ wsX3_readsBehindUnit := by decide +kernel
theorem mbX3_readsBehindUnit_1 : Cond.fieldLink RX3 40 "FootANight$Reader" "kind" "I" ∈ wsX3_readsBehindUnit := by decide +kernel
theorem mbX3_readsBehindUnit_2 : Cond.fieldLink RX3 52 "FootANight$Reader" "compared" "Z" ∈ wsX3_readsBehindUnit := by decide +kernel
set_option maxHeartbeats 4000000 in
set_option maxRecDepth 100000 in
theorem wj_X3_readsBehindUnit_41 (X : CxG g p s m args c cX3_readsBehindUnit 1 RX3 wsX3_readsBehindUnit) (hAll : okAll g) {fu : Nat} {M : Mem} {t1 : Int32} {rr : Int32} {MM : Mem} (hr : meth.sig.returnType = (some .boolean)) (hlocks : meth.locks = false) (hm : j_X3_readsBehindUnit_41 fu M t1 = some (rr, MM)) {H : Heap} {locs : List Loc} {ls : Array Slot} (hP : va_P (gD g) vwCl (wlG g M) H) (hS : va_S (AbG g) s.heap H locs) (hl : lv_has ls 1 []) : W p l e (headSpec wsX3_readsBehindUnit rmX3_readsBehindUnit).room s m args below meth c H locs 0 0 (MQ below (va_Qi (fun (q : Int32) (_ : Unit) => q = rr) (fun _ t => va_P (gD g) vwCl (wlG g MM) t.heap) (AbG g)) args s 0 0 (AbG g)) (F0 m 41 ls [.int t1, .ref (ga g 111)]) := by
  obtain ⟨⟨hx, hb, hml, hown, hts⟩, -, -⟩ := id X
  unfold j_X3_readsBehindUnit_41 at hm
  obtain ⟨⟨r_36, M_37⟩, hc_35, hm⟩ := bind_elim hm
  replace hm := un2_e hm
  refine x_calli (x_runV (As := [.int t1]) (rest := []) X hP hS (c_X3_putSign l X.2.2 hAll hc_35) (cwV 1 hts gX3_readsBehindUnit_X3_putSign rfl rfl rfl (by decide +kernel) ⟨Nat.le_of_ble_eq_true rfl, Nat.le_of_ble_eq_true rfl⟩) (x_recv (C := RX3) (T := TX3) (N := 17) X hP (okc_111 hAll) rfl) rfl hl.1 rfl (Nat.le_of_ble_eq_true rfl) dX3_readsBehindUnit_41 ⟨Nat.zero_le _, Nat.zero_le _⟩) hS (fun H locs hP hS => ?_)
  obtain ⟨hz_38, hm⟩ := chk_elim hm
  cases hm
  exact x_zret X (isB_or hz_38) hP hS hr hlocks dX3_readsBehindUnit_44

set_option maxHeartbeats 4000000 in
set_option maxRecDepth 100000 in
theorem c_X3_readsBehindUnit (l : Launch) {g : GT} (hA : AxG g) (hAll : okAll g)   {fu : Nat} {M : Mem} {rr : Int32} {MM : Mem} (hm : m_X3_readsBehindUnit fu M = some (rr, MM)) : CI l yX3_readsBehindUnit wsX3_readsBehindUnit rmX3_readsBehindUnit g [.ref (ga g 111)] M rr MM := by
  refine Met.ofW (cc := cX3_readsBehindUnit) (maxL := 1) (ret := (some .boolean)) (by decide) rfl ?_
  intro p e s m args below meth c s₁ B hml hv
  obtain ⟨rfl, hSx, hP⟩ := hv
  have hr := B.returns
  have hlocks := B.notSynchronized
  have X : CxG g p s m _ c cX3_readsBehindUnit 1 RX3 wsX3_readsBehindUnit := ⟨⟨B.exec, B.bytes, hml, findClass_of_methodNamed B.named, atoms_spec (ws := wsX3_readsBehindUnit) B.pre⟩, hSx, hA⟩
  have hS : va_S (AbG g) s.heap s.heap [] := va_S.rf
  have hl := lv_entry (([.ref (ga g 111)] : List Value)) (n := 1) (Nat.le_of_ble_eq_true rfl)
  rw [lg_entry_eq]
  generalize (lg_sl (([.ref (ga g 111)] : List Value)) ++ List.replicate (1 - (lg_sl (([.ref (ga g 111)] : List Value))).length) Slot.unset).toArray = ls at hl ⊢
  have hl : lv_has ls 1 [(0, .ref (ga g 111))] := hl
  obtain ⟨⟨hx, hb, hml, hown, hts⟩, -, -⟩ := id X
  unfold m_X3_readsBehindUnit at hm
  refine lv_aload_n hx hb dX3_readsBehindUnit_0 rfl (lv_at hl 0 rfl) ?_
  refine xg_X3_9 X hP hAll uX3_readsBehindUnit_X3 mbX3_readsBehindUnit_1 dX3_readsBehindUnit_1 ?_
  obtain ⟨r_2, hc_1, hm⟩ := bind_elim hm
  refine x_calli (x_runS (As := [.int (rd M 111 9)]) (rest := []) X hP hS (c_X3_rankOf l X.2.2 hc_1) (va_cwS 1 hts gX3_readsBehindUnit_X3_rankOf rfl rfl rfl (by decide +kernel) ⟨Nat.le_of_ble_eq_true rfl, Nat.le_of_ble_eq_true rfl⟩) rfl hl.1 rfl (Nat.le_of_ble_eq_true rfl) dX3_readsBehindUnit_4 ⟨Nat.zero_le _, Nat.zero_le _⟩) hS (fun H locs hP hS => ?_)
  refine lv_bipush (v := 60) hx hb dX3_readsBehindUnit_7 (by decide) ?_
  obtain ⟨r_4, hc_3, hm⟩ := bind_elim hm
  refine x_calli (x_runS (As := [.int 60]) (rest := [.int r_2]) X hP hS (c_X3_rankOf l X.2.2 hc_3) (va_cwS 1 hts gX3_readsBehindUnit_X3_rankOf rfl rfl rfl (by decide +kernel) ⟨Nat.le_of_ble_eq_true rfl, Nat.le_of_ble_eq_true rfl⟩) rfl hl.1 rfl (Nat.le_of_ble_eq_true rfl) dX3_readsBehindUnit_9 ⟨Nat.zero_le _, Nat.zero_le _⟩) hS (fun H locs hP hS => ?_)
  refine lv_icmp_le (tgt := 45) hx hb dX3_readsBehindUnit_12 (by decide) (fun h_5 => ?_) (fun h_5 => ?_)
  · rw [if_pos h_5] at hm
    refine lv_aload_n hx hb dX3_readsBehindUnit_45 rfl (lv_at hl 0 rfl) ?_
    refine xg_X3_13 X hP hAll uX3_readsBehindUnit_X3 mbX3_readsBehindUnit_2 dX3_readsBehindUnit_46 ?_
    refine lv_if_eq (tgt := 57) hx hb dX3_readsBehindUnit_49 (by decide) (fun h_6 => ?_) (fun h_6 => ?_)
    · rw [if_pos h_6] at hm
      refine lv_aload_n hx hb dX3_readsBehindUnit_57 rfl (lv_at hl 0 rfl) ?_
      refine xg_X3_9 X hP hAll uX3_readsBehindUnit_X3 mbX3_readsBehindUnit_1 dX3_readsBehindUnit_58 ?_
      obtain ⟨r_8, hc_7, hm⟩ := bind_elim hm
      refine x_calli (x_runS (As := [.int (rd M 111 9)]) (rest := []) X hP hS (c_X3_rankOf l X.2.2 hc_7) (va_cwS 1 hts gX3_readsBehindUnit_X3_rankOf rfl rfl rfl (by decide +kernel) ⟨Nat.le_of_ble_eq_true rfl, Nat.le_of_ble_eq_true rfl⟩) rfl hl.1 rfl (Nat.le_of_ble_eq_true rfl) dX3_readsBehindUnit_61 ⟨Nat.zero_le _, Nat.zero_le _⟩) hS (fun H locs hP hS => ?_)
      refine lv_bipush (v := 60) hx hb dX3_readsBehindUnit_64 (by decide) ?_
      obtain ⟨r_10, hc_9, hm⟩ := bind_elim hm
      refine x_calli (x_runS (As := [.int 60]) (rest := [.int r_8]) X hP hS (c_X3_rankOf l X.2.2 hc_9) (va_cwS 1 hts gX3_readsBehindUnit_X3_rankOf rfl rfl rfl (by decide +kernel) ⟨Nat.le_of_ble_eq_true rfl, Nat.le_of_ble_eq_true rfl⟩) rfl hl.1 rfl (Nat.le_of_ble_eq_true rfl) dX3_readsBehindUnit_66 ⟨Nat.zero_le _, Nat.zero_le _⟩) hS (fun H locs hP hS => ?_)
      refine lv_icmp_ge (tgt := 78) hx hb dX3_readsBehindUnit_69 (by decide) (fun h_11 => ?_) (fun h_11 => ?_)
      · rw [if_pos h_11] at hm
        refine lv_aload_n hx hb dX3_readsBehindUnit_78 rfl (lv_at hl 0 rfl) ?_
        refine lv_iconst (v := 1) hx hb dX3_readsBehindUnit_79 (by decide) ?_
        obtain ⟨M_12, hM_13, hm⟩ := bnd_elim hm
        refine xp_X3_13 X hP hAll uX3_readsBehindUnit_X3 mbX3_readsBehindUnit_2 hS hM_13 (by decide) dX3_readsBehindUnit_80 (fun H locs hP hS => ?_)
        refine lv_aload_n hx hb dX3_readsBehindUnit_83 rfl (lv_at hl 0 rfl) ?_
        refine lv_aload_n hx hb dX3_readsBehindUnit_84 rfl (lv_at hl 0 rfl) ?_
        refine xg_X3_9 X hP hAll uX3_readsBehindUnit_X3 mbX3_readsBehindUnit_1 dX3_readsBehindUnit_85 ?_
        obtain ⟨r_15, hc_14, hm⟩ := bind_elim hm
        refine x_calli (x_runS (As := [.int (rd M_12 111 9)]) (rest := [.ref (ga g 111)]) X hP hS (c_X3_rankOf l X.2.2 hc_14) (va_cwS 1 hts gX3_readsBehindUnit_X3_rankOf rfl rfl rfl (by decide +kernel) ⟨Nat.le_of_ble_eq_true rfl, Nat.le_of_ble_eq_true rfl⟩) rfl hl.1 rfl (Nat.le_of_ble_eq_true rfl) dX3_readsBehindUnit_88 ⟨Nat.zero_le _, Nat.zero_le _⟩) hS (fun H locs hP hS => ?_)
        obtain ⟨M_17, hc_16, hm⟩ := bind_elim hm
        refine x_callv (x_runV (As := [.int r_15]) (rest := []) X hP hS (c_X3_settleSigns l X.2.2 hAll hc_16) (cwV 1 hts gX3_readsBehindUnit_X3_settleSigns rfl rfl rfl (by decide +kernel) ⟨Nat.le_of_ble_eq_true rfl, Nat.le_of_ble_eq_true rfl⟩) (x_recv (C := RX3) (T := TX3) (N := 17) X hP (okc_111 hAll) rfl) rfl hl.1 rfl (Nat.le_of_ble_eq_true rfl) dX3_readsBehindUnit_91 ⟨Nat.zero_le _, Nat.zero_le _⟩) hS (fun H locs hP hS => ?_)
        refine lv_aload_n hx hb dX3_readsBehindUnit_94 rfl (lv_at hl 0 rfl) ?_
        refine lv_iconst (v := 4) hx hb dX3_readsBehindUnit_95 (by decide) ?_
        obtain ⟨⟨r_19, M_20⟩, hc_18, hm⟩ := bind_elim hm
        replace hm := un2_e hm
        refine x_calli (x_runV (As := [.int 4]) (rest := []) X hP hS (c_X3_putSign l X.2.2 hAll hc_18) (cwV 1 hts gX3_readsBehindUnit_X3_putSign rfl rfl rfl (by decide +kernel) ⟨Nat.le_of_ble_eq_true rfl, Nat.le_of_ble_eq_true rfl⟩) (x_recv (C := RX3) (T := TX3) (N := 17) X hP (okc_111 hAll) rfl) rfl hl.1 rfl (Nat.le_of_ble_eq_true rfl) dX3_readsBehindUnit_96 ⟨Nat.zero_le _, Nat.zero_le _⟩) hS (fun H locs hP hS => ?_)
        obtain ⟨hz_21, hm⟩ := chk_elim hm
        cases hm
        exact x_zret X (isB_or hz_21) hP hS hr hlocks dX3_readsBehindUnit_99
      · rw [if_neg h_11] at hm
        refine lv_aload_n hx hb dX3_readsBehindUnit_72 rfl (lv_at hl 0 rfl) ?_
        refine lv_iconst (v := 1) hx hb dX3_readsBehindUnit_73 (by decide) ?_
        obtain ⟨⟨r_23, M_24⟩, hc_22, hm⟩ := bind_elim hm
        replace hm := un2_e hm
        refine x_calli (x_runV (As := [.int 1]) (rest := []) X hP hS (c_X3_refuse l X.2.2 hAll hc_22) (cwV 1 hts gX3_readsBehindUnit_X3_refuse rfl rfl rfl (by decide +kernel) ⟨Nat.le_of_ble_eq_true rfl, Nat.le_of_ble_eq_true rfl⟩) (x_recv (C := RX3) (T := TX3) (N := 17) X hP (okc_111 hAll) rfl) rfl hl.1 rfl (Nat.le_of_ble_eq_true rfl) dX3_readsBehindUnit_74 ⟨Nat.zero_le _, Nat.zero_le _⟩) hS (fun H locs hP hS => ?_)
        obtain ⟨hz_25, hm⟩ := chk_elim hm
        cases hm
        exact x_zret X (isB_or hz_25) hP hS hr hlocks dX3_readsBehindUnit_77
    · rw [if_neg h_6] at hm
      refine lv_aload_n hx hb dX3_readsBehindUnit_52 rfl (lv_at hl 0 rfl) ?_
      obtain ⟨⟨r_27, M_28⟩, hc_26, hm⟩ := bind_elim hm
      replace hm := un2_e hm
      refine x_calli (x_runV (As := []) (rest := []) X hP hS (c_X3_readsBehindCondition l X.2.2 hAll hc_26) (cwV 0 hts gX3_readsBehindUnit_X3_readsBehindCondition rfl rfl rfl (by decide +kernel) ⟨Nat.le_of_ble_eq_true rfl, Nat.le_of_ble_eq_true rfl⟩) (x_recv (C := RX3) (T := TX3) (N := 17) X hP (okc_111 hAll) rfl) rfl hl.1 rfl (Nat.le_of_ble_eq_true rfl) dX3_readsBehindUnit_53 ⟨Nat.zero_le _, Nat.zero_le _⟩) hS (fun H locs hP hS => ?_)
      obtain ⟨hz_29, hm⟩ := chk_elim hm
      cases hm
      exact x_zret X (isB_or hz_29) hP hS hr hlocks dX3_readsBehindUnit_56
  · rw [if_neg h_5] at hm
    refine lv_aload_n hx hb dX3_readsBehindUnit_15 rfl (lv_at hl 0 rfl) ?_
    refine lv_aload_n hx hb dX3_readsBehindUnit_16 rfl (lv_at hl 0 rfl) ?_
    refine xg_X3_9 X hP hAll uX3_readsBehindUnit_X3 mbX3_readsBehindUnit_1 dX3_readsBehindUnit_17 ?_
    obtain ⟨r_31, hc_30, hm⟩ := bind_elim hm
    refine x_calli (x_runS (As := [.int (rd M 111 9)]) (rest := [.ref (ga g 111)]) X hP hS (c_X3_rankOf l X.2.2 hc_30) (va_cwS 1 hts gX3_readsBehindUnit_X3_rankOf rfl rfl rfl (by decide +kernel) ⟨Nat.le_of_ble_eq_true rfl, Nat.le_of_ble_eq_true rfl⟩) rfl hl.1 rfl (Nat.le_of_ble_eq_true rfl) dX3_readsBehindUnit_20 ⟨Nat.zero_le _, Nat.zero_le _⟩) hS (fun H locs hP hS => ?_)
    obtain ⟨M_33, hc_32, hm⟩ := bind_elim hm
    refine x_callv (x_runV (As := [.int r_31]) (rest := []) X hP hS (c_X3_settleSigns l X.2.2 hAll hc_32) (cwV 1 hts gX3_readsBehindUnit_X3_settleSigns rfl rfl rfl (by decide +kernel) ⟨Nat.le_of_ble_eq_true rfl, Nat.le_of_ble_eq_true rfl⟩) (x_recv (C := RX3) (T := TX3) (N := 17) X hP (okc_111 hAll) rfl) rfl hl.1 rfl (Nat.le_of_ble_eq_true rfl) dX3_readsBehindUnit_23 ⟨Nat.zero_le _, Nat.zero_le _⟩) hS (fun H locs hP hS => ?_)
    refine lv_aload_n hx hb dX3_readsBehindUnit_26 rfl (lv_at hl 0 rfl) ?_
    refine lv_aload_n hx hb dX3_readsBehindUnit_27 rfl (lv_at hl 0 rfl) ?_
    refine xg_X3_9 X hP hAll uX3_readsBehindUnit_X3 mbX3_readsBehindUnit_1 dX3_readsBehindUnit_28 ?_
    refine lv_bipush (v := 47) hx hb dX3_readsBehindUnit_31 (by decide) ?_
    refine lv_icmp_ne (tgt := 40) hx hb dX3_readsBehindUnit_33 (by decide) (fun h_34 => ?_) (fun h_34 => ?_)
    · rw [if_neg h_34] at hm
      refine lv_iconst (v := 4) hx hb dX3_readsBehindUnit_40 (by decide) ?_
      exact wj_X3_readsBehindUnit_41 X hAll hr hlocks hm hP hS (lv_sub hl [] rfl)
    · rw [if_pos h_34] at hm
      refine lv_iconst (v := 5) hx hb dX3_readsBehindUnit_36 (by decide) ?_
      refine lv_goto (tgt := 41) hx hb dX3_readsBehindUnit_37 (by decide) ?_
      exact wj_X3_readsBehindUnit_41 X hAll hr hlocks hm hP hS (lv_sub hl [] rfl)


/-! X3_readsToken -/
def rmX3_readsToken : Room := { frames := 4, cells := 0, slots := 0, locals := 84 }
theorem uX3_readsToken_X3 : ∀ w ∈ wsX30, w ∈ wsX3_readsToken := by decide +kernel
theorem mbX3_readsToken_1 : Cond.fieldLink RX3 46 "FootANight$Reader" "next" "I" ∈ wsX3_readsToken := by decide +kernel
set_option maxHeartbeats 4000000 in
set_option maxRecDepth 100000 in
theorem c_X3_readsToken (l : Launch) {g : GT} (hA : AxG g) (hAll : okAll g)   {fu : Nat} {M : Mem} {rr : Int32} {MM : Mem} (hm : m_X3_readsToken fu M = some (rr, MM)) : CI l yX3_readsToken wsX3_readsToken rmX3_readsToken g [.ref (ga g 111)] M rr MM := by
  refine Met.ofW (cc := cX3_readsToken) (maxL := 1) (ret := (some .boolean)) (by decide) rfl ?_
  intro p e s m args below meth c s₁ B hml hv
  obtain ⟨rfl, hSx, hP⟩ := hv
  have hr := B.returns
  have hlocks := B.notSynchronized
  have X : CxG g p s m _ c cX3_readsToken 1 RX3 wsX3_readsToken := ⟨⟨B.exec, B.bytes, hml, findClass_of_methodNamed B.named, atoms_spec (ws := wsX3_readsToken) B.pre⟩, hSx, hA⟩
  have hS : va_S (AbG g) s.heap s.heap [] := va_S.rf
  have hl := lv_entry (([.ref (ga g 111)] : List Value)) (n := 1) (Nat.le_of_ble_eq_true rfl)
  rw [lg_entry_eq]
  generalize (lg_sl (([.ref (ga g 111)] : List Value)) ++ List.replicate (1 - (lg_sl (([.ref (ga g 111)] : List Value))).length) Slot.unset).toArray = ls at hl ⊢
  have hl : lv_has ls 1 [(0, .ref (ga g 111))] := hl
  obtain ⟨⟨hx, hb, hml, hown, hts⟩, -, -⟩ := id X
  unfold m_X3_readsToken at hm
  refine lv_aload_n hx hb dX3_readsToken_0 rfl (lv_at hl 0 rfl) ?_
  refine xg_X3_11 X hP hAll uX3_readsToken_X3 mbX3_readsToken_1 dX3_readsToken_1 ?_
  obtain ⟨v_1, hv_2, hm⟩ := bnd_elim hm
  refine x_name hv_2 ?_
  by_cases h_3 : v_1 = 0
  · rw [if_pos h_3] at hm
    refine lv_tableIn (off := 44) (tgt := 48) hx hb dX3_readsToken_4 (by rw [h_3]; decide) (by rw [h_3]; decide) (by rw [h_3]; rfl) (by decide) ?_
    refine lv_aload_n hx hb dX3_readsToken_48 rfl (lv_at hl 0 rfl) ?_
    obtain ⟨⟨r_5, M_6⟩, hc_4, hm⟩ := bind_elim hm
    replace hm := un2_e hm
    refine x_calli (x_runV (As := []) (rest := []) X hP hS (c_X3_readsDo l X.2.2 hAll hc_4) (cwV 0 hts gX3_readsToken_X3_readsDo rfl rfl rfl (by decide +kernel) ⟨Nat.le_of_ble_eq_true rfl, Nat.le_of_ble_eq_true rfl⟩) (x_recv (C := RX3) (T := TX3) (N := 17) X hP (okc_111 hAll) rfl) rfl hl.1 rfl (Nat.le_of_ble_eq_true rfl) dX3_readsToken_49 ⟨Nat.zero_le _, Nat.zero_le _⟩) hS (fun H locs hP hS => ?_)
    obtain ⟨hz_7, hm⟩ := chk_elim hm
    cases hm
    exact x_zret X (isB_or hz_7) hP hS hr hlocks dX3_readsToken_52
  rw [if_neg h_3] at hm
  by_cases h_8 : v_1 = 1
  · rw [if_pos h_8] at hm
    refine lv_tableIn (off := 49) (tgt := 53) hx hb dX3_readsToken_4 (by rw [h_8]; decide) (by rw [h_8]; decide) (by rw [h_8]; rfl) (by decide) ?_
    refine lv_aload_n hx hb dX3_readsToken_53 rfl (lv_at hl 0 rfl) ?_
    obtain ⟨⟨r_10, M_11⟩, hc_9, hm⟩ := bind_elim hm
    replace hm := un2_e hm
    refine x_calli (x_runV (As := []) (rest := []) X hP hS (c_X3_readsDoing l X.2.2 hAll hc_9) (cwV 0 hts gX3_readsToken_X3_readsDoing rfl rfl rfl (by decide +kernel) ⟨Nat.le_of_ble_eq_true rfl, Nat.le_of_ble_eq_true rfl⟩) (x_recv (C := RX3) (T := TX3) (N := 17) X hP (okc_111 hAll) rfl) rfl hl.1 rfl (Nat.le_of_ble_eq_true rfl) dX3_readsToken_54 ⟨Nat.zero_le _, Nat.zero_le _⟩) hS (fun H locs hP hS => ?_)
    obtain ⟨hz_12, hm⟩ := chk_elim hm
    cases hm
    exact x_zret X (isB_or hz_12) hP hS hr hlocks dX3_readsToken_57
  rw [if_neg h_8] at hm
  by_cases h_13 : v_1 = 2
  · rw [if_pos h_13] at hm
    refine lv_tableIn (off := 54) (tgt := 58) hx hb dX3_readsToken_4 (by rw [h_13]; decide) (by rw [h_13]; decide) (by rw [h_13]; rfl) (by decide) ?_
    refine lv_aload_n hx hb dX3_readsToken_58 rfl (lv_at hl 0 rfl) ?_
    obtain ⟨⟨r_15, M_16⟩, hc_14, hm⟩ := bind_elim hm
    replace hm := un2_e hm
    refine x_calli (x_runV (As := []) (rest := []) X hP hS (c_X3_readsWhen l X.2.2 hAll hc_14) (cwV 0 hts gX3_readsToken_X3_readsWhen rfl rfl rfl (by decide +kernel) ⟨Nat.le_of_ble_eq_true rfl, Nat.le_of_ble_eq_true rfl⟩) (x_recv (C := RX3) (T := TX3) (N := 17) X hP (okc_111 hAll) rfl) rfl hl.1 rfl (Nat.le_of_ble_eq_true rfl) dX3_readsToken_59 ⟨Nat.zero_le _, Nat.zero_le _⟩) hS (fun H locs hP hS => ?_)
    obtain ⟨hz_17, hm⟩ := chk_elim hm
    cases hm
    exact x_zret X (isB_or hz_17) hP hS hr hlocks dX3_readsToken_62
  rw [if_neg h_13] at hm
  by_cases h_18 : v_1 = 3
  · rw [if_pos h_18] at hm
    refine lv_tableIn (off := 59) (tgt := 63) hx hb dX3_readsToken_4 (by rw [h_18]; decide) (by rw [h_18]; decide) (by rw [h_18]; rfl) (by decide) ?_
    refine lv_aload_n hx hb dX3_readsToken_63 rfl (lv_at hl 0 rfl) ?_
    obtain ⟨⟨r_20, M_21⟩, hc_19, hm⟩ := bind_elim hm
    replace hm := un2_e hm
    refine x_calli (x_runV (As := []) (rest := []) X hP hS (c_X3_readsCondition l X.2.2 hAll hc_19) (cwV 0 hts gX3_readsToken_X3_readsCondition rfl rfl rfl (by decide +kernel) ⟨Nat.le_of_ble_eq_true rfl, Nat.le_of_ble_eq_true rfl⟩) (x_recv (C := RX3) (T := TX3) (N := 17) X hP (okc_111 hAll) rfl) rfl hl.1 rfl (Nat.le_of_ble_eq_true rfl) dX3_readsToken_64 ⟨Nat.zero_le _, Nat.zero_le _⟩) hS (fun H locs hP hS => ?_)
    obtain ⟨hz_22, hm⟩ := chk_elim hm
    cases hm
    exact x_zret X (isB_or hz_22) hP hS hr hlocks dX3_readsToken_67
  rw [if_neg h_18] at hm
  by_cases h_23 : v_1 = 4
  · rw [if_pos h_23] at hm
    refine lv_tableIn (off := 64) (tgt := 68) hx hb dX3_readsToken_4 (by rw [h_23]; decide) (by rw [h_23]; decide) (by rw [h_23]; rfl) (by decide) ?_
    refine lv_aload_n hx hb dX3_readsToken_68 rfl (lv_at hl 0 rfl) ?_
    obtain ⟨⟨r_25, M_26⟩, hc_24, hm⟩ := bind_elim hm
    replace hm := un2_e hm
    refine x_calli (x_runV (As := []) (rest := []) X hP hS (c_X3_readsUnit l X.2.2 hAll hc_24) (cwV 0 hts gX3_readsToken_X3_readsUnit rfl rfl rfl (by decide +kernel) ⟨Nat.le_of_ble_eq_true rfl, Nat.le_of_ble_eq_true rfl⟩) (x_recv (C := RX3) (T := TX3) (N := 17) X hP (okc_111 hAll) rfl) rfl hl.1 rfl (Nat.le_of_ble_eq_true rfl) dX3_readsToken_69 ⟨Nat.zero_le _, Nat.zero_le _⟩) hS (fun H locs hP hS => ?_)
    obtain ⟨hz_27, hm⟩ := chk_elim hm
    cases hm
    exact x_zret X (isB_or hz_27) hP hS hr hlocks dX3_readsToken_72
  rw [if_neg h_23] at hm
  by_cases h_28 : v_1 = 5
  · rw [if_pos h_28] at hm
    refine lv_tableIn (off := 69) (tgt := 73) hx hb dX3_readsToken_4 (by rw [h_28]; decide) (by rw [h_28]; decide) (by rw [h_28]; rfl) (by decide) ?_
    refine lv_aload_n hx hb dX3_readsToken_73 rfl (lv_at hl 0 rfl) ?_
    obtain ⟨⟨r_30, M_31⟩, hc_29, hm⟩ := bind_elim hm
    replace hm := un2_e hm
    refine x_calli (x_runV (As := []) (rest := []) X hP hS (c_X3_readsPart l X.2.2 hAll hc_29) (cwV 0 hts gX3_readsToken_X3_readsPart rfl rfl rfl (by decide +kernel) ⟨Nat.le_of_ble_eq_true rfl, Nat.le_of_ble_eq_true rfl⟩) (x_recv (C := RX3) (T := TX3) (N := 17) X hP (okc_111 hAll) rfl) rfl hl.1 rfl (Nat.le_of_ble_eq_true rfl) dX3_readsToken_74 ⟨Nat.zero_le _, Nat.zero_le _⟩) hS (fun H locs hP hS => ?_)
    obtain ⟨hz_32, hm⟩ := chk_elim hm
    cases hm
    exact x_zret X (isB_or hz_32) hP hS hr hlocks dX3_readsToken_77
  rw [if_neg h_28] at hm
  by_cases h_33 : v_1 = 6
  · rw [if_pos h_33] at hm
    refine lv_tableIn (off := 74) (tgt := 78) hx hb dX3_readsToken_4 (by rw [h_33]; decide) (by rw [h_33]; decide) (by rw [h_33]; rfl) (by decide) ?_
    refine lv_aload_n hx hb dX3_readsToken_78 rfl (lv_at hl 0 rfl) ?_
    obtain ⟨⟨r_35, M_36⟩, hc_34, hm⟩ := bind_elim hm
    replace hm := un2_e hm
    refine x_calli (x_runV (As := []) (rest := []) X hP hS (c_X3_readsBehindUnit l X.2.2 hAll hc_34) (cwV 0 hts gX3_readsToken_X3_readsBehindUnit rfl rfl rfl (by decide +kernel) ⟨Nat.le_of_ble_eq_true rfl, Nat.le_of_ble_eq_true rfl⟩) (x_recv (C := RX3) (T := TX3) (N := 17) X hP (okc_111 hAll) rfl) rfl hl.1 rfl (Nat.le_of_ble_eq_true rfl) dX3_readsToken_79 ⟨Nat.zero_le _, Nat.zero_le _⟩) hS (fun H locs hP hS => ?_)
    obtain ⟨hz_37, hm⟩ := chk_elim hm
    cases hm
    exact x_zret X (isB_or hz_37) hP hS hr hlocks dX3_readsToken_82
  rw [if_neg h_33] at hm
  refine lv_tableOut (tgt := 83) hx hb dX3_readsToken_4 (by
      have zh_3 := lv_neT h_3 (a := 0) (by decide)
      have zh_8 := lv_neT h_8 (a := 1) (by decide)
      have zh_13 := lv_neT h_13 (a := 2) (by decide)
      have zh_18 := lv_neT h_18 (a := 3) (by decide)
      have zh_23 := lv_neT h_23 (a := 4) (by decide)
      have zh_28 := lv_neT h_28 (a := 5) (by decide)
      have zh_33 := lv_neT h_33 (a := 6) (by decide)
      omega) (by decide) ?_
  refine lv_aload_n hx hb dX3_readsToken_83 rfl (lv_at hl 0 rfl) ?_
  obtain ⟨⟨r_39, M_40⟩, hc_38, hm⟩ := bind_elim hm
  replace hm := un2_e hm
  refine x_calli (x_runV (As := []) (rest := []) X hP hS (c_X3_readsBehindCondition l X.2.2 hAll hc_38) (cwV 0 hts gX3_readsToken_X3_readsBehindCondition rfl rfl rfl (by decide +kernel) ⟨Nat.le_of_ble_eq_true rfl, Nat.le_of_ble_eq_true rfl⟩) (x_recv (C := RX3) (T := TX3) (N := 17) X hP (okc_111 hAll) rfl) rfl hl.1 rfl (Nat.le_of_ble_eq_true rfl) dX3_readsToken_84 ⟨Nat.zero_le _, Nat.zero_le _⟩) hS (fun H locs hP hS => ?_)
  obtain ⟨hz_41, hm⟩ := chk_elim hm
  cases hm
  exact x_zret X (isB_or hz_41) hP hS hr hlocks dX3_readsToken_87


/-! X3_accepts -/
def rmX3_accepts : Room := { frames := 8, cells := 0, slots := 0, locals := 171 }
theorem uX3_accepts_X3 : ∀ w ∈ wsX30, w ∈ wsX3_accepts := by decide +kernel
theorem mbX3_accepts_1 : Cond.fieldLink RX3 28 "FootANight$Reader" "bytes" "[I" ∈ wsX3_accepts := by decide +kernel
theorem mbX3_accepts_2 : Cond.methodLink RX3 65 arraycopyName ∈ wsX3_accepts := by decide +kernel
theorem mbX3_accepts_3 : Cond.native arraycopyName ∈ wsX3_accepts := by decide +kernel
theorem mbX3_accepts_4 : Cond.static arraycopyName ∈ wsX3_accepts := by decide +kernel
theorem mbX3_accepts_5 : Cond.initialized "java/lang/System" ∈ wsX3_accepts := by decide +kernel
theorem mbX3_accepts_6 : Cond.fieldLink RX3 31 "FootANight$Reader" "length" "I" ∈ wsX3_accepts := by decide +kernel
theorem mbX3_accepts_7 : Cond.fieldLink RX3 37 "FootANight$Reader" "behind" "I" ∈ wsX3_accepts := by decide +kernel
theorem mbX3_accepts_8 : Cond.fieldLink RX3 15 "FootANight$Reader" "used" "I" ∈ wsX3_accepts := by decide +kernel
theorem mbX3_accepts_9 : Cond.fieldLink RX3 19 "FootANight$Reader" "lines" "I" ∈ wsX3_accepts := by decide +kernel
theorem mbX3_accepts_10 : Cond.fieldLink RX3 22 "FootANight$Reader" "fault" "I" ∈ wsX3_accepts := by decide +kernel
theorem mbX3_accepts_11 : Cond.fieldLink RX3 25 "FootANight$Reader" "place" "I" ∈ wsX3_accepts := by decide +kernel
theorem mbX3_accepts_12 : Cond.fieldLink RX3 46 "FootANight$Reader" "next" "I" ∈ wsX3_accepts := by decide +kernel
theorem mbX3_accepts_13 : Cond.fieldLink RX3 59 "FootANight$Reader" "waiting" "I" ∈ wsX3_accepts := by decide +kernel
theorem mbX3_accepts_14 : Cond.fieldLink RX3 62 "FootANight$Reader" "open" "I" ∈ wsX3_accepts := by decide +kernel
theorem mbX3_accepts_15 : Cond.fieldLink RX3 40 "FootANight$Reader" "kind" "I" ∈ wsX3_accepts := by decide +kernel
set_option maxHeartbeats 4000000 in
set_option maxRecDepth 100000 in
theorem wl_X3_accepts_62 (X : CxG g p s m args c cX3_accepts 4 RX3 wsX3_accepts) (hAll : okAll g) {k1 : Nat} (okk1 : okA g k1 0 400) {fu : Nat} {x : (Mem) ⊕ (Mem)} (kx0 : ∀ (M2 : Mem) , x = .inl M2 → ∀ (H : Heap) (locs : List Loc) (ls : Array Slot), va_P (gD g) vwCl (wlG g M2) H → va_S (AbG g) s.heap H locs → lv_has ls 4 [] → W p l e (headSpec wsX3_accepts rmX3_accepts).room s m args below meth c H locs 0 0 Q (F0 m 84 ls [])) (kx1 : ∀ (M2 : Mem) , x = .inr M2 → ∀ (H : Heap) (locs : List Loc) (ls : Array Slot), va_P (gD g) vwCl (wlG g M2) H → va_S (AbG g) s.heap H locs → lv_has ls 4 [(0, .ref (ga g 111))] → W p l e (headSpec wsX3_accepts rmX3_accepts).room s m args below meth c H locs 0 0 Q (F0 m 96 ls [])) {n : Nat} {q0 : Int32 × Mem} (h : lp (b_X3_accepts_62 fu k1) n q0 = some x) : ∀ (H : Heap) (locs : List Loc) (ls : Array Slot), va_P (gD g) vwCl (wlG g q0.2) H → va_S (AbG g) s.heap H locs → lv_has ls 4 [(0, .ref (ga g 111)), (3, .int q0.1)] → W p l e (headSpec wsX3_accepts rmX3_accepts).room s m args below meth c H locs 0 0 Q (F0 m 62 ls []) := by
  refine lp_elim (P := fun q0 : Int32 × Mem => ∀ (H : Heap) (locs : List Loc) (ls : Array Slot), va_P (gD g) vwCl (wlG g q0.2) H → va_S (AbG g) s.heap H locs → lv_has ls 4 [(0, .ref (ga g 111)), (3, .int q0.1)] → W p l e (headSpec wsX3_accepts rmX3_accepts).room s m args below meth c H locs 0 0 Q (F0 m 62 ls [])) (fun q1 o hm hI hX => ?_) n q0 h
  obtain ⟨c3, M⟩ := q1
  have kb : ∀ (d3 : Int32) (M2 : Mem) , o = .inl (d3, M2) → ∀ (H : Heap) (locs : List Loc) (ls : Array Slot), va_P (gD g) vwCl (wlG g M2) H → va_S (AbG g) s.heap H locs → lv_has ls 4 [(0, .ref (ga g 111)), (3, .int d3)] → W p l e (headSpec wsX3_accepts rmX3_accepts).room s m args below meth c H locs 0 0 Q (F0 m 62 ls []) := fun d3 M2 e => hI _ e
  have kx0 : ∀ (M2 : Mem) , o = .inr (.inl M2) → ∀ (H : Heap) (locs : List Loc) (ls : Array Slot), va_P (gD g) vwCl (wlG g M2) H → va_S (AbG g) s.heap H locs → lv_has ls 4 [] → W p l e (headSpec wsX3_accepts rmX3_accepts).room s m args below meth c H locs 0 0 Q (F0 m 84 ls []) := fun M2 e => kx0 M2 (hX _ e).symm
  have kx1 : ∀ (M2 : Mem) , o = .inr (.inr M2) → ∀ (H : Heap) (locs : List Loc) (ls : Array Slot), va_P (gD g) vwCl (wlG g M2) H → va_S (AbG g) s.heap H locs → lv_has ls 4 [(0, .ref (ga g 111))] → W p l e (headSpec wsX3_accepts rmX3_accepts).room s m args below meth c H locs 0 0 Q (F0 m 96 ls []) := fun M2 e => kx1 M2 (hX _ e).symm
  clear hI hX
  intro H locs ls hP hS hl
  obtain ⟨⟨hx, hb, hml, hown, hts⟩, -, -⟩ := id X
  have hl : lv_has ls 4 [(0, .ref (ga g 111)), (3, .int c3)] := hl
  have hP : va_P (gD g) vwCl (wlG g M) H := hP
  unfold b_X3_accepts_62 at hm
  replace hm := un2_e hm
  refine lv_iload_n hx hb dX3_accepts_62 rfl (lv_at hl 1 rfl) ?_
  refine lv_aload_n hx hb dX3_accepts_63 rfl (lv_at hl 0 rfl) ?_
  refine xg_X3_6 X hP hAll uX3_accepts_X3 mbX3_accepts_6 dX3_accepts_64 ?_
  refine lv_icmp_ge (tgt := 96) hx hb dX3_accepts_67 (by decide) (fun h_24 => ?_) (fun h_24 => ?_)
  · rw [if_pos h_24] at hm
    exact kx1 M (Option.some.inj hm).symm _ _ _ hP hS (lv_sub hl [0] rfl)
  · rw [if_neg h_24] at hm
    refine lv_aload_n hx hb dX3_accepts_70 rfl (lv_at hl 0 rfl) ?_
    refine xg_X3_9 X hP hAll uX3_accepts_X3 mbX3_accepts_15 dX3_accepts_71 ?_
    refine lv_if_eq (tgt := 96) hx hb dX3_accepts_74 (by decide) (fun h_25 => ?_) (fun h_25 => ?_)
    · rw [if_pos h_25] at hm
      exact kx1 M (Option.some.inj hm).symm _ _ _ hP hS (lv_sub hl [0] rfl)
    · rw [if_neg h_25] at hm
      refine lv_aload_n hx hb dX3_accepts_77 rfl (lv_at hl 0 rfl) ?_
      obtain ⟨⟨r_27, M_28⟩, hc_26, hm⟩ := bind_elim hm
      replace hm := un2_e hm
      refine x_calli (x_runV (As := []) (rest := []) X hP hS (c_X3_readsToken l X.2.2 hAll hc_26) (cwV 0 hts gX3_accepts_X3_readsToken rfl rfl rfl (by decide +kernel) ⟨Nat.le_of_ble_eq_true rfl, Nat.le_of_ble_eq_true rfl⟩) (x_recv (C := RX3) (T := TX3) (N := 17) X hP (okc_111 hAll) rfl) rfl hl.1 rfl (Nat.le_of_ble_eq_true rfl) dX3_accepts_78 ⟨Nat.zero_le _, Nat.zero_le _⟩) hS (fun H locs hP hS => ?_)
      refine lv_if_ne (tgt := 86) hx hb dX3_accepts_81 (by decide) (fun h_29 => ?_) (fun h_29 => ?_)
      · rw [if_neg h_29] at hm
        refine lv_aload_n hx hb dX3_accepts_86 rfl (lv_at hl 0 rfl) ?_
        obtain ⟨M_31, hc_30, hm⟩ := bind_elim hm
        refine x_callv (x_runV (As := []) (rest := []) X hP hS (c_X3_advance l X.2.2 hAll hc_30) (cwV 0 hts gX3_accepts_X3_advance rfl rfl rfl (by decide +kernel) ⟨Nat.le_of_ble_eq_true rfl, Nat.le_of_ble_eq_true rfl⟩) (x_recv (C := RX3) (T := TX3) (N := 17) X hP (okc_111 hAll) rfl) rfl hl.1 rfl (Nat.le_of_ble_eq_true rfl) dX3_accepts_87 ⟨Nat.zero_le _, Nat.zero_le _⟩) hS (fun H locs hP hS => ?_)
        obtain ⟨v_32, hv_33, hm⟩ := bnd_elim hm
        refine lv_iinc (v := v_32) (lv' := [(3, .int v_32), (0, .ref (ga g 111))]) hx hb dX3_accepts_90 hl (k := 1) rfl (by rw [hv_33]; rfl) (by decide) rfl (fun ls hl => ?_)
        refine lv_goto (tgt := 62) hx hb dX3_accepts_93 (by decide) ?_
        exact kb v_32 M_31 (Option.some.inj hm).symm _ _ _ hP hS (lv_sub hl [1, 0] rfl)
      · rw [if_pos h_29] at hm
        exact kx0 M_28 (Option.some.inj hm).symm _ _ _ hP hS (lv_sub hl [] rfl)

set_option maxHeartbeats 4000000 in
set_option maxRecDepth 100000 in
theorem wj_X3_accepts_111 (X : CxG g p s m args c cX3_accepts 4 RX3 wsX3_accepts) (hAll : okAll g) {k1 : Nat} (okk1 : okA g k1 0 400) {fu : Nat} {M : Mem} {rr : Int32} {MM : Mem} (hr : meth.sig.returnType = (some .boolean)) (hlocks : meth.locks = false) (hm : j_X3_accepts_111 fu k1 M = some (rr, MM)) {H : Heap} {locs : List Loc} {ls : Array Slot} (hP : va_P (gD g) vwCl (wlG g M) H) (hS : va_S (AbG g) s.heap H locs) (hl : lv_has ls 4 []) : W p l e (headSpec wsX3_accepts rmX3_accepts).room s m args below meth c H locs 0 0 (MQ below (va_Qi (fun (q : Int32) (_ : Unit) => q = rr) (fun _ t => va_P (gD g) vwCl (wlG g MM) t.heap) (AbG g)) args s 0 0 (AbG g)) (F0 m 111 ls []) := by
  obtain ⟨⟨hx, hb, hml, hown, hts⟩, -, -⟩ := id X
  unfold j_X3_accepts_111 at hm
  refine lv_iconst (v := 1) hx hb dX3_accepts_111 (by decide) ?_
  refine lv_goto (tgt := 116) hx hb dX3_accepts_112 (by decide) ?_
  cases hm
  exact x_zret X (by decide) hP hS hr hlocks dX3_accepts_116

set_option maxHeartbeats 4000000 in
set_option maxRecDepth 100000 in
theorem c_X3_accepts (l : Launch) {g : GT} (hA : AxG g) (hAll : okAll g) {k1 : Nat} (okk1 : okA g k1 0 400) {fu : Nat} {M : Mem} {a2 : Int32} {rr : Int32} {MM : Mem} (hm : m_X3_accepts fu k1 M a2 = some (rr, MM)) : CI l yX3_accepts wsX3_accepts rmX3_accepts g [.ref (ga g 111), .ref (ga g k1), .int a2] M rr MM := by
  refine Met.ofW (cc := cX3_accepts) (maxL := 4) (ret := (some .boolean)) (by decide) rfl ?_
  intro p e s m args below meth c s₁ B hml hv
  obtain ⟨rfl, hSx, hP⟩ := hv
  have hr := B.returns
  have hlocks := B.notSynchronized
  have X : CxG g p s m _ c cX3_accepts 4 RX3 wsX3_accepts := ⟨⟨B.exec, B.bytes, hml, findClass_of_methodNamed B.named, atoms_spec (ws := wsX3_accepts) B.pre⟩, hSx, hA⟩
  have hS : va_S (AbG g) s.heap s.heap [] := va_S.rf
  have hl := lv_entry (([.ref (ga g 111), .ref (ga g k1), .int a2] : List Value)) (n := 4) (Nat.le_of_ble_eq_true rfl)
  rw [lg_entry_eq]
  generalize (lg_sl (([.ref (ga g 111), .ref (ga g k1), .int a2] : List Value)) ++ List.replicate (4 - (lg_sl (([.ref (ga g 111), .ref (ga g k1), .int a2] : List Value))).length) Slot.unset).toArray = ls at hl ⊢
  have hl : lv_has ls 4 [(0, .ref (ga g 111)), (1, .ref (ga g k1)), (2, .int a2)] := hl
  obtain ⟨⟨hx, hb, hml, hown, hts⟩, -, -⟩ := id X
  unfold m_X3_accepts at hm
  refine lv_aload_n hx hb dX3_accepts_0 rfl (lv_at hl 1 rfl) ?_
  refine lv_iconst (v := 0) hx hb dX3_accepts_1 (by decide) ?_
  refine lv_aload_n hx hb dX3_accepts_2 rfl (lv_at hl 0 rfl) ?_
  refine xg_X3_5 X hP hAll uX3_accepts_X3 mbX3_accepts_1 dX3_accepts_3 ?_
  refine lv_iconst (v := 0) hx hb dX3_accepts_6 (by decide) ?_
  refine lv_iload_n hx hb dX3_accepts_7 rfl (lv_at hl 2 rfl) ?_
  obtain ⟨hc_1, hm⟩ := chk_elim hm
  obtain ⟨M_2, hM_3, hm⟩ := bnd_elim hm
  refine x_copyi X hP hS (hml.trans hl.1.symm) mbX3_accepts_2 mbX3_accepts_3 mbX3_accepts_4 mbX3_accepts_5 okk1 (okc_113 hAll) hc_1 hM_3 (Nat.le_of_ble_eq_true rfl) (Nat.le_of_ble_eq_true rfl) dX3_accepts_8 (fun H locs hP hS => ?_)
  refine lv_aload_n hx hb dX3_accepts_11 rfl (lv_at hl 0 rfl) ?_
  refine lv_iload_n hx hb dX3_accepts_12 rfl (lv_at hl 2 rfl) ?_
  obtain ⟨M_4, hM_5, hm⟩ := bnd_elim hm
  refine xp_X3_6 X hP hAll uX3_accepts_X3 mbX3_accepts_6 hS hM_5 dX3_accepts_13 (fun H locs hP hS => ?_)
  refine lv_aload_n hx hb dX3_accepts_16 rfl (lv_at hl 0 rfl) ?_
  refine lv_iconst (v := 0) hx hb dX3_accepts_17 (by decide) ?_
  obtain ⟨M_6, hM_7, hm⟩ := bnd_elim hm
  refine xp_X3_8 X hP hAll uX3_accepts_X3 mbX3_accepts_7 hS hM_7 dX3_accepts_18 (fun H locs hP hS => ?_)
  refine lv_aload_n hx hb dX3_accepts_21 rfl (lv_at hl 0 rfl) ?_
  refine lv_iconst (v := 0) hx hb dX3_accepts_22 (by decide) ?_
  obtain ⟨M_8, hM_9, hm⟩ := bnd_elim hm
  refine xp_X3_1 X hP hAll uX3_accepts_X3 mbX3_accepts_8 hS hM_9 dX3_accepts_23 (fun H locs hP hS => ?_)
  refine lv_aload_n hx hb dX3_accepts_26 rfl (lv_at hl 0 rfl) ?_
  refine lv_iconst (v := 0) hx hb dX3_accepts_27 (by decide) ?_
  obtain ⟨M_10, hM_11, hm⟩ := bnd_elim hm
  refine xp_X3_2 X hP hAll uX3_accepts_X3 mbX3_accepts_9 hS hM_11 dX3_accepts_28 (fun H locs hP hS => ?_)
  refine lv_aload_n hx hb dX3_accepts_31 rfl (lv_at hl 0 rfl) ?_
  refine lv_iconst (v := 0) hx hb dX3_accepts_32 (by decide) ?_
  obtain ⟨M_12, hM_13, hm⟩ := bnd_elim hm
  refine xp_X3_3 X hP hAll uX3_accepts_X3 mbX3_accepts_10 hS hM_13 dX3_accepts_33 (fun H locs hP hS => ?_)
  refine lv_aload_n hx hb dX3_accepts_36 rfl (lv_at hl 0 rfl) ?_
  refine lv_iconst (v := (-1)) hx hb dX3_accepts_37 (by decide) ?_
  obtain ⟨M_14, hM_15, hm⟩ := bnd_elim hm
  refine xp_X3_4 X hP hAll uX3_accepts_X3 mbX3_accepts_11 hS hM_15 dX3_accepts_38 (fun H locs hP hS => ?_)
  refine lv_aload_n hx hb dX3_accepts_41 rfl (lv_at hl 0 rfl) ?_
  refine lv_iconst (v := 0) hx hb dX3_accepts_42 (by decide) ?_
  obtain ⟨M_16, hM_17, hm⟩ := bnd_elim hm
  refine xp_X3_11 X hP hAll uX3_accepts_X3 mbX3_accepts_12 hS hM_17 dX3_accepts_43 (fun H locs hP hS => ?_)
  refine lv_aload_n hx hb dX3_accepts_46 rfl (lv_at hl 0 rfl) ?_
  refine lv_iconst (v := 0) hx hb dX3_accepts_47 (by decide) ?_
  obtain ⟨M_18, hM_19, hm⟩ := bnd_elim hm
  refine xp_X3_15 X hP hAll uX3_accepts_X3 mbX3_accepts_13 hS hM_19 dX3_accepts_48 (fun H locs hP hS => ?_)
  refine lv_aload_n hx hb dX3_accepts_51 rfl (lv_at hl 0 rfl) ?_
  refine lv_iconst (v := 0) hx hb dX3_accepts_52 (by decide) ?_
  obtain ⟨M_20, hM_21, hm⟩ := bnd_elim hm
  refine xp_X3_16 X hP hAll uX3_accepts_X3 mbX3_accepts_14 hS hM_21 dX3_accepts_53 (fun H locs hP hS => ?_)
  refine lv_aload_n hx hb dX3_accepts_56 rfl (lv_at hl 0 rfl) ?_
  obtain ⟨M_23, hc_22, hm⟩ := bind_elim hm
  refine x_callv (x_runV (As := []) (rest := []) X hP hS (c_X3_advance l X.2.2 hAll hc_22) (cwV 0 hts gX3_accepts_X3_advance rfl rfl rfl (by decide +kernel) ⟨Nat.le_of_ble_eq_true rfl, Nat.le_of_ble_eq_true rfl⟩) (x_recv (C := RX3) (T := TX3) (N := 17) X hP (okc_111 hAll) rfl) rfl hl.1 rfl (Nat.le_of_ble_eq_true rfl) dX3_accepts_57 ⟨Nat.zero_le _, Nat.zero_le _⟩) hS (fun H locs hP hS => ?_)
  refine lv_iconst (v := 0) hx hb dX3_accepts_60 (by decide) ?_
  refine lv_istore_n (lv' := [(3, .int 0), (0, .ref (ga g 111)), (1, .ref (ga g k1)), (2, .int a2)]) hx hb dX3_accepts_61 rfl hl (by decide) rfl (fun ls hl => ?_)
  obtain ⟨x_34, hL_35, hm⟩ := bind_elim hm
  refine wl_X3_accepts_62 X hAll okk1 ?_ ?_ hL_35 _ _ _ hP hS (lv_sub hl [1, 0] rfl)
  · intro M_36 e_x_34 H locs ls hP hS hl
    subst e_x_34
    replace hm := unS_l hm
    replace hm := un1_e hm
    refine lv_iconst (v := 0) hx hb dX3_accepts_84 (by decide) ?_
    cases hm
    exact x_zret X (by decide) hP hS hr hlocks dX3_accepts_85
  · intro M_37 e_x_34 H locs ls hP hS hl
    subst e_x_34
    replace hm := unS_r hm
    replace hm := un1_e hm
    refine lv_aload_n hx hb dX3_accepts_96 rfl (lv_at hl 0 rfl) ?_
    refine xg_X3_11 X hP hAll uX3_accepts_X3 mbX3_accepts_12 dX3_accepts_97 ?_
    refine lv_if_eq (tgt := 111) hx hb dX3_accepts_100 (by decide) (fun h_38 => ?_) (fun h_38 => ?_)
    · rw [if_pos h_38] at hm
      exact wj_X3_accepts_111 X hAll okk1 hr hlocks hm hP hS (lv_sub hl [] rfl)
    · rw [if_neg h_38] at hm
      refine lv_aload_n hx hb dX3_accepts_103 rfl (lv_at hl 0 rfl) ?_
      refine lv_iconst (v := 1) hx hb dX3_accepts_104 (by decide) ?_
      obtain ⟨⟨r_40, M_41⟩, hc_39, hm⟩ := bind_elim hm
      replace hm := un2_e hm
      refine x_calli (x_runV (As := [.int 1]) (rest := []) X hP hS (c_X3_refuse l X.2.2 hAll hc_39) (cwV 1 hts gX3_accepts_X3_refuse rfl rfl rfl (by decide +kernel) ⟨Nat.le_of_ble_eq_true rfl, Nat.le_of_ble_eq_true rfl⟩) (x_recv (C := RX3) (T := TX3) (N := 17) X hP (okc_111 hAll) rfl) rfl hl.1 rfl (Nat.le_of_ble_eq_true rfl) dX3_accepts_105 ⟨Nat.zero_le _, Nat.zero_le _⟩) hS (fun H locs hP hS => ?_)
      refine lv_if_eq (tgt := 115) hx hb dX3_accepts_108 (by decide) (fun h_42 => ?_) (fun h_42 => ?_)
      · rw [if_pos h_42] at hm
        refine lv_iconst (v := 0) hx hb dX3_accepts_115 (by decide) ?_
        cases hm
        exact x_zret X (by decide) hP hS hr hlocks dX3_accepts_116
      · rw [if_neg h_42] at hm
        exact wj_X3_accepts_111 X hAll okk1 hr hlocks hm hP hS (lv_sub hl [] rfl)

end
