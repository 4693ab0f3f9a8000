/-! walks: written by wip/whole/gen/gen.py out of the printed names -/
section
variable {p : Program} {l : Launch} {e : Env} {s : State} {m : MethodId} {args : Array Value} {below : List Frame} {meth : Method} {c : Code} {Q : State → Prop} {g : GT}
/-! X6_lowered -/
def rmX6_lowered : Room := { frames := 0, cells := 0, slots := 0, locals := 0 }

set_option maxHeartbeats 4000000 in
set_option maxRecDepth 100000 in
theorem c_X6_lowered (l : Launch) {g : GT} (hA : AxG g)   {M : Mem} {a1 : Int64} {a3 : Int64} {rr : Int64} (hm : m_X6_lowered M a1 a3 = some rr) : CL l yX6_lowered wsX6_lowered rmX6_lowered g [.ref (ga g 148), .long a1, .long a3] M rr M := by
  refine Met.ofW (cc := cX6_lowered) (maxL := 7) (ret := (some .long)) (by decide) rfl ?_
  intro p e s m args below meth c s₁ B hml hv
  obtain ⟨rfl, hSx, hP⟩ := hv
  have hr := B.returns
  have hlocks := B.notSynchronized
  have X : CxG g p s m _ c cX6_lowered 7 RX6 wsX6_lowered := ⟨⟨B.exec, B.bytes, hml, findClass_of_methodNamed B.named, atoms_spec (ws := wsX6_lowered) B.pre⟩, hSx, hA⟩
  have hS : va_S (AbG g) s.heap s.heap [] := va_S.rf
  have hl := lv_entry (([.ref (ga g 148), .long a1, .long a3] : List Value)) (n := 7) (Nat.le_of_ble_eq_true rfl)
  rw [lg_entry_eq]
  generalize (lg_sl (([.ref (ga g 148), .long a1, .long a3] : List Value)) ++ List.replicate (7 - (lg_sl (([.ref (ga g 148), .long a1, .long a3] : List Value))).length) Slot.unset).toArray = ls at hl ⊢
  have hl : lv_has ls 7 [(0, .ref (ga g 148)), (1, .long a1), (3, .long a3)] := hl
  obtain ⟨⟨hx, hb, hml, hown, hts⟩, -, -⟩ := id X
  unfold m_X6_lowered at hm
  refine lv_lload_n hx hb dX6_lowered_0 rfl (lv_at hl 1 rfl) ?_
  refine lv_lload_n hx hb dX6_lowered_1 rfl (lv_at hl 2 rfl) ?_
  obtain ⟨hz_1, hm⟩ := chk_elim hm
  refine lv_ldiv hx hb dX6_lowered_2 (nzl_of hz_1) ?_
  obtain ⟨v_2, hv_3, hm⟩ := bnd_elim hm
  refine x_namel hv_3 ?_
  refine lv_lstore (lv' := [(5, .long v_2), (0, .ref (ga g 148)), (1, .long a1), (3, .long a3)]) hx hb dX6_lowered_3 hl (by decide) rfl (fun ls hl => ?_)
  refine lv_lload_n hx hb dX6_lowered_5 rfl (lv_at hl 2 rfl) ?_
  refine lv_lload_n hx hb dX6_lowered_6 rfl (lv_at hl 3 rfl) ?_
  obtain ⟨hz_4, hm⟩ := chk_elim hm
  refine lv_lrem hx hb dX6_lowered_7 (nzl_of hz_4) ?_
  refine lv_lconst (v := 0) hx hb dX6_lowered_8 (by decide) ?_
  refine W.lcmp hx hb dX6_lowered_9 ?_
  refine lv_if_eq (tgt := 26) hx hb dX6_lowered_10 (by decide) (fun h_5 => ?_) (fun h_5 => ?_)
  · rw [if_pos h_5] at hm
    refine lv_lload hx hb dX6_lowered_26 (lv_at hl 0 rfl) ?_
    cases hm
    exact x_lret X hP hS hr hlocks dX6_lowered_28
  · rw [if_neg h_5] at hm
    refine lv_lload_n hx hb dX6_lowered_13 rfl (lv_at hl 2 rfl) ?_
    refine lv_lconst (v := 0) hx hb dX6_lowered_14 (by decide) ?_
    refine W.lcmp hx hb dX6_lowered_15 ?_
    refine lv_if_ge (tgt := 26) hx hb dX6_lowered_16 (by decide) (fun h_6 => ?_) (fun h_6 => ?_)
    · rw [if_pos h_6] at hm
      refine lv_lload hx hb dX6_lowered_26 (lv_at hl 0 rfl) ?_
      cases hm
      exact x_lret X hP hS hr hlocks dX6_lowered_28
    · rw [if_neg h_6] at hm
      refine lv_lload hx hb dX6_lowered_19 (lv_at hl 0 rfl) ?_
      refine lv_lconst (v := 1) hx hb dX6_lowered_21 (by decide) ?_
      refine lv_lsub hx hb dX6_lowered_22 ?_
      refine lv_goto (tgt := 28) hx hb dX6_lowered_23 (by decide) ?_
      cases hm
      exact x_lret X hP hS hr hlocks dX6_lowered_28


/-! X6_findsTwo -/
def rmX6_findsTwo : Room := { frames := 4, cells := 0, slots := 0, locals := 96 }
theorem uX6_findsTwo_X6 : ∀ w ∈ wsX60, w ∈ wsX6_findsTwo := by decide +kernel
theorem mbX6_findsTwo_1 : Cond.fieldLink RX6 13 "FootANightModel" "wide" "[I" ∈ wsX6_findsTwo := by decide +kernel
theorem mbX6_findsTwo_2 : Cond.fieldLink RX6 99 "FootANightModel" "row" "[I" ∈ wsX6_findsTwo := by decide +kernel
theorem mbX6_findsTwo_3 : Cond.constantLong RX6 323 (1000) ∈ wsX6_findsTwo := by decide +kernel
theorem mbX6_findsTwo_4 : Cond.fieldLink RX6 106 "FootANightModel" "nextBest" "[J" ∈ wsX6_findsTwo := by decide +kernel
theorem mbX6_findsTwo_5 : Cond.fieldLink RX6 109 "FootANightModel" "bestDoing" "[I" ∈ wsX6_findsTwo := by decide +kernel
theorem mbX6_findsTwo_6 : Cond.fieldLink RX6 102 "FootANightModel" "best" "[J" ∈ wsX6_findsTwo := by decide +kernel
set_option maxHeartbeats 4000000 in
set_option maxRecDepth 100000 in
theorem wj_X6_findsTwo_174i (X : CxG g p s m args c cX6_findsTwo 11 RX6 wsX6_findsTwo) (hAll : okAll g) {fu : Nat} {M : Mem} {s1 : Int32} {s2 : Int32} {s3 : Int32} {s4 : Int32} {s5 : Int32} {s9 : Int64} {o : (Int32 × Mem) ⊕ (Mem)} (kb : ∀ (d5 : Int32) (M2 : Mem) , o = .inl (d5, M2) → ∀ (H : Heap) (locs : List Loc) (ls : Array Slot), va_P (gD g) vwCl (wlG g M2) H → va_S (AbG g) s.heap H locs → lv_has ls 11 [(0, .ref (ga g 148)), (1, .int s1), (2, .int s2), (3, .int s3), (4, .int s4), (5, .int d5)] → W p l e (headSpec wsX6_findsTwo rmX6_findsTwo).room s m args below meth c H locs 0 0 Q (F0 m 33 ls [])) (kx0 : ∀ (M2 : Mem) , o = .inr M2 → ∀ (H : Heap) (locs : List Loc) (ls : Array Slot), va_P (gD g) vwCl (wlG g M2) H → va_S (AbG g) s.heap H locs → lv_has ls 11 [(0, .ref (ga g 148)), (1, .int s1), (2, .int s2), (3, .int s3)] → W p l e (headSpec wsX6_findsTwo rmX6_findsTwo).room s m args below meth c H locs 0 0 Q (F0 m 196 ls [])) (hm : j_X6_findsTwo_174i fu M s1 s2 s3 s4 s5 s9 = some o) {H : Heap} {locs : List Loc} {ls : Array Slot} (hP : va_P (gD g) vwCl (wlG g M) H) (hS : va_S (AbG g) s.heap H locs) (hl : lv_has ls 11 [(0, .ref (ga g 148)), (1, .int s1), (2, .int s2), (3, .int s3), (4, .int s4), (5, .int s5), (9, .long s9)]) : W p l e (headSpec wsX6_findsTwo rmX6_findsTwo).room s m args below meth c H locs 0 0 Q (F0 m 174 ls []) := by
  obtain ⟨⟨hx, hb, hml, hown, hts⟩, -, -⟩ := id X
  unfold j_X6_findsTwo_174i at hm
  refine lv_aload_n hx hb dX6_findsTwo_174 rfl (lv_at hl 0 rfl) ?_
  refine xg_X6_46 X hP hAll uX6_findsTwo_X6 mbX6_findsTwo_4 dX6_findsTwo_175 ?_
  refine lv_iload_n hx hb dX6_findsTwo_178 rfl (lv_at hl 3 rfl) ?_
  refine lv_lload hx hb dX6_findsTwo_179 (lv_at hl 6 rfl) ?_
  obtain ⟨hb_28, hm⟩ := chk_elim hm
  obtain ⟨M_29, hM_30, hm⟩ := bnd_elim hm
  refine x_last X hP hS (okc_178 hAll) hM_30 hb_28 dX6_findsTwo_181 (fun H locs hP hS => ?_)
  refine lv_aload_n hx hb dX6_findsTwo_182 rfl (lv_at hl 0 rfl) ?_
  refine xg_X6_47 X hP hAll uX6_findsTwo_X6 mbX6_findsTwo_5 dX6_findsTwo_183 ?_
  refine lv_iload_n hx hb dX6_findsTwo_186 rfl (lv_at hl 3 rfl) ?_
  refine lv_iload hx hb dX6_findsTwo_187 (lv_at hl 5 rfl) ?_
  obtain ⟨M_31, hM_32, hm⟩ := bnd_elim hm
  refine x_iast X hP hS (okc_179 hAll) hM_32 hb_28 dX6_findsTwo_189 (fun H locs hP hS => ?_)
  obtain ⟨v_33, hv_34, hm⟩ := bnd_elim hm
  refine lv_iinc (v := v_33) (lv' := [(5, .int v_33), (0, .ref (ga g 148)), (1, .int s1), (2, .int s2), (3, .int s3), (4, .int s4), (9, .long s9)]) hx hb dX6_findsTwo_190 hl (k := 5) rfl (by rw [hv_34]; rfl) (by decide) rfl (fun ls hl => ?_)
  refine lv_goto (tgt := 33) hx hb dX6_findsTwo_193 (by decide) ?_
  exact kb v_33 M_31 (Option.some.inj hm).symm _ _ _ hP hS (lv_sub hl [1, 2, 3, 4, 5, 0] rfl)

set_option maxHeartbeats 4000000 in
set_option maxRecDepth 100000 in
theorem wj_X6_findsTwo_119i (X : CxG g p s m args c cX6_findsTwo 11 RX6 wsX6_findsTwo) (hAll : okAll g) {fu : Nat} {M : Mem} {s1 : Int32} {s2 : Int32} {s3 : Int32} {s4 : Int32} {s5 : Int32} {s7 : Int32} {t0 : Int32} {o : (Int32 × Mem) ⊕ (Mem)} (kb : ∀ (d5 : Int32) (M2 : Mem) , o = .inl (d5, M2) → ∀ (H : Heap) (locs : List Loc) (ls : Array Slot), va_P (gD g) vwCl (wlG g M2) H → va_S (AbG g) s.heap H locs → lv_has ls 11 [(0, .ref (ga g 148)), (1, .int s1), (2, .int s2), (3, .int s3), (4, .int s4), (5, .int d5)] → W p l e (headSpec wsX6_findsTwo rmX6_findsTwo).room s m args below meth c H locs 0 0 Q (F0 m 33 ls [])) (kx0 : ∀ (M2 : Mem) , o = .inr M2 → ∀ (H : Heap) (locs : List Loc) (ls : Array Slot), va_P (gD g) vwCl (wlG g M2) H → va_S (AbG g) s.heap H locs → lv_has ls 11 [(0, .ref (ga g 148)), (1, .int s1), (2, .int s2), (3, .int s3)] → W p l e (headSpec wsX6_findsTwo rmX6_findsTwo).room s m args below meth c H locs 0 0 Q (F0 m 196 ls [])) (hm : j_X6_findsTwo_119i fu M s1 s2 s3 s4 s5 s7 t0 = some o) {H : Heap} {locs : List Loc} {ls : Array Slot} (hP : va_P (gD g) vwCl (wlG g M) H) (hS : va_S (AbG g) s.heap H locs) (hl : lv_has ls 11 [(0, .ref (ga g 148)), (1, .int s1), (2, .int s2), (3, .int s3), (4, .int s4), (5, .int s5), (7, .int s7)]) : W p l e (headSpec wsX6_findsTwo rmX6_findsTwo).room s m args below meth c H locs 0 0 Q (F0 m 119 ls [.int t0]) := by
  obtain ⟨⟨hx, hb, hml, hown, hts⟩, -, -⟩ := id X
  unfold j_X6_findsTwo_119i at hm
  refine lv_istore (lv' := [(8, .int t0), (0, .ref (ga g 148)), (1, .int s1), (2, .int s2), (3, .int s3), (4, .int s4), (5, .int s5), (7, .int s7)]) hx hb dX6_findsTwo_119 hl (by decide) rfl (fun ls hl => ?_)
  refine lv_ldc2 (v := 1000) hx hb hown (hts _ mbX6_findsTwo_3) dX6_findsTwo_121 ?_
  refine lv_aload_n hx hb dX6_findsTwo_124 rfl (lv_at hl 1 rfl) ?_
  refine lv_iconst (v := 0) hx hb dX6_findsTwo_125 (by decide) ?_
  obtain ⟨r_20, hc_19, hm⟩ := bind_elim hm
  refine x_calli (x_runV (As := [.int 0]) (rest := [.long 1000]) X hP hS (c_X6_valueOf l X.2.2 hAll hc_19) (cwV 1 hts gX6_findsTwo_X6_valueOf rfl rfl rfl (by decide +kernel) ⟨Nat.le_of_ble_eq_true rfl, Nat.le_of_ble_eq_true rfl⟩) (x_recv (C := RX6) (T := TX6) (N := 55) X hP (okc_148 hAll) rfl) rfl hl.1 rfl (Nat.le_of_ble_eq_true rfl) dX6_findsTwo_126 ⟨Nat.zero_le _, Nat.zero_le _⟩) hS (fun H locs hP hS => ?_)
  refine lv_i2l (v := r_20.toInt64) hx hb dX6_findsTwo_129 rfl ?_
  refine lv_lmul hx hb dX6_findsTwo_130 ?_
  refine lv_aload_n hx hb dX6_findsTwo_131 rfl (lv_at hl 1 rfl) ?_
  refine lv_iload_n hx hb dX6_findsTwo_132 rfl (lv_at hl 2 rfl) ?_
  refine lv_i2l (v := s1.toInt64) hx hb dX6_findsTwo_133 rfl ?_
  refine lv_aload_n hx hb dX6_findsTwo_134 rfl (lv_at hl 1 rfl) ?_
  refine lv_iload_n hx hb dX6_findsTwo_135 rfl (lv_at hl 4 rfl) ?_
  refine lv_iload_n hx hb dX6_findsTwo_136 rfl (lv_at hl 3 rfl) ?_
  refine lv_iload hx hb dX6_findsTwo_137 (lv_at hl 7 rfl) ?_
  refine lv_iload hx hb dX6_findsTwo_139 (lv_at hl 0 rfl) ?_
  obtain ⟨r_22, hc_21, hm⟩ := bind_elim hm
  refine x_calll (x_runV (As := [.int s3, .int s2, .int s7, .int t0]) (rest := [.long s1.toInt64, .ref (ga g 148), .long (1000 * r_20.toInt64)]) X hP hS (c_X6_nextOf l X.2.2 hAll hc_21) (cwV 4 hts gX6_findsTwo_X6_nextOf rfl rfl rfl (by decide +kernel) ⟨Nat.le_of_ble_eq_true rfl, Nat.le_of_ble_eq_true rfl⟩) (x_recv (C := RX6) (T := TX6) (N := 55) X hP (okc_148 hAll) rfl) rfl hl.1 rfl (Nat.le_of_ble_eq_true rfl) dX6_findsTwo_141 ⟨Nat.zero_le _, Nat.zero_le _⟩) hS (fun H locs hP hS => ?_)
  refine lv_lmul hx hb dX6_findsTwo_144 ?_
  refine lv_ldc2 (v := 1000) hx hb hown (hts _ mbX6_findsTwo_3) dX6_findsTwo_145 ?_
  obtain ⟨r_24, hc_23, hm⟩ := bind_elim hm
  refine x_calll (x_runV (As := [.long (s1.toInt64 * r_22), .long 1000]) (rest := [.long (1000 * r_20.toInt64)]) X hP hS (c_X6_lowered l X.2.2 hc_23) (cwV 2 hts gX6_findsTwo_X6_lowered rfl rfl rfl (by decide +kernel) ⟨Nat.le_of_ble_eq_true rfl, Nat.le_of_ble_eq_true rfl⟩) (x_recv (C := RX6) (T := TX6) (N := 55) X hP (okc_148 hAll) rfl) rfl hl.1 rfl (Nat.le_of_ble_eq_true rfl) dX6_findsTwo_148 ⟨Nat.zero_le _, Nat.zero_le _⟩) hS (fun H locs hP hS => ?_)
  refine lv_ladd hx hb dX6_findsTwo_151 ?_
  obtain ⟨v_25, hv_26, hm⟩ := bnd_elim hm
  refine x_namel hv_26 ?_
  refine lv_lstore (lv' := [(9, .long v_25), (8, .int t0), (0, .ref (ga g 148)), (1, .int s1), (2, .int s2), (3, .int s3), (4, .int s4), (5, .int s5), (7, .int s7)]) hx hb dX6_findsTwo_152 hl (by decide) rfl (fun ls hl => ?_)
  refine lv_iload hx hb dX6_findsTwo_154 (lv_at hl 7 rfl) ?_
  refine lv_if_le (tgt := 174) hx hb dX6_findsTwo_156 (by decide) (fun h_27 => ?_) (fun h_27 => ?_)
  · rw [if_pos h_27] at hm
    exact wj_X6_findsTwo_174i X hAll kb kx0 hm hP hS (lv_sub hl [2, 3, 4, 5, 6, 7, 0] rfl)
  · rw [if_neg h_27] at hm
    refine lv_lload hx hb dX6_findsTwo_159 (lv_at hl 0 rfl) ?_
    refine lv_aload_n hx hb dX6_findsTwo_161 rfl (lv_at hl 2 rfl) ?_
    refine xg_X6_46 X hP hAll uX6_findsTwo_X6 mbX6_findsTwo_4 dX6_findsTwo_162 ?_
    refine lv_iload_n hx hb dX6_findsTwo_165 rfl (lv_at hl 5 rfl) ?_
    obtain ⟨hb_35, hm⟩ := chk_elim hm
    refine x_lald X hP (okc_178 hAll) hb_35 dX6_findsTwo_166 ?_
    refine W.lcmp hx hb dX6_findsTwo_167 ?_
    refine lv_if_gt (tgt := 174) hx hb dX6_findsTwo_168 (by decide) (fun h_36 => ?_) (fun h_36 => ?_)
    · rw [if_pos h_36] at hm
      exact wj_X6_findsTwo_174i X hAll kb kx0 hm hP hS (lv_sub hl [2, 3, 4, 5, 6, 7, 0] rfl)
    · rw [if_neg h_36] at hm
      refine lv_goto (tgt := 190) hx hb dX6_findsTwo_171 (by decide) ?_
      obtain ⟨v_37, hv_38, hm⟩ := bnd_elim hm
      refine lv_iinc (v := v_37) (lv' := [(5, .int v_37), (9, .long v_25), (8, .int t0), (0, .ref (ga g 148)), (1, .int s1), (2, .int s2), (3, .int s3), (4, .int s4), (7, .int s7)]) hx hb dX6_findsTwo_190 hl (k := 7) rfl (by rw [hv_38]; rfl) (by decide) rfl (fun ls hl => ?_)
      refine lv_goto (tgt := 33) hx hb dX6_findsTwo_193 (by decide) ?_
      exact kb v_37 M (Option.some.inj hm).symm _ _ _ hP hS (lv_sub hl [3, 4, 5, 6, 7, 0] rfl)

set_option maxHeartbeats 4000000 in
set_option maxRecDepth 100000 in
theorem wj_X6_findsTwo_118i (X : CxG g p s m args c cX6_findsTwo 11 RX6 wsX6_findsTwo) (hAll : okAll g) {fu : Nat} {M : Mem} {s1 : Int32} {s2 : Int32} {s3 : Int32} {s4 : Int32} {s5 : Int32} {s7 : Int32} {o : (Int32 × Mem) ⊕ (Mem)} (kb : ∀ (d5 : Int32) (M2 : Mem) , o = .inl (d5, M2) → ∀ (H : Heap) (locs : List Loc) (ls : Array Slot), va_P (gD g) vwCl (wlG g M2) H → va_S (AbG g) s.heap H locs → lv_has ls 11 [(0, .ref (ga g 148)), (1, .int s1), (2, .int s2), (3, .int s3), (4, .int s4), (5, .int d5)] → W p l e (headSpec wsX6_findsTwo rmX6_findsTwo).room s m args below meth c H locs 0 0 Q (F0 m 33 ls [])) (kx0 : ∀ (M2 : Mem) , o = .inr M2 → ∀ (H : Heap) (locs : List Loc) (ls : Array Slot), va_P (gD g) vwCl (wlG g M2) H → va_S (AbG g) s.heap H locs → lv_has ls 11 [(0, .ref (ga g 148)), (1, .int s1), (2, .int s2), (3, .int s3)] → W p l e (headSpec wsX6_findsTwo rmX6_findsTwo).room s m args below meth c H locs 0 0 Q (F0 m 196 ls [])) (hm : j_X6_findsTwo_118i fu M s1 s2 s3 s4 s5 s7 = some o) {H : Heap} {locs : List Loc} {ls : Array Slot} (hP : va_P (gD g) vwCl (wlG g M) H) (hS : va_S (AbG g) s.heap H locs) (hl : lv_has ls 11 [(0, .ref (ga g 148)), (1, .int s1), (2, .int s2), (3, .int s3), (4, .int s4), (5, .int s5), (7, .int s7)]) : W p l e (headSpec wsX6_findsTwo rmX6_findsTwo).room s m args below meth c H locs 0 0 Q (F0 m 118 ls []) := by
  obtain ⟨⟨hx, hb, hml, hown, hts⟩, -, -⟩ := id X
  unfold j_X6_findsTwo_118i at hm
  refine lv_iconst (v := 0) hx hb dX6_findsTwo_118 (by decide) ?_
  exact wj_X6_findsTwo_119i X hAll kb kx0 hm hP hS (lv_sub hl [0, 1, 2, 3, 4, 5, 6] rfl)

set_option maxHeartbeats 4000000 in
set_option maxRecDepth 100000 in
theorem wj_X6_findsTwo_94i (X : CxG g p s m args c cX6_findsTwo 11 RX6 wsX6_findsTwo) (hAll : okAll g) {fu : Nat} {M : Mem} {s1 : Int32} {s2 : Int32} {s3 : Int32} {s4 : Int32} {s5 : Int32} {s6 : Int32} {t0 : Int32} {o : (Int32 × Mem) ⊕ (Mem)} (kb : ∀ (d5 : Int32) (M2 : Mem) , o = .inl (d5, M2) → ∀ (H : Heap) (locs : List Loc) (ls : Array Slot), va_P (gD g) vwCl (wlG g M2) H → va_S (AbG g) s.heap H locs → lv_has ls 11 [(0, .ref (ga g 148)), (1, .int s1), (2, .int s2), (3, .int s3), (4, .int s4), (5, .int d5)] → W p l e (headSpec wsX6_findsTwo rmX6_findsTwo).room s m args below meth c H locs 0 0 Q (F0 m 33 ls [])) (kx0 : ∀ (M2 : Mem) , o = .inr M2 → ∀ (H : Heap) (locs : List Loc) (ls : Array Slot), va_P (gD g) vwCl (wlG g M2) H → va_S (AbG g) s.heap H locs → lv_has ls 11 [(0, .ref (ga g 148)), (1, .int s1), (2, .int s2), (3, .int s3)] → W p l e (headSpec wsX6_findsTwo rmX6_findsTwo).room s m args below meth c H locs 0 0 Q (F0 m 196 ls [])) (hm : j_X6_findsTwo_94i fu M s1 s2 s3 s4 s5 s6 t0 = some o) {H : Heap} {locs : List Loc} {ls : Array Slot} (hP : va_P (gD g) vwCl (wlG g M) H) (hS : va_S (AbG g) s.heap H locs) (hl : lv_has ls 11 [(0, .ref (ga g 148)), (1, .int s1), (2, .int s2), (3, .int s3), (4, .int s4), (5, .int s5), (6, .int s6)]) : W p l e (headSpec wsX6_findsTwo rmX6_findsTwo).room s m args below meth c H locs 0 0 Q (F0 m 94 ls [.int t0]) := by
  obtain ⟨⟨hx, hb, hml, hown, hts⟩, -, -⟩ := id X
  unfold j_X6_findsTwo_94i at hm
  refine lv_istore (lv' := [(7, .int t0), (0, .ref (ga g 148)), (1, .int s1), (2, .int s2), (3, .int s3), (4, .int s4), (5, .int s5), (6, .int s6)]) hx hb dX6_findsTwo_94 hl (by decide) rfl (fun ls hl => ?_)
  refine lv_iload hx hb dX6_findsTwo_96 (lv_at hl 5 rfl) ?_
  refine lv_iconst (v := 2) hx hb dX6_findsTwo_98 (by decide) ?_
  refine lv_icmp_ne (tgt := 118) hx hb dX6_findsTwo_99 (by decide) (fun h_18 => ?_) (fun h_18 => ?_)
  · rw [if_neg h_18] at hm
    exact wj_X6_findsTwo_118i X hAll kb kx0 hm hP hS (lv_sub hl [1, 2, 3, 4, 5, 6, 0] rfl)
  · rw [if_pos h_18] at hm
    refine lv_iload hx hb dX6_findsTwo_102 (lv_at hl 7 rfl) ?_
    refine lv_if_eq (tgt := 118) hx hb dX6_findsTwo_104 (by decide) (fun h_39 => ?_) (fun h_39 => ?_)
    · rw [if_pos h_39] at hm
      exact wj_X6_findsTwo_118i X hAll kb kx0 hm hP hS (lv_sub hl [1, 2, 3, 4, 5, 6, 0] rfl)
    · rw [if_neg h_39] at hm
      refine lv_aload_n hx hb dX6_findsTwo_107 rfl (lv_at hl 1 rfl) ?_
      refine lv_iconst (v := 0) hx hb dX6_findsTwo_108 (by decide) ?_
      refine lv_iconst (v := 0) hx hb dX6_findsTwo_109 (by decide) ?_
      refine lv_iload hx hb dX6_findsTwo_110 (lv_at hl 6 rfl) ?_
      obtain ⟨r_41, hc_40, hm⟩ := bind_elim hm
      refine x_calli (x_runV (As := [.int 0, .int 0, .int s5]) (rest := []) X hP hS (c_X6_chanceOf l X.2.2 hAll hc_40) (cwV 3 hts gX6_findsTwo_X6_chanceOf rfl rfl rfl (by decide +kernel) ⟨Nat.le_of_ble_eq_true rfl, Nat.le_of_ble_eq_true rfl⟩) (x_recv (C := RX6) (T := TX6) (N := 55) X hP (okc_148 hAll) rfl) rfl hl.1 rfl (Nat.le_of_ble_eq_true rfl) dX6_findsTwo_112 ⟨Nat.zero_le _, Nat.zero_le _⟩) hS (fun H locs hP hS => ?_)
      refine lv_goto (tgt := 119) hx hb dX6_findsTwo_115 (by decide) ?_
      exact wj_X6_findsTwo_119i X hAll kb kx0 hm hP hS (lv_sub hl [1, 2, 3, 4, 5, 6, 0] rfl)

set_option maxHeartbeats 4000000 in
set_option maxRecDepth 100000 in
theorem wj_X6_findsTwo_93i (X : CxG g p s m args c cX6_findsTwo 11 RX6 wsX6_findsTwo) (hAll : okAll g) {fu : Nat} {M : Mem} {s1 : Int32} {s2 : Int32} {s3 : Int32} {s4 : Int32} {s5 : Int32} {s6 : Int32} {o : (Int32 × Mem) ⊕ (Mem)} (kb : ∀ (d5 : Int32) (M2 : Mem) , o = .inl (d5, M2) → ∀ (H : Heap) (locs : List Loc) (ls : Array Slot), va_P (gD g) vwCl (wlG g M2) H → va_S (AbG g) s.heap H locs → lv_has ls 11 [(0, .ref (ga g 148)), (1, .int s1), (2, .int s2), (3, .int s3), (4, .int s4), (5, .int d5)] → W p l e (headSpec wsX6_findsTwo rmX6_findsTwo).room s m args below meth c H locs 0 0 Q (F0 m 33 ls [])) (kx0 : ∀ (M2 : Mem) , o = .inr M2 → ∀ (H : Heap) (locs : List Loc) (ls : Array Slot), va_P (gD g) vwCl (wlG g M2) H → va_S (AbG g) s.heap H locs → lv_has ls 11 [(0, .ref (ga g 148)), (1, .int s1), (2, .int s2), (3, .int s3)] → W p l e (headSpec wsX6_findsTwo rmX6_findsTwo).room s m args below meth c H locs 0 0 Q (F0 m 196 ls [])) (hm : j_X6_findsTwo_93i fu M s1 s2 s3 s4 s5 s6 = some o) {H : Heap} {locs : List Loc} {ls : Array Slot} (hP : va_P (gD g) vwCl (wlG g M) H) (hS : va_S (AbG g) s.heap H locs) (hl : lv_has ls 11 [(0, .ref (ga g 148)), (1, .int s1), (2, .int s2), (3, .int s3), (4, .int s4), (5, .int s5), (6, .int s6)]) : W p l e (headSpec wsX6_findsTwo rmX6_findsTwo).room s m args below meth c H locs 0 0 Q (F0 m 93 ls []) := by
  obtain ⟨⟨hx, hb, hml, hown, hts⟩, -, -⟩ := id X
  unfold j_X6_findsTwo_93i at hm
  refine lv_iconst (v := 0) hx hb dX6_findsTwo_93 (by decide) ?_
  exact wj_X6_findsTwo_94i X hAll kb kx0 hm hP hS (lv_sub hl [0, 1, 2, 3, 4, 5, 6] rfl)

set_option maxHeartbeats 4000000 in
set_option maxRecDepth 100000 in
theorem wl_X6_findsTwo_33 (X : CxG g p s m args c cX6_findsTwo 11 RX6 wsX6_findsTwo) (hAll : okAll g) {fu : Nat} {s1 : Int32} {s2 : Int32} {s3 : Int32} {s4 : Int32} {x : Mem} (kx0 : ∀ (M2 : Mem) , x = M2 → ∀ (H : Heap) (locs : List Loc) (ls : Array Slot), va_P (gD g) vwCl (wlG g M2) H → va_S (AbG g) s.heap H locs → lv_has ls 11 [(0, .ref (ga g 148)), (1, .int s1), (2, .int s2), (3, .int s3)] → W p l e (headSpec wsX6_findsTwo rmX6_findsTwo).room s m args below meth c H locs 0 0 Q (F0 m 196 ls [])) {n : Nat} {q0 : Int32 × Mem} (h : lp (b_X6_findsTwo_33 fu s1 s2 s3 s4) n q0 = some x) : ∀ (H : Heap) (locs : List Loc) (ls : Array Slot), va_P (gD g) vwCl (wlG g q0.2) H → va_S (AbG g) s.heap H locs → lv_has ls 11 [(0, .ref (ga g 148)), (1, .int s1), (2, .int s2), (3, .int s3), (4, .int s4), (5, .int q0.1)] → W p l e (headSpec wsX6_findsTwo rmX6_findsTwo).room s m args below meth c H locs 0 0 Q (F0 m 33 ls []) := by
  refine lp_elim (P := fun q0 : Int32 × Mem => ∀ (H : Heap) (locs : List Loc) (ls : Array Slot), va_P (gD g) vwCl (wlG g q0.2) H → va_S (AbG g) s.heap H locs → lv_has ls 11 [(0, .ref (ga g 148)), (1, .int s1), (2, .int s2), (3, .int s3), (4, .int s4), (5, .int q0.1)] → W p l e (headSpec wsX6_findsTwo rmX6_findsTwo).room s m args below meth c H locs 0 0 Q (F0 m 33 ls [])) (fun q1 o hm hI hX => ?_) n q0 h
  obtain ⟨c5, M⟩ := q1
  have kb : ∀ (d5 : Int32) (M2 : Mem) , o = .inl (d5, M2) → ∀ (H : Heap) (locs : List Loc) (ls : Array Slot), va_P (gD g) vwCl (wlG g M2) H → va_S (AbG g) s.heap H locs → lv_has ls 11 [(0, .ref (ga g 148)), (1, .int s1), (2, .int s2), (3, .int s3), (4, .int s4), (5, .int d5)] → W p l e (headSpec wsX6_findsTwo rmX6_findsTwo).room s m args below meth c H locs 0 0 Q (F0 m 33 ls []) := fun d5 M2 e => hI _ e
  have kx0 : ∀ (M2 : Mem) , o = .inr M2 → ∀ (H : Heap) (locs : List Loc) (ls : Array Slot), va_P (gD g) vwCl (wlG g M2) H → va_S (AbG g) s.heap H locs → lv_has ls 11 [(0, .ref (ga g 148)), (1, .int s1), (2, .int s2), (3, .int s3)] → W p l e (headSpec wsX6_findsTwo rmX6_findsTwo).room s m args below meth c H locs 0 0 Q (F0 m 196 ls []) := fun M2 e => kx0 M2 (hX _ e).symm
  clear hI hX
  intro H locs ls hP hS hl
  obtain ⟨⟨hx, hb, hml, hown, hts⟩, -, -⟩ := id X
  have hl : lv_has ls 11 [(0, .ref (ga g 148)), (1, .int s1), (2, .int s2), (3, .int s3), (4, .int s4), (5, .int c5)] := hl
  have hP : va_P (gD g) vwCl (wlG g M) H := hP
  unfold b_X6_findsTwo_33 at hm
  replace hm := un2_e hm
  refine lv_iload hx hb dX6_findsTwo_33 (lv_at hl 5 rfl) ?_
  refine lv_iconst (v := 4) hx hb dX6_findsTwo_35 (by decide) ?_
  refine lv_icmp_ge (tgt := 196) hx hb dX6_findsTwo_36 (by decide) (fun h_9 => ?_) (fun h_9 => ?_)
  · rw [if_pos h_9] at hm
    exact kx0 M (Option.some.inj hm).symm _ _ _ hP hS (lv_sub hl [0, 1, 2, 3] rfl)
  · rw [if_neg h_9] at hm
    refine lv_iload hx hb dX6_findsTwo_39 (lv_at hl 5 rfl) ?_
    refine lv_iconst (v := 2) hx hb dX6_findsTwo_41 (by decide) ?_
    refine lv_icmp_ne (tgt := 48) hx hb dX6_findsTwo_42 (by decide) (fun h_10 => ?_) (fun h_10 => ?_)
    · rw [if_neg h_10] at hm
      refine lv_aload_n hx hb dX6_findsTwo_48 rfl (lv_at hl 0 rfl) ?_
      refine xg_X6_44 X hP hAll uX6_findsTwo_X6 mbX6_findsTwo_2 dX6_findsTwo_49 ?_
      refine lv_iconst (v := 0) hx hb dX6_findsTwo_52 (by decide) ?_
      refine lv_iload hx hb dX6_findsTwo_53 (lv_at hl 5 rfl) ?_
      obtain ⟨M_11, hM_12, hm⟩ := bnd_elim hm
      refine x_iast X hP hS (okc_176 hAll) hM_12 (show inb 0 10 = true from rfl) dX6_findsTwo_55 (fun H locs hP hS => ?_)
      refine lv_aload_n hx hb dX6_findsTwo_56 rfl (lv_at hl 0 rfl) ?_
      refine xg_X6_44 X hP hAll uX6_findsTwo_X6 mbX6_findsTwo_2 dX6_findsTwo_57 ?_
      refine lv_iconst (v := 1) hx hb dX6_findsTwo_60 (by decide) ?_
      refine lv_iload hx hb dX6_findsTwo_61 (lv_at hl 4 rfl) ?_
      obtain ⟨M_13, hM_14, hm⟩ := bnd_elim hm
      refine x_iast X hP hS (okc_176 hAll) hM_14 (show inb 1 10 = true from rfl) dX6_findsTwo_63 (fun H locs hP hS => ?_)
      refine lv_aload_n hx hb dX6_findsTwo_64 rfl (lv_at hl 0 rfl) ?_
      refine lv_iconst (v := 0) hx hb dX6_findsTwo_65 (by decide) ?_
      obtain ⟨r_16, hc_15, hm⟩ := bind_elim hm
      refine x_calli (x_runV (As := [.int 0]) (rest := []) X hP hS (c_X6_canMove l X.2.2 hAll hc_15) (cwV 1 hts gX6_findsTwo_X6_canMove rfl rfl rfl (by decide +kernel) ⟨Nat.le_of_ble_eq_true rfl, Nat.le_of_ble_eq_true rfl⟩) (x_recv (C := RX6) (T := TX6) (N := 55) X hP (okc_148 hAll) rfl) rfl hl.1 rfl (Nat.le_of_ble_eq_true rfl) dX6_findsTwo_66 ⟨Nat.zero_le _, Nat.zero_le _⟩) hS (fun H locs hP hS => ?_)
      refine lv_istore (lv' := [(6, .int r_16), (0, .ref (ga g 148)), (1, .int s1), (2, .int s2), (3, .int s3), (4, .int s4), (5, .int c5)]) hx hb dX6_findsTwo_69 hl (by decide) rfl (fun ls hl => ?_)
      refine lv_iload hx hb dX6_findsTwo_71 (lv_at hl 6 rfl) ?_
      refine lv_iconst (v := 3) hx hb dX6_findsTwo_73 (by decide) ?_
      refine lv_icmp_ne (tgt := 93) hx hb dX6_findsTwo_74 (by decide) (fun h_17 => ?_) (fun h_17 => ?_)
      · rw [if_neg h_17] at hm
        exact wj_X6_findsTwo_93i X hAll kb kx0 hm hP hS (lv_sub hl [1, 2, 3, 4, 5, 6, 0] rfl)
      · rw [if_pos h_17] at hm
        refine lv_iload hx hb dX6_findsTwo_77 (lv_at hl 0 rfl) ?_
        refine lv_if_eq (tgt := 93) hx hb dX6_findsTwo_79 (by decide) (fun h_42 => ?_) (fun h_42 => ?_)
        · rw [if_pos h_42] at hm
          exact wj_X6_findsTwo_93i X hAll kb kx0 hm hP hS (lv_sub hl [1, 2, 3, 4, 5, 6, 0] rfl)
        · rw [if_neg h_42] at hm
          refine lv_aload_n hx hb dX6_findsTwo_82 rfl (lv_at hl 1 rfl) ?_
          refine lv_iconst (v := 0) hx hb dX6_findsTwo_83 (by decide) ?_
          refine lv_iconst (v := 1) hx hb dX6_findsTwo_84 (by decide) ?_
          refine lv_iload hx hb dX6_findsTwo_85 (lv_at hl 5 rfl) ?_
          obtain ⟨r_44, hc_43, hm⟩ := bind_elim hm
          refine x_calli (x_runV (As := [.int 0, .int 1, .int s4]) (rest := []) X hP hS (c_X6_chanceOf l X.2.2 hAll hc_43) (cwV 3 hts gX6_findsTwo_X6_chanceOf rfl rfl rfl (by decide +kernel) ⟨Nat.le_of_ble_eq_true rfl, Nat.le_of_ble_eq_true rfl⟩) (x_recv (C := RX6) (T := TX6) (N := 55) X hP (okc_148 hAll) rfl) rfl hl.1 rfl (Nat.le_of_ble_eq_true rfl) dX6_findsTwo_87 ⟨Nat.zero_le _, Nat.zero_le _⟩) hS (fun H locs hP hS => ?_)
          refine lv_goto (tgt := 94) hx hb dX6_findsTwo_90 (by decide) ?_
          exact wj_X6_findsTwo_94i X hAll kb kx0 hm hP hS (lv_sub hl [1, 2, 3, 4, 5, 6, 0] rfl)
    · rw [if_pos h_10] at hm
      refine lv_goto (tgt := 190) hx hb dX6_findsTwo_45 (by decide) ?_
      obtain ⟨v_45, hv_46, hm⟩ := bnd_elim hm
      refine lv_iinc (v := v_45) (lv' := [(5, .int v_45), (0, .ref (ga g 148)), (1, .int s1), (2, .int s2), (3, .int s3), (4, .int s4)]) hx hb dX6_findsTwo_190 hl (k := 5) rfl (by rw [hv_46]; rfl) (by decide) rfl (fun ls hl => ?_)
      refine lv_goto (tgt := 33) hx hb dX6_findsTwo_193 (by decide) ?_
      exact kb v_45 M (Option.some.inj hm).symm _ _ _ hP hS (lv_sub hl [1, 2, 3, 4, 5, 0] rfl)

set_option maxHeartbeats 4000000 in
set_option maxRecDepth 100000 in
theorem wl_X6_findsTwo_2 (X : CxG g p s m args c cX6_findsTwo 11 RX6 wsX6_findsTwo) (hAll : okAll g) {fu : Nat} {s1 : Int32} {s2 : Int32} {x : Mem} (kx0 : ∀ (M2 : Mem) , x = M2 → ∀ (H : Heap) (locs : List Loc) (ls : Array Slot), va_P (gD g) vwCl (wlG g M2) H → va_S (AbG g) s.heap H locs → lv_has ls 11 [(0, .ref (ga g 148)), (2, .int s2)] → W p l e (headSpec wsX6_findsTwo rmX6_findsTwo).room s m args below meth c H locs 0 0 Q (F0 m 202 ls [])) {n : Nat} {q0 : Int32 × Mem} (h : lp (b_X6_findsTwo_2 fu s1 s2) n q0 = some x) : ∀ (H : Heap) (locs : List Loc) (ls : Array Slot), va_P (gD g) vwCl (wlG g q0.2) H → va_S (AbG g) s.heap H locs → lv_has ls 11 [(0, .ref (ga g 148)), (1, .int s1), (2, .int s2), (3, .int q0.1)] → W p l e (headSpec wsX6_findsTwo rmX6_findsTwo).room s m args below meth c H locs 0 0 Q (F0 m 2 ls []) := by
  refine lp_elim (P := fun q0 : Int32 × Mem => ∀ (H : Heap) (locs : List Loc) (ls : Array Slot), va_P (gD g) vwCl (wlG g q0.2) H → va_S (AbG g) s.heap H locs → lv_has ls 11 [(0, .ref (ga g 148)), (1, .int s1), (2, .int s2), (3, .int q0.1)] → W p l e (headSpec wsX6_findsTwo rmX6_findsTwo).room s m args below meth c H locs 0 0 Q (F0 m 2 ls [])) (fun q1 o hm hI hX => ?_) n q0 h
  obtain ⟨c3, M⟩ := q1
  have kb : ∀ (d3 : Int32) (M2 : Mem) , o = .inl (d3, M2) → ∀ (H : Heap) (locs : List Loc) (ls : Array Slot), va_P (gD g) vwCl (wlG g M2) H → va_S (AbG g) s.heap H locs → lv_has ls 11 [(0, .ref (ga g 148)), (1, .int s1), (2, .int s2), (3, .int d3)] → W p l e (headSpec wsX6_findsTwo rmX6_findsTwo).room s m args below meth c H locs 0 0 Q (F0 m 2 ls []) := fun d3 M2 e => hI _ e
  have kx0 : ∀ (M2 : Mem) , o = .inr M2 → ∀ (H : Heap) (locs : List Loc) (ls : Array Slot), va_P (gD g) vwCl (wlG g M2) H → va_S (AbG g) s.heap H locs → lv_has ls 11 [(0, .ref (ga g 148)), (2, .int s2)] → W p l e (headSpec wsX6_findsTwo rmX6_findsTwo).room s m args below meth c H locs 0 0 Q (F0 m 202 ls []) := fun M2 e => kx0 M2 (hX _ e).symm
  clear hI hX
  intro H locs ls hP hS hl
  obtain ⟨⟨hx, hb, hml, hown, hts⟩, -, -⟩ := id X
  have hl : lv_has ls 11 [(0, .ref (ga g 148)), (1, .int s1), (2, .int s2), (3, .int c3)] := hl
  have hP : va_P (gD g) vwCl (wlG g M) H := hP
  unfold b_X6_findsTwo_2 at hm
  replace hm := un2_e hm
  refine lv_iload_n hx hb dX6_findsTwo_2 rfl (lv_at hl 3 rfl) ?_
  refine lv_iload_n hx hb dX6_findsTwo_3 rfl (lv_at hl 2 rfl) ?_
  refine lv_icmp_gt (tgt := 202) hx hb dX6_findsTwo_4 (by decide) (fun h_1 => ?_) (fun h_1 => ?_)
  · rw [if_pos h_1] at hm
    exact kx0 M (Option.some.inj hm).symm _ _ _ hP hS (lv_sub hl [0, 2] rfl)
  · rw [if_neg h_1] at hm
    refine lv_aload_n hx hb dX6_findsTwo_7 rfl (lv_at hl 0 rfl) ?_
    refine xg_X6_5 X hP hAll uX6_findsTwo_X6 mbX6_findsTwo_1 dX6_findsTwo_8 ?_
    refine lv_iconst (v := 0) hx hb dX6_findsTwo_11 (by decide) ?_
    refine lv_iload_n hx hb dX6_findsTwo_12 rfl (lv_at hl 3 rfl) ?_
    obtain ⟨M_2, hM_3, hm⟩ := bnd_elim hm
    refine x_iast X hP hS (okc_149 hAll) hM_3 (show inb 0 10 = true from rfl) dX6_findsTwo_13 (fun H locs hP hS => ?_)
    refine lv_aload_n hx hb dX6_findsTwo_14 rfl (lv_at hl 0 rfl) ?_
    refine xg_X6_5 X hP hAll uX6_findsTwo_X6 mbX6_findsTwo_1 dX6_findsTwo_15 ?_
    refine lv_iconst (v := 1) hx hb dX6_findsTwo_18 (by decide) ?_
    refine lv_iload_n hx hb dX6_findsTwo_19 rfl (lv_at hl 2 rfl) ?_
    refine lv_iload_n hx hb dX6_findsTwo_20 rfl (lv_at hl 3 rfl) ?_
    refine lv_isub hx hb dX6_findsTwo_21 ?_
    obtain ⟨M_4, hM_5, hm⟩ := bnd_elim hm
    refine x_iast X hP hS (okc_149 hAll) hM_5 (show inb 1 10 = true from rfl) dX6_findsTwo_22 (fun H locs hP hS => ?_)
    refine lv_aload_n hx hb dX6_findsTwo_23 rfl (lv_at hl 0 rfl) ?_
    refine lv_iconst (v := 1) hx hb dX6_findsTwo_24 (by decide) ?_
    obtain ⟨⟨r_7, M_8⟩, hc_6, hm⟩ := bind_elim hm
    replace hm := un2_e hm
    refine x_calli (x_runV (As := [.int 1]) (rest := []) X hP hS (c_X6_doingOf l X.2.2 hAll hc_6) (cwV 1 hts gX6_findsTwo_X6_doingOf rfl rfl rfl (by decide +kernel) ⟨Nat.le_of_ble_eq_true rfl, Nat.le_of_ble_eq_true rfl⟩) (x_recv (C := RX6) (T := TX6) (N := 55) X hP (okc_148 hAll) rfl) rfl hl.1 rfl (Nat.le_of_ble_eq_true rfl) dX6_findsTwo_25 ⟨Nat.zero_le _, Nat.zero_le _⟩) hS (fun H locs hP hS => ?_)
    refine lv_istore (lv' := [(4, .int r_7), (0, .ref (ga g 148)), (1, .int s1), (2, .int s2), (3, .int c3)]) hx hb dX6_findsTwo_28 hl (by decide) rfl (fun ls hl => ?_)
    refine lv_iconst (v := 0) hx hb dX6_findsTwo_30 (by decide) ?_
    refine lv_istore (lv' := [(5, .int 0), (4, .int r_7), (0, .ref (ga g 148)), (1, .int s1), (2, .int s2), (3, .int c3)]) hx hb dX6_findsTwo_31 hl (by decide) rfl (fun ls hl => ?_)
    obtain ⟨M_49, hL_48, hm⟩ := bind_elim hm
    refine wl_X6_findsTwo_33 X hAll ?_ hL_48 _ _ _ hP hS (lv_sub hl [2, 3, 4, 5, 1, 0] rfl)
    · intro z_M_49 e_M_49 H locs ls hP hS hl
      subst e_M_49
      replace hm := un1_e hm
      obtain ⟨v_50, hv_51, hm⟩ := bnd_elim hm
      refine lv_iinc (v := v_50) (lv' := [(3, .int v_50), (0, .ref (ga g 148)), (1, .int s1), (2, .int s2)]) hx hb dX6_findsTwo_196 hl (k := 3) rfl (by rw [hv_51]; rfl) (by decide) rfl (fun ls hl => ?_)
      refine lv_goto (tgt := 2) hx hb dX6_findsTwo_199 (by decide) ?_
      exact kb v_50 M_49 (Option.some.inj hm).symm _ _ _ hP hS (lv_sub hl [1, 2, 3, 0] rfl)

set_option maxHeartbeats 4000000 in
set_option maxRecDepth 100000 in
theorem wl_X6_findsTwo_204 (X : CxG g p s m args c cX6_findsTwo 11 RX6 wsX6_findsTwo) (hAll : okAll g) {fu : Nat} {s2 : Int32} {x : Mem} (kx0 : ∀ (M2 : Mem) , x = M2 → ∀ (H : Heap) (locs : List Loc) (ls : Array Slot), va_P (gD g) vwCl (wlG g M2) H → va_S (AbG g) s.heap H locs → lv_has ls 11 [] → W p l e (headSpec wsX6_findsTwo rmX6_findsTwo).room s m args below meth c H locs 0 0 Q (F0 m 227 ls [])) {n : Nat} {q0 : Int32 × Mem} (h : lp (b_X6_findsTwo_204 fu s2) n q0 = some x) : ∀ (H : Heap) (locs : List Loc) (ls : Array Slot), va_P (gD g) vwCl (wlG g q0.2) H → va_S (AbG g) s.heap H locs → lv_has ls 11 [(0, .ref (ga g 148)), (2, .int s2), (3, .int q0.1)] → W p l e (headSpec wsX6_findsTwo rmX6_findsTwo).room s m args below meth c H locs 0 0 Q (F0 m 204 ls []) := by
  refine lp_elim (P := fun q0 : Int32 × Mem => ∀ (H : Heap) (locs : List Loc) (ls : Array Slot), va_P (gD g) vwCl (wlG g q0.2) H → va_S (AbG g) s.heap H locs → lv_has ls 11 [(0, .ref (ga g 148)), (2, .int s2), (3, .int q0.1)] → W p l e (headSpec wsX6_findsTwo rmX6_findsTwo).room s m args below meth c H locs 0 0 Q (F0 m 204 ls [])) (fun q1 o hm hI hX => ?_) n q0 h
  obtain ⟨c3, M⟩ := q1
  have kb : ∀ (d3 : Int32) (M2 : Mem) , o = .inl (d3, M2) → ∀ (H : Heap) (locs : List Loc) (ls : Array Slot), va_P (gD g) vwCl (wlG g M2) H → va_S (AbG g) s.heap H locs → lv_has ls 11 [(0, .ref (ga g 148)), (2, .int s2), (3, .int d3)] → W p l e (headSpec wsX6_findsTwo rmX6_findsTwo).room s m args below meth c H locs 0 0 Q (F0 m 204 ls []) := fun d3 M2 e => hI _ e
  have kx0 : ∀ (M2 : Mem) , o = .inr M2 → ∀ (H : Heap) (locs : List Loc) (ls : Array Slot), va_P (gD g) vwCl (wlG g M2) H → va_S (AbG g) s.heap H locs → lv_has ls 11 [] → W p l e (headSpec wsX6_findsTwo rmX6_findsTwo).room s m args below meth c H locs 0 0 Q (F0 m 227 ls []) := fun M2 e => kx0 M2 (hX _ e).symm
  clear hI hX
  intro H locs ls hP hS hl
  obtain ⟨⟨hx, hb, hml, hown, hts⟩, -, -⟩ := id X
  have hl : lv_has ls 11 [(0, .ref (ga g 148)), (2, .int s2), (3, .int c3)] := hl
  have hP : va_P (gD g) vwCl (wlG g M) H := hP
  unfold b_X6_findsTwo_204 at hm
  replace hm := un2_e hm
  refine lv_iload_n hx hb dX6_findsTwo_204 rfl (lv_at hl 2 rfl) ?_
  refine lv_iload_n hx hb dX6_findsTwo_205 rfl (lv_at hl 1 rfl) ?_
  refine lv_icmp_gt (tgt := 227) hx hb dX6_findsTwo_206 (by decide) (fun h_55 => ?_) (fun h_55 => ?_)
  · rw [if_pos h_55] at hm
    exact kx0 M (Option.some.inj hm).symm _ _ _ hP hS (lv_sub hl [] rfl)
  · rw [if_neg h_55] at hm
    refine lv_aload_n hx hb dX6_findsTwo_209 rfl (lv_at hl 0 rfl) ?_
    refine xg_X6_45 X hP hAll uX6_findsTwo_X6 mbX6_findsTwo_6 dX6_findsTwo_210 ?_
    refine lv_iload_n hx hb dX6_findsTwo_213 rfl (lv_at hl 2 rfl) ?_
    refine lv_aload_n hx hb dX6_findsTwo_214 rfl (lv_at hl 0 rfl) ?_
    refine xg_X6_46 X hP hAll uX6_findsTwo_X6 mbX6_findsTwo_4 dX6_findsTwo_215 ?_
    refine lv_iload_n hx hb dX6_findsTwo_218 rfl (lv_at hl 2 rfl) ?_
    obtain ⟨hb_56, hm⟩ := chk_elim hm
    refine x_lald X hP (okc_178 hAll) hb_56 dX6_findsTwo_219 ?_
    obtain ⟨M_57, hM_58, hm⟩ := bnd_elim hm
    refine x_last X hP hS (okc_177 hAll) hM_58 hb_56 dX6_findsTwo_220 (fun H locs hP hS => ?_)
    obtain ⟨v_59, hv_60, hm⟩ := bnd_elim hm
    refine lv_iinc (v := v_59) (lv' := [(3, .int v_59), (0, .ref (ga g 148)), (2, .int s2)]) hx hb dX6_findsTwo_221 hl (k := 2) rfl (by rw [hv_60]; rfl) (by decide) rfl (fun ls hl => ?_)
    refine lv_goto (tgt := 204) hx hb dX6_findsTwo_224 (by decide) ?_
    exact kb v_59 M_57 (Option.some.inj hm).symm _ _ _ hP hS (lv_sub hl [1, 2, 0] rfl)

set_option maxHeartbeats 4000000 in
set_option maxRecDepth 100000 in
theorem c_X6_findsTwo (l : Launch) {g : GT} (hA : AxG g) (hAll : okAll g)   {fu : Nat} {M : Mem} {a1 : Int32} {a2 : Int32} {MM : Mem} (hm : m_X6_findsTwo fu M a1 a2 = some MM) : CV l yX6_findsTwo wsX6_findsTwo rmX6_findsTwo g [.ref (ga g 148), .int a1, .int a2] M MM := by
  refine Met.ofW (cc := cX6_findsTwo) (maxL := 11) (ret := none) (by decide) rfl ?_
  intro p e s m args below meth c s₁ B hml hv
  obtain ⟨rfl, hSx, hP⟩ := hv
  have hr := B.returns
  have hlocks := B.notSynchronized
  have X : CxG g p s m _ c cX6_findsTwo 11 RX6 wsX6_findsTwo := ⟨⟨B.exec, B.bytes, hml, findClass_of_methodNamed B.named, atoms_spec (ws := wsX6_findsTwo) B.pre⟩, hSx, hA⟩
  have hS : va_S (AbG g) s.heap s.heap [] := va_S.rf
  have hl := lv_entry (([.ref (ga g 148), .int a1, .int a2] : List Value)) (n := 11) (Nat.le_of_ble_eq_true rfl)
  rw [lg_entry_eq]
  generalize (lg_sl (([.ref (ga g 148), .int a1, .int a2] : List Value)) ++ List.replicate (11 - (lg_sl (([.ref (ga g 148), .int a1, .int a2] : List Value))).length) Slot.unset).toArray = ls at hl ⊢
  have hl : lv_has ls 11 [(0, .ref (ga g 148)), (1, .int a1), (2, .int a2)] := hl
  obtain ⟨⟨hx, hb, hml, hown, hts⟩, -, -⟩ := id X
  unfold m_X6_findsTwo at hm
  refine lv_iconst (v := 0) hx hb dX6_findsTwo_0 (by decide) ?_
  refine lv_istore_n (lv' := [(3, .int 0), (0, .ref (ga g 148)), (1, .int a1), (2, .int a2)]) hx hb dX6_findsTwo_1 rfl hl (by decide) rfl (fun ls hl => ?_)
  obtain ⟨M_54, hL_53, hm⟩ := bind_elim hm
  refine wl_X6_findsTwo_2 X hAll ?_ hL_53 _ _ _ hP hS (lv_sub hl [1, 2, 3, 0] rfl)
  · intro z_M_54 e_M_54 H locs ls hP hS hl
    subst e_M_54
    replace hm := un1_e hm
    refine lv_iconst (v := 0) hx hb dX6_findsTwo_202 (by decide) ?_
    refine lv_istore_n (lv' := [(3, .int 0), (0, .ref (ga g 148)), (2, .int a2)]) hx hb dX6_findsTwo_203 rfl hl (by decide) rfl (fun ls hl => ?_)
    obtain ⟨M_63, hL_62, hm⟩ := bind_elim hm
    refine wl_X6_findsTwo_204 X hAll ?_ hL_62 _ _ _ hP hS (lv_sub hl [1, 2, 0] rfl)
    · intro z_M_63 e_M_63 H locs ls hP hS hl
      subst e_M_63
      replace hm := un1_e hm
      cases hm
      exact x_vret X hP hS hr hlocks dX6_findsTwo_227


/-! X6_two -/
def rmX6_two : Room := { frames := 5, cells := 0, slots := 0, locals := 126 }
theorem uX6_two_X6 : ∀ w ∈ wsX60, w ∈ wsX6_two := by decide +kernel
theorem mbX6_two_1 : Cond.fieldLink RX6 121 "FootANightModel" "told" "I" ∈ wsX6_two := by decide +kernel
theorem mbX6_two_2 : Cond.fieldLink RX6 13 "FootANightModel" "wide" "[I" ∈ wsX6_two := by decide +kernel
theorem mbX6_two_3 : Cond.fieldLink RX6 7 "FootANightModel" "n" "I" ∈ wsX6_two := by decide +kernel
theorem mbX6_two_4 : Cond.constantLong RX6 333 (-1) ∈ wsX6_two := by decide +kernel
theorem mbX6_two_5 : Cond.fieldLink RX6 38 "FootANightModel" "wallOf" "[I" ∈ wsX6_two := by decide +kernel
theorem mbX6_two_6 : Cond.fieldLink RX6 102 "FootANightModel" "best" "[J" ∈ wsX6_two := by decide +kernel
theorem mbX6_two_7 : Cond.fieldLink RX6 109 "FootANightModel" "bestDoing" "[I" ∈ wsX6_two := by decide +kernel
set_option maxHeartbeats 4000000 in
set_option maxRecDepth 100000 in
theorem wl_X6_two_110 (X : CxG g p s m args c cX6_two 9 RX6 wsX6_two) (hAll : okAll g) {fu : Nat} {s1 : Int32} {s2 : Int32} {s3 : Int32} {s4 : Int32} {s5 : Int32} {s6 : Int32} {s7 : Int32} {x : Mem} (kx0 : ∀ (M2 : Mem) , x = M2 → ∀ (H : Heap) (locs : List Loc) (ls : Array Slot), va_P (gD g) vwCl (wlG g M2) H → va_S (AbG g) s.heap H locs → lv_has ls 9 [(0, .ref (ga g 148)), (1, .int s1), (2, .int s2), (3, .int s3), (4, .int s4), (5, .int s5), (6, .int s6), (7, .int s7)] → W p l e (headSpec wsX6_two rmX6_two).room s m args below meth c H locs 0 0 Q (F0 m 131 ls [])) {n : Nat} {q0 : Int32 × Mem} (h : lp (b_X6_two_110 fu s1 s2 s3 s4 s5 s6 s7) n q0 = some x) : ∀ (H : Heap) (locs : List Loc) (ls : Array Slot), va_P (gD g) vwCl (wlG g q0.2) H → va_S (AbG g) s.heap H locs → lv_has ls 9 [(0, .ref (ga g 148)), (1, .int s1), (2, .int s2), (3, .int s3), (4, .int s4), (5, .int s5), (6, .int s6), (7, .int s7), (8, .int q0.1)] → W p l e (headSpec wsX6_two rmX6_two).room s m args below meth c H locs 0 0 Q (F0 m 110 ls []) := by
  refine lp_elim (P := fun q0 : Int32 × Mem => ∀ (H : Heap) (locs : List Loc) (ls : Array Slot), va_P (gD g) vwCl (wlG g q0.2) H → va_S (AbG g) s.heap H locs → lv_has ls 9 [(0, .ref (ga g 148)), (1, .int s1), (2, .int s2), (3, .int s3), (4, .int s4), (5, .int s5), (6, .int s6), (7, .int s7), (8, .int q0.1)] → W p l e (headSpec wsX6_two rmX6_two).room s m args below meth c H locs 0 0 Q (F0 m 110 ls [])) (fun q1 o hm hI hX => ?_) n q0 h
  obtain ⟨c8, M⟩ := q1
  have kb : ∀ (d8 : Int32) (M2 : Mem) , o = .inl (d8, M2) → ∀ (H : Heap) (locs : List Loc) (ls : Array Slot), va_P (gD g) vwCl (wlG g M2) H → va_S (AbG g) s.heap H locs → lv_has ls 9 [(0, .ref (ga g 148)), (1, .int s1), (2, .int s2), (3, .int s3), (4, .int s4), (5, .int s5), (6, .int s6), (7, .int s7), (8, .int d8)] → W p l e (headSpec wsX6_two rmX6_two).room s m args below meth c H locs 0 0 Q (F0 m 110 ls []) := fun d8 M2 e => hI _ e
  have kx0 : ∀ (M2 : Mem) , o = .inr M2 → ∀ (H : Heap) (locs : List Loc) (ls : Array Slot), va_P (gD g) vwCl (wlG g M2) H → va_S (AbG g) s.heap H locs → lv_has ls 9 [(0, .ref (ga g 148)), (1, .int s1), (2, .int s2), (3, .int s3), (4, .int s4), (5, .int s5), (6, .int s6), (7, .int s7)] → W p l e (headSpec wsX6_two rmX6_two).room s m args below meth c H locs 0 0 Q (F0 m 131 ls []) := fun M2 e => kx0 M2 (hX _ e).symm
  clear hI hX
  intro H locs ls hP hS hl
  obtain ⟨⟨hx, hb, hml, hown, hts⟩, -, -⟩ := id X
  have hl : lv_has ls 9 [(0, .ref (ga g 148)), (1, .int s1), (2, .int s2), (3, .int s3), (4, .int s4), (5, .int s5), (6, .int s6), (7, .int s7), (8, .int c8)] := hl
  have hP : va_P (gD g) vwCl (wlG g M) H := hP
  unfold b_X6_two_110 at hm
  replace hm := un2_e hm
  refine lv_iload hx hb dX6_two_110 (lv_at hl 8 rfl) ?_
  refine lv_iload hx hb dX6_two_112 (lv_at hl 5 rfl) ?_
  refine lv_icmp_gt (tgt := 131) hx hb dX6_two_114 (by decide) (fun h_25 => ?_) (fun h_25 => ?_)
  · rw [if_pos h_25] at hm
    exact kx0 M (Option.some.inj hm).symm _ _ _ hP hS (lv_sub hl [0, 1, 2, 3, 4, 5, 6, 7] rfl)
  · rw [if_neg h_25] at hm
    refine lv_aload_n hx hb dX6_two_117 rfl (lv_at hl 0 rfl) ?_
    refine xg_X6_45 X hP hAll uX6_two_X6 mbX6_two_6 dX6_two_118 ?_
    refine lv_iload hx hb dX6_two_121 (lv_at hl 8 rfl) ?_
    refine lv_lconst (v := 0) hx hb dX6_two_123 (by decide) ?_
    obtain ⟨hb_26, hm⟩ := chk_elim hm
    obtain ⟨M_27, hM_28, hm⟩ := bnd_elim hm
    refine x_last X hP hS (okc_177 hAll) hM_28 hb_26 dX6_two_124 (fun H locs hP hS => ?_)
    obtain ⟨v_29, hv_30, hm⟩ := bnd_elim hm
    refine lv_iinc (v := v_29) (lv' := [(8, .int v_29), (0, .ref (ga g 148)), (1, .int s1), (2, .int s2), (3, .int s3), (4, .int s4), (5, .int s5), (6, .int s6), (7, .int s7)]) hx hb dX6_two_125 hl (k := 8) rfl (by rw [hv_30]; rfl) (by decide) rfl (fun ls hl => ?_)
    refine lv_goto (tgt := 110) hx hb dX6_two_128 (by decide) ?_
    exact kb v_29 M_27 (Option.some.inj hm).symm _ _ _ hP hS (lv_sub hl [1, 2, 3, 4, 5, 6, 7, 8, 0] rfl)

set_option maxHeartbeats 4000000 in
set_option maxRecDepth 100000 in
theorem wl_X6_two_134 (X : CxG g p s m args c cX6_two 9 RX6 wsX6_two) (hAll : okAll g) {fu : Nat} {s1 : Int32} {s2 : Int32} {s3 : Int32} {s4 : Int32} {s5 : Int32} {s6 : Int32} {s7 : Int32} {x : Mem} (kx0 : ∀ (M2 : Mem) , x = M2 → ∀ (H : Heap) (locs : List Loc) (ls : Array Slot), va_P (gD g) vwCl (wlG g M2) H → va_S (AbG g) s.heap H locs → lv_has ls 9 [(0, .ref (ga g 148)), (3, .int s3), (4, .int s4), (5, .int s5), (6, .int s6), (7, .int s7)] → W p l e (headSpec wsX6_two rmX6_two).room s m args below meth c H locs 0 0 Q (F0 m 153 ls [])) {n : Nat} {q0 : Int32 × Mem} (h : lp (b_X6_two_134 fu s1 s2 s3 s4 s5 s6 s7) n q0 = some x) : ∀ (H : Heap) (locs : List Loc) (ls : Array Slot), va_P (gD g) vwCl (wlG g q0.2) H → va_S (AbG g) s.heap H locs → lv_has ls 9 [(0, .ref (ga g 148)), (1, .int s1), (2, .int s2), (3, .int s3), (4, .int s4), (5, .int s5), (6, .int s6), (7, .int s7), (8, .int q0.1)] → W p l e (headSpec wsX6_two rmX6_two).room s m args below meth c H locs 0 0 Q (F0 m 134 ls []) := by
  refine lp_elim (P := fun q0 : Int32 × Mem => ∀ (H : Heap) (locs : List Loc) (ls : Array Slot), va_P (gD g) vwCl (wlG g q0.2) H → va_S (AbG g) s.heap H locs → lv_has ls 9 [(0, .ref (ga g 148)), (1, .int s1), (2, .int s2), (3, .int s3), (4, .int s4), (5, .int s5), (6, .int s6), (7, .int s7), (8, .int q0.1)] → W p l e (headSpec wsX6_two rmX6_two).room s m args below meth c H locs 0 0 Q (F0 m 134 ls [])) (fun q1 o hm hI hX => ?_) n q0 h
  obtain ⟨c8, M⟩ := q1
  have kb : ∀ (d8 : Int32) (M2 : Mem) , o = .inl (d8, M2) → ∀ (H : Heap) (locs : List Loc) (ls : Array Slot), va_P (gD g) vwCl (wlG g M2) H → va_S (AbG g) s.heap H locs → lv_has ls 9 [(0, .ref (ga g 148)), (1, .int s1), (2, .int s2), (3, .int s3), (4, .int s4), (5, .int s5), (6, .int s6), (7, .int s7), (8, .int d8)] → W p l e (headSpec wsX6_two rmX6_two).room s m args below meth c H locs 0 0 Q (F0 m 134 ls []) := fun d8 M2 e => hI _ e
  have kx0 : ∀ (M2 : Mem) , o = .inr M2 → ∀ (H : Heap) (locs : List Loc) (ls : Array Slot), va_P (gD g) vwCl (wlG g M2) H → va_S (AbG g) s.heap H locs → lv_has ls 9 [(0, .ref (ga g 148)), (3, .int s3), (4, .int s4), (5, .int s5), (6, .int s6), (7, .int s7)] → W p l e (headSpec wsX6_two rmX6_two).room s m args below meth c H locs 0 0 Q (F0 m 153 ls []) := fun M2 e => kx0 M2 (hX _ e).symm
  clear hI hX
  intro H locs ls hP hS hl
  obtain ⟨⟨hx, hb, hml, hown, hts⟩, -, -⟩ := id X
  have hl : lv_has ls 9 [(0, .ref (ga g 148)), (1, .int s1), (2, .int s2), (3, .int s3), (4, .int s4), (5, .int s5), (6, .int s6), (7, .int s7), (8, .int c8)] := hl
  have hP : va_P (gD g) vwCl (wlG g M) H := hP
  unfold b_X6_two_134 at hm
  replace hm := un2_e hm
  refine lv_iload hx hb dX6_two_134 (lv_at hl 8 rfl) ?_
  refine lv_iload_n hx hb dX6_two_136 rfl (lv_at hl 1 rfl) ?_
  refine lv_icmp_ge (tgt := 153) hx hb dX6_two_137 (by decide) (fun h_34 => ?_) (fun h_34 => ?_)
  · rw [if_pos h_34] at hm
    exact kx0 M (Option.some.inj hm).symm _ _ _ hP hS (lv_sub hl [0, 3, 4, 5, 6, 7] rfl)
  · rw [if_neg h_34] at hm
    refine lv_aload_n hx hb dX6_two_140 rfl (lv_at hl 0 rfl) ?_
    refine lv_iload_n hx hb dX6_two_141 rfl (lv_at hl 2 rfl) ?_
    refine lv_iload hx hb dX6_two_142 (lv_at hl 5 rfl) ?_
    obtain ⟨M_36, hc_35, hm⟩ := bind_elim hm
    refine x_callv (x_runV (As := [.int s2, .int s5]) (rest := []) X hP hS (c_X6_findsTwo l X.2.2 hAll hc_35) (cwV 2 hts gX6_two_X6_findsTwo rfl rfl rfl (by decide +kernel) ⟨Nat.le_of_ble_eq_true rfl, Nat.le_of_ble_eq_true rfl⟩) (x_recv (C := RX6) (T := TX6) (N := 55) X hP (okc_148 hAll) rfl) rfl hl.1 rfl (Nat.le_of_ble_eq_true rfl) dX6_two_144 ⟨Nat.zero_le _, Nat.zero_le _⟩) hS (fun H locs hP hS => ?_)
    obtain ⟨v_37, hv_38, hm⟩ := bnd_elim hm
    refine lv_iinc (v := v_37) (lv' := [(8, .int v_37), (0, .ref (ga g 148)), (1, .int s1), (2, .int s2), (3, .int s3), (4, .int s4), (5, .int s5), (6, .int s6), (7, .int s7)]) hx hb dX6_two_147 hl (k := 8) rfl (by rw [hv_38]; rfl) (by decide) rfl (fun ls hl => ?_)
    refine lv_goto (tgt := 134) hx hb dX6_two_150 (by decide) ?_
    exact kb v_37 M_36 (Option.some.inj hm).symm _ _ _ hP hS (lv_sub hl [1, 2, 3, 4, 5, 6, 7, 8, 0] rfl)

set_option maxHeartbeats 4000000 in
set_option maxRecDepth 100000 in
theorem c_X6_two (l : Launch) {g : GT} (hA : AxG g) (hAll : okAll g)   {fu : Nat} {M : Mem} {a1 : Int32} {a2 : Int32} {a3 : Int32} {a4 : Int32} {rr : Int64} {MM : Mem} (hm : m_X6_two fu M a1 a2 a3 a4 = some (rr, MM)) : CL l yX6_two wsX6_two rmX6_two g [.ref (ga g 148), .int a1, .int a2, .int a3, .int a4] M rr MM := by
  refine Met.ofW (cc := cX6_two) (maxL := 9) (ret := (some .long)) (by decide) rfl ?_
  intro p e s m args below meth c s₁ B hml hv
  obtain ⟨rfl, hSx, hP⟩ := hv
  have hr := B.returns
  have hlocks := B.notSynchronized
  have X : CxG g p s m _ c cX6_two 9 RX6 wsX6_two := ⟨⟨B.exec, B.bytes, hml, findClass_of_methodNamed B.named, atoms_spec (ws := wsX6_two) B.pre⟩, hSx, hA⟩
  have hS : va_S (AbG g) s.heap s.heap [] := va_S.rf
  have hl := lv_entry (([.ref (ga g 148), .int a1, .int a2, .int a3, .int a4] : List Value)) (n := 9) (Nat.le_of_ble_eq_true rfl)
  rw [lg_entry_eq]
  generalize (lg_sl (([.ref (ga g 148), .int a1, .int a2, .int a3, .int a4] : List Value)) ++ List.replicate (9 - (lg_sl (([.ref (ga g 148), .int a1, .int a2, .int a3, .int a4] : List Value))).length) Slot.unset).toArray = ls at hl ⊢
  have hl : lv_has ls 9 [(0, .ref (ga g 148)), (1, .int a1), (2, .int a2), (3, .int a3), (4, .int a4)] := hl
  obtain ⟨⟨hx, hb, hml, hown, hts⟩, -, -⟩ := id X
  unfold m_X6_two at hm
  refine lv_aload_n hx hb dX6_two_0 rfl (lv_at hl 0 rfl) ?_
  refine lv_iconst (v := 0) hx hb dX6_two_1 (by decide) ?_
  obtain ⟨M_1, hM_2, hm⟩ := bnd_elim hm
  refine xp_X6_0 X hP hAll uX6_two_X6 mbX6_two_1 hS hM_2 dX6_two_2 (fun H locs hP hS => ?_)
  refine lv_aload_n hx hb dX6_two_5 rfl (lv_at hl 0 rfl) ?_
  refine xg_X6_5 X hP hAll uX6_two_X6 mbX6_two_2 dX6_two_6 ?_
  refine lv_iconst (v := 0) hx hb dX6_two_9 (by decide) ?_
  refine x_iald X hP (okc_149 hAll) (show inb 0 10 = true from rfl) dX6_two_10 ?_
  refine lv_aload_n hx hb dX6_two_11 rfl (lv_at hl 0 rfl) ?_
  refine xg_X6_5 X hP hAll uX6_two_X6 mbX6_two_2 dX6_two_12 ?_
  refine lv_iconst (v := 1) hx hb dX6_two_15 (by decide) ?_
  refine x_iald X hP (okc_149 hAll) (show inb 1 10 = true from rfl) dX6_two_16 ?_
  refine lv_iadd hx hb dX6_two_17 ?_
  obtain ⟨v_3, hv_4, hm⟩ := bnd_elim hm
  refine x_name hv_4 ?_
  refine lv_istore (lv' := [(5, .int v_3), (0, .ref (ga g 148)), (1, .int a1), (2, .int a2), (3, .int a3), (4, .int a4)]) hx hb dX6_two_18 hl (by decide) rfl (fun ls hl => ?_)
  refine lv_aload_n hx hb dX6_two_20 rfl (lv_at hl 1 rfl) ?_
  refine xg_X6_2 X hP hAll uX6_two_X6 mbX6_two_3 dX6_two_21 ?_
  refine lv_iconst (v := 2) hx hb dX6_two_24 (by decide) ?_
  refine lv_icmp_ne (tgt := 80) hx hb dX6_two_25 (by decide) (fun h_5 => ?_) (fun h_5 => ?_)
  · rw [if_neg h_5] at hm
    refine lv_ldc2 (v := (-1)) hx hb hown (hts _ mbX6_two_4) dX6_two_80 ?_
    cases hm
    exact x_lret X hP hS hr hlocks dX6_two_83
  · rw [if_pos h_5] at hm
    refine lv_iload hx hb dX6_two_28 (lv_at hl 0 rfl) ?_
    refine lv_bipush (v := 60) hx hb dX6_two_30 (by decide) ?_
    refine lv_icmp_gt (tgt := 80) hx hb dX6_two_32 (by decide) (fun h_6 => ?_) (fun h_6 => ?_)
    · rw [if_pos h_6] at hm
      refine lv_ldc2 (v := (-1)) hx hb hown (hts _ mbX6_two_4) dX6_two_80 ?_
      cases hm
      exact x_lret X hP hS hr hlocks dX6_two_83
    · rw [if_neg h_6] at hm
      refine lv_aload_n hx hb dX6_two_35 rfl (lv_at hl 1 rfl) ?_
      refine lv_iload_n hx hb dX6_two_36 rfl (lv_at hl 2 rfl) ?_
      refine lv_iconst (v := 1) hx hb dX6_two_37 (by decide) ?_
      refine lv_bipush (v := 40) hx hb dX6_two_38 (by decide) ?_
      obtain ⟨r_8, hc_7, hm⟩ := bind_elim hm
      refine x_calli (x_runV (As := [.int a1, .int 1, .int 40]) (rest := []) X hP hS (c_X6_isIn l X.2.2 hc_7) (cwV 3 hts gX6_two_X6_isIn rfl rfl rfl (by decide +kernel) ⟨Nat.le_of_ble_eq_true rfl, Nat.le_of_ble_eq_true rfl⟩) (x_recv (C := RX6) (T := TX6) (N := 55) X hP (okc_148 hAll) rfl) rfl hl.1 rfl (Nat.le_of_ble_eq_true rfl) dX6_two_40 ⟨Nat.zero_le _, Nat.zero_le _⟩) hS (fun H locs hP hS => ?_)
      refine lv_if_eq (tgt := 80) hx hb dX6_two_43 (by decide) (fun h_9 => ?_) (fun h_9 => ?_)
      · rw [if_pos h_9] at hm
        refine lv_ldc2 (v := (-1)) hx hb hown (hts _ mbX6_two_4) dX6_two_80 ?_
        cases hm
        exact x_lret X hP hS hr hlocks dX6_two_83
      · rw [if_neg h_9] at hm
        refine lv_aload_n hx hb dX6_two_46 rfl (lv_at hl 1 rfl) ?_
        refine lv_iload_n hx hb dX6_two_47 rfl (lv_at hl 3 rfl) ?_
        refine lv_iconst (v := 0) hx hb dX6_two_48 (by decide) ?_
        refine lv_sipush (v := 999) hx hb dX6_two_49 (by decide) ?_
        obtain ⟨r_11, hc_10, hm⟩ := bind_elim hm
        refine x_calli (x_runV (As := [.int a2, .int 0, .int 999]) (rest := []) X hP hS (c_X6_isIn l X.2.2 hc_10) (cwV 3 hts gX6_two_X6_isIn rfl rfl rfl (by decide +kernel) ⟨Nat.le_of_ble_eq_true rfl, Nat.le_of_ble_eq_true rfl⟩) (x_recv (C := RX6) (T := TX6) (N := 55) X hP (okc_148 hAll) rfl) rfl hl.1 rfl (Nat.le_of_ble_eq_true rfl) dX6_two_52 ⟨Nat.zero_le _, Nat.zero_le _⟩) hS (fun H locs hP hS => ?_)
        refine lv_if_eq (tgt := 80) hx hb dX6_two_55 (by decide) (fun h_12 => ?_) (fun h_12 => ?_)
        · rw [if_pos h_12] at hm
          refine lv_ldc2 (v := (-1)) hx hb hown (hts _ mbX6_two_4) dX6_two_80 ?_
          cases hm
          exact x_lret X hP hS hr hlocks dX6_two_83
        · rw [if_neg h_12] at hm
          refine lv_aload_n hx hb dX6_two_58 rfl (lv_at hl 1 rfl) ?_
          refine lv_iload_n hx hb dX6_two_59 rfl (lv_at hl 4 rfl) ?_
          refine lv_iconst (v := 0) hx hb dX6_two_60 (by decide) ?_
          refine lv_iload hx hb dX6_two_61 (lv_at hl 0 rfl) ?_
          obtain ⟨r_14, hc_13, hm⟩ := bind_elim hm
          refine x_calli (x_runV (As := [.int a3, .int 0, .int v_3]) (rest := []) X hP hS (c_X6_isIn l X.2.2 hc_13) (cwV 3 hts gX6_two_X6_isIn rfl rfl rfl (by decide +kernel) ⟨Nat.le_of_ble_eq_true rfl, Nat.le_of_ble_eq_true rfl⟩) (x_recv (C := RX6) (T := TX6) (N := 55) X hP (okc_148 hAll) rfl) rfl hl.1 rfl (Nat.le_of_ble_eq_true rfl) dX6_two_63 ⟨Nat.zero_le _, Nat.zero_le _⟩) hS (fun H locs hP hS => ?_)
          refine lv_if_eq (tgt := 80) hx hb dX6_two_66 (by decide) (fun h_15 => ?_) (fun h_15 => ?_)
          · rw [if_pos h_15] at hm
            refine lv_ldc2 (v := (-1)) hx hb hown (hts _ mbX6_two_4) dX6_two_80 ?_
            cases hm
            exact x_lret X hP hS hr hlocks dX6_two_83
          · rw [if_neg h_15] at hm
            refine lv_aload_n hx hb dX6_two_69 rfl (lv_at hl 1 rfl) ?_
            refine lv_iload hx hb dX6_two_70 (lv_at hl 5 rfl) ?_
            refine lv_iconst (v := 0) hx hb dX6_two_72 (by decide) ?_
            refine lv_iconst (v := 1) hx hb dX6_two_73 (by decide) ?_
            obtain ⟨r_17, hc_16, hm⟩ := bind_elim hm
            refine x_calli (x_runV (As := [.int a4, .int 0, .int 1]) (rest := []) X hP hS (c_X6_isIn l X.2.2 hc_16) (cwV 3 hts gX6_two_X6_isIn rfl rfl rfl (by decide +kernel) ⟨Nat.le_of_ble_eq_true rfl, Nat.le_of_ble_eq_true rfl⟩) (x_recv (C := RX6) (T := TX6) (N := 55) X hP (okc_148 hAll) rfl) rfl hl.1 rfl (Nat.le_of_ble_eq_true rfl) dX6_two_74 ⟨Nat.zero_le _, Nat.zero_le _⟩) hS (fun H locs hP hS => ?_)
            refine lv_if_ne (tgt := 84) hx hb dX6_two_77 (by decide) (fun h_18 => ?_) (fun h_18 => ?_)
            · rw [if_neg h_18] at hm
              refine lv_aload_n hx hb dX6_two_84 rfl (lv_at hl 1 rfl) ?_
              refine xg_X6_5 X hP hAll uX6_two_X6 mbX6_two_2 dX6_two_85 ?_
              refine lv_iconst (v := 0) hx hb dX6_two_88 (by decide) ?_
              refine x_iald X hP (okc_149 hAll) (show inb 0 10 = true from rfl) dX6_two_89 ?_
              obtain ⟨v_19, hv_20, hm⟩ := bnd_elim hm
              refine x_name hv_20 ?_
              refine lv_istore (lv' := [(6, .int v_19), (5, .int v_3), (0, .ref (ga g 148)), (1, .int a1), (2, .int a2), (3, .int a3), (4, .int a4)]) hx hb dX6_two_90 hl (by decide) rfl (fun ls hl => ?_)
              refine lv_aload_n hx hb dX6_two_92 rfl (lv_at hl 2 rfl) ?_
              refine xg_X6_13 X hP hAll uX6_two_X6 mbX6_two_5 dX6_two_93 ?_
              refine lv_iconst (v := 1) hx hb dX6_two_96 (by decide) ?_
              refine x_iald X hP (okc_157 hAll) (show inb 1 10 = true from rfl) dX6_two_97 ?_
              obtain ⟨v_21, hv_22, hm⟩ := bnd_elim hm
              refine x_name hv_22 ?_
              refine lv_istore (lv' := [(7, .int v_21), (6, .int v_19), (5, .int v_3), (0, .ref (ga g 148)), (1, .int a1), (2, .int a2), (3, .int a3), (4, .int a4)]) hx hb dX6_two_98 hl (by decide) rfl (fun ls hl => ?_)
              refine lv_aload_n hx hb dX6_two_100 rfl (lv_at hl 3 rfl) ?_
              refine xg_X6_13 X hP hAll uX6_two_X6 mbX6_two_5 dX6_two_101 ?_
              refine lv_iconst (v := 1) hx hb dX6_two_104 (by decide) ?_
              refine lv_iconst (v := 1) hx hb dX6_two_105 (by decide) ?_
              obtain ⟨M_23, hM_24, hm⟩ := bnd_elim hm
              refine x_iast X hP hS (okc_157 hAll) hM_24 (show inb 1 10 = true from rfl) dX6_two_106 (fun H locs hP hS => ?_)
              refine lv_iconst (v := 0) hx hb dX6_two_107 (by decide) ?_
              refine lv_istore (lv' := [(8, .int 0), (7, .int v_21), (6, .int v_19), (5, .int v_3), (0, .ref (ga g 148)), (1, .int a1), (2, .int a2), (3, .int a3), (4, .int a4)]) hx hb dX6_two_108 hl (by decide) rfl (fun ls hl => ?_)
              obtain ⟨M_33, hL_32, hm⟩ := bind_elim hm
              refine wl_X6_two_110 X hAll ?_ hL_32 _ _ _ hP hS (lv_sub hl [4, 5, 6, 7, 8, 3, 2, 1, 0] rfl)
              · intro z_M_33 e_M_33 H locs ls hP hS hl
                subst e_M_33
                replace hm := un1_e hm
                refine lv_iconst (v := 0) hx hb dX6_two_131 (by decide) ?_
                refine lv_istore (lv' := [(8, .int 0), (0, .ref (ga g 148)), (1, .int a1), (2, .int a2), (3, .int a3), (4, .int a4), (5, .int v_3), (6, .int v_19), (7, .int v_21)]) hx hb dX6_two_132 hl (by decide) rfl (fun ls hl => ?_)
                obtain ⟨M_41, hL_40, hm⟩ := bind_elim hm
                refine wl_X6_two_134 X hAll ?_ hL_40 _ _ _ hP hS (lv_sub hl [1, 2, 3, 4, 5, 6, 7, 8, 0] rfl)
                · intro z_M_41 e_M_41 H locs ls hP hS hl
                  subst e_M_41
                  replace hm := un1_e hm
                  refine lv_aload_n hx hb dX6_two_153 rfl (lv_at hl 0 rfl) ?_
                  refine xg_X6_13 X hP hAll uX6_two_X6 mbX6_two_5 dX6_two_154 ?_
                  refine lv_iconst (v := 1) hx hb dX6_two_157 (by decide) ?_
                  refine lv_iload hx hb dX6_two_158 (lv_at hl 5 rfl) ?_
                  obtain ⟨M_42, hM_43, hm⟩ := bnd_elim hm
                  refine x_iast X hP hS (okc_157 hAll) hM_43 (show inb 1 10 = true from rfl) dX6_two_160 (fun H locs hP hS => ?_)
                  refine lv_aload_n hx hb dX6_two_161 rfl (lv_at hl 0 rfl) ?_
                  refine xg_X6_5 X hP hAll uX6_two_X6 mbX6_two_2 dX6_two_162 ?_
                  refine lv_iconst (v := 0) hx hb dX6_two_165 (by decide) ?_
                  refine lv_iload hx hb dX6_two_166 (lv_at hl 4 rfl) ?_
                  obtain ⟨M_44, hM_45, hm⟩ := bnd_elim hm
                  refine x_iast X hP hS (okc_149 hAll) hM_45 (show inb 0 10 = true from rfl) dX6_two_168 (fun H locs hP hS => ?_)
                  refine lv_aload_n hx hb dX6_two_169 rfl (lv_at hl 0 rfl) ?_
                  refine xg_X6_5 X hP hAll uX6_two_X6 mbX6_two_2 dX6_two_170 ?_
                  refine lv_iconst (v := 1) hx hb dX6_two_173 (by decide) ?_
                  refine lv_iload hx hb dX6_two_174 (lv_at hl 3 rfl) ?_
                  refine lv_iload hx hb dX6_two_176 (lv_at hl 4 rfl) ?_
                  refine lv_isub hx hb dX6_two_178 ?_
                  obtain ⟨M_46, hM_47, hm⟩ := bnd_elim hm
                  refine x_iast X hP hS (okc_149 hAll) hM_47 (show inb 1 10 = true from rfl) dX6_two_179 (fun H locs hP hS => ?_)
                  refine lv_iload hx hb dX6_two_180 (lv_at hl 2 rfl) ?_
                  refine lv_if_ne (tgt := 194) hx hb dX6_two_182 (by decide) (fun h_48 => ?_) (fun h_48 => ?_)
                  · rw [if_neg h_48] at hm
                    refine lv_aload_n hx hb dX6_two_194 rfl (lv_at hl 0 rfl) ?_
                    refine xg_X6_47 X hP hAll uX6_two_X6 mbX6_two_7 dX6_two_195 ?_
                    refine lv_iload_n hx hb dX6_two_198 rfl (lv_at hl 1 rfl) ?_
                    obtain ⟨hb_49, hm⟩ := chk_elim hm
                    refine x_iald X hP (okc_179 hAll) hb_49 dX6_two_199 ?_
                    refine lv_i2l (v := (rd M_46 179 (ix a3)).toInt64) hx hb dX6_two_200 rfl ?_
                    cases hm
                    exact x_lret X hP hS hr hlocks dX6_two_201
                  · rw [if_pos h_48] at hm
                    refine lv_aload_n hx hb dX6_two_185 rfl (lv_at hl 0 rfl) ?_
                    refine xg_X6_45 X hP hAll uX6_two_X6 mbX6_two_6 dX6_two_186 ?_
                    refine lv_iload_n hx hb dX6_two_189 rfl (lv_at hl 1 rfl) ?_
                    obtain ⟨hb_50, hm⟩ := chk_elim hm
                    refine x_lald X hP (okc_177 hAll) hb_50 dX6_two_190 ?_
                    refine lv_goto (tgt := 201) hx hb dX6_two_191 (by decide) ?_
                    cases hm
                    exact x_lret X hP hS hr hlocks dX6_two_201
            · rw [if_pos h_18] at hm
              refine lv_ldc2 (v := (-1)) hx hb hown (hts _ mbX6_two_4) dX6_two_80 ?_
              cases hm
              exact x_lret X hP hS hr hlocks dX6_two_83


/-! X6_was -/
def rmX6_was : Room := { frames := 1, cells := 0, slots := 0, locals := 23 }
theorem uX6_was_X6 : ∀ w ∈ wsX60, w ∈ wsX6_was := by decide +kernel
theorem mbX6_was_1 : Cond.fieldLink RX6 121 "FootANightModel" "told" "I" ∈ wsX6_was := by decide +kernel
theorem mbX6_was_2 : Cond.fieldLink RX6 50 "FootANightModel" "wasWide" "[I" ∈ wsX6_was := by decide +kernel
set_option maxHeartbeats 4000000 in
set_option maxRecDepth 100000 in
theorem c_X6_was (l : Launch) {g : GT} (hA : AxG g) (hAll : okAll g)   {M : Mem} {a1 : Int32} {a2 : Int32} {rr : Int32} {MM : Mem} (hm : m_X6_was M a1 a2 = some (rr, MM)) : CI l yX6_was wsX6_was rmX6_was g [.ref (ga g 148), .int a1, .int a2] M rr MM := by
  refine Met.ofW (cc := cX6_was) (maxL := 3) (ret := (some .boolean)) (by decide) rfl ?_
  intro p e s m args below meth c s₁ B hml hv
  obtain ⟨rfl, hSx, hP⟩ := hv
  have hr := B.returns
  have hlocks := B.notSynchronized
  have X : CxG g p s m _ c cX6_was 3 RX6 wsX6_was := ⟨⟨B.exec, B.bytes, hml, findClass_of_methodNamed B.named, atoms_spec (ws := wsX6_was) B.pre⟩, hSx, hA⟩
  have hS : va_S (AbG g) s.heap s.heap [] := va_S.rf
  have hl := lv_entry (([.ref (ga g 148), .int a1, .int a2] : List Value)) (n := 3) (Nat.le_of_ble_eq_true rfl)
  rw [lg_entry_eq]
  generalize (lg_sl (([.ref (ga g 148), .int a1, .int a2] : List Value)) ++ List.replicate (3 - (lg_sl (([.ref (ga g 148), .int a1, .int a2] : List Value))).length) Slot.unset).toArray = ls at hl ⊢
  have hl : lv_has ls 3 [(0, .ref (ga g 148)), (1, .int a1), (2, .int a2)] := hl
  obtain ⟨⟨hx, hb, hml, hown, hts⟩, -, -⟩ := id X
  unfold m_X6_was at hm
  refine lv_aload_n hx hb dX6_was_0 rfl (lv_at hl 0 rfl) ?_
  refine lv_iconst (v := 0) hx hb dX6_was_1 (by decide) ?_
  obtain ⟨M_1, hM_2, hm⟩ := bnd_elim hm
  refine xp_X6_0 X hP hAll uX6_was_X6 mbX6_was_1 hS hM_2 dX6_was_2 (fun H locs hP hS => ?_)
  refine lv_aload_n hx hb dX6_was_5 rfl (lv_at hl 0 rfl) ?_
  refine lv_iload_n hx hb dX6_was_6 rfl (lv_at hl 1 rfl) ?_
  obtain ⟨r_4, hc_3, hm⟩ := bind_elim hm
  refine x_calli (x_runV (As := [.int a1]) (rest := []) X hP hS (c_X6_isFarm l X.2.2 hAll hc_3) (cwV 1 hts gX6_was_X6_isFarm rfl rfl rfl (by decide +kernel) ⟨Nat.le_of_ble_eq_true rfl, Nat.le_of_ble_eq_true rfl⟩) (x_recv (C := RX6) (T := TX6) (N := 55) X hP (okc_148 hAll) rfl) rfl hl.1 rfl (Nat.le_of_ble_eq_true rfl) dX6_was_7 ⟨Nat.zero_le _, Nat.zero_le _⟩) hS (fun H locs hP hS => ?_)
  refine lv_if_eq (tgt := 24) hx hb dX6_was_10 (by decide) (fun h_5 => ?_) (fun h_5 => ?_)
  · rw [if_pos h_5] at hm
    refine lv_iconst (v := 0) hx hb dX6_was_24 (by decide) ?_
    cases hm
    exact x_zret X (by decide) hP hS hr hlocks dX6_was_25
  · rw [if_neg h_5] at hm
    refine lv_aload_n hx hb dX6_was_13 rfl (lv_at hl 0 rfl) ?_
    refine lv_iload_n hx hb dX6_was_14 rfl (lv_at hl 2 rfl) ?_
    refine lv_iconst (v := (-1)) hx hb dX6_was_15 (by decide) ?_
    refine lv_bipush (v := 60) hx hb dX6_was_16 (by decide) ?_
    obtain ⟨r_7, hc_6, hm⟩ := bind_elim hm
    refine x_calli (x_runV (As := [.int a2, .int (-1), .int 60]) (rest := []) X hP hS (c_X6_isIn l X.2.2 hc_6) (cwV 3 hts gX6_was_X6_isIn rfl rfl rfl (by decide +kernel) ⟨Nat.le_of_ble_eq_true rfl, Nat.le_of_ble_eq_true rfl⟩) (x_recv (C := RX6) (T := TX6) (N := 55) X hP (okc_148 hAll) rfl) rfl hl.1 rfl (Nat.le_of_ble_eq_true rfl) dX6_was_18 ⟨Nat.zero_le _, Nat.zero_le _⟩) hS (fun H locs hP hS => ?_)
    refine lv_if_ne (tgt := 26) hx hb dX6_was_21 (by decide) (fun h_8 => ?_) (fun h_8 => ?_)
    · rw [if_neg h_8] at hm
      refine lv_aload_n hx hb dX6_was_26 rfl (lv_at hl 0 rfl) ?_
      refine xg_X6_17 X hP hAll uX6_was_X6 mbX6_was_2 dX6_was_27 ?_
      refine lv_iload_n hx hb dX6_was_30 rfl (lv_at hl 1 rfl) ?_
      refine lv_iload_n hx hb dX6_was_31 rfl (lv_at hl 2 rfl) ?_
      obtain ⟨hb_9, hm⟩ := chk_elim hm
      obtain ⟨M_10, hM_11, hm⟩ := bnd_elim hm
      refine x_iast X hP hS (okc_161 hAll) hM_11 hb_9 dX6_was_32 (fun H locs hP hS => ?_)
      refine lv_iconst (v := 1) hx hb dX6_was_33 (by decide) ?_
      cases hm
      exact x_zret X (by decide) hP hS hr hlocks dX6_was_34
    · rw [if_pos h_8] at hm
      refine lv_iconst (v := 0) hx hb dX6_was_24 (by decide) ?_
      cases hm
      exact x_zret X (by decide) hP hS hr hlocks dX6_was_25


/-! X6_feetBy -/
def rmX6_feetBy : Room := { frames := 1, cells := 0, slots := 0, locals := 21 }
theorem uX6_feetBy_X6 : ∀ w ∈ wsX60, w ∈ wsX6_feetBy := by decide +kernel
theorem mbX6_feetBy_1 : Cond.fieldLink RX6 7 "FootANightModel" "n" "I" ∈ wsX6_feetBy := by decide +kernel
theorem mbX6_feetBy_2 : Cond.fieldLink RX6 13 "FootANightModel" "wide" "[I" ∈ wsX6_feetBy := by decide +kernel
theorem mbX6_feetBy_3 : Cond.fieldLink RX6 50 "FootANightModel" "wasWide" "[I" ∈ wsX6_feetBy := by decide +kernel
theorem mbX6_feetBy_4 : Cond.fieldLink RX6 38 "FootANightModel" "wallOf" "[I" ∈ wsX6_feetBy := by decide +kernel
theorem mbX6_feetBy_5 : Cond.fieldLink RX6 53 "FootANightModel" "settings" "[I" ∈ wsX6_feetBy := by decide +kernel
set_option maxHeartbeats 4000000 in
set_option maxRecDepth 100000 in
theorem wj_X6_feetBy_61i (X : CxG g p s m args c cX6_feetBy 5 RX6 wsX6_feetBy) (hAll : okAll g) {fu : Nat} {M : Mem} {s1 : Int32} {s2 : Int32} {s3 : Int32} {s4 : Int32} {t0 : Int32} {t1 : Int32} {o : (Int32 × Int32 × Int32) ⊕ ((Unit) ⊕ (Int32 × Int32))} (kb : ∀ (d2 : Int32) (d3 : Int32) (d4 : Int32) , o = .inl (d2, d3, d4) → ∀ (H : Heap) (locs : List Loc) (ls : Array Slot), va_P (gD g) vwCl (wlG g M) H → va_S (AbG g) s.heap H locs → lv_has ls 5 [(0, .ref (ga g 148)), (1, .int s1), (2, .int d2), (3, .int d3), (4, .int d4)] → W p l e (headSpec wsX6_feetBy rmX6_feetBy).room s m args below meth c H locs 0 0 Q (F0 m 7 ls [])) (kx0 : ∀ (_u : Unit) , o = .inr (.inl ()) → ∀ (H : Heap) (locs : List Loc) (ls : Array Slot), va_P (gD g) vwCl (wlG g M) H → va_S (AbG g) s.heap H locs → lv_has ls 5 [] → W p l e (headSpec wsX6_feetBy rmX6_feetBy).room s m args below meth c H locs 0 0 Q (F0 m 64 ls [])) (kx1 : ∀ (d2 : Int32) (d3 : Int32) , o = .inr (.inr (d2, d3)) → ∀ (H : Heap) (locs : List Loc) (ls : Array Slot), va_P (gD g) vwCl (wlG g M) H → va_S (AbG g) s.heap H locs → lv_has ls 5 [(1, .int s1), (2, .int d2), (3, .int d3)] → W p l e (headSpec wsX6_feetBy rmX6_feetBy).room s m args below meth c H locs 0 0 Q (F0 m 80 ls [])) (hm : j_X6_feetBy_61i fu M s1 s2 s3 s4 t0 t1 = some o) {H : Heap} {locs : List Loc} {ls : Array Slot} (hP : va_P (gD g) vwCl (wlG g M) H) (hS : va_S (AbG g) s.heap H locs) (hl : lv_has ls 5 [(0, .ref (ga g 148)), (1, .int s1), (2, .int s2), (3, .int s3), (4, .int s4)]) : W p l e (headSpec wsX6_feetBy rmX6_feetBy).room s m args below meth c H locs 0 0 Q (F0 m 61 ls [.int t1, .int t0]) := by
  obtain ⟨⟨hx, hb, hml, hown, hts⟩, -, -⟩ := id X
  unfold j_X6_feetBy_61i at hm
  refine lv_icmp_le (tgt := 66) hx hb dX6_feetBy_61 (by decide) (fun h_8 => ?_) (fun h_8 => ?_)
  · rw [if_pos h_8] at hm
    refine lv_iload_n hx hb dX6_feetBy_66 rfl (lv_at hl 3 rfl) ?_
    refine lv_aload_n hx hb dX6_feetBy_67 rfl (lv_at hl 0 rfl) ?_
    refine lv_iload_n hx hb dX6_feetBy_68 rfl (lv_at hl 2 rfl) ?_
    obtain ⟨r_10, hc_9, hm⟩ := bind_elim hm
    refine x_calli (x_runV (As := [.int s2]) (rest := [.int s3]) X hP hS (c_X6_size l X.2.2 hc_9) (cwV 1 hts gX6_feetBy_X6_size rfl rfl rfl (by decide +kernel) ⟨Nat.le_of_ble_eq_true rfl, Nat.le_of_ble_eq_true rfl⟩) (x_recv (C := RX6) (T := TX6) (N := 55) X hP (okc_148 hAll) rfl) rfl hl.1 rfl (Nat.le_of_ble_eq_true rfl) dX6_feetBy_69 ⟨Nat.zero_le _, Nat.zero_le _⟩) hS (fun H locs hP hS => ?_)
    refine lv_iadd hx hb dX6_feetBy_72 ?_
    obtain ⟨v_11, hv_12, hm⟩ := bnd_elim hm
    refine x_name hv_12 ?_
    refine lv_istore_n (lv' := [(3, .int v_11), (0, .ref (ga g 148)), (1, .int s1), (2, .int s2), (4, .int s4)]) hx hb dX6_feetBy_73 rfl hl (by decide) rfl (fun ls hl => ?_)
    obtain ⟨v_13, hv_14, hm⟩ := bnd_elim hm
    refine lv_iinc (v := v_13) (lv' := [(4, .int v_13), (3, .int v_11), (0, .ref (ga g 148)), (1, .int s1), (2, .int s2)]) hx hb dX6_feetBy_74 hl (k := 4) rfl (by rw [hv_14]; rfl) (by decide) rfl (fun ls hl => ?_)
    refine lv_goto (tgt := 7) hx hb dX6_feetBy_77 (by decide) ?_
    exact kb s2 v_11 v_13 (Option.some.inj hm).symm _ _ _ hP hS (lv_sub hl [2, 3, 4, 1, 0] rfl)
  · rw [if_neg h_8] at hm
    exact kx0 () (Option.some.inj hm).symm _ _ _ hP hS (lv_sub hl [] rfl)

set_option maxHeartbeats 4000000 in
set_option maxRecDepth 100000 in
theorem wl_X6_feetBy_7 (X : CxG g p s m args c cX6_feetBy 5 RX6 wsX6_feetBy) (hAll : okAll g) {fu : Nat} {M : Mem} {s1 : Int32} {x : (Unit) ⊕ (Int32 × Int32)} (kx0 : ∀ (_u : Unit) , x = .inl () → ∀ (H : Heap) (locs : List Loc) (ls : Array Slot), va_P (gD g) vwCl (wlG g M) H → va_S (AbG g) s.heap H locs → lv_has ls 5 [] → W p l e (headSpec wsX6_feetBy rmX6_feetBy).room s m args below meth c H locs 0 0 Q (F0 m 64 ls [])) (kx1 : ∀ (d2 : Int32) (d3 : Int32) , x = .inr (d2, d3) → ∀ (H : Heap) (locs : List Loc) (ls : Array Slot), va_P (gD g) vwCl (wlG g M) H → va_S (AbG g) s.heap H locs → lv_has ls 5 [(1, .int s1), (2, .int d2), (3, .int d3)] → W p l e (headSpec wsX6_feetBy rmX6_feetBy).room s m args below meth c H locs 0 0 Q (F0 m 80 ls [])) {n : Nat} {q0 : Int32 × Int32 × Int32} (h : lp (b_X6_feetBy_7 fu M s1) n q0 = some x) : ∀ (H : Heap) (locs : List Loc) (ls : Array Slot), va_P (gD g) vwCl (wlG g M) H → va_S (AbG g) s.heap H locs → lv_has ls 5 [(0, .ref (ga g 148)), (1, .int s1), (2, .int q0.1), (3, .int q0.2.1), (4, .int q0.2.2)] → W p l e (headSpec wsX6_feetBy rmX6_feetBy).room s m args below meth c H locs 0 0 Q (F0 m 7 ls []) := by
  refine lp_elim (P := fun q0 : Int32 × Int32 × Int32 => ∀ (H : Heap) (locs : List Loc) (ls : Array Slot), va_P (gD g) vwCl (wlG g M) H → va_S (AbG g) s.heap H locs → lv_has ls 5 [(0, .ref (ga g 148)), (1, .int s1), (2, .int q0.1), (3, .int q0.2.1), (4, .int q0.2.2)] → W p l e (headSpec wsX6_feetBy rmX6_feetBy).room s m args below meth c H locs 0 0 Q (F0 m 7 ls [])) (fun q1 o hm hI hX => ?_) n q0 h
  obtain ⟨c2, c3, c4⟩ := q1
  have kb : ∀ (d2 : Int32) (d3 : Int32) (d4 : Int32) , o = .inl (d2, d3, d4) → ∀ (H : Heap) (locs : List Loc) (ls : Array Slot), va_P (gD g) vwCl (wlG g M) H → va_S (AbG g) s.heap H locs → lv_has ls 5 [(0, .ref (ga g 148)), (1, .int s1), (2, .int d2), (3, .int d3), (4, .int d4)] → W p l e (headSpec wsX6_feetBy rmX6_feetBy).room s m args below meth c H locs 0 0 Q (F0 m 7 ls []) := fun d2 d3 d4 e => hI _ e
  have kx0 : ∀ (_u : Unit) , o = .inr (.inl ()) → ∀ (H : Heap) (locs : List Loc) (ls : Array Slot), va_P (gD g) vwCl (wlG g M) H → va_S (AbG g) s.heap H locs → lv_has ls 5 [] → W p l e (headSpec wsX6_feetBy rmX6_feetBy).room s m args below meth c H locs 0 0 Q (F0 m 64 ls []) := fun _u e => kx0 _u (hX _ e).symm
  have kx1 : ∀ (d2 : Int32) (d3 : Int32) , o = .inr (.inr (d2, d3)) → ∀ (H : Heap) (locs : List Loc) (ls : Array Slot), va_P (gD g) vwCl (wlG g M) H → va_S (AbG g) s.heap H locs → lv_has ls 5 [(1, .int s1), (2, .int d2), (3, .int d3)] → W p l e (headSpec wsX6_feetBy rmX6_feetBy).room s m args below meth c H locs 0 0 Q (F0 m 80 ls []) := fun d2 d3 e => kx1 d2 d3 (hX _ e).symm
  clear hI hX
  intro H locs ls hP hS hl
  obtain ⟨⟨hx, hb, hml, hown, hts⟩, -, -⟩ := id X
  have hl : lv_has ls 5 [(0, .ref (ga g 148)), (1, .int s1), (2, .int c2), (3, .int c3), (4, .int c4)] := hl
  have hP : va_P (gD g) vwCl (wlG g M) H := hP
  unfold b_X6_feetBy_7 at hm
  replace hm := un3_e hm
  refine lv_iload hx hb dX6_feetBy_7 (lv_at hl 4 rfl) ?_
  refine lv_aload_n hx hb dX6_feetBy_9 rfl (lv_at hl 0 rfl) ?_
  refine xg_X6_2 X hP hAll uX6_feetBy_X6 mbX6_feetBy_1 dX6_feetBy_10 ?_
  refine lv_icmp_ge (tgt := 80) hx hb dX6_feetBy_13 (by decide) (fun h_1 => ?_) (fun h_1 => ?_)
  · rw [if_pos h_1] at hm
    exact kx1 c2 c3 (Option.some.inj hm).symm _ _ _ hP hS (lv_sub hl [1, 2, 3] rfl)
  · rw [if_neg h_1] at hm
    refine lv_iload_n hx hb dX6_feetBy_16 rfl (lv_at hl 2 rfl) ?_
    refine lv_aload_n hx hb dX6_feetBy_17 rfl (lv_at hl 0 rfl) ?_
    refine xg_X6_5 X hP hAll uX6_feetBy_X6 mbX6_feetBy_2 dX6_feetBy_18 ?_
    refine lv_iload hx hb dX6_feetBy_21 (lv_at hl 4 rfl) ?_
    obtain ⟨hb_2, hm⟩ := chk_elim hm
    refine x_iald X hP (okc_149 hAll) hb_2 dX6_feetBy_23 ?_
    refine lv_iadd hx hb dX6_feetBy_24 ?_
    refine lv_aload_n hx hb dX6_feetBy_25 rfl (lv_at hl 0 rfl) ?_
    refine xg_X6_17 X hP hAll uX6_feetBy_X6 mbX6_feetBy_3 dX6_feetBy_26 ?_
    refine lv_iload hx hb dX6_feetBy_29 (lv_at hl 4 rfl) ?_
    refine x_iald X hP (okc_161 hAll) hb_2 dX6_feetBy_31 ?_
    refine lv_isub hx hb dX6_feetBy_32 ?_
    obtain ⟨v_3, hv_4, hm⟩ := bnd_elim hm
    refine x_name hv_4 ?_
    refine lv_istore_n (lv' := [(2, .int v_3), (0, .ref (ga g 148)), (1, .int s1), (3, .int c3), (4, .int c4)]) hx hb dX6_feetBy_33 rfl hl (by decide) rfl (fun ls hl => ?_)
    refine lv_aload_n hx hb dX6_feetBy_34 rfl (lv_at hl 1 rfl) ?_
    refine lv_iload_n hx hb dX6_feetBy_35 rfl (lv_at hl 0 rfl) ?_
    obtain ⟨r_6, hc_5, hm⟩ := bind_elim hm
    refine x_calli (x_runV (As := [.int v_3]) (rest := []) X hP hS (c_X6_size l X.2.2 hc_5) (cwV 1 hts gX6_feetBy_X6_size rfl rfl rfl (by decide +kernel) ⟨Nat.le_of_ble_eq_true rfl, Nat.le_of_ble_eq_true rfl⟩) (x_recv (C := RX6) (T := TX6) (N := 55) X hP (okc_148 hAll) rfl) rfl hl.1 rfl (Nat.le_of_ble_eq_true rfl) dX6_feetBy_36 ⟨Nat.zero_le _, Nat.zero_le _⟩) hS (fun H locs hP hS => ?_)
    refine lv_aload_n hx hb dX6_feetBy_39 rfl (lv_at hl 1 rfl) ?_
    refine xg_X6_13 X hP hAll uX6_feetBy_X6 mbX6_feetBy_4 dX6_feetBy_40 ?_
    refine lv_iload hx hb dX6_feetBy_43 (lv_at hl 4 rfl) ?_
    refine x_iald X hP (okc_157 hAll) hb_2 dX6_feetBy_45 ?_
    refine lv_iconst (v := 1) hx hb dX6_feetBy_46 (by decide) ?_
    refine lv_icmp_ne (tgt := 54) hx hb dX6_feetBy_47 (by decide) (fun h_7 => ?_) (fun h_7 => ?_)
    · rw [if_neg h_7] at hm
      refine lv_aload_n hx hb dX6_feetBy_54 rfl (lv_at hl 1 rfl) ?_
      refine xg_X6_18 X hP hAll uX6_feetBy_X6 mbX6_feetBy_5 dX6_feetBy_55 ?_
      refine lv_bipush (v := 9) hx hb dX6_feetBy_58 (by decide) ?_
      refine x_iald X hP (okc_162 hAll) (show inb 9 10 = true from rfl) dX6_feetBy_60 ?_
      exact wj_X6_feetBy_61i X hAll kb kx0 kx1 hm hP hS (lv_sub hl [1, 2, 0, 3, 4] rfl)
    · rw [if_pos h_7] at hm
      refine lv_iconst (v := 0) hx hb dX6_feetBy_50 (by decide) ?_
      refine lv_goto (tgt := 61) hx hb dX6_feetBy_51 (by decide) ?_
      exact wj_X6_feetBy_61i X hAll kb kx0 kx1 hm hP hS (lv_sub hl [1, 2, 0, 3, 4] rfl)

set_option maxHeartbeats 4000000 in
set_option maxRecDepth 100000 in
theorem c_X6_feetBy (l : Launch) {g : GT} (hA : AxG g) (hAll : okAll g)   {fu : Nat} {M : Mem} {a1 : Int32} {rr : Int32} (hm : m_X6_feetBy fu M a1 = some rr) : CI l yX6_feetBy wsX6_feetBy rmX6_feetBy g [.ref (ga g 148), .int a1] M rr M := by
  refine Met.ofW (cc := cX6_feetBy) (maxL := 5) (ret := (some .int)) (by decide) rfl ?_
  intro p e s m args below meth c s₁ B hml hv
  obtain ⟨rfl, hSx, hP⟩ := hv
  have hr := B.returns
  have hlocks := B.notSynchronized
  have X : CxG g p s m _ c cX6_feetBy 5 RX6 wsX6_feetBy := ⟨⟨B.exec, B.bytes, hml, findClass_of_methodNamed B.named, atoms_spec (ws := wsX6_feetBy) B.pre⟩, hSx, hA⟩
  have hS : va_S (AbG g) s.heap s.heap [] := va_S.rf
  have hl := lv_entry (([.ref (ga g 148), .int a1] : List Value)) (n := 5) (Nat.le_of_ble_eq_true rfl)
  rw [lg_entry_eq]
  generalize (lg_sl (([.ref (ga g 148), .int a1] : List Value)) ++ List.replicate (5 - (lg_sl (([.ref (ga g 148), .int a1] : List Value))).length) Slot.unset).toArray = ls at hl ⊢
  have hl : lv_has ls 5 [(0, .ref (ga g 148)), (1, .int a1)] := hl
  obtain ⟨⟨hx, hb, hml, hown, hts⟩, -, -⟩ := id X
  unfold m_X6_feetBy at hm
  refine lv_iload_n hx hb dX6_feetBy_0 rfl (lv_at hl 1 rfl) ?_
  refine lv_istore_n (lv' := [(2, .int a1), (0, .ref (ga g 148)), (1, .int a1)]) hx hb dX6_feetBy_1 rfl hl (by decide) rfl (fun ls hl => ?_)
  refine lv_iconst (v := 0) hx hb dX6_feetBy_2 (by decide) ?_
  refine lv_istore_n (lv' := [(3, .int 0), (2, .int a1), (0, .ref (ga g 148)), (1, .int a1)]) hx hb dX6_feetBy_3 rfl hl (by decide) rfl (fun ls hl => ?_)
  refine lv_iconst (v := 0) hx hb dX6_feetBy_4 (by decide) ?_
  refine lv_istore (lv' := [(4, .int 0), (3, .int 0), (2, .int a1), (0, .ref (ga g 148)), (1, .int a1)]) hx hb dX6_feetBy_5 hl (by decide) rfl (fun ls hl => ?_)
  obtain ⟨x_15, hL_16, hm⟩ := bind_elim hm
  refine wl_X6_feetBy_7 X hAll ?_ ?_ hL_16 _ _ _ hP hS (lv_sub hl [3, 4, 2, 1, 0] rfl)
  · intro _u e_x_15 H locs ls hP hS hl
    subst e_x_15
    replace hm := unS_l hm
    replace hm := un0_e hm
    refine lv_iconst (v := (-1)) hx hb dX6_feetBy_64 (by decide) ?_
    cases hm
    exact x_iret X hP hS hr hlocks dX6_feetBy_65
  · intro v_17 v_18 e_x_15 H locs ls hP hS hl
    subst e_x_15
    replace hm := unS_r hm
    replace hm := un2_e hm
    refine lv_iload_n hx hb dX6_feetBy_80 rfl (lv_at hl 1 rfl) ?_
    refine lv_iload_n hx hb dX6_feetBy_81 rfl (lv_at hl 0 rfl) ?_
    refine lv_icmp_ne (tgt := 89) hx hb dX6_feetBy_82 (by decide) (fun h_19 => ?_) (fun h_19 => ?_)
    · rw [if_neg h_19] at hm
      refine lv_iconst (v := (-1)) hx hb dX6_feetBy_89 (by decide) ?_
      cases hm
      exact x_iret X hP hS hr hlocks dX6_feetBy_90
    · rw [if_pos h_19] at hm
      refine lv_iload_n hx hb dX6_feetBy_85 rfl (lv_at hl 2 rfl) ?_
      refine lv_goto (tgt := 90) hx hb dX6_feetBy_86 (by decide) ?_
      cases hm
      exact x_iret X hP hS hr hlocks dX6_feetBy_90


/-! X6_judged -/
def rmX6_judged : Room := { frames := 2, cells := 0, slots := 0, locals := 45 }
theorem uX6_judged_X6 : ∀ w ∈ wsX60, w ∈ wsX6_judged := by decide +kernel
theorem mbX6_judged_1 : Cond.fieldLink RX6 121 "FootANightModel" "told" "I" ∈ wsX6_judged := by decide +kernel
theorem mbX6_judged_2 : Cond.fieldLink RX6 7 "FootANightModel" "n" "I" ∈ wsX6_judged := by decide +kernel
theorem mbX6_judged_3 : Cond.fieldLink RX6 50 "FootANightModel" "wasWide" "[I" ∈ wsX6_judged := by decide +kernel
theorem mbX6_judged_4 : Cond.fieldLink RX6 53 "FootANightModel" "settings" "[I" ∈ wsX6_judged := by decide +kernel
set_option maxHeartbeats 4000000 in
set_option maxRecDepth 100000 in
theorem wl_X6_judged_7 (X : CxG g p s m args c cX6_judged 4 RX6 wsX6_judged) (hAll : okAll g) {fu : Nat} {M : Mem} {x : (Unit) ⊕ (Unit)} (kx0 : ∀ (_u : Unit) , x = .inl () → ∀ (H : Heap) (locs : List Loc) (ls : Array Slot), va_P (gD g) vwCl (wlG g M) H → va_S (AbG g) s.heap H locs → lv_has ls 4 [] → W p l e (headSpec wsX6_judged rmX6_judged).room s m args below meth c H locs 0 0 Q (F0 m 25 ls [])) (kx1 : ∀ (_u : Unit) , x = .inr () → ∀ (H : Heap) (locs : List Loc) (ls : Array Slot), va_P (gD g) vwCl (wlG g M) H → va_S (AbG g) s.heap H locs → lv_has ls 4 [(0, .ref (ga g 148))] → W p l e (headSpec wsX6_judged rmX6_judged).room s m args below meth c H locs 0 0 Q (F0 m 33 ls [])) {n : Nat} {q0 : Int32} (h : lp (b_X6_judged_7 fu M) n q0 = some x) : ∀ (H : Heap) (locs : List Loc) (ls : Array Slot), va_P (gD g) vwCl (wlG g M) H → va_S (AbG g) s.heap H locs → lv_has ls 4 [(0, .ref (ga g 148)), (1, .int q0)] → W p l e (headSpec wsX6_judged rmX6_judged).room s m args below meth c H locs 0 0 Q (F0 m 7 ls []) := by
  refine lp_elim (P := fun q0 : Int32 => ∀ (H : Heap) (locs : List Loc) (ls : Array Slot), va_P (gD g) vwCl (wlG g M) H → va_S (AbG g) s.heap H locs → lv_has ls 4 [(0, .ref (ga g 148)), (1, .int q0)] → W p l e (headSpec wsX6_judged rmX6_judged).room s m args below meth c H locs 0 0 Q (F0 m 7 ls [])) (fun q1 o hm hI hX => ?_) n q0 h
  obtain ⟨c1, rfl⟩ : ∃ z, z = q1 := ⟨_, rfl⟩
  have kb : ∀ (d1 : Int32) , o = .inl d1 → ∀ (H : Heap) (locs : List Loc) (ls : Array Slot), va_P (gD g) vwCl (wlG g M) H → va_S (AbG g) s.heap H locs → lv_has ls 4 [(0, .ref (ga g 148)), (1, .int d1)] → W p l e (headSpec wsX6_judged rmX6_judged).room s m args below meth c H locs 0 0 Q (F0 m 7 ls []) := fun d1 e => hI _ e
  have kx0 : ∀ (_u : Unit) , o = .inr (.inl ()) → ∀ (H : Heap) (locs : List Loc) (ls : Array Slot), va_P (gD g) vwCl (wlG g M) H → va_S (AbG g) s.heap H locs → lv_has ls 4 [] → W p l e (headSpec wsX6_judged rmX6_judged).room s m args below meth c H locs 0 0 Q (F0 m 25 ls []) := fun _u e => kx0 _u (hX _ e).symm
  have kx1 : ∀ (_u : Unit) , o = .inr (.inr ()) → ∀ (H : Heap) (locs : List Loc) (ls : Array Slot), va_P (gD g) vwCl (wlG g M) H → va_S (AbG g) s.heap H locs → lv_has ls 4 [(0, .ref (ga g 148))] → W p l e (headSpec wsX6_judged rmX6_judged).room s m args below meth c H locs 0 0 Q (F0 m 33 ls []) := fun _u e => kx1 _u (hX _ e).symm
  clear hI hX
  intro H locs ls hP hS hl
  obtain ⟨⟨hx, hb, hml, hown, hts⟩, -, -⟩ := id X
  have hl : lv_has ls 4 [(0, .ref (ga g 148)), (1, .int c1)] := hl
  have hP : va_P (gD g) vwCl (wlG g M) H := hP
  unfold b_X6_judged_7 at hm
  replace hm := un1_e hm
  refine lv_iload_n hx hb dX6_judged_7 rfl (lv_at hl 1 rfl) ?_
  refine lv_aload_n hx hb dX6_judged_8 rfl (lv_at hl 0 rfl) ?_
  refine xg_X6_2 X hP hAll uX6_judged_X6 mbX6_judged_2 dX6_judged_9 ?_
  refine lv_icmp_ge (tgt := 33) hx hb dX6_judged_12 (by decide) (fun h_3 => ?_) (fun h_3 => ?_)
  · rw [if_pos h_3] at hm
    exact kx1 () (Option.some.inj hm).symm _ _ _ hP hS (lv_sub hl [0] rfl)
  · rw [if_neg h_3] at hm
    refine lv_aload_n hx hb dX6_judged_15 rfl (lv_at hl 0 rfl) ?_
    refine xg_X6_17 X hP hAll uX6_judged_X6 mbX6_judged_3 dX6_judged_16 ?_
    refine lv_iload_n hx hb dX6_judged_19 rfl (lv_at hl 1 rfl) ?_
    obtain ⟨hb_4, hm⟩ := chk_elim hm
    refine x_iald X hP (okc_161 hAll) hb_4 dX6_judged_20 ?_
    refine lv_iconst (v := (-1)) hx hb dX6_judged_21 (by decide) ?_
    refine lv_icmp_ne (tgt := 27) hx hb dX6_judged_22 (by decide) (fun h_5 => ?_) (fun h_5 => ?_)
    · rw [if_neg h_5] at hm
      obtain ⟨v_6, hv_7, hm⟩ := bnd_elim hm
      refine lv_iinc (v := v_6) (lv' := [(1, .int v_6), (0, .ref (ga g 148))]) hx hb dX6_judged_27 hl (k := 1) rfl (by rw [hv_7]; rfl) (by decide) rfl (fun ls hl => ?_)
      refine lv_goto (tgt := 7) hx hb dX6_judged_30 (by decide) ?_
      exact kb v_6 (Option.some.inj hm).symm _ _ _ hP hS (lv_sub hl [1, 0] rfl)
    · rw [if_pos h_5] at hm
      exact kx0 () (Option.some.inj hm).symm _ _ _ hP hS (lv_sub hl [] rfl)

set_option maxHeartbeats 4000000 in
set_option maxRecDepth 100000 in
theorem wl_X6_judged_44 (X : CxG g p s m args c cX6_judged 4 RX6 wsX6_judged) (hAll : okAll g) {fu : Nat} {M : Mem} {x : Int32} (kx0 : ∀ (d1 : Int32) , x = d1 → ∀ (H : Heap) (locs : List Loc) (ls : Array Slot), va_P (gD g) vwCl (wlG g M) H → va_S (AbG g) s.heap H locs → lv_has ls 4 [(1, .int d1)] → W p l e (headSpec wsX6_judged rmX6_judged).room s m args below meth c H locs 0 0 Q (F0 m 84 ls [])) {n : Nat} {q0 : Int32 × Int32} (h : lp (b_X6_judged_44 fu M) n q0 = some x) : ∀ (H : Heap) (locs : List Loc) (ls : Array Slot), va_P (gD g) vwCl (wlG g M) H → va_S (AbG g) s.heap H locs → lv_has ls 4 [(0, .ref (ga g 148)), (1, .int q0.1), (2, .int q0.2)] → W p l e (headSpec wsX6_judged rmX6_judged).room s m args below meth c H locs 0 0 Q (F0 m 44 ls []) := by
  refine lp_elim (P := fun q0 : Int32 × Int32 => ∀ (H : Heap) (locs : List Loc) (ls : Array Slot), va_P (gD g) vwCl (wlG g M) H → va_S (AbG g) s.heap H locs → lv_has ls 4 [(0, .ref (ga g 148)), (1, .int q0.1), (2, .int q0.2)] → W p l e (headSpec wsX6_judged rmX6_judged).room s m args below meth c H locs 0 0 Q (F0 m 44 ls [])) (fun q1 o hm hI hX => ?_) n q0 h
  obtain ⟨c1, c2⟩ := q1
  have kb : ∀ (d1 : Int32) (d2 : Int32) , o = .inl (d1, d2) → ∀ (H : Heap) (locs : List Loc) (ls : Array Slot), va_P (gD g) vwCl (wlG g M) H → va_S (AbG g) s.heap H locs → lv_has ls 4 [(0, .ref (ga g 148)), (1, .int d1), (2, .int d2)] → W p l e (headSpec wsX6_judged rmX6_judged).room s m args below meth c H locs 0 0 Q (F0 m 44 ls []) := fun d1 d2 e => hI _ e
  have kx0 : ∀ (d1 : Int32) , o = .inr d1 → ∀ (H : Heap) (locs : List Loc) (ls : Array Slot), va_P (gD g) vwCl (wlG g M) H → va_S (AbG g) s.heap H locs → lv_has ls 4 [(1, .int d1)] → W p l e (headSpec wsX6_judged rmX6_judged).room s m args below meth c H locs 0 0 Q (F0 m 84 ls []) := fun d1 e => kx0 d1 (hX _ e).symm
  clear hI hX
  intro H locs ls hP hS hl
  obtain ⟨⟨hx, hb, hml, hown, hts⟩, -, -⟩ := id X
  have hl : lv_has ls 4 [(0, .ref (ga g 148)), (1, .int c1), (2, .int c2)] := hl
  have hP : va_P (gD g) vwCl (wlG g M) H := hP
  unfold b_X6_judged_44 at hm
  replace hm := un2_e hm
  refine lv_iload_n hx hb dX6_judged_44 rfl (lv_at hl 2 rfl) ?_
  refine lv_aload_n hx hb dX6_judged_45 rfl (lv_at hl 0 rfl) ?_
  refine xg_X6_18 X hP hAll uX6_judged_X6 mbX6_judged_4 dX6_judged_46 ?_
  refine lv_bipush (v := 9) hx hb dX6_judged_49 (by decide) ?_
  refine x_iald X hP (okc_162 hAll) (show inb 9 10 = true from rfl) dX6_judged_51 ?_
  refine lv_icmp_gt (tgt := 84) hx hb dX6_judged_52 (by decide) (fun h_12 => ?_) (fun h_12 => ?_)
  · rw [if_pos h_12] at hm
    exact kx0 c1 (Option.some.inj hm).symm _ _ _ hP hS (lv_sub hl [1] rfl)
  · rw [if_neg h_12] at hm
    refine lv_aload_n hx hb dX6_judged_55 rfl (lv_at hl 0 rfl) ?_
    refine lv_iload_n hx hb dX6_judged_56 rfl (lv_at hl 2 rfl) ?_
    obtain ⟨r_14, hc_13, hm⟩ := bind_elim hm
    refine x_calli (x_runV (As := [.int c2]) (rest := []) X hP hS (c_X6_feetBy l X.2.2 hAll hc_13) (cwV 1 hts gX6_judged_X6_feetBy rfl rfl rfl (by decide +kernel) ⟨Nat.le_of_ble_eq_true rfl, Nat.le_of_ble_eq_true rfl⟩) (x_recv (C := RX6) (T := TX6) (N := 55) X hP (okc_148 hAll) rfl) rfl hl.1 rfl (Nat.le_of_ble_eq_true rfl) dX6_judged_57 ⟨Nat.zero_le _, Nat.zero_le _⟩) hS (fun H locs hP hS => ?_)
    refine lv_istore_n (lv' := [(3, .int r_14), (0, .ref (ga g 148)), (1, .int c1), (2, .int c2)]) hx hb dX6_judged_60 rfl hl (by decide) rfl (fun ls hl => ?_)
    refine lv_iload_n hx hb dX6_judged_61 rfl (lv_at hl 0 rfl) ?_
    refine lv_iconst (v := (-1)) hx hb dX6_judged_62 (by decide) ?_
    refine lv_icmp_eq (tgt := 78) hx hb dX6_judged_63 (by decide) (fun h_15 => ?_) (fun h_15 => ?_)
    · rw [if_pos h_15] at hm
      obtain ⟨v_16, hv_17, hm⟩ := bnd_elim hm
      refine lv_iinc (v := v_16) (lv' := [(2, .int v_16), (3, .int r_14), (0, .ref (ga g 148)), (1, .int c1)]) hx hb dX6_judged_78 hl (k := 3) rfl (by rw [hv_17]; rfl) (by decide) rfl (fun ls hl => ?_)
      refine lv_goto (tgt := 44) hx hb dX6_judged_81 (by decide) ?_
      exact kb c1 v_16 (Option.some.inj hm).symm _ _ _ hP hS (lv_sub hl [2, 3, 0] rfl)
    · rw [if_neg h_15] at hm
      refine lv_iload_n hx hb dX6_judged_66 rfl (lv_at hl 2 rfl) ?_
      refine lv_iconst (v := (-1)) hx hb dX6_judged_67 (by decide) ?_
      refine lv_icmp_eq (tgt := 76) hx hb dX6_judged_68 (by decide) (fun h_18 => ?_) (fun h_18 => ?_)
      · rw [if_pos h_18] at hm
        refine lv_iload_n hx hb dX6_judged_76 rfl (lv_at hl 0 rfl) ?_
        refine lv_istore_n (lv' := [(1, .int r_14), (3, .int r_14), (0, .ref (ga g 148)), (2, .int c2)]) hx hb dX6_judged_77 rfl hl (by decide) rfl (fun ls hl => ?_)
        obtain ⟨v_19, hv_20, hm⟩ := bnd_elim hm
        refine lv_iinc (v := v_19) (lv' := [(2, .int v_19), (1, .int r_14), (3, .int r_14), (0, .ref (ga g 148))]) hx hb dX6_judged_78 hl (k := 3) rfl (by rw [hv_20]; rfl) (by decide) rfl (fun ls hl => ?_)
        refine lv_goto (tgt := 44) hx hb dX6_judged_81 (by decide) ?_
        exact kb r_14 v_19 (Option.some.inj hm).symm _ _ _ hP hS (lv_sub hl [3, 1, 0] rfl)
      · rw [if_neg h_18] at hm
        refine lv_iload_n hx hb dX6_judged_71 rfl (lv_at hl 0 rfl) ?_
        refine lv_iload_n hx hb dX6_judged_72 rfl (lv_at hl 2 rfl) ?_
        refine lv_icmp_ge (tgt := 78) hx hb dX6_judged_73 (by decide) (fun h_21 => ?_) (fun h_21 => ?_)
        · rw [if_pos h_21] at hm
          obtain ⟨v_22, hv_23, hm⟩ := bnd_elim hm
          refine lv_iinc (v := v_22) (lv' := [(2, .int v_22), (3, .int r_14), (0, .ref (ga g 148)), (1, .int c1)]) hx hb dX6_judged_78 hl (k := 3) rfl (by rw [hv_23]; rfl) (by decide) rfl (fun ls hl => ?_)
          refine lv_goto (tgt := 44) hx hb dX6_judged_81 (by decide) ?_
          exact kb c1 v_22 (Option.some.inj hm).symm _ _ _ hP hS (lv_sub hl [2, 3, 0] rfl)
        · rw [if_neg h_21] at hm
          refine lv_iload_n hx hb dX6_judged_76 rfl (lv_at hl 0 rfl) ?_
          refine lv_istore_n (lv' := [(1, .int r_14), (3, .int r_14), (0, .ref (ga g 148)), (2, .int c2)]) hx hb dX6_judged_77 rfl hl (by decide) rfl (fun ls hl => ?_)
          obtain ⟨v_24, hv_25, hm⟩ := bnd_elim hm
          refine lv_iinc (v := v_24) (lv' := [(2, .int v_24), (1, .int r_14), (3, .int r_14), (0, .ref (ga g 148))]) hx hb dX6_judged_78 hl (k := 3) rfl (by rw [hv_25]; rfl) (by decide) rfl (fun ls hl => ?_)
          refine lv_goto (tgt := 44) hx hb dX6_judged_81 (by decide) ?_
          exact kb r_14 v_24 (Option.some.inj hm).symm _ _ _ hP hS (lv_sub hl [3, 1, 0] rfl)

set_option maxHeartbeats 4000000 in
set_option maxRecDepth 100000 in
theorem c_X6_judged (l : Launch) {g : GT} (hA : AxG g) (hAll : okAll g)   {fu : Nat} {M : Mem} {rr : Int32} {MM : Mem} (hm : m_X6_judged fu M = some (rr, MM)) : CI l yX6_judged wsX6_judged rmX6_judged g [.ref (ga g 148)] M rr MM := by
  refine Met.ofW (cc := cX6_judged) (maxL := 4) (ret := (some .int)) (by decide) rfl ?_
  intro p e s m args below meth c s₁ B hml hv
  obtain ⟨rfl, hSx, hP⟩ := hv
  have hr := B.returns
  have hlocks := B.notSynchronized
  have X : CxG g p s m _ c cX6_judged 4 RX6 wsX6_judged := ⟨⟨B.exec, B.bytes, hml, findClass_of_methodNamed B.named, atoms_spec (ws := wsX6_judged) B.pre⟩, hSx, hA⟩
  have hS : va_S (AbG g) s.heap s.heap [] := va_S.rf
  have hl := lv_entry (([.ref (ga g 148)] : List Value)) (n := 4) (Nat.le_of_ble_eq_true rfl)
  rw [lg_entry_eq]
  generalize (lg_sl (([.ref (ga g 148)] : List Value)) ++ List.replicate (4 - (lg_sl (([.ref (ga g 148)] : List Value))).length) Slot.unset).toArray = ls at hl ⊢
  have hl : lv_has ls 4 [(0, .ref (ga g 148))] := hl
  obtain ⟨⟨hx, hb, hml, hown, hts⟩, -, -⟩ := id X
  unfold m_X6_judged at hm
  refine lv_aload_n hx hb dX6_judged_0 rfl (lv_at hl 0 rfl) ?_
  refine lv_iconst (v := 0) hx hb dX6_judged_1 (by decide) ?_
  obtain ⟨M_1, hM_2, hm⟩ := bnd_elim hm
  refine xp_X6_0 X hP hAll uX6_judged_X6 mbX6_judged_1 hS hM_2 dX6_judged_2 (fun H locs hP hS => ?_)
  refine lv_iconst (v := 0) hx hb dX6_judged_5 (by decide) ?_
  refine lv_istore_n (lv' := [(1, .int 0), (0, .ref (ga g 148))]) hx hb dX6_judged_6 rfl hl (by decide) rfl (fun ls hl => ?_)
  obtain ⟨x_8, hL_9, hm⟩ := bind_elim hm
  refine wl_X6_judged_7 X hAll ?_ ?_ hL_9 _ _ _ hP hS (lv_sub hl [1, 0] rfl)
  · intro _u e_x_8 H locs ls hP hS hl
    subst e_x_8
    replace hm := unS_l hm
    replace hm := un0_e hm
    refine lv_iconst (v := (-1)) hx hb dX6_judged_25 (by decide) ?_
    cases hm
    exact x_iret X hP hS hr hlocks dX6_judged_26
  · intro _u e_x_8 H locs ls hP hS hl
    subst e_x_8
    replace hm := unS_r hm
    replace hm := un0_e hm
    refine lv_iconst (v := (-1)) hx hb dX6_judged_33 (by decide) ?_
    refine lv_istore_n (lv' := [(1, .int (-1)), (0, .ref (ga g 148))]) hx hb dX6_judged_34 rfl hl (by decide) rfl (fun ls hl => ?_)
    refine lv_aload_n hx hb dX6_judged_35 rfl (lv_at hl 1 rfl) ?_
    refine xg_X6_18 X hP hAll uX6_judged_X6 mbX6_judged_4 dX6_judged_36 ?_
    refine lv_bipush (v := 9) hx hb dX6_judged_39 (by decide) ?_
    refine x_iald X hP (okc_162 hAll) (show inb 9 10 = true from rfl) dX6_judged_41 ?_
    refine lv_ineg hx hb dX6_judged_42 ?_
    obtain ⟨v_10, hv_11, hm⟩ := bnd_elim hm
    refine x_name hv_11 ?_
    refine lv_istore_n (lv' := [(2, .int v_10), (1, .int (-1)), (0, .ref (ga g 148))]) hx hb dX6_judged_43 rfl hl (by decide) rfl (fun ls hl => ?_)
    obtain ⟨v_28, hL_27, hm⟩ := bind_elim hm
    refine wl_X6_judged_44 X hAll ?_ hL_27 _ _ _ hP hS (lv_sub hl [2, 1, 0] rfl)
    · intro z_v_28 e_v_28 H locs ls hP hS hl
      subst e_v_28
      replace hm := un1_e hm
      refine lv_iload_n hx hb dX6_judged_84 rfl (lv_at hl 0 rfl) ?_
      cases hm
      exact x_iret X hP hS hr hlocks dX6_judged_85


/-! X6_putAside -/
def rmX6_putAside : Room := { frames := 0, cells := 0, slots := 0, locals := 0 }
theorem uX6_putAside_X6 : ∀ w ∈ wsX60, w ∈ wsX6_putAside := by decide +kernel
theorem mbX6_putAside_1 : Cond.fieldLink RX6 344 "FootANightModel" "asideAt" "I" ∈ wsX6_putAside := by decide +kernel
theorem mbX6_putAside_2 : Cond.fieldLink RX6 347 "FootANightModel" "isPutting" "Z" ∈ wsX6_putAside := by decide +kernel
theorem mbX6_putAside_3 : Cond.fieldLink RX6 112 "FootANightModel" "aside" "[I" ∈ wsX6_putAside := by decide +kernel
set_option maxHeartbeats 4000000 in
set_option maxRecDepth 100000 in
theorem c_X6_putAside (l : Launch) {g : GT} (hA : AxG g) (hAll : okAll g)   {M : Mem} {a1 : Int32} {rr : Int32} {MM : Mem} (hm : m_X6_putAside M a1 = some (rr, MM)) : CI l yX6_putAside wsX6_putAside rmX6_putAside g [.ref (ga g 148), .int a1] M rr MM := by
  refine Met.ofW (cc := cX6_putAside) (maxL := 2) (ret := (some .int)) (by decide) rfl ?_
  intro p e s m args below meth c s₁ B hml hv
  obtain ⟨rfl, hSx, hP⟩ := hv
  have hr := B.returns
  have hlocks := B.notSynchronized
  have X : CxG g p s m _ c cX6_putAside 2 RX6 wsX6_putAside := ⟨⟨B.exec, B.bytes, hml, findClass_of_methodNamed B.named, atoms_spec (ws := wsX6_putAside) B.pre⟩, hSx, hA⟩
  have hS : va_S (AbG g) s.heap s.heap [] := va_S.rf
  have hl := lv_entry (([.ref (ga g 148), .int a1] : List Value)) (n := 2) (Nat.le_of_ble_eq_true rfl)
  rw [lg_entry_eq]
  generalize (lg_sl (([.ref (ga g 148), .int a1] : List Value)) ++ List.replicate (2 - (lg_sl (([.ref (ga g 148), .int a1] : List Value))).length) Slot.unset).toArray = ls at hl ⊢
  have hl : lv_has ls 2 [(0, .ref (ga g 148)), (1, .int a1)] := hl
  obtain ⟨⟨hx, hb, hml, hown, hts⟩, -, -⟩ := id X
  unfold m_X6_putAside at hm
  refine lv_aload_n hx hb dX6_putAside_0 rfl (lv_at hl 0 rfl) ?_
  refine lv_aload_n hx hb dX6_putAside_1 rfl (lv_at hl 0 rfl) ?_
  refine xg_X6_49 X hP hAll uX6_putAside_X6 mbX6_putAside_1 dX6_putAside_2 ?_
  refine lv_iconst (v := 1) hx hb dX6_putAside_5 (by decide) ?_
  refine lv_iadd hx hb dX6_putAside_6 ?_
  obtain ⟨M_1, hM_2, hm⟩ := bnd_elim hm
  refine xp_X6_49 X hP hAll uX6_putAside_X6 mbX6_putAside_1 hS hM_2 dX6_putAside_7 (fun H locs hP hS => ?_)
  refine lv_aload_n hx hb dX6_putAside_10 rfl (lv_at hl 0 rfl) ?_
  refine xg_X6_48 X hP hAll uX6_putAside_X6 mbX6_putAside_2 dX6_putAside_11 ?_
  refine lv_if_ne (tgt := 29) hx hb dX6_putAside_14 (by decide) (fun h_3 => ?_) (fun h_3 => ?_)
  · rw [if_neg h_3] at hm
    refine lv_aload_n hx hb dX6_putAside_29 rfl (lv_at hl 0 rfl) ?_
    refine xg_X6_50 X hP hAll uX6_putAside_X6 mbX6_putAside_3 dX6_putAside_30 ?_
    refine lv_aload_n hx hb dX6_putAside_33 rfl (lv_at hl 0 rfl) ?_
    refine xg_X6_49 X hP hAll uX6_putAside_X6 mbX6_putAside_1 dX6_putAside_34 ?_
    refine lv_iconst (v := 1) hx hb dX6_putAside_37 (by decide) ?_
    refine lv_isub hx hb dX6_putAside_38 ?_
    refine lv_iload_n hx hb dX6_putAside_39 rfl (lv_at hl 1 rfl) ?_
    obtain ⟨hb_4, hm⟩ := chk_elim hm
    obtain ⟨M_5, hM_6, hm⟩ := bnd_elim hm
    refine x_iast X hP hS (okc_180 hAll) hM_6 hb_4 dX6_putAside_40 (fun H locs hP hS => ?_)
    refine lv_iload_n hx hb dX6_putAside_41 rfl (lv_at hl 1 rfl) ?_
    cases hm
    exact x_iret X hP hS hr hlocks dX6_putAside_42
  · rw [if_pos h_3] at hm
    refine lv_aload_n hx hb dX6_putAside_17 rfl (lv_at hl 0 rfl) ?_
    refine xg_X6_50 X hP hAll uX6_putAside_X6 mbX6_putAside_3 dX6_putAside_18 ?_
    refine lv_aload_n hx hb dX6_putAside_21 rfl (lv_at hl 0 rfl) ?_
    refine xg_X6_49 X hP hAll uX6_putAside_X6 mbX6_putAside_1 dX6_putAside_22 ?_
    refine lv_iconst (v := 1) hx hb dX6_putAside_25 (by decide) ?_
    refine lv_isub hx hb dX6_putAside_26 ?_
    obtain ⟨hb_7, hm⟩ := chk_elim hm
    refine x_iald X hP (okc_180 hAll) hb_7 dX6_putAside_27 ?_
    cases hm
    exact x_iret X hP hS hr hlocks dX6_putAside_28


/-! X6_asides -/
def rmX6_asides : Room := { frames := 1, cells := 0, slots := 0, locals := 21 }
theorem uX6_asides_X6 : ∀ w ∈ wsX60, w ∈ wsX6_asides := by decide +kernel
theorem mbX6_asides_1 : Cond.fieldLink RX6 347 "FootANightModel" "isPutting" "Z" ∈ wsX6_asides := by decide +kernel
theorem mbX6_asides_2 : Cond.fieldLink RX6 344 "FootANightModel" "asideAt" "I" ∈ wsX6_asides := by decide +kernel
theorem mbX6_asides_3 : Cond.fieldLink RX6 124 "FootANightModel" "state" "I" ∈ wsX6_asides := by decide +kernel
theorem mbX6_asides_4 : Cond.fieldLink RX6 7 "FootANightModel" "n" "I" ∈ wsX6_asides := by decide +kernel
theorem mbX6_asides_5 : Cond.fieldLink RX6 251 "FootANightModel" "night" "I" ∈ wsX6_asides := by decide +kernel
theorem mbX6_asides_6 : Cond.fieldLink RX6 263 "FootANightModel" "moved" "I" ∈ wsX6_asides := by decide +kernel
theorem mbX6_asides_7 : Cond.fieldLink RX6 53 "FootANightModel" "settings" "[I" ∈ wsX6_asides := by decide +kernel
theorem mbX6_asides_8 : Cond.fieldLink RX6 13 "FootANightModel" "wide" "[I" ∈ wsX6_asides := by decide +kernel
theorem mbX6_asides_9 : Cond.fieldLink RX6 17 "FootANightModel" "lawOf" "[I" ∈ wsX6_asides := by decide +kernel
theorem mbX6_asides_10 : Cond.fieldLink RX6 20 "FootANightModel" "familyOf" "[I" ∈ wsX6_asides := by decide +kernel
theorem mbX6_asides_11 : Cond.fieldLink RX6 23 "FootANightModel" "dogOf" "[I" ∈ wsX6_asides := by decide +kernel
theorem mbX6_asides_12 : Cond.fieldLink RX6 26 "FootANightModel" "purse" "[I" ∈ wsX6_asides := by decide +kernel
theorem mbX6_asides_13 : Cond.fieldLink RX6 29 "FootANightModel" "hit" "[I" ∈ wsX6_asides := by decide +kernel
theorem mbX6_asides_14 : Cond.fieldLink RX6 32 "FootANightModel" "caught" "[I" ∈ wsX6_asides := by decide +kernel
theorem mbX6_asides_15 : Cond.fieldLink RX6 35 "FootANightModel" "eaten" "[I" ∈ wsX6_asides := by decide +kernel
theorem mbX6_asides_16 : Cond.fieldLink RX6 38 "FootANightModel" "wallOf" "[I" ∈ wsX6_asides := by decide +kernel
theorem mbX6_asides_17 : Cond.fieldLink RX6 41 "FootANightModel" "heavyOf" "[I" ∈ wsX6_asides := by decide +kernel
theorem mbX6_asides_18 : Cond.fieldLink RX6 44 "FootANightModel" "pushOf" "[I" ∈ wsX6_asides := by decide +kernel
theorem mbX6_asides_19 : Cond.fieldLink RX6 47 "FootANightModel" "pushedBy" "[I" ∈ wsX6_asides := by decide +kernel
theorem mbX6_asides_20 : Cond.fieldLink RX6 50 "FootANightModel" "wasWide" "[I" ∈ wsX6_asides := by decide +kernel
set_option maxHeartbeats 4000000 in
set_option maxRecDepth 100000 in
theorem wl_X6_asides_60 (X : CxG g p s m args c cX6_asides 3 RX6 wsX6_asides) (hAll : okAll g) {fu : Nat} {x : Mem} (kx0 : ∀ (M2 : Mem) , x = M2 → ∀ (H : Heap) (locs : List Loc) (ls : Array Slot), va_P (gD g) vwCl (wlG g M2) H → va_S (AbG g) s.heap H locs → lv_has ls 3 [] → W p l e (headSpec wsX6_asides rmX6_asides).room s m args below meth c H locs 0 0 Q (F0 m 296 ls [])) {n : Nat} {q0 : Int32 × Mem} (h : lp (b_X6_asides_60 fu) n q0 = some x) : ∀ (H : Heap) (locs : List Loc) (ls : Array Slot), va_P (gD g) vwCl (wlG g q0.2) H → va_S (AbG g) s.heap H locs → lv_has ls 3 [(0, .ref (ga g 148)), (2, .int q0.1)] → W p l e (headSpec wsX6_asides rmX6_asides).room s m args below meth c H locs 0 0 Q (F0 m 60 ls []) := by
  refine lp_elim (P := fun q0 : Int32 × Mem => ∀ (H : Heap) (locs : List Loc) (ls : Array Slot), va_P (gD g) vwCl (wlG g q0.2) H → va_S (AbG g) s.heap H locs → lv_has ls 3 [(0, .ref (ga g 148)), (2, .int q0.1)] → W p l e (headSpec wsX6_asides rmX6_asides).room s m args below meth c H locs 0 0 Q (F0 m 60 ls [])) (fun q1 o hm hI hX => ?_) n q0 h
  obtain ⟨c2, M⟩ := q1
  have kb : ∀ (d2 : Int32) (M2 : Mem) , o = .inl (d2, M2) → ∀ (H : Heap) (locs : List Loc) (ls : Array Slot), va_P (gD g) vwCl (wlG g M2) H → va_S (AbG g) s.heap H locs → lv_has ls 3 [(0, .ref (ga g 148)), (2, .int d2)] → W p l e (headSpec wsX6_asides rmX6_asides).room s m args below meth c H locs 0 0 Q (F0 m 60 ls []) := fun d2 M2 e => hI _ e
  have kx0 : ∀ (M2 : Mem) , o = .inr M2 → ∀ (H : Heap) (locs : List Loc) (ls : Array Slot), va_P (gD g) vwCl (wlG g M2) H → va_S (AbG g) s.heap H locs → lv_has ls 3 [] → W p l e (headSpec wsX6_asides rmX6_asides).room s m args below meth c H locs 0 0 Q (F0 m 296 ls []) := fun M2 e => kx0 M2 (hX _ e).symm
  clear hI hX
  intro H locs ls hP hS hl
  obtain ⟨⟨hx, hb, hml, hown, hts⟩, -, -⟩ := id X
  have hl : lv_has ls 3 [(0, .ref (ga g 148)), (2, .int c2)] := hl
  have hP : va_P (gD g) vwCl (wlG g M) H := hP
  unfold b_X6_asides_60 at hm
  replace hm := un2_e hm
  refine lv_iload_n hx hb dX6_asides_60 rfl (lv_at hl 1 rfl) ?_
  refine lv_bipush (v := 10) hx hb dX6_asides_61 (by decide) ?_
  refine lv_icmp_ge (tgt := 296) hx hb dX6_asides_63 (by decide) (fun h_26 => ?_) (fun h_26 => ?_)
  · rw [if_pos h_26] at hm
    exact kx0 M (Option.some.inj hm).symm _ _ _ hP hS (lv_sub hl [] rfl)
  · rw [if_neg h_26] at hm
    refine lv_aload_n hx hb dX6_asides_66 rfl (lv_at hl 0 rfl) ?_
    refine xg_X6_18 X hP hAll uX6_asides_X6 mbX6_asides_7 dX6_asides_67 ?_
    refine lv_iload_n hx hb dX6_asides_70 rfl (lv_at hl 1 rfl) ?_
    refine lv_aload_n hx hb dX6_asides_71 rfl (lv_at hl 0 rfl) ?_
    refine lv_aload_n hx hb dX6_asides_72 rfl (lv_at hl 0 rfl) ?_
    refine xg_X6_18 X hP hAll uX6_asides_X6 mbX6_asides_7 dX6_asides_73 ?_
    refine lv_iload_n hx hb dX6_asides_76 rfl (lv_at hl 1 rfl) ?_
    obtain ⟨hb_27, hm⟩ := chk_elim hm
    refine x_iald X hP (okc_162 hAll) hb_27 dX6_asides_77 ?_
    obtain ⟨⟨r_29, M_30⟩, hc_28, hm⟩ := bind_elim hm
    replace hm := un2_e hm
    refine x_calli (x_runV (As := [.int (rd M 162 (ix c2))]) (rest := [.int c2, .ref (ga g 162)]) X hP hS (c_X6_putAside l X.2.2 hAll hc_28) (cwV 1 hts gX6_asides_X6_putAside rfl rfl rfl (by decide +kernel) ⟨Nat.le_of_ble_eq_true rfl, Nat.le_of_ble_eq_true rfl⟩) (x_recv (C := RX6) (T := TX6) (N := 55) X hP (okc_148 hAll) rfl) rfl hl.1 rfl (Nat.le_of_ble_eq_true rfl) dX6_asides_78 ⟨Nat.zero_le _, Nat.zero_le _⟩) hS (fun H locs hP hS => ?_)
    obtain ⟨M_31, hM_32, hm⟩ := bnd_elim hm
    refine x_iast X hP hS (okc_162 hAll) hM_32 hb_27 dX6_asides_81 (fun H locs hP hS => ?_)
    refine lv_aload_n hx hb dX6_asides_82 rfl (lv_at hl 0 rfl) ?_
    refine xg_X6_5 X hP hAll uX6_asides_X6 mbX6_asides_8 dX6_asides_83 ?_
    refine lv_iload_n hx hb dX6_asides_86 rfl (lv_at hl 1 rfl) ?_
    refine lv_aload_n hx hb dX6_asides_87 rfl (lv_at hl 0 rfl) ?_
    refine lv_aload_n hx hb dX6_asides_88 rfl (lv_at hl 0 rfl) ?_
    refine xg_X6_5 X hP hAll uX6_asides_X6 mbX6_asides_8 dX6_asides_89 ?_
    refine lv_iload_n hx hb dX6_asides_92 rfl (lv_at hl 1 rfl) ?_
    refine x_iald X hP (okc_149 hAll) hb_27 dX6_asides_93 ?_
    obtain ⟨⟨r_34, M_35⟩, hc_33, hm⟩ := bind_elim hm
    replace hm := un2_e hm
    refine x_calli (x_runV (As := [.int (rd M_31 149 (ix c2))]) (rest := [.int c2, .ref (ga g 149)]) X hP hS (c_X6_putAside l X.2.2 hAll hc_33) (cwV 1 hts gX6_asides_X6_putAside rfl rfl rfl (by decide +kernel) ⟨Nat.le_of_ble_eq_true rfl, Nat.le_of_ble_eq_true rfl⟩) (x_recv (C := RX6) (T := TX6) (N := 55) X hP (okc_148 hAll) rfl) rfl hl.1 rfl (Nat.le_of_ble_eq_true rfl) dX6_asides_94 ⟨Nat.zero_le _, Nat.zero_le _⟩) hS (fun H locs hP hS => ?_)
    obtain ⟨M_36, hM_37, hm⟩ := bnd_elim hm
    refine x_iast X hP hS (okc_149 hAll) hM_37 hb_27 dX6_asides_97 (fun H locs hP hS => ?_)
    refine lv_aload_n hx hb dX6_asides_98 rfl (lv_at hl 0 rfl) ?_
    refine xg_X6_6 X hP hAll uX6_asides_X6 mbX6_asides_9 dX6_asides_99 ?_
    refine lv_iload_n hx hb dX6_asides_102 rfl (lv_at hl 1 rfl) ?_
    refine lv_aload_n hx hb dX6_asides_103 rfl (lv_at hl 0 rfl) ?_
    refine lv_aload_n hx hb dX6_asides_104 rfl (lv_at hl 0 rfl) ?_
    refine xg_X6_6 X hP hAll uX6_asides_X6 mbX6_asides_9 dX6_asides_105 ?_
    refine lv_iload_n hx hb dX6_asides_108 rfl (lv_at hl 1 rfl) ?_
    refine x_iald X hP (okc_150 hAll) hb_27 dX6_asides_109 ?_
    obtain ⟨⟨r_39, M_40⟩, hc_38, hm⟩ := bind_elim hm
    replace hm := un2_e hm
    refine x_calli (x_runV (As := [.int (rd M_36 150 (ix c2))]) (rest := [.int c2, .ref (ga g 150)]) X hP hS (c_X6_putAside l X.2.2 hAll hc_38) (cwV 1 hts gX6_asides_X6_putAside rfl rfl rfl (by decide +kernel) ⟨Nat.le_of_ble_eq_true rfl, Nat.le_of_ble_eq_true rfl⟩) (x_recv (C := RX6) (T := TX6) (N := 55) X hP (okc_148 hAll) rfl) rfl hl.1 rfl (Nat.le_of_ble_eq_true rfl) dX6_asides_110 ⟨Nat.zero_le _, Nat.zero_le _⟩) hS (fun H locs hP hS => ?_)
    obtain ⟨M_41, hM_42, hm⟩ := bnd_elim hm
    refine x_iast X hP hS (okc_150 hAll) hM_42 hb_27 dX6_asides_113 (fun H locs hP hS => ?_)
    refine lv_aload_n hx hb dX6_asides_114 rfl (lv_at hl 0 rfl) ?_
    refine xg_X6_7 X hP hAll uX6_asides_X6 mbX6_asides_10 dX6_asides_115 ?_
    refine lv_iload_n hx hb dX6_asides_118 rfl (lv_at hl 1 rfl) ?_
    refine lv_aload_n hx hb dX6_asides_119 rfl (lv_at hl 0 rfl) ?_
    refine lv_aload_n hx hb dX6_asides_120 rfl (lv_at hl 0 rfl) ?_
    refine xg_X6_7 X hP hAll uX6_asides_X6 mbX6_asides_10 dX6_asides_121 ?_
    refine lv_iload_n hx hb dX6_asides_124 rfl (lv_at hl 1 rfl) ?_
    refine x_iald X hP (okc_151 hAll) hb_27 dX6_asides_125 ?_
    obtain ⟨⟨r_44, M_45⟩, hc_43, hm⟩ := bind_elim hm
    replace hm := un2_e hm
    refine x_calli (x_runV (As := [.int (rd M_41 151 (ix c2))]) (rest := [.int c2, .ref (ga g 151)]) X hP hS (c_X6_putAside l X.2.2 hAll hc_43) (cwV 1 hts gX6_asides_X6_putAside rfl rfl rfl (by decide +kernel) ⟨Nat.le_of_ble_eq_true rfl, Nat.le_of_ble_eq_true rfl⟩) (x_recv (C := RX6) (T := TX6) (N := 55) X hP (okc_148 hAll) rfl) rfl hl.1 rfl (Nat.le_of_ble_eq_true rfl) dX6_asides_126 ⟨Nat.zero_le _, Nat.zero_le _⟩) hS (fun H locs hP hS => ?_)
    obtain ⟨M_46, hM_47, hm⟩ := bnd_elim hm
    refine x_iast X hP hS (okc_151 hAll) hM_47 hb_27 dX6_asides_129 (fun H locs hP hS => ?_)
    refine lv_aload_n hx hb dX6_asides_130 rfl (lv_at hl 0 rfl) ?_
    refine xg_X6_8 X hP hAll uX6_asides_X6 mbX6_asides_11 dX6_asides_131 ?_
    refine lv_iload_n hx hb dX6_asides_134 rfl (lv_at hl 1 rfl) ?_
    refine lv_aload_n hx hb dX6_asides_135 rfl (lv_at hl 0 rfl) ?_
    refine lv_aload_n hx hb dX6_asides_136 rfl (lv_at hl 0 rfl) ?_
    refine xg_X6_8 X hP hAll uX6_asides_X6 mbX6_asides_11 dX6_asides_137 ?_
    refine lv_iload_n hx hb dX6_asides_140 rfl (lv_at hl 1 rfl) ?_
    refine x_iald X hP (okc_152 hAll) hb_27 dX6_asides_141 ?_
    obtain ⟨⟨r_49, M_50⟩, hc_48, hm⟩ := bind_elim hm
    replace hm := un2_e hm
    refine x_calli (x_runV (As := [.int (rd M_46 152 (ix c2))]) (rest := [.int c2, .ref (ga g 152)]) X hP hS (c_X6_putAside l X.2.2 hAll hc_48) (cwV 1 hts gX6_asides_X6_putAside rfl rfl rfl (by decide +kernel) ⟨Nat.le_of_ble_eq_true rfl, Nat.le_of_ble_eq_true rfl⟩) (x_recv (C := RX6) (T := TX6) (N := 55) X hP (okc_148 hAll) rfl) rfl hl.1 rfl (Nat.le_of_ble_eq_true rfl) dX6_asides_142 ⟨Nat.zero_le _, Nat.zero_le _⟩) hS (fun H locs hP hS => ?_)
    obtain ⟨M_51, hM_52, hm⟩ := bnd_elim hm
    refine x_iast X hP hS (okc_152 hAll) hM_52 hb_27 dX6_asides_145 (fun H locs hP hS => ?_)
    refine lv_aload_n hx hb dX6_asides_146 rfl (lv_at hl 0 rfl) ?_
    refine xg_X6_9 X hP hAll uX6_asides_X6 mbX6_asides_12 dX6_asides_147 ?_
    refine lv_iload_n hx hb dX6_asides_150 rfl (lv_at hl 1 rfl) ?_
    refine lv_aload_n hx hb dX6_asides_151 rfl (lv_at hl 0 rfl) ?_
    refine lv_aload_n hx hb dX6_asides_152 rfl (lv_at hl 0 rfl) ?_
    refine xg_X6_9 X hP hAll uX6_asides_X6 mbX6_asides_12 dX6_asides_153 ?_
    refine lv_iload_n hx hb dX6_asides_156 rfl (lv_at hl 1 rfl) ?_
    refine x_iald X hP (okc_153 hAll) hb_27 dX6_asides_157 ?_
    obtain ⟨⟨r_54, M_55⟩, hc_53, hm⟩ := bind_elim hm
    replace hm := un2_e hm
    refine x_calli (x_runV (As := [.int (rd M_51 153 (ix c2))]) (rest := [.int c2, .ref (ga g 153)]) X hP hS (c_X6_putAside l X.2.2 hAll hc_53) (cwV 1 hts gX6_asides_X6_putAside rfl rfl rfl (by decide +kernel) ⟨Nat.le_of_ble_eq_true rfl, Nat.le_of_ble_eq_true rfl⟩) (x_recv (C := RX6) (T := TX6) (N := 55) X hP (okc_148 hAll) rfl) rfl hl.1 rfl (Nat.le_of_ble_eq_true rfl) dX6_asides_158 ⟨Nat.zero_le _, Nat.zero_le _⟩) hS (fun H locs hP hS => ?_)
    obtain ⟨M_56, hM_57, hm⟩ := bnd_elim hm
    refine x_iast X hP hS (okc_153 hAll) hM_57 hb_27 dX6_asides_161 (fun H locs hP hS => ?_)
    refine lv_aload_n hx hb dX6_asides_162 rfl (lv_at hl 0 rfl) ?_
    refine xg_X6_10 X hP hAll uX6_asides_X6 mbX6_asides_13 dX6_asides_163 ?_
    refine lv_iload_n hx hb dX6_asides_166 rfl (lv_at hl 1 rfl) ?_
    refine lv_aload_n hx hb dX6_asides_167 rfl (lv_at hl 0 rfl) ?_
    refine lv_aload_n hx hb dX6_asides_168 rfl (lv_at hl 0 rfl) ?_
    refine xg_X6_10 X hP hAll uX6_asides_X6 mbX6_asides_13 dX6_asides_169 ?_
    refine lv_iload_n hx hb dX6_asides_172 rfl (lv_at hl 1 rfl) ?_
    refine x_iald X hP (okc_154 hAll) hb_27 dX6_asides_173 ?_
    obtain ⟨⟨r_59, M_60⟩, hc_58, hm⟩ := bind_elim hm
    replace hm := un2_e hm
    refine x_calli (x_runV (As := [.int (rd M_56 154 (ix c2))]) (rest := [.int c2, .ref (ga g 154)]) X hP hS (c_X6_putAside l X.2.2 hAll hc_58) (cwV 1 hts gX6_asides_X6_putAside rfl rfl rfl (by decide +kernel) ⟨Nat.le_of_ble_eq_true rfl, Nat.le_of_ble_eq_true rfl⟩) (x_recv (C := RX6) (T := TX6) (N := 55) X hP (okc_148 hAll) rfl) rfl hl.1 rfl (Nat.le_of_ble_eq_true rfl) dX6_asides_174 ⟨Nat.zero_le _, Nat.zero_le _⟩) hS (fun H locs hP hS => ?_)
    obtain ⟨M_61, hM_62, hm⟩ := bnd_elim hm
    refine x_iast X hP hS (okc_154 hAll) hM_62 hb_27 dX6_asides_177 (fun H locs hP hS => ?_)
    refine lv_aload_n hx hb dX6_asides_178 rfl (lv_at hl 0 rfl) ?_
    refine xg_X6_11 X hP hAll uX6_asides_X6 mbX6_asides_14 dX6_asides_179 ?_
    refine lv_iload_n hx hb dX6_asides_182 rfl (lv_at hl 1 rfl) ?_
    refine lv_aload_n hx hb dX6_asides_183 rfl (lv_at hl 0 rfl) ?_
    refine lv_aload_n hx hb dX6_asides_184 rfl (lv_at hl 0 rfl) ?_
    refine xg_X6_11 X hP hAll uX6_asides_X6 mbX6_asides_14 dX6_asides_185 ?_
    refine lv_iload_n hx hb dX6_asides_188 rfl (lv_at hl 1 rfl) ?_
    refine x_iald X hP (okc_155 hAll) hb_27 dX6_asides_189 ?_
    obtain ⟨⟨r_64, M_65⟩, hc_63, hm⟩ := bind_elim hm
    replace hm := un2_e hm
    refine x_calli (x_runV (As := [.int (rd M_61 155 (ix c2))]) (rest := [.int c2, .ref (ga g 155)]) X hP hS (c_X6_putAside l X.2.2 hAll hc_63) (cwV 1 hts gX6_asides_X6_putAside rfl rfl rfl (by decide +kernel) ⟨Nat.le_of_ble_eq_true rfl, Nat.le_of_ble_eq_true rfl⟩) (x_recv (C := RX6) (T := TX6) (N := 55) X hP (okc_148 hAll) rfl) rfl hl.1 rfl (Nat.le_of_ble_eq_true rfl) dX6_asides_190 ⟨Nat.zero_le _, Nat.zero_le _⟩) hS (fun H locs hP hS => ?_)
    obtain ⟨M_66, hM_67, hm⟩ := bnd_elim hm
    refine x_iast X hP hS (okc_155 hAll) hM_67 hb_27 dX6_asides_193 (fun H locs hP hS => ?_)
    refine lv_aload_n hx hb dX6_asides_194 rfl (lv_at hl 0 rfl) ?_
    refine xg_X6_12 X hP hAll uX6_asides_X6 mbX6_asides_15 dX6_asides_195 ?_
    refine lv_iload_n hx hb dX6_asides_198 rfl (lv_at hl 1 rfl) ?_
    refine lv_aload_n hx hb dX6_asides_199 rfl (lv_at hl 0 rfl) ?_
    refine lv_aload_n hx hb dX6_asides_200 rfl (lv_at hl 0 rfl) ?_
    refine xg_X6_12 X hP hAll uX6_asides_X6 mbX6_asides_15 dX6_asides_201 ?_
    refine lv_iload_n hx hb dX6_asides_204 rfl (lv_at hl 1 rfl) ?_
    refine x_iald X hP (okc_156 hAll) hb_27 dX6_asides_205 ?_
    obtain ⟨⟨r_69, M_70⟩, hc_68, hm⟩ := bind_elim hm
    replace hm := un2_e hm
    refine x_calli (x_runV (As := [.int (rd M_66 156 (ix c2))]) (rest := [.int c2, .ref (ga g 156)]) X hP hS (c_X6_putAside l X.2.2 hAll hc_68) (cwV 1 hts gX6_asides_X6_putAside rfl rfl rfl (by decide +kernel) ⟨Nat.le_of_ble_eq_true rfl, Nat.le_of_ble_eq_true rfl⟩) (x_recv (C := RX6) (T := TX6) (N := 55) X hP (okc_148 hAll) rfl) rfl hl.1 rfl (Nat.le_of_ble_eq_true rfl) dX6_asides_206 ⟨Nat.zero_le _, Nat.zero_le _⟩) hS (fun H locs hP hS => ?_)
    obtain ⟨M_71, hM_72, hm⟩ := bnd_elim hm
    refine x_iast X hP hS (okc_156 hAll) hM_72 hb_27 dX6_asides_209 (fun H locs hP hS => ?_)
    refine lv_aload_n hx hb dX6_asides_210 rfl (lv_at hl 0 rfl) ?_
    refine xg_X6_13 X hP hAll uX6_asides_X6 mbX6_asides_16 dX6_asides_211 ?_
    refine lv_iload_n hx hb dX6_asides_214 rfl (lv_at hl 1 rfl) ?_
    refine lv_aload_n hx hb dX6_asides_215 rfl (lv_at hl 0 rfl) ?_
    refine lv_aload_n hx hb dX6_asides_216 rfl (lv_at hl 0 rfl) ?_
    refine xg_X6_13 X hP hAll uX6_asides_X6 mbX6_asides_16 dX6_asides_217 ?_
    refine lv_iload_n hx hb dX6_asides_220 rfl (lv_at hl 1 rfl) ?_
    refine x_iald X hP (okc_157 hAll) hb_27 dX6_asides_221 ?_
    obtain ⟨⟨r_74, M_75⟩, hc_73, hm⟩ := bind_elim hm
    replace hm := un2_e hm
    refine x_calli (x_runV (As := [.int (rd M_71 157 (ix c2))]) (rest := [.int c2, .ref (ga g 157)]) X hP hS (c_X6_putAside l X.2.2 hAll hc_73) (cwV 1 hts gX6_asides_X6_putAside rfl rfl rfl (by decide +kernel) ⟨Nat.le_of_ble_eq_true rfl, Nat.le_of_ble_eq_true rfl⟩) (x_recv (C := RX6) (T := TX6) (N := 55) X hP (okc_148 hAll) rfl) rfl hl.1 rfl (Nat.le_of_ble_eq_true rfl) dX6_asides_222 ⟨Nat.zero_le _, Nat.zero_le _⟩) hS (fun H locs hP hS => ?_)
    obtain ⟨M_76, hM_77, hm⟩ := bnd_elim hm
    refine x_iast X hP hS (okc_157 hAll) hM_77 hb_27 dX6_asides_225 (fun H locs hP hS => ?_)
    refine lv_aload_n hx hb dX6_asides_226 rfl (lv_at hl 0 rfl) ?_
    refine xg_X6_14 X hP hAll uX6_asides_X6 mbX6_asides_17 dX6_asides_227 ?_
    refine lv_iload_n hx hb dX6_asides_230 rfl (lv_at hl 1 rfl) ?_
    refine lv_aload_n hx hb dX6_asides_231 rfl (lv_at hl 0 rfl) ?_
    refine lv_aload_n hx hb dX6_asides_232 rfl (lv_at hl 0 rfl) ?_
    refine xg_X6_14 X hP hAll uX6_asides_X6 mbX6_asides_17 dX6_asides_233 ?_
    refine lv_iload_n hx hb dX6_asides_236 rfl (lv_at hl 1 rfl) ?_
    refine x_iald X hP (okc_158 hAll) hb_27 dX6_asides_237 ?_
    obtain ⟨⟨r_79, M_80⟩, hc_78, hm⟩ := bind_elim hm
    replace hm := un2_e hm
    refine x_calli (x_runV (As := [.int (rd M_76 158 (ix c2))]) (rest := [.int c2, .ref (ga g 158)]) X hP hS (c_X6_putAside l X.2.2 hAll hc_78) (cwV 1 hts gX6_asides_X6_putAside rfl rfl rfl (by decide +kernel) ⟨Nat.le_of_ble_eq_true rfl, Nat.le_of_ble_eq_true rfl⟩) (x_recv (C := RX6) (T := TX6) (N := 55) X hP (okc_148 hAll) rfl) rfl hl.1 rfl (Nat.le_of_ble_eq_true rfl) dX6_asides_238 ⟨Nat.zero_le _, Nat.zero_le _⟩) hS (fun H locs hP hS => ?_)
    obtain ⟨M_81, hM_82, hm⟩ := bnd_elim hm
    refine x_iast X hP hS (okc_158 hAll) hM_82 hb_27 dX6_asides_241 (fun H locs hP hS => ?_)
    refine lv_aload_n hx hb dX6_asides_242 rfl (lv_at hl 0 rfl) ?_
    refine xg_X6_15 X hP hAll uX6_asides_X6 mbX6_asides_18 dX6_asides_243 ?_
    refine lv_iload_n hx hb dX6_asides_246 rfl (lv_at hl 1 rfl) ?_
    refine lv_aload_n hx hb dX6_asides_247 rfl (lv_at hl 0 rfl) ?_
    refine lv_aload_n hx hb dX6_asides_248 rfl (lv_at hl 0 rfl) ?_
    refine xg_X6_15 X hP hAll uX6_asides_X6 mbX6_asides_18 dX6_asides_249 ?_
    refine lv_iload_n hx hb dX6_asides_252 rfl (lv_at hl 1 rfl) ?_
    refine x_iald X hP (okc_159 hAll) hb_27 dX6_asides_253 ?_
    obtain ⟨⟨r_84, M_85⟩, hc_83, hm⟩ := bind_elim hm
    replace hm := un2_e hm
    refine x_calli (x_runV (As := [.int (rd M_81 159 (ix c2))]) (rest := [.int c2, .ref (ga g 159)]) X hP hS (c_X6_putAside l X.2.2 hAll hc_83) (cwV 1 hts gX6_asides_X6_putAside rfl rfl rfl (by decide +kernel) ⟨Nat.le_of_ble_eq_true rfl, Nat.le_of_ble_eq_true rfl⟩) (x_recv (C := RX6) (T := TX6) (N := 55) X hP (okc_148 hAll) rfl) rfl hl.1 rfl (Nat.le_of_ble_eq_true rfl) dX6_asides_254 ⟨Nat.zero_le _, Nat.zero_le _⟩) hS (fun H locs hP hS => ?_)
    obtain ⟨M_86, hM_87, hm⟩ := bnd_elim hm
    refine x_iast X hP hS (okc_159 hAll) hM_87 hb_27 dX6_asides_257 (fun H locs hP hS => ?_)
    refine lv_aload_n hx hb dX6_asides_258 rfl (lv_at hl 0 rfl) ?_
    refine xg_X6_16 X hP hAll uX6_asides_X6 mbX6_asides_19 dX6_asides_259 ?_
    refine lv_iload_n hx hb dX6_asides_262 rfl (lv_at hl 1 rfl) ?_
    refine lv_aload_n hx hb dX6_asides_263 rfl (lv_at hl 0 rfl) ?_
    refine lv_aload_n hx hb dX6_asides_264 rfl (lv_at hl 0 rfl) ?_
    refine xg_X6_16 X hP hAll uX6_asides_X6 mbX6_asides_19 dX6_asides_265 ?_
    refine lv_iload_n hx hb dX6_asides_268 rfl (lv_at hl 1 rfl) ?_
    refine x_iald X hP (okc_160 hAll) hb_27 dX6_asides_269 ?_
    obtain ⟨⟨r_89, M_90⟩, hc_88, hm⟩ := bind_elim hm
    replace hm := un2_e hm
    refine x_calli (x_runV (As := [.int (rd M_86 160 (ix c2))]) (rest := [.int c2, .ref (ga g 160)]) X hP hS (c_X6_putAside l X.2.2 hAll hc_88) (cwV 1 hts gX6_asides_X6_putAside rfl rfl rfl (by decide +kernel) ⟨Nat.le_of_ble_eq_true rfl, Nat.le_of_ble_eq_true rfl⟩) (x_recv (C := RX6) (T := TX6) (N := 55) X hP (okc_148 hAll) rfl) rfl hl.1 rfl (Nat.le_of_ble_eq_true rfl) dX6_asides_270 ⟨Nat.zero_le _, Nat.zero_le _⟩) hS (fun H locs hP hS => ?_)
    obtain ⟨M_91, hM_92, hm⟩ := bnd_elim hm
    refine x_iast X hP hS (okc_160 hAll) hM_92 hb_27 dX6_asides_273 (fun H locs hP hS => ?_)
    refine lv_aload_n hx hb dX6_asides_274 rfl (lv_at hl 0 rfl) ?_
    refine xg_X6_17 X hP hAll uX6_asides_X6 mbX6_asides_20 dX6_asides_275 ?_
    refine lv_iload_n hx hb dX6_asides_278 rfl (lv_at hl 1 rfl) ?_
    refine lv_aload_n hx hb dX6_asides_279 rfl (lv_at hl 0 rfl) ?_
    refine lv_aload_n hx hb dX6_asides_280 rfl (lv_at hl 0 rfl) ?_
    refine xg_X6_17 X hP hAll uX6_asides_X6 mbX6_asides_20 dX6_asides_281 ?_
    refine lv_iload_n hx hb dX6_asides_284 rfl (lv_at hl 1 rfl) ?_
    refine x_iald X hP (okc_161 hAll) hb_27 dX6_asides_285 ?_
    obtain ⟨⟨r_94, M_95⟩, hc_93, hm⟩ := bind_elim hm
    replace hm := un2_e hm
    refine x_calli (x_runV (As := [.int (rd M_91 161 (ix c2))]) (rest := [.int c2, .ref (ga g 161)]) X hP hS (c_X6_putAside l X.2.2 hAll hc_93) (cwV 1 hts gX6_asides_X6_putAside rfl rfl rfl (by decide +kernel) ⟨Nat.le_of_ble_eq_true rfl, Nat.le_of_ble_eq_true rfl⟩) (x_recv (C := RX6) (T := TX6) (N := 55) X hP (okc_148 hAll) rfl) rfl hl.1 rfl (Nat.le_of_ble_eq_true rfl) dX6_asides_286 ⟨Nat.zero_le _, Nat.zero_le _⟩) hS (fun H locs hP hS => ?_)
    obtain ⟨M_96, hM_97, hm⟩ := bnd_elim hm
    refine x_iast X hP hS (okc_161 hAll) hM_97 hb_27 dX6_asides_289 (fun H locs hP hS => ?_)
    obtain ⟨v_98, hv_99, hm⟩ := bnd_elim hm
    refine lv_iinc (v := v_98) (lv' := [(2, .int v_98), (0, .ref (ga g 148))]) hx hb dX6_asides_290 hl (k := 1) rfl (by rw [hv_99]; rfl) (by decide) rfl (fun ls hl => ?_)
    refine lv_goto (tgt := 60) hx hb dX6_asides_293 (by decide) ?_
    exact kb v_98 M_96 (Option.some.inj hm).symm _ _ _ hP hS (lv_sub hl [1, 0] rfl)

set_option maxHeartbeats 4000000 in
set_option maxRecDepth 100000 in
theorem c_X6_asides (l : Launch) {g : GT} (hA : AxG g) (hAll : okAll g)   {fu : Nat} {M : Mem} {a1 : Int32} {MM : Mem} (hm : m_X6_asides fu M a1 = some MM) : CV l yX6_asides wsX6_asides rmX6_asides g [.ref (ga g 148), .int a1] M MM := by
  refine Met.ofW (cc := cX6_asides) (maxL := 3) (ret := none) (by decide) rfl ?_
  intro p e s m args below meth c s₁ B hml hv
  obtain ⟨rfl, hSx, hP⟩ := hv
  have hr := B.returns
  have hlocks := B.notSynchronized
  have X : CxG g p s m _ c cX6_asides 3 RX6 wsX6_asides := ⟨⟨B.exec, B.bytes, hml, findClass_of_methodNamed B.named, atoms_spec (ws := wsX6_asides) B.pre⟩, hSx, hA⟩
  have hS : va_S (AbG g) s.heap s.heap [] := va_S.rf
  have hl := lv_entry (([.ref (ga g 148), .int a1] : List Value)) (n := 3) (Nat.le_of_ble_eq_true rfl)
  rw [lg_entry_eq]
  generalize (lg_sl (([.ref (ga g 148), .int a1] : List Value)) ++ List.replicate (3 - (lg_sl (([.ref (ga g 148), .int a1] : List Value))).length) Slot.unset).toArray = ls at hl ⊢
  have hl : lv_has ls 3 [(0, .ref (ga g 148)), (1, .int a1)] := hl
  obtain ⟨⟨hx, hb, hml, hown, hts⟩, -, -⟩ := id X
  unfold m_X6_asides at hm
  refine lv_aload_n hx hb dX6_asides_0 rfl (lv_at hl 0 rfl) ?_
  refine lv_iload_n hx hb dX6_asides_1 rfl (lv_at hl 1 rfl) ?_
  obtain ⟨hz_1, hm⟩ := chk_elim hm
  obtain ⟨M_2, hM_3, hm⟩ := bnd_elim hm
  refine xp_X6_48 X hP hAll uX6_asides_X6 mbX6_asides_1 hS hM_3 (isB_or hz_1) dX6_asides_2 (fun H locs hP hS => ?_)
  refine lv_aload_n hx hb dX6_asides_5 rfl (lv_at hl 0 rfl) ?_
  refine lv_iconst (v := 0) hx hb dX6_asides_6 (by decide) ?_
  obtain ⟨M_4, hM_5, hm⟩ := bnd_elim hm
  refine xp_X6_49 X hP hAll uX6_asides_X6 mbX6_asides_2 hS hM_5 dX6_asides_7 (fun H locs hP hS => ?_)
  refine lv_aload_n hx hb dX6_asides_10 rfl (lv_at hl 0 rfl) ?_
  refine lv_aload_n hx hb dX6_asides_11 rfl (lv_at hl 0 rfl) ?_
  refine lv_aload_n hx hb dX6_asides_12 rfl (lv_at hl 0 rfl) ?_
  refine xg_X6_1 X hP hAll uX6_asides_X6 mbX6_asides_3 dX6_asides_13 ?_
  obtain ⟨⟨r_7, M_8⟩, hc_6, hm⟩ := bind_elim hm
  replace hm := un2_e hm
  refine x_calli (x_runV (As := [.int (rd M_4 148 1)]) (rest := [.ref (ga g 148)]) X hP hS (c_X6_putAside l X.2.2 hAll hc_6) (cwV 1 hts gX6_asides_X6_putAside rfl rfl rfl (by decide +kernel) ⟨Nat.le_of_ble_eq_true rfl, Nat.le_of_ble_eq_true rfl⟩) (x_recv (C := RX6) (T := TX6) (N := 55) X hP (okc_148 hAll) rfl) rfl hl.1 rfl (Nat.le_of_ble_eq_true rfl) dX6_asides_16 ⟨Nat.zero_le _, Nat.zero_le _⟩) hS (fun H locs hP hS => ?_)
  obtain ⟨M_9, hM_10, hm⟩ := bnd_elim hm
  refine xp_X6_1 X hP hAll uX6_asides_X6 mbX6_asides_3 hS hM_10 dX6_asides_19 (fun H locs hP hS => ?_)
  refine lv_aload_n hx hb dX6_asides_22 rfl (lv_at hl 0 rfl) ?_
  refine lv_aload_n hx hb dX6_asides_23 rfl (lv_at hl 0 rfl) ?_
  refine lv_aload_n hx hb dX6_asides_24 rfl (lv_at hl 0 rfl) ?_
  refine xg_X6_2 X hP hAll uX6_asides_X6 mbX6_asides_4 dX6_asides_25 ?_
  obtain ⟨⟨r_12, M_13⟩, hc_11, hm⟩ := bind_elim hm
  replace hm := un2_e hm
  refine x_calli (x_runV (As := [.int (rd M_9 148 2)]) (rest := [.ref (ga g 148)]) X hP hS (c_X6_putAside l X.2.2 hAll hc_11) (cwV 1 hts gX6_asides_X6_putAside rfl rfl rfl (by decide +kernel) ⟨Nat.le_of_ble_eq_true rfl, Nat.le_of_ble_eq_true rfl⟩) (x_recv (C := RX6) (T := TX6) (N := 55) X hP (okc_148 hAll) rfl) rfl hl.1 rfl (Nat.le_of_ble_eq_true rfl) dX6_asides_28 ⟨Nat.zero_le _, Nat.zero_le _⟩) hS (fun H locs hP hS => ?_)
  obtain ⟨M_14, hM_15, hm⟩ := bnd_elim hm
  refine xp_X6_2 X hP hAll uX6_asides_X6 mbX6_asides_4 hS hM_15 dX6_asides_31 (fun H locs hP hS => ?_)
  refine lv_aload_n hx hb dX6_asides_34 rfl (lv_at hl 0 rfl) ?_
  refine lv_aload_n hx hb dX6_asides_35 rfl (lv_at hl 0 rfl) ?_
  refine lv_aload_n hx hb dX6_asides_36 rfl (lv_at hl 0 rfl) ?_
  refine xg_X6_3 X hP hAll uX6_asides_X6 mbX6_asides_5 dX6_asides_37 ?_
  obtain ⟨⟨r_17, M_18⟩, hc_16, hm⟩ := bind_elim hm
  replace hm := un2_e hm
  refine x_calli (x_runV (As := [.int (rd M_14 148 3)]) (rest := [.ref (ga g 148)]) X hP hS (c_X6_putAside l X.2.2 hAll hc_16) (cwV 1 hts gX6_asides_X6_putAside rfl rfl rfl (by decide +kernel) ⟨Nat.le_of_ble_eq_true rfl, Nat.le_of_ble_eq_true rfl⟩) (x_recv (C := RX6) (T := TX6) (N := 55) X hP (okc_148 hAll) rfl) rfl hl.1 rfl (Nat.le_of_ble_eq_true rfl) dX6_asides_40 ⟨Nat.zero_le _, Nat.zero_le _⟩) hS (fun H locs hP hS => ?_)
  obtain ⟨M_19, hM_20, hm⟩ := bnd_elim hm
  refine xp_X6_3 X hP hAll uX6_asides_X6 mbX6_asides_5 hS hM_20 dX6_asides_43 (fun H locs hP hS => ?_)
  refine lv_aload_n hx hb dX6_asides_46 rfl (lv_at hl 0 rfl) ?_
  refine lv_aload_n hx hb dX6_asides_47 rfl (lv_at hl 0 rfl) ?_
  refine lv_aload_n hx hb dX6_asides_48 rfl (lv_at hl 0 rfl) ?_
  refine xg_X6_4 X hP hAll uX6_asides_X6 mbX6_asides_6 dX6_asides_49 ?_
  obtain ⟨⟨r_22, M_23⟩, hc_21, hm⟩ := bind_elim hm
  replace hm := un2_e hm
  refine x_calli (x_runV (As := [.int (rd M_19 148 4)]) (rest := [.ref (ga g 148)]) X hP hS (c_X6_putAside l X.2.2 hAll hc_21) (cwV 1 hts gX6_asides_X6_putAside rfl rfl rfl (by decide +kernel) ⟨Nat.le_of_ble_eq_true rfl, Nat.le_of_ble_eq_true rfl⟩) (x_recv (C := RX6) (T := TX6) (N := 55) X hP (okc_148 hAll) rfl) rfl hl.1 rfl (Nat.le_of_ble_eq_true rfl) dX6_asides_52 ⟨Nat.zero_le _, Nat.zero_le _⟩) hS (fun H locs hP hS => ?_)
  obtain ⟨M_24, hM_25, hm⟩ := bnd_elim hm
  refine xp_X6_4 X hP hAll uX6_asides_X6 mbX6_asides_6 hS hM_25 dX6_asides_55 (fun H locs hP hS => ?_)
  refine lv_iconst (v := 0) hx hb dX6_asides_58 (by decide) ?_
  refine lv_istore_n (lv' := [(2, .int 0), (0, .ref (ga g 148)), (1, .int a1)]) hx hb dX6_asides_59 rfl hl (by decide) rfl (fun ls hl => ?_)
  obtain ⟨M_102, hL_101, hm⟩ := bind_elim hm
  refine wl_X6_asides_60 X hAll ?_ hL_101 _ _ _ hP hS (lv_sub hl [1, 0] rfl)
  · intro z_M_102 e_M_102 H locs ls hP hS hl
    subst e_M_102
    replace hm := un1_e hm
    cases hm
    exact x_vret X hP hS hr hlocks dX6_asides_296


/-! X6_purses -/
def rmX6_purses : Room := { frames := 0, cells := 0, slots := 0, locals := 0 }
theorem uX6_purses_X6 : ∀ w ∈ wsX60, w ∈ wsX6_purses := by decide +kernel
theorem mbX6_purses_1 : Cond.fieldLink RX6 7 "FootANightModel" "n" "I" ∈ wsX6_purses := by decide +kernel
theorem mbX6_purses_2 : Cond.fieldLink RX6 26 "FootANightModel" "purse" "[I" ∈ wsX6_purses := by decide +kernel
set_option maxHeartbeats 4000000 in
set_option maxRecDepth 100000 in
theorem wl_X6_purses_4 (X : CxG g p s m args c cX6_purses 3 RX6 wsX6_purses) (hAll : okAll g) {fu : Nat} {M : Mem} {x : Int32} (kx0 : ∀ (d1 : Int32) , x = d1 → ∀ (H : Heap) (locs : List Loc) (ls : Array Slot), va_P (gD g) vwCl (wlG g M) H → va_S (AbG g) s.heap H locs → lv_has ls 3 [(1, .int d1)] → W p l e (headSpec wsX6_purses rmX6_purses).room s m args below meth c H locs 0 0 Q (F0 m 27 ls [])) {n : Nat} {q0 : Int32 × Int32} (h : lp (b_X6_purses_4 fu M) n q0 = some x) : ∀ (H : Heap) (locs : List Loc) (ls : Array Slot), va_P (gD g) vwCl (wlG g M) H → va_S (AbG g) s.heap H locs → lv_has ls 3 [(0, .ref (ga g 148)), (1, .int q0.1), (2, .int q0.2)] → W p l e (headSpec wsX6_purses rmX6_purses).room s m args below meth c H locs 0 0 Q (F0 m 4 ls []) := by
  refine lp_elim (P := fun q0 : Int32 × Int32 => ∀ (H : Heap) (locs : List Loc) (ls : Array Slot), va_P (gD g) vwCl (wlG g M) H → va_S (AbG g) s.heap H locs → lv_has ls 3 [(0, .ref (ga g 148)), (1, .int q0.1), (2, .int q0.2)] → W p l e (headSpec wsX6_purses rmX6_purses).room s m args below meth c H locs 0 0 Q (F0 m 4 ls [])) (fun q1 o hm hI hX => ?_) n q0 h
  obtain ⟨c1, c2⟩ := q1
  have kb : ∀ (d1 : Int32) (d2 : Int32) , o = .inl (d1, d2) → ∀ (H : Heap) (locs : List Loc) (ls : Array Slot), va_P (gD g) vwCl (wlG g M) H → va_S (AbG g) s.heap H locs → lv_has ls 3 [(0, .ref (ga g 148)), (1, .int d1), (2, .int d2)] → W p l e (headSpec wsX6_purses rmX6_purses).room s m args below meth c H locs 0 0 Q (F0 m 4 ls []) := fun d1 d2 e => hI _ e
  have kx0 : ∀ (d1 : Int32) , o = .inr d1 → ∀ (H : Heap) (locs : List Loc) (ls : Array Slot), va_P (gD g) vwCl (wlG g M) H → va_S (AbG g) s.heap H locs → lv_has ls 3 [(1, .int d1)] → W p l e (headSpec wsX6_purses rmX6_purses).room s m args below meth c H locs 0 0 Q (F0 m 27 ls []) := fun d1 e => kx0 d1 (hX _ e).symm
  clear hI hX
  intro H locs ls hP hS hl
  obtain ⟨⟨hx, hb, hml, hown, hts⟩, -, -⟩ := id X
  have hl : lv_has ls 3 [(0, .ref (ga g 148)), (1, .int c1), (2, .int c2)] := hl
  have hP : va_P (gD g) vwCl (wlG g M) H := hP
  unfold b_X6_purses_4 at hm
  replace hm := un2_e hm
  refine lv_iload_n hx hb dX6_purses_4 rfl (lv_at hl 2 rfl) ?_
  refine lv_aload_n hx hb dX6_purses_5 rfl (lv_at hl 0 rfl) ?_
  refine xg_X6_2 X hP hAll uX6_purses_X6 mbX6_purses_1 dX6_purses_6 ?_
  refine lv_icmp_ge (tgt := 27) hx hb dX6_purses_9 (by decide) (fun h_1 => ?_) (fun h_1 => ?_)
  · rw [if_pos h_1] at hm
    exact kx0 c1 (Option.some.inj hm).symm _ _ _ hP hS (lv_sub hl [1] rfl)
  · rw [if_neg h_1] at hm
    refine lv_iload_n hx hb dX6_purses_12 rfl (lv_at hl 1 rfl) ?_
    refine lv_aload_n hx hb dX6_purses_13 rfl (lv_at hl 0 rfl) ?_
    refine xg_X6_9 X hP hAll uX6_purses_X6 mbX6_purses_2 dX6_purses_14 ?_
    refine lv_iload_n hx hb dX6_purses_17 rfl (lv_at hl 2 rfl) ?_
    obtain ⟨hb_2, hm⟩ := chk_elim hm
    refine x_iald X hP (okc_153 hAll) hb_2 dX6_purses_18 ?_
    refine lv_iadd hx hb dX6_purses_19 ?_
    obtain ⟨v_3, hv_4, hm⟩ := bnd_elim hm
    refine x_name hv_4 ?_
    refine lv_istore_n (lv' := [(1, .int v_3), (0, .ref (ga g 148)), (2, .int c2)]) hx hb dX6_purses_20 rfl hl (by decide) rfl (fun ls hl => ?_)
    obtain ⟨v_5, hv_6, hm⟩ := bnd_elim hm
    refine lv_iinc (v := v_5) (lv' := [(2, .int v_5), (1, .int v_3), (0, .ref (ga g 148))]) hx hb dX6_purses_21 hl (k := 2) rfl (by rw [hv_6]; rfl) (by decide) rfl (fun ls hl => ?_)
    refine lv_goto (tgt := 4) hx hb dX6_purses_24 (by decide) ?_
    exact kb v_3 v_5 (Option.some.inj hm).symm _ _ _ hP hS (lv_sub hl [2, 1, 0] rfl)

set_option maxHeartbeats 4000000 in
set_option maxRecDepth 100000 in
theorem c_X6_purses (l : Launch) {g : GT} (hA : AxG g) (hAll : okAll g)   {fu : Nat} {M : Mem} {rr : Int32} (hm : m_X6_purses fu M = some rr) : CI l yX6_purses wsX6_purses rmX6_purses g [.ref (ga g 148)] M rr M := by
  refine Met.ofW (cc := cX6_purses) (maxL := 3) (ret := (some .int)) (by decide) rfl ?_
  intro p e s m args below meth c s₁ B hml hv
  obtain ⟨rfl, hSx, hP⟩ := hv
  have hr := B.returns
  have hlocks := B.notSynchronized
  have X : CxG g p s m _ c cX6_purses 3 RX6 wsX6_purses := ⟨⟨B.exec, B.bytes, hml, findClass_of_methodNamed B.named, atoms_spec (ws := wsX6_purses) B.pre⟩, hSx, hA⟩
  have hS : va_S (AbG g) s.heap s.heap [] := va_S.rf
  have hl := lv_entry (([.ref (ga g 148)] : List Value)) (n := 3) (Nat.le_of_ble_eq_true rfl)
  rw [lg_entry_eq]
  generalize (lg_sl (([.ref (ga g 148)] : List Value)) ++ List.replicate (3 - (lg_sl (([.ref (ga g 148)] : List Value))).length) Slot.unset).toArray = ls at hl ⊢
  have hl : lv_has ls 3 [(0, .ref (ga g 148))] := hl
  obtain ⟨⟨hx, hb, hml, hown, hts⟩, -, -⟩ := id X
  unfold m_X6_purses at hm
  refine lv_iconst (v := 0) hx hb dX6_purses_0 (by decide) ?_
  refine lv_istore_n (lv' := [(1, .int 0), (0, .ref (ga g 148))]) hx hb dX6_purses_1 rfl hl (by decide) rfl (fun ls hl => ?_)
  refine lv_iconst (v := 0) hx hb dX6_purses_2 (by decide) ?_
  refine lv_istore_n (lv' := [(2, .int 0), (1, .int 0), (0, .ref (ga g 148))]) hx hb dX6_purses_3 rfl hl (by decide) rfl (fun ls hl => ?_)
  obtain ⟨v_9, hL_8, hm⟩ := bind_elim hm
  refine wl_X6_purses_4 X hAll ?_ hL_8 _ _ _ hP hS (lv_sub hl [2, 1, 0] rfl)
  · intro z_v_9 e_v_9 H locs ls hP hS hl
    subst e_v_9
    replace hm := un1_e hm
    refine lv_iload_n hx hb dX6_purses_27 rfl (lv_at hl 0 rfl) ?_
    cases hm
    exact x_iret X hP hS hr hlocks dX6_purses_28


/-! X6_caughtAll -/
def rmX6_caughtAll : Room := { frames := 0, cells := 0, slots := 0, locals := 0 }
theorem uX6_caughtAll_X6 : ∀ w ∈ wsX60, w ∈ wsX6_caughtAll := by decide +kernel
theorem mbX6_caughtAll_1 : Cond.fieldLink RX6 7 "FootANightModel" "n" "I" ∈ wsX6_caughtAll := by decide +kernel
theorem mbX6_caughtAll_2 : Cond.fieldLink RX6 32 "FootANightModel" "caught" "[I" ∈ wsX6_caughtAll := by decide +kernel
set_option maxHeartbeats 4000000 in
set_option maxRecDepth 100000 in
theorem wl_X6_caughtAll_4 (X : CxG g p s m args c cX6_caughtAll 3 RX6 wsX6_caughtAll) (hAll : okAll g) {fu : Nat} {M : Mem} {x : Int32} (kx0 : ∀ (d1 : Int32) , x = d1 → ∀ (H : Heap) (locs : List Loc) (ls : Array Slot), va_P (gD g) vwCl (wlG g M) H → va_S (AbG g) s.heap H locs → lv_has ls 3 [(1, .int d1)] → W p l e (headSpec wsX6_caughtAll rmX6_caughtAll).room s m args below meth c H locs 0 0 Q (F0 m 27 ls [])) {n : Nat} {q0 : Int32 × Int32} (h : lp (b_X6_caughtAll_4 fu M) n q0 = some x) : ∀ (H : Heap) (locs : List Loc) (ls : Array Slot), va_P (gD g) vwCl (wlG g M) H → va_S (AbG g) s.heap H locs → lv_has ls 3 [(0, .ref (ga g 148)), (1, .int q0.1), (2, .int q0.2)] → W p l e (headSpec wsX6_caughtAll rmX6_caughtAll).room s m args below meth c H locs 0 0 Q (F0 m 4 ls []) := by
  refine lp_elim (P := fun q0 : Int32 × Int32 => ∀ (H : Heap) (locs : List Loc) (ls : Array Slot), va_P (gD g) vwCl (wlG g M) H → va_S (AbG g) s.heap H locs → lv_has ls 3 [(0, .ref (ga g 148)), (1, .int q0.1), (2, .int q0.2)] → W p l e (headSpec wsX6_caughtAll rmX6_caughtAll).room s m args below meth c H locs 0 0 Q (F0 m 4 ls [])) (fun q1 o hm hI hX => ?_) n q0 h
  obtain ⟨c1, c2⟩ := q1
  have kb : ∀ (d1 : Int32) (d2 : Int32) , o = .inl (d1, d2) → ∀ (H : Heap) (locs : List Loc) (ls : Array Slot), va_P (gD g) vwCl (wlG g M) H → va_S (AbG g) s.heap H locs → lv_has ls 3 [(0, .ref (ga g 148)), (1, .int d1), (2, .int d2)] → W p l e (headSpec wsX6_caughtAll rmX6_caughtAll).room s m args below meth c H locs 0 0 Q (F0 m 4 ls []) := fun d1 d2 e => hI _ e
  have kx0 : ∀ (d1 : Int32) , o = .inr d1 → ∀ (H : Heap) (locs : List Loc) (ls : Array Slot), va_P (gD g) vwCl (wlG g M) H → va_S (AbG g) s.heap H locs → lv_has ls 3 [(1, .int d1)] → W p l e (headSpec wsX6_caughtAll rmX6_caughtAll).room s m args below meth c H locs 0 0 Q (F0 m 27 ls []) := fun d1 e => kx0 d1 (hX _ e).symm
  clear hI hX
  intro H locs ls hP hS hl
  obtain ⟨⟨hx, hb, hml, hown, hts⟩, -, -⟩ := id X
  have hl : lv_has ls 3 [(0, .ref (ga g 148)), (1, .int c1), (2, .int c2)] := hl
  have hP : va_P (gD g) vwCl (wlG g M) H := hP
  unfold b_X6_caughtAll_4 at hm
  replace hm := un2_e hm
  refine lv_iload_n hx hb dX6_caughtAll_4 rfl (lv_at hl 2 rfl) ?_
  refine lv_aload_n hx hb dX6_caughtAll_5 rfl (lv_at hl 0 rfl) ?_
  refine xg_X6_2 X hP hAll uX6_caughtAll_X6 mbX6_caughtAll_1 dX6_caughtAll_6 ?_
  refine lv_icmp_ge (tgt := 27) hx hb dX6_caughtAll_9 (by decide) (fun h_1 => ?_) (fun h_1 => ?_)
  · rw [if_pos h_1] at hm
    exact kx0 c1 (Option.some.inj hm).symm _ _ _ hP hS (lv_sub hl [1] rfl)
  · rw [if_neg h_1] at hm
    refine lv_iload_n hx hb dX6_caughtAll_12 rfl (lv_at hl 1 rfl) ?_
    refine lv_aload_n hx hb dX6_caughtAll_13 rfl (lv_at hl 0 rfl) ?_
    refine xg_X6_11 X hP hAll uX6_caughtAll_X6 mbX6_caughtAll_2 dX6_caughtAll_14 ?_
    refine lv_iload_n hx hb dX6_caughtAll_17 rfl (lv_at hl 2 rfl) ?_
    obtain ⟨hb_2, hm⟩ := chk_elim hm
    refine x_iald X hP (okc_155 hAll) hb_2 dX6_caughtAll_18 ?_
    refine lv_iadd hx hb dX6_caughtAll_19 ?_
    obtain ⟨v_3, hv_4, hm⟩ := bnd_elim hm
    refine x_name hv_4 ?_
    refine lv_istore_n (lv' := [(1, .int v_3), (0, .ref (ga g 148)), (2, .int c2)]) hx hb dX6_caughtAll_20 rfl hl (by decide) rfl (fun ls hl => ?_)
    obtain ⟨v_5, hv_6, hm⟩ := bnd_elim hm
    refine lv_iinc (v := v_5) (lv' := [(2, .int v_5), (1, .int v_3), (0, .ref (ga g 148))]) hx hb dX6_caughtAll_21 hl (k := 2) rfl (by rw [hv_6]; rfl) (by decide) rfl (fun ls hl => ?_)
    refine lv_goto (tgt := 4) hx hb dX6_caughtAll_24 (by decide) ?_
    exact kb v_3 v_5 (Option.some.inj hm).symm _ _ _ hP hS (lv_sub hl [2, 1, 0] rfl)

set_option maxHeartbeats 4000000 in
set_option maxRecDepth 100000 in
theorem c_X6_caughtAll (l : Launch) {g : GT} (hA : AxG g) (hAll : okAll g)   {fu : Nat} {M : Mem} {rr : Int32} (hm : m_X6_caughtAll fu M = some rr) : CI l yX6_caughtAll wsX6_caughtAll rmX6_caughtAll g [.ref (ga g 148)] M rr M := by
  refine Met.ofW (cc := cX6_caughtAll) (maxL := 3) (ret := (some .int)) (by decide) rfl ?_
  intro p e s m args below meth c s₁ B hml hv
  obtain ⟨rfl, hSx, hP⟩ := hv
  have hr := B.returns
  have hlocks := B.notSynchronized
  have X : CxG g p s m _ c cX6_caughtAll 3 RX6 wsX6_caughtAll := ⟨⟨B.exec, B.bytes, hml, findClass_of_methodNamed B.named, atoms_spec (ws := wsX6_caughtAll) B.pre⟩, hSx, hA⟩
  have hS : va_S (AbG g) s.heap s.heap [] := va_S.rf
  have hl := lv_entry (([.ref (ga g 148)] : List Value)) (n := 3) (Nat.le_of_ble_eq_true rfl)
  rw [lg_entry_eq]
  generalize (lg_sl (([.ref (ga g 148)] : List Value)) ++ List.replicate (3 - (lg_sl (([.ref (ga g 148)] : List Value))).length) Slot.unset).toArray = ls at hl ⊢
  have hl : lv_has ls 3 [(0, .ref (ga g 148))] := hl
  obtain ⟨⟨hx, hb, hml, hown, hts⟩, -, -⟩ := id X
  unfold m_X6_caughtAll at hm
  refine lv_iconst (v := 0) hx hb dX6_caughtAll_0 (by decide) ?_
  refine lv_istore_n (lv' := [(1, .int 0), (0, .ref (ga g 148))]) hx hb dX6_caughtAll_1 rfl hl (by decide) rfl (fun ls hl => ?_)
  refine lv_iconst (v := 0) hx hb dX6_caughtAll_2 (by decide) ?_
  refine lv_istore_n (lv' := [(2, .int 0), (1, .int 0), (0, .ref (ga g 148))]) hx hb dX6_caughtAll_3 rfl hl (by decide) rfl (fun ls hl => ?_)
  obtain ⟨v_9, hL_8, hm⟩ := bind_elim hm
  refine wl_X6_caughtAll_4 X hAll ?_ hL_8 _ _ _ hP hS (lv_sub hl [2, 1, 0] rfl)
  · intro z_v_9 e_v_9 H locs ls hP hS hl
    subst e_v_9
    replace hm := un1_e hm
    refine lv_iload_n hx hb dX6_caughtAll_27 rfl (lv_at hl 0 rfl) ?_
    cases hm
    exact x_iret X hP hS hr hlocks dX6_caughtAll_28


/-! X6_eatenAll -/
def rmX6_eatenAll : Room := { frames := 0, cells := 0, slots := 0, locals := 0 }
theorem uX6_eatenAll_X6 : ∀ w ∈ wsX60, w ∈ wsX6_eatenAll := by decide +kernel
theorem mbX6_eatenAll_1 : Cond.fieldLink RX6 7 "FootANightModel" "n" "I" ∈ wsX6_eatenAll := by decide +kernel
theorem mbX6_eatenAll_2 : Cond.fieldLink RX6 35 "FootANightModel" "eaten" "[I" ∈ wsX6_eatenAll := by decide +kernel
set_option maxHeartbeats 4000000 in
set_option maxRecDepth 100000 in
theorem wl_X6_eatenAll_4 (X : CxG g p s m args c cX6_eatenAll 3 RX6 wsX6_eatenAll) (hAll : okAll g) {fu : Nat} {M : Mem} {x : Int32} (kx0 : ∀ (d1 : Int32) , x = d1 → ∀ (H : Heap) (locs : List Loc) (ls : Array Slot), va_P (gD g) vwCl (wlG g M) H → va_S (AbG g) s.heap H locs → lv_has ls 3 [(1, .int d1)] → W p l e (headSpec wsX6_eatenAll rmX6_eatenAll).room s m args below meth c H locs 0 0 Q (F0 m 32 ls [])) {n : Nat} {q0 : Int32 × Int32} (h : lp (b_X6_eatenAll_4 fu M) n q0 = some x) : ∀ (H : Heap) (locs : List Loc) (ls : Array Slot), va_P (gD g) vwCl (wlG g M) H → va_S (AbG g) s.heap H locs → lv_has ls 3 [(0, .ref (ga g 148)), (1, .int q0.1), (2, .int q0.2)] → W p l e (headSpec wsX6_eatenAll rmX6_eatenAll).room s m args below meth c H locs 0 0 Q (F0 m 4 ls []) := by
  refine lp_elim (P := fun q0 : Int32 × Int32 => ∀ (H : Heap) (locs : List Loc) (ls : Array Slot), va_P (gD g) vwCl (wlG g M) H → va_S (AbG g) s.heap H locs → lv_has ls 3 [(0, .ref (ga g 148)), (1, .int q0.1), (2, .int q0.2)] → W p l e (headSpec wsX6_eatenAll rmX6_eatenAll).room s m args below meth c H locs 0 0 Q (F0 m 4 ls [])) (fun q1 o hm hI hX => ?_) n q0 h
  obtain ⟨c1, c2⟩ := q1
  have kb : ∀ (d1 : Int32) (d2 : Int32) , o = .inl (d1, d2) → ∀ (H : Heap) (locs : List Loc) (ls : Array Slot), va_P (gD g) vwCl (wlG g M) H → va_S (AbG g) s.heap H locs → lv_has ls 3 [(0, .ref (ga g 148)), (1, .int d1), (2, .int d2)] → W p l e (headSpec wsX6_eatenAll rmX6_eatenAll).room s m args below meth c H locs 0 0 Q (F0 m 4 ls []) := fun d1 d2 e => hI _ e
  have kx0 : ∀ (d1 : Int32) , o = .inr d1 → ∀ (H : Heap) (locs : List Loc) (ls : Array Slot), va_P (gD g) vwCl (wlG g M) H → va_S (AbG g) s.heap H locs → lv_has ls 3 [(1, .int d1)] → W p l e (headSpec wsX6_eatenAll rmX6_eatenAll).room s m args below meth c H locs 0 0 Q (F0 m 32 ls []) := fun d1 e => kx0 d1 (hX _ e).symm
  clear hI hX
  intro H locs ls hP hS hl
  obtain ⟨⟨hx, hb, hml, hown, hts⟩, -, -⟩ := id X
  have hl : lv_has ls 3 [(0, .ref (ga g 148)), (1, .int c1), (2, .int c2)] := hl
  have hP : va_P (gD g) vwCl (wlG g M) H := hP
  unfold b_X6_eatenAll_4 at hm
  replace hm := un2_e hm
  refine lv_iload_n hx hb dX6_eatenAll_4 rfl (lv_at hl 2 rfl) ?_
  refine lv_aload_n hx hb dX6_eatenAll_5 rfl (lv_at hl 0 rfl) ?_
  refine xg_X6_2 X hP hAll uX6_eatenAll_X6 mbX6_eatenAll_1 dX6_eatenAll_6 ?_
  refine lv_icmp_ge (tgt := 32) hx hb dX6_eatenAll_9 (by decide) (fun h_1 => ?_) (fun h_1 => ?_)
  · rw [if_pos h_1] at hm
    exact kx0 c1 (Option.some.inj hm).symm _ _ _ hP hS (lv_sub hl [1] rfl)
  · rw [if_neg h_1] at hm
    refine lv_aload_n hx hb dX6_eatenAll_12 rfl (lv_at hl 0 rfl) ?_
    refine xg_X6_12 X hP hAll uX6_eatenAll_X6 mbX6_eatenAll_2 dX6_eatenAll_13 ?_
    refine lv_iload_n hx hb dX6_eatenAll_16 rfl (lv_at hl 2 rfl) ?_
    obtain ⟨hb_2, hm⟩ := chk_elim hm
    refine x_iald X hP (okc_156 hAll) hb_2 dX6_eatenAll_17 ?_
    refine lv_iconst (v := (-1)) hx hb dX6_eatenAll_18 (by decide) ?_
    refine lv_icmp_eq (tgt := 26) hx hb dX6_eatenAll_19 (by decide) (fun h_3 => ?_) (fun h_3 => ?_)
    · rw [if_pos h_3] at hm
      obtain ⟨v_4, hv_5, hm⟩ := bnd_elim hm
      refine lv_iinc (v := v_4) (lv' := [(2, .int v_4), (0, .ref (ga g 148)), (1, .int c1)]) hx hb dX6_eatenAll_26 hl (k := 2) rfl (by rw [hv_5]; rfl) (by decide) rfl (fun ls hl => ?_)
      refine lv_goto (tgt := 4) hx hb dX6_eatenAll_29 (by decide) ?_
      exact kb c1 v_4 (Option.some.inj hm).symm _ _ _ hP hS (lv_sub hl [1, 2, 0] rfl)
    · rw [if_neg h_3] at hm
      refine lv_iload_n hx hb dX6_eatenAll_22 rfl (lv_at hl 1 rfl) ?_
      refine lv_iconst (v := 1) hx hb dX6_eatenAll_23 (by decide) ?_
      refine lv_iadd hx hb dX6_eatenAll_24 ?_
      obtain ⟨v_6, hv_7, hm⟩ := bnd_elim hm
      refine x_name hv_7 ?_
      refine lv_istore_n (lv' := [(1, .int v_6), (0, .ref (ga g 148)), (2, .int c2)]) hx hb dX6_eatenAll_25 rfl hl (by decide) rfl (fun ls hl => ?_)
      obtain ⟨v_8, hv_9, hm⟩ := bnd_elim hm
      refine lv_iinc (v := v_8) (lv' := [(2, .int v_8), (1, .int v_6), (0, .ref (ga g 148))]) hx hb dX6_eatenAll_26 hl (k := 2) rfl (by rw [hv_9]; rfl) (by decide) rfl (fun ls hl => ?_)
      refine lv_goto (tgt := 4) hx hb dX6_eatenAll_29 (by decide) ?_
      exact kb v_6 v_8 (Option.some.inj hm).symm _ _ _ hP hS (lv_sub hl [2, 1, 0] rfl)

set_option maxHeartbeats 4000000 in
set_option maxRecDepth 100000 in
theorem c_X6_eatenAll (l : Launch) {g : GT} (hA : AxG g) (hAll : okAll g)   {fu : Nat} {M : Mem} {rr : Int32} (hm : m_X6_eatenAll fu M = some rr) : CI l yX6_eatenAll wsX6_eatenAll rmX6_eatenAll g [.ref (ga g 148)] M rr M := by
  refine Met.ofW (cc := cX6_eatenAll) (maxL := 3) (ret := (some .int)) (by decide) rfl ?_
  intro p e s m args below meth c s₁ B hml hv
  obtain ⟨rfl, hSx, hP⟩ := hv
  have hr := B.returns
  have hlocks := B.notSynchronized
  have X : CxG g p s m _ c cX6_eatenAll 3 RX6 wsX6_eatenAll := ⟨⟨B.exec, B.bytes, hml, findClass_of_methodNamed B.named, atoms_spec (ws := wsX6_eatenAll) B.pre⟩, hSx, hA⟩
  have hS : va_S (AbG g) s.heap s.heap [] := va_S.rf
  have hl := lv_entry (([.ref (ga g 148)] : List Value)) (n := 3) (Nat.le_of_ble_eq_true rfl)
  rw [lg_entry_eq]
  generalize (lg_sl (([.ref (ga g 148)] : List Value)) ++ List.replicate (3 - (lg_sl (([.ref (ga g 148)] : List Value))).length) Slot.unset).toArray = ls at hl ⊢
  have hl : lv_has ls 3 [(0, .ref (ga g 148))] := hl
  obtain ⟨⟨hx, hb, hml, hown, hts⟩, -, -⟩ := id X
  unfold m_X6_eatenAll at hm
  refine lv_iconst (v := 0) hx hb dX6_eatenAll_0 (by decide) ?_
  refine lv_istore_n (lv' := [(1, .int 0), (0, .ref (ga g 148))]) hx hb dX6_eatenAll_1 rfl hl (by decide) rfl (fun ls hl => ?_)
  refine lv_iconst (v := 0) hx hb dX6_eatenAll_2 (by decide) ?_
  refine lv_istore_n (lv' := [(2, .int 0), (1, .int 0), (0, .ref (ga g 148))]) hx hb dX6_eatenAll_3 rfl hl (by decide) rfl (fun ls hl => ?_)
  obtain ⟨v_12, hL_11, hm⟩ := bind_elim hm
  refine wl_X6_eatenAll_4 X hAll ?_ hL_11 _ _ _ hP hS (lv_sub hl [2, 1, 0] rfl)
  · intro z_v_12 e_v_12 H locs ls hP hS hl
    subst e_v_12
    replace hm := un1_e hm
    refine lv_iload_n hx hb dX6_eatenAll_32 rfl (lv_at hl 0 rfl) ?_
    cases hm
    exact x_iret X hP hS hr hlocks dX6_eatenAll_33


/-! X6_thinks -/
def rmX6_thinks : Room := { frames := 5, cells := 0, slots := 0, locals := 116 }
theorem uX6_thinks_X6 : ∀ w ∈ wsX60, w ∈ wsX6_thinks := by decide +kernel
theorem mbX6_thinks_1 : Cond.fieldLink RX6 53 "FootANightModel" "settings" "[I" ∈ wsX6_thinks := by decide +kernel
theorem mbX6_thinks_2 : Cond.fieldLink RX6 263 "FootANightModel" "moved" "I" ∈ wsX6_thinks := by decide +kernel
set_option maxHeartbeats 4000000 in
set_option maxRecDepth 100000 in
theorem wl_X6_thinks_54 (X : CxG g p s m args c cX6_thinks 6 RX6 wsX6_thinks) (hAll : okAll g) {fu : Nat} {s1 : Int32} {s3 : Int32} {s4 : Int32} {x : Mem} (kx0 : ∀ (M2 : Mem) , x = M2 → ∀ (H : Heap) (locs : List Loc) (ls : Array Slot), va_P (gD g) vwCl (wlG g M2) H → va_S (AbG g) s.heap H locs → lv_has ls 6 [(0, .ref (ga g 148)), (3, .int s3), (4, .int s4)] → W p l e (headSpec wsX6_thinks rmX6_thinks).room s m args below meth c H locs 0 0 Q (F0 m 70 ls [])) {n : Nat} {q0 : Int32 × Mem} (h : lp (b_X6_thinks_54 fu s1 s3 s4) n q0 = some x) : ∀ (H : Heap) (locs : List Loc) (ls : Array Slot), va_P (gD g) vwCl (wlG g q0.2) H → va_S (AbG g) s.heap H locs → lv_has ls 6 [(0, .ref (ga g 148)), (1, .int s1), (3, .int s3), (4, .int s4), (5, .int q0.1)] → W p l e (headSpec wsX6_thinks rmX6_thinks).room s m args below meth c H locs 0 0 Q (F0 m 54 ls []) := by
  refine lp_elim (P := fun q0 : Int32 × Mem => ∀ (H : Heap) (locs : List Loc) (ls : Array Slot), va_P (gD g) vwCl (wlG g q0.2) H → va_S (AbG g) s.heap H locs → lv_has ls 6 [(0, .ref (ga g 148)), (1, .int s1), (3, .int s3), (4, .int s4), (5, .int q0.1)] → W p l e (headSpec wsX6_thinks rmX6_thinks).room s m args below meth c H locs 0 0 Q (F0 m 54 ls [])) (fun q1 o hm hI hX => ?_) n q0 h
  obtain ⟨c5, M⟩ := q1
  have kb : ∀ (d5 : Int32) (M2 : Mem) , o = .inl (d5, M2) → ∀ (H : Heap) (locs : List Loc) (ls : Array Slot), va_P (gD g) vwCl (wlG g M2) H → va_S (AbG g) s.heap H locs → lv_has ls 6 [(0, .ref (ga g 148)), (1, .int s1), (3, .int s3), (4, .int s4), (5, .int d5)] → W p l e (headSpec wsX6_thinks rmX6_thinks).room s m args below meth c H locs 0 0 Q (F0 m 54 ls []) := fun d5 M2 e => hI _ e
  have kx0 : ∀ (M2 : Mem) , o = .inr M2 → ∀ (H : Heap) (locs : List Loc) (ls : Array Slot), va_P (gD g) vwCl (wlG g M2) H → va_S (AbG g) s.heap H locs → lv_has ls 6 [(0, .ref (ga g 148)), (3, .int s3), (4, .int s4)] → W p l e (headSpec wsX6_thinks rmX6_thinks).room s m args below meth c H locs 0 0 Q (F0 m 70 ls []) := fun M2 e => kx0 M2 (hX _ e).symm
  clear hI hX
  intro H locs ls hP hS hl
  obtain ⟨⟨hx, hb, hml, hown, hts⟩, -, -⟩ := id X
  have hl : lv_has ls 6 [(0, .ref (ga g 148)), (1, .int s1), (3, .int s3), (4, .int s4), (5, .int c5)] := hl
  have hP : va_P (gD g) vwCl (wlG g M) H := hP
  unfold b_X6_thinks_54 at hm
  replace hm := un2_e hm
  refine lv_iload hx hb dX6_thinks_54 (lv_at hl 4 rfl) ?_
  refine lv_iload_n hx hb dX6_thinks_56 rfl (lv_at hl 1 rfl) ?_
  refine lv_icmp_ge (tgt := 70) hx hb dX6_thinks_57 (by decide) (fun h_8 => ?_) (fun h_8 => ?_)
  · rw [if_pos h_8] at hm
    exact kx0 M (Option.some.inj hm).symm _ _ _ hP hS (lv_sub hl [0, 2, 3] rfl)
  · rw [if_neg h_8] at hm
    refine lv_aload_n hx hb dX6_thinks_60 rfl (lv_at hl 0 rfl) ?_
    obtain ⟨M_10, hc_9, hm⟩ := bind_elim hm
    refine x_callv (x_runV (As := []) (rest := []) X hP hS (c_X6_goesBy l X.2.2 hAll hc_9) (cwV 0 hts gX6_thinks_X6_goesBy rfl rfl rfl (by decide +kernel) ⟨Nat.le_of_ble_eq_true rfl, Nat.le_of_ble_eq_true rfl⟩) (x_recv (C := RX6) (T := TX6) (N := 55) X hP (okc_148 hAll) rfl) rfl hl.1 rfl (Nat.le_of_ble_eq_true rfl) dX6_thinks_61 ⟨Nat.zero_le _, Nat.zero_le _⟩) hS (fun H locs hP hS => ?_)
    obtain ⟨v_11, hv_12, hm⟩ := bnd_elim hm
    refine lv_iinc (v := v_11) (lv' := [(5, .int v_11), (0, .ref (ga g 148)), (1, .int s1), (3, .int s3), (4, .int s4)]) hx hb dX6_thinks_64 hl (k := 4) rfl (by rw [hv_12]; rfl) (by decide) rfl (fun ls hl => ?_)
    refine lv_goto (tgt := 54) hx hb dX6_thinks_67 (by decide) ?_
    exact kb v_11 M_10 (Option.some.inj hm).symm _ _ _ hP hS (lv_sub hl [1, 2, 3, 4, 0] rfl)

set_option maxHeartbeats 4000000 in
set_option maxRecDepth 100000 in
theorem wj_X6_thinks_109 (X : CxG g p s m args c cX6_thinks 6 RX6 wsX6_thinks) (hAll : okAll g) {fu : Nat} {M : Mem} {s4 : Int32} {t0 : Int32} {rr : Int32} {MM : Mem} (hr : meth.sig.returnType = (some .int)) (hlocks : meth.locks = false) (hm : j_X6_thinks_109 fu M s4 t0 = some (rr, MM)) {H : Heap} {locs : List Loc} {ls : Array Slot} (hP : va_P (gD g) vwCl (wlG g M) H) (hS : va_S (AbG g) s.heap H locs) (hl : lv_has ls 6 [(0, .ref (ga g 148)), (4, .int s4)]) : W p l e (headSpec wsX6_thinks rmX6_thinks).room s m args below meth c H locs 0 0 (MQ below (va_Qi (fun (q : Int32) (_ : Unit) => q = rr) (fun _ t => va_P (gD g) vwCl (wlG g MM) t.heap) (AbG g)) args s 0 0 (AbG g)) (F0 m 109 ls [.int t0]) := by
  obtain ⟨⟨hx, hb, hml, hown, hts⟩, -, -⟩ := id X
  unfold j_X6_thinks_109 at hm
  refine lv_istore (lv' := [(5, .int t0), (0, .ref (ga g 148)), (4, .int s4)]) hx hb dX6_thinks_109 hl (by decide) rfl (fun ls hl => ?_)
  refine lv_aload_n hx hb dX6_thinks_111 rfl (lv_at hl 1 rfl) ?_
  refine lv_iconst (v := 0) hx hb dX6_thinks_112 (by decide) ?_
  obtain ⟨M_22, hc_21, hm⟩ := bind_elim hm
  refine x_callv (x_runV (As := [.int 0]) (rest := []) X hP hS (c_X6_asides l X.2.2 hAll hc_21) (cwV 1 hts gX6_thinks_X6_asides rfl rfl rfl (by decide +kernel) ⟨Nat.le_of_ble_eq_true rfl, Nat.le_of_ble_eq_true rfl⟩) (x_recv (C := RX6) (T := TX6) (N := 55) X hP (okc_148 hAll) rfl) rfl hl.1 rfl (Nat.le_of_ble_eq_true rfl) dX6_thinks_113 ⟨Nat.zero_le _, Nat.zero_le _⟩) hS (fun H locs hP hS => ?_)
  refine lv_iload hx hb dX6_thinks_116 (lv_at hl 0 rfl) ?_
  refine lv_iload hx hb dX6_thinks_118 (lv_at hl 2 rfl) ?_
  refine lv_isub hx hb dX6_thinks_120 ?_
  cases hm
  exact x_iret X hP hS hr hlocks dX6_thinks_121

set_option maxHeartbeats 4000000 in
set_option maxRecDepth 100000 in
theorem wj_X6_thinks_36 (X : CxG g p s m args c cX6_thinks 6 RX6 wsX6_thinks) (hAll : okAll g) {fu : Nat} {M : Mem} {s1 : Int32} {s2 : Int32} {s3 : Int32} {t0 : Int32} {rr : Int32} {MM : Mem} (hr : meth.sig.returnType = (some .int)) (hlocks : meth.locks = false) (hm : j_X6_thinks_36 fu M s1 s2 s3 t0 = some (rr, MM)) {H : Heap} {locs : List Loc} {ls : Array Slot} (hP : va_P (gD g) vwCl (wlG g M) H) (hS : va_S (AbG g) s.heap H locs) (hl : lv_has ls 6 [(0, .ref (ga g 148)), (1, .int s1), (2, .int s2), (3, .int s3)]) : W p l e (headSpec wsX6_thinks rmX6_thinks).room s m args below meth c H locs 0 0 (MQ below (va_Qi (fun (q : Int32) (_ : Unit) => q = rr) (fun _ t => va_P (gD g) vwCl (wlG g MM) t.heap) (AbG g)) args s 0 0 (AbG g)) (F0 m 36 ls [.int t0]) := by
  obtain ⟨⟨hx, hb, hml, hown, hts⟩, -, -⟩ := id X
  unfold j_X6_thinks_36 at hm
  refine lv_istore (lv' := [(4, .int t0), (0, .ref (ga g 148)), (1, .int s1), (2, .int s2), (3, .int s3)]) hx hb dX6_thinks_36 hl (by decide) rfl (fun ls hl => ?_)
  refine lv_aload_n hx hb dX6_thinks_38 rfl (lv_at hl 1 rfl) ?_
  refine lv_iconst (v := 1) hx hb dX6_thinks_39 (by decide) ?_
  obtain ⟨M_5, hc_4, hm⟩ := bind_elim hm
  refine x_callv (x_runV (As := [.int 1]) (rest := []) X hP hS (c_X6_asides l X.2.2 hAll hc_4) (cwV 1 hts gX6_thinks_X6_asides rfl rfl rfl (by decide +kernel) ⟨Nat.le_of_ble_eq_true rfl, Nat.le_of_ble_eq_true rfl⟩) (x_recv (C := RX6) (T := TX6) (N := 55) X hP (okc_148 hAll) rfl) rfl hl.1 rfl (Nat.le_of_ble_eq_true rfl) dX6_thinks_40 ⟨Nat.zero_le _, Nat.zero_le _⟩) hS (fun H locs hP hS => ?_)
  refine lv_aload_n hx hb dX6_thinks_43 rfl (lv_at hl 1 rfl) ?_
  refine xg_X6_18 X hP hAll uX6_thinks_X6 mbX6_thinks_1 dX6_thinks_44 ?_
  refine lv_bipush (v := 9) hx hb dX6_thinks_47 (by decide) ?_
  refine lv_iload_n hx hb dX6_thinks_49 rfl (lv_at hl 3 rfl) ?_
  obtain ⟨M_6, hM_7, hm⟩ := bnd_elim hm
  refine x_iast X hP hS (okc_162 hAll) hM_7 (show inb 9 10 = true from rfl) dX6_thinks_50 (fun H locs hP hS => ?_)
  refine lv_iconst (v := 0) hx hb dX6_thinks_51 (by decide) ?_
  refine lv_istore (lv' := [(5, .int 0), (4, .int t0), (0, .ref (ga g 148)), (1, .int s1), (2, .int s2), (3, .int s3)]) hx hb dX6_thinks_52 hl (by decide) rfl (fun ls hl => ?_)
  obtain ⟨M_15, hL_14, hm⟩ := bind_elim hm
  refine wl_X6_thinks_54 X hAll ?_ hL_14 _ _ _ hP hS (lv_sub hl [2, 3, 5, 1, 0] rfl)
  · intro z_M_15 e_M_15 H locs ls hP hS hl
    subst e_M_15
    replace hm := un1_e hm
    refine lv_iload_n hx hb dX6_thinks_70 rfl (lv_at hl 1 rfl) ?_
    refine lv_if_ne (tgt := 81) hx hb dX6_thinks_71 (by decide) (fun h_16 => ?_) (fun h_16 => ?_)
    · rw [if_neg h_16] at hm
      refine lv_iload_n hx hb dX6_thinks_81 rfl (lv_at hl 1 rfl) ?_
      refine lv_iconst (v := 1) hx hb dX6_thinks_82 (by decide) ?_
      refine lv_icmp_ne (tgt := 93) hx hb dX6_thinks_83 (by decide) (fun h_17 => ?_) (fun h_17 => ?_)
      · rw [if_neg h_17] at hm
        refine lv_iload_n hx hb dX6_thinks_93 rfl (lv_at hl 1 rfl) ?_
        refine lv_iconst (v := 2) hx hb dX6_thinks_94 (by decide) ?_
        refine lv_icmp_ne (tgt := 105) hx hb dX6_thinks_95 (by decide) (fun h_18 => ?_) (fun h_18 => ?_)
        · rw [if_neg h_18] at hm
          refine lv_aload_n hx hb dX6_thinks_105 rfl (lv_at hl 0 rfl) ?_
          obtain ⟨r_20, hc_19, hm⟩ := bind_elim hm
          refine x_calli (x_runV (As := []) (rest := []) X hP hS (c_X6_eatenAll l X.2.2 hAll hc_19) (cwV 0 hts gX6_thinks_X6_eatenAll rfl rfl rfl (by decide +kernel) ⟨Nat.le_of_ble_eq_true rfl, Nat.le_of_ble_eq_true rfl⟩) (x_recv (C := RX6) (T := TX6) (N := 55) X hP (okc_148 hAll) rfl) rfl hl.1 rfl (Nat.le_of_ble_eq_true rfl) dX6_thinks_106 ⟨Nat.zero_le _, Nat.zero_le _⟩) hS (fun H locs hP hS => ?_)
          exact wj_X6_thinks_109 X hAll hr hlocks hm hP hS (lv_sub hl [0, 2] rfl)
        · rw [if_pos h_18] at hm
          refine lv_aload_n hx hb dX6_thinks_98 rfl (lv_at hl 0 rfl) ?_
          obtain ⟨r_24, hc_23, hm⟩ := bind_elim hm
          refine x_calli (x_runV (As := []) (rest := []) X hP hS (c_X6_caughtAll l X.2.2 hAll hc_23) (cwV 0 hts gX6_thinks_X6_caughtAll rfl rfl rfl (by decide +kernel) ⟨Nat.le_of_ble_eq_true rfl, Nat.le_of_ble_eq_true rfl⟩) (x_recv (C := RX6) (T := TX6) (N := 55) X hP (okc_148 hAll) rfl) rfl hl.1 rfl (Nat.le_of_ble_eq_true rfl) dX6_thinks_99 ⟨Nat.zero_le _, Nat.zero_le _⟩) hS (fun H locs hP hS => ?_)
          refine lv_goto (tgt := 109) hx hb dX6_thinks_102 (by decide) ?_
          exact wj_X6_thinks_109 X hAll hr hlocks hm hP hS (lv_sub hl [0, 2] rfl)
      · rw [if_pos h_17] at hm
        refine lv_aload_n hx hb dX6_thinks_86 rfl (lv_at hl 0 rfl) ?_
        refine xg_X6_4 X hP hAll uX6_thinks_X6 mbX6_thinks_2 dX6_thinks_87 ?_
        refine lv_goto (tgt := 109) hx hb dX6_thinks_90 (by decide) ?_
        exact wj_X6_thinks_109 X hAll hr hlocks hm hP hS (lv_sub hl [0, 2] rfl)
    · rw [if_pos h_16] at hm
      refine lv_aload_n hx hb dX6_thinks_74 rfl (lv_at hl 0 rfl) ?_
      obtain ⟨r_26, hc_25, hm⟩ := bind_elim hm
      refine x_calli (x_runV (As := []) (rest := []) X hP hS (c_X6_purses l X.2.2 hAll hc_25) (cwV 0 hts gX6_thinks_X6_purses rfl rfl rfl (by decide +kernel) ⟨Nat.le_of_ble_eq_true rfl, Nat.le_of_ble_eq_true rfl⟩) (x_recv (C := RX6) (T := TX6) (N := 55) X hP (okc_148 hAll) rfl) rfl hl.1 rfl (Nat.le_of_ble_eq_true rfl) dX6_thinks_75 ⟨Nat.zero_le _, Nat.zero_le _⟩) hS (fun H locs hP hS => ?_)
      refine lv_goto (tgt := 109) hx hb dX6_thinks_78 (by decide) ?_
      exact wj_X6_thinks_109 X hAll hr hlocks hm hP hS (lv_sub hl [0, 2] rfl)

set_option maxHeartbeats 4000000 in
set_option maxRecDepth 100000 in
theorem c_X6_thinks (l : Launch) {g : GT} (hA : AxG g) (hAll : okAll g)   {fu : Nat} {M : Mem} {a1 : Int32} {a2 : Int32} {a3 : Int32} {rr : Int32} {MM : Mem} (hm : m_X6_thinks fu M a1 a2 a3 = some (rr, MM)) : CI l yX6_thinks wsX6_thinks rmX6_thinks g [.ref (ga g 148), .int a1, .int a2, .int a3] M rr MM := by
  refine Met.ofW (cc := cX6_thinks) (maxL := 6) (ret := (some .int)) (by decide) rfl ?_
  intro p e s m args below meth c s₁ B hml hv
  obtain ⟨rfl, hSx, hP⟩ := hv
  have hr := B.returns
  have hlocks := B.notSynchronized
  have X : CxG g p s m _ c cX6_thinks 6 RX6 wsX6_thinks := ⟨⟨B.exec, B.bytes, hml, findClass_of_methodNamed B.named, atoms_spec (ws := wsX6_thinks) B.pre⟩, hSx, hA⟩
  have hS : va_S (AbG g) s.heap s.heap [] := va_S.rf
  have hl := lv_entry (([.ref (ga g 148), .int a1, .int a2, .int a3] : List Value)) (n := 6) (Nat.le_of_ble_eq_true rfl)
  rw [lg_entry_eq]
  generalize (lg_sl (([.ref (ga g 148), .int a1, .int a2, .int a3] : List Value)) ++ List.replicate (6 - (lg_sl (([.ref (ga g 148), .int a1, .int a2, .int a3] : List Value))).length) Slot.unset).toArray = ls at hl ⊢
  have hl : lv_has ls 6 [(0, .ref (ga g 148)), (1, .int a1), (2, .int a2), (3, .int a3)] := hl
  obtain ⟨⟨hx, hb, hml, hown, hts⟩, -, -⟩ := id X
  unfold m_X6_thinks at hm
  refine lv_iload_n hx hb dX6_thinks_0 rfl (lv_at hl 3 rfl) ?_
  refine lv_if_ne (tgt := 11) hx hb dX6_thinks_1 (by decide) (fun h_1 => ?_) (fun h_1 => ?_)
  · rw [if_neg h_1] at hm
    refine lv_iload_n hx hb dX6_thinks_11 rfl (lv_at hl 3 rfl) ?_
    refine lv_iconst (v := 1) hx hb dX6_thinks_12 (by decide) ?_
    refine lv_icmp_ne (tgt := 23) hx hb dX6_thinks_13 (by decide) (fun h_2 => ?_) (fun h_2 => ?_)
    · rw [if_neg h_2] at hm
      refine lv_iload_n hx hb dX6_thinks_23 rfl (lv_at hl 3 rfl) ?_
      refine lv_iconst (v := 2) hx hb dX6_thinks_24 (by decide) ?_
      refine lv_icmp_ne (tgt := 35) hx hb dX6_thinks_25 (by decide) (fun h_3 => ?_) (fun h_3 => ?_)
      · rw [if_neg h_3] at hm
        refine lv_iconst (v := 0) hx hb dX6_thinks_35 (by decide) ?_
        exact wj_X6_thinks_36 X hAll hr hlocks hm hP hS (lv_sub hl [0, 1, 2, 3] rfl)
      · rw [if_pos h_3] at hm
        refine lv_aload_n hx hb dX6_thinks_28 rfl (lv_at hl 0 rfl) ?_
        obtain ⟨r_28, hc_27, hm⟩ := bind_elim hm
        refine x_calli (x_runV (As := []) (rest := []) X hP hS (c_X6_caughtAll l X.2.2 hAll hc_27) (cwV 0 hts gX6_thinks_X6_caughtAll rfl rfl rfl (by decide +kernel) ⟨Nat.le_of_ble_eq_true rfl, Nat.le_of_ble_eq_true rfl⟩) (x_recv (C := RX6) (T := TX6) (N := 55) X hP (okc_148 hAll) rfl) rfl hl.1 rfl (Nat.le_of_ble_eq_true rfl) dX6_thinks_29 ⟨Nat.zero_le _, Nat.zero_le _⟩) hS (fun H locs hP hS => ?_)
        refine lv_goto (tgt := 36) hx hb dX6_thinks_32 (by decide) ?_
        exact wj_X6_thinks_36 X hAll hr hlocks hm hP hS (lv_sub hl [0, 1, 2, 3] rfl)
    · rw [if_pos h_2] at hm
      refine lv_aload_n hx hb dX6_thinks_16 rfl (lv_at hl 0 rfl) ?_
      refine xg_X6_4 X hP hAll uX6_thinks_X6 mbX6_thinks_2 dX6_thinks_17 ?_
      refine lv_goto (tgt := 36) hx hb dX6_thinks_20 (by decide) ?_
      exact wj_X6_thinks_36 X hAll hr hlocks hm hP hS (lv_sub hl [0, 1, 2, 3] rfl)
  · rw [if_pos h_1] at hm
    refine lv_aload_n hx hb dX6_thinks_4 rfl (lv_at hl 0 rfl) ?_
    obtain ⟨r_30, hc_29, hm⟩ := bind_elim hm
    refine x_calli (x_runV (As := []) (rest := []) X hP hS (c_X6_purses l X.2.2 hAll hc_29) (cwV 0 hts gX6_thinks_X6_purses rfl rfl rfl (by decide +kernel) ⟨Nat.le_of_ble_eq_true rfl, Nat.le_of_ble_eq_true rfl⟩) (x_recv (C := RX6) (T := TX6) (N := 55) X hP (okc_148 hAll) rfl) rfl hl.1 rfl (Nat.le_of_ble_eq_true rfl) dX6_thinks_5 ⟨Nat.zero_le _, Nat.zero_le _⟩) hS (fun H locs hP hS => ?_)
    refine lv_goto (tgt := 36) hx hb dX6_thinks_8 (by decide) ?_
    exact wj_X6_thinks_36 X hAll hr hlocks hm hP hS (lv_sub hl [0, 1, 2, 3] rfl)


/-! X6_feet -/
def rmX6_feet : Room := { frames := 6, cells := 0, slots := 0, locals := 141 }
theorem uX6_feet_X6 : ∀ w ∈ wsX60, w ∈ wsX6_feet := by decide +kernel
theorem mbX6_feet_1 : Cond.fieldLink RX6 121 "FootANightModel" "told" "I" ∈ wsX6_feet := by decide +kernel
set_option maxHeartbeats 4000000 in
set_option maxRecDepth 100000 in
theorem wl_X6_feet_31 (X : CxG g p s m args c cX6_feet 6 RX6 wsX6_feet) (hAll : okAll g) {fu : Nat} {s1 : Int32} {x : Int32 × Mem} (kx0 : ∀ (d2 : Int32) (M2 : Mem) , x = (d2, M2) → ∀ (H : Heap) (locs : List Loc) (ls : Array Slot), va_P (gD g) vwCl (wlG g M2) H → va_S (AbG g) s.heap H locs → lv_has ls 6 [(2, .int d2)] → W p l e (headSpec wsX6_feet rmX6_feet).room s m args below meth c H locs 0 0 Q (F0 m 68 ls [])) {n : Nat} {q0 : Int32 × Int32 × Int32 × Mem} (h : lp (b_X6_feet_31 fu s1) n q0 = some x) : ∀ (H : Heap) (locs : List Loc) (ls : Array Slot), va_P (gD g) vwCl (wlG g q0.2.2.2) H → va_S (AbG g) s.heap H locs → lv_has ls 6 [(0, .ref (ga g 148)), (1, .int s1), (2, .int q0.1), (3, .int q0.2.1), (4, .int q0.2.2.1)] → W p l e (headSpec wsX6_feet rmX6_feet).room s m args below meth c H locs 0 0 Q (F0 m 31 ls []) := by
  refine lp_elim (P := fun q0 : Int32 × Int32 × Int32 × Mem => ∀ (H : Heap) (locs : List Loc) (ls : Array Slot), va_P (gD g) vwCl (wlG g q0.2.2.2) H → va_S (AbG g) s.heap H locs → lv_has ls 6 [(0, .ref (ga g 148)), (1, .int s1), (2, .int q0.1), (3, .int q0.2.1), (4, .int q0.2.2.1)] → W p l e (headSpec wsX6_feet rmX6_feet).room s m args below meth c H locs 0 0 Q (F0 m 31 ls [])) (fun q1 o hm hI hX => ?_) n q0 h
  obtain ⟨c2, c3, c4, M⟩ := q1
  have kb : ∀ (d2 : Int32) (d3 : Int32) (d4 : Int32) (M2 : Mem) , o = .inl (d2, d3, d4, M2) → ∀ (H : Heap) (locs : List Loc) (ls : Array Slot), va_P (gD g) vwCl (wlG g M2) H → va_S (AbG g) s.heap H locs → lv_has ls 6 [(0, .ref (ga g 148)), (1, .int s1), (2, .int d2), (3, .int d3), (4, .int d4)] → W p l e (headSpec wsX6_feet rmX6_feet).room s m args below meth c H locs 0 0 Q (F0 m 31 ls []) := fun d2 d3 d4 M2 e => hI _ e
  have kx0 : ∀ (d2 : Int32) (M2 : Mem) , o = .inr (d2, M2) → ∀ (H : Heap) (locs : List Loc) (ls : Array Slot), va_P (gD g) vwCl (wlG g M2) H → va_S (AbG g) s.heap H locs → lv_has ls 6 [(2, .int d2)] → W p l e (headSpec wsX6_feet rmX6_feet).room s m args below meth c H locs 0 0 Q (F0 m 68 ls []) := fun d2 M2 e => kx0 d2 M2 (hX _ e).symm
  clear hI hX
  intro H locs ls hP hS hl
  obtain ⟨⟨hx, hb, hml, hown, hts⟩, -, -⟩ := id X
  have hl : lv_has ls 6 [(0, .ref (ga g 148)), (1, .int s1), (2, .int c2), (3, .int c3), (4, .int c4)] := hl
  have hP : va_P (gD g) vwCl (wlG g M) H := hP
  unfold b_X6_feet_31 at hm
  replace hm := un4_e hm
  refine lv_iload hx hb dX6_feet_31 (lv_at hl 4 rfl) ?_
  refine lv_iconst (v := 5) hx hb dX6_feet_33 (by decide) ?_
  refine lv_icmp_gt (tgt := 68) hx hb dX6_feet_34 (by decide) (fun h_9 => ?_) (fun h_9 => ?_)
  · rw [if_pos h_9] at hm
    exact kx0 c2 M (Option.some.inj hm).symm _ _ _ hP hS (lv_sub hl [2] rfl)
  · rw [if_neg h_9] at hm
    refine lv_aload_n hx hb dX6_feet_37 rfl (lv_at hl 0 rfl) ?_
    refine lv_iload_n hx hb dX6_feet_38 rfl (lv_at hl 1 rfl) ?_
    refine lv_iload hx hb dX6_feet_39 (lv_at hl 4 rfl) ?_
    refine lv_iconst (v := 0) hx hb dX6_feet_41 (by decide) ?_
    obtain ⟨⟨r_11, M_12⟩, hc_10, hm⟩ := bind_elim hm
    replace hm := un2_e hm
    refine x_calli (x_runV (As := [.int s1, .int c4, .int 0]) (rest := []) X hP hS (c_X6_thinks l X.2.2 hAll hc_10) (cwV 3 hts gX6_feet_X6_thinks rfl rfl rfl (by decide +kernel) ⟨Nat.le_of_ble_eq_true rfl, Nat.le_of_ble_eq_true rfl⟩) (x_recv (C := RX6) (T := TX6) (N := 55) X hP (okc_148 hAll) rfl) rfl hl.1 rfl (Nat.le_of_ble_eq_true rfl) dX6_feet_42 ⟨Nat.zero_le _, Nat.zero_le _⟩) hS (fun H locs hP hS => ?_)
    refine lv_istore (lv' := [(5, .int r_11), (0, .ref (ga g 148)), (1, .int s1), (2, .int c2), (3, .int c3), (4, .int c4)]) hx hb dX6_feet_45 hl (by decide) rfl (fun ls hl => ?_)
    refine lv_iload hx hb dX6_feet_47 (lv_at hl 0 rfl) ?_
    refine lv_iload_n hx hb dX6_feet_49 rfl (lv_at hl 4 rfl) ?_
    refine lv_icmp_gt (tgt := 56) hx hb dX6_feet_50 (by decide) (fun h_13 => ?_) (fun h_13 => ?_)
    · rw [if_pos h_13] at hm
      refine lv_iload hx hb dX6_feet_56 (lv_at hl 5 rfl) ?_
      refine lv_istore_n (lv' := [(2, .int c4), (5, .int r_11), (0, .ref (ga g 148)), (1, .int s1), (3, .int c3), (4, .int c4)]) hx hb dX6_feet_58 rfl hl (by decide) rfl (fun ls hl => ?_)
      refine lv_iload hx hb dX6_feet_59 (lv_at hl 1 rfl) ?_
      refine lv_istore_n (lv' := [(3, .int r_11), (2, .int c4), (5, .int r_11), (0, .ref (ga g 148)), (1, .int s1), (4, .int c4)]) hx hb dX6_feet_61 rfl hl (by decide) rfl (fun ls hl => ?_)
      obtain ⟨v_14, hv_15, hm⟩ := bnd_elim hm
      refine lv_iinc (v := v_14) (lv' := [(4, .int v_14), (3, .int r_11), (2, .int c4), (5, .int r_11), (0, .ref (ga g 148)), (1, .int s1)]) hx hb dX6_feet_62 hl (k := 5) rfl (by rw [hv_15]; rfl) (by decide) rfl (fun ls hl => ?_)
      refine lv_goto (tgt := 31) hx hb dX6_feet_65 (by decide) ?_
      exact kb c4 r_11 v_14 M_12 (Option.some.inj hm).symm _ _ _ hP hS (lv_sub hl [4, 5, 2, 1, 0] rfl)
    · rw [if_neg h_13] at hm
      refine lv_goto (tgt := 62) hx hb dX6_feet_53 (by decide) ?_
      obtain ⟨v_16, hv_17, hm⟩ := bnd_elim hm
      refine lv_iinc (v := v_16) (lv' := [(4, .int v_16), (5, .int r_11), (0, .ref (ga g 148)), (1, .int s1), (2, .int c2), (3, .int c3)]) hx hb dX6_feet_62 hl (k := 5) rfl (by rw [hv_17]; rfl) (by decide) rfl (fun ls hl => ?_)
      refine lv_goto (tgt := 31) hx hb dX6_feet_65 (by decide) ?_
      exact kb c2 c3 v_16 M_12 (Option.some.inj hm).symm _ _ _ hP hS (lv_sub hl [2, 3, 4, 5, 0] rfl)

set_option maxHeartbeats 4000000 in
set_option maxRecDepth 100000 in
theorem c_X6_feet (l : Launch) {g : GT} (hA : AxG g) (hAll : okAll g)   {fu : Nat} {M : Mem} {a1 : Int32} {rr : Int32} {MM : Mem} (hm : m_X6_feet fu M a1 = some (rr, MM)) : CI l yX6_feet wsX6_feet rmX6_feet g [.ref (ga g 148), .int a1] M rr MM := by
  refine Met.ofW (cc := cX6_feet) (maxL := 6) (ret := (some .int)) (by decide) rfl ?_
  intro p e s m args below meth c s₁ B hml hv
  obtain ⟨rfl, hSx, hP⟩ := hv
  have hr := B.returns
  have hlocks := B.notSynchronized
  have X : CxG g p s m _ c cX6_feet 6 RX6 wsX6_feet := ⟨⟨B.exec, B.bytes, hml, findClass_of_methodNamed B.named, atoms_spec (ws := wsX6_feet) B.pre⟩, hSx, hA⟩
  have hS : va_S (AbG g) s.heap s.heap [] := va_S.rf
  have hl := lv_entry (([.ref (ga g 148), .int a1] : List Value)) (n := 6) (Nat.le_of_ble_eq_true rfl)
  rw [lg_entry_eq]
  generalize (lg_sl (([.ref (ga g 148), .int a1] : List Value)) ++ List.replicate (6 - (lg_sl (([.ref (ga g 148), .int a1] : List Value))).length) Slot.unset).toArray = ls at hl ⊢
  have hl : lv_has ls 6 [(0, .ref (ga g 148)), (1, .int a1)] := hl
  obtain ⟨⟨hx, hb, hml, hown, hts⟩, -, -⟩ := id X
  unfold m_X6_feet at hm
  refine lv_aload_n hx hb dX6_feet_0 rfl (lv_at hl 0 rfl) ?_
  refine lv_iconst (v := 0) hx hb dX6_feet_1 (by decide) ?_
  obtain ⟨M_1, hM_2, hm⟩ := bnd_elim hm
  refine xp_X6_0 X hP hAll uX6_feet_X6 mbX6_feet_1 hS hM_2 dX6_feet_2 (fun H locs hP hS => ?_)
  refine lv_aload_n hx hb dX6_feet_5 rfl (lv_at hl 0 rfl) ?_
  refine lv_iload_n hx hb dX6_feet_6 rfl (lv_at hl 1 rfl) ?_
  refine lv_iconst (v := 1) hx hb dX6_feet_7 (by decide) ?_
  refine lv_bipush (v := 60) hx hb dX6_feet_8 (by decide) ?_
  obtain ⟨r_4, hc_3, hm⟩ := bind_elim hm
  refine x_calli (x_runV (As := [.int a1, .int 1, .int 60]) (rest := []) X hP hS (c_X6_isIn l X.2.2 hc_3) (cwV 3 hts gX6_feet_X6_isIn rfl rfl rfl (by decide +kernel) ⟨Nat.le_of_ble_eq_true rfl, Nat.le_of_ble_eq_true rfl⟩) (x_recv (C := RX6) (T := TX6) (N := 55) X hP (okc_148 hAll) rfl) rfl hl.1 rfl (Nat.le_of_ble_eq_true rfl) dX6_feet_10 ⟨Nat.zero_le _, Nat.zero_le _⟩) hS (fun H locs hP hS => ?_)
  refine lv_if_ne (tgt := 18) hx hb dX6_feet_13 (by decide) (fun h_5 => ?_) (fun h_5 => ?_)
  · rw [if_neg h_5] at hm
    refine lv_iconst (v := 0) hx hb dX6_feet_18 (by decide) ?_
    refine lv_istore_n (lv' := [(2, .int 0), (0, .ref (ga g 148)), (1, .int a1)]) hx hb dX6_feet_19 rfl hl (by decide) rfl (fun ls hl => ?_)
    refine lv_aload_n hx hb dX6_feet_20 rfl (lv_at hl 1 rfl) ?_
    refine lv_iload_n hx hb dX6_feet_21 rfl (lv_at hl 2 rfl) ?_
    refine lv_iconst (v := 0) hx hb dX6_feet_22 (by decide) ?_
    refine lv_iconst (v := 0) hx hb dX6_feet_23 (by decide) ?_
    obtain ⟨⟨r_7, M_8⟩, hc_6, hm⟩ := bind_elim hm
    replace hm := un2_e hm
    refine x_calli (x_runV (As := [.int a1, .int 0, .int 0]) (rest := []) X hP hS (c_X6_thinks l X.2.2 hAll hc_6) (cwV 3 hts gX6_feet_X6_thinks rfl rfl rfl (by decide +kernel) ⟨Nat.le_of_ble_eq_true rfl, Nat.le_of_ble_eq_true rfl⟩) (x_recv (C := RX6) (T := TX6) (N := 55) X hP (okc_148 hAll) rfl) rfl hl.1 rfl (Nat.le_of_ble_eq_true rfl) dX6_feet_24 ⟨Nat.zero_le _, Nat.zero_le _⟩) hS (fun H locs hP hS => ?_)
    refine lv_istore_n (lv' := [(3, .int r_7), (2, .int 0), (0, .ref (ga g 148)), (1, .int a1)]) hx hb dX6_feet_27 rfl hl (by decide) rfl (fun ls hl => ?_)
    refine lv_iconst (v := 1) hx hb dX6_feet_28 (by decide) ?_
    refine lv_istore (lv' := [(4, .int 1), (3, .int r_7), (2, .int 0), (0, .ref (ga g 148)), (1, .int a1)]) hx hb dX6_feet_29 hl (by decide) rfl (fun ls hl => ?_)
    obtain ⟨x_18, hL_19, hm⟩ := bind_elim hm
    refine wl_X6_feet_31 X hAll ?_ hL_19 _ _ _ hP hS (lv_sub hl [3, 4, 2, 1, 0] rfl)
    · intro v_20 M_21 e_x_18 H locs ls hP hS hl
      subst e_x_18
      replace hm := un2_e hm
      refine lv_iload_n hx hb dX6_feet_68 rfl (lv_at hl 0 rfl) ?_
      cases hm
      exact x_iret X hP hS hr hlocks dX6_feet_69
  · rw [if_pos h_5] at hm
    refine lv_iconst (v := (-1)) hx hb dX6_feet_16 (by decide) ?_
    cases hm
    exact x_iret X hP hS hr hlocks dX6_feet_17


/-! X6_thought -/
def rmX6_thought : Room := { frames := 6, cells := 0, slots := 0, locals := 141 }
theorem uX6_thought_X6 : ∀ w ∈ wsX60, w ∈ wsX6_thought := by decide +kernel
theorem mbX6_thought_1 : Cond.fieldLink RX6 121 "FootANightModel" "told" "I" ∈ wsX6_thought := by decide +kernel
theorem mbX6_thought_2 : Cond.constant RX6 276 (-100000000) ∈ wsX6_thought := by decide +kernel
theorem mbX6_thought_3 : Cond.fieldLink RX6 53 "FootANightModel" "settings" "[I" ∈ wsX6_thought := by decide +kernel
set_option maxHeartbeats 4000000 in
set_option maxRecDepth 100000 in
theorem c_X6_thought (l : Launch) {g : GT} (hA : AxG g) (hAll : okAll g)   {fu : Nat} {M : Mem} {a1 : Int32} {a2 : Int32} {rr : Int32} {MM : Mem} (hm : m_X6_thought fu M a1 a2 = some (rr, MM)) : CI l yX6_thought wsX6_thought rmX6_thought g [.ref (ga g 148), .int a1, .int a2] M rr MM := by
  refine Met.ofW (cc := cX6_thought) (maxL := 3) (ret := (some .int)) (by decide) rfl ?_
  intro p e s m args below meth c s₁ B hml hv
  obtain ⟨rfl, hSx, hP⟩ := hv
  have hr := B.returns
  have hlocks := B.notSynchronized
  have X : CxG g p s m _ c cX6_thought 3 RX6 wsX6_thought := ⟨⟨B.exec, B.bytes, hml, findClass_of_methodNamed B.named, atoms_spec (ws := wsX6_thought) B.pre⟩, hSx, hA⟩
  have hS : va_S (AbG g) s.heap s.heap [] := va_S.rf
  have hl := lv_entry (([.ref (ga g 148), .int a1, .int a2] : List Value)) (n := 3) (Nat.le_of_ble_eq_true rfl)
  rw [lg_entry_eq]
  generalize (lg_sl (([.ref (ga g 148), .int a1, .int a2] : List Value)) ++ List.replicate (3 - (lg_sl (([.ref (ga g 148), .int a1, .int a2] : List Value))).length) Slot.unset).toArray = ls at hl ⊢
  have hl : lv_has ls 3 [(0, .ref (ga g 148)), (1, .int a1), (2, .int a2)] := hl
  obtain ⟨⟨hx, hb, hml, hown, hts⟩, -, -⟩ := id X
  unfold m_X6_thought at hm
  refine lv_aload_n hx hb dX6_thought_0 rfl (lv_at hl 0 rfl) ?_
  refine lv_iconst (v := 0) hx hb dX6_thought_1 (by decide) ?_
  obtain ⟨M_1, hM_2, hm⟩ := bnd_elim hm
  refine xp_X6_0 X hP hAll uX6_thought_X6 mbX6_thought_1 hS hM_2 dX6_thought_2 (fun H locs hP hS => ?_)
  refine lv_aload_n hx hb dX6_thought_5 rfl (lv_at hl 0 rfl) ?_
  refine lv_iload_n hx hb dX6_thought_6 rfl (lv_at hl 1 rfl) ?_
  refine lv_iconst (v := 1) hx hb dX6_thought_7 (by decide) ?_
  refine lv_bipush (v := 60) hx hb dX6_thought_8 (by decide) ?_
  obtain ⟨r_4, hc_3, hm⟩ := bind_elim hm
  refine x_calli (x_runV (As := [.int a1, .int 1, .int 60]) (rest := []) X hP hS (c_X6_isIn l X.2.2 hc_3) (cwV 3 hts gX6_thought_X6_isIn rfl rfl rfl (by decide +kernel) ⟨Nat.le_of_ble_eq_true rfl, Nat.le_of_ble_eq_true rfl⟩) (x_recv (C := RX6) (T := TX6) (N := 55) X hP (okc_148 hAll) rfl) rfl hl.1 rfl (Nat.le_of_ble_eq_true rfl) dX6_thought_10 ⟨Nat.zero_le _, Nat.zero_le _⟩) hS (fun H locs hP hS => ?_)
  refine lv_if_eq (tgt := 42) hx hb dX6_thought_13 (by decide) (fun h_5 => ?_) (fun h_5 => ?_)
  · rw [if_pos h_5] at hm
    refine lv_ldcw (v := (-100000000)) hx hb hown (hts _ mbX6_thought_2) dX6_thought_42 ?_
    cases hm
    exact x_iret X hP hS hr hlocks dX6_thought_45
  · rw [if_neg h_5] at hm
    refine lv_aload_n hx hb dX6_thought_16 rfl (lv_at hl 0 rfl) ?_
    refine lv_iload_n hx hb dX6_thought_17 rfl (lv_at hl 2 rfl) ?_
    refine lv_iconst (v := 0) hx hb dX6_thought_18 (by decide) ?_
    refine lv_iconst (v := 3) hx hb dX6_thought_19 (by decide) ?_
    obtain ⟨r_7, hc_6, hm⟩ := bind_elim hm
    refine x_calli (x_runV (As := [.int a2, .int 0, .int 3]) (rest := []) X hP hS (c_X6_isIn l X.2.2 hc_6) (cwV 3 hts gX6_thought_X6_isIn rfl rfl rfl (by decide +kernel) ⟨Nat.le_of_ble_eq_true rfl, Nat.le_of_ble_eq_true rfl⟩) (x_recv (C := RX6) (T := TX6) (N := 55) X hP (okc_148 hAll) rfl) rfl hl.1 rfl (Nat.le_of_ble_eq_true rfl) dX6_thought_20 ⟨Nat.zero_le _, Nat.zero_le _⟩) hS (fun H locs hP hS => ?_)
    refine lv_if_eq (tgt := 42) hx hb dX6_thought_23 (by decide) (fun h_8 => ?_) (fun h_8 => ?_)
    · rw [if_pos h_8] at hm
      refine lv_ldcw (v := (-100000000)) hx hb hown (hts _ mbX6_thought_2) dX6_thought_42 ?_
      cases hm
      exact x_iret X hP hS hr hlocks dX6_thought_45
    · rw [if_neg h_8] at hm
      refine lv_aload_n hx hb dX6_thought_26 rfl (lv_at hl 0 rfl) ?_
      refine lv_iload_n hx hb dX6_thought_27 rfl (lv_at hl 1 rfl) ?_
      refine lv_aload_n hx hb dX6_thought_28 rfl (lv_at hl 0 rfl) ?_
      refine xg_X6_18 X hP hAll uX6_thought_X6 mbX6_thought_3 dX6_thought_29 ?_
      refine lv_bipush (v := 9) hx hb dX6_thought_32 (by decide) ?_
      refine x_iald X hP (okc_162 hAll) (show inb 9 10 = true from rfl) dX6_thought_34 ?_
      refine lv_iload_n hx hb dX6_thought_35 rfl (lv_at hl 2 rfl) ?_
      obtain ⟨⟨r_10, M_11⟩, hc_9, hm⟩ := bind_elim hm
      replace hm := un2_e hm
      refine x_calli (x_runV (As := [.int a1, .int (rd M_1 162 (ix 9)), .int a2]) (rest := []) X hP hS (c_X6_thinks l X.2.2 hAll hc_9) (cwV 3 hts gX6_thought_X6_thinks rfl rfl rfl (by decide +kernel) ⟨Nat.le_of_ble_eq_true rfl, Nat.le_of_ble_eq_true rfl⟩) (x_recv (C := RX6) (T := TX6) (N := 55) X hP (okc_148 hAll) rfl) rfl hl.1 rfl (Nat.le_of_ble_eq_true rfl) dX6_thought_36 ⟨Nat.zero_le _, Nat.zero_le _⟩) hS (fun H locs hP hS => ?_)
      refine lv_goto (tgt := 45) hx hb dX6_thought_39 (by decide) ?_
      cases hm
      exact x_iret X hP hS hr hlocks dX6_thought_45


/-! X6_keptText -/
def rmX6_keptText : Room := { frames := 0, cells := 0, slots := 0, locals := 0 }
theorem uX6_keptText_X6 : ∀ w ∈ wsX60, w ∈ wsX6_keptText := by decide +kernel
theorem mbX6_keptText_1 : Cond.fieldLink RX6 370 "FootANightModel" "textAt" "I" ∈ wsX6_keptText := by decide +kernel
theorem mbX6_keptText_2 : Cond.fieldLink RX6 347 "FootANightModel" "isPutting" "Z" ∈ wsX6_keptText := by decide +kernel
theorem mbX6_keptText_3 : Cond.fieldLink RX6 118 "FootANightModel" "imageTexts" "[I" ∈ wsX6_keptText := by decide +kernel
set_option maxHeartbeats 4000000 in
set_option maxRecDepth 100000 in
theorem c_X6_keptText (l : Launch) {g : GT} (hA : AxG g) (hAll : okAll g)   {M : Mem} {a1 : Int32} {rr : Int32} {MM : Mem} (hm : m_X6_keptText M a1 = some (rr, MM)) : CI l yX6_keptText wsX6_keptText rmX6_keptText g [.ref (ga g 148), .int a1] M rr MM := by
  refine Met.ofW (cc := cX6_keptText) (maxL := 2) (ret := (some .int)) (by decide) rfl ?_
  intro p e s m args below meth c s₁ B hml hv
  obtain ⟨rfl, hSx, hP⟩ := hv
  have hr := B.returns
  have hlocks := B.notSynchronized
  have X : CxG g p s m _ c cX6_keptText 2 RX6 wsX6_keptText := ⟨⟨B.exec, B.bytes, hml, findClass_of_methodNamed B.named, atoms_spec (ws := wsX6_keptText) B.pre⟩, hSx, hA⟩
  have hS : va_S (AbG g) s.heap s.heap [] := va_S.rf
  have hl := lv_entry (([.ref (ga g 148), .int a1] : List Value)) (n := 2) (Nat.le_of_ble_eq_true rfl)
  rw [lg_entry_eq]
  generalize (lg_sl (([.ref (ga g 148), .int a1] : List Value)) ++ List.replicate (2 - (lg_sl (([.ref (ga g 148), .int a1] : List Value))).length) Slot.unset).toArray = ls at hl ⊢
  have hl : lv_has ls 2 [(0, .ref (ga g 148)), (1, .int a1)] := hl
  obtain ⟨⟨hx, hb, hml, hown, hts⟩, -, -⟩ := id X
  unfold m_X6_keptText at hm
  refine lv_aload_n hx hb dX6_keptText_0 rfl (lv_at hl 0 rfl) ?_
  refine lv_aload_n hx hb dX6_keptText_1 rfl (lv_at hl 0 rfl) ?_
  refine xg_X6_54 X hP hAll uX6_keptText_X6 mbX6_keptText_1 dX6_keptText_2 ?_
  refine lv_iconst (v := 1) hx hb dX6_keptText_5 (by decide) ?_
  refine lv_iadd hx hb dX6_keptText_6 ?_
  obtain ⟨M_1, hM_2, hm⟩ := bnd_elim hm
  refine xp_X6_54 X hP hAll uX6_keptText_X6 mbX6_keptText_1 hS hM_2 dX6_keptText_7 (fun H locs hP hS => ?_)
  refine lv_aload_n hx hb dX6_keptText_10 rfl (lv_at hl 0 rfl) ?_
  refine xg_X6_48 X hP hAll uX6_keptText_X6 mbX6_keptText_2 dX6_keptText_11 ?_
  refine lv_if_ne (tgt := 29) hx hb dX6_keptText_14 (by decide) (fun h_3 => ?_) (fun h_3 => ?_)
  · rw [if_neg h_3] at hm
    refine lv_aload_n hx hb dX6_keptText_29 rfl (lv_at hl 0 rfl) ?_
    refine xg_X6_53 X hP hAll uX6_keptText_X6 mbX6_keptText_3 dX6_keptText_30 ?_
    refine lv_aload_n hx hb dX6_keptText_33 rfl (lv_at hl 0 rfl) ?_
    refine xg_X6_54 X hP hAll uX6_keptText_X6 mbX6_keptText_1 dX6_keptText_34 ?_
    refine lv_iconst (v := 1) hx hb dX6_keptText_37 (by decide) ?_
    refine lv_isub hx hb dX6_keptText_38 ?_
    refine lv_iload_n hx hb dX6_keptText_39 rfl (lv_at hl 1 rfl) ?_
    obtain ⟨hb_4, hm⟩ := chk_elim hm
    obtain ⟨M_5, hM_6, hm⟩ := bnd_elim hm
    refine x_iast X hP hS (okc_182 hAll) hM_6 hb_4 dX6_keptText_40 (fun H locs hP hS => ?_)
    refine lv_iload_n hx hb dX6_keptText_41 rfl (lv_at hl 1 rfl) ?_
    cases hm
    exact x_iret X hP hS hr hlocks dX6_keptText_42
  · rw [if_pos h_3] at hm
    refine lv_aload_n hx hb dX6_keptText_17 rfl (lv_at hl 0 rfl) ?_
    refine xg_X6_53 X hP hAll uX6_keptText_X6 mbX6_keptText_3 dX6_keptText_18 ?_
    refine lv_aload_n hx hb dX6_keptText_21 rfl (lv_at hl 0 rfl) ?_
    refine xg_X6_54 X hP hAll uX6_keptText_X6 mbX6_keptText_1 dX6_keptText_22 ?_
    refine lv_iconst (v := 1) hx hb dX6_keptText_25 (by decide) ?_
    refine lv_isub hx hb dX6_keptText_26 ?_
    obtain ⟨hb_7, hm⟩ := chk_elim hm
    refine x_iald X hP (okc_182 hAll) hb_7 dX6_keptText_27 ?_
    cases hm
    exact x_iret X hP hS hr hlocks dX6_keptText_28


/-! X6_image -/
def rmX6_image : Room := { frames := 2, cells := 0, slots := 0, locals := 43 }
theorem uX6_image_X6 : ∀ w ∈ wsX60, w ∈ wsX6_image := by decide +kernel
theorem mbX6_image_1 : Cond.fieldLink RX6 121 "FootANightModel" "told" "I" ∈ wsX6_image := by decide +kernel
theorem mbX6_image_2 : Cond.fieldLink RX6 373 "FootANightModel" "hasImage" "Z" ∈ wsX6_image := by decide +kernel
theorem mbX6_image_3 : Cond.fieldLink RX6 370 "FootANightModel" "textAt" "I" ∈ wsX6_image := by decide +kernel
theorem mbX6_image_4 : Cond.fieldLink RX6 62 "FootANightModel" "lineMany" "[I" ∈ wsX6_image := by decide +kernel
theorem mbX6_image_5 : Cond.fieldLink RX6 65 "FootANightModel" "lineDoing" "[I" ∈ wsX6_image := by decide +kernel
theorem mbX6_image_6 : Cond.fieldLink RX6 68 "FootANightModel" "lineFrom" "[I" ∈ wsX6_image := by decide +kernel
theorem mbX6_image_7 : Cond.fieldLink RX6 71 "FootANightModel" "lineTo" "[I" ∈ wsX6_image := by decide +kernel
theorem mbX6_image_8 : Cond.fieldLink RX6 74 "FootANightModel" "op" "[I" ∈ wsX6_image := by decide +kernel
theorem mbX6_image_9 : Cond.fieldLink RX6 77 "FootANightModel" "arg" "[I" ∈ wsX6_image := by decide +kernel
theorem mbX6_image_10 : Cond.fieldLink RX6 115 "FootANightModel" "images" "[I" ∈ wsX6_image := by decide +kernel
theorem mbX6_image_11 : Cond.fieldLink RX6 112 "FootANightModel" "aside" "[I" ∈ wsX6_image := by decide +kernel
set_option maxHeartbeats 4000000 in
set_option maxRecDepth 100000 in
theorem wl_X6_image_97 (X : CxG g p s m args c cX6_image 3 RX6 wsX6_image) (hAll : okAll g) {fu : Nat} {x : Mem} (kx0 : ∀ (M2 : Mem) , x = M2 → ∀ (H : Heap) (locs : List Loc) (ls : Array Slot), va_P (gD g) vwCl (wlG g M2) H → va_S (AbG g) s.heap H locs → lv_has ls 3 [(0, .ref (ga g 148))] → W p l e (headSpec wsX6_image rmX6_image).room s m args below meth c H locs 0 0 Q (F0 m 124 ls [])) {n : Nat} {q0 : Int32 × Mem} (h : lp (b_X6_image_97 fu) n q0 = some x) : ∀ (H : Heap) (locs : List Loc) (ls : Array Slot), va_P (gD g) vwCl (wlG g q0.2) H → va_S (AbG g) s.heap H locs → lv_has ls 3 [(0, .ref (ga g 148)), (2, .int q0.1)] → W p l e (headSpec wsX6_image rmX6_image).room s m args below meth c H locs 0 0 Q (F0 m 97 ls []) := by
  refine lp_elim (P := fun q0 : Int32 × Mem => ∀ (H : Heap) (locs : List Loc) (ls : Array Slot), va_P (gD g) vwCl (wlG g q0.2) H → va_S (AbG g) s.heap H locs → lv_has ls 3 [(0, .ref (ga g 148)), (2, .int q0.1)] → W p l e (headSpec wsX6_image rmX6_image).room s m args below meth c H locs 0 0 Q (F0 m 97 ls [])) (fun q1 o hm hI hX => ?_) n q0 h
  obtain ⟨c2, M⟩ := q1
  have kb : ∀ (d2 : Int32) (M2 : Mem) , o = .inl (d2, M2) → ∀ (H : Heap) (locs : List Loc) (ls : Array Slot), va_P (gD g) vwCl (wlG g M2) H → va_S (AbG g) s.heap H locs → lv_has ls 3 [(0, .ref (ga g 148)), (2, .int d2)] → W p l e (headSpec wsX6_image rmX6_image).room s m args below meth c H locs 0 0 Q (F0 m 97 ls []) := fun d2 M2 e => hI _ e
  have kx0 : ∀ (M2 : Mem) , o = .inr M2 → ∀ (H : Heap) (locs : List Loc) (ls : Array Slot), va_P (gD g) vwCl (wlG g M2) H → va_S (AbG g) s.heap H locs → lv_has ls 3 [(0, .ref (ga g 148))] → W p l e (headSpec wsX6_image rmX6_image).room s m args below meth c H locs 0 0 Q (F0 m 124 ls []) := fun M2 e => kx0 M2 (hX _ e).symm
  clear hI hX
  intro H locs ls hP hS hl
  obtain ⟨⟨hx, hb, hml, hown, hts⟩, -, -⟩ := id X
  have hl : lv_has ls 3 [(0, .ref (ga g 148)), (2, .int c2)] := hl
  have hP : va_P (gD g) vwCl (wlG g M) H := hP
  unfold b_X6_image_97 at hm
  replace hm := un2_e hm
  refine lv_iload_n hx hb dX6_image_97 rfl (lv_at hl 1 rfl) ?_
  refine lv_iconst (v := 4) hx hb dX6_image_98 (by decide) ?_
  refine lv_icmp_ge (tgt := 124) hx hb dX6_image_99 (by decide) (fun h_12 => ?_) (fun h_12 => ?_)
  · rw [if_pos h_12] at hm
    exact kx0 M (Option.some.inj hm).symm _ _ _ hP hS (lv_sub hl [0] rfl)
  · rw [if_neg h_12] at hm
    refine lv_aload_n hx hb dX6_image_102 rfl (lv_at hl 0 rfl) ?_
    refine xg_X6_26 X hP hAll uX6_image_X6 mbX6_image_4 dX6_image_103 ?_
    refine lv_iload_n hx hb dX6_image_106 rfl (lv_at hl 1 rfl) ?_
    refine lv_aload_n hx hb dX6_image_107 rfl (lv_at hl 0 rfl) ?_
    refine lv_aload_n hx hb dX6_image_108 rfl (lv_at hl 0 rfl) ?_
    refine xg_X6_26 X hP hAll uX6_image_X6 mbX6_image_4 dX6_image_109 ?_
    refine lv_iload_n hx hb dX6_image_112 rfl (lv_at hl 1 rfl) ?_
    obtain ⟨hb_13, hm⟩ := chk_elim hm
    refine x_iald X hP (okc_165 hAll) hb_13 dX6_image_113 ?_
    obtain ⟨⟨r_15, M_16⟩, hc_14, hm⟩ := bind_elim hm
    replace hm := un2_e hm
    refine x_calli (x_runV (As := [.int (rd M 165 (ix c2))]) (rest := [.int c2, .ref (ga g 165)]) X hP hS (c_X6_keptText l X.2.2 hAll hc_14) (cwV 1 hts gX6_image_X6_keptText rfl rfl rfl (by decide +kernel) ⟨Nat.le_of_ble_eq_true rfl, Nat.le_of_ble_eq_true rfl⟩) (x_recv (C := RX6) (T := TX6) (N := 55) X hP (okc_148 hAll) rfl) rfl hl.1 rfl (Nat.le_of_ble_eq_true rfl) dX6_image_114 ⟨Nat.zero_le _, Nat.zero_le _⟩) hS (fun H locs hP hS => ?_)
    obtain ⟨M_17, hM_18, hm⟩ := bnd_elim hm
    refine x_iast X hP hS (okc_165 hAll) hM_18 hb_13 dX6_image_117 (fun H locs hP hS => ?_)
    obtain ⟨v_19, hv_20, hm⟩ := bnd_elim hm
    refine lv_iinc (v := v_19) (lv' := [(2, .int v_19), (0, .ref (ga g 148))]) hx hb dX6_image_118 hl (k := 1) rfl (by rw [hv_20]; rfl) (by decide) rfl (fun ls hl => ?_)
    refine lv_goto (tgt := 97) hx hb dX6_image_121 (by decide) ?_
    exact kb v_19 M_17 (Option.some.inj hm).symm _ _ _ hP hS (lv_sub hl [1, 0] rfl)

set_option maxHeartbeats 4000000 in
set_option maxRecDepth 100000 in
theorem wl_X6_image_126 (X : CxG g p s m args c cX6_image 3 RX6 wsX6_image) (hAll : okAll g) {fu : Nat} {x : Mem} (kx0 : ∀ (M2 : Mem) , x = M2 → ∀ (H : Heap) (locs : List Loc) (ls : Array Slot), va_P (gD g) vwCl (wlG g M2) H → va_S (AbG g) s.heap H locs → lv_has ls 3 [(0, .ref (ga g 148))] → W p l e (headSpec wsX6_image rmX6_image).room s m args below meth c H locs 0 0 Q (F0 m 186 ls [])) {n : Nat} {q0 : Int32 × Mem} (h : lp (b_X6_image_126 fu) n q0 = some x) : ∀ (H : Heap) (locs : List Loc) (ls : Array Slot), va_P (gD g) vwCl (wlG g q0.2) H → va_S (AbG g) s.heap H locs → lv_has ls 3 [(0, .ref (ga g 148)), (2, .int q0.1)] → W p l e (headSpec wsX6_image rmX6_image).room s m args below meth c H locs 0 0 Q (F0 m 126 ls []) := by
  refine lp_elim (P := fun q0 : Int32 × Mem => ∀ (H : Heap) (locs : List Loc) (ls : Array Slot), va_P (gD g) vwCl (wlG g q0.2) H → va_S (AbG g) s.heap H locs → lv_has ls 3 [(0, .ref (ga g 148)), (2, .int q0.1)] → W p l e (headSpec wsX6_image rmX6_image).room s m args below meth c H locs 0 0 Q (F0 m 126 ls [])) (fun q1 o hm hI hX => ?_) n q0 h
  obtain ⟨c2, M⟩ := q1
  have kb : ∀ (d2 : Int32) (M2 : Mem) , o = .inl (d2, M2) → ∀ (H : Heap) (locs : List Loc) (ls : Array Slot), va_P (gD g) vwCl (wlG g M2) H → va_S (AbG g) s.heap H locs → lv_has ls 3 [(0, .ref (ga g 148)), (2, .int d2)] → W p l e (headSpec wsX6_image rmX6_image).room s m args below meth c H locs 0 0 Q (F0 m 126 ls []) := fun d2 M2 e => hI _ e
  have kx0 : ∀ (M2 : Mem) , o = .inr M2 → ∀ (H : Heap) (locs : List Loc) (ls : Array Slot), va_P (gD g) vwCl (wlG g M2) H → va_S (AbG g) s.heap H locs → lv_has ls 3 [(0, .ref (ga g 148))] → W p l e (headSpec wsX6_image rmX6_image).room s m args below meth c H locs 0 0 Q (F0 m 186 ls []) := fun M2 e => kx0 M2 (hX _ e).symm
  clear hI hX
  intro H locs ls hP hS hl
  obtain ⟨⟨hx, hb, hml, hown, hts⟩, -, -⟩ := id X
  have hl : lv_has ls 3 [(0, .ref (ga g 148)), (2, .int c2)] := hl
  have hP : va_P (gD g) vwCl (wlG g M) H := hP
  unfold b_X6_image_126 at hm
  replace hm := un2_e hm
  refine lv_iload_n hx hb dX6_image_126 rfl (lv_at hl 1 rfl) ?_
  refine lv_bipush (v := 64) hx hb dX6_image_127 (by decide) ?_
  refine lv_icmp_ge (tgt := 186) hx hb dX6_image_129 (by decide) (fun h_24 => ?_) (fun h_24 => ?_)
  · rw [if_pos h_24] at hm
    exact kx0 M (Option.some.inj hm).symm _ _ _ hP hS (lv_sub hl [0] rfl)
  · rw [if_neg h_24] at hm
    refine lv_aload_n hx hb dX6_image_132 rfl (lv_at hl 0 rfl) ?_
    refine xg_X6_27 X hP hAll uX6_image_X6 mbX6_image_5 dX6_image_133 ?_
    refine lv_iload_n hx hb dX6_image_136 rfl (lv_at hl 1 rfl) ?_
    refine lv_aload_n hx hb dX6_image_137 rfl (lv_at hl 0 rfl) ?_
    refine lv_aload_n hx hb dX6_image_138 rfl (lv_at hl 0 rfl) ?_
    refine xg_X6_27 X hP hAll uX6_image_X6 mbX6_image_5 dX6_image_139 ?_
    refine lv_iload_n hx hb dX6_image_142 rfl (lv_at hl 1 rfl) ?_
    obtain ⟨hb_25, hm⟩ := chk_elim hm
    refine x_iald X hP (okc_166 hAll) hb_25 dX6_image_143 ?_
    obtain ⟨⟨r_27, M_28⟩, hc_26, hm⟩ := bind_elim hm
    replace hm := un2_e hm
    refine x_calli (x_runV (As := [.int (rd M 166 (ix c2))]) (rest := [.int c2, .ref (ga g 166)]) X hP hS (c_X6_keptText l X.2.2 hAll hc_26) (cwV 1 hts gX6_image_X6_keptText rfl rfl rfl (by decide +kernel) ⟨Nat.le_of_ble_eq_true rfl, Nat.le_of_ble_eq_true rfl⟩) (x_recv (C := RX6) (T := TX6) (N := 55) X hP (okc_148 hAll) rfl) rfl hl.1 rfl (Nat.le_of_ble_eq_true rfl) dX6_image_144 ⟨Nat.zero_le _, Nat.zero_le _⟩) hS (fun H locs hP hS => ?_)
    obtain ⟨M_29, hM_30, hm⟩ := bnd_elim hm
    refine x_iast X hP hS (okc_166 hAll) hM_30 hb_25 dX6_image_147 (fun H locs hP hS => ?_)
    refine lv_aload_n hx hb dX6_image_148 rfl (lv_at hl 0 rfl) ?_
    refine xg_X6_28 X hP hAll uX6_image_X6 mbX6_image_6 dX6_image_149 ?_
    refine lv_iload_n hx hb dX6_image_152 rfl (lv_at hl 1 rfl) ?_
    refine lv_aload_n hx hb dX6_image_153 rfl (lv_at hl 0 rfl) ?_
    refine lv_aload_n hx hb dX6_image_154 rfl (lv_at hl 0 rfl) ?_
    refine xg_X6_28 X hP hAll uX6_image_X6 mbX6_image_6 dX6_image_155 ?_
    refine lv_iload_n hx hb dX6_image_158 rfl (lv_at hl 1 rfl) ?_
    refine x_iald X hP (okc_167 hAll) hb_25 dX6_image_159 ?_
    obtain ⟨⟨r_32, M_33⟩, hc_31, hm⟩ := bind_elim hm
    replace hm := un2_e hm
    refine x_calli (x_runV (As := [.int (rd M_29 167 (ix c2))]) (rest := [.int c2, .ref (ga g 167)]) X hP hS (c_X6_keptText l X.2.2 hAll hc_31) (cwV 1 hts gX6_image_X6_keptText rfl rfl rfl (by decide +kernel) ⟨Nat.le_of_ble_eq_true rfl, Nat.le_of_ble_eq_true rfl⟩) (x_recv (C := RX6) (T := TX6) (N := 55) X hP (okc_148 hAll) rfl) rfl hl.1 rfl (Nat.le_of_ble_eq_true rfl) dX6_image_160 ⟨Nat.zero_le _, Nat.zero_le _⟩) hS (fun H locs hP hS => ?_)
    obtain ⟨M_34, hM_35, hm⟩ := bnd_elim hm
    refine x_iast X hP hS (okc_167 hAll) hM_35 hb_25 dX6_image_163 (fun H locs hP hS => ?_)
    refine lv_aload_n hx hb dX6_image_164 rfl (lv_at hl 0 rfl) ?_
    refine xg_X6_29 X hP hAll uX6_image_X6 mbX6_image_7 dX6_image_165 ?_
    refine lv_iload_n hx hb dX6_image_168 rfl (lv_at hl 1 rfl) ?_
    refine lv_aload_n hx hb dX6_image_169 rfl (lv_at hl 0 rfl) ?_
    refine lv_aload_n hx hb dX6_image_170 rfl (lv_at hl 0 rfl) ?_
    refine xg_X6_29 X hP hAll uX6_image_X6 mbX6_image_7 dX6_image_171 ?_
    refine lv_iload_n hx hb dX6_image_174 rfl (lv_at hl 1 rfl) ?_
    refine x_iald X hP (okc_168 hAll) hb_25 dX6_image_175 ?_
    obtain ⟨⟨r_37, M_38⟩, hc_36, hm⟩ := bind_elim hm
    replace hm := un2_e hm
    refine x_calli (x_runV (As := [.int (rd M_34 168 (ix c2))]) (rest := [.int c2, .ref (ga g 168)]) X hP hS (c_X6_keptText l X.2.2 hAll hc_36) (cwV 1 hts gX6_image_X6_keptText rfl rfl rfl (by decide +kernel) ⟨Nat.le_of_ble_eq_true rfl, Nat.le_of_ble_eq_true rfl⟩) (x_recv (C := RX6) (T := TX6) (N := 55) X hP (okc_148 hAll) rfl) rfl hl.1 rfl (Nat.le_of_ble_eq_true rfl) dX6_image_176 ⟨Nat.zero_le _, Nat.zero_le _⟩) hS (fun H locs hP hS => ?_)
    obtain ⟨M_39, hM_40, hm⟩ := bnd_elim hm
    refine x_iast X hP hS (okc_168 hAll) hM_40 hb_25 dX6_image_179 (fun H locs hP hS => ?_)
    obtain ⟨v_41, hv_42, hm⟩ := bnd_elim hm
    refine lv_iinc (v := v_41) (lv' := [(2, .int v_41), (0, .ref (ga g 148))]) hx hb dX6_image_180 hl (k := 1) rfl (by rw [hv_42]; rfl) (by decide) rfl (fun ls hl => ?_)
    refine lv_goto (tgt := 126) hx hb dX6_image_183 (by decide) ?_
    exact kb v_41 M_39 (Option.some.inj hm).symm _ _ _ hP hS (lv_sub hl [1, 0] rfl)

set_option maxHeartbeats 4000000 in
set_option maxRecDepth 100000 in
theorem wl_X6_image_188 (X : CxG g p s m args c cX6_image 3 RX6 wsX6_image) (hAll : okAll g) {fu : Nat} {x : Mem} (kx0 : ∀ (M2 : Mem) , x = M2 → ∀ (H : Heap) (locs : List Loc) (ls : Array Slot), va_P (gD g) vwCl (wlG g M2) H → va_S (AbG g) s.heap H locs → lv_has ls 3 [] → W p l e (headSpec wsX6_image rmX6_image).room s m args below meth c H locs 0 0 Q (F0 m 233 ls [])) {n : Nat} {q0 : Int32 × Mem} (h : lp (b_X6_image_188 fu) n q0 = some x) : ∀ (H : Heap) (locs : List Loc) (ls : Array Slot), va_P (gD g) vwCl (wlG g q0.2) H → va_S (AbG g) s.heap H locs → lv_has ls 3 [(0, .ref (ga g 148)), (2, .int q0.1)] → W p l e (headSpec wsX6_image rmX6_image).room s m args below meth c H locs 0 0 Q (F0 m 188 ls []) := by
  refine lp_elim (P := fun q0 : Int32 × Mem => ∀ (H : Heap) (locs : List Loc) (ls : Array Slot), va_P (gD g) vwCl (wlG g q0.2) H → va_S (AbG g) s.heap H locs → lv_has ls 3 [(0, .ref (ga g 148)), (2, .int q0.1)] → W p l e (headSpec wsX6_image rmX6_image).room s m args below meth c H locs 0 0 Q (F0 m 188 ls [])) (fun q1 o hm hI hX => ?_) n q0 h
  obtain ⟨c2, M⟩ := q1
  have kb : ∀ (d2 : Int32) (M2 : Mem) , o = .inl (d2, M2) → ∀ (H : Heap) (locs : List Loc) (ls : Array Slot), va_P (gD g) vwCl (wlG g M2) H → va_S (AbG g) s.heap H locs → lv_has ls 3 [(0, .ref (ga g 148)), (2, .int d2)] → W p l e (headSpec wsX6_image rmX6_image).room s m args below meth c H locs 0 0 Q (F0 m 188 ls []) := fun d2 M2 e => hI _ e
  have kx0 : ∀ (M2 : Mem) , o = .inr M2 → ∀ (H : Heap) (locs : List Loc) (ls : Array Slot), va_P (gD g) vwCl (wlG g M2) H → va_S (AbG g) s.heap H locs → lv_has ls 3 [] → W p l e (headSpec wsX6_image rmX6_image).room s m args below meth c H locs 0 0 Q (F0 m 233 ls []) := fun M2 e => kx0 M2 (hX _ e).symm
  clear hI hX
  intro H locs ls hP hS hl
  obtain ⟨⟨hx, hb, hml, hown, hts⟩, -, -⟩ := id X
  have hl : lv_has ls 3 [(0, .ref (ga g 148)), (2, .int c2)] := hl
  have hP : va_P (gD g) vwCl (wlG g M) H := hP
  unfold b_X6_image_188 at hm
  replace hm := un2_e hm
  refine lv_iload_n hx hb dX6_image_188 rfl (lv_at hl 1 rfl) ?_
  refine lv_sipush (v := 1600) hx hb dX6_image_189 (by decide) ?_
  refine lv_icmp_ge (tgt := 233) hx hb dX6_image_192 (by decide) (fun h_46 => ?_) (fun h_46 => ?_)
  · rw [if_pos h_46] at hm
    exact kx0 M (Option.some.inj hm).symm _ _ _ hP hS (lv_sub hl [] rfl)
  · rw [if_neg h_46] at hm
    refine lv_aload_n hx hb dX6_image_195 rfl (lv_at hl 0 rfl) ?_
    refine xg_X6_30 X hP hAll uX6_image_X6 mbX6_image_8 dX6_image_196 ?_
    refine lv_iload_n hx hb dX6_image_199 rfl (lv_at hl 1 rfl) ?_
    refine lv_aload_n hx hb dX6_image_200 rfl (lv_at hl 0 rfl) ?_
    refine lv_aload_n hx hb dX6_image_201 rfl (lv_at hl 0 rfl) ?_
    refine xg_X6_30 X hP hAll uX6_image_X6 mbX6_image_8 dX6_image_202 ?_
    refine lv_iload_n hx hb dX6_image_205 rfl (lv_at hl 1 rfl) ?_
    obtain ⟨hb_47, hm⟩ := chk_elim hm
    refine x_iald X hP (okc_169 hAll) hb_47 dX6_image_206 ?_
    obtain ⟨⟨r_49, M_50⟩, hc_48, hm⟩ := bind_elim hm
    replace hm := un2_e hm
    refine x_calli (x_runV (As := [.int (rd M 169 (ix c2))]) (rest := [.int c2, .ref (ga g 169)]) X hP hS (c_X6_keptText l X.2.2 hAll hc_48) (cwV 1 hts gX6_image_X6_keptText rfl rfl rfl (by decide +kernel) ⟨Nat.le_of_ble_eq_true rfl, Nat.le_of_ble_eq_true rfl⟩) (x_recv (C := RX6) (T := TX6) (N := 55) X hP (okc_148 hAll) rfl) rfl hl.1 rfl (Nat.le_of_ble_eq_true rfl) dX6_image_207 ⟨Nat.zero_le _, Nat.zero_le _⟩) hS (fun H locs hP hS => ?_)
    obtain ⟨M_51, hM_52, hm⟩ := bnd_elim hm
    refine x_iast X hP hS (okc_169 hAll) hM_52 hb_47 dX6_image_210 (fun H locs hP hS => ?_)
    refine lv_aload_n hx hb dX6_image_211 rfl (lv_at hl 0 rfl) ?_
    refine xg_X6_31 X hP hAll uX6_image_X6 mbX6_image_9 dX6_image_212 ?_
    refine lv_iload_n hx hb dX6_image_215 rfl (lv_at hl 1 rfl) ?_
    refine lv_aload_n hx hb dX6_image_216 rfl (lv_at hl 0 rfl) ?_
    refine lv_aload_n hx hb dX6_image_217 rfl (lv_at hl 0 rfl) ?_
    refine xg_X6_31 X hP hAll uX6_image_X6 mbX6_image_9 dX6_image_218 ?_
    refine lv_iload_n hx hb dX6_image_221 rfl (lv_at hl 1 rfl) ?_
    refine x_iald X hP (okc_170 hAll) hb_47 dX6_image_222 ?_
    obtain ⟨⟨r_54, M_55⟩, hc_53, hm⟩ := bind_elim hm
    replace hm := un2_e hm
    refine x_calli (x_runV (As := [.int (rd M_51 170 (ix c2))]) (rest := [.int c2, .ref (ga g 170)]) X hP hS (c_X6_keptText l X.2.2 hAll hc_53) (cwV 1 hts gX6_image_X6_keptText rfl rfl rfl (by decide +kernel) ⟨Nat.le_of_ble_eq_true rfl, Nat.le_of_ble_eq_true rfl⟩) (x_recv (C := RX6) (T := TX6) (N := 55) X hP (okc_148 hAll) rfl) rfl hl.1 rfl (Nat.le_of_ble_eq_true rfl) dX6_image_223 ⟨Nat.zero_le _, Nat.zero_le _⟩) hS (fun H locs hP hS => ?_)
    obtain ⟨M_56, hM_57, hm⟩ := bnd_elim hm
    refine x_iast X hP hS (okc_170 hAll) hM_57 hb_47 dX6_image_226 (fun H locs hP hS => ?_)
    obtain ⟨v_58, hv_59, hm⟩ := bnd_elim hm
    refine lv_iinc (v := v_58) (lv' := [(2, .int v_58), (0, .ref (ga g 148))]) hx hb dX6_image_227 hl (k := 1) rfl (by rw [hv_59]; rfl) (by decide) rfl (fun ls hl => ?_)
    refine lv_goto (tgt := 188) hx hb dX6_image_230 (by decide) ?_
    exact kb v_58 M_56 (Option.some.inj hm).symm _ _ _ hP hS (lv_sub hl [1, 0] rfl)

set_option maxHeartbeats 4000000 in
set_option maxRecDepth 100000 in
theorem wj_X6_image_90 (X : CxG g p s m args c cX6_image 3 RX6 wsX6_image) (hAll : okAll g) {fu : Nat} {M : Mem} {rr : Int32} {MM : Mem} (hr : meth.sig.returnType = (some .boolean)) (hlocks : meth.locks = false) (hm : j_X6_image_90 fu M = some (rr, MM)) {H : Heap} {locs : List Loc} {ls : Array Slot} (hP : va_P (gD g) vwCl (wlG g M) H) (hS : va_S (AbG g) s.heap H locs) (hl : lv_has ls 3 [(0, .ref (ga g 148))]) : W p l e (headSpec wsX6_image rmX6_image).room s m args below meth c H locs 0 0 (MQ below (va_Qi (fun (q : Int32) (_ : Unit) => q = rr) (fun _ t => va_P (gD g) vwCl (wlG g MM) t.heap) (AbG g)) args s 0 0 (AbG g)) (F0 m 90 ls []) := by
  obtain ⟨⟨hx, hb, hml, hown, hts⟩, -, -⟩ := id X
  unfold j_X6_image_90 at hm
  refine lv_aload_n hx hb dX6_image_90 rfl (lv_at hl 0 rfl) ?_
  refine lv_iconst (v := 0) hx hb dX6_image_91 (by decide) ?_
  obtain ⟨M_10, hM_11, hm⟩ := bnd_elim hm
  refine xp_X6_54 X hP hAll uX6_image_X6 mbX6_image_3 hS hM_11 dX6_image_92 (fun H locs hP hS => ?_)
  refine lv_iconst (v := 0) hx hb dX6_image_95 (by decide) ?_
  refine lv_istore_n (lv' := [(2, .int 0), (0, .ref (ga g 148))]) hx hb dX6_image_96 rfl hl (by decide) rfl (fun ls hl => ?_)
  obtain ⟨M_23, hL_22, hm⟩ := bind_elim hm
  refine wl_X6_image_97 X hAll ?_ hL_22 _ _ _ hP hS (lv_sub hl [1, 0] rfl)
  · intro z_M_23 e_M_23 H locs ls hP hS hl
    subst e_M_23
    replace hm := un1_e hm
    refine lv_iconst (v := 0) hx hb dX6_image_124 (by decide) ?_
    refine lv_istore_n (lv' := [(2, .int 0), (0, .ref (ga g 148))]) hx hb dX6_image_125 rfl hl (by decide) rfl (fun ls hl => ?_)
    obtain ⟨M_45, hL_44, hm⟩ := bind_elim hm
    refine wl_X6_image_126 X hAll ?_ hL_44 _ _ _ hP hS (lv_sub hl [1, 0] rfl)
    · intro z_M_45 e_M_45 H locs ls hP hS hl
      subst e_M_45
      replace hm := un1_e hm
      refine lv_iconst (v := 0) hx hb dX6_image_186 (by decide) ?_
      refine lv_istore_n (lv' := [(2, .int 0), (0, .ref (ga g 148))]) hx hb dX6_image_187 rfl hl (by decide) rfl (fun ls hl => ?_)
      obtain ⟨M_62, hL_61, hm⟩ := bind_elim hm
      refine wl_X6_image_188 X hAll ?_ hL_61 _ _ _ hP hS (lv_sub hl [1, 0] rfl)
      · intro z_M_62 e_M_62 H locs ls hP hS hl
        subst e_M_62
        replace hm := un1_e hm
        refine lv_iconst (v := 1) hx hb dX6_image_233 (by decide) ?_
        cases hm
        exact x_zret X (by decide) hP hS hr hlocks dX6_image_234

set_option maxHeartbeats 4000000 in
set_option maxRecDepth 100000 in
theorem wl_X6_image_65 (X : CxG g p s m args c cX6_image 3 RX6 wsX6_image) (hAll : okAll g) {fu : Nat} {x : Mem} (kx0 : ∀ (M2 : Mem) , x = M2 → ∀ (H : Heap) (locs : List Loc) (ls : Array Slot), va_P (gD g) vwCl (wlG g M2) H → va_S (AbG g) s.heap H locs → lv_has ls 3 [(0, .ref (ga g 148))] → W p l e (headSpec wsX6_image rmX6_image).room s m args below meth c H locs 0 0 Q (F0 m 90 ls [])) {n : Nat} {q0 : Int32 × Mem} (h : lp (b_X6_image_65 fu) n q0 = some x) : ∀ (H : Heap) (locs : List Loc) (ls : Array Slot), va_P (gD g) vwCl (wlG g q0.2) H → va_S (AbG g) s.heap H locs → lv_has ls 3 [(0, .ref (ga g 148)), (2, .int q0.1)] → W p l e (headSpec wsX6_image rmX6_image).room s m args below meth c H locs 0 0 Q (F0 m 65 ls []) := by
  refine lp_elim (P := fun q0 : Int32 × Mem => ∀ (H : Heap) (locs : List Loc) (ls : Array Slot), va_P (gD g) vwCl (wlG g q0.2) H → va_S (AbG g) s.heap H locs → lv_has ls 3 [(0, .ref (ga g 148)), (2, .int q0.1)] → W p l e (headSpec wsX6_image rmX6_image).room s m args below meth c H locs 0 0 Q (F0 m 65 ls [])) (fun q1 o hm hI hX => ?_) n q0 h
  obtain ⟨c2, M⟩ := q1
  have kb : ∀ (d2 : Int32) (M2 : Mem) , o = .inl (d2, M2) → ∀ (H : Heap) (locs : List Loc) (ls : Array Slot), va_P (gD g) vwCl (wlG g M2) H → va_S (AbG g) s.heap H locs → lv_has ls 3 [(0, .ref (ga g 148)), (2, .int d2)] → W p l e (headSpec wsX6_image rmX6_image).room s m args below meth c H locs 0 0 Q (F0 m 65 ls []) := fun d2 M2 e => hI _ e
  have kx0 : ∀ (M2 : Mem) , o = .inr M2 → ∀ (H : Heap) (locs : List Loc) (ls : Array Slot), va_P (gD g) vwCl (wlG g M2) H → va_S (AbG g) s.heap H locs → lv_has ls 3 [(0, .ref (ga g 148))] → W p l e (headSpec wsX6_image rmX6_image).room s m args below meth c H locs 0 0 Q (F0 m 90 ls []) := fun M2 e => kx0 M2 (hX _ e).symm
  clear hI hX
  intro H locs ls hP hS hl
  obtain ⟨⟨hx, hb, hml, hown, hts⟩, -, -⟩ := id X
  have hl : lv_has ls 3 [(0, .ref (ga g 148)), (2, .int c2)] := hl
  have hP : va_P (gD g) vwCl (wlG g M) H := hP
  unfold b_X6_image_65 at hm
  replace hm := un2_e hm
  refine lv_iload_n hx hb dX6_image_65 rfl (lv_at hl 1 rfl) ?_
  refine lv_sipush (v := 160) hx hb dX6_image_66 (by decide) ?_
  refine lv_icmp_ge (tgt := 90) hx hb dX6_image_69 (by decide) (fun h_63 => ?_) (fun h_63 => ?_)
  · rw [if_pos h_63] at hm
    exact kx0 M (Option.some.inj hm).symm _ _ _ hP hS (lv_sub hl [0] rfl)
  · rw [if_neg h_63] at hm
    refine lv_aload_n hx hb dX6_image_72 rfl (lv_at hl 0 rfl) ?_
    refine xg_X6_52 X hP hAll uX6_image_X6 mbX6_image_10 dX6_image_73 ?_
    refine lv_iload_n hx hb dX6_image_76 rfl (lv_at hl 1 rfl) ?_
    refine lv_aload_n hx hb dX6_image_77 rfl (lv_at hl 0 rfl) ?_
    refine xg_X6_50 X hP hAll uX6_image_X6 mbX6_image_11 dX6_image_78 ?_
    refine lv_iload_n hx hb dX6_image_81 rfl (lv_at hl 1 rfl) ?_
    obtain ⟨hb_64, hm⟩ := chk_elim hm
    refine x_iald X hP (okc_180 hAll) hb_64 dX6_image_82 ?_
    obtain ⟨M_65, hM_66, hm⟩ := bnd_elim hm
    refine x_iast X hP hS (okc_181 hAll) hM_66 hb_64 dX6_image_83 (fun H locs hP hS => ?_)
    obtain ⟨v_67, hv_68, hm⟩ := bnd_elim hm
    refine lv_iinc (v := v_67) (lv' := [(2, .int v_67), (0, .ref (ga g 148))]) hx hb dX6_image_84 hl (k := 1) rfl (by rw [hv_68]; rfl) (by decide) rfl (fun ls hl => ?_)
    refine lv_goto (tgt := 65) hx hb dX6_image_87 (by decide) ?_
    exact kb v_67 M_65 (Option.some.inj hm).symm _ _ _ hP hS (lv_sub hl [1, 0] rfl)

set_option maxHeartbeats 4000000 in
set_option maxRecDepth 100000 in
theorem wj_X6_image_54 (X : CxG g p s m args c cX6_image 3 RX6 wsX6_image) (hAll : okAll g) {fu : Nat} {M : Mem} {s1 : Int32} {rr : Int32} {MM : Mem} (hr : meth.sig.returnType = (some .boolean)) (hlocks : meth.locks = false) (hm : j_X6_image_54 fu M s1 = some (rr, MM)) {H : Heap} {locs : List Loc} {ls : Array Slot} (hP : va_P (gD g) vwCl (wlG g M) H) (hS : va_S (AbG g) s.heap H locs) (hl : lv_has ls 3 [(0, .ref (ga g 148)), (1, .int s1)]) : W p l e (headSpec wsX6_image rmX6_image).room s m args below meth c H locs 0 0 (MQ below (va_Qi (fun (q : Int32) (_ : Unit) => q = rr) (fun _ t => va_P (gD g) vwCl (wlG g MM) t.heap) (AbG g)) args s 0 0 (AbG g)) (F0 m 54 ls []) := by
  obtain ⟨⟨hx, hb, hml, hown, hts⟩, -, -⟩ := id X
  unfold j_X6_image_54 at hm
  refine lv_aload_n hx hb dX6_image_54 rfl (lv_at hl 0 rfl) ?_
  refine lv_iload_n hx hb dX6_image_55 rfl (lv_at hl 1 rfl) ?_
  obtain ⟨M_8, hc_7, hm⟩ := bind_elim hm
  refine x_callv (x_runV (As := [.int s1]) (rest := []) X hP hS (c_X6_asides l X.2.2 hAll hc_7) (cwV 1 hts gX6_image_X6_asides rfl rfl rfl (by decide +kernel) ⟨Nat.le_of_ble_eq_true rfl, Nat.le_of_ble_eq_true rfl⟩) (x_recv (C := RX6) (T := TX6) (N := 55) X hP (okc_148 hAll) rfl) rfl hl.1 rfl (Nat.le_of_ble_eq_true rfl) dX6_image_56 ⟨Nat.zero_le _, Nat.zero_le _⟩) hS (fun H locs hP hS => ?_)
  refine lv_iload_n hx hb dX6_image_59 rfl (lv_at hl 1 rfl) ?_
  refine lv_if_eq (tgt := 90) hx hb dX6_image_60 (by decide) (fun h_9 => ?_) (fun h_9 => ?_)
  · rw [if_pos h_9] at hm
    exact wj_X6_image_90 X hAll hr hlocks hm hP hS (lv_sub hl [0] rfl)
  · rw [if_neg h_9] at hm
    refine lv_iconst (v := 0) hx hb dX6_image_63 (by decide) ?_
    refine lv_istore_n (lv' := [(2, .int 0), (0, .ref (ga g 148)), (1, .int s1)]) hx hb dX6_image_64 rfl hl (by decide) rfl (fun ls hl => ?_)
    obtain ⟨M_71, hL_70, hm⟩ := bind_elim hm
    refine wl_X6_image_65 X hAll ?_ hL_70 _ _ _ hP hS (lv_sub hl [1, 0] rfl)
    · intro z_M_71 e_M_71 H locs ls hP hS hl
      subst e_M_71
      replace hm := un1_e hm
      exact wj_X6_image_90 X hAll hr hlocks hm hP hS (lv_sub hl [0] rfl)

set_option maxHeartbeats 4000000 in
set_option maxRecDepth 100000 in
theorem wl_X6_image_29 (X : CxG g p s m args c cX6_image 3 RX6 wsX6_image) (hAll : okAll g) {fu : Nat} {s1 : Int32} {x : Mem} (kx0 : ∀ (M2 : Mem) , x = M2 → ∀ (H : Heap) (locs : List Loc) (ls : Array Slot), va_P (gD g) vwCl (wlG g M2) H → va_S (AbG g) s.heap H locs → lv_has ls 3 [(0, .ref (ga g 148)), (1, .int s1)] → W p l e (headSpec wsX6_image rmX6_image).room s m args below meth c H locs 0 0 Q (F0 m 54 ls [])) {n : Nat} {q0 : Int32 × Mem} (h : lp (b_X6_image_29 fu s1) n q0 = some x) : ∀ (H : Heap) (locs : List Loc) (ls : Array Slot), va_P (gD g) vwCl (wlG g q0.2) H → va_S (AbG g) s.heap H locs → lv_has ls 3 [(0, .ref (ga g 148)), (1, .int s1), (2, .int q0.1)] → W p l e (headSpec wsX6_image rmX6_image).room s m args below meth c H locs 0 0 Q (F0 m 29 ls []) := by
  refine lp_elim (P := fun q0 : Int32 × Mem => ∀ (H : Heap) (locs : List Loc) (ls : Array Slot), va_P (gD g) vwCl (wlG g q0.2) H → va_S (AbG g) s.heap H locs → lv_has ls 3 [(0, .ref (ga g 148)), (1, .int s1), (2, .int q0.1)] → W p l e (headSpec wsX6_image rmX6_image).room s m args below meth c H locs 0 0 Q (F0 m 29 ls [])) (fun q1 o hm hI hX => ?_) n q0 h
  obtain ⟨c2, M⟩ := q1
  have kb : ∀ (d2 : Int32) (M2 : Mem) , o = .inl (d2, M2) → ∀ (H : Heap) (locs : List Loc) (ls : Array Slot), va_P (gD g) vwCl (wlG g M2) H → va_S (AbG g) s.heap H locs → lv_has ls 3 [(0, .ref (ga g 148)), (1, .int s1), (2, .int d2)] → W p l e (headSpec wsX6_image rmX6_image).room s m args below meth c H locs 0 0 Q (F0 m 29 ls []) := fun d2 M2 e => hI _ e
  have kx0 : ∀ (M2 : Mem) , o = .inr M2 → ∀ (H : Heap) (locs : List Loc) (ls : Array Slot), va_P (gD g) vwCl (wlG g M2) H → va_S (AbG g) s.heap H locs → lv_has ls 3 [(0, .ref (ga g 148)), (1, .int s1)] → W p l e (headSpec wsX6_image rmX6_image).room s m args below meth c H locs 0 0 Q (F0 m 54 ls []) := fun M2 e => kx0 M2 (hX _ e).symm
  clear hI hX
  intro H locs ls hP hS hl
  obtain ⟨⟨hx, hb, hml, hown, hts⟩, -, -⟩ := id X
  have hl : lv_has ls 3 [(0, .ref (ga g 148)), (1, .int s1), (2, .int c2)] := hl
  have hP : va_P (gD g) vwCl (wlG g M) H := hP
  unfold b_X6_image_29 at hm
  replace hm := un2_e hm
  refine lv_iload_n hx hb dX6_image_29 rfl (lv_at hl 2 rfl) ?_
  refine lv_sipush (v := 160) hx hb dX6_image_30 (by decide) ?_
  refine lv_icmp_ge (tgt := 54) hx hb dX6_image_33 (by decide) (fun h_72 => ?_) (fun h_72 => ?_)
  · rw [if_pos h_72] at hm
    exact kx0 M (Option.some.inj hm).symm _ _ _ hP hS (lv_sub hl [0, 1] rfl)
  · rw [if_neg h_72] at hm
    refine lv_aload_n hx hb dX6_image_36 rfl (lv_at hl 0 rfl) ?_
    refine xg_X6_50 X hP hAll uX6_image_X6 mbX6_image_11 dX6_image_37 ?_
    refine lv_iload_n hx hb dX6_image_40 rfl (lv_at hl 2 rfl) ?_
    refine lv_aload_n hx hb dX6_image_41 rfl (lv_at hl 0 rfl) ?_
    refine xg_X6_52 X hP hAll uX6_image_X6 mbX6_image_10 dX6_image_42 ?_
    refine lv_iload_n hx hb dX6_image_45 rfl (lv_at hl 2 rfl) ?_
    obtain ⟨hb_73, hm⟩ := chk_elim hm
    refine x_iald X hP (okc_181 hAll) hb_73 dX6_image_46 ?_
    obtain ⟨M_74, hM_75, hm⟩ := bnd_elim hm
    refine x_iast X hP hS (okc_180 hAll) hM_75 hb_73 dX6_image_47 (fun H locs hP hS => ?_)
    obtain ⟨v_76, hv_77, hm⟩ := bnd_elim hm
    refine lv_iinc (v := v_76) (lv' := [(2, .int v_76), (0, .ref (ga g 148)), (1, .int s1)]) hx hb dX6_image_48 hl (k := 2) rfl (by rw [hv_77]; rfl) (by decide) rfl (fun ls hl => ?_)
    refine lv_goto (tgt := 29) hx hb dX6_image_51 (by decide) ?_
    exact kb v_76 M_74 (Option.some.inj hm).symm _ _ _ hP hS (lv_sub hl [1, 2, 0] rfl)

set_option maxHeartbeats 4000000 in
set_option maxRecDepth 100000 in
theorem wj_X6_image_18 (X : CxG g p s m args c cX6_image 3 RX6 wsX6_image) (hAll : okAll g) {fu : Nat} {M : Mem} {s1 : Int32} {rr : Int32} {MM : Mem} (hr : meth.sig.returnType = (some .boolean)) (hlocks : meth.locks = false) (hm : j_X6_image_18 fu M s1 = some (rr, MM)) {H : Heap} {locs : List Loc} {ls : Array Slot} (hP : va_P (gD g) vwCl (wlG g M) H) (hS : va_S (AbG g) s.heap H locs) (hl : lv_has ls 3 [(0, .ref (ga g 148)), (1, .int s1)]) : W p l e (headSpec wsX6_image rmX6_image).room s m args below meth c H locs 0 0 (MQ below (va_Qi (fun (q : Int32) (_ : Unit) => q = rr) (fun _ t => va_P (gD g) vwCl (wlG g MM) t.heap) (AbG g)) args s 0 0 (AbG g)) (F0 m 18 ls []) := by
  obtain ⟨⟨hx, hb, hml, hown, hts⟩, -, -⟩ := id X
  unfold j_X6_image_18 at hm
  refine lv_aload_n hx hb dX6_image_18 rfl (lv_at hl 0 rfl) ?_
  refine lv_iconst (v := 1) hx hb dX6_image_19 (by decide) ?_
  obtain ⟨M_4, hM_5, hm⟩ := bnd_elim hm
  refine xp_X6_51 X hP hAll uX6_image_X6 mbX6_image_2 hS hM_5 (by decide) dX6_image_20 (fun H locs hP hS => ?_)
  refine lv_iload_n hx hb dX6_image_23 rfl (lv_at hl 1 rfl) ?_
  refine lv_if_ne (tgt := 54) hx hb dX6_image_24 (by decide) (fun h_6 => ?_) (fun h_6 => ?_)
  · rw [if_neg h_6] at hm
    exact wj_X6_image_54 X hAll hr hlocks hm hP hS (lv_sub hl [0, 1] rfl)
  · rw [if_pos h_6] at hm
    refine lv_iconst (v := 0) hx hb dX6_image_27 (by decide) ?_
    refine lv_istore_n (lv' := [(2, .int 0), (0, .ref (ga g 148)), (1, .int s1)]) hx hb dX6_image_28 rfl hl (by decide) rfl (fun ls hl => ?_)
    obtain ⟨M_80, hL_79, hm⟩ := bind_elim hm
    refine wl_X6_image_29 X hAll ?_ hL_79 _ _ _ hP hS (lv_sub hl [1, 2, 0] rfl)
    · intro z_M_80 e_M_80 H locs ls hP hS hl
      subst e_M_80
      replace hm := un1_e hm
      exact wj_X6_image_54 X hAll hr hlocks hm hP hS (lv_sub hl [0, 1] rfl)

set_option maxHeartbeats 4000000 in
set_option maxRecDepth 100000 in
theorem c_X6_image (l : Launch) {g : GT} (hA : AxG g) (hAll : okAll g)   {fu : Nat} {M : Mem} {a1 : Int32} {rr : Int32} {MM : Mem} (hm : m_X6_image fu M a1 = some (rr, MM)) : CI l yX6_image wsX6_image rmX6_image g [.ref (ga g 148), .int a1] M rr MM := by
  refine Met.ofW (cc := cX6_image) (maxL := 3) (ret := (some .boolean)) (by decide) rfl ?_
  intro p e s m args below meth c s₁ B hml hv
  obtain ⟨rfl, hSx, hP⟩ := hv
  have hr := B.returns
  have hlocks := B.notSynchronized
  have X : CxG g p s m _ c cX6_image 3 RX6 wsX6_image := ⟨⟨B.exec, B.bytes, hml, findClass_of_methodNamed B.named, atoms_spec (ws := wsX6_image) B.pre⟩, hSx, hA⟩
  have hS : va_S (AbG g) s.heap s.heap [] := va_S.rf
  have hl := lv_entry (([.ref (ga g 148), .int a1] : List Value)) (n := 3) (Nat.le_of_ble_eq_true rfl)
  rw [lg_entry_eq]
  generalize (lg_sl (([.ref (ga g 148), .int a1] : List Value)) ++ List.replicate (3 - (lg_sl (([.ref (ga g 148), .int a1] : List Value))).length) Slot.unset).toArray = ls at hl ⊢
  have hl : lv_has ls 3 [(0, .ref (ga g 148)), (1, .int a1)] := hl
  obtain ⟨⟨hx, hb, hml, hown, hts⟩, -, -⟩ := id X
  unfold m_X6_image at hm
  refine lv_aload_n hx hb dX6_image_0 rfl (lv_at hl 0 rfl) ?_
  refine lv_iconst (v := 0) hx hb dX6_image_1 (by decide) ?_
  obtain ⟨M_1, hM_2, hm⟩ := bnd_elim hm
  refine xp_X6_0 X hP hAll uX6_image_X6 mbX6_image_1 hS hM_2 dX6_image_2 (fun H locs hP hS => ?_)
  refine lv_iload_n hx hb dX6_image_5 rfl (lv_at hl 1 rfl) ?_
  refine lv_if_ne (tgt := 18) hx hb dX6_image_6 (by decide) (fun h_3 => ?_) (fun h_3 => ?_)
  · rw [if_neg h_3] at hm
    exact wj_X6_image_18 X hAll hr hlocks hm hP hS (lv_sub hl [0, 1] rfl)
  · rw [if_pos h_3] at hm
    refine lv_aload_n hx hb dX6_image_9 rfl (lv_at hl 0 rfl) ?_
    refine xg_X6_51 X hP hAll uX6_image_X6 mbX6_image_2 dX6_image_10 ?_
    refine lv_if_ne (tgt := 18) hx hb dX6_image_13 (by decide) (fun h_81 => ?_) (fun h_81 => ?_)
    · rw [if_neg h_81] at hm
      exact wj_X6_image_18 X hAll hr hlocks hm hP hS (lv_sub hl [0, 1] rfl)
    · rw [if_pos h_81] at hm
      refine lv_iconst (v := 0) hx hb dX6_image_16 (by decide) ?_
      cases hm
      exact x_zret X (by decide) hP hS hr hlocks dX6_image_17


/-! X6_look -/
def rmX6_look : Room := { frames := 1, cells := 0, slots := 0, locals := 23 }
theorem uX6_look_X6 : ∀ w ∈ wsX60, w ∈ wsX6_look := by decide +kernel
theorem mbX6_look_1 : Cond.fieldLink RX6 121 "FootANightModel" "told" "I" ∈ wsX6_look := by decide +kernel
theorem mbX6_look_2 : Cond.fieldLink RX6 7 "FootANightModel" "n" "I" ∈ wsX6_look := by decide +kernel
theorem mbX6_look_3 : Cond.fieldLink RX6 13 "FootANightModel" "wide" "[I" ∈ wsX6_look := by decide +kernel
theorem mbX6_look_4 : Cond.fieldLink RX6 53 "FootANightModel" "settings" "[I" ∈ wsX6_look := by decide +kernel
theorem mbX6_look_5 : Cond.fieldLink RX6 263 "FootANightModel" "moved" "I" ∈ wsX6_look := by decide +kernel
theorem mbX6_look_6 : Cond.fieldLink RX6 251 "FootANightModel" "night" "I" ∈ wsX6_look := by decide +kernel
set_option maxHeartbeats 4000000 in
set_option maxRecDepth 100000 in
theorem wl_X6_look_77 (X : CxG g p s m args c cX6_look 4 RX6 wsX6_look) (hAll : okAll g) {fu : Nat} {M : Mem} {x : Int32} (kx0 : ∀ (d2 : Int32) , x = d2 → ∀ (H : Heap) (locs : List Loc) (ls : Array Slot), va_P (gD g) vwCl (wlG g M) H → va_S (AbG g) s.heap H locs → lv_has ls 4 [(2, .int d2)] → W p l e (headSpec wsX6_look rmX6_look).room s m args below meth c H locs 0 0 Q (F0 m 100 ls [])) {n : Nat} {q0 : Int32 × Int32} (h : lp (b_X6_look_77 fu M) n q0 = some x) : ∀ (H : Heap) (locs : List Loc) (ls : Array Slot), va_P (gD g) vwCl (wlG g M) H → va_S (AbG g) s.heap H locs → lv_has ls 4 [(0, .ref (ga g 148)), (2, .int q0.1), (3, .int q0.2)] → W p l e (headSpec wsX6_look rmX6_look).room s m args below meth c H locs 0 0 Q (F0 m 77 ls []) := by
  refine lp_elim (P := fun q0 : Int32 × Int32 => ∀ (H : Heap) (locs : List Loc) (ls : Array Slot), va_P (gD g) vwCl (wlG g M) H → va_S (AbG g) s.heap H locs → lv_has ls 4 [(0, .ref (ga g 148)), (2, .int q0.1), (3, .int q0.2)] → W p l e (headSpec wsX6_look rmX6_look).room s m args below meth c H locs 0 0 Q (F0 m 77 ls [])) (fun q1 o hm hI hX => ?_) n q0 h
  obtain ⟨c2, c3⟩ := q1
  have kb : ∀ (d2 : Int32) (d3 : Int32) , o = .inl (d2, d3) → ∀ (H : Heap) (locs : List Loc) (ls : Array Slot), va_P (gD g) vwCl (wlG g M) H → va_S (AbG g) s.heap H locs → lv_has ls 4 [(0, .ref (ga g 148)), (2, .int d2), (3, .int d3)] → W p l e (headSpec wsX6_look rmX6_look).room s m args below meth c H locs 0 0 Q (F0 m 77 ls []) := fun d2 d3 e => hI _ e
  have kx0 : ∀ (d2 : Int32) , o = .inr d2 → ∀ (H : Heap) (locs : List Loc) (ls : Array Slot), va_P (gD g) vwCl (wlG g M) H → va_S (AbG g) s.heap H locs → lv_has ls 4 [(2, .int d2)] → W p l e (headSpec wsX6_look rmX6_look).room s m args below meth c H locs 0 0 Q (F0 m 100 ls []) := fun d2 e => kx0 d2 (hX _ e).symm
  clear hI hX
  intro H locs ls hP hS hl
  obtain ⟨⟨hx, hb, hml, hown, hts⟩, -, -⟩ := id X
  have hl : lv_has ls 4 [(0, .ref (ga g 148)), (2, .int c2), (3, .int c3)] := hl
  have hP : va_P (gD g) vwCl (wlG g M) H := hP
  unfold b_X6_look_77 at hm
  replace hm := un2_e hm
  refine lv_iload_n hx hb dX6_look_77 rfl (lv_at hl 2 rfl) ?_
  refine lv_aload_n hx hb dX6_look_78 rfl (lv_at hl 0 rfl) ?_
  refine xg_X6_2 X hP hAll uX6_look_X6 mbX6_look_2 dX6_look_79 ?_
  refine lv_icmp_ge (tgt := 100) hx hb dX6_look_82 (by decide) (fun h_11 => ?_) (fun h_11 => ?_)
  · rw [if_pos h_11] at hm
    exact kx0 c2 (Option.some.inj hm).symm _ _ _ hP hS (lv_sub hl [1] rfl)
  · rw [if_neg h_11] at hm
    refine lv_iload_n hx hb dX6_look_85 rfl (lv_at hl 1 rfl) ?_
    refine lv_aload_n hx hb dX6_look_86 rfl (lv_at hl 0 rfl) ?_
    refine xg_X6_5 X hP hAll uX6_look_X6 mbX6_look_3 dX6_look_87 ?_
    refine lv_iload_n hx hb dX6_look_90 rfl (lv_at hl 2 rfl) ?_
    obtain ⟨hb_12, hm⟩ := chk_elim hm
    refine x_iald X hP (okc_149 hAll) hb_12 dX6_look_91 ?_
    refine lv_iadd hx hb dX6_look_92 ?_
    obtain ⟨v_13, hv_14, hm⟩ := bnd_elim hm
    refine x_name hv_14 ?_
    refine lv_istore_n (lv' := [(2, .int v_13), (0, .ref (ga g 148)), (3, .int c3)]) hx hb dX6_look_93 rfl hl (by decide) rfl (fun ls hl => ?_)
    obtain ⟨v_15, hv_16, hm⟩ := bnd_elim hm
    refine lv_iinc (v := v_15) (lv' := [(3, .int v_15), (2, .int v_13), (0, .ref (ga g 148))]) hx hb dX6_look_94 hl (k := 2) rfl (by rw [hv_16]; rfl) (by decide) rfl (fun ls hl => ?_)
    refine lv_goto (tgt := 77) hx hb dX6_look_97 (by decide) ?_
    exact kb v_13 v_15 (Option.some.inj hm).symm _ _ _ hP hS (lv_sub hl [2, 1, 0] rfl)

set_option maxHeartbeats 4000000 in
set_option maxRecDepth 100000 in
theorem c_X6_look (l : Launch) {g : GT} (hA : AxG g) (hAll : okAll g)   {fu : Nat} {M : Mem} {a1 : Int32} {rr : Int32} {MM : Mem} (hm : m_X6_look fu M a1 = some (rr, MM)) : CI l yX6_look wsX6_look rmX6_look g [.ref (ga g 148), .int a1] M rr MM := by
  refine Met.ofW (cc := cX6_look) (maxL := 4) (ret := (some .int)) (by decide) rfl ?_
  intro p e s m args below meth c s₁ B hml hv
  obtain ⟨rfl, hSx, hP⟩ := hv
  have hr := B.returns
  have hlocks := B.notSynchronized
  have X : CxG g p s m _ c cX6_look 4 RX6 wsX6_look := ⟨⟨B.exec, B.bytes, hml, findClass_of_methodNamed B.named, atoms_spec (ws := wsX6_look) B.pre⟩, hSx, hA⟩
  have hS : va_S (AbG g) s.heap s.heap [] := va_S.rf
  have hl := lv_entry (([.ref (ga g 148), .int a1] : List Value)) (n := 4) (Nat.le_of_ble_eq_true rfl)
  rw [lg_entry_eq]
  generalize (lg_sl (([.ref (ga g 148), .int a1] : List Value)) ++ List.replicate (4 - (lg_sl (([.ref (ga g 148), .int a1] : List Value))).length) Slot.unset).toArray = ls at hl ⊢
  have hl : lv_has ls 4 [(0, .ref (ga g 148)), (1, .int a1)] := hl
  obtain ⟨⟨hx, hb, hml, hown, hts⟩, -, -⟩ := id X
  unfold m_X6_look at hm
  refine lv_aload_n hx hb dX6_look_0 rfl (lv_at hl 0 rfl) ?_
  refine lv_iconst (v := 0) hx hb dX6_look_1 (by decide) ?_
  obtain ⟨M_1, hM_2, hm⟩ := bnd_elim hm
  refine xp_X6_0 X hP hAll uX6_look_X6 mbX6_look_1 hS hM_2 dX6_look_2 (fun H locs hP hS => ?_)
  refine lv_iload_n hx hb dX6_look_5 rfl (lv_at hl 1 rfl) ?_
  refine lv_if_ne (tgt := 14) hx hb dX6_look_6 (by decide) (fun h_3 => ?_) (fun h_3 => ?_)
  · rw [if_neg h_3] at hm
    refine lv_iload_n hx hb dX6_look_14 rfl (lv_at hl 1 rfl) ?_
    refine lv_iconst (v := 1) hx hb dX6_look_15 (by decide) ?_
    refine lv_icmp_ne (tgt := 24) hx hb dX6_look_16 (by decide) (fun h_4 => ?_) (fun h_4 => ?_)
    · rw [if_neg h_4] at hm
      refine lv_iload_n hx hb dX6_look_24 rfl (lv_at hl 1 rfl) ?_
      refine lv_iconst (v := 2) hx hb dX6_look_25 (by decide) ?_
      refine lv_icmp_ne (tgt := 34) hx hb dX6_look_26 (by decide) (fun h_5 => ?_) (fun h_5 => ?_)
      · rw [if_neg h_5] at hm
        refine lv_iload_n hx hb dX6_look_34 rfl (lv_at hl 1 rfl) ?_
        refine lv_iconst (v := 4) hx hb dX6_look_35 (by decide) ?_
        refine lv_icmp_ne (tgt := 44) hx hb dX6_look_36 (by decide) (fun h_6 => ?_) (fun h_6 => ?_)
        · rw [if_neg h_6] at hm
          refine lv_aload_n hx hb dX6_look_44 rfl (lv_at hl 0 rfl) ?_
          refine lv_iload_n hx hb dX6_look_45 rfl (lv_at hl 1 rfl) ?_
          refine lv_bipush (v := 10) hx hb dX6_look_46 (by decide) ?_
          refine lv_bipush (v := 19) hx hb dX6_look_48 (by decide) ?_
          obtain ⟨r_8, hc_7, hm⟩ := bind_elim hm
          refine x_calli (x_runV (As := [.int a1, .int 10, .int 19]) (rest := []) X hP hS (c_X6_isIn l X.2.2 hc_7) (cwV 3 hts gX6_look_X6_isIn rfl rfl rfl (by decide +kernel) ⟨Nat.le_of_ble_eq_true rfl, Nat.le_of_ble_eq_true rfl⟩) (x_recv (C := RX6) (T := TX6) (N := 55) X hP (okc_148 hAll) rfl) rfl hl.1 rfl (Nat.le_of_ble_eq_true rfl) dX6_look_50 ⟨Nat.zero_le _, Nat.zero_le _⟩) hS (fun H locs hP hS => ?_)
          refine lv_if_eq (tgt := 66) hx hb dX6_look_53 (by decide) (fun h_9 => ?_) (fun h_9 => ?_)
          · rw [if_pos h_9] at hm
            refine lv_iload_n hx hb dX6_look_66 rfl (lv_at hl 1 rfl) ?_
            refine lv_iconst (v := 3) hx hb dX6_look_67 (by decide) ?_
            refine lv_icmp_eq (tgt := 73) hx hb dX6_look_68 (by decide) (fun h_10 => ?_) (fun h_10 => ?_)
            · rw [if_pos h_10] at hm
              refine lv_iconst (v := 0) hx hb dX6_look_73 (by decide) ?_
              refine lv_istore_n (lv' := [(2, .int 0), (0, .ref (ga g 148)), (1, .int a1)]) hx hb dX6_look_74 rfl hl (by decide) rfl (fun ls hl => ?_)
              refine lv_iconst (v := 0) hx hb dX6_look_75 (by decide) ?_
              refine lv_istore_n (lv' := [(3, .int 0), (2, .int 0), (0, .ref (ga g 148)), (1, .int a1)]) hx hb dX6_look_76 rfl hl (by decide) rfl (fun ls hl => ?_)
              obtain ⟨v_19, hL_18, hm⟩ := bind_elim hm
              refine wl_X6_look_77 X hAll ?_ hL_18 _ _ _ hP hS (lv_sub hl [2, 1, 0] rfl)
              · intro z_v_19 e_v_19 H locs ls hP hS hl
                subst e_v_19
                replace hm := un1_e hm
                refine lv_iload_n hx hb dX6_look_100 rfl (lv_at hl 0 rfl) ?_
                cases hm
                exact x_iret X hP hS hr hlocks dX6_look_101
            · rw [if_neg h_10] at hm
              refine lv_iconst (v := (-1)) hx hb dX6_look_71 (by decide) ?_
              cases hm
              exact x_iret X hP hS hr hlocks dX6_look_72
          · rw [if_neg h_9] at hm
            refine lv_aload_n hx hb dX6_look_56 rfl (lv_at hl 0 rfl) ?_
            refine xg_X6_18 X hP hAll uX6_look_X6 mbX6_look_4 dX6_look_57 ?_
            refine lv_iload_n hx hb dX6_look_60 rfl (lv_at hl 1 rfl) ?_
            refine lv_bipush (v := 10) hx hb dX6_look_61 (by decide) ?_
            refine lv_isub hx hb dX6_look_63 ?_
            obtain ⟨hb_20, hm⟩ := chk_elim hm
            refine x_iald X hP (okc_162 hAll) hb_20 dX6_look_64 ?_
            cases hm
            exact x_iret X hP hS hr hlocks dX6_look_65
        · rw [if_pos h_6] at hm
          refine lv_aload_n hx hb dX6_look_39 rfl (lv_at hl 0 rfl) ?_
          obtain ⟨r_22, hc_21, hm⟩ := bind_elim hm
          refine x_calli (x_runV (As := []) (rest := []) X hP hS (c_X6_eatenAll l X.2.2 hAll hc_21) (cwV 0 hts gX6_look_X6_eatenAll rfl rfl rfl (by decide +kernel) ⟨Nat.le_of_ble_eq_true rfl, Nat.le_of_ble_eq_true rfl⟩) (x_recv (C := RX6) (T := TX6) (N := 55) X hP (okc_148 hAll) rfl) rfl hl.1 rfl (Nat.le_of_ble_eq_true rfl) dX6_look_40 ⟨Nat.zero_le _, Nat.zero_le _⟩) hS (fun H locs hP hS => ?_)
          cases hm
          exact x_iret X hP hS hr hlocks dX6_look_43
      · rw [if_pos h_5] at hm
        refine lv_aload_n hx hb dX6_look_29 rfl (lv_at hl 0 rfl) ?_
        refine xg_X6_4 X hP hAll uX6_look_X6 mbX6_look_5 dX6_look_30 ?_
        cases hm
        exact x_iret X hP hS hr hlocks dX6_look_33
    · rw [if_pos h_4] at hm
      refine lv_aload_n hx hb dX6_look_19 rfl (lv_at hl 0 rfl) ?_
      refine xg_X6_3 X hP hAll uX6_look_X6 mbX6_look_6 dX6_look_20 ?_
      cases hm
      exact x_iret X hP hS hr hlocks dX6_look_23
  · rw [if_pos h_3] at hm
    refine lv_aload_n hx hb dX6_look_9 rfl (lv_at hl 0 rfl) ?_
    refine xg_X6_2 X hP hAll uX6_look_X6 mbX6_look_2 dX6_look_10 ?_
    cases hm
    exact x_iret X hP hS hr hlocks dX6_look_13

end
