/-! walks: written by wip/whole/gen/gen.py out of the printed names -/
section
variable {p : Program} {l : Launch} {e : Env} {s : State} {m : MethodId} {args : Array Value} {below : List Frame} {meth : Method} {c : Code} {Q : State → Prop} {g : GT}
/-! X1_prepare -/
def rmX1_prepare : Room := { frames := 4, cells := 0, slots := 0, locals := 95 }
theorem uX1_prepare_X1 : ∀ w ∈ wsX10, w ∈ wsX1_prepare := by decide +kernel
theorem mbX1_prepare_1 : Cond.fieldLink RX1 36 "FootANight$Duel" "all" "I" ∈ wsX1_prepare := by decide +kernel
theorem uX1_prepare_X4 : ∀ w ∈ wsX40, w ∈ wsX1_prepare := by decide +kernel
theorem mbX1_prepare_3 : Cond.fieldLink RX1 43 "FootANight$Ring" "told" "[I" ∈ wsX1_prepare := by decide +kernel
theorem mbX1_prepare_4 : Cond.fieldLink RX1 40 "FootANight$Duel" "step" "I" ∈ wsX1_prepare := by decide +kernel
theorem mbX1_prepare_5 : Cond.fieldLink RX1 48 "FootANight$Ring" "stakes" "[[I" ∈ wsX1_prepare := by decide +kernel
theorem mbX1_prepare_6 : Cond.fieldLink RX1 51 "FootANight$Ring" "lands" "[[I" ∈ wsX1_prepare := by decide +kernel
theorem mbX1_prepare_7 : Cond.fieldLink RX1 22 "FootANight$Duel" "WAYS" "[I" ∈ wsX1_prepare := by decide +kernel
theorem mbX1_prepare_8 : Cond.fieldLink RX1 27 "FootANight$Duel" "means" "[[I" ∈ wsX1_prepare := by decide +kernel
theorem mbX1_prepare_9 : Cond.fieldLink RX1 30 "FootANight$Duel" "wins" "[[I" ∈ wsX1_prepare := by decide +kernel
theorem mbX1_prepare_10 : Cond.fieldLink RX1 33 "FootANight$Duel" "losses" "[[I" ∈ wsX1_prepare := by decide +kernel
set_option maxHeartbeats 4000000 in
set_option maxRecDepth 100000 in
theorem wj_X1_prepare_195i (X : CxG g p s m args c cX1_prepare 8 RX1 wsX1_prepare) (hAll : okAll g) {r0 : Nat} (okr0 : okRing g r0) {fu : Nat} {M : Mem} {s3 : Int32} {s4 : Int32} {s5 : Int32} {s6 : Int32} {t0 : Nat} {t1 : Int32} {t2 : Int32} (ok_t0 : okA g t0 0 61) {o : (Int32 × Mem) ⊕ (Mem)} (kb : ∀ (d6 : Int32) (M2 : Mem) , o = .inl (d6, M2) → ∀ (H : Heap) (locs : List Loc) (ls : Array Slot), va_P (gD g) vwCl (wlG g M2) H → va_S (AbG g) s.heap H locs → lv_has ls 8 [(0, .ref (ga g 130)), (1, .ref (ga g r0)), (3, .int s3), (4, .int s4), (5, .int s5), (6, .int d6)] → W p l e (headSpec wsX1_prepare rmX1_prepare).room s m args below meth c H locs 0 0 Q (F0 m 77 ls [])) (kx0 : ∀ (M2 : Mem) , o = .inr M2 → ∀ (H : Heap) (locs : List Loc) (ls : Array Slot), va_P (gD g) vwCl (wlG g M2) H → va_S (AbG g) s.heap H locs → lv_has ls 8 [(0, .ref (ga g 130)), (1, .ref (ga g r0)), (3, .int s3)] → W p l e (headSpec wsX1_prepare rmX1_prepare).room s m args below meth c H locs 0 0 Q (F0 m 202 ls [])) (hm : j_X1_prepare_195i fu r0 M s3 s4 s5 s6 t0 t1 t2 = some o) {H : Heap} {locs : List Loc} {ls : Array Slot} (hP : va_P (gD g) vwCl (wlG g M) H) (hS : va_S (AbG g) s.heap H locs) (hl : lv_has ls 8 [(0, .ref (ga g 130)), (1, .ref (ga g r0)), (3, .int s3), (4, .int s4), (5, .int s5), (6, .int s6)]) : W p l e (headSpec wsX1_prepare rmX1_prepare).room s m args below meth c H locs 0 0 Q (F0 m 195 ls [.int t2, .int t1, .ref (ga g t0)]) := by
  obtain ⟨⟨hx, hb, hml, hown, hts⟩, -, -⟩ := id X
  unfold j_X1_prepare_195i at hm
  obtain ⟨hb_32, hm⟩ := chk_elim hm
  obtain ⟨M_33, hM_34, hm⟩ := bnd_elim hm
  refine x_iast X hP hS ok_t0 hM_34 hb_32 dX1_prepare_195 (fun H locs hP hS => ?_)
  obtain ⟨v_35, hv_36, hm⟩ := bnd_elim hm
  refine lv_iinc (v := v_35) (lv' := [(6, .int v_35), (0, .ref (ga g 130)), (1, .ref (ga g r0)), (3, .int s3), (4, .int s4), (5, .int s5)]) hx hb dX1_prepare_196 hl (k := 5) rfl (by rw [hv_36]; rfl) (by decide) rfl (fun ls hl => ?_)
  refine lv_goto (tgt := 77) hx hb dX1_prepare_199 (by decide) ?_
  exact kb v_35 M_33 (Option.some.inj hm).symm _ _ _ hP hS (lv_sub hl [1, 2, 3, 4, 5, 0] rfl)

set_option maxHeartbeats 4000000 in
set_option maxRecDepth 100000 in
theorem wj_X1_prepare_194i (X : CxG g p s m args c cX1_prepare 8 RX1 wsX1_prepare) (hAll : okAll g) {r0 : Nat} (okr0 : okRing g r0) {fu : Nat} {M : Mem} {s3 : Int32} {s4 : Int32} {s5 : Int32} {s6 : Int32} {t0 : Nat} {t1 : Int32} (ok_t0 : okA g t0 0 61) {o : (Int32 × Mem) ⊕ (Mem)} (kb : ∀ (d6 : Int32) (M2 : Mem) , o = .inl (d6, M2) → ∀ (H : Heap) (locs : List Loc) (ls : Array Slot), va_P (gD g) vwCl (wlG g M2) H → va_S (AbG g) s.heap H locs → lv_has ls 8 [(0, .ref (ga g 130)), (1, .ref (ga g r0)), (3, .int s3), (4, .int s4), (5, .int s5), (6, .int d6)] → W p l e (headSpec wsX1_prepare rmX1_prepare).room s m args below meth c H locs 0 0 Q (F0 m 77 ls [])) (kx0 : ∀ (M2 : Mem) , o = .inr M2 → ∀ (H : Heap) (locs : List Loc) (ls : Array Slot), va_P (gD g) vwCl (wlG g M2) H → va_S (AbG g) s.heap H locs → lv_has ls 8 [(0, .ref (ga g 130)), (1, .ref (ga g r0)), (3, .int s3)] → W p l e (headSpec wsX1_prepare rmX1_prepare).room s m args below meth c H locs 0 0 Q (F0 m 202 ls [])) (hm : j_X1_prepare_194i fu r0 M s3 s4 s5 s6 t0 t1 = some o) {H : Heap} {locs : List Loc} {ls : Array Slot} (hP : va_P (gD g) vwCl (wlG g M) H) (hS : va_S (AbG g) s.heap H locs) (hl : lv_has ls 8 [(0, .ref (ga g 130)), (1, .ref (ga g r0)), (3, .int s3), (4, .int s4), (5, .int s5), (6, .int s6)]) : W p l e (headSpec wsX1_prepare rmX1_prepare).room s m args below meth c H locs 0 0 Q (F0 m 194 ls [.int t1, .ref (ga g t0)]) := by
  obtain ⟨⟨hx, hb, hml, hown, hts⟩, -, -⟩ := id X
  unfold j_X1_prepare_194i at hm
  refine lv_iconst (v := 0) hx hb dX1_prepare_194 (by decide) ?_
  exact wj_X1_prepare_195i X hAll okr0 ok_t0 kb kx0 hm hP hS (lv_sub hl [0, 1, 2, 3, 4, 5] rfl)

set_option maxHeartbeats 4000000 in
set_option maxRecDepth 100000 in
theorem wj_X1_prepare_188i (X : CxG g p s m args c cX1_prepare 8 RX1 wsX1_prepare) (hAll : okAll g) {r0 : Nat} (okr0 : okRing g r0) {fu : Nat} {M : Mem} {s3 : Int32} {s4 : Int32} {s5 : Int32} {s6 : Int32} {t0 : Nat} {t1 : Int32} {t3 : Int32} {t4 : Int32} {t5 : Int32} (ok_t0 : okA g t0 0 61) {o : (Int32 × Mem) ⊕ (Mem)} (kb : ∀ (d6 : Int32) (M2 : Mem) , o = .inl (d6, M2) → ∀ (H : Heap) (locs : List Loc) (ls : Array Slot), va_P (gD g) vwCl (wlG g M2) H → va_S (AbG g) s.heap H locs → lv_has ls 8 [(0, .ref (ga g 130)), (1, .ref (ga g r0)), (3, .int s3), (4, .int s4), (5, .int s5), (6, .int d6)] → W p l e (headSpec wsX1_prepare rmX1_prepare).room s m args below meth c H locs 0 0 Q (F0 m 77 ls [])) (kx0 : ∀ (M2 : Mem) , o = .inr M2 → ∀ (H : Heap) (locs : List Loc) (ls : Array Slot), va_P (gD g) vwCl (wlG g M2) H → va_S (AbG g) s.heap H locs → lv_has ls 8 [(0, .ref (ga g 130)), (1, .ref (ga g r0)), (3, .int s3)] → W p l e (headSpec wsX1_prepare rmX1_prepare).room s m args below meth c H locs 0 0 Q (F0 m 202 ls [])) (hm : j_X1_prepare_188i fu r0 M s3 s4 s5 s6 t0 t1 t3 t4 t5 = some o) {H : Heap} {locs : List Loc} {ls : Array Slot} (hP : va_P (gD g) vwCl (wlG g M) H) (hS : va_S (AbG g) s.heap H locs) (hl : lv_has ls 8 [(0, .ref (ga g 130)), (1, .ref (ga g r0)), (3, .int s3), (4, .int s4), (5, .int s5), (6, .int s6)]) : W p l e (headSpec wsX1_prepare rmX1_prepare).room s m args below meth c H locs 0 0 Q (F0 m 188 ls [.int t5, .int t4, .int t3, .ref (ga g r0), .int t1, .ref (ga g t0)]) := by
  obtain ⟨⟨hx, hb, hml, hown, hts⟩, -, -⟩ := id X
  unfold j_X1_prepare_188i at hm
  obtain ⟨r_40, hc_39, hm⟩ := bind_elim hm
  refine x_calli (x_runS (As := [.ref (ga g r0), .int t3, .int t4, .int t5]) (rest := [.int t1, .ref (ga g t0)]) X hP hS (c_X0_chance l X.2.2 okr0 hc_39) (va_cwS 4 hts gX1_prepare_X0_chance rfl rfl rfl (by decide +kernel) ⟨Nat.le_of_ble_eq_true rfl, Nat.le_of_ble_eq_true rfl⟩) rfl hl.1 rfl (Nat.le_of_ble_eq_true rfl) dX1_prepare_188 ⟨Nat.zero_le _, Nat.zero_le _⟩) hS (fun H locs hP hS => ?_)
  refine lv_goto (tgt := 195) hx hb dX1_prepare_191 (by decide) ?_
  exact wj_X1_prepare_195i X hAll okr0 ok_t0 kb kx0 hm hP hS (lv_sub hl [0, 1, 2, 3, 4, 5] rfl)

set_option maxHeartbeats 4000000 in
set_option maxRecDepth 100000 in
theorem wj_X1_prepare_154i (X : CxG g p s m args c cX1_prepare 8 RX1 wsX1_prepare) (hAll : okAll g) {r0 : Nat} (okr0 : okRing g r0) {fu : Nat} {M : Mem} {s3 : Int32} {s4 : Int32} {s5 : Int32} {s6 : Int32} {s7 : Int32} {t0 : Nat} {t1 : Int32} {t2 : Int32} (ok_t0 : okA g t0 0 61) {o : (Int32 × Mem) ⊕ (Mem)} (kb : ∀ (d6 : Int32) (M2 : Mem) , o = .inl (d6, M2) → ∀ (H : Heap) (locs : List Loc) (ls : Array Slot), va_P (gD g) vwCl (wlG g M2) H → va_S (AbG g) s.heap H locs → lv_has ls 8 [(0, .ref (ga g 130)), (1, .ref (ga g r0)), (3, .int s3), (4, .int s4), (5, .int s5), (6, .int d6)] → W p l e (headSpec wsX1_prepare rmX1_prepare).room s m args below meth c H locs 0 0 Q (F0 m 77 ls [])) (kx0 : ∀ (M2 : Mem) , o = .inr M2 → ∀ (H : Heap) (locs : List Loc) (ls : Array Slot), va_P (gD g) vwCl (wlG g M2) H → va_S (AbG g) s.heap H locs → lv_has ls 8 [(0, .ref (ga g 130)), (1, .ref (ga g r0)), (3, .int s3)] → W p l e (headSpec wsX1_prepare rmX1_prepare).room s m args below meth c H locs 0 0 Q (F0 m 202 ls [])) (hm : j_X1_prepare_154i fu r0 M s3 s4 s5 s6 s7 t0 t1 t2 = some o) {H : Heap} {locs : List Loc} {ls : Array Slot} (hP : va_P (gD g) vwCl (wlG g M) H) (hS : va_S (AbG g) s.heap H locs) (hl : lv_has ls 8 [(0, .ref (ga g 130)), (1, .ref (ga g r0)), (3, .int s3), (4, .int s4), (5, .int s5), (6, .int s6), (7, .int s7)]) : W p l e (headSpec wsX1_prepare rmX1_prepare).room s m args below meth c H locs 0 0 Q (F0 m 154 ls [.int t2, .int t1, .ref (ga g t0)]) := by
  obtain ⟨⟨hx, hb, hml, hown, hts⟩, -, -⟩ := id X
  unfold j_X1_prepare_154i at hm
  obtain ⟨hb_27, hm⟩ := chk_elim hm
  obtain ⟨M_28, hM_29, hm⟩ := bnd_elim hm
  refine x_iast X hP hS ok_t0 hM_29 hb_27 dX1_prepare_154 (fun H locs hP hS => ?_)
  refine lv_aload_n hx hb dX1_prepare_155 rfl (lv_at hl 0 rfl) ?_
  refine xg_X1_5 X hP hAll uX1_prepare_X1 mbX1_prepare_10 dX1_prepare_156 ?_
  refine lv_iload hx hb dX1_prepare_159 (lv_at hl 5 rfl) ?_
  obtain ⟨hb_30, hm⟩ := chk_elim hm
  refine x_aaldI X hP (okc_136 hAll) hb_30 dX1_prepare_161 ?_
  refine lv_iload_n hx hb dX1_prepare_162 rfl (lv_at hl 2 rfl) ?_
  refine lv_iload hx hb dX1_prepare_163 (lv_at hl 4 rfl) ?_
  refine lv_if_eq (tgt := 194) hx hb dX1_prepare_165 (by decide) (fun h_31 => ?_) (fun h_31 => ?_)
  · rw [if_pos h_31] at hm
    exact wj_X1_prepare_194i X hAll okr0 (okr_136 hAll (inb_lt hb_30)) kb kx0 hm hP hS (lv_sub hl [0, 1, 2, 3, 4, 5] rfl)
  · rw [if_neg h_31] at hm
    refine lv_iload hx hb dX1_prepare_168 (lv_at hl 3 rfl) ?_
    refine lv_iconst (v := 2) hx hb dX1_prepare_170 (by decide) ?_
    refine lv_icmp_ne (tgt := 194) hx hb dX1_prepare_171 (by decide) (fun h_37 => ?_) (fun h_37 => ?_)
    · rw [if_neg h_37] at hm
      exact wj_X1_prepare_194i X hAll okr0 (okr_136 hAll (inb_lt hb_30)) kb kx0 hm hP hS (lv_sub hl [0, 1, 2, 3, 4, 5] rfl)
    · rw [if_pos h_37] at hm
      refine lv_aload_n hx hb dX1_prepare_174 rfl (lv_at hl 1 rfl) ?_
      refine lv_iconst (v := 0) hx hb dX1_prepare_175 (by decide) ?_
      refine lv_iconst (v := 0) hx hb dX1_prepare_176 (by decide) ?_
      refine lv_iload hx hb dX1_prepare_177 (lv_at hl 6 rfl) ?_
      refine lv_iconst (v := 1) hx hb dX1_prepare_179 (by decide) ?_
      refine lv_icmp_ne (tgt := 187) hx hb dX1_prepare_180 (by decide) (fun h_38 => ?_) (fun h_38 => ?_)
      · rw [if_neg h_38] at hm
        refine lv_iconst (v := 0) hx hb dX1_prepare_187 (by decide) ?_
        exact wj_X1_prepare_188i X hAll okr0 (okr_136 hAll (inb_lt hb_30)) kb kx0 hm hP hS (lv_sub hl [0, 1, 2, 3, 4, 5] rfl)
      · rw [if_pos h_38] at hm
        refine lv_iconst (v := 1) hx hb dX1_prepare_183 (by decide) ?_
        refine lv_goto (tgt := 188) hx hb dX1_prepare_184 (by decide) ?_
        exact wj_X1_prepare_188i X hAll okr0 (okr_136 hAll (inb_lt hb_30)) kb kx0 hm hP hS (lv_sub hl [0, 1, 2, 3, 4, 5] rfl)

set_option maxHeartbeats 4000000 in
set_option maxRecDepth 100000 in
theorem wj_X1_prepare_153i (X : CxG g p s m args c cX1_prepare 8 RX1 wsX1_prepare) (hAll : okAll g) {r0 : Nat} (okr0 : okRing g r0) {fu : Nat} {M : Mem} {s3 : Int32} {s4 : Int32} {s5 : Int32} {s6 : Int32} {s7 : Int32} {t0 : Nat} {t1 : Int32} (ok_t0 : okA g t0 0 61) {o : (Int32 × Mem) ⊕ (Mem)} (kb : ∀ (d6 : Int32) (M2 : Mem) , o = .inl (d6, M2) → ∀ (H : Heap) (locs : List Loc) (ls : Array Slot), va_P (gD g) vwCl (wlG g M2) H → va_S (AbG g) s.heap H locs → lv_has ls 8 [(0, .ref (ga g 130)), (1, .ref (ga g r0)), (3, .int s3), (4, .int s4), (5, .int s5), (6, .int d6)] → W p l e (headSpec wsX1_prepare rmX1_prepare).room s m args below meth c H locs 0 0 Q (F0 m 77 ls [])) (kx0 : ∀ (M2 : Mem) , o = .inr M2 → ∀ (H : Heap) (locs : List Loc) (ls : Array Slot), va_P (gD g) vwCl (wlG g M2) H → va_S (AbG g) s.heap H locs → lv_has ls 8 [(0, .ref (ga g 130)), (1, .ref (ga g r0)), (3, .int s3)] → W p l e (headSpec wsX1_prepare rmX1_prepare).room s m args below meth c H locs 0 0 Q (F0 m 202 ls [])) (hm : j_X1_prepare_153i fu r0 M s3 s4 s5 s6 s7 t0 t1 = some o) {H : Heap} {locs : List Loc} {ls : Array Slot} (hP : va_P (gD g) vwCl (wlG g M) H) (hS : va_S (AbG g) s.heap H locs) (hl : lv_has ls 8 [(0, .ref (ga g 130)), (1, .ref (ga g r0)), (3, .int s3), (4, .int s4), (5, .int s5), (6, .int s6), (7, .int s7)]) : W p l e (headSpec wsX1_prepare rmX1_prepare).room s m args below meth c H locs 0 0 Q (F0 m 153 ls [.int t1, .ref (ga g t0)]) := by
  obtain ⟨⟨hx, hb, hml, hown, hts⟩, -, -⟩ := id X
  unfold j_X1_prepare_153i at hm
  refine lv_iconst (v := 0) hx hb dX1_prepare_153 (by decide) ?_
  exact wj_X1_prepare_154i X hAll okr0 ok_t0 kb kx0 hm hP hS (lv_sub hl [0, 1, 2, 3, 4, 5, 6] rfl)

set_option maxHeartbeats 4000000 in
set_option maxRecDepth 100000 in
theorem wj_X1_prepare_147i (X : CxG g p s m args c cX1_prepare 8 RX1 wsX1_prepare) (hAll : okAll g) {r0 : Nat} (okr0 : okRing g r0) {fu : Nat} {M : Mem} {s3 : Int32} {s4 : Int32} {s5 : Int32} {s6 : Int32} {s7 : Int32} {t0 : Nat} {t1 : Int32} {t3 : Int32} {t4 : Int32} {t5 : Int32} (ok_t0 : okA g t0 0 61) {o : (Int32 × Mem) ⊕ (Mem)} (kb : ∀ (d6 : Int32) (M2 : Mem) , o = .inl (d6, M2) → ∀ (H : Heap) (locs : List Loc) (ls : Array Slot), va_P (gD g) vwCl (wlG g M2) H → va_S (AbG g) s.heap H locs → lv_has ls 8 [(0, .ref (ga g 130)), (1, .ref (ga g r0)), (3, .int s3), (4, .int s4), (5, .int s5), (6, .int d6)] → W p l e (headSpec wsX1_prepare rmX1_prepare).room s m args below meth c H locs 0 0 Q (F0 m 77 ls [])) (kx0 : ∀ (M2 : Mem) , o = .inr M2 → ∀ (H : Heap) (locs : List Loc) (ls : Array Slot), va_P (gD g) vwCl (wlG g M2) H → va_S (AbG g) s.heap H locs → lv_has ls 8 [(0, .ref (ga g 130)), (1, .ref (ga g r0)), (3, .int s3)] → W p l e (headSpec wsX1_prepare rmX1_prepare).room s m args below meth c H locs 0 0 Q (F0 m 202 ls [])) (hm : j_X1_prepare_147i fu r0 M s3 s4 s5 s6 s7 t0 t1 t3 t4 t5 = some o) {H : Heap} {locs : List Loc} {ls : Array Slot} (hP : va_P (gD g) vwCl (wlG g M) H) (hS : va_S (AbG g) s.heap H locs) (hl : lv_has ls 8 [(0, .ref (ga g 130)), (1, .ref (ga g r0)), (3, .int s3), (4, .int s4), (5, .int s5), (6, .int s6), (7, .int s7)]) : W p l e (headSpec wsX1_prepare rmX1_prepare).room s m args below meth c H locs 0 0 Q (F0 m 147 ls [.int t5, .int t4, .int t3, .ref (ga g r0), .int t1, .ref (ga g t0)]) := by
  obtain ⟨⟨hx, hb, hml, hown, hts⟩, -, -⟩ := id X
  unfold j_X1_prepare_147i at hm
  obtain ⟨r_44, hc_43, hm⟩ := bind_elim hm
  refine x_calli (x_runS (As := [.ref (ga g r0), .int t3, .int t4, .int t5]) (rest := [.int t1, .ref (ga g t0)]) X hP hS (c_X0_chance l X.2.2 okr0 hc_43) (va_cwS 4 hts gX1_prepare_X0_chance rfl rfl rfl (by decide +kernel) ⟨Nat.le_of_ble_eq_true rfl, Nat.le_of_ble_eq_true rfl⟩) rfl hl.1 rfl (Nat.le_of_ble_eq_true rfl) dX1_prepare_147 ⟨Nat.zero_le _, Nat.zero_le _⟩) hS (fun H locs hP hS => ?_)
  refine lv_goto (tgt := 154) hx hb dX1_prepare_150 (by decide) ?_
  exact wj_X1_prepare_154i X hAll okr0 ok_t0 kb kx0 hm hP hS (lv_sub hl [0, 1, 2, 3, 4, 5, 6] rfl)

set_option maxHeartbeats 4000000 in
set_option maxRecDepth 100000 in
theorem wl_X1_prepare_77 (X : CxG g p s m args c cX1_prepare 8 RX1 wsX1_prepare) (hAll : okAll g) {r0 : Nat} (okr0 : okRing g r0) {fu : Nat} {s3 : Int32} {s4 : Int32} {s5 : Int32} {x : Mem} (kx0 : ∀ (M2 : Mem) , x = M2 → ∀ (H : Heap) (locs : List Loc) (ls : Array Slot), va_P (gD g) vwCl (wlG g M2) H → va_S (AbG g) s.heap H locs → lv_has ls 8 [(0, .ref (ga g 130)), (1, .ref (ga g r0)), (3, .int s3)] → W p l e (headSpec wsX1_prepare rmX1_prepare).room s m args below meth c H locs 0 0 Q (F0 m 202 ls [])) {n : Nat} {q0 : Int32 × Mem} (h : lp (b_X1_prepare_77 fu r0 s3 s4 s5) n q0 = some x) : ∀ (H : Heap) (locs : List Loc) (ls : Array Slot), va_P (gD g) vwCl (wlG g q0.2) H → va_S (AbG g) s.heap H locs → lv_has ls 8 [(0, .ref (ga g 130)), (1, .ref (ga g r0)), (3, .int s3), (4, .int s4), (5, .int s5), (6, .int q0.1)] → W p l e (headSpec wsX1_prepare rmX1_prepare).room s m args below meth c H locs 0 0 Q (F0 m 77 ls []) := by
  refine lp_elim (P := fun q0 : Int32 × Mem => ∀ (H : Heap) (locs : List Loc) (ls : Array Slot), va_P (gD g) vwCl (wlG g q0.2) H → va_S (AbG g) s.heap H locs → lv_has ls 8 [(0, .ref (ga g 130)), (1, .ref (ga g r0)), (3, .int s3), (4, .int s4), (5, .int s5), (6, .int q0.1)] → W p l e (headSpec wsX1_prepare rmX1_prepare).room s m args below meth c H locs 0 0 Q (F0 m 77 ls [])) (fun q1 o hm hI hX => ?_) n q0 h
  obtain ⟨c6, M⟩ := q1
  have kb : ∀ (d6 : Int32) (M2 : Mem) , o = .inl (d6, M2) → ∀ (H : Heap) (locs : List Loc) (ls : Array Slot), va_P (gD g) vwCl (wlG g M2) H → va_S (AbG g) s.heap H locs → lv_has ls 8 [(0, .ref (ga g 130)), (1, .ref (ga g r0)), (3, .int s3), (4, .int s4), (5, .int s5), (6, .int d6)] → W p l e (headSpec wsX1_prepare rmX1_prepare).room s m args below meth c H locs 0 0 Q (F0 m 77 ls []) := fun d6 M2 e => hI _ e
  have kx0 : ∀ (M2 : Mem) , o = .inr M2 → ∀ (H : Heap) (locs : List Loc) (ls : Array Slot), va_P (gD g) vwCl (wlG g M2) H → va_S (AbG g) s.heap H locs → lv_has ls 8 [(0, .ref (ga g 130)), (1, .ref (ga g r0)), (3, .int s3)] → W p l e (headSpec wsX1_prepare rmX1_prepare).room s m args below meth c H locs 0 0 Q (F0 m 202 ls []) := fun M2 e => kx0 M2 (hX _ e).symm
  clear hI hX
  intro H locs ls hP hS hl
  obtain ⟨⟨hx, hb, hml, hown, hts⟩, -, -⟩ := id X
  have hl : lv_has ls 8 [(0, .ref (ga g 130)), (1, .ref (ga g r0)), (3, .int s3), (4, .int s4), (5, .int s5), (6, .int c6)] := hl
  have hP : va_P (gD g) vwCl (wlG g M) H := hP
  unfold b_X1_prepare_77 at hm
  replace hm := un2_e hm
  refine lv_iload hx hb dX1_prepare_77 (lv_at hl 5 rfl) ?_
  refine x_gets X hS 4 (by decide) mbX1_prepare_7 dX1_prepare_79 ?_
  refine x_stlen (i := 4) X hS (by decide) dX1_prepare_82 ?_
  refine lv_icmp_ge (tgt := 202) hx hb dX1_prepare_83 (by decide) (fun h_17 => ?_) (fun h_17 => ?_)
  · rw [if_pos h_17] at hm
    exact kx0 M (Option.some.inj hm).symm _ _ _ hP hS (lv_sub hl [0, 1, 2] rfl)
  · rw [if_neg h_17] at hm
    refine x_gets X hS 4 (by decide) mbX1_prepare_7 dX1_prepare_86 ?_
    refine lv_iload hx hb dX1_prepare_89 (lv_at hl 5 rfl) ?_
    obtain ⟨hb_18, hm⟩ := chk_elim hm
    refine x_stld (i := 4) X hS (by decide) hb_18 dX1_prepare_91 ?_
    obtain ⟨v_19, hv_20, hm⟩ := bnd_elim hm
    refine x_name hv_20 ?_
    refine lv_istore (lv' := [(7, .int v_19), (0, .ref (ga g 130)), (1, .ref (ga g r0)), (3, .int s3), (4, .int s4), (5, .int s5), (6, .int c6)]) hx hb dX1_prepare_92 hl (by decide) rfl (fun ls hl => ?_)
    refine lv_aload_n hx hb dX1_prepare_94 rfl (lv_at hl 1 rfl) ?_
    refine xg_X1_3 X hP hAll uX1_prepare_X1 mbX1_prepare_8 dX1_prepare_95 ?_
    refine lv_iload hx hb dX1_prepare_98 (lv_at hl 6 rfl) ?_
    refine x_aaldI X hP (okc_134 hAll) hb_18 dX1_prepare_100 ?_
    refine lv_iload_n hx hb dX1_prepare_101 rfl (lv_at hl 3 rfl) ?_
    refine lv_aload_n hx hb dX1_prepare_102 rfl (lv_at hl 2 rfl) ?_
    refine lv_iconst (v := 0) hx hb dX1_prepare_103 (by decide) ?_
    refine lv_iload hx hb dX1_prepare_104 (lv_at hl 4 rfl) ?_
    refine lv_iload hx hb dX1_prepare_106 (lv_at hl 0 rfl) ?_
    refine lv_iload hx hb dX1_prepare_108 (lv_at hl 4 rfl) ?_
    obtain ⟨r_22, hc_21, hm⟩ := bind_elim hm
    refine x_calli (x_runS (As := [.ref (ga g r0), .int 0, .int s4, .int v_19, .int s4]) (rest := [.int s3, .ref (ga g (137 + ix c6))]) X hP hS (c_X0_mean l X.2.2 okr0 hc_21) (va_cwS 5 hts gX1_prepare_X0_mean rfl rfl rfl (by decide +kernel) ⟨Nat.le_of_ble_eq_true rfl, Nat.le_of_ble_eq_true rfl⟩) rfl hl.1 rfl (Nat.le_of_ble_eq_true rfl) dX1_prepare_110 ⟨Nat.zero_le _, Nat.zero_le _⟩) hS (fun H locs hP hS => ?_)
    obtain ⟨hb_23, hm⟩ := chk_elim hm
    obtain ⟨M_24, hM_25, hm⟩ := bnd_elim hm
    refine x_iast X hP hS (okr_134 hAll (inb_lt hb_18)) hM_25 hb_23 dX1_prepare_113 (fun H locs hP hS => ?_)
    refine lv_aload_n hx hb dX1_prepare_114 rfl (lv_at hl 1 rfl) ?_
    refine xg_X1_4 X hP hAll uX1_prepare_X1 mbX1_prepare_9 dX1_prepare_115 ?_
    refine lv_iload hx hb dX1_prepare_118 (lv_at hl 6 rfl) ?_
    refine x_aaldI X hP (okc_135 hAll) hb_18 dX1_prepare_120 ?_
    refine lv_iload_n hx hb dX1_prepare_121 rfl (lv_at hl 3 rfl) ?_
    refine lv_iload hx hb dX1_prepare_122 (lv_at hl 5 rfl) ?_
    refine lv_if_eq (tgt := 153) hx hb dX1_prepare_124 (by decide) (fun h_26 => ?_) (fun h_26 => ?_)
    · rw [if_pos h_26] at hm
      exact wj_X1_prepare_153i X hAll okr0 (okr_135 hAll (inb_lt hb_18)) kb kx0 hm hP hS (lv_sub hl [1, 2, 3, 4, 5, 6, 0] rfl)
    · rw [if_neg h_26] at hm
      refine lv_iload hx hb dX1_prepare_127 (lv_at hl 0 rfl) ?_
      refine lv_iconst (v := 3) hx hb dX1_prepare_129 (by decide) ?_
      refine lv_icmp_ne (tgt := 153) hx hb dX1_prepare_130 (by decide) (fun h_41 => ?_) (fun h_41 => ?_)
      · rw [if_neg h_41] at hm
        exact wj_X1_prepare_153i X hAll okr0 (okr_135 hAll (inb_lt hb_18)) kb kx0 hm hP hS (lv_sub hl [1, 2, 3, 4, 5, 6, 0] rfl)
      · rw [if_pos h_41] at hm
        refine lv_aload_n hx hb dX1_prepare_133 rfl (lv_at hl 2 rfl) ?_
        refine lv_iconst (v := 0) hx hb dX1_prepare_134 (by decide) ?_
        refine lv_iconst (v := 1) hx hb dX1_prepare_135 (by decide) ?_
        refine lv_iload hx hb dX1_prepare_136 (lv_at hl 4 rfl) ?_
        refine lv_iconst (v := 1) hx hb dX1_prepare_138 (by decide) ?_
        refine lv_icmp_ne (tgt := 146) hx hb dX1_prepare_139 (by decide) (fun h_42 => ?_) (fun h_42 => ?_)
        · rw [if_neg h_42] at hm
          refine lv_iconst (v := 0) hx hb dX1_prepare_146 (by decide) ?_
          exact wj_X1_prepare_147i X hAll okr0 (okr_135 hAll (inb_lt hb_18)) kb kx0 hm hP hS (lv_sub hl [1, 2, 3, 4, 5, 6, 0] rfl)
        · rw [if_pos h_42] at hm
          refine lv_iconst (v := 1) hx hb dX1_prepare_142 (by decide) ?_
          refine lv_goto (tgt := 147) hx hb dX1_prepare_143 (by decide) ?_
          exact wj_X1_prepare_147i X hAll okr0 (okr_135 hAll (inb_lt hb_18)) kb kx0 hm hP hS (lv_sub hl [1, 2, 3, 4, 5, 6, 0] rfl)

set_option maxHeartbeats 4000000 in
set_option maxRecDepth 100000 in
theorem wl_X1_prepare_27 (X : CxG g p s m args c cX1_prepare 8 RX1 wsX1_prepare) (hAll : okAll g) {r0 : Nat} (okr0 : okRing g r0) {fu : Nat} {x : Mem} (kx0 : ∀ (M2 : Mem) , x = M2 → ∀ (H : Heap) (locs : List Loc) (ls : Array Slot), va_P (gD g) vwCl (wlG g M2) H → va_S (AbG g) s.heap H locs → lv_has ls 8 [] → W p l e (headSpec wsX1_prepare rmX1_prepare).room s m args below meth c H locs 0 0 Q (F0 m 208 ls [])) {n : Nat} {q0 : Int32 × Mem} (h : lp (b_X1_prepare_27 fu r0) n q0 = some x) : ∀ (H : Heap) (locs : List Loc) (ls : Array Slot), va_P (gD g) vwCl (wlG g q0.2) H → va_S (AbG g) s.heap H locs → lv_has ls 8 [(0, .ref (ga g 130)), (1, .ref (ga g r0)), (3, .int q0.1)] → W p l e (headSpec wsX1_prepare rmX1_prepare).room s m args below meth c H locs 0 0 Q (F0 m 27 ls []) := by
  refine lp_elim (P := fun q0 : Int32 × Mem => ∀ (H : Heap) (locs : List Loc) (ls : Array Slot), va_P (gD g) vwCl (wlG g q0.2) H → va_S (AbG g) s.heap H locs → lv_has ls 8 [(0, .ref (ga g 130)), (1, .ref (ga g r0)), (3, .int q0.1)] → W p l e (headSpec wsX1_prepare rmX1_prepare).room s m args below meth c H locs 0 0 Q (F0 m 27 ls [])) (fun q1 o hm hI hX => ?_) n q0 h
  obtain ⟨c3, M⟩ := q1
  have kb : ∀ (d3 : Int32) (M2 : Mem) , o = .inl (d3, M2) → ∀ (H : Heap) (locs : List Loc) (ls : Array Slot), va_P (gD g) vwCl (wlG g M2) H → va_S (AbG g) s.heap H locs → lv_has ls 8 [(0, .ref (ga g 130)), (1, .ref (ga g r0)), (3, .int d3)] → W p l e (headSpec wsX1_prepare rmX1_prepare).room s m args below meth c H locs 0 0 Q (F0 m 27 ls []) := fun d3 M2 e => hI _ e
  have kx0 : ∀ (M2 : Mem) , o = .inr M2 → ∀ (H : Heap) (locs : List Loc) (ls : Array Slot), va_P (gD g) vwCl (wlG g M2) H → va_S (AbG g) s.heap H locs → lv_has ls 8 [] → W p l e (headSpec wsX1_prepare rmX1_prepare).room s m args below meth c H locs 0 0 Q (F0 m 208 ls []) := fun M2 e => kx0 M2 (hX _ e).symm
  clear hI hX
  intro H locs ls hP hS hl
  obtain ⟨⟨hx, hb, hml, hown, hts⟩, -, -⟩ := id X
  have hl : lv_has ls 8 [(0, .ref (ga g 130)), (1, .ref (ga g r0)), (3, .int c3)] := hl
  have hP : va_P (gD g) vwCl (wlG g M) H := hP
  unfold b_X1_prepare_27 at hm
  replace hm := un2_e hm
  refine lv_iload_n hx hb dX1_prepare_27 rfl (lv_at hl 2 rfl) ?_
  refine lv_aload_n hx hb dX1_prepare_28 rfl (lv_at hl 0 rfl) ?_
  refine xg_X1_6 X hP hAll uX1_prepare_X1 mbX1_prepare_1 dX1_prepare_29 ?_
  refine lv_icmp_gt (tgt := 208) hx hb dX1_prepare_32 (by decide) (fun h_7 => ?_) (fun h_7 => ?_)
  · rw [if_pos h_7] at hm
    exact kx0 M (Option.some.inj hm).symm _ _ _ hP hS (lv_sub hl [] rfl)
  · rw [if_neg h_7] at hm
    refine lv_aload_n hx hb dX1_prepare_35 rfl (lv_at hl 1 rfl) ?_
    refine xg_X4_5 X hP okr0 uX1_prepare_X4 mbX1_prepare_6 dX1_prepare_36 ?_
    refine lv_iconst (v := 0) hx hb dX1_prepare_39 (by decide) ?_
    refine x_aaldI X hP okr0.lands (show inb 0 10 = true from rfl) dX1_prepare_40 ?_
    refine lv_iconst (v := 0) hx hb dX1_prepare_41 (by decide) ?_
    refine lv_iload_n hx hb dX1_prepare_42 rfl (lv_at hl 2 rfl) ?_
    obtain ⟨M_8, hM_9, hm⟩ := bnd_elim hm
    refine x_iast X hP hS (okr0.land (inb_lt (show inb 0 10 = true from rfl))) hM_9 (show inb 0 9 = true from rfl) dX1_prepare_43 (fun H locs hP hS => ?_)
    refine lv_aload_n hx hb dX1_prepare_44 rfl (lv_at hl 1 rfl) ?_
    refine xg_X4_5 X hP okr0 uX1_prepare_X4 mbX1_prepare_6 dX1_prepare_45 ?_
    refine lv_iconst (v := 1) hx hb dX1_prepare_48 (by decide) ?_
    refine x_aaldI X hP okr0.lands (show inb 1 10 = true from rfl) dX1_prepare_49 ?_
    refine lv_iconst (v := 0) hx hb dX1_prepare_50 (by decide) ?_
    refine lv_aload_n hx hb dX1_prepare_51 rfl (lv_at hl 0 rfl) ?_
    refine xg_X1_6 X hP hAll uX1_prepare_X1 mbX1_prepare_1 dX1_prepare_52 ?_
    refine lv_iload_n hx hb dX1_prepare_55 rfl (lv_at hl 2 rfl) ?_
    refine lv_isub hx hb dX1_prepare_56 ?_
    obtain ⟨M_10, hM_11, hm⟩ := bnd_elim hm
    refine x_iast X hP hS (okr0.land (inb_lt (show inb 1 10 = true from rfl))) hM_11 (show inb 0 9 = true from rfl) dX1_prepare_57 (fun H locs hP hS => ?_)
    refine lv_aload_n hx hb dX1_prepare_58 rfl (lv_at hl 1 rfl) ?_
    refine lv_iconst (v := 1) hx hb dX1_prepare_59 (by decide) ?_
    obtain ⟨⟨r_13, M_14⟩, hc_12, hm⟩ := bind_elim hm
    replace hm := un2_e hm
    refine x_calli (x_runV (As := [.int 1]) (rest := []) X hP hS (c_X4_does l X.2.2 okr0 hc_12) (cwV 1 hts gX1_prepare_X4_does rfl rfl rfl (by decide +kernel) ⟨Nat.le_of_ble_eq_true rfl, Nat.le_of_ble_eq_true rfl⟩) (x_recv (C := RX4) (T := TX4) (N := 12) X hP okr0.obj rfl) rfl hl.1 rfl (Nat.le_of_ble_eq_true rfl) dX1_prepare_60 ⟨Nat.zero_le _, Nat.zero_le _⟩) hS (fun H locs hP hS => ?_)
    refine lv_istore (lv' := [(4, .int r_13), (0, .ref (ga g 130)), (1, .ref (ga g r0)), (3, .int c3)]) hx hb dX1_prepare_63 hl (by decide) rfl (fun ls hl => ?_)
    refine lv_aload_n hx hb dX1_prepare_65 rfl (lv_at hl 2 rfl) ?_
    refine lv_iconst (v := 0) hx hb dX1_prepare_66 (by decide) ?_
    refine lv_iconst (v := 0) hx hb dX1_prepare_67 (by decide) ?_
    refine lv_iconst (v := 1) hx hb dX1_prepare_68 (by decide) ?_
    obtain ⟨r_16, hc_15, hm⟩ := bind_elim hm
    refine x_calli (x_runS (As := [.ref (ga g r0), .int 0, .int 0, .int 1]) (rest := []) X hP hS (c_X0_canMove l X.2.2 okr0 hc_15) (va_cwS 4 hts gX1_prepare_X0_canMove rfl rfl rfl (by decide +kernel) ⟨Nat.le_of_ble_eq_true rfl, Nat.le_of_ble_eq_true rfl⟩) rfl hl.1 rfl (Nat.le_of_ble_eq_true rfl) dX1_prepare_69 ⟨Nat.zero_le _, Nat.zero_le _⟩) hS (fun H locs hP hS => ?_)
    refine lv_istore (lv' := [(5, .int r_16), (4, .int r_13), (0, .ref (ga g 130)), (1, .ref (ga g r0)), (3, .int c3)]) hx hb dX1_prepare_72 hl (by decide) rfl (fun ls hl => ?_)
    refine lv_iconst (v := 0) hx hb dX1_prepare_74 (by decide) ?_
    refine lv_istore (lv' := [(6, .int 0), (5, .int r_16), (4, .int r_13), (0, .ref (ga g 130)), (1, .ref (ga g r0)), (3, .int c3)]) hx hb dX1_prepare_75 hl (by decide) rfl (fun ls hl => ?_)
    obtain ⟨M_47, hL_46, hm⟩ := bind_elim hm
    refine wl_X1_prepare_77 X hAll okr0 ?_ hL_46 _ _ _ hP hS (lv_sub hl [3, 4, 5, 2, 1, 0] rfl)
    · intro z_M_47 e_M_47 H locs ls hP hS hl
      subst e_M_47
      replace hm := un1_e hm
      obtain ⟨v_48, hv_49, hm⟩ := bnd_elim hm
      refine lv_iinc (v := v_48) (lv' := [(3, .int v_48), (0, .ref (ga g 130)), (1, .ref (ga g r0))]) hx hb dX1_prepare_202 hl (k := 2) rfl (by rw [hv_49]; rfl) (by decide) rfl (fun ls hl => ?_)
      refine lv_goto (tgt := 27) hx hb dX1_prepare_205 (by decide) ?_
      exact kb v_48 M_47 (Option.some.inj hm).symm _ _ _ hP hS (lv_sub hl [1, 2, 0] rfl)

set_option maxHeartbeats 4000000 in
set_option maxRecDepth 100000 in
theorem c_X1_prepare (l : Launch) {g : GT} (hA : AxG g) (hAll : okAll g) {r0 : Nat} (okr0 : okRing g r0) {fu : Nat} {M : Mem} {a2 : Int32} {MM : Mem} (hm : m_X1_prepare fu r0 M a2 = some MM) : CV l yX1_prepare wsX1_prepare rmX1_prepare g [.ref (ga g 130), .ref (ga g r0), .int a2] M MM := by
  refine Met.ofW (cc := cX1_prepare) (maxL := 8) (ret := none) (by decide) rfl ?_
  intro p e s m args below meth c s₁ B hml hv
  obtain ⟨rfl, hSx, hP⟩ := hv
  have hr := B.returns
  have hlocks := B.notSynchronized
  have X : CxG g p s m _ c cX1_prepare 8 RX1 wsX1_prepare := ⟨⟨B.exec, B.bytes, hml, findClass_of_methodNamed B.named, atoms_spec (ws := wsX1_prepare) B.pre⟩, hSx, hA⟩
  have hS : va_S (AbG g) s.heap s.heap [] := va_S.rf
  have hl := lv_entry (([.ref (ga g 130), .ref (ga g r0), .int a2] : List Value)) (n := 8) (Nat.le_of_ble_eq_true rfl)
  rw [lg_entry_eq]
  generalize (lg_sl (([.ref (ga g 130), .ref (ga g r0), .int a2] : List Value)) ++ List.replicate (8 - (lg_sl (([.ref (ga g 130), .ref (ga g r0), .int a2] : List Value))).length) Slot.unset).toArray = ls at hl ⊢
  have hl : lv_has ls 8 [(0, .ref (ga g 130)), (1, .ref (ga g r0)), (2, .int a2)] := hl
  obtain ⟨⟨hx, hb, hml, hown, hts⟩, -, -⟩ := id X
  unfold m_X1_prepare at hm
  refine lv_aload_n hx hb dX1_prepare_0 rfl (lv_at hl 0 rfl) ?_
  refine lv_iload_n hx hb dX1_prepare_1 rfl (lv_at hl 2 rfl) ?_
  obtain ⟨M_1, hM_2, hm⟩ := bnd_elim hm
  refine xp_X1_6 X hP hAll uX1_prepare_X1 mbX1_prepare_1 hS hM_2 dX1_prepare_2 (fun H locs hP hS => ?_)
  refine lv_aload_n hx hb dX1_prepare_5 rfl (lv_at hl 0 rfl) ?_
  refine lv_aload_n hx hb dX1_prepare_6 rfl (lv_at hl 1 rfl) ?_
  refine xg_X4_4 X hP okr0 uX1_prepare_X4 mbX1_prepare_3 dX1_prepare_7 ?_
  refine lv_bipush (v := 9) hx hb dX1_prepare_10 (by decide) ?_
  refine x_iald X hP okr0.told (show inb 9 10 = true from rfl) dX1_prepare_12 ?_
  obtain ⟨M_3, hM_4, hm⟩ := bnd_elim hm
  refine xp_X1_7 X hP hAll uX1_prepare_X1 mbX1_prepare_4 hS hM_4 dX1_prepare_13 (fun H locs hP hS => ?_)
  refine lv_aload_n hx hb dX1_prepare_16 rfl (lv_at hl 1 rfl) ?_
  refine xg_X4_7 X hP okr0 uX1_prepare_X4 mbX1_prepare_5 dX1_prepare_17 ?_
  refine lv_iconst (v := 1) hx hb dX1_prepare_20 (by decide) ?_
  refine x_aaldI X hP okr0.stakes (show inb 1 10 = true from rfl) dX1_prepare_21 ?_
  refine lv_iconst (v := 0) hx hb dX1_prepare_22 (by decide) ?_
  refine lv_iconst (v := 1) hx hb dX1_prepare_23 (by decide) ?_
  obtain ⟨M_5, hM_6, hm⟩ := bnd_elim hm
  refine x_iast X hP hS (okr0.stake (inb_lt (show inb 1 10 = true from rfl))) hM_6 (show inb 0 4 = true from rfl) dX1_prepare_24 (fun H locs hP hS => ?_)
  refine lv_iconst (v := 0) hx hb dX1_prepare_25 (by decide) ?_
  refine lv_istore_n (lv' := [(3, .int 0), (0, .ref (ga g 130)), (1, .ref (ga g r0)), (2, .int a2)]) hx hb dX1_prepare_26 rfl hl (by decide) rfl (fun ls hl => ?_)
  obtain ⟨M_52, hL_51, hm⟩ := bind_elim hm
  refine wl_X1_prepare_27 X hAll okr0 ?_ hL_51 _ _ _ hP hS (lv_sub hl [1, 2, 0] rfl)
  · intro z_M_52 e_M_52 H locs ls hP hS hl
    subst e_M_52
    replace hm := un1_e hm
    cases hm
    exact x_vret X hP hS hr hlocks dX1_prepare_208


/-! X1_comesNext -/
def rmX1_comesNext : Room := { frames := 1, cells := 0, slots := 0, locals := 25 }
theorem uX1_comesNext_X1 : ∀ w ∈ wsX10, w ∈ wsX1_comesNext := by decide +kernel
theorem mbX1_comesNext_1 : Cond.fieldLink RX1 30 "FootANight$Duel" "wins" "[[I" ∈ wsX1_comesNext := by decide +kernel
theorem mbX1_comesNext_2 : Cond.fieldLink RX1 33 "FootANight$Duel" "losses" "[[I" ∈ wsX1_comesNext := by decide +kernel
theorem mbX1_comesNext_3 : Cond.fieldLink RX1 40 "FootANight$Duel" "step" "I" ∈ wsX1_comesNext := by decide +kernel
theorem mbX1_comesNext_4 : Cond.fieldLink RX1 36 "FootANight$Duel" "all" "I" ∈ wsX1_comesNext := by decide +kernel
theorem mbX1_comesNext_5 : Cond.methodLink RX1 100 Lib.Math.min.name ∈ wsX1_comesNext := by decide +kernel
theorem mbX1_comesNext_6 : Cond.static Lib.Math.min.name ∈ wsX1_comesNext := by decide +kernel
theorem mbX1_comesNext_7 : Cond.initialized "java/lang/Math" ∈ wsX1_comesNext := by decide +kernel
theorem mbX1_comesNext_8 : Cond.code Lib.Math.min.name Lib.Math.min.code 2 (some .int) ∈ wsX1_comesNext := by decide +kernel
theorem mbX1_comesNext_9 : Cond.fieldLink RX1 9 "FootANight$Duel" "later" "[J" ∈ wsX1_comesNext := by decide +kernel
theorem mbX1_comesNext_10 : Cond.constantLong RX1 88 (1000) ∈ wsX1_comesNext := by decide +kernel
theorem mbX1_comesNext_11 : Cond.constantLong RX1 104 (1000000) ∈ wsX1_comesNext := by decide +kernel
set_option maxHeartbeats 4000000 in
set_option maxRecDepth 100000 in
theorem c_X1_comesNext (l : Launch) {g : GT} (hA : AxG g) (hAll : okAll g)   {M : Mem} {a1 : Int32} {a2 : Int32} {rr : Int64} (hm : m_X1_comesNext M a1 a2 = some rr) : CL l yX1_comesNext wsX1_comesNext rmX1_comesNext g [.ref (ga g 130), .int a1, .int a2] M rr M := by
  refine Met.ofW (cc := cX1_comesNext) (maxL := 11) (ret := (some .long)) (by decide) rfl ?_
  intro p e s m args below meth c s₁ B hml hv
  obtain ⟨rfl, hSx, hP⟩ := hv
  have hr := B.returns
  have hlocks := B.notSynchronized
  have X : CxG g p s m _ c cX1_comesNext 11 RX1 wsX1_comesNext := ⟨⟨B.exec, B.bytes, hml, findClass_of_methodNamed B.named, atoms_spec (ws := wsX1_comesNext) B.pre⟩, hSx, hA⟩
  have hS : va_S (AbG g) s.heap s.heap [] := va_S.rf
  have hl := lv_entry (([.ref (ga g 130), .int a1, .int a2] : List Value)) (n := 11) (Nat.le_of_ble_eq_true rfl)
  rw [lg_entry_eq]
  generalize (lg_sl (([.ref (ga g 130), .int a1, .int a2] : List Value)) ++ List.replicate (11 - (lg_sl (([.ref (ga g 130), .int a1, .int a2] : List Value))).length) Slot.unset).toArray = ls at hl ⊢
  have hl : lv_has ls 11 [(0, .ref (ga g 130)), (1, .int a1), (2, .int a2)] := hl
  obtain ⟨⟨hx, hb, hml, hown, hts⟩, -, -⟩ := id X
  unfold m_X1_comesNext at hm
  refine lv_aload_n hx hb dX1_comesNext_0 rfl (lv_at hl 0 rfl) ?_
  refine xg_X1_4 X hP hAll uX1_comesNext_X1 mbX1_comesNext_1 dX1_comesNext_1 ?_
  refine lv_iload_n hx hb dX1_comesNext_4 rfl (lv_at hl 1 rfl) ?_
  obtain ⟨hb_1, hm⟩ := chk_elim hm
  refine x_aaldI X hP (okc_135 hAll) hb_1 dX1_comesNext_5 ?_
  refine lv_iload_n hx hb dX1_comesNext_6 rfl (lv_at hl 2 rfl) ?_
  obtain ⟨hb_2, hm⟩ := chk_elim hm
  refine x_iald X hP (okr_135 hAll (inb_lt hb_1)) hb_2 dX1_comesNext_7 ?_
  refine lv_i2l (v := (rd M (140 + ix a1) (ix a2)).toInt64) hx hb dX1_comesNext_8 rfl ?_
  obtain ⟨v_3, hv_4, hm⟩ := bnd_elim hm
  refine x_namel hv_4 ?_
  refine lv_lstore_n (lv' := [(3, .long v_3), (0, .ref (ga g 130)), (1, .int a1), (2, .int a2)]) hx hb dX1_comesNext_9 rfl hl (by decide) rfl (fun ls hl => ?_)
  refine lv_aload_n hx hb dX1_comesNext_10 rfl (lv_at hl 1 rfl) ?_
  refine xg_X1_5 X hP hAll uX1_comesNext_X1 mbX1_comesNext_2 dX1_comesNext_11 ?_
  refine lv_iload_n hx hb dX1_comesNext_14 rfl (lv_at hl 2 rfl) ?_
  refine x_aaldI X hP (okc_136 hAll) hb_1 dX1_comesNext_15 ?_
  refine lv_iload_n hx hb dX1_comesNext_16 rfl (lv_at hl 3 rfl) ?_
  refine x_iald X hP (okr_136 hAll (inb_lt hb_1)) hb_2 dX1_comesNext_17 ?_
  refine lv_i2l (v := (rd M (143 + ix a1) (ix a2)).toInt64) hx hb dX1_comesNext_18 rfl ?_
  obtain ⟨v_5, hv_6, hm⟩ := bnd_elim hm
  refine x_namel hv_6 ?_
  refine lv_lstore (lv' := [(5, .long v_5), (3, .long v_3), (0, .ref (ga g 130)), (1, .int a1), (2, .int a2)]) hx hb dX1_comesNext_19 hl (by decide) rfl (fun ls hl => ?_)
  refine lv_aload_n hx hb dX1_comesNext_21 rfl (lv_at hl 2 rfl) ?_
  refine xg_X1_7 X hP hAll uX1_comesNext_X1 mbX1_comesNext_3 dX1_comesNext_22 ?_
  refine lv_aload_n hx hb dX1_comesNext_25 rfl (lv_at hl 2 rfl) ?_
  refine xg_X1_6 X hP hAll uX1_comesNext_X1 mbX1_comesNext_4 dX1_comesNext_26 ?_
  refine lv_iload_n hx hb dX1_comesNext_29 rfl (lv_at hl 4 rfl) ?_
  refine lv_isub hx hb dX1_comesNext_30 ?_
  refine va_mmin hx hb (hml.trans hl.1.symm) hown (hts _ mbX1_comesNext_5) (hts _ mbX1_comesNext_6) (hts _ mbX1_comesNext_7) (hts _ mbX1_comesNext_8) (Nat.le_of_ble_eq_true rfl) (Nat.le_of_ble_eq_true rfl) (Nat.zero_le _) (Nat.zero_le _) dX1_comesNext_31 ?_
  obtain ⟨v_7, hv_8, hm⟩ := bnd_elim hm
  refine x_name hv_8 ?_
  refine lv_istore (lv' := [(7, .int v_7), (5, .long v_5), (3, .long v_3), (0, .ref (ga g 130)), (1, .int a1), (2, .int a2)]) hx hb dX1_comesNext_34 hl (by decide) rfl (fun ls hl => ?_)
  refine lv_aload_n hx hb dX1_comesNext_36 rfl (lv_at hl 3 rfl) ?_
  refine xg_X1_7 X hP hAll uX1_comesNext_X1 mbX1_comesNext_3 dX1_comesNext_37 ?_
  refine lv_iload_n hx hb dX1_comesNext_40 rfl (lv_at hl 5 rfl) ?_
  refine va_mmin hx hb (hml.trans hl.1.symm) hown (hts _ mbX1_comesNext_5) (hts _ mbX1_comesNext_6) (hts _ mbX1_comesNext_7) (hts _ mbX1_comesNext_8) (Nat.le_of_ble_eq_true rfl) (Nat.le_of_ble_eq_true rfl) (Nat.zero_le _) (Nat.zero_le _) dX1_comesNext_41 ?_
  obtain ⟨v_9, hv_10, hm⟩ := bnd_elim hm
  refine x_name hv_10 ?_
  refine lv_istore (lv' := [(8, .int v_9), (7, .int v_7), (5, .long v_5), (3, .long v_3), (0, .ref (ga g 130)), (1, .int a1), (2, .int a2)]) hx hb dX1_comesNext_44 hl (by decide) rfl (fun ls hl => ?_)
  refine lv_lload_n hx hb dX1_comesNext_46 rfl (lv_at hl 3 rfl) ?_
  refine lv_lload hx hb dX1_comesNext_47 (lv_at hl 2 rfl) ?_
  refine lv_lmul hx hb dX1_comesNext_49 ?_
  refine lv_aload_n hx hb dX1_comesNext_50 rfl (lv_at hl 4 rfl) ?_
  refine xg_X1_0 X hP hAll uX1_comesNext_X1 mbX1_comesNext_9 dX1_comesNext_51 ?_
  refine lv_iload_n hx hb dX1_comesNext_54 rfl (lv_at hl 6 rfl) ?_
  refine lv_iload hx hb dX1_comesNext_55 (lv_at hl 1 rfl) ?_
  refine lv_iadd hx hb dX1_comesNext_57 ?_
  refine lv_iload hx hb dX1_comesNext_58 (lv_at hl 0 rfl) ?_
  refine lv_isub hx hb dX1_comesNext_60 ?_
  obtain ⟨hb_11, hm⟩ := chk_elim hm
  refine x_lald X hP (okc_131 hAll) hb_11 dX1_comesNext_61 ?_
  refine lv_lmul hx hb dX1_comesNext_62 ?_
  refine lv_lload_n hx hb dX1_comesNext_63 rfl (lv_at hl 3 rfl) ?_
  refine lv_ldc2 (v := 1000) hx hb hown (hts _ mbX1_comesNext_10) dX1_comesNext_64 ?_
  refine lv_lload hx hb dX1_comesNext_67 (lv_at hl 2 rfl) ?_
  refine lv_lsub hx hb dX1_comesNext_69 ?_
  refine lv_lmul hx hb dX1_comesNext_70 ?_
  refine lv_aload_n hx hb dX1_comesNext_71 rfl (lv_at hl 4 rfl) ?_
  refine xg_X1_0 X hP hAll uX1_comesNext_X1 mbX1_comesNext_9 dX1_comesNext_72 ?_
  refine lv_iload_n hx hb dX1_comesNext_75 rfl (lv_at hl 6 rfl) ?_
  refine lv_iload hx hb dX1_comesNext_76 (lv_at hl 1 rfl) ?_
  refine lv_iadd hx hb dX1_comesNext_78 ?_
  obtain ⟨hb_12, hm⟩ := chk_elim hm
  refine x_lald X hP (okc_131 hAll) hb_12 dX1_comesNext_79 ?_
  refine lv_lmul hx hb dX1_comesNext_80 ?_
  refine lv_ladd hx hb dX1_comesNext_81 ?_
  refine lv_ldc2 (v := 1000) hx hb hown (hts _ mbX1_comesNext_10) dX1_comesNext_82 ?_
  refine lv_lload_n hx hb dX1_comesNext_85 rfl (lv_at hl 3 rfl) ?_
  refine lv_lsub hx hb dX1_comesNext_86 ?_
  refine lv_lload hx hb dX1_comesNext_87 (lv_at hl 2 rfl) ?_
  refine lv_lmul hx hb dX1_comesNext_89 ?_
  refine lv_aload_n hx hb dX1_comesNext_90 rfl (lv_at hl 4 rfl) ?_
  refine xg_X1_0 X hP hAll uX1_comesNext_X1 mbX1_comesNext_9 dX1_comesNext_91 ?_
  refine lv_iload_n hx hb dX1_comesNext_94 rfl (lv_at hl 6 rfl) ?_
  refine lv_iload hx hb dX1_comesNext_95 (lv_at hl 0 rfl) ?_
  refine lv_isub hx hb dX1_comesNext_97 ?_
  obtain ⟨hb_13, hm⟩ := chk_elim hm
  refine x_lald X hP (okc_131 hAll) hb_13 dX1_comesNext_98 ?_
  refine lv_lmul hx hb dX1_comesNext_99 ?_
  refine lv_ladd hx hb dX1_comesNext_100 ?_
  refine lv_ldc2 (v := 1000) hx hb hown (hts _ mbX1_comesNext_10) dX1_comesNext_101 ?_
  refine lv_lload_n hx hb dX1_comesNext_104 rfl (lv_at hl 3 rfl) ?_
  refine lv_lsub hx hb dX1_comesNext_105 ?_
  refine lv_ldc2 (v := 1000) hx hb hown (hts _ mbX1_comesNext_10) dX1_comesNext_106 ?_
  refine lv_lload hx hb dX1_comesNext_109 (lv_at hl 2 rfl) ?_
  refine lv_lsub hx hb dX1_comesNext_111 ?_
  refine lv_lmul hx hb dX1_comesNext_112 ?_
  refine lv_aload_n hx hb dX1_comesNext_113 rfl (lv_at hl 4 rfl) ?_
  refine xg_X1_0 X hP hAll uX1_comesNext_X1 mbX1_comesNext_9 dX1_comesNext_114 ?_
  refine lv_iload_n hx hb dX1_comesNext_117 rfl (lv_at hl 6 rfl) ?_
  refine x_lald X hP (okc_131 hAll) hb_2 dX1_comesNext_118 ?_
  refine lv_lmul hx hb dX1_comesNext_119 ?_
  refine lv_ladd hx hb dX1_comesNext_120 ?_
  obtain ⟨v_14, hv_15, hm⟩ := bnd_elim hm
  refine x_namel hv_15 ?_
  refine lv_lstore (lv' := [(9, .long v_14), (8, .int v_9), (7, .int v_7), (5, .long v_5), (3, .long v_3), (0, .ref (ga g 130)), (1, .int a1), (2, .int a2)]) hx hb dX1_comesNext_121 hl (by decide) rfl (fun ls hl => ?_)
  refine lv_lload hx hb dX1_comesNext_123 (lv_at hl 0 rfl) ?_
  refine lv_ldc2 (v := 1000000) hx hb hown (hts _ mbX1_comesNext_11) dX1_comesNext_125 ?_
  obtain ⟨r_17, hc_16, hm⟩ := bind_elim hm
  refine x_calll (x_runS (As := [.long v_14, .long 1000000]) (rest := []) X hP hS (c_J9_floorDiv_f86c9 l X.2.2 hc_16) (va_cwS 2 hts gX1_comesNext_J9_floorDiv_f86c9 rfl rfl rfl (by decide +kernel) ⟨Nat.le_of_ble_eq_true rfl, Nat.le_of_ble_eq_true rfl⟩) rfl hl.1 rfl (Nat.le_of_ble_eq_true rfl) dX1_comesNext_128 ⟨Nat.zero_le _, Nat.zero_le _⟩) hS (fun H locs hP hS => ?_)
  cases hm
  exact x_lret X hP hS hr hlocks dX1_comesNext_131


/-! X1_choose -/
def rmX1_choose : Room := { frames := 2, cells := 0, slots := 0, locals := 55 }
theorem mbX1_choose_0 : Cond.fieldLink RX1 22 "FootANight$Duel" "WAYS" "[I" ∈ wsX1_choose := by decide +kernel
theorem mbX1_choose_1 : Cond.constantLong RX1 88 (1000) ∈ wsX1_choose := by decide +kernel
theorem uX1_choose_X1 : ∀ w ∈ wsX10, w ∈ wsX1_choose := by decide +kernel
theorem mbX1_choose_3 : Cond.fieldLink RX1 27 "FootANight$Duel" "means" "[[I" ∈ wsX1_choose := by decide +kernel
theorem mbX1_choose_4 : Cond.fieldLink RX1 19 "FootANight$Duel" "sooner" "[J" ∈ wsX1_choose := by decide +kernel
theorem mbX1_choose_5 : Cond.fieldLink RX1 15 "FootANight$Duel" "doing" "[I" ∈ wsX1_choose := by decide +kernel
set_option maxHeartbeats 4000000 in
set_option maxRecDepth 100000 in
theorem wj_X1_choose_57i (X : CxG g p s m args c cX1_choose 6 RX1 wsX1_choose) (hAll : okAll g) {fu : Nat} {M : Mem} {s1 : Int32} {s2 : Int32} {s3 : Int32} {s4 : Int64} {o : (Int32 × Mem) ⊕ (Mem)} (kb : ∀ (d3 : Int32) (M2 : Mem) , o = .inl (d3, M2) → ∀ (H : Heap) (locs : List Loc) (ls : Array Slot), va_P (gD g) vwCl (wlG g M2) H → va_S (AbG g) s.heap H locs → lv_has ls 6 [(0, .ref (ga g 130)), (1, .int s1), (2, .int s2), (3, .int d3)] → W p l e (headSpec wsX1_choose rmX1_choose).room s m args below meth c H locs 0 0 Q (F0 m 2 ls [])) (kx0 : ∀ (M2 : Mem) , o = .inr M2 → ∀ (H : Heap) (locs : List Loc) (ls : Array Slot), va_P (gD g) vwCl (wlG g M2) H → va_S (AbG g) s.heap H locs → lv_has ls 6 [] → W p l e (headSpec wsX1_choose rmX1_choose).room s m args below meth c H locs 0 0 Q (F0 m 82 ls [])) (hm : j_X1_choose_57i fu M s1 s2 s3 s4 = some o) {H : Heap} {locs : List Loc} {ls : Array Slot} (hP : va_P (gD g) vwCl (wlG g M) H) (hS : va_S (AbG g) s.heap H locs) (hl : lv_has ls 6 [(0, .ref (ga g 130)), (1, .int s1), (2, .int s2), (3, .int s3), (4, .long s4)]) : W p l e (headSpec wsX1_choose rmX1_choose).room s m args below meth c H locs 0 0 Q (F0 m 57 ls []) := by
  obtain ⟨⟨hx, hb, hml, hown, hts⟩, -, -⟩ := id X
  unfold j_X1_choose_57i at hm
  refine lv_aload_n hx hb dX1_choose_57 rfl (lv_at hl 0 rfl) ?_
  refine xg_X1_2 X hP hAll uX1_choose_X1 mbX1_choose_4 dX1_choose_58 ?_
  refine lv_iload_n hx hb dX1_choose_61 rfl (lv_at hl 1 rfl) ?_
  refine lv_lload hx hb dX1_choose_62 (lv_at hl 4 rfl) ?_
  obtain ⟨hb_11, hm⟩ := chk_elim hm
  obtain ⟨M_12, hM_13, hm⟩ := bnd_elim hm
  refine x_last X hP hS (okc_133 hAll) hM_13 hb_11 dX1_choose_64 (fun H locs hP hS => ?_)
  refine lv_aload_n hx hb dX1_choose_65 rfl (lv_at hl 0 rfl) ?_
  refine xg_X1_1 X hP hAll uX1_choose_X1 mbX1_choose_5 dX1_choose_66 ?_
  refine lv_iload_n hx hb dX1_choose_69 rfl (lv_at hl 1 rfl) ?_
  refine x_gets X hS 4 (by decide) mbX1_choose_0 dX1_choose_70 ?_
  refine lv_iload_n hx hb dX1_choose_73 rfl (lv_at hl 3 rfl) ?_
  obtain ⟨hb_14, hm⟩ := chk_elim hm
  refine x_stld (i := 4) X hS (by decide) hb_14 dX1_choose_74 ?_
  obtain ⟨M_15, hM_16, hm⟩ := bnd_elim hm
  refine x_iast X hP hS (okc_132 hAll) hM_16 hb_11 dX1_choose_75 (fun H locs hP hS => ?_)
  obtain ⟨v_17, hv_18, hm⟩ := bnd_elim hm
  refine lv_iinc (v := v_17) (lv' := [(3, .int v_17), (0, .ref (ga g 130)), (1, .int s1), (2, .int s2), (4, .long s4)]) hx hb dX1_choose_76 hl (k := 3) rfl (by rw [hv_18]; rfl) (by decide) rfl (fun ls hl => ?_)
  refine lv_goto (tgt := 2) hx hb dX1_choose_79 (by decide) ?_
  exact kb v_17 M_15 (Option.some.inj hm).symm _ _ _ hP hS (lv_sub hl [1, 2, 3, 0] rfl)

set_option maxHeartbeats 4000000 in
set_option maxRecDepth 100000 in
theorem wl_X1_choose_2 (X : CxG g p s m args c cX1_choose 6 RX1 wsX1_choose) (hAll : okAll g) {fu : Nat} {s1 : Int32} {s2 : Int32} {x : Mem} (kx0 : ∀ (M2 : Mem) , x = M2 → ∀ (H : Heap) (locs : List Loc) (ls : Array Slot), va_P (gD g) vwCl (wlG g M2) H → va_S (AbG g) s.heap H locs → lv_has ls 6 [] → W p l e (headSpec wsX1_choose rmX1_choose).room s m args below meth c H locs 0 0 Q (F0 m 82 ls [])) {n : Nat} {q0 : Int32 × Mem} (h : lp (b_X1_choose_2 fu s1 s2) n q0 = some x) : ∀ (H : Heap) (locs : List Loc) (ls : Array Slot), va_P (gD g) vwCl (wlG g q0.2) H → va_S (AbG g) s.heap H locs → lv_has ls 6 [(0, .ref (ga g 130)), (1, .int s1), (2, .int s2), (3, .int q0.1)] → W p l e (headSpec wsX1_choose rmX1_choose).room s m args below meth c H locs 0 0 Q (F0 m 2 ls []) := by
  refine lp_elim (P := fun q0 : Int32 × Mem => ∀ (H : Heap) (locs : List Loc) (ls : Array Slot), va_P (gD g) vwCl (wlG g q0.2) H → va_S (AbG g) s.heap H locs → lv_has ls 6 [(0, .ref (ga g 130)), (1, .int s1), (2, .int s2), (3, .int q0.1)] → W p l e (headSpec wsX1_choose rmX1_choose).room s m args below meth c H locs 0 0 Q (F0 m 2 ls [])) (fun q1 o hm hI hX => ?_) n q0 h
  obtain ⟨c3, M⟩ := q1
  have kb : ∀ (d3 : Int32) (M2 : Mem) , o = .inl (d3, M2) → ∀ (H : Heap) (locs : List Loc) (ls : Array Slot), va_P (gD g) vwCl (wlG g M2) H → va_S (AbG g) s.heap H locs → lv_has ls 6 [(0, .ref (ga g 130)), (1, .int s1), (2, .int s2), (3, .int d3)] → W p l e (headSpec wsX1_choose rmX1_choose).room s m args below meth c H locs 0 0 Q (F0 m 2 ls []) := fun d3 M2 e => hI _ e
  have kx0 : ∀ (M2 : Mem) , o = .inr M2 → ∀ (H : Heap) (locs : List Loc) (ls : Array Slot), va_P (gD g) vwCl (wlG g M2) H → va_S (AbG g) s.heap H locs → lv_has ls 6 [] → W p l e (headSpec wsX1_choose rmX1_choose).room s m args below meth c H locs 0 0 Q (F0 m 82 ls []) := fun M2 e => kx0 M2 (hX _ e).symm
  clear hI hX
  intro H locs ls hP hS hl
  obtain ⟨⟨hx, hb, hml, hown, hts⟩, -, -⟩ := id X
  have hl : lv_has ls 6 [(0, .ref (ga g 130)), (1, .int s1), (2, .int s2), (3, .int c3)] := hl
  have hP : va_P (gD g) vwCl (wlG g M) H := hP
  unfold b_X1_choose_2 at hm
  replace hm := un2_e hm
  refine lv_iload_n hx hb dX1_choose_2 rfl (lv_at hl 3 rfl) ?_
  refine x_gets X hS 4 (by decide) mbX1_choose_0 dX1_choose_3 ?_
  refine x_stlen (i := 4) X hS (by decide) dX1_choose_6 ?_
  refine lv_icmp_ge (tgt := 82) hx hb dX1_choose_7 (by decide) (fun h_1 => ?_) (fun h_1 => ?_)
  · rw [if_pos h_1] at hm
    exact kx0 M (Option.some.inj hm).symm _ _ _ hP hS (lv_sub hl [] rfl)
  · rw [if_neg h_1] at hm
    refine lv_ldc2 (v := 1000) hx hb hown (hts _ mbX1_choose_1) dX1_choose_10 ?_
    refine lv_aload_n hx hb dX1_choose_13 rfl (lv_at hl 0 rfl) ?_
    refine xg_X1_3 X hP hAll uX1_choose_X1 mbX1_choose_3 dX1_choose_14 ?_
    refine lv_iload_n hx hb dX1_choose_17 rfl (lv_at hl 3 rfl) ?_
    obtain ⟨hb_2, hm⟩ := chk_elim hm
    refine x_aaldI X hP (okc_134 hAll) hb_2 dX1_choose_18 ?_
    refine lv_iload_n hx hb dX1_choose_19 rfl (lv_at hl 1 rfl) ?_
    obtain ⟨hb_3, hm⟩ := chk_elim hm
    refine x_iald X hP (okr_134 hAll (inb_lt hb_2)) hb_3 dX1_choose_20 ?_
    refine lv_i2l (v := (rd M (137 + ix c3) (ix s1)).toInt64) hx hb dX1_choose_21 rfl ?_
    refine lv_lmul hx hb dX1_choose_22 ?_
    refine lv_iload_n hx hb dX1_choose_23 rfl (lv_at hl 2 rfl) ?_
    refine lv_i2l (v := s2.toInt64) hx hb dX1_choose_24 rfl ?_
    refine lv_aload_n hx hb dX1_choose_25 rfl (lv_at hl 0 rfl) ?_
    refine lv_iload_n hx hb dX1_choose_26 rfl (lv_at hl 3 rfl) ?_
    refine lv_iload_n hx hb dX1_choose_27 rfl (lv_at hl 1 rfl) ?_
    obtain ⟨r_5, hc_4, hm⟩ := bind_elim hm
    refine x_calll (x_runV (As := [.int c3, .int s1]) (rest := [.long s2.toInt64, .long (1000 * ((rd M (137 + ix c3) (ix s1)).toInt64))]) X hP hS (c_X1_comesNext l X.2.2 hAll hc_4) (cwV 2 hts gX1_choose_X1_comesNext rfl rfl rfl (by decide +kernel) ⟨Nat.le_of_ble_eq_true rfl, Nat.le_of_ble_eq_true rfl⟩) (x_recv (C := RX1) (T := TX1) (N := 8) X hP (okc_130 hAll) rfl) rfl hl.1 rfl (Nat.le_of_ble_eq_true rfl) dX1_choose_28 ⟨Nat.zero_le _, Nat.zero_le _⟩) hS (fun H locs hP hS => ?_)
    refine lv_lmul hx hb dX1_choose_31 ?_
    refine lv_ldc2 (v := 1000) hx hb hown (hts _ mbX1_choose_1) dX1_choose_32 ?_
    obtain ⟨r_7, hc_6, hm⟩ := bind_elim hm
    refine x_calll (x_runS (As := [.long (s2.toInt64 * r_5), .long 1000]) (rest := [.long (1000 * ((rd M (137 + ix c3) (ix s1)).toInt64))]) X hP hS (c_J9_floorDiv_f86c9 l X.2.2 hc_6) (va_cwS 2 hts gX1_choose_J9_floorDiv_f86c9 rfl rfl rfl (by decide +kernel) ⟨Nat.le_of_ble_eq_true rfl, Nat.le_of_ble_eq_true rfl⟩) rfl hl.1 rfl (Nat.le_of_ble_eq_true rfl) dX1_choose_35 ⟨Nat.zero_le _, Nat.zero_le _⟩) hS (fun H locs hP hS => ?_)
    refine lv_ladd hx hb dX1_choose_38 ?_
    obtain ⟨v_8, hv_9, hm⟩ := bnd_elim hm
    refine x_namel hv_9 ?_
    refine lv_lstore (lv' := [(4, .long v_8), (0, .ref (ga g 130)), (1, .int s1), (2, .int s2), (3, .int c3)]) hx hb dX1_choose_39 hl (by decide) rfl (fun ls hl => ?_)
    refine lv_iload_n hx hb dX1_choose_41 rfl (lv_at hl 4 rfl) ?_
    refine lv_if_eq (tgt := 57) hx hb dX1_choose_42 (by decide) (fun h_10 => ?_) (fun h_10 => ?_)
    · rw [if_pos h_10] at hm
      exact wj_X1_choose_57i X hAll kb kx0 hm hP hS (lv_sub hl [1, 2, 3, 4, 0] rfl)
    · rw [if_neg h_10] at hm
      refine lv_lload hx hb dX1_choose_45 (lv_at hl 0 rfl) ?_
      refine lv_aload_n hx hb dX1_choose_47 rfl (lv_at hl 1 rfl) ?_
      refine xg_X1_2 X hP hAll uX1_choose_X1 mbX1_choose_4 dX1_choose_48 ?_
      refine lv_iload_n hx hb dX1_choose_51 rfl (lv_at hl 2 rfl) ?_
      refine x_lald X hP (okc_133 hAll) hb_3 dX1_choose_52 ?_
      refine W.lcmp hx hb dX1_choose_53 ?_
      refine lv_if_le (tgt := 76) hx hb dX1_choose_54 (by decide) (fun h_19 => ?_) (fun h_19 => ?_)
      · rw [if_pos h_19] at hm
        obtain ⟨v_20, hv_21, hm⟩ := bnd_elim hm
        refine lv_iinc (v := v_20) (lv' := [(3, .int v_20), (4, .long v_8), (0, .ref (ga g 130)), (1, .int s1), (2, .int s2)]) hx hb dX1_choose_76 hl (k := 4) rfl (by rw [hv_21]; rfl) (by decide) rfl (fun ls hl => ?_)
        refine lv_goto (tgt := 2) hx hb dX1_choose_79 (by decide) ?_
        exact kb v_20 M (Option.some.inj hm).symm _ _ _ hP hS (lv_sub hl [2, 3, 4, 0] rfl)
      · rw [if_neg h_19] at hm
        exact wj_X1_choose_57i X hAll kb kx0 hm hP hS (lv_sub hl [1, 2, 3, 4, 0] rfl)

set_option maxHeartbeats 4000000 in
set_option maxRecDepth 100000 in
theorem c_X1_choose (l : Launch) {g : GT} (hA : AxG g) (hAll : okAll g)   {fu : Nat} {M : Mem} {a1 : Int32} {a2 : Int32} {MM : Mem} (hm : m_X1_choose fu M a1 a2 = some MM) : CV l yX1_choose wsX1_choose rmX1_choose g [.ref (ga g 130), .int a1, .int a2] M MM := by
  refine Met.ofW (cc := cX1_choose) (maxL := 6) (ret := none) (by decide) rfl ?_
  intro p e s m args below meth c s₁ B hml hv
  obtain ⟨rfl, hSx, hP⟩ := hv
  have hr := B.returns
  have hlocks := B.notSynchronized
  have X : CxG g p s m _ c cX1_choose 6 RX1 wsX1_choose := ⟨⟨B.exec, B.bytes, hml, findClass_of_methodNamed B.named, atoms_spec (ws := wsX1_choose) B.pre⟩, hSx, hA⟩
  have hS : va_S (AbG g) s.heap s.heap [] := va_S.rf
  have hl := lv_entry (([.ref (ga g 130), .int a1, .int a2] : List Value)) (n := 6) (Nat.le_of_ble_eq_true rfl)
  rw [lg_entry_eq]
  generalize (lg_sl (([.ref (ga g 130), .int a1, .int a2] : List Value)) ++ List.replicate (6 - (lg_sl (([.ref (ga g 130), .int a1, .int a2] : List Value))).length) Slot.unset).toArray = ls at hl ⊢
  have hl : lv_has ls 6 [(0, .ref (ga g 130)), (1, .int a1), (2, .int a2)] := hl
  obtain ⟨⟨hx, hb, hml, hown, hts⟩, -, -⟩ := id X
  unfold m_X1_choose at hm
  refine lv_iconst (v := 0) hx hb dX1_choose_0 (by decide) ?_
  refine lv_istore_n (lv' := [(3, .int 0), (0, .ref (ga g 130)), (1, .int a1), (2, .int a2)]) hx hb dX1_choose_1 rfl hl (by decide) rfl (fun ls hl => ?_)
  obtain ⟨M_24, hL_23, hm⟩ := bind_elim hm
  refine wl_X1_choose_2 X hAll ?_ hL_23 _ _ _ hP hS (lv_sub hl [1, 2, 3, 0] rfl)
  · intro z_M_24 e_M_24 H locs ls hP hS hl
    subst e_M_24
    replace hm := un1_e hm
    cases hm
    exact x_vret X hP hS hr hlocks dX1_choose_82


/-! X1_play -/
def rmX1_play : Room := { frames := 3, cells := 0, slots := 0, locals := 80 }
theorem uX1_play_X1 : ∀ w ∈ wsX10, w ∈ wsX1_play := by decide +kernel
theorem mbX1_play_1 : Cond.fieldLink RX1 9 "FootANight$Duel" "later" "[J" ∈ wsX1_play := by decide +kernel
theorem mbX1_play_2 : Cond.fieldLink RX1 36 "FootANight$Duel" "all" "I" ∈ wsX1_play := by decide +kernel
theorem mbX1_play_3 : Cond.fieldLink RX1 19 "FootANight$Duel" "sooner" "[J" ∈ wsX1_play := by decide +kernel
theorem mbX1_play_4 : Cond.methodLink RX1 82 arraycopyName ∈ wsX1_play := by decide +kernel
theorem mbX1_play_5 : Cond.native arraycopyName ∈ wsX1_play := by decide +kernel
theorem mbX1_play_6 : Cond.static arraycopyName ∈ wsX1_play := by decide +kernel
theorem mbX1_play_7 : Cond.initialized "java/lang/System" ∈ wsX1_play := by decide +kernel
set_option maxHeartbeats 4000000 in
set_option maxRecDepth 100000 in
theorem wl_X1_play_18 (X : CxG g p s m args c cX1_play 5 RX1 wsX1_play) (hAll : okAll g) {fu : Nat} {s1 : Int32} {s2 : Int32} {s3 : Int32} {x : Mem} (kx0 : ∀ (M2 : Mem) , x = M2 → ∀ (H : Heap) (locs : List Loc) (ls : Array Slot), va_P (gD g) vwCl (wlG g M2) H → va_S (AbG g) s.heap H locs → lv_has ls 5 [(0, .ref (ga g 130)), (1, .int s1), (2, .int s2), (3, .int s3)] → W p l e (headSpec wsX1_play rmX1_play).room s m args below meth c H locs 0 0 Q (F0 m 40 ls [])) {n : Nat} {q0 : Int32 × Mem} (h : lp (b_X1_play_18 fu s1 s2 s3) n q0 = some x) : ∀ (H : Heap) (locs : List Loc) (ls : Array Slot), va_P (gD g) vwCl (wlG g q0.2) H → va_S (AbG g) s.heap H locs → lv_has ls 5 [(0, .ref (ga g 130)), (1, .int s1), (2, .int s2), (3, .int s3), (4, .int q0.1)] → W p l e (headSpec wsX1_play rmX1_play).room s m args below meth c H locs 0 0 Q (F0 m 18 ls []) := by
  refine lp_elim (P := fun q0 : Int32 × Mem => ∀ (H : Heap) (locs : List Loc) (ls : Array Slot), va_P (gD g) vwCl (wlG g q0.2) H → va_S (AbG g) s.heap H locs → lv_has ls 5 [(0, .ref (ga g 130)), (1, .int s1), (2, .int s2), (3, .int s3), (4, .int q0.1)] → W p l e (headSpec wsX1_play rmX1_play).room s m args below meth c H locs 0 0 Q (F0 m 18 ls [])) (fun q1 o hm hI hX => ?_) n q0 h
  obtain ⟨c4, M⟩ := q1
  have kb : ∀ (d4 : Int32) (M2 : Mem) , o = .inl (d4, M2) → ∀ (H : Heap) (locs : List Loc) (ls : Array Slot), va_P (gD g) vwCl (wlG g M2) H → va_S (AbG g) s.heap H locs → lv_has ls 5 [(0, .ref (ga g 130)), (1, .int s1), (2, .int s2), (3, .int s3), (4, .int d4)] → W p l e (headSpec wsX1_play rmX1_play).room s m args below meth c H locs 0 0 Q (F0 m 18 ls []) := fun d4 M2 e => hI _ e
  have kx0 : ∀ (M2 : Mem) , o = .inr M2 → ∀ (H : Heap) (locs : List Loc) (ls : Array Slot), va_P (gD g) vwCl (wlG g M2) H → va_S (AbG g) s.heap H locs → lv_has ls 5 [(0, .ref (ga g 130)), (1, .int s1), (2, .int s2), (3, .int s3)] → W p l e (headSpec wsX1_play rmX1_play).room s m args below meth c H locs 0 0 Q (F0 m 40 ls []) := fun M2 e => kx0 M2 (hX _ e).symm
  clear hI hX
  intro H locs ls hP hS hl
  obtain ⟨⟨hx, hb, hml, hown, hts⟩, -, -⟩ := id X
  have hl : lv_has ls 5 [(0, .ref (ga g 130)), (1, .int s1), (2, .int s2), (3, .int s3), (4, .int c4)] := hl
  have hP : va_P (gD g) vwCl (wlG g M) H := hP
  unfold b_X1_play_18 at hm
  replace hm := un2_e hm
  refine lv_iload hx hb dX1_play_18 (lv_at hl 4 rfl) ?_
  refine lv_aload_n hx hb dX1_play_20 rfl (lv_at hl 0 rfl) ?_
  refine xg_X1_6 X hP hAll uX1_play_X1 mbX1_play_2 dX1_play_21 ?_
  refine lv_icmp_gt (tgt := 40) hx hb dX1_play_24 (by decide) (fun h_4 => ?_) (fun h_4 => ?_)
  · rw [if_pos h_4] at hm
    exact kx0 M (Option.some.inj hm).symm _ _ _ hP hS (lv_sub hl [0, 1, 2, 3] rfl)
  · rw [if_neg h_4] at hm
    refine lv_aload_n hx hb dX1_play_27 rfl (lv_at hl 0 rfl) ?_
    refine lv_iload hx hb dX1_play_28 (lv_at hl 4 rfl) ?_
    refine lv_iload_n hx hb dX1_play_30 rfl (lv_at hl 2 rfl) ?_
    obtain ⟨M_6, hc_5, hm⟩ := bind_elim hm
    refine x_callv (x_runV (As := [.int c4, .int s2]) (rest := []) X hP hS (c_X1_choose l X.2.2 hAll hc_5) (cwV 2 hts gX1_play_X1_choose rfl rfl rfl (by decide +kernel) ⟨Nat.le_of_ble_eq_true rfl, Nat.le_of_ble_eq_true rfl⟩) (x_recv (C := RX1) (T := TX1) (N := 8) X hP (okc_130 hAll) rfl) rfl hl.1 rfl (Nat.le_of_ble_eq_true rfl) dX1_play_31 ⟨Nat.zero_le _, Nat.zero_le _⟩) hS (fun H locs hP hS => ?_)
    obtain ⟨v_7, hv_8, hm⟩ := bnd_elim hm
    refine lv_iinc (v := v_7) (lv' := [(4, .int v_7), (0, .ref (ga g 130)), (1, .int s1), (2, .int s2), (3, .int s3)]) hx hb dX1_play_34 hl (k := 4) rfl (by rw [hv_8]; rfl) (by decide) rfl (fun ls hl => ?_)
    refine lv_goto (tgt := 18) hx hb dX1_play_37 (by decide) ?_
    exact kb v_7 M_6 (Option.some.inj hm).symm _ _ _ hP hS (lv_sub hl [1, 2, 3, 4, 0] rfl)

set_option maxHeartbeats 4000000 in
set_option maxRecDepth 100000 in
theorem wl_X1_play_10 (X : CxG g p s m args c cX1_play 5 RX1 wsX1_play) (hAll : okAll g) {fu : Nat} {s1 : Int32} {s2 : Int32} {x : Mem} (kx0 : ∀ (M2 : Mem) , x = M2 → ∀ (H : Heap) (locs : List Loc) (ls : Array Slot), va_P (gD g) vwCl (wlG g M2) H → va_S (AbG g) s.heap H locs → lv_has ls 5 [] → W p l e (headSpec wsX1_play rmX1_play).room s m args below meth c H locs 0 0 Q (F0 m 65 ls [])) {n : Nat} {q0 : Int32 × Mem} (h : lp (b_X1_play_10 fu s1 s2) n q0 = some x) : ∀ (H : Heap) (locs : List Loc) (ls : Array Slot), va_P (gD g) vwCl (wlG g q0.2) H → va_S (AbG g) s.heap H locs → lv_has ls 5 [(0, .ref (ga g 130)), (1, .int s1), (2, .int s2), (3, .int q0.1)] → W p l e (headSpec wsX1_play rmX1_play).room s m args below meth c H locs 0 0 Q (F0 m 10 ls []) := by
  refine lp_elim (P := fun q0 : Int32 × Mem => ∀ (H : Heap) (locs : List Loc) (ls : Array Slot), va_P (gD g) vwCl (wlG g q0.2) H → va_S (AbG g) s.heap H locs → lv_has ls 5 [(0, .ref (ga g 130)), (1, .int s1), (2, .int s2), (3, .int q0.1)] → W p l e (headSpec wsX1_play rmX1_play).room s m args below meth c H locs 0 0 Q (F0 m 10 ls [])) (fun q1 o hm hI hX => ?_) n q0 h
  obtain ⟨c3, M⟩ := q1
  have kb : ∀ (d3 : Int32) (M2 : Mem) , o = .inl (d3, M2) → ∀ (H : Heap) (locs : List Loc) (ls : Array Slot), va_P (gD g) vwCl (wlG g M2) H → va_S (AbG g) s.heap H locs → lv_has ls 5 [(0, .ref (ga g 130)), (1, .int s1), (2, .int s2), (3, .int d3)] → W p l e (headSpec wsX1_play rmX1_play).room s m args below meth c H locs 0 0 Q (F0 m 10 ls []) := fun d3 M2 e => hI _ e
  have kx0 : ∀ (M2 : Mem) , o = .inr M2 → ∀ (H : Heap) (locs : List Loc) (ls : Array Slot), va_P (gD g) vwCl (wlG g M2) H → va_S (AbG g) s.heap H locs → lv_has ls 5 [] → W p l e (headSpec wsX1_play rmX1_play).room s m args below meth c H locs 0 0 Q (F0 m 65 ls []) := fun M2 e => kx0 M2 (hX _ e).symm
  clear hI hX
  intro H locs ls hP hS hl
  obtain ⟨⟨hx, hb, hml, hown, hts⟩, -, -⟩ := id X
  have hl : lv_has ls 5 [(0, .ref (ga g 130)), (1, .int s1), (2, .int s2), (3, .int c3)] := hl
  have hP : va_P (gD g) vwCl (wlG g M) H := hP
  unfold b_X1_play_10 at hm
  replace hm := un2_e hm
  refine lv_iload_n hx hb dX1_play_10 rfl (lv_at hl 3 rfl) ?_
  refine lv_iload_n hx hb dX1_play_11 rfl (lv_at hl 1 rfl) ?_
  refine lv_icmp_ge (tgt := 65) hx hb dX1_play_12 (by decide) (fun h_3 => ?_) (fun h_3 => ?_)
  · rw [if_pos h_3] at hm
    exact kx0 M (Option.some.inj hm).symm _ _ _ hP hS (lv_sub hl [] rfl)
  · rw [if_neg h_3] at hm
    refine lv_iconst (v := 0) hx hb dX1_play_15 (by decide) ?_
    refine lv_istore (lv' := [(4, .int 0), (0, .ref (ga g 130)), (1, .int s1), (2, .int s2), (3, .int c3)]) hx hb dX1_play_16 hl (by decide) rfl (fun ls hl => ?_)
    obtain ⟨M_11, hL_10, hm⟩ := bind_elim hm
    refine wl_X1_play_18 X hAll ?_ hL_10 _ _ _ hP hS (lv_sub hl [1, 2, 3, 4, 0] rfl)
    · intro z_M_11 e_M_11 H locs ls hP hS hl
      subst e_M_11
      replace hm := un1_e hm
      refine lv_aload_n hx hb dX1_play_40 rfl (lv_at hl 0 rfl) ?_
      refine xg_X1_2 X hP hAll uX1_play_X1 mbX1_play_3 dX1_play_41 ?_
      refine lv_iconst (v := 0) hx hb dX1_play_44 (by decide) ?_
      refine lv_aload_n hx hb dX1_play_45 rfl (lv_at hl 0 rfl) ?_
      refine xg_X1_0 X hP hAll uX1_play_X1 mbX1_play_1 dX1_play_46 ?_
      refine lv_iconst (v := 0) hx hb dX1_play_49 (by decide) ?_
      refine lv_aload_n hx hb dX1_play_50 rfl (lv_at hl 0 rfl) ?_
      refine xg_X1_6 X hP hAll uX1_play_X1 mbX1_play_2 dX1_play_51 ?_
      refine lv_iconst (v := 1) hx hb dX1_play_54 (by decide) ?_
      refine lv_iadd hx hb dX1_play_55 ?_
      obtain ⟨hc_12, hm⟩ := chk_elim hm
      obtain ⟨M_13, hM_14, hm⟩ := bnd_elim hm
      refine x_copyl X hP hS (hml.trans hl.1.symm) mbX1_play_4 mbX1_play_5 mbX1_play_6 mbX1_play_7 (okc_133 hAll) (okc_131 hAll) hc_12 hM_14 (Nat.le_of_ble_eq_true rfl) (Nat.le_of_ble_eq_true rfl) dX1_play_56 (fun H locs hP hS => ?_)
      obtain ⟨v_15, hv_16, hm⟩ := bnd_elim hm
      refine lv_iinc (v := v_15) (lv' := [(3, .int v_15), (0, .ref (ga g 130)), (1, .int s1), (2, .int s2)]) hx hb dX1_play_59 hl (k := 3) rfl (by rw [hv_16]; rfl) (by decide) rfl (fun ls hl => ?_)
      refine lv_goto (tgt := 10) hx hb dX1_play_62 (by decide) ?_
      exact kb v_15 M_13 (Option.some.inj hm).symm _ _ _ hP hS (lv_sub hl [1, 2, 3, 0] rfl)

set_option maxHeartbeats 4000000 in
set_option maxRecDepth 100000 in
theorem c_X1_play (l : Launch) {g : GT} (hA : AxG g) (hAll : okAll g)   {fu : Nat} {M : Mem} {a1 : Int32} {a2 : Int32} {MM : Mem} (hm : m_X1_play fu M a1 a2 = some MM) : CV l yX1_play wsX1_play rmX1_play g [.ref (ga g 130), .int a1, .int a2] M MM := by
  refine Met.ofW (cc := cX1_play) (maxL := 5) (ret := none) (by decide) rfl ?_
  intro p e s m args below meth c s₁ B hml hv
  obtain ⟨rfl, hSx, hP⟩ := hv
  have hr := B.returns
  have hlocks := B.notSynchronized
  have X : CxG g p s m _ c cX1_play 5 RX1 wsX1_play := ⟨⟨B.exec, B.bytes, hml, findClass_of_methodNamed B.named, atoms_spec (ws := wsX1_play) B.pre⟩, hSx, hA⟩
  have hS : va_S (AbG g) s.heap s.heap [] := va_S.rf
  have hl := lv_entry (([.ref (ga g 130), .int a1, .int a2] : List Value)) (n := 5) (Nat.le_of_ble_eq_true rfl)
  rw [lg_entry_eq]
  generalize (lg_sl (([.ref (ga g 130), .int a1, .int a2] : List Value)) ++ List.replicate (5 - (lg_sl (([.ref (ga g 130), .int a1, .int a2] : List Value))).length) Slot.unset).toArray = ls at hl ⊢
  have hl : lv_has ls 5 [(0, .ref (ga g 130)), (1, .int a1), (2, .int a2)] := hl
  obtain ⟨⟨hx, hb, hml, hown, hts⟩, -, -⟩ := id X
  unfold m_X1_play at hm
  refine lv_aload_n hx hb dX1_play_0 rfl (lv_at hl 0 rfl) ?_
  refine xg_X1_0 X hP hAll uX1_play_X1 mbX1_play_1 dX1_play_1 ?_
  refine lv_lconst (v := 0) hx hb dX1_play_4 (by decide) ?_
  obtain ⟨M_2, hc_1, hm⟩ := bind_elim hm
  refine x_callv (x_runS (As := [.ref (ga g 131), .long 0]) (rest := []) X hP hS (c_J7_fill_d0a16 l X.2.2 (okc_131 hAll) hc_1) (va_cwS 2 hts gX1_play_J7_fill_d0a16 rfl rfl rfl (by decide +kernel) ⟨Nat.le_of_ble_eq_true rfl, Nat.le_of_ble_eq_true rfl⟩) rfl hl.1 rfl (Nat.le_of_ble_eq_true rfl) dX1_play_5 ⟨Nat.zero_le _, Nat.zero_le _⟩) hS (fun H locs hP hS => ?_)
  refine lv_iconst (v := 0) hx hb dX1_play_8 (by decide) ?_
  refine lv_istore_n (lv' := [(3, .int 0), (0, .ref (ga g 130)), (1, .int a1), (2, .int a2)]) hx hb dX1_play_9 rfl hl (by decide) rfl (fun ls hl => ?_)
  obtain ⟨M_19, hL_18, hm⟩ := bind_elim hm
  refine wl_X1_play_10 X hAll ?_ hL_18 _ _ _ hP hS (lv_sub hl [1, 2, 3, 0] rfl)
  · intro z_M_19 e_M_19 H locs ls hP hS hl
    subst e_M_19
    replace hm := un1_e hm
    cases hm
    exact x_vret X hP hS hr hlocks dX1_play_65

end
