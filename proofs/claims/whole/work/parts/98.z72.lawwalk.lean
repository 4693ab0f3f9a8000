/-! the law's loop: written by wip/whole/gen/law.py -/
section
variable {p : Program} {l : Launch} {e : Env} {s : State} {m : MethodId} {args : Array Value} {below : List Frame} {meth : Method} {c : Code} {Q : State → Prop} {g : GT}

set_option maxHeartbeats 4000000 in
set_option maxRecDepth 100000 in
theorem wj_L_law_916i (X : CxG g p s m args c cL_law 4 RL wsL_law) (hAll : okAll g) {L : Nat} {xs : Nat → Int32} {b kc ks : Nat} (hX : va_X b L xs s s.heap) (hbl : b < s.heap.size) (hbA : ¬ AbG g b) (hkc : kc ≤ room_1.cells) (hks : ks ≤ room_1.slots) {fu : Nat} {M : Mem} {s3 : Int32} {t0 : Int32} {t2 : Int32} {o : (Int32 × Mem) ⊕ (Mem)} (kb : ∀ (d3 : Int32) (M2 : Mem) , o = .inl (d3, M2) → ∀ (H : Heap) (locs : List Loc) (ls : Array Slot), va_P (gD g) vwCl (wlG g M2) H → va_S (AbG g) s.heap H locs → lv_has ls 4 [(0, .ref b), (1, .ref (ga g 146)), (2, .ref (ga g 148)), (3, .int d3)] → W p l e room_1 s m args below meth c H locs kc ks Q (F0 m 18 ls [])) (kx0 : ∀ (M2 : Mem) , o = .inr M2 → ∀ (H : Heap) (locs : List Loc) (ls : Array Slot), va_P (gD g) vwCl (wlG g M2) H → va_S (AbG g) s.heap H locs → lv_has ls 4 [] → W p l e room_1 s m args below meth c H locs kc ks Q (F0 m 953 ls [])) (hm : j_L_law_916i fu L xs M s3 t0 t2 = some o) {H : Heap} {locs : List Loc} {ls : Array Slot} (hP : va_P (gD g) vwCl (wlG g M) H) (hS : va_S (AbG g) s.heap H locs) (hl : lv_has ls 4 [(0, .ref b), (1, .ref (ga g 146)), (2, .ref (ga g 148)), (3, .int s3)]) : W p l e room_1 s m args below meth c H locs kc ks Q (F0 m 916 ls [.int t2, .ref (ga g 148), .int t0]) := by
  obtain ⟨⟨hx, hb, hml, hown, hts⟩, -, -⟩ := id X
  unfold j_L_law_916i at hm
  obtain ⟨⟨r_289, M_290⟩, hc_288, hm⟩ := bind_elim hm
  replace hm := un2_e hm
  refine x_calli (x_runV (As := [.int t2]) (rest := [.int t0]) X hP hS (c_X6_image l X.2.2 hAll hc_288) (cwV 1 hts gL_law_X6_image rfl rfl rfl (by decide +kernel) ⟨Nat.le_of_ble_eq_true rfl, Nat.le_of_ble_eq_true rfl⟩) (x_recv (C := RX6) (T := TX6) (N := 55) X hP (okc_148 hAll) rfl) rfl hl.1 rfl (Nat.le_of_ble_eq_true rfl) dL_law_916 ⟨hkc, hks⟩) hS (fun H locs hP hS => ?_)
  refine lv_icmp_eq (tgt := 947) hx hb dL_law_919 (by decide) (fun h_291 => ?_) (fun h_291 => ?_)
  · rw [if_pos h_291] at hm
    obtain ⟨v_292, hv_293, hm⟩ := bnd_elim hm
    refine lv_iinc (v := v_292) (lv' := [(3, .int v_292), (0, .ref b), (1, .ref (ga g 146)), (2, .ref (ga g 148))]) hx hb dL_law_947 hl (k := 3) rfl (by rw [hv_293]; rfl) (by decide) rfl (fun ls hl => ?_)
    refine lv_goto (tgt := 18) hx hb dL_law_950 (by decide) ?_
    exact kb v_292 M_290 (Option.some.inj hm).symm _ _ _ hP hS (lv_sub hl [1, 2, 3, 0] rfl)
  · rw [if_neg h_291] at hm
    cases hm

set_option maxHeartbeats 4000000 in
set_option maxRecDepth 100000 in
theorem wj_L_law_899i (X : CxG g p s m args c cL_law 4 RL wsL_law) (hAll : okAll g) {L : Nat} {xs : Nat → Int32} {b kc ks : Nat} (hX : va_X b L xs s s.heap) (hbl : b < s.heap.size) (hbA : ¬ AbG g b) (hkc : kc ≤ room_1.cells) (hks : ks ≤ room_1.slots) {fu : Nat} {M : Mem} {s3 : Int32} {t1 : Int32} {o : (Int32 × Mem) ⊕ (Mem)} (kb : ∀ (d3 : Int32) (M2 : Mem) , o = .inl (d3, M2) → ∀ (H : Heap) (locs : List Loc) (ls : Array Slot), va_P (gD g) vwCl (wlG g M2) H → va_S (AbG g) s.heap H locs → lv_has ls 4 [(0, .ref b), (1, .ref (ga g 146)), (2, .ref (ga g 148)), (3, .int d3)] → W p l e room_1 s m args below meth c H locs kc ks Q (F0 m 18 ls [])) (kx0 : ∀ (M2 : Mem) , o = .inr M2 → ∀ (H : Heap) (locs : List Loc) (ls : Array Slot), va_P (gD g) vwCl (wlG g M2) H → va_S (AbG g) s.heap H locs → lv_has ls 4 [] → W p l e room_1 s m args below meth c H locs kc ks Q (F0 m 953 ls [])) (hm : j_L_law_899i fu L xs M s3 t1 = some o) {H : Heap} {locs : List Loc} {ls : Array Slot} (hP : va_P (gD g) vwCl (wlG g M) H) (hS : va_S (AbG g) s.heap H locs) (hl : lv_has ls 4 [(0, .ref b), (1, .ref (ga g 146)), (2, .ref (ga g 148)), (3, .int s3)]) : W p l e room_1 s m args below meth c H locs kc ks Q (F0 m 899 ls [.int t1, .ref (ga g 146)]) := by
  obtain ⟨⟨hx, hb, hml, hown, hts⟩, -, -⟩ := id X
  unfold j_L_law_899i at hm
  obtain ⟨⟨r_284, M_285⟩, hc_283, hm⟩ := bind_elim hm
  replace hm := un2_e hm
  refine x_calli (x_runV (As := [.int t1]) (rest := []) X hP hS (c_X5_image l X.2.2 hAll hc_283) (cwV 1 hts gL_law_X5_image rfl rfl rfl (by decide +kernel) ⟨Nat.le_of_ble_eq_true rfl, Nat.le_of_ble_eq_true rfl⟩) (x_recv (C := RX5) (T := TX5) (N := 11) X hP (okc_146 hAll) rfl) rfl hl.1 rfl (Nat.le_of_ble_eq_true rfl) dL_law_899 ⟨hkc, hks⟩) hS (fun H locs hP hS => ?_)
  refine lv_aload_n hx hb dL_law_902 rfl (lv_at hl 2 rfl) ?_
  refine lv_aload_n hx hb dL_law_903 rfl (lv_at hl 0 rfl) ?_
  refine lv_iload_n hx hb dL_law_904 rfl (lv_at hl 3 rfl) ?_
  refine lv_iconst (v := 1) hx hb dL_law_905 (by decide) ?_
  refine lv_iadd hx hb dL_law_906 ?_
  obtain ⟨hb_286, hm⟩ := chk_elim hm
  refine va_sld hx hb hX hbl hbA hS (inb_vp hb_286) dL_law_907 ?_
  refine lv_if_eq (tgt := 915) hx hb dL_law_908 (by decide) (fun h_287 => ?_) (fun h_287 => ?_)
  · rw [if_pos (show xs (ix (s3 + 1)) = 0 from h_287)] at hm
    refine lv_iconst (v := 0) hx hb dL_law_915 (by decide) ?_
    exact wj_L_law_916i X hAll hX hbl hbA hkc hks kb kx0 hm hP hS (lv_sub hl [0, 1, 2, 3] rfl)
  · rw [if_neg (show ¬ xs (ix (s3 + 1)) = 0 from h_287)] at hm
    refine lv_iconst (v := 1) hx hb dL_law_911 (by decide) ?_
    refine lv_goto (tgt := 916) hx hb dL_law_912 (by decide) ?_
    exact wj_L_law_916i X hAll hX hbl hbA hkc hks kb kx0 hm hP hS (lv_sub hl [0, 1, 2, 3] rfl)

set_option maxHeartbeats 4000000 in
set_option maxRecDepth 100000 in
theorem wl_L_law_18 (X : CxG g p s m args c cL_law 4 RL wsL_law) (hAll : okAll g) {L : Nat} {xs : Nat → Int32} {b kc ks : Nat} (hX : va_X b L xs s s.heap) (hbl : b < s.heap.size) (hbA : ¬ AbG g b) (hkc : kc ≤ room_1.cells) (hks : ks ≤ room_1.slots) {fu : Nat} {x : Mem} (kx0 : ∀ (M2 : Mem) , x = M2 → ∀ (H : Heap) (locs : List Loc) (ls : Array Slot), va_P (gD g) vwCl (wlG g M2) H → va_S (AbG g) s.heap H locs → lv_has ls 4 [] → W p l e room_1 s m args below meth c H locs kc ks Q (F0 m 953 ls [])) {n : Nat} {q0 : Int32 × Mem} (h : lp (b_L_law_18 fu L xs) n q0 = some x) : ∀ (H : Heap) (locs : List Loc) (ls : Array Slot), va_P (gD g) vwCl (wlG g q0.2) H → va_S (AbG g) s.heap H locs → lv_has ls 4 [(0, .ref b), (1, .ref (ga g 146)), (2, .ref (ga g 148)), (3, .int q0.1)] → W p l e room_1 s m args below meth c H locs kc ks Q (F0 m 18 ls []) := by
  refine lp_elim (P := fun q0 : Int32 × Mem => ∀ (H : Heap) (locs : List Loc) (ls : Array Slot), va_P (gD g) vwCl (wlG g q0.2) H → va_S (AbG g) s.heap H locs → lv_has ls 4 [(0, .ref b), (1, .ref (ga g 146)), (2, .ref (ga g 148)), (3, .int q0.1)] → W p l e room_1 s m args below meth c H locs kc ks Q (F0 m 18 ls [])) (fun q1 o hm hI hX => ?_) n q0 h
  obtain ⟨c3, M⟩ := q1
  have kb : ∀ (d3 : Int32) (M2 : Mem) , o = .inl (d3, M2) → ∀ (H : Heap) (locs : List Loc) (ls : Array Slot), va_P (gD g) vwCl (wlG g M2) H → va_S (AbG g) s.heap H locs → lv_has ls 4 [(0, .ref b), (1, .ref (ga g 146)), (2, .ref (ga g 148)), (3, .int d3)] → W p l e room_1 s m args below meth c H locs kc ks Q (F0 m 18 ls []) := fun d3 M2 e => hI _ e
  have kx0 : ∀ (M2 : Mem) , o = .inr M2 → ∀ (H : Heap) (locs : List Loc) (ls : Array Slot), va_P (gD g) vwCl (wlG g M2) H → va_S (AbG g) s.heap H locs → lv_has ls 4 [] → W p l e room_1 s m args below meth c H locs kc ks Q (F0 m 953 ls []) := fun M2 e => kx0 M2 (hX _ e).symm
  clear hI hX
  intro H locs ls hP hS hl
  obtain ⟨⟨hx, hb, hml, hown, hts⟩, -, -⟩ := id X
  have hl : lv_has ls 4 [(0, .ref b), (1, .ref (ga g 146)), (2, .ref (ga g 148)), (3, .int c3)] := hl
  have hP : va_P (gD g) vwCl (wlG g M) H := hP
  unfold b_L_law_18 at hm
  replace hm := un2_e hm
  refine lv_iload_n hx hb dL_law_18 rfl (lv_at hl 3 rfl) ?_
  refine lv_aload_n hx hb dL_law_19 rfl (lv_at hl 0 rfl) ?_
  refine va_slen hx hb hX hbl hbA hS dL_law_20 ?_
  refine lv_bipush (v := 6) hx hb dL_law_21 (by decide) ?_
  refine lv_isub hx hb dL_law_23 ?_
  refine lv_icmp_gt (tgt := 953) hx hb dL_law_24 (by decide) (fun h_1 => ?_) (fun h_1 => ?_)
  · rw [if_pos h_1] at hm
    exact kx0 M (Option.some.inj hm).symm _ _ _ hP hS (lv_sub hl [] rfl)
  · rw [if_neg h_1] at hm
    refine lv_aload_n hx hb dL_law_27 rfl (lv_at hl 0 rfl) ?_
    refine lv_iload_n hx hb dL_law_28 rfl (lv_at hl 3 rfl) ?_
    obtain ⟨hb_2, hm⟩ := chk_elim hm
    refine va_sld hx hb hX hbl hbA hS (inb_vp hb_2) dL_law_29 ?_
    refine lv_bipush (v := 31) hx hb dL_law_30 (by decide) ?_
    refine lv_iand hx hb dL_law_32 ?_
    obtain ⟨v_3, hv_4, hm⟩ := bnd_elim hm
    refine x_name hv_4 ?_
    by_cases h_5 : v_3 = 0
    · rw [if_pos h_5] at hm
      refine lv_tableIn (off := 119) (tgt := 152) hx hb dL_law_33 (by rw [h_5]; decide) (by rw [h_5]; decide) (by rw [h_5]; rfl) (by decide) ?_
      refine lv_aload_n hx hb dL_law_152 rfl (lv_at hl 1 rfl) ?_
      refine lv_aload_n hx hb dL_law_153 rfl (lv_at hl 0 rfl) ?_
      refine lv_iload_n hx hb dL_law_154 rfl (lv_at hl 3 rfl) ?_
      refine lv_iconst (v := 1) hx hb dL_law_155 (by decide) ?_
      refine lv_iadd hx hb dL_law_156 ?_
      obtain ⟨hb_6, hm⟩ := chk_elim hm
      refine va_sld hx hb hX hbl hbA hS (inb_vp hb_6) dL_law_157 ?_
      obtain ⟨⟨r_8, M_9⟩, hc_7, hm⟩ := bind_elim hm
      replace hm := un2_e hm
      refine x_calli (x_runV (As := [.int (xs (ix (c3 + 1)))]) (rest := []) X hP hS (c_X5_state l X.2.2 hAll hc_7) (cwV 1 hts gL_law_X5_state rfl rfl rfl (by decide +kernel) ⟨Nat.le_of_ble_eq_true rfl, Nat.le_of_ble_eq_true rfl⟩) (x_recv (C := RX5) (T := TX5) (N := 11) X hP (okc_146 hAll) rfl) rfl hl.1 rfl (Nat.le_of_ble_eq_true rfl) dL_law_158 ⟨hkc, hks⟩) hS (fun H locs hP hS => ?_)
      refine lv_aload_n hx hb dL_law_161 rfl (lv_at hl 2 rfl) ?_
      refine lv_aload_n hx hb dL_law_162 rfl (lv_at hl 0 rfl) ?_
      refine lv_iload_n hx hb dL_law_163 rfl (lv_at hl 3 rfl) ?_
      refine lv_iconst (v := 1) hx hb dL_law_164 (by decide) ?_
      refine lv_iadd hx hb dL_law_165 ?_
      refine va_sld hx hb hX hbl hbA hS (inb_vp hb_6) dL_law_166 ?_
      obtain ⟨⟨r_11, M_12⟩, hc_10, hm⟩ := bind_elim hm
      replace hm := un2_e hm
      refine x_calli (x_runV (As := [.int (xs (ix (c3 + 1)))]) (rest := [.int r_8]) X hP hS (c_X6_state l X.2.2 hAll hc_10) (cwV 1 hts gL_law_X6_state rfl rfl rfl (by decide +kernel) ⟨Nat.le_of_ble_eq_true rfl, Nat.le_of_ble_eq_true rfl⟩) (x_recv (C := RX6) (T := TX6) (N := 55) X hP (okc_148 hAll) rfl) rfl hl.1 rfl (Nat.le_of_ble_eq_true rfl) dL_law_167 ⟨hkc, hks⟩) hS (fun H locs hP hS => ?_)
      refine lv_icmp_eq (tgt := 947) hx hb dL_law_170 (by decide) (fun h_13 => ?_) (fun h_13 => ?_)
      · rw [if_pos h_13] at hm
        obtain ⟨v_14, hv_15, hm⟩ := bnd_elim hm
        refine lv_iinc (v := v_14) (lv' := [(3, .int v_14), (0, .ref b), (1, .ref (ga g 146)), (2, .ref (ga g 148))]) hx hb dL_law_947 hl (k := 3) rfl (by rw [hv_15]; rfl) (by decide) rfl (fun ls hl => ?_)
        refine lv_goto (tgt := 18) hx hb dL_law_950 (by decide) ?_
        exact kb v_14 M_12 (Option.some.inj hm).symm _ _ _ hP hS (lv_sub hl [1, 2, 3, 0] rfl)
      · rw [if_neg h_13] at hm
        cases hm
    rw [if_neg h_5] at hm
    by_cases h_16 : v_3 = 1
    · rw [if_pos h_16] at hm
      refine lv_tableIn (off := 142) (tgt := 175) hx hb dL_law_33 (by rw [h_16]; decide) (by rw [h_16]; decide) (by rw [h_16]; rfl) (by decide) ?_
      refine lv_aload_n hx hb dL_law_175 rfl (lv_at hl 1 rfl) ?_
      refine lv_aload_n hx hb dL_law_176 rfl (lv_at hl 0 rfl) ?_
      refine lv_iload_n hx hb dL_law_177 rfl (lv_at hl 3 rfl) ?_
      refine lv_iconst (v := 1) hx hb dL_law_178 (by decide) ?_
      refine lv_iadd hx hb dL_law_179 ?_
      obtain ⟨hb_17, hm⟩ := chk_elim hm
      refine va_sld hx hb hX hbl hbA hS (inb_vp hb_17) dL_law_180 ?_
      obtain ⟨⟨r_19, M_20⟩, hc_18, hm⟩ := bind_elim hm
      replace hm := un2_e hm
      refine x_calli (x_runV (As := [.int (xs (ix (c3 + 1)))]) (rest := []) X hP hS (c_X5_ring l X.2.2 hAll hc_18) (cwV 1 hts gL_law_X5_ring rfl rfl rfl (by decide +kernel) ⟨Nat.le_of_ble_eq_true rfl, Nat.le_of_ble_eq_true rfl⟩) (x_recv (C := RX5) (T := TX5) (N := 11) X hP (okc_146 hAll) rfl) rfl hl.1 rfl (Nat.le_of_ble_eq_true rfl) dL_law_181 ⟨hkc, hks⟩) hS (fun H locs hP hS => ?_)
      refine lv_aload_n hx hb dL_law_184 rfl (lv_at hl 2 rfl) ?_
      refine lv_aload_n hx hb dL_law_185 rfl (lv_at hl 0 rfl) ?_
      refine lv_iload_n hx hb dL_law_186 rfl (lv_at hl 3 rfl) ?_
      refine lv_iconst (v := 1) hx hb dL_law_187 (by decide) ?_
      refine lv_iadd hx hb dL_law_188 ?_
      refine va_sld hx hb hX hbl hbA hS (inb_vp hb_17) dL_law_189 ?_
      obtain ⟨⟨r_22, M_23⟩, hc_21, hm⟩ := bind_elim hm
      replace hm := un2_e hm
      refine x_calli (x_runV (As := [.int (xs (ix (c3 + 1)))]) (rest := [.int r_19]) X hP hS (c_X6_ring l X.2.2 hAll hc_21) (cwV 1 hts gL_law_X6_ring rfl rfl rfl (by decide +kernel) ⟨Nat.le_of_ble_eq_true rfl, Nat.le_of_ble_eq_true rfl⟩) (x_recv (C := RX6) (T := TX6) (N := 55) X hP (okc_148 hAll) rfl) rfl hl.1 rfl (Nat.le_of_ble_eq_true rfl) dL_law_190 ⟨hkc, hks⟩) hS (fun H locs hP hS => ?_)
      refine lv_icmp_eq (tgt := 947) hx hb dL_law_193 (by decide) (fun h_24 => ?_) (fun h_24 => ?_)
      · rw [if_pos h_24] at hm
        obtain ⟨v_25, hv_26, hm⟩ := bnd_elim hm
        refine lv_iinc (v := v_25) (lv' := [(3, .int v_25), (0, .ref b), (1, .ref (ga g 146)), (2, .ref (ga g 148))]) hx hb dL_law_947 hl (k := 3) rfl (by rw [hv_26]; rfl) (by decide) rfl (fun ls hl => ?_)
        refine lv_goto (tgt := 18) hx hb dL_law_950 (by decide) ?_
        exact kb v_25 M_23 (Option.some.inj hm).symm _ _ _ hP hS (lv_sub hl [1, 2, 3, 0] rfl)
      · rw [if_neg h_24] at hm
        cases hm
    rw [if_neg h_16] at hm
    by_cases h_27 : v_3 = 2
    · rw [if_pos h_27] at hm
      refine lv_tableIn (off := 165) (tgt := 198) hx hb dL_law_33 (by rw [h_27]; decide) (by rw [h_27]; decide) (by rw [h_27]; rfl) (by decide) ?_
      refine lv_aload_n hx hb dL_law_198 rfl (lv_at hl 1 rfl) ?_
      refine lv_aload_n hx hb dL_law_199 rfl (lv_at hl 0 rfl) ?_
      refine lv_iload_n hx hb dL_law_200 rfl (lv_at hl 3 rfl) ?_
      refine lv_iconst (v := 1) hx hb dL_law_201 (by decide) ?_
      refine lv_iadd hx hb dL_law_202 ?_
      obtain ⟨hb_28, hm⟩ := chk_elim hm
      refine va_sld hx hb hX hbl hbA hS (inb_vp hb_28) dL_law_203 ?_
      refine lv_aload_n hx hb dL_law_204 rfl (lv_at hl 0 rfl) ?_
      refine lv_iload_n hx hb dL_law_205 rfl (lv_at hl 3 rfl) ?_
      refine lv_iconst (v := 2) hx hb dL_law_206 (by decide) ?_
      refine lv_iadd hx hb dL_law_207 ?_
      obtain ⟨hb_29, hm⟩ := chk_elim hm
      refine va_sld hx hb hX hbl hbA hS (inb_vp hb_29) dL_law_208 ?_
      refine lv_aload_n hx hb dL_law_209 rfl (lv_at hl 0 rfl) ?_
      refine lv_iload_n hx hb dL_law_210 rfl (lv_at hl 3 rfl) ?_
      refine lv_iconst (v := 3) hx hb dL_law_211 (by decide) ?_
      refine lv_iadd hx hb dL_law_212 ?_
      obtain ⟨hb_30, hm⟩ := chk_elim hm
      refine va_sld hx hb hX hbl hbA hS (inb_vp hb_30) dL_law_213 ?_
      obtain ⟨⟨r_32, M_33⟩, hc_31, hm⟩ := bind_elim hm
      replace hm := un2_e hm
      refine x_calli (x_runV (As := [.int (xs (ix (c3 + 1))), .int (xs (ix (c3 + 2))), .int (xs (ix (c3 + 3)))]) (rest := []) X hP hS (c_X5_farm l X.2.2 hAll hc_31) (cwV 3 hts gL_law_X5_farm rfl rfl rfl (by decide +kernel) ⟨Nat.le_of_ble_eq_true rfl, Nat.le_of_ble_eq_true rfl⟩) (x_recv (C := RX5) (T := TX5) (N := 11) X hP (okc_146 hAll) rfl) rfl hl.1 rfl (Nat.le_of_ble_eq_true rfl) dL_law_214 ⟨hkc, hks⟩) hS (fun H locs hP hS => ?_)
      refine lv_aload_n hx hb dL_law_217 rfl (lv_at hl 2 rfl) ?_
      refine lv_aload_n hx hb dL_law_218 rfl (lv_at hl 0 rfl) ?_
      refine lv_iload_n hx hb dL_law_219 rfl (lv_at hl 3 rfl) ?_
      refine lv_iconst (v := 1) hx hb dL_law_220 (by decide) ?_
      refine lv_iadd hx hb dL_law_221 ?_
      refine va_sld hx hb hX hbl hbA hS (inb_vp hb_28) dL_law_222 ?_
      refine lv_aload_n hx hb dL_law_223 rfl (lv_at hl 0 rfl) ?_
      refine lv_iload_n hx hb dL_law_224 rfl (lv_at hl 3 rfl) ?_
      refine lv_iconst (v := 2) hx hb dL_law_225 (by decide) ?_
      refine lv_iadd hx hb dL_law_226 ?_
      refine va_sld hx hb hX hbl hbA hS (inb_vp hb_29) dL_law_227 ?_
      refine lv_aload_n hx hb dL_law_228 rfl (lv_at hl 0 rfl) ?_
      refine lv_iload_n hx hb dL_law_229 rfl (lv_at hl 3 rfl) ?_
      refine lv_iconst (v := 3) hx hb dL_law_230 (by decide) ?_
      refine lv_iadd hx hb dL_law_231 ?_
      refine va_sld hx hb hX hbl hbA hS (inb_vp hb_30) dL_law_232 ?_
      obtain ⟨⟨r_35, M_36⟩, hc_34, hm⟩ := bind_elim hm
      replace hm := un2_e hm
      refine x_calli (x_runV (As := [.int (xs (ix (c3 + 1))), .int (xs (ix (c3 + 2))), .int (xs (ix (c3 + 3)))]) (rest := [.int r_32]) X hP hS (c_X6_farm l X.2.2 hAll hc_34) (cwV 3 hts gL_law_X6_farm rfl rfl rfl (by decide +kernel) ⟨Nat.le_of_ble_eq_true rfl, Nat.le_of_ble_eq_true rfl⟩) (x_recv (C := RX6) (T := TX6) (N := 55) X hP (okc_148 hAll) rfl) rfl hl.1 rfl (Nat.le_of_ble_eq_true rfl) dL_law_233 ⟨hkc, hks⟩) hS (fun H locs hP hS => ?_)
      refine lv_icmp_eq (tgt := 947) hx hb dL_law_236 (by decide) (fun h_37 => ?_) (fun h_37 => ?_)
      · rw [if_pos h_37] at hm
        obtain ⟨v_38, hv_39, hm⟩ := bnd_elim hm
        refine lv_iinc (v := v_38) (lv' := [(3, .int v_38), (0, .ref b), (1, .ref (ga g 146)), (2, .ref (ga g 148))]) hx hb dL_law_947 hl (k := 3) rfl (by rw [hv_39]; rfl) (by decide) rfl (fun ls hl => ?_)
        refine lv_goto (tgt := 18) hx hb dL_law_950 (by decide) ?_
        exact kb v_38 M_36 (Option.some.inj hm).symm _ _ _ hP hS (lv_sub hl [1, 2, 3, 0] rfl)
      · rw [if_neg h_37] at hm
        cases hm
    rw [if_neg h_27] at hm
    by_cases h_40 : v_3 = 3
    · rw [if_pos h_40] at hm
      refine lv_tableIn (off := 208) (tgt := 241) hx hb dL_law_33 (by rw [h_40]; decide) (by rw [h_40]; decide) (by rw [h_40]; rfl) (by decide) ?_
      refine lv_aload_n hx hb dL_law_241 rfl (lv_at hl 1 rfl) ?_
      refine lv_aload_n hx hb dL_law_242 rfl (lv_at hl 0 rfl) ?_
      refine lv_iload_n hx hb dL_law_243 rfl (lv_at hl 3 rfl) ?_
      refine lv_iconst (v := 1) hx hb dL_law_244 (by decide) ?_
      refine lv_iadd hx hb dL_law_245 ?_
      obtain ⟨hb_41, hm⟩ := chk_elim hm
      refine va_sld hx hb hX hbl hbA hS (inb_vp hb_41) dL_law_246 ?_
      refine lv_aload_n hx hb dL_law_247 rfl (lv_at hl 0 rfl) ?_
      refine lv_iload_n hx hb dL_law_248 rfl (lv_at hl 3 rfl) ?_
      refine lv_iconst (v := 2) hx hb dL_law_249 (by decide) ?_
      refine lv_iadd hx hb dL_law_250 ?_
      obtain ⟨hb_42, hm⟩ := chk_elim hm
      refine va_sld hx hb hX hbl hbA hS (inb_vp hb_42) dL_law_251 ?_
      refine lv_aload_n hx hb dL_law_252 rfl (lv_at hl 0 rfl) ?_
      refine lv_iload_n hx hb dL_law_253 rfl (lv_at hl 3 rfl) ?_
      refine lv_iconst (v := 3) hx hb dL_law_254 (by decide) ?_
      refine lv_iadd hx hb dL_law_255 ?_
      obtain ⟨hb_43, hm⟩ := chk_elim hm
      refine va_sld hx hb hX hbl hbA hS (inb_vp hb_43) dL_law_256 ?_
      obtain ⟨⟨r_45, M_46⟩, hc_44, hm⟩ := bind_elim hm
      replace hm := un2_e hm
      refine x_calli (x_runV (As := [.int (xs (ix (c3 + 1))), .int (xs (ix (c3 + 2))), .int (xs (ix (c3 + 3)))]) (rest := []) X hP hS (c_X5_border l X.2.2 hAll hc_44) (cwV 3 hts gL_law_X5_border rfl rfl rfl (by decide +kernel) ⟨Nat.le_of_ble_eq_true rfl, Nat.le_of_ble_eq_true rfl⟩) (x_recv (C := RX5) (T := TX5) (N := 11) X hP (okc_146 hAll) rfl) rfl hl.1 rfl (Nat.le_of_ble_eq_true rfl) dL_law_257 ⟨hkc, hks⟩) hS (fun H locs hP hS => ?_)
      refine lv_aload_n hx hb dL_law_260 rfl (lv_at hl 2 rfl) ?_
      refine lv_aload_n hx hb dL_law_261 rfl (lv_at hl 0 rfl) ?_
      refine lv_iload_n hx hb dL_law_262 rfl (lv_at hl 3 rfl) ?_
      refine lv_iconst (v := 1) hx hb dL_law_263 (by decide) ?_
      refine lv_iadd hx hb dL_law_264 ?_
      refine va_sld hx hb hX hbl hbA hS (inb_vp hb_41) dL_law_265 ?_
      refine lv_aload_n hx hb dL_law_266 rfl (lv_at hl 0 rfl) ?_
      refine lv_iload_n hx hb dL_law_267 rfl (lv_at hl 3 rfl) ?_
      refine lv_iconst (v := 2) hx hb dL_law_268 (by decide) ?_
      refine lv_iadd hx hb dL_law_269 ?_
      refine va_sld hx hb hX hbl hbA hS (inb_vp hb_42) dL_law_270 ?_
      refine lv_aload_n hx hb dL_law_271 rfl (lv_at hl 0 rfl) ?_
      refine lv_iload_n hx hb dL_law_272 rfl (lv_at hl 3 rfl) ?_
      refine lv_iconst (v := 3) hx hb dL_law_273 (by decide) ?_
      refine lv_iadd hx hb dL_law_274 ?_
      refine va_sld hx hb hX hbl hbA hS (inb_vp hb_43) dL_law_275 ?_
      obtain ⟨⟨r_48, M_49⟩, hc_47, hm⟩ := bind_elim hm
      replace hm := un2_e hm
      refine x_calli (x_runV (As := [.int (xs (ix (c3 + 1))), .int (xs (ix (c3 + 2))), .int (xs (ix (c3 + 3)))]) (rest := [.int r_45]) X hP hS (c_X6_border l X.2.2 hAll hc_47) (cwV 3 hts gL_law_X6_border rfl rfl rfl (by decide +kernel) ⟨Nat.le_of_ble_eq_true rfl, Nat.le_of_ble_eq_true rfl⟩) (x_recv (C := RX6) (T := TX6) (N := 55) X hP (okc_148 hAll) rfl) rfl hl.1 rfl (Nat.le_of_ble_eq_true rfl) dL_law_276 ⟨hkc, hks⟩) hS (fun H locs hP hS => ?_)
      refine lv_icmp_eq (tgt := 947) hx hb dL_law_279 (by decide) (fun h_50 => ?_) (fun h_50 => ?_)
      · rw [if_pos h_50] at hm
        obtain ⟨v_51, hv_52, hm⟩ := bnd_elim hm
        refine lv_iinc (v := v_51) (lv' := [(3, .int v_51), (0, .ref b), (1, .ref (ga g 146)), (2, .ref (ga g 148))]) hx hb dL_law_947 hl (k := 3) rfl (by rw [hv_52]; rfl) (by decide) rfl (fun ls hl => ?_)
        refine lv_goto (tgt := 18) hx hb dL_law_950 (by decide) ?_
        exact kb v_51 M_49 (Option.some.inj hm).symm _ _ _ hP hS (lv_sub hl [1, 2, 3, 0] rfl)
      · rw [if_neg h_50] at hm
        cases hm
    rw [if_neg h_40] at hm
    by_cases h_53 : v_3 = 4
    · rw [if_pos h_53] at hm
      refine lv_tableIn (off := 251) (tgt := 284) hx hb dL_law_33 (by rw [h_53]; decide) (by rw [h_53]; decide) (by rw [h_53]; rfl) (by decide) ?_
      refine lv_aload_n hx hb dL_law_284 rfl (lv_at hl 1 rfl) ?_
      refine lv_aload_n hx hb dL_law_285 rfl (lv_at hl 0 rfl) ?_
      refine lv_iload_n hx hb dL_law_286 rfl (lv_at hl 3 rfl) ?_
      refine lv_iconst (v := 1) hx hb dL_law_287 (by decide) ?_
      refine lv_iadd hx hb dL_law_288 ?_
      obtain ⟨hb_54, hm⟩ := chk_elim hm
      refine va_sld hx hb hX hbl hbA hS (inb_vp hb_54) dL_law_289 ?_
      refine lv_aload_n hx hb dL_law_290 rfl (lv_at hl 0 rfl) ?_
      refine lv_iload_n hx hb dL_law_291 rfl (lv_at hl 3 rfl) ?_
      refine lv_iconst (v := 2) hx hb dL_law_292 (by decide) ?_
      refine lv_iadd hx hb dL_law_293 ?_
      obtain ⟨hb_55, hm⟩ := chk_elim hm
      refine va_sld hx hb hX hbl hbA hS (inb_vp hb_55) dL_law_294 ?_
      obtain ⟨⟨r_57, M_58⟩, hc_56, hm⟩ := bind_elim hm
      replace hm := un2_e hm
      refine x_calli (x_runV (As := [.int (xs (ix (c3 + 1))), .int (xs (ix (c3 + 2)))]) (rest := []) X hP hS (c_X5_set l X.2.2 hAll hc_56) (cwV 2 hts gL_law_X5_set rfl rfl rfl (by decide +kernel) ⟨Nat.le_of_ble_eq_true rfl, Nat.le_of_ble_eq_true rfl⟩) (x_recv (C := RX5) (T := TX5) (N := 11) X hP (okc_146 hAll) rfl) rfl hl.1 rfl (Nat.le_of_ble_eq_true rfl) dL_law_295 ⟨hkc, hks⟩) hS (fun H locs hP hS => ?_)
      refine lv_aload_n hx hb dL_law_298 rfl (lv_at hl 2 rfl) ?_
      refine lv_aload_n hx hb dL_law_299 rfl (lv_at hl 0 rfl) ?_
      refine lv_iload_n hx hb dL_law_300 rfl (lv_at hl 3 rfl) ?_
      refine lv_iconst (v := 1) hx hb dL_law_301 (by decide) ?_
      refine lv_iadd hx hb dL_law_302 ?_
      refine va_sld hx hb hX hbl hbA hS (inb_vp hb_54) dL_law_303 ?_
      refine lv_aload_n hx hb dL_law_304 rfl (lv_at hl 0 rfl) ?_
      refine lv_iload_n hx hb dL_law_305 rfl (lv_at hl 3 rfl) ?_
      refine lv_iconst (v := 2) hx hb dL_law_306 (by decide) ?_
      refine lv_iadd hx hb dL_law_307 ?_
      refine va_sld hx hb hX hbl hbA hS (inb_vp hb_55) dL_law_308 ?_
      obtain ⟨⟨r_60, M_61⟩, hc_59, hm⟩ := bind_elim hm
      replace hm := un2_e hm
      refine x_calli (x_runV (As := [.int (xs (ix (c3 + 1))), .int (xs (ix (c3 + 2)))]) (rest := [.int r_57]) X hP hS (c_X6_set l X.2.2 hAll hc_59) (cwV 2 hts gL_law_X6_set rfl rfl rfl (by decide +kernel) ⟨Nat.le_of_ble_eq_true rfl, Nat.le_of_ble_eq_true rfl⟩) (x_recv (C := RX6) (T := TX6) (N := 55) X hP (okc_148 hAll) rfl) rfl hl.1 rfl (Nat.le_of_ble_eq_true rfl) dL_law_309 ⟨hkc, hks⟩) hS (fun H locs hP hS => ?_)
      refine lv_icmp_eq (tgt := 947) hx hb dL_law_312 (by decide) (fun h_62 => ?_) (fun h_62 => ?_)
      · rw [if_pos h_62] at hm
        obtain ⟨v_63, hv_64, hm⟩ := bnd_elim hm
        refine lv_iinc (v := v_63) (lv' := [(3, .int v_63), (0, .ref b), (1, .ref (ga g 146)), (2, .ref (ga g 148))]) hx hb dL_law_947 hl (k := 3) rfl (by rw [hv_64]; rfl) (by decide) rfl (fun ls hl => ?_)
        refine lv_goto (tgt := 18) hx hb dL_law_950 (by decide) ?_
        exact kb v_63 M_61 (Option.some.inj hm).symm _ _ _ hP hS (lv_sub hl [1, 2, 3, 0] rfl)
      · rw [if_neg h_62] at hm
        cases hm
    rw [if_neg h_53] at hm
    by_cases h_65 : v_3 = 5
    · rw [if_pos h_65] at hm
      refine lv_tableIn (off := 284) (tgt := 317) hx hb dL_law_33 (by rw [h_65]; decide) (by rw [h_65]; decide) (by rw [h_65]; rfl) (by decide) ?_
      refine lv_aload_n hx hb dL_law_317 rfl (lv_at hl 1 rfl) ?_
      refine lv_aload_n hx hb dL_law_318 rfl (lv_at hl 0 rfl) ?_
      refine lv_iload_n hx hb dL_law_319 rfl (lv_at hl 3 rfl) ?_
      refine lv_iconst (v := 1) hx hb dL_law_320 (by decide) ?_
      refine lv_iadd hx hb dL_law_321 ?_
      obtain ⟨hb_66, hm⟩ := chk_elim hm
      refine va_sld hx hb hX hbl hbA hS (inb_vp hb_66) dL_law_322 ?_
      obtain ⟨r_68, hc_67, hm⟩ := bind_elim hm
      refine x_calli (x_runV (As := [.int (xs (ix (c3 + 1)))]) (rest := []) X hP hS (c_X5_worth l X.2.2 hAll hc_67) (cwV 1 hts gL_law_X5_worth rfl rfl rfl (by decide +kernel) ⟨Nat.le_of_ble_eq_true rfl, Nat.le_of_ble_eq_true rfl⟩) (x_recv (C := RX5) (T := TX5) (N := 11) X hP (okc_146 hAll) rfl) rfl hl.1 rfl (Nat.le_of_ble_eq_true rfl) dL_law_323 ⟨hkc, hks⟩) hS (fun H locs hP hS => ?_)
      refine lv_aload_n hx hb dL_law_326 rfl (lv_at hl 2 rfl) ?_
      refine lv_aload_n hx hb dL_law_327 rfl (lv_at hl 0 rfl) ?_
      refine lv_iload_n hx hb dL_law_328 rfl (lv_at hl 3 rfl) ?_
      refine lv_iconst (v := 1) hx hb dL_law_329 (by decide) ?_
      refine lv_iadd hx hb dL_law_330 ?_
      refine va_sld hx hb hX hbl hbA hS (inb_vp hb_66) dL_law_331 ?_
      obtain ⟨⟨r_70, M_71⟩, hc_69, hm⟩ := bind_elim hm
      replace hm := un2_e hm
      refine x_calli (x_runV (As := [.int (xs (ix (c3 + 1)))]) (rest := [.int r_68]) X hP hS (c_X6_worth l X.2.2 hAll hc_69) (cwV 1 hts gL_law_X6_worth rfl rfl rfl (by decide +kernel) ⟨Nat.le_of_ble_eq_true rfl, Nat.le_of_ble_eq_true rfl⟩) (x_recv (C := RX6) (T := TX6) (N := 55) X hP (okc_148 hAll) rfl) rfl hl.1 rfl (Nat.le_of_ble_eq_true rfl) dL_law_332 ⟨hkc, hks⟩) hS (fun H locs hP hS => ?_)
      refine lv_icmp_eq (tgt := 947) hx hb dL_law_335 (by decide) (fun h_72 => ?_) (fun h_72 => ?_)
      · rw [if_pos h_72] at hm
        obtain ⟨v_73, hv_74, hm⟩ := bnd_elim hm
        refine lv_iinc (v := v_73) (lv' := [(3, .int v_73), (0, .ref b), (1, .ref (ga g 146)), (2, .ref (ga g 148))]) hx hb dL_law_947 hl (k := 3) rfl (by rw [hv_74]; rfl) (by decide) rfl (fun ls hl => ?_)
        refine lv_goto (tgt := 18) hx hb dL_law_950 (by decide) ?_
        exact kb v_73 M_71 (Option.some.inj hm).symm _ _ _ hP hS (lv_sub hl [1, 2, 3, 0] rfl)
      · rw [if_neg h_72] at hm
        cases hm
    rw [if_neg h_65] at hm
    by_cases h_75 : v_3 = 6
    · rw [if_pos h_75] at hm
      refine lv_tableIn (off := 307) (tgt := 340) hx hb dL_law_33 (by rw [h_75]; decide) (by rw [h_75]; decide) (by rw [h_75]; rfl) (by decide) ?_
      refine lv_aload_n hx hb dL_law_340 rfl (lv_at hl 1 rfl) ?_
      refine lv_aload_n hx hb dL_law_341 rfl (lv_at hl 0 rfl) ?_
      refine lv_iload_n hx hb dL_law_342 rfl (lv_at hl 3 rfl) ?_
      refine lv_iconst (v := 1) hx hb dL_law_343 (by decide) ?_
      refine lv_iadd hx hb dL_law_344 ?_
      obtain ⟨hb_76, hm⟩ := chk_elim hm
      refine va_sld hx hb hX hbl hbA hS (inb_vp hb_76) dL_law_345 ?_
      refine lv_aload_n hx hb dL_law_346 rfl (lv_at hl 0 rfl) ?_
      refine lv_iload_n hx hb dL_law_347 rfl (lv_at hl 3 rfl) ?_
      refine lv_iconst (v := 2) hx hb dL_law_348 (by decide) ?_
      refine lv_iadd hx hb dL_law_349 ?_
      obtain ⟨hb_77, hm⟩ := chk_elim hm
      refine va_sld hx hb hX hbl hbA hS (inb_vp hb_77) dL_law_350 ?_
      refine lv_aload_n hx hb dL_law_351 rfl (lv_at hl 0 rfl) ?_
      refine lv_iload_n hx hb dL_law_352 rfl (lv_at hl 3 rfl) ?_
      refine lv_iconst (v := 3) hx hb dL_law_353 (by decide) ?_
      refine lv_iadd hx hb dL_law_354 ?_
      obtain ⟨hb_78, hm⟩ := chk_elim hm
      refine va_sld hx hb hX hbl hbA hS (inb_vp hb_78) dL_law_355 ?_
      refine lv_aload_n hx hb dL_law_356 rfl (lv_at hl 0 rfl) ?_
      refine lv_iload_n hx hb dL_law_357 rfl (lv_at hl 3 rfl) ?_
      refine lv_iconst (v := 4) hx hb dL_law_358 (by decide) ?_
      refine lv_iadd hx hb dL_law_359 ?_
      obtain ⟨hb_79, hm⟩ := chk_elim hm
      refine va_sld hx hb hX hbl hbA hS (inb_vp hb_79) dL_law_360 ?_
      refine lv_aload_n hx hb dL_law_361 rfl (lv_at hl 0 rfl) ?_
      refine lv_iload_n hx hb dL_law_362 rfl (lv_at hl 3 rfl) ?_
      refine lv_iconst (v := 5) hx hb dL_law_363 (by decide) ?_
      refine lv_iadd hx hb dL_law_364 ?_
      obtain ⟨hb_80, hm⟩ := chk_elim hm
      refine va_sld hx hb hX hbl hbA hS (inb_vp hb_80) dL_law_365 ?_
      obtain ⟨⟨r_82, M_83⟩, hc_81, hm⟩ := bind_elim hm
      replace hm := un2_e hm
      refine x_calli (x_runV (As := [.int (xs (ix (c3 + 1))), .int (xs (ix (c3 + 2))), .int (xs (ix (c3 + 3))), .int (xs (ix (c3 + 4))), .int (xs (ix (c3 + 5)))]) (rest := []) X hP hS (c_X5_feed l X.2.2 hAll hc_81) (cwV 5 hts gL_law_X5_feed rfl rfl rfl (by decide +kernel) ⟨Nat.le_of_ble_eq_true rfl, Nat.le_of_ble_eq_true rfl⟩) (x_recv (C := RX5) (T := TX5) (N := 11) X hP (okc_146 hAll) rfl) rfl hl.1 rfl (Nat.le_of_ble_eq_true rfl) dL_law_366 ⟨hkc, hks⟩) hS (fun H locs hP hS => ?_)
      refine lv_aload_n hx hb dL_law_369 rfl (lv_at hl 2 rfl) ?_
      refine lv_aload_n hx hb dL_law_370 rfl (lv_at hl 0 rfl) ?_
      refine lv_iload_n hx hb dL_law_371 rfl (lv_at hl 3 rfl) ?_
      refine lv_iconst (v := 1) hx hb dL_law_372 (by decide) ?_
      refine lv_iadd hx hb dL_law_373 ?_
      refine va_sld hx hb hX hbl hbA hS (inb_vp hb_76) dL_law_374 ?_
      refine lv_aload_n hx hb dL_law_375 rfl (lv_at hl 0 rfl) ?_
      refine lv_iload_n hx hb dL_law_376 rfl (lv_at hl 3 rfl) ?_
      refine lv_iconst (v := 2) hx hb dL_law_377 (by decide) ?_
      refine lv_iadd hx hb dL_law_378 ?_
      refine va_sld hx hb hX hbl hbA hS (inb_vp hb_77) dL_law_379 ?_
      refine lv_aload_n hx hb dL_law_380 rfl (lv_at hl 0 rfl) ?_
      refine lv_iload_n hx hb dL_law_381 rfl (lv_at hl 3 rfl) ?_
      refine lv_iconst (v := 3) hx hb dL_law_382 (by decide) ?_
      refine lv_iadd hx hb dL_law_383 ?_
      refine va_sld hx hb hX hbl hbA hS (inb_vp hb_78) dL_law_384 ?_
      refine lv_aload_n hx hb dL_law_385 rfl (lv_at hl 0 rfl) ?_
      refine lv_iload_n hx hb dL_law_386 rfl (lv_at hl 3 rfl) ?_
      refine lv_iconst (v := 4) hx hb dL_law_387 (by decide) ?_
      refine lv_iadd hx hb dL_law_388 ?_
      refine va_sld hx hb hX hbl hbA hS (inb_vp hb_79) dL_law_389 ?_
      refine lv_aload_n hx hb dL_law_390 rfl (lv_at hl 0 rfl) ?_
      refine lv_iload_n hx hb dL_law_391 rfl (lv_at hl 3 rfl) ?_
      refine lv_iconst (v := 5) hx hb dL_law_392 (by decide) ?_
      refine lv_iadd hx hb dL_law_393 ?_
      refine va_sld hx hb hX hbl hbA hS (inb_vp hb_80) dL_law_394 ?_
      obtain ⟨⟨r_85, M_86⟩, hc_84, hm⟩ := bind_elim hm
      replace hm := un2_e hm
      refine x_calli (x_runV (As := [.int (xs (ix (c3 + 1))), .int (xs (ix (c3 + 2))), .int (xs (ix (c3 + 3))), .int (xs (ix (c3 + 4))), .int (xs (ix (c3 + 5)))]) (rest := [.int r_82]) X hP hS (c_X6_feed l X.2.2 hAll hc_84) (cwV 5 hts gL_law_X6_feed rfl rfl rfl (by decide +kernel) ⟨Nat.le_of_ble_eq_true rfl, Nat.le_of_ble_eq_true rfl⟩) (x_recv (C := RX6) (T := TX6) (N := 55) X hP (okc_148 hAll) rfl) rfl hl.1 rfl (Nat.le_of_ble_eq_true rfl) dL_law_395 ⟨hkc, hks⟩) hS (fun H locs hP hS => ?_)
      refine lv_icmp_eq (tgt := 947) hx hb dL_law_398 (by decide) (fun h_87 => ?_) (fun h_87 => ?_)
      · rw [if_pos h_87] at hm
        obtain ⟨v_88, hv_89, hm⟩ := bnd_elim hm
        refine lv_iinc (v := v_88) (lv' := [(3, .int v_88), (0, .ref b), (1, .ref (ga g 146)), (2, .ref (ga g 148))]) hx hb dL_law_947 hl (k := 3) rfl (by rw [hv_89]; rfl) (by decide) rfl (fun ls hl => ?_)
        refine lv_goto (tgt := 18) hx hb dL_law_950 (by decide) ?_
        exact kb v_88 M_86 (Option.some.inj hm).symm _ _ _ hP hS (lv_sub hl [1, 2, 3, 0] rfl)
      · rw [if_neg h_87] at hm
        cases hm
    rw [if_neg h_75] at hm
    by_cases h_90 : v_3 = 7
    · rw [if_pos h_90] at hm
      refine lv_tableIn (off := 370) (tgt := 403) hx hb dL_law_33 (by rw [h_90]; decide) (by rw [h_90]; decide) (by rw [h_90]; rfl) (by decide) ?_
      refine lv_aload_n hx hb dL_law_403 rfl (lv_at hl 1 rfl) ?_
      refine lv_aload_n hx hb dL_law_404 rfl (lv_at hl 0 rfl) ?_
      refine lv_iload_n hx hb dL_law_405 rfl (lv_at hl 3 rfl) ?_
      refine lv_iconst (v := 1) hx hb dL_law_406 (by decide) ?_
      refine lv_iadd hx hb dL_law_407 ?_
      obtain ⟨hb_91, hm⟩ := chk_elim hm
      refine va_sld hx hb hX hbl hbA hS (inb_vp hb_91) dL_law_408 ?_
      obtain ⟨⟨r_93, M_94⟩, hc_92, hm⟩ := bind_elim hm
      replace hm := un2_e hm
      refine x_calli (x_runV (As := [.int (xs (ix (c3 + 1)))]) (rest := []) X hP hS (c_X5_end l X.2.2 hAll hc_92) (cwV 1 hts gL_law_X5_end rfl rfl rfl (by decide +kernel) ⟨Nat.le_of_ble_eq_true rfl, Nat.le_of_ble_eq_true rfl⟩) (x_recv (C := RX5) (T := TX5) (N := 11) X hP (okc_146 hAll) rfl) rfl hl.1 rfl (Nat.le_of_ble_eq_true rfl) dL_law_409 ⟨hkc, hks⟩) hS (fun H locs hP hS => ?_)
      refine lv_aload_n hx hb dL_law_412 rfl (lv_at hl 2 rfl) ?_
      refine lv_aload_n hx hb dL_law_413 rfl (lv_at hl 0 rfl) ?_
      refine lv_iload_n hx hb dL_law_414 rfl (lv_at hl 3 rfl) ?_
      refine lv_iconst (v := 1) hx hb dL_law_415 (by decide) ?_
      refine lv_iadd hx hb dL_law_416 ?_
      refine va_sld hx hb hX hbl hbA hS (inb_vp hb_91) dL_law_417 ?_
      obtain ⟨⟨r_96, M_97⟩, hc_95, hm⟩ := bind_elim hm
      replace hm := un2_e hm
      refine x_calli (x_runV (As := [.int (xs (ix (c3 + 1)))]) (rest := [.int r_93]) X hP hS (c_X6_end l X.2.2 hAll hc_95) (cwV 1 hts gL_law_X6_end rfl rfl rfl (by decide +kernel) ⟨Nat.le_of_ble_eq_true rfl, Nat.le_of_ble_eq_true rfl⟩) (x_recv (C := RX6) (T := TX6) (N := 55) X hP (okc_148 hAll) rfl) rfl hl.1 rfl (Nat.le_of_ble_eq_true rfl) dL_law_418 ⟨hkc, hks⟩) hS (fun H locs hP hS => ?_)
      refine lv_icmp_eq (tgt := 947) hx hb dL_law_421 (by decide) (fun h_98 => ?_) (fun h_98 => ?_)
      · rw [if_pos h_98] at hm
        obtain ⟨v_99, hv_100, hm⟩ := bnd_elim hm
        refine lv_iinc (v := v_99) (lv' := [(3, .int v_99), (0, .ref b), (1, .ref (ga g 146)), (2, .ref (ga g 148))]) hx hb dL_law_947 hl (k := 3) rfl (by rw [hv_100]; rfl) (by decide) rfl (fun ls hl => ?_)
        refine lv_goto (tgt := 18) hx hb dL_law_950 (by decide) ?_
        exact kb v_99 M_97 (Option.some.inj hm).symm _ _ _ hP hS (lv_sub hl [1, 2, 3, 0] rfl)
      · rw [if_neg h_98] at hm
        cases hm
    rw [if_neg h_90] at hm
    by_cases h_101 : v_3 = 8
    · rw [if_pos h_101] at hm
      refine lv_tableIn (off := 393) (tgt := 426) hx hb dL_law_33 (by rw [h_101]; decide) (by rw [h_101]; decide) (by rw [h_101]; rfl) (by decide) ?_
      refine lv_aload_n hx hb dL_law_426 rfl (lv_at hl 1 rfl) ?_
      refine lv_aload_n hx hb dL_law_427 rfl (lv_at hl 0 rfl) ?_
      refine lv_iload_n hx hb dL_law_428 rfl (lv_at hl 3 rfl) ?_
      refine lv_iconst (v := 1) hx hb dL_law_429 (by decide) ?_
      refine lv_iadd hx hb dL_law_430 ?_
      obtain ⟨hb_102, hm⟩ := chk_elim hm
      refine va_sld hx hb hX hbl hbA hS (inb_vp hb_102) dL_law_431 ?_
      obtain ⟨⟨r_104, M_105⟩, hc_103, hm⟩ := bind_elim hm
      replace hm := un2_e hm
      refine x_calli (x_runV (As := [.int (xs (ix (c3 + 1)))]) (rest := []) X hP hS (c_X5_text l X.2.2 hAll hc_103) (cwV 1 hts gL_law_X5_text rfl rfl rfl (by decide +kernel) ⟨Nat.le_of_ble_eq_true rfl, Nat.le_of_ble_eq_true rfl⟩) (x_recv (C := RX5) (T := TX5) (N := 11) X hP (okc_146 hAll) rfl) rfl hl.1 rfl (Nat.le_of_ble_eq_true rfl) dL_law_432 ⟨hkc, hks⟩) hS (fun H locs hP hS => ?_)
      refine lv_aload_n hx hb dL_law_435 rfl (lv_at hl 2 rfl) ?_
      refine lv_aload_n hx hb dL_law_436 rfl (lv_at hl 0 rfl) ?_
      refine lv_iload_n hx hb dL_law_437 rfl (lv_at hl 3 rfl) ?_
      refine lv_iconst (v := 1) hx hb dL_law_438 (by decide) ?_
      refine lv_iadd hx hb dL_law_439 ?_
      refine va_sld hx hb hX hbl hbA hS (inb_vp hb_102) dL_law_440 ?_
      obtain ⟨⟨r_107, M_108⟩, hc_106, hm⟩ := bind_elim hm
      replace hm := un2_e hm
      refine x_calli (x_runV (As := [.int (xs (ix (c3 + 1)))]) (rest := [.int r_104]) X hP hS (c_X6_text l X.2.2 hAll hc_106) (cwV 1 hts gL_law_X6_text rfl rfl rfl (by decide +kernel) ⟨Nat.le_of_ble_eq_true rfl, Nat.le_of_ble_eq_true rfl⟩) (x_recv (C := RX6) (T := TX6) (N := 55) X hP (okc_148 hAll) rfl) rfl hl.1 rfl (Nat.le_of_ble_eq_true rfl) dL_law_441 ⟨hkc, hks⟩) hS (fun H locs hP hS => ?_)
      refine lv_icmp_eq (tgt := 947) hx hb dL_law_444 (by decide) (fun h_109 => ?_) (fun h_109 => ?_)
      · rw [if_pos h_109] at hm
        obtain ⟨v_110, hv_111, hm⟩ := bnd_elim hm
        refine lv_iinc (v := v_110) (lv' := [(3, .int v_110), (0, .ref b), (1, .ref (ga g 146)), (2, .ref (ga g 148))]) hx hb dL_law_947 hl (k := 3) rfl (by rw [hv_111]; rfl) (by decide) rfl (fun ls hl => ?_)
        refine lv_goto (tgt := 18) hx hb dL_law_950 (by decide) ?_
        exact kb v_110 M_108 (Option.some.inj hm).symm _ _ _ hP hS (lv_sub hl [1, 2, 3, 0] rfl)
      · rw [if_neg h_109] at hm
        cases hm
    rw [if_neg h_101] at hm
    by_cases h_112 : v_3 = 9
    · rw [if_pos h_112] at hm
      refine lv_tableIn (off := 416) (tgt := 449) hx hb dL_law_33 (by rw [h_112]; decide) (by rw [h_112]; decide) (by rw [h_112]; rfl) (by decide) ?_
      refine lv_aload_n hx hb dL_law_449 rfl (lv_at hl 1 rfl) ?_
      refine lv_aload_n hx hb dL_law_450 rfl (lv_at hl 0 rfl) ?_
      refine lv_iload_n hx hb dL_law_451 rfl (lv_at hl 3 rfl) ?_
      refine lv_iconst (v := 1) hx hb dL_law_452 (by decide) ?_
      refine lv_iadd hx hb dL_law_453 ?_
      obtain ⟨hb_113, hm⟩ := chk_elim hm
      refine va_sld hx hb hX hbl hbA hS (inb_vp hb_113) dL_law_454 ?_
      obtain ⟨r_115, hc_114, hm⟩ := bind_elim hm
      refine x_calli (x_runV (As := [.int (xs (ix (c3 + 1)))]) (rest := []) X hP hS (c_X5_fault l X.2.2 hAll hc_114) (cwV 1 hts gL_law_X5_fault rfl rfl rfl (by decide +kernel) ⟨Nat.le_of_ble_eq_true rfl, Nat.le_of_ble_eq_true rfl⟩) (x_recv (C := RX5) (T := TX5) (N := 11) X hP (okc_146 hAll) rfl) rfl hl.1 rfl (Nat.le_of_ble_eq_true rfl) dL_law_455 ⟨hkc, hks⟩) hS (fun H locs hP hS => ?_)
      refine lv_aload_n hx hb dL_law_458 rfl (lv_at hl 2 rfl) ?_
      refine lv_aload_n hx hb dL_law_459 rfl (lv_at hl 0 rfl) ?_
      refine lv_iload_n hx hb dL_law_460 rfl (lv_at hl 3 rfl) ?_
      refine lv_iconst (v := 1) hx hb dL_law_461 (by decide) ?_
      refine lv_iadd hx hb dL_law_462 ?_
      refine va_sld hx hb hX hbl hbA hS (inb_vp hb_113) dL_law_463 ?_
      obtain ⟨⟨r_117, M_118⟩, hc_116, hm⟩ := bind_elim hm
      replace hm := un2_e hm
      refine x_calli (x_runV (As := [.int (xs (ix (c3 + 1)))]) (rest := [.int r_115]) X hP hS (c_X6_fault l X.2.2 hAll hc_116) (cwV 1 hts gL_law_X6_fault rfl rfl rfl (by decide +kernel) ⟨Nat.le_of_ble_eq_true rfl, Nat.le_of_ble_eq_true rfl⟩) (x_recv (C := RX6) (T := TX6) (N := 55) X hP (okc_148 hAll) rfl) rfl hl.1 rfl (Nat.le_of_ble_eq_true rfl) dL_law_464 ⟨hkc, hks⟩) hS (fun H locs hP hS => ?_)
      refine lv_icmp_eq (tgt := 947) hx hb dL_law_467 (by decide) (fun h_119 => ?_) (fun h_119 => ?_)
      · rw [if_pos h_119] at hm
        obtain ⟨v_120, hv_121, hm⟩ := bnd_elim hm
        refine lv_iinc (v := v_120) (lv' := [(3, .int v_120), (0, .ref b), (1, .ref (ga g 146)), (2, .ref (ga g 148))]) hx hb dL_law_947 hl (k := 3) rfl (by rw [hv_121]; rfl) (by decide) rfl (fun ls hl => ?_)
        refine lv_goto (tgt := 18) hx hb dL_law_950 (by decide) ?_
        exact kb v_120 M_118 (Option.some.inj hm).symm _ _ _ hP hS (lv_sub hl [1, 2, 3, 0] rfl)
      · rw [if_neg h_119] at hm
        cases hm
    rw [if_neg h_112] at hm
    by_cases h_122 : v_3 = 10
    · rw [if_pos h_122] at hm
      refine lv_tableIn (off := 439) (tgt := 472) hx hb dL_law_33 (by rw [h_122]; decide) (by rw [h_122]; decide) (by rw [h_122]; rfl) (by decide) ?_
      refine lv_aload_n hx hb dL_law_472 rfl (lv_at hl 1 rfl) ?_
      refine lv_aload_n hx hb dL_law_473 rfl (lv_at hl 0 rfl) ?_
      refine lv_iload_n hx hb dL_law_474 rfl (lv_at hl 3 rfl) ?_
      refine lv_iconst (v := 1) hx hb dL_law_475 (by decide) ?_
      refine lv_iadd hx hb dL_law_476 ?_
      obtain ⟨hb_123, hm⟩ := chk_elim hm
      refine va_sld hx hb hX hbl hbA hS (inb_vp hb_123) dL_law_477 ?_
      refine lv_aload_n hx hb dL_law_478 rfl (lv_at hl 0 rfl) ?_
      refine lv_iload_n hx hb dL_law_479 rfl (lv_at hl 3 rfl) ?_
      refine lv_iconst (v := 2) hx hb dL_law_480 (by decide) ?_
      refine lv_iadd hx hb dL_law_481 ?_
      obtain ⟨hb_124, hm⟩ := chk_elim hm
      refine va_sld hx hb hX hbl hbA hS (inb_vp hb_124) dL_law_482 ?_
      obtain ⟨⟨r_126, M_127⟩, hc_125, hm⟩ := bind_elim hm
      replace hm := un2_e hm
      refine x_calli (x_runV (As := [.int (xs (ix (c3 + 1))), .int (xs (ix (c3 + 2)))]) (rest := []) X hP hS (c_X5_of l X.2.2 hAll hc_125) (cwV 2 hts gL_law_X5_of rfl rfl rfl (by decide +kernel) ⟨Nat.le_of_ble_eq_true rfl, Nat.le_of_ble_eq_true rfl⟩) (x_recv (C := RX5) (T := TX5) (N := 11) X hP (okc_146 hAll) rfl) rfl hl.1 rfl (Nat.le_of_ble_eq_true rfl) dL_law_483 ⟨hkc, hks⟩) hS (fun H locs hP hS => ?_)
      refine lv_aload_n hx hb dL_law_486 rfl (lv_at hl 2 rfl) ?_
      refine lv_aload_n hx hb dL_law_487 rfl (lv_at hl 0 rfl) ?_
      refine lv_iload_n hx hb dL_law_488 rfl (lv_at hl 3 rfl) ?_
      refine lv_iconst (v := 1) hx hb dL_law_489 (by decide) ?_
      refine lv_iadd hx hb dL_law_490 ?_
      refine va_sld hx hb hX hbl hbA hS (inb_vp hb_123) dL_law_491 ?_
      refine lv_aload_n hx hb dL_law_492 rfl (lv_at hl 0 rfl) ?_
      refine lv_iload_n hx hb dL_law_493 rfl (lv_at hl 3 rfl) ?_
      refine lv_iconst (v := 2) hx hb dL_law_494 (by decide) ?_
      refine lv_iadd hx hb dL_law_495 ?_
      refine va_sld hx hb hX hbl hbA hS (inb_vp hb_124) dL_law_496 ?_
      obtain ⟨⟨r_129, M_130⟩, hc_128, hm⟩ := bind_elim hm
      replace hm := un2_e hm
      refine x_calli (x_runV (As := [.int (xs (ix (c3 + 1))), .int (xs (ix (c3 + 2)))]) (rest := [.int r_126]) X hP hS (c_X6_of l X.2.2 hAll hc_128) (cwV 2 hts gL_law_X6_of rfl rfl rfl (by decide +kernel) ⟨Nat.le_of_ble_eq_true rfl, Nat.le_of_ble_eq_true rfl⟩) (x_recv (C := RX6) (T := TX6) (N := 55) X hP (okc_148 hAll) rfl) rfl hl.1 rfl (Nat.le_of_ble_eq_true rfl) dL_law_497 ⟨hkc, hks⟩) hS (fun H locs hP hS => ?_)
      refine lv_icmp_eq (tgt := 947) hx hb dL_law_500 (by decide) (fun h_131 => ?_) (fun h_131 => ?_)
      · rw [if_pos h_131] at hm
        obtain ⟨v_132, hv_133, hm⟩ := bnd_elim hm
        refine lv_iinc (v := v_132) (lv' := [(3, .int v_132), (0, .ref b), (1, .ref (ga g 146)), (2, .ref (ga g 148))]) hx hb dL_law_947 hl (k := 3) rfl (by rw [hv_133]; rfl) (by decide) rfl (fun ls hl => ?_)
        refine lv_goto (tgt := 18) hx hb dL_law_950 (by decide) ?_
        exact kb v_132 M_130 (Option.some.inj hm).symm _ _ _ hP hS (lv_sub hl [1, 2, 3, 0] rfl)
      · rw [if_neg h_131] at hm
        cases hm
    rw [if_neg h_122] at hm
    by_cases h_134 : v_3 = 11
    · rw [if_pos h_134] at hm
      refine lv_tableIn (off := 472) (tgt := 505) hx hb dL_law_33 (by rw [h_134]; decide) (by rw [h_134]; decide) (by rw [h_134]; rfl) (by decide) ?_
      refine lv_aload_n hx hb dL_law_505 rfl (lv_at hl 1 rfl) ?_
      refine lv_aload_n hx hb dL_law_506 rfl (lv_at hl 0 rfl) ?_
      refine lv_iload_n hx hb dL_law_507 rfl (lv_at hl 3 rfl) ?_
      refine lv_iconst (v := 1) hx hb dL_law_508 (by decide) ?_
      refine lv_iadd hx hb dL_law_509 ?_
      obtain ⟨hb_135, hm⟩ := chk_elim hm
      refine va_sld hx hb hX hbl hbA hS (inb_vp hb_135) dL_law_510 ?_
      refine lv_aload_n hx hb dL_law_511 rfl (lv_at hl 0 rfl) ?_
      refine lv_iload_n hx hb dL_law_512 rfl (lv_at hl 3 rfl) ?_
      refine lv_iconst (v := 2) hx hb dL_law_513 (by decide) ?_
      refine lv_iadd hx hb dL_law_514 ?_
      obtain ⟨hb_136, hm⟩ := chk_elim hm
      refine va_sld hx hb hX hbl hbA hS (inb_vp hb_136) dL_law_515 ?_
      obtain ⟨r_138, hc_137, hm⟩ := bind_elim hm
      refine x_calli (x_runV (As := [.int (xs (ix (c3 + 1))), .int (xs (ix (c3 + 2)))]) (rest := []) X hP hS (c_X5_stake l X.2.2 hAll hc_137) (cwV 2 hts gL_law_X5_stake rfl rfl rfl (by decide +kernel) ⟨Nat.le_of_ble_eq_true rfl, Nat.le_of_ble_eq_true rfl⟩) (x_recv (C := RX5) (T := TX5) (N := 11) X hP (okc_146 hAll) rfl) rfl hl.1 rfl (Nat.le_of_ble_eq_true rfl) dL_law_516 ⟨hkc, hks⟩) hS (fun H locs hP hS => ?_)
      refine lv_aload_n hx hb dL_law_519 rfl (lv_at hl 2 rfl) ?_
      refine lv_aload_n hx hb dL_law_520 rfl (lv_at hl 0 rfl) ?_
      refine lv_iload_n hx hb dL_law_521 rfl (lv_at hl 3 rfl) ?_
      refine lv_iconst (v := 1) hx hb dL_law_522 (by decide) ?_
      refine lv_iadd hx hb dL_law_523 ?_
      refine va_sld hx hb hX hbl hbA hS (inb_vp hb_135) dL_law_524 ?_
      refine lv_aload_n hx hb dL_law_525 rfl (lv_at hl 0 rfl) ?_
      refine lv_iload_n hx hb dL_law_526 rfl (lv_at hl 3 rfl) ?_
      refine lv_iconst (v := 2) hx hb dL_law_527 (by decide) ?_
      refine lv_iadd hx hb dL_law_528 ?_
      refine va_sld hx hb hX hbl hbA hS (inb_vp hb_136) dL_law_529 ?_
      obtain ⟨⟨r_140, M_141⟩, hc_139, hm⟩ := bind_elim hm
      replace hm := un2_e hm
      refine x_calli (x_runV (As := [.int (xs (ix (c3 + 1))), .int (xs (ix (c3 + 2)))]) (rest := [.int r_138]) X hP hS (c_X6_stake l X.2.2 hAll hc_139) (cwV 2 hts gL_law_X6_stake rfl rfl rfl (by decide +kernel) ⟨Nat.le_of_ble_eq_true rfl, Nat.le_of_ble_eq_true rfl⟩) (x_recv (C := RX6) (T := TX6) (N := 55) X hP (okc_148 hAll) rfl) rfl hl.1 rfl (Nat.le_of_ble_eq_true rfl) dL_law_530 ⟨hkc, hks⟩) hS (fun H locs hP hS => ?_)
      refine lv_icmp_eq (tgt := 947) hx hb dL_law_533 (by decide) (fun h_142 => ?_) (fun h_142 => ?_)
      · rw [if_pos h_142] at hm
        obtain ⟨v_143, hv_144, hm⟩ := bnd_elim hm
        refine lv_iinc (v := v_143) (lv' := [(3, .int v_143), (0, .ref b), (1, .ref (ga g 146)), (2, .ref (ga g 148))]) hx hb dL_law_947 hl (k := 3) rfl (by rw [hv_144]; rfl) (by decide) rfl (fun ls hl => ?_)
        refine lv_goto (tgt := 18) hx hb dL_law_950 (by decide) ?_
        exact kb v_143 M_141 (Option.some.inj hm).symm _ _ _ hP hS (lv_sub hl [1, 2, 3, 0] rfl)
      · rw [if_neg h_142] at hm
        cases hm
    rw [if_neg h_134] at hm
    by_cases h_145 : v_3 = 12
    · rw [if_pos h_145] at hm
      refine lv_tableIn (off := 505) (tgt := 538) hx hb dL_law_33 (by rw [h_145]; decide) (by rw [h_145]; decide) (by rw [h_145]; rfl) (by decide) ?_
      refine lv_aload_n hx hb dL_law_538 rfl (lv_at hl 1 rfl) ?_
      refine lv_aload_n hx hb dL_law_539 rfl (lv_at hl 0 rfl) ?_
      refine lv_iload_n hx hb dL_law_540 rfl (lv_at hl 3 rfl) ?_
      refine lv_iconst (v := 1) hx hb dL_law_541 (by decide) ?_
      refine lv_iadd hx hb dL_law_542 ?_
      obtain ⟨hb_146, hm⟩ := chk_elim hm
      refine va_sld hx hb hX hbl hbA hS (inb_vp hb_146) dL_law_543 ?_
      obtain ⟨⟨r_148, M_149⟩, hc_147, hm⟩ := bind_elim hm
      replace hm := un2_e hm
      refine x_calli (x_runV (As := [.int (xs (ix (c3 + 1)))]) (rest := []) X hP hS (c_X5_nights l X.2.2 hAll hc_147) (cwV 1 hts gL_law_X5_nights rfl rfl rfl (by decide +kernel) ⟨Nat.le_of_ble_eq_true rfl, Nat.le_of_ble_eq_true rfl⟩) (x_recv (C := RX5) (T := TX5) (N := 11) X hP (okc_146 hAll) rfl) rfl hl.1 rfl (Nat.le_of_ble_eq_true rfl) dL_law_544 ⟨hkc, hks⟩) hS (fun H locs hP hS => ?_)
      refine lv_aload_n hx hb dL_law_547 rfl (lv_at hl 2 rfl) ?_
      refine lv_aload_n hx hb dL_law_548 rfl (lv_at hl 0 rfl) ?_
      refine lv_iload_n hx hb dL_law_549 rfl (lv_at hl 3 rfl) ?_
      refine lv_iconst (v := 1) hx hb dL_law_550 (by decide) ?_
      refine lv_iadd hx hb dL_law_551 ?_
      refine va_sld hx hb hX hbl hbA hS (inb_vp hb_146) dL_law_552 ?_
      obtain ⟨⟨r_151, M_152⟩, hc_150, hm⟩ := bind_elim hm
      replace hm := un2_e hm
      refine x_calli (x_runV (As := [.int (xs (ix (c3 + 1)))]) (rest := [.int r_148]) X hP hS (c_X6_nights l X.2.2 hAll hc_150) (cwV 1 hts gL_law_X6_nights rfl rfl rfl (by decide +kernel) ⟨Nat.le_of_ble_eq_true rfl, Nat.le_of_ble_eq_true rfl⟩) (x_recv (C := RX6) (T := TX6) (N := 55) X hP (okc_148 hAll) rfl) rfl hl.1 rfl (Nat.le_of_ble_eq_true rfl) dL_law_553 ⟨hkc, hks⟩) hS (fun H locs hP hS => ?_)
      refine lv_icmp_eq (tgt := 947) hx hb dL_law_556 (by decide) (fun h_153 => ?_) (fun h_153 => ?_)
      · rw [if_pos h_153] at hm
        obtain ⟨v_154, hv_155, hm⟩ := bnd_elim hm
        refine lv_iinc (v := v_154) (lv' := [(3, .int v_154), (0, .ref b), (1, .ref (ga g 146)), (2, .ref (ga g 148))]) hx hb dL_law_947 hl (k := 3) rfl (by rw [hv_155]; rfl) (by decide) rfl (fun ls hl => ?_)
        refine lv_goto (tgt := 18) hx hb dL_law_950 (by decide) ?_
        exact kb v_154 M_152 (Option.some.inj hm).symm _ _ _ hP hS (lv_sub hl [1, 2, 3, 0] rfl)
      · rw [if_neg h_153] at hm
        cases hm
    rw [if_neg h_145] at hm
    by_cases h_156 : v_3 = 13
    · rw [if_pos h_156] at hm
      refine lv_tableIn (off := 528) (tgt := 561) hx hb dL_law_33 (by rw [h_156]; decide) (by rw [h_156]; decide) (by rw [h_156]; rfl) (by decide) ?_
      refine lv_aload_n hx hb dL_law_561 rfl (lv_at hl 1 rfl) ?_
      refine lv_aload_n hx hb dL_law_562 rfl (lv_at hl 0 rfl) ?_
      refine lv_iload_n hx hb dL_law_563 rfl (lv_at hl 3 rfl) ?_
      refine lv_iconst (v := 1) hx hb dL_law_564 (by decide) ?_
      refine lv_iadd hx hb dL_law_565 ?_
      obtain ⟨hb_157, hm⟩ := chk_elim hm
      refine va_sld hx hb hX hbl hbA hS (inb_vp hb_157) dL_law_566 ?_
      refine lv_aload_n hx hb dL_law_567 rfl (lv_at hl 0 rfl) ?_
      refine lv_iload_n hx hb dL_law_568 rfl (lv_at hl 3 rfl) ?_
      refine lv_iconst (v := 2) hx hb dL_law_569 (by decide) ?_
      refine lv_iadd hx hb dL_law_570 ?_
      obtain ⟨hb_158, hm⟩ := chk_elim hm
      refine va_sld hx hb hX hbl hbA hS (inb_vp hb_158) dL_law_571 ?_
      obtain ⟨r_160, hc_159, hm⟩ := bind_elim hm
      refine x_calli (x_runV (As := [.int (xs (ix (c3 + 1))), .int (xs (ix (c3 + 2)))]) (rest := []) X hP hS (c_X5_value l X.2.2 hAll hc_159) (cwV 2 hts gL_law_X5_value rfl rfl rfl (by decide +kernel) ⟨Nat.le_of_ble_eq_true rfl, Nat.le_of_ble_eq_true rfl⟩) (x_recv (C := RX5) (T := TX5) (N := 11) X hP (okc_146 hAll) rfl) rfl hl.1 rfl (Nat.le_of_ble_eq_true rfl) dL_law_572 ⟨hkc, hks⟩) hS (fun H locs hP hS => ?_)
      refine lv_aload_n hx hb dL_law_575 rfl (lv_at hl 2 rfl) ?_
      refine lv_aload_n hx hb dL_law_576 rfl (lv_at hl 0 rfl) ?_
      refine lv_iload_n hx hb dL_law_577 rfl (lv_at hl 3 rfl) ?_
      refine lv_iconst (v := 1) hx hb dL_law_578 (by decide) ?_
      refine lv_iadd hx hb dL_law_579 ?_
      refine va_sld hx hb hX hbl hbA hS (inb_vp hb_157) dL_law_580 ?_
      refine lv_aload_n hx hb dL_law_581 rfl (lv_at hl 0 rfl) ?_
      refine lv_iload_n hx hb dL_law_582 rfl (lv_at hl 3 rfl) ?_
      refine lv_iconst (v := 2) hx hb dL_law_583 (by decide) ?_
      refine lv_iadd hx hb dL_law_584 ?_
      refine va_sld hx hb hX hbl hbA hS (inb_vp hb_158) dL_law_585 ?_
      obtain ⟨⟨r_162, M_163⟩, hc_161, hm⟩ := bind_elim hm
      replace hm := un2_e hm
      refine x_calli (x_runV (As := [.int (xs (ix (c3 + 1))), .int (xs (ix (c3 + 2)))]) (rest := [.int r_160]) X hP hS (c_X6_value l X.2.2 hAll hc_161) (cwV 2 hts gL_law_X6_value rfl rfl rfl (by decide +kernel) ⟨Nat.le_of_ble_eq_true rfl, Nat.le_of_ble_eq_true rfl⟩) (x_recv (C := RX6) (T := TX6) (N := 55) X hP (okc_148 hAll) rfl) rfl hl.1 rfl (Nat.le_of_ble_eq_true rfl) dL_law_586 ⟨hkc, hks⟩) hS (fun H locs hP hS => ?_)
      refine lv_icmp_eq (tgt := 947) hx hb dL_law_589 (by decide) (fun h_164 => ?_) (fun h_164 => ?_)
      · rw [if_pos h_164] at hm
        obtain ⟨v_165, hv_166, hm⟩ := bnd_elim hm
        refine lv_iinc (v := v_165) (lv' := [(3, .int v_165), (0, .ref b), (1, .ref (ga g 146)), (2, .ref (ga g 148))]) hx hb dL_law_947 hl (k := 3) rfl (by rw [hv_166]; rfl) (by decide) rfl (fun ls hl => ?_)
        refine lv_goto (tgt := 18) hx hb dL_law_950 (by decide) ?_
        exact kb v_165 M_163 (Option.some.inj hm).symm _ _ _ hP hS (lv_sub hl [1, 2, 3, 0] rfl)
      · rw [if_neg h_164] at hm
        cases hm
    rw [if_neg h_156] at hm
    by_cases h_167 : v_3 = 14
    · rw [if_pos h_167] at hm
      refine lv_tableIn (off := 561) (tgt := 594) hx hb dL_law_33 (by rw [h_167]; decide) (by rw [h_167]; decide) (by rw [h_167]; rfl) (by decide) ?_
      refine lv_aload_n hx hb dL_law_594 rfl (lv_at hl 1 rfl) ?_
      refine lv_aload_n hx hb dL_law_595 rfl (lv_at hl 0 rfl) ?_
      refine lv_iload_n hx hb dL_law_596 rfl (lv_at hl 3 rfl) ?_
      refine lv_iconst (v := 1) hx hb dL_law_597 (by decide) ?_
      refine lv_iadd hx hb dL_law_598 ?_
      obtain ⟨hb_168, hm⟩ := chk_elim hm
      refine va_sld hx hb hX hbl hbA hS (inb_vp hb_168) dL_law_599 ?_
      refine lv_aload_n hx hb dL_law_600 rfl (lv_at hl 0 rfl) ?_
      refine lv_iload_n hx hb dL_law_601 rfl (lv_at hl 3 rfl) ?_
      refine lv_iconst (v := 2) hx hb dL_law_602 (by decide) ?_
      refine lv_iadd hx hb dL_law_603 ?_
      obtain ⟨hb_169, hm⟩ := chk_elim hm
      refine va_sld hx hb hX hbl hbA hS (inb_vp hb_169) dL_law_604 ?_
      obtain ⟨r_171, hc_170, hm⟩ := bind_elim hm
      refine x_calli (x_runV (As := [.int (xs (ix (c3 + 1))), .int (xs (ix (c3 + 2)))]) (rest := []) X hP hS (c_X5_reply l X.2.2 hAll hc_170) (cwV 2 hts gL_law_X5_reply rfl rfl rfl (by decide +kernel) ⟨Nat.le_of_ble_eq_true rfl, Nat.le_of_ble_eq_true rfl⟩) (x_recv (C := RX5) (T := TX5) (N := 11) X hP (okc_146 hAll) rfl) rfl hl.1 rfl (Nat.le_of_ble_eq_true rfl) dL_law_605 ⟨hkc, hks⟩) hS (fun H locs hP hS => ?_)
      refine lv_aload_n hx hb dL_law_608 rfl (lv_at hl 2 rfl) ?_
      refine lv_aload_n hx hb dL_law_609 rfl (lv_at hl 0 rfl) ?_
      refine lv_iload_n hx hb dL_law_610 rfl (lv_at hl 3 rfl) ?_
      refine lv_iconst (v := 1) hx hb dL_law_611 (by decide) ?_
      refine lv_iadd hx hb dL_law_612 ?_
      refine va_sld hx hb hX hbl hbA hS (inb_vp hb_168) dL_law_613 ?_
      refine lv_aload_n hx hb dL_law_614 rfl (lv_at hl 0 rfl) ?_
      refine lv_iload_n hx hb dL_law_615 rfl (lv_at hl 3 rfl) ?_
      refine lv_iconst (v := 2) hx hb dL_law_616 (by decide) ?_
      refine lv_iadd hx hb dL_law_617 ?_
      refine va_sld hx hb hX hbl hbA hS (inb_vp hb_169) dL_law_618 ?_
      obtain ⟨⟨r_173, M_174⟩, hc_172, hm⟩ := bind_elim hm
      replace hm := un2_e hm
      refine x_calli (x_runV (As := [.int (xs (ix (c3 + 1))), .int (xs (ix (c3 + 2)))]) (rest := [.int r_171]) X hP hS (c_X6_reply l X.2.2 hAll hc_172) (cwV 2 hts gL_law_X6_reply rfl rfl rfl (by decide +kernel) ⟨Nat.le_of_ble_eq_true rfl, Nat.le_of_ble_eq_true rfl⟩) (x_recv (C := RX6) (T := TX6) (N := 55) X hP (okc_148 hAll) rfl) rfl hl.1 rfl (Nat.le_of_ble_eq_true rfl) dL_law_619 ⟨hkc, hks⟩) hS (fun H locs hP hS => ?_)
      refine lv_icmp_eq (tgt := 947) hx hb dL_law_622 (by decide) (fun h_175 => ?_) (fun h_175 => ?_)
      · rw [if_pos h_175] at hm
        obtain ⟨v_176, hv_177, hm⟩ := bnd_elim hm
        refine lv_iinc (v := v_176) (lv' := [(3, .int v_176), (0, .ref b), (1, .ref (ga g 146)), (2, .ref (ga g 148))]) hx hb dL_law_947 hl (k := 3) rfl (by rw [hv_177]; rfl) (by decide) rfl (fun ls hl => ?_)
        refine lv_goto (tgt := 18) hx hb dL_law_950 (by decide) ?_
        exact kb v_176 M_174 (Option.some.inj hm).symm _ _ _ hP hS (lv_sub hl [1, 2, 3, 0] rfl)
      · rw [if_neg h_175] at hm
        cases hm
    rw [if_neg h_167] at hm
    by_cases h_178 : v_3 = 15
    · rw [if_pos h_178] at hm
      refine lv_tableIn (off := 594) (tgt := 627) hx hb dL_law_33 (by rw [h_178]; decide) (by rw [h_178]; decide) (by rw [h_178]; rfl) (by decide) ?_
      refine lv_aload_n hx hb dL_law_627 rfl (lv_at hl 1 rfl) ?_
      refine lv_aload_n hx hb dL_law_628 rfl (lv_at hl 0 rfl) ?_
      refine lv_iload_n hx hb dL_law_629 rfl (lv_at hl 3 rfl) ?_
      refine lv_iconst (v := 1) hx hb dL_law_630 (by decide) ?_
      refine lv_iadd hx hb dL_law_631 ?_
      obtain ⟨hb_179, hm⟩ := chk_elim hm
      refine va_sld hx hb hX hbl hbA hS (inb_vp hb_179) dL_law_632 ?_
      obtain ⟨⟨r_181, M_182⟩, hc_180, hm⟩ := bind_elim hm
      replace hm := un2_e hm
      refine x_calli (x_runV (As := [.int (xs (ix (c3 + 1)))]) (rest := []) X hP hS (c_X5_rests l X.2.2 hAll hc_180) (cwV 1 hts gL_law_X5_rests rfl rfl rfl (by decide +kernel) ⟨Nat.le_of_ble_eq_true rfl, Nat.le_of_ble_eq_true rfl⟩) (x_recv (C := RX5) (T := TX5) (N := 11) X hP (okc_146 hAll) rfl) rfl hl.1 rfl (Nat.le_of_ble_eq_true rfl) dL_law_633 ⟨hkc, hks⟩) hS (fun H locs hP hS => ?_)
      refine lv_aload_n hx hb dL_law_636 rfl (lv_at hl 2 rfl) ?_
      refine lv_aload_n hx hb dL_law_637 rfl (lv_at hl 0 rfl) ?_
      refine lv_iload_n hx hb dL_law_638 rfl (lv_at hl 3 rfl) ?_
      refine lv_iconst (v := 1) hx hb dL_law_639 (by decide) ?_
      refine lv_iadd hx hb dL_law_640 ?_
      refine va_sld hx hb hX hbl hbA hS (inb_vp hb_179) dL_law_641 ?_
      obtain ⟨⟨r_184, M_185⟩, hc_183, hm⟩ := bind_elim hm
      replace hm := un2_e hm
      refine x_calli (x_runV (As := [.int (xs (ix (c3 + 1)))]) (rest := [.int r_181]) X hP hS (c_X6_rests l X.2.2 hAll hc_183) (cwV 1 hts gL_law_X6_rests rfl rfl rfl (by decide +kernel) ⟨Nat.le_of_ble_eq_true rfl, Nat.le_of_ble_eq_true rfl⟩) (x_recv (C := RX6) (T := TX6) (N := 55) X hP (okc_148 hAll) rfl) rfl hl.1 rfl (Nat.le_of_ble_eq_true rfl) dL_law_642 ⟨hkc, hks⟩) hS (fun H locs hP hS => ?_)
      refine lv_icmp_eq (tgt := 947) hx hb dL_law_645 (by decide) (fun h_186 => ?_) (fun h_186 => ?_)
      · rw [if_pos h_186] at hm
        obtain ⟨v_187, hv_188, hm⟩ := bnd_elim hm
        refine lv_iinc (v := v_187) (lv' := [(3, .int v_187), (0, .ref b), (1, .ref (ga g 146)), (2, .ref (ga g 148))]) hx hb dL_law_947 hl (k := 3) rfl (by rw [hv_188]; rfl) (by decide) rfl (fun ls hl => ?_)
        refine lv_goto (tgt := 18) hx hb dL_law_950 (by decide) ?_
        exact kb v_187 M_185 (Option.some.inj hm).symm _ _ _ hP hS (lv_sub hl [1, 2, 3, 0] rfl)
      · rw [if_neg h_186] at hm
        cases hm
    rw [if_neg h_178] at hm
    by_cases h_189 : v_3 = 16
    · rw [if_pos h_189] at hm
      refine lv_tableIn (off := 617) (tgt := 650) hx hb dL_law_33 (by rw [h_189]; decide) (by rw [h_189]; decide) (by rw [h_189]; rfl) (by decide) ?_
      refine lv_aload_n hx hb dL_law_650 rfl (lv_at hl 1 rfl) ?_
      obtain ⟨⟨r_191, M_192⟩, hc_190, hm⟩ := bind_elim hm
      replace hm := un2_e hm
      refine x_calli (x_runV (As := []) (rest := []) X hP hS (c_X5_still l X.2.2 hAll hc_190) (cwV 0 hts gL_law_X5_still rfl rfl rfl (by decide +kernel) ⟨Nat.le_of_ble_eq_true rfl, Nat.le_of_ble_eq_true rfl⟩) (x_recv (C := RX5) (T := TX5) (N := 11) X hP (okc_146 hAll) rfl) rfl hl.1 rfl (Nat.le_of_ble_eq_true rfl) dL_law_651 ⟨hkc, hks⟩) hS (fun H locs hP hS => ?_)
      refine lv_aload_n hx hb dL_law_654 rfl (lv_at hl 2 rfl) ?_
      obtain ⟨⟨r_194, M_195⟩, hc_193, hm⟩ := bind_elim hm
      replace hm := un2_e hm
      refine x_calli (x_runV (As := []) (rest := [.int r_191]) X hP hS (c_X6_still l X.2.2 hAll hc_193) (cwV 0 hts gL_law_X6_still rfl rfl rfl (by decide +kernel) ⟨Nat.le_of_ble_eq_true rfl, Nat.le_of_ble_eq_true rfl⟩) (x_recv (C := RX6) (T := TX6) (N := 55) X hP (okc_148 hAll) rfl) rfl hl.1 rfl (Nat.le_of_ble_eq_true rfl) dL_law_655 ⟨hkc, hks⟩) hS (fun H locs hP hS => ?_)
      refine lv_icmp_eq (tgt := 947) hx hb dL_law_658 (by decide) (fun h_196 => ?_) (fun h_196 => ?_)
      · rw [if_pos h_196] at hm
        obtain ⟨v_197, hv_198, hm⟩ := bnd_elim hm
        refine lv_iinc (v := v_197) (lv' := [(3, .int v_197), (0, .ref b), (1, .ref (ga g 146)), (2, .ref (ga g 148))]) hx hb dL_law_947 hl (k := 3) rfl (by rw [hv_198]; rfl) (by decide) rfl (fun ls hl => ?_)
        refine lv_goto (tgt := 18) hx hb dL_law_950 (by decide) ?_
        exact kb v_197 M_195 (Option.some.inj hm).symm _ _ _ hP hS (lv_sub hl [1, 2, 3, 0] rfl)
      · rw [if_neg h_196] at hm
        cases hm
    rw [if_neg h_189] at hm
    by_cases h_199 : v_3 = 17
    · rw [if_pos h_199] at hm
      refine lv_tableIn (off := 630) (tgt := 663) hx hb dL_law_33 (by rw [h_199]; decide) (by rw [h_199]; decide) (by rw [h_199]; rfl) (by decide) ?_
      refine lv_aload_n hx hb dL_law_663 rfl (lv_at hl 1 rfl) ?_
      refine lv_aload_n hx hb dL_law_664 rfl (lv_at hl 0 rfl) ?_
      refine lv_iload_n hx hb dL_law_665 rfl (lv_at hl 3 rfl) ?_
      refine lv_iconst (v := 1) hx hb dL_law_666 (by decide) ?_
      refine lv_iadd hx hb dL_law_667 ?_
      obtain ⟨hb_200, hm⟩ := chk_elim hm
      refine va_sld hx hb hX hbl hbA hS (inb_vp hb_200) dL_law_668 ?_
      refine lv_aload_n hx hb dL_law_669 rfl (lv_at hl 0 rfl) ?_
      refine lv_iload_n hx hb dL_law_670 rfl (lv_at hl 3 rfl) ?_
      refine lv_iconst (v := 2) hx hb dL_law_671 (by decide) ?_
      refine lv_iadd hx hb dL_law_672 ?_
      obtain ⟨hb_201, hm⟩ := chk_elim hm
      refine va_sld hx hb hX hbl hbA hS (inb_vp hb_201) dL_law_673 ?_
      obtain ⟨⟨r_203, M_204⟩, hc_202, hm⟩ := bind_elim hm
      replace hm := un2_e hm
      refine x_calli (x_runV (As := [.int (xs (ix (c3 + 1))), .int (xs (ix (c3 + 2)))]) (rest := []) X hP hS (c_X5_walls l X.2.2 hAll hc_202) (cwV 2 hts gL_law_X5_walls rfl rfl rfl (by decide +kernel) ⟨Nat.le_of_ble_eq_true rfl, Nat.le_of_ble_eq_true rfl⟩) (x_recv (C := RX5) (T := TX5) (N := 11) X hP (okc_146 hAll) rfl) rfl hl.1 rfl (Nat.le_of_ble_eq_true rfl) dL_law_674 ⟨hkc, hks⟩) hS (fun H locs hP hS => ?_)
      refine lv_aload_n hx hb dL_law_677 rfl (lv_at hl 2 rfl) ?_
      refine lv_aload_n hx hb dL_law_678 rfl (lv_at hl 0 rfl) ?_
      refine lv_iload_n hx hb dL_law_679 rfl (lv_at hl 3 rfl) ?_
      refine lv_iconst (v := 1) hx hb dL_law_680 (by decide) ?_
      refine lv_iadd hx hb dL_law_681 ?_
      refine va_sld hx hb hX hbl hbA hS (inb_vp hb_200) dL_law_682 ?_
      refine lv_aload_n hx hb dL_law_683 rfl (lv_at hl 0 rfl) ?_
      refine lv_iload_n hx hb dL_law_684 rfl (lv_at hl 3 rfl) ?_
      refine lv_iconst (v := 2) hx hb dL_law_685 (by decide) ?_
      refine lv_iadd hx hb dL_law_686 ?_
      refine va_sld hx hb hX hbl hbA hS (inb_vp hb_201) dL_law_687 ?_
      obtain ⟨⟨r_206, M_207⟩, hc_205, hm⟩ := bind_elim hm
      replace hm := un2_e hm
      refine x_calli (x_runV (As := [.int (xs (ix (c3 + 1))), .int (xs (ix (c3 + 2)))]) (rest := [.int r_203]) X hP hS (c_X6_walls l X.2.2 hAll hc_205) (cwV 2 hts gL_law_X6_walls rfl rfl rfl (by decide +kernel) ⟨Nat.le_of_ble_eq_true rfl, Nat.le_of_ble_eq_true rfl⟩) (x_recv (C := RX6) (T := TX6) (N := 55) X hP (okc_148 hAll) rfl) rfl hl.1 rfl (Nat.le_of_ble_eq_true rfl) dL_law_688 ⟨hkc, hks⟩) hS (fun H locs hP hS => ?_)
      refine lv_icmp_eq (tgt := 947) hx hb dL_law_691 (by decide) (fun h_208 => ?_) (fun h_208 => ?_)
      · rw [if_pos h_208] at hm
        obtain ⟨v_209, hv_210, hm⟩ := bnd_elim hm
        refine lv_iinc (v := v_209) (lv' := [(3, .int v_209), (0, .ref b), (1, .ref (ga g 146)), (2, .ref (ga g 148))]) hx hb dL_law_947 hl (k := 3) rfl (by rw [hv_210]; rfl) (by decide) rfl (fun ls hl => ?_)
        refine lv_goto (tgt := 18) hx hb dL_law_950 (by decide) ?_
        exact kb v_209 M_207 (Option.some.inj hm).symm _ _ _ hP hS (lv_sub hl [1, 2, 3, 0] rfl)
      · rw [if_neg h_208] at hm
        cases hm
    rw [if_neg h_199] at hm
    by_cases h_211 : v_3 = 18
    · rw [if_pos h_211] at hm
      refine lv_tableIn (off := 663) (tgt := 696) hx hb dL_law_33 (by rw [h_211]; decide) (by rw [h_211]; decide) (by rw [h_211]; rfl) (by decide) ?_
      refine lv_aload_n hx hb dL_law_696 rfl (lv_at hl 1 rfl) ?_
      refine lv_aload_n hx hb dL_law_697 rfl (lv_at hl 0 rfl) ?_
      refine lv_iload_n hx hb dL_law_698 rfl (lv_at hl 3 rfl) ?_
      refine lv_iconst (v := 1) hx hb dL_law_699 (by decide) ?_
      refine lv_iadd hx hb dL_law_700 ?_
      obtain ⟨hb_212, hm⟩ := chk_elim hm
      refine va_sld hx hb hX hbl hbA hS (inb_vp hb_212) dL_law_701 ?_
      refine lv_aload_n hx hb dL_law_702 rfl (lv_at hl 0 rfl) ?_
      refine lv_iload_n hx hb dL_law_703 rfl (lv_at hl 3 rfl) ?_
      refine lv_iconst (v := 2) hx hb dL_law_704 (by decide) ?_
      refine lv_iadd hx hb dL_law_705 ?_
      obtain ⟨hb_213, hm⟩ := chk_elim hm
      refine va_sld hx hb hX hbl hbA hS (inb_vp hb_213) dL_law_706 ?_
      obtain ⟨r_215, hc_214, hm⟩ := bind_elim hm
      refine x_calli (x_runV (As := [.int (xs (ix (c3 + 1))), .int (xs (ix (c3 + 2)))]) (rest := []) X hP hS (c_X5_pact l X.2.2 hAll hc_214) (cwV 2 hts gL_law_X5_pact rfl rfl rfl (by decide +kernel) ⟨Nat.le_of_ble_eq_true rfl, Nat.le_of_ble_eq_true rfl⟩) (x_recv (C := RX5) (T := TX5) (N := 11) X hP (okc_146 hAll) rfl) rfl hl.1 rfl (Nat.le_of_ble_eq_true rfl) dL_law_707 ⟨hkc, hks⟩) hS (fun H locs hP hS => ?_)
      refine lv_aload_n hx hb dL_law_710 rfl (lv_at hl 2 rfl) ?_
      refine lv_aload_n hx hb dL_law_711 rfl (lv_at hl 0 rfl) ?_
      refine lv_iload_n hx hb dL_law_712 rfl (lv_at hl 3 rfl) ?_
      refine lv_iconst (v := 1) hx hb dL_law_713 (by decide) ?_
      refine lv_iadd hx hb dL_law_714 ?_
      refine va_sld hx hb hX hbl hbA hS (inb_vp hb_212) dL_law_715 ?_
      refine lv_aload_n hx hb dL_law_716 rfl (lv_at hl 0 rfl) ?_
      refine lv_iload_n hx hb dL_law_717 rfl (lv_at hl 3 rfl) ?_
      refine lv_iconst (v := 2) hx hb dL_law_718 (by decide) ?_
      refine lv_iadd hx hb dL_law_719 ?_
      refine va_sld hx hb hX hbl hbA hS (inb_vp hb_213) dL_law_720 ?_
      obtain ⟨⟨r_217, M_218⟩, hc_216, hm⟩ := bind_elim hm
      replace hm := un2_e hm
      refine x_calli (x_runV (As := [.int (xs (ix (c3 + 1))), .int (xs (ix (c3 + 2)))]) (rest := [.int r_215]) X hP hS (c_X6_pact l X.2.2 hAll hc_216) (cwV 2 hts gL_law_X6_pact rfl rfl rfl (by decide +kernel) ⟨Nat.le_of_ble_eq_true rfl, Nat.le_of_ble_eq_true rfl⟩) (x_recv (C := RX6) (T := TX6) (N := 55) X hP (okc_148 hAll) rfl) rfl hl.1 rfl (Nat.le_of_ble_eq_true rfl) dL_law_721 ⟨hkc, hks⟩) hS (fun H locs hP hS => ?_)
      refine lv_icmp_eq (tgt := 947) hx hb dL_law_724 (by decide) (fun h_219 => ?_) (fun h_219 => ?_)
      · rw [if_pos h_219] at hm
        obtain ⟨v_220, hv_221, hm⟩ := bnd_elim hm
        refine lv_iinc (v := v_220) (lv' := [(3, .int v_220), (0, .ref b), (1, .ref (ga g 146)), (2, .ref (ga g 148))]) hx hb dL_law_947 hl (k := 3) rfl (by rw [hv_221]; rfl) (by decide) rfl (fun ls hl => ?_)
        refine lv_goto (tgt := 18) hx hb dL_law_950 (by decide) ?_
        exact kb v_220 M_218 (Option.some.inj hm).symm _ _ _ hP hS (lv_sub hl [1, 2, 3, 0] rfl)
      · rw [if_neg h_219] at hm
        cases hm
    rw [if_neg h_211] at hm
    by_cases h_222 : v_3 = 19
    · rw [if_pos h_222] at hm
      refine lv_tableIn (off := 696) (tgt := 729) hx hb dL_law_33 (by rw [h_222]; decide) (by rw [h_222]; decide) (by rw [h_222]; rfl) (by decide) ?_
      refine lv_aload_n hx hb dL_law_729 rfl (lv_at hl 1 rfl) ?_
      refine lv_aload_n hx hb dL_law_730 rfl (lv_at hl 0 rfl) ?_
      refine lv_iload_n hx hb dL_law_731 rfl (lv_at hl 3 rfl) ?_
      refine lv_iconst (v := 1) hx hb dL_law_732 (by decide) ?_
      refine lv_iadd hx hb dL_law_733 ?_
      obtain ⟨hb_223, hm⟩ := chk_elim hm
      refine va_sld hx hb hX hbl hbA hS (inb_vp hb_223) dL_law_734 ?_
      refine lv_aload_n hx hb dL_law_735 rfl (lv_at hl 0 rfl) ?_
      refine lv_iload_n hx hb dL_law_736 rfl (lv_at hl 3 rfl) ?_
      refine lv_iconst (v := 2) hx hb dL_law_737 (by decide) ?_
      refine lv_iadd hx hb dL_law_738 ?_
      obtain ⟨hb_224, hm⟩ := chk_elim hm
      refine va_sld hx hb hX hbl hbA hS (inb_vp hb_224) dL_law_739 ?_
      refine lv_aload_n hx hb dL_law_740 rfl (lv_at hl 0 rfl) ?_
      refine lv_iload_n hx hb dL_law_741 rfl (lv_at hl 3 rfl) ?_
      refine lv_iconst (v := 3) hx hb dL_law_742 (by decide) ?_
      refine lv_iadd hx hb dL_law_743 ?_
      obtain ⟨hb_225, hm⟩ := chk_elim hm
      refine va_sld hx hb hX hbl hbA hS (inb_vp hb_225) dL_law_744 ?_
      refine lv_aload_n hx hb dL_law_745 rfl (lv_at hl 0 rfl) ?_
      refine lv_iload_n hx hb dL_law_746 rfl (lv_at hl 3 rfl) ?_
      refine lv_iconst (v := 4) hx hb dL_law_747 (by decide) ?_
      refine lv_iadd hx hb dL_law_748 ?_
      obtain ⟨hb_226, hm⟩ := chk_elim hm
      refine va_sld hx hb hX hbl hbA hS (inb_vp hb_226) dL_law_749 ?_
      obtain ⟨⟨r_228, M_229⟩, hc_227, hm⟩ := bind_elim hm
      replace hm := un2_e hm
      refine x_calll (x_runV (As := [.int (xs (ix (c3 + 1))), .int (xs (ix (c3 + 2))), .int (xs (ix (c3 + 3))), .int (xs (ix (c3 + 4)))]) (rest := []) X hP hS (c_X5_two l X.2.2 hAll hc_227) (cwV 4 hts gL_law_X5_two rfl rfl rfl (by decide +kernel) ⟨Nat.le_of_ble_eq_true rfl, Nat.le_of_ble_eq_true rfl⟩) (x_recv (C := RX5) (T := TX5) (N := 11) X hP (okc_146 hAll) rfl) rfl hl.1 rfl (Nat.le_of_ble_eq_true rfl) dL_law_750 ⟨hkc, hks⟩) hS (fun H locs hP hS => ?_)
      refine lv_aload_n hx hb dL_law_753 rfl (lv_at hl 2 rfl) ?_
      refine lv_aload_n hx hb dL_law_754 rfl (lv_at hl 0 rfl) ?_
      refine lv_iload_n hx hb dL_law_755 rfl (lv_at hl 3 rfl) ?_
      refine lv_iconst (v := 1) hx hb dL_law_756 (by decide) ?_
      refine lv_iadd hx hb dL_law_757 ?_
      refine va_sld hx hb hX hbl hbA hS (inb_vp hb_223) dL_law_758 ?_
      refine lv_aload_n hx hb dL_law_759 rfl (lv_at hl 0 rfl) ?_
      refine lv_iload_n hx hb dL_law_760 rfl (lv_at hl 3 rfl) ?_
      refine lv_iconst (v := 2) hx hb dL_law_761 (by decide) ?_
      refine lv_iadd hx hb dL_law_762 ?_
      refine va_sld hx hb hX hbl hbA hS (inb_vp hb_224) dL_law_763 ?_
      refine lv_aload_n hx hb dL_law_764 rfl (lv_at hl 0 rfl) ?_
      refine lv_iload_n hx hb dL_law_765 rfl (lv_at hl 3 rfl) ?_
      refine lv_iconst (v := 3) hx hb dL_law_766 (by decide) ?_
      refine lv_iadd hx hb dL_law_767 ?_
      refine va_sld hx hb hX hbl hbA hS (inb_vp hb_225) dL_law_768 ?_
      refine lv_aload_n hx hb dL_law_769 rfl (lv_at hl 0 rfl) ?_
      refine lv_iload_n hx hb dL_law_770 rfl (lv_at hl 3 rfl) ?_
      refine lv_iconst (v := 4) hx hb dL_law_771 (by decide) ?_
      refine lv_iadd hx hb dL_law_772 ?_
      refine va_sld hx hb hX hbl hbA hS (inb_vp hb_226) dL_law_773 ?_
      obtain ⟨⟨r_231, M_232⟩, hc_230, hm⟩ := bind_elim hm
      replace hm := un2_e hm
      refine x_calll (x_runV (As := [.int (xs (ix (c3 + 1))), .int (xs (ix (c3 + 2))), .int (xs (ix (c3 + 3))), .int (xs (ix (c3 + 4)))]) (rest := [.long r_228]) X hP hS (c_X6_two l X.2.2 hAll hc_230) (cwV 4 hts gL_law_X6_two rfl rfl rfl (by decide +kernel) ⟨Nat.le_of_ble_eq_true rfl, Nat.le_of_ble_eq_true rfl⟩) (x_recv (C := RX6) (T := TX6) (N := 55) X hP (okc_148 hAll) rfl) rfl hl.1 rfl (Nat.le_of_ble_eq_true rfl) dL_law_774 ⟨hkc, hks⟩) hS (fun H locs hP hS => ?_)
      refine W.lcmp hx hb dL_law_777 ?_
      refine lv_if_eq (tgt := 947) hx hb dL_law_778 (by decide) (fun h_233 => ?_) (fun h_233 => ?_)
      · rw [if_pos h_233] at hm
        obtain ⟨v_234, hv_235, hm⟩ := bnd_elim hm
        refine lv_iinc (v := v_234) (lv' := [(3, .int v_234), (0, .ref b), (1, .ref (ga g 146)), (2, .ref (ga g 148))]) hx hb dL_law_947 hl (k := 3) rfl (by rw [hv_235]; rfl) (by decide) rfl (fun ls hl => ?_)
        refine lv_goto (tgt := 18) hx hb dL_law_950 (by decide) ?_
        exact kb v_234 M_232 (Option.some.inj hm).symm _ _ _ hP hS (lv_sub hl [1, 2, 3, 0] rfl)
      · rw [if_neg h_233] at hm
        cases hm
    rw [if_neg h_222] at hm
    by_cases h_236 : v_3 = 20
    · rw [if_pos h_236] at hm
      refine lv_tableIn (off := 750) (tgt := 783) hx hb dL_law_33 (by rw [h_236]; decide) (by rw [h_236]; decide) (by rw [h_236]; rfl) (by decide) ?_
      refine lv_aload_n hx hb dL_law_783 rfl (lv_at hl 1 rfl) ?_
      refine lv_aload_n hx hb dL_law_784 rfl (lv_at hl 0 rfl) ?_
      refine lv_iload_n hx hb dL_law_785 rfl (lv_at hl 3 rfl) ?_
      refine lv_iconst (v := 1) hx hb dL_law_786 (by decide) ?_
      refine lv_iadd hx hb dL_law_787 ?_
      obtain ⟨hb_237, hm⟩ := chk_elim hm
      refine va_sld hx hb hX hbl hbA hS (inb_vp hb_237) dL_law_788 ?_
      refine lv_aload_n hx hb dL_law_789 rfl (lv_at hl 0 rfl) ?_
      refine lv_iload_n hx hb dL_law_790 rfl (lv_at hl 3 rfl) ?_
      refine lv_iconst (v := 2) hx hb dL_law_791 (by decide) ?_
      refine lv_iadd hx hb dL_law_792 ?_
      obtain ⟨hb_238, hm⟩ := chk_elim hm
      refine va_sld hx hb hX hbl hbA hS (inb_vp hb_238) dL_law_793 ?_
      obtain ⟨⟨r_240, M_241⟩, hc_239, hm⟩ := bind_elim hm
      replace hm := un2_e hm
      refine x_calli (x_runV (As := [.int (xs (ix (c3 + 1))), .int (xs (ix (c3 + 2)))]) (rest := []) X hP hS (c_X5_was l X.2.2 hAll hc_239) (cwV 2 hts gL_law_X5_was rfl rfl rfl (by decide +kernel) ⟨Nat.le_of_ble_eq_true rfl, Nat.le_of_ble_eq_true rfl⟩) (x_recv (C := RX5) (T := TX5) (N := 11) X hP (okc_146 hAll) rfl) rfl hl.1 rfl (Nat.le_of_ble_eq_true rfl) dL_law_794 ⟨hkc, hks⟩) hS (fun H locs hP hS => ?_)
      refine lv_aload_n hx hb dL_law_797 rfl (lv_at hl 2 rfl) ?_
      refine lv_aload_n hx hb dL_law_798 rfl (lv_at hl 0 rfl) ?_
      refine lv_iload_n hx hb dL_law_799 rfl (lv_at hl 3 rfl) ?_
      refine lv_iconst (v := 1) hx hb dL_law_800 (by decide) ?_
      refine lv_iadd hx hb dL_law_801 ?_
      refine va_sld hx hb hX hbl hbA hS (inb_vp hb_237) dL_law_802 ?_
      refine lv_aload_n hx hb dL_law_803 rfl (lv_at hl 0 rfl) ?_
      refine lv_iload_n hx hb dL_law_804 rfl (lv_at hl 3 rfl) ?_
      refine lv_iconst (v := 2) hx hb dL_law_805 (by decide) ?_
      refine lv_iadd hx hb dL_law_806 ?_
      refine va_sld hx hb hX hbl hbA hS (inb_vp hb_238) dL_law_807 ?_
      obtain ⟨⟨r_243, M_244⟩, hc_242, hm⟩ := bind_elim hm
      replace hm := un2_e hm
      refine x_calli (x_runV (As := [.int (xs (ix (c3 + 1))), .int (xs (ix (c3 + 2)))]) (rest := [.int r_240]) X hP hS (c_X6_was l X.2.2 hAll hc_242) (cwV 2 hts gL_law_X6_was rfl rfl rfl (by decide +kernel) ⟨Nat.le_of_ble_eq_true rfl, Nat.le_of_ble_eq_true rfl⟩) (x_recv (C := RX6) (T := TX6) (N := 55) X hP (okc_148 hAll) rfl) rfl hl.1 rfl (Nat.le_of_ble_eq_true rfl) dL_law_808 ⟨hkc, hks⟩) hS (fun H locs hP hS => ?_)
      refine lv_icmp_eq (tgt := 947) hx hb dL_law_811 (by decide) (fun h_245 => ?_) (fun h_245 => ?_)
      · rw [if_pos h_245] at hm
        obtain ⟨v_246, hv_247, hm⟩ := bnd_elim hm
        refine lv_iinc (v := v_246) (lv' := [(3, .int v_246), (0, .ref b), (1, .ref (ga g 146)), (2, .ref (ga g 148))]) hx hb dL_law_947 hl (k := 3) rfl (by rw [hv_247]; rfl) (by decide) rfl (fun ls hl => ?_)
        refine lv_goto (tgt := 18) hx hb dL_law_950 (by decide) ?_
        exact kb v_246 M_244 (Option.some.inj hm).symm _ _ _ hP hS (lv_sub hl [1, 2, 3, 0] rfl)
      · rw [if_neg h_245] at hm
        cases hm
    rw [if_neg h_236] at hm
    by_cases h_248 : v_3 = 21
    · rw [if_pos h_248] at hm
      refine lv_tableIn (off := 783) (tgt := 816) hx hb dL_law_33 (by rw [h_248]; decide) (by rw [h_248]; decide) (by rw [h_248]; rfl) (by decide) ?_
      refine lv_aload_n hx hb dL_law_816 rfl (lv_at hl 1 rfl) ?_
      obtain ⟨r_250, hc_249, hm⟩ := bind_elim hm
      refine x_calli (x_runV (As := []) (rest := []) X hP hS (c_X5_judged l X.2.2 hAll hc_249) (cwV 0 hts gL_law_X5_judged rfl rfl rfl (by decide +kernel) ⟨Nat.le_of_ble_eq_true rfl, Nat.le_of_ble_eq_true rfl⟩) (x_recv (C := RX5) (T := TX5) (N := 11) X hP (okc_146 hAll) rfl) rfl hl.1 rfl (Nat.le_of_ble_eq_true rfl) dL_law_817 ⟨hkc, hks⟩) hS (fun H locs hP hS => ?_)
      refine lv_aload_n hx hb dL_law_820 rfl (lv_at hl 2 rfl) ?_
      obtain ⟨⟨r_252, M_253⟩, hc_251, hm⟩ := bind_elim hm
      replace hm := un2_e hm
      refine x_calli (x_runV (As := []) (rest := [.int r_250]) X hP hS (c_X6_judged l X.2.2 hAll hc_251) (cwV 0 hts gL_law_X6_judged rfl rfl rfl (by decide +kernel) ⟨Nat.le_of_ble_eq_true rfl, Nat.le_of_ble_eq_true rfl⟩) (x_recv (C := RX6) (T := TX6) (N := 55) X hP (okc_148 hAll) rfl) rfl hl.1 rfl (Nat.le_of_ble_eq_true rfl) dL_law_821 ⟨hkc, hks⟩) hS (fun H locs hP hS => ?_)
      refine lv_icmp_eq (tgt := 947) hx hb dL_law_824 (by decide) (fun h_254 => ?_) (fun h_254 => ?_)
      · rw [if_pos h_254] at hm
        obtain ⟨v_255, hv_256, hm⟩ := bnd_elim hm
        refine lv_iinc (v := v_255) (lv' := [(3, .int v_255), (0, .ref b), (1, .ref (ga g 146)), (2, .ref (ga g 148))]) hx hb dL_law_947 hl (k := 3) rfl (by rw [hv_256]; rfl) (by decide) rfl (fun ls hl => ?_)
        refine lv_goto (tgt := 18) hx hb dL_law_950 (by decide) ?_
        exact kb v_255 M_253 (Option.some.inj hm).symm _ _ _ hP hS (lv_sub hl [1, 2, 3, 0] rfl)
      · rw [if_neg h_254] at hm
        cases hm
    rw [if_neg h_248] at hm
    by_cases h_257 : v_3 = 22
    · rw [if_pos h_257] at hm
      refine lv_tableIn (off := 796) (tgt := 829) hx hb dL_law_33 (by rw [h_257]; decide) (by rw [h_257]; decide) (by rw [h_257]; rfl) (by decide) ?_
      refine lv_aload_n hx hb dL_law_829 rfl (lv_at hl 1 rfl) ?_
      refine lv_aload_n hx hb dL_law_830 rfl (lv_at hl 0 rfl) ?_
      refine lv_iload_n hx hb dL_law_831 rfl (lv_at hl 3 rfl) ?_
      refine lv_iconst (v := 1) hx hb dL_law_832 (by decide) ?_
      refine lv_iadd hx hb dL_law_833 ?_
      obtain ⟨hb_258, hm⟩ := chk_elim hm
      refine va_sld hx hb hX hbl hbA hS (inb_vp hb_258) dL_law_834 ?_
      obtain ⟨⟨r_260, M_261⟩, hc_259, hm⟩ := bind_elim hm
      replace hm := un2_e hm
      refine x_calli (x_runV (As := [.int (xs (ix (c3 + 1)))]) (rest := []) X hP hS (c_X5_feet l X.2.2 hAll hc_259) (cwV 1 hts gL_law_X5_feet rfl rfl rfl (by decide +kernel) ⟨Nat.le_of_ble_eq_true rfl, Nat.le_of_ble_eq_true rfl⟩) (x_recv (C := RX5) (T := TX5) (N := 11) X hP (okc_146 hAll) rfl) rfl hl.1 rfl (Nat.le_of_ble_eq_true rfl) dL_law_835 ⟨hkc, hks⟩) hS (fun H locs hP hS => ?_)
      refine lv_aload_n hx hb dL_law_838 rfl (lv_at hl 2 rfl) ?_
      refine lv_aload_n hx hb dL_law_839 rfl (lv_at hl 0 rfl) ?_
      refine lv_iload_n hx hb dL_law_840 rfl (lv_at hl 3 rfl) ?_
      refine lv_iconst (v := 1) hx hb dL_law_841 (by decide) ?_
      refine lv_iadd hx hb dL_law_842 ?_
      refine va_sld hx hb hX hbl hbA hS (inb_vp hb_258) dL_law_843 ?_
      obtain ⟨⟨r_263, M_264⟩, hc_262, hm⟩ := bind_elim hm
      replace hm := un2_e hm
      refine x_calli (x_runV (As := [.int (xs (ix (c3 + 1)))]) (rest := [.int r_260]) X hP hS (c_X6_feet l X.2.2 hAll hc_262) (cwV 1 hts gL_law_X6_feet rfl rfl rfl (by decide +kernel) ⟨Nat.le_of_ble_eq_true rfl, Nat.le_of_ble_eq_true rfl⟩) (x_recv (C := RX6) (T := TX6) (N := 55) X hP (okc_148 hAll) rfl) rfl hl.1 rfl (Nat.le_of_ble_eq_true rfl) dL_law_844 ⟨hkc, hks⟩) hS (fun H locs hP hS => ?_)
      refine lv_icmp_eq (tgt := 947) hx hb dL_law_847 (by decide) (fun h_265 => ?_) (fun h_265 => ?_)
      · rw [if_pos h_265] at hm
        obtain ⟨v_266, hv_267, hm⟩ := bnd_elim hm
        refine lv_iinc (v := v_266) (lv' := [(3, .int v_266), (0, .ref b), (1, .ref (ga g 146)), (2, .ref (ga g 148))]) hx hb dL_law_947 hl (k := 3) rfl (by rw [hv_267]; rfl) (by decide) rfl (fun ls hl => ?_)
        refine lv_goto (tgt := 18) hx hb dL_law_950 (by decide) ?_
        exact kb v_266 M_264 (Option.some.inj hm).symm _ _ _ hP hS (lv_sub hl [1, 2, 3, 0] rfl)
      · rw [if_neg h_265] at hm
        cases hm
    rw [if_neg h_257] at hm
    by_cases h_268 : v_3 = 23
    · rw [if_pos h_268] at hm
      refine lv_tableIn (off := 819) (tgt := 852) hx hb dL_law_33 (by rw [h_268]; decide) (by rw [h_268]; decide) (by rw [h_268]; rfl) (by decide) ?_
      refine lv_aload_n hx hb dL_law_852 rfl (lv_at hl 1 rfl) ?_
      refine lv_aload_n hx hb dL_law_853 rfl (lv_at hl 0 rfl) ?_
      refine lv_iload_n hx hb dL_law_854 rfl (lv_at hl 3 rfl) ?_
      refine lv_iconst (v := 1) hx hb dL_law_855 (by decide) ?_
      refine lv_iadd hx hb dL_law_856 ?_
      obtain ⟨hb_269, hm⟩ := chk_elim hm
      refine va_sld hx hb hX hbl hbA hS (inb_vp hb_269) dL_law_857 ?_
      refine lv_aload_n hx hb dL_law_858 rfl (lv_at hl 0 rfl) ?_
      refine lv_iload_n hx hb dL_law_859 rfl (lv_at hl 3 rfl) ?_
      refine lv_iconst (v := 2) hx hb dL_law_860 (by decide) ?_
      refine lv_iadd hx hb dL_law_861 ?_
      obtain ⟨hb_270, hm⟩ := chk_elim hm
      refine va_sld hx hb hX hbl hbA hS (inb_vp hb_270) dL_law_862 ?_
      obtain ⟨⟨r_272, M_273⟩, hc_271, hm⟩ := bind_elim hm
      replace hm := un2_e hm
      refine x_calli (x_runV (As := [.int (xs (ix (c3 + 1))), .int (xs (ix (c3 + 2)))]) (rest := []) X hP hS (c_X5_thought l X.2.2 hAll hc_271) (cwV 2 hts gL_law_X5_thought rfl rfl rfl (by decide +kernel) ⟨Nat.le_of_ble_eq_true rfl, Nat.le_of_ble_eq_true rfl⟩) (x_recv (C := RX5) (T := TX5) (N := 11) X hP (okc_146 hAll) rfl) rfl hl.1 rfl (Nat.le_of_ble_eq_true rfl) dL_law_863 ⟨hkc, hks⟩) hS (fun H locs hP hS => ?_)
      refine lv_aload_n hx hb dL_law_866 rfl (lv_at hl 2 rfl) ?_
      refine lv_aload_n hx hb dL_law_867 rfl (lv_at hl 0 rfl) ?_
      refine lv_iload_n hx hb dL_law_868 rfl (lv_at hl 3 rfl) ?_
      refine lv_iconst (v := 1) hx hb dL_law_869 (by decide) ?_
      refine lv_iadd hx hb dL_law_870 ?_
      refine va_sld hx hb hX hbl hbA hS (inb_vp hb_269) dL_law_871 ?_
      refine lv_aload_n hx hb dL_law_872 rfl (lv_at hl 0 rfl) ?_
      refine lv_iload_n hx hb dL_law_873 rfl (lv_at hl 3 rfl) ?_
      refine lv_iconst (v := 2) hx hb dL_law_874 (by decide) ?_
      refine lv_iadd hx hb dL_law_875 ?_
      refine va_sld hx hb hX hbl hbA hS (inb_vp hb_270) dL_law_876 ?_
      obtain ⟨⟨r_275, M_276⟩, hc_274, hm⟩ := bind_elim hm
      replace hm := un2_e hm
      refine x_calli (x_runV (As := [.int (xs (ix (c3 + 1))), .int (xs (ix (c3 + 2)))]) (rest := [.int r_272]) X hP hS (c_X6_thought l X.2.2 hAll hc_274) (cwV 2 hts gL_law_X6_thought rfl rfl rfl (by decide +kernel) ⟨Nat.le_of_ble_eq_true rfl, Nat.le_of_ble_eq_true rfl⟩) (x_recv (C := RX6) (T := TX6) (N := 55) X hP (okc_148 hAll) rfl) rfl hl.1 rfl (Nat.le_of_ble_eq_true rfl) dL_law_877 ⟨hkc, hks⟩) hS (fun H locs hP hS => ?_)
      refine lv_icmp_eq (tgt := 947) hx hb dL_law_880 (by decide) (fun h_277 => ?_) (fun h_277 => ?_)
      · rw [if_pos h_277] at hm
        obtain ⟨v_278, hv_279, hm⟩ := bnd_elim hm
        refine lv_iinc (v := v_278) (lv' := [(3, .int v_278), (0, .ref b), (1, .ref (ga g 146)), (2, .ref (ga g 148))]) hx hb dL_law_947 hl (k := 3) rfl (by rw [hv_279]; rfl) (by decide) rfl (fun ls hl => ?_)
        refine lv_goto (tgt := 18) hx hb dL_law_950 (by decide) ?_
        exact kb v_278 M_276 (Option.some.inj hm).symm _ _ _ hP hS (lv_sub hl [1, 2, 3, 0] rfl)
      · rw [if_neg h_277] at hm
        cases hm
    rw [if_neg h_268] at hm
    by_cases h_280 : v_3 = 24
    · rw [if_pos h_280] at hm
      refine lv_tableIn (off := 852) (tgt := 885) hx hb dL_law_33 (by rw [h_280]; decide) (by rw [h_280]; decide) (by rw [h_280]; rfl) (by decide) ?_
      refine lv_aload_n hx hb dL_law_885 rfl (lv_at hl 1 rfl) ?_
      refine lv_aload_n hx hb dL_law_886 rfl (lv_at hl 0 rfl) ?_
      refine lv_iload_n hx hb dL_law_887 rfl (lv_at hl 3 rfl) ?_
      refine lv_iconst (v := 1) hx hb dL_law_888 (by decide) ?_
      refine lv_iadd hx hb dL_law_889 ?_
      obtain ⟨hb_281, hm⟩ := chk_elim hm
      refine va_sld hx hb hX hbl hbA hS (inb_vp hb_281) dL_law_890 ?_
      refine lv_if_eq (tgt := 898) hx hb dL_law_891 (by decide) (fun h_282 => ?_) (fun h_282 => ?_)
      · rw [if_pos (show xs (ix (c3 + 1)) = 0 from h_282)] at hm
        refine lv_iconst (v := 0) hx hb dL_law_898 (by decide) ?_
        exact wj_L_law_899i X hAll hX hbl hbA hkc hks kb kx0 hm hP hS (lv_sub hl [0, 1, 2, 3] rfl)
      · rw [if_neg (show ¬ xs (ix (c3 + 1)) = 0 from h_282)] at hm
        refine lv_iconst (v := 1) hx hb dL_law_894 (by decide) ?_
        refine lv_goto (tgt := 899) hx hb dL_law_895 (by decide) ?_
        exact wj_L_law_899i X hAll hX hbl hbA hkc hks kb kx0 hm hP hS (lv_sub hl [0, 1, 2, 3] rfl)
    rw [if_neg h_280] at hm
    by_cases h_294 : v_3 = 25
    · rw [if_pos h_294] at hm
      refine lv_tableIn (off := 891) (tgt := 924) hx hb dL_law_33 (by rw [h_294]; decide) (by rw [h_294]; decide) (by rw [h_294]; rfl) (by decide) ?_
      refine lv_aload_n hx hb dL_law_924 rfl (lv_at hl 1 rfl) ?_
      refine lv_aload_n hx hb dL_law_925 rfl (lv_at hl 0 rfl) ?_
      refine lv_iload_n hx hb dL_law_926 rfl (lv_at hl 3 rfl) ?_
      refine lv_iconst (v := 1) hx hb dL_law_927 (by decide) ?_
      refine lv_iadd hx hb dL_law_928 ?_
      obtain ⟨hb_295, hm⟩ := chk_elim hm
      refine va_sld hx hb hX hbl hbA hS (inb_vp hb_295) dL_law_929 ?_
      obtain ⟨r_297, hc_296, hm⟩ := bind_elim hm
      refine x_calli (x_runV (As := [.int (xs (ix (c3 + 1)))]) (rest := []) X hP hS (c_X5_look l X.2.2 hAll hc_296) (cwV 1 hts gL_law_X5_look rfl rfl rfl (by decide +kernel) ⟨Nat.le_of_ble_eq_true rfl, Nat.le_of_ble_eq_true rfl⟩) (x_recv (C := RX5) (T := TX5) (N := 11) X hP (okc_146 hAll) rfl) rfl hl.1 rfl (Nat.le_of_ble_eq_true rfl) dL_law_930 ⟨hkc, hks⟩) hS (fun H locs hP hS => ?_)
      refine lv_aload_n hx hb dL_law_933 rfl (lv_at hl 2 rfl) ?_
      refine lv_aload_n hx hb dL_law_934 rfl (lv_at hl 0 rfl) ?_
      refine lv_iload_n hx hb dL_law_935 rfl (lv_at hl 3 rfl) ?_
      refine lv_iconst (v := 1) hx hb dL_law_936 (by decide) ?_
      refine lv_iadd hx hb dL_law_937 ?_
      refine va_sld hx hb hX hbl hbA hS (inb_vp hb_295) dL_law_938 ?_
      obtain ⟨⟨r_299, M_300⟩, hc_298, hm⟩ := bind_elim hm
      replace hm := un2_e hm
      refine x_calli (x_runV (As := [.int (xs (ix (c3 + 1)))]) (rest := [.int r_297]) X hP hS (c_X6_look l X.2.2 hAll hc_298) (cwV 1 hts gL_law_X6_look rfl rfl rfl (by decide +kernel) ⟨Nat.le_of_ble_eq_true rfl, Nat.le_of_ble_eq_true rfl⟩) (x_recv (C := RX6) (T := TX6) (N := 55) X hP (okc_148 hAll) rfl) rfl hl.1 rfl (Nat.le_of_ble_eq_true rfl) dL_law_939 ⟨hkc, hks⟩) hS (fun H locs hP hS => ?_)
      refine lv_icmp_eq (tgt := 947) hx hb dL_law_942 (by decide) (fun h_301 => ?_) (fun h_301 => ?_)
      · rw [if_pos h_301] at hm
        obtain ⟨v_302, hv_303, hm⟩ := bnd_elim hm
        refine lv_iinc (v := v_302) (lv' := [(3, .int v_302), (0, .ref b), (1, .ref (ga g 146)), (2, .ref (ga g 148))]) hx hb dL_law_947 hl (k := 3) rfl (by rw [hv_303]; rfl) (by decide) rfl (fun ls hl => ?_)
        refine lv_goto (tgt := 18) hx hb dL_law_950 (by decide) ?_
        exact kb v_302 M_300 (Option.some.inj hm).symm _ _ _ hP hS (lv_sub hl [1, 2, 3, 0] rfl)
      · rw [if_neg h_301] at hm
        cases hm
    rw [if_neg h_294] at hm
    refine lv_tableOut (tgt := 947) hx hb dL_law_33 (by
        have zh_5 := lv_neT h_5 (a := 0) (by decide)
        have zh_16 := lv_neT h_16 (a := 1) (by decide)
        have zh_27 := lv_neT h_27 (a := 2) (by decide)
        have zh_40 := lv_neT h_40 (a := 3) (by decide)
        have zh_53 := lv_neT h_53 (a := 4) (by decide)
        have zh_65 := lv_neT h_65 (a := 5) (by decide)
        have zh_75 := lv_neT h_75 (a := 6) (by decide)
        have zh_90 := lv_neT h_90 (a := 7) (by decide)
        have zh_101 := lv_neT h_101 (a := 8) (by decide)
        have zh_112 := lv_neT h_112 (a := 9) (by decide)
        have zh_122 := lv_neT h_122 (a := 10) (by decide)
        have zh_134 := lv_neT h_134 (a := 11) (by decide)
        have zh_145 := lv_neT h_145 (a := 12) (by decide)
        have zh_156 := lv_neT h_156 (a := 13) (by decide)
        have zh_167 := lv_neT h_167 (a := 14) (by decide)
        have zh_178 := lv_neT h_178 (a := 15) (by decide)
        have zh_189 := lv_neT h_189 (a := 16) (by decide)
        have zh_199 := lv_neT h_199 (a := 17) (by decide)
        have zh_211 := lv_neT h_211 (a := 18) (by decide)
        have zh_222 := lv_neT h_222 (a := 19) (by decide)
        have zh_236 := lv_neT h_236 (a := 20) (by decide)
        have zh_248 := lv_neT h_248 (a := 21) (by decide)
        have zh_257 := lv_neT h_257 (a := 22) (by decide)
        have zh_268 := lv_neT h_268 (a := 23) (by decide)
        have zh_280 := lv_neT h_280 (a := 24) (by decide)
        have zh_294 := lv_neT h_294 (a := 25) (by decide)
        omega) (by decide) ?_
    obtain ⟨v_304, hv_305, hm⟩ := bnd_elim hm
    refine lv_iinc (v := v_304) (lv' := [(3, .int v_304), (0, .ref b), (1, .ref (ga g 146)), (2, .ref (ga g 148))]) hx hb dL_law_947 hl (k := 3) rfl (by rw [hv_305]; rfl) (by decide) rfl (fun ls hl => ?_)
    refine lv_goto (tgt := 18) hx hb dL_law_950 (by decide) ?_
    exact kb v_304 M (Option.some.inj hm).symm _ _ _ hP hS (lv_sub hl [1, 2, 3, 0] rfl)

end
