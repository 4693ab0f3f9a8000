/-! the JDK's text: length and letters of the class's words -/
section
variable {p : Program} {l : Launch} {e : Env} {R : Room} {s : State} {m : MethodId} {args : Array Value} {below : List Frame} {meth : Method} {c : Code} {H : Heap} {locs : List Loc} {cells slots : Nat} {Q : State → Prop}
variable {cc : ByteArray} {pc nL : Nat} {ls : Array Slot} {rest : List Value} {g : GT} {own : String} {Ts : List Cond} {M M' : Mem}
theorem x_recvS (X : CxG g p s m args c cc nL own Ts) (hS : va_S (AbG g) s.heap H locs) : ∃ cell : Cell, H[gs g 5]? = some cell ∧ cell.vm.isStatics = false ∧ s.vm.findClass "java/lang/String" = some cell.cls := vk_recv X.2.1.2.2.2.1.1 (i := 0) (by decide) hS
theorem x_strVal (X : CxG g p s m args c cc nL own Ts) (hS : va_S (AbG g) s.heap H locs) {index : Nat} (hlink : Cond.fieldLink own index "java/lang/String" "value" "[B" ∈ Ts) (hdg : decode cc pc = .ok (.getfield index, 3))
    (kk : W p l e R s m args below meth c H locs cells slots Q (F0 m (pc + 3) ls (.ref (gs g 6) :: rest))) : W p l e R s m args below meth c H locs cells slots Q (F0 m pc ls (.ref (gs g 5) :: rest)) := by
  obtain ⟨⟨hx, hb, -, hown, hts⟩, ⟨-, -, -, ⟨hV, -⟩, -⟩, -⟩ := X
  exact vk_getf hx hb ((hV.1 0 (by decide)).2.2.1) hS hown (hts _ hlink) (fun _ h => h) hdg kk
theorem x_strCod (X : CxG g p s m args c cc nL own Ts) (hS : va_S (AbG g) s.heap H locs) {index : Nat} (hlink : Cond.fieldLink own index "java/lang/String" "coder" "B" ∈ Ts) (hdg : decode cc pc = .ok (.getfield index, 3))
    (kk : W p l e R s m args below meth c H locs cells slots Q (F0 m (pc + 3) ls (.int 0 :: rest))) : W p l e R s m args below meth c H locs cells slots Q (F0 m pc ls (.ref (gs g 5) :: rest)) := by
  obtain ⟨⟨hx, hb, -, hown, hts⟩, ⟨-, -, -, ⟨hV, -⟩, -⟩, -⟩ := X
  exact vk_getf hx hb ((hV.1 0 (by decide)).2.1) hS hown (hts _ hlink) (fun _ h => h) hdg kk
theorem x_compact (X : CxG g p s m args c cc nL own Ts) (hS : va_S (AbG g) s.heap H locs) {index : Nat} (hlink : Cond.fieldLink own index "java/lang/String" "COMPACT_STRINGS" "Z" ∈ Ts) (hdg : decode cc pc = .ok (.getstatic index, 3))
    (kk : W p l e R s m args below meth c H locs cells slots Q (F0 m (pc + 3) ls (.int 1 :: rest))) : W p l e R s m args below meth c H locs cells slots Q (F0 m pc ls rest) := by
  obtain ⟨⟨hx, hb, -, hown, hts⟩, ⟨-, -, -, ⟨-, hJ⟩, -⟩, -⟩ := X
  exact va_gets hx hb hJ.1 hS hown (hts _ hlink) (fun _ h => h) hdg kk
theorem x_fmt (X : CxG g p s m args c cc nL own Ts) (hS : va_S (AbG g) s.heap H locs) {index : Nat} (hlink : Cond.fieldLink own index "jdk/internal/util/Preconditions" "SIOOBE_FORMATTER" "Ljava/util/function/BiFunction;" ∈ Ts) (hdg : decode cc pc = .ok (.getstatic index, 3))
    (kk : ∀ v : Value, (v = .null ∨ ∃ t, v = .ref t) → W p l e R s m args below meth c H locs cells slots Q (F0 m (pc + 3) ls (v :: rest))) : W p l e R s m args below meth c H locs cells slots Q (F0 m pc ls rest) := by
  obtain ⟨⟨hx, hb, -, hown, hts⟩, ⟨-, -, -, ⟨-, hJ⟩, -⟩, -⟩ := X
  rcases hJ.2 with h | ⟨t, h⟩
  · exact va_gets hx hb h hS hown (hts _ hlink) (fun _ h => h) hdg (kk _ (Or.inl rfl))
  · exact va_gets hx hb h hS hown (hts _ hlink) (fun _ h => h) hdg (kk _ (Or.inr ⟨t, rfl⟩))
theorem x_blen (X : CxG g p s m args c cc nL own Ts) (hS : va_S (AbG g) s.heap H locs) (hdg : decode cc pc = .ok (.arraylength, 1))
    (kk : W p l e R s m args below meth c H locs cells slots Q (F0 m (pc + 1) ls (.int (Int32.ofNat kwN) :: rest))) : W p l e R s m args below meth c H locs cells slots Q (F0 m pc ls (.ref (gs g 6) :: rest)) := by
  obtain ⟨⟨hx, hb, -, hown, hts⟩, ⟨-, -, -, ⟨hV, -⟩, -⟩, -⟩ := X
  exact va_tlen hx hb ((hV.1 0 (by decide)).2.2.2) hS rfl hdg kk
theorem x_bld (X : CxG g p s m args c cc nL own Ts) (hS : va_S (AbG g) s.heap H locs) {i : Int32} (hin : inb i kwN = true) (hdg : decode cc pc = .ok (.baload, 1))
    (kk : W p l e R s m args below meth c H locs cells slots Q (F0 m (pc + 1) ls (.int (kwC (ix i)) :: rest))) : W p l e R s m args below meth c H locs cells slots Q (F0 m pc ls (.int i :: .ref (gs g 6) :: rest)) := by
  obtain ⟨⟨hx, hb, -, hown, hts⟩, ⟨-, -, -, ⟨hV, -⟩, -⟩, -⟩ := X
  exact va_tb hx hb ((hV.1 0 (by decide)).2.2.2) hS (inb_vp hin) rfl hdg kk
theorem x_nret (X : CxG g p s m args c cc nL own Ts) {r : Int32} {ty : FieldType} (hn : narrow ty (.int r) = .int r) (hP : va_P (gD g) vwCl (wlG g M) H) (hS : va_S (AbG g) s.heap H locs) (hr : meth.sig.returnType = some ty) (hlocks : meth.locks = false) (hdg : decode cc pc = .ok (.ireturn, 1)) : W p l e R s m args below meth c H locs cells slots (MQ below (va_Qi (fun (q : Int32) (_ : Unit) => q = r) (fun _ t => va_P (gD g) vwCl (wlG g M) t.heap) (AbG g)) args s cells slots (AbG g)) (F0 m pc ls [.int r]) :=
  W.zret X.1.1 X.1.2.1 hr hn (fun t ht hW => ⟨⟨r, (), rfl, rfl, by show va_P (gD g) vwCl (wlG g M) t.heap; rw [ht]; exact hP⟩, hS.F ht⟩) hS.2.2 hdg hlocks
end
def rmStr (f c : Nat) : Room := { frames := f, cells := 0, slots := 0, locals := c }
set_option maxHeartbeats 4000000 in
set_option maxRecDepth 100000 in
theorem c_strCoder (l : Launch) {g : GT} (hA : AxG g) {M : Mem}  : CI l yJ0_coder_7d493 wsJ0_coder_7d493 (rmStr 0 0) g [.ref (gs g 5)] M 0 M := by
  refine Met.ofW (cc := cJ0_coder_7d493) (maxL := 1) (ret := (some .byte)) (by decide) rfl ?_
  intro p e s m args below meth c s₁ B hml hv
  obtain ⟨rfl, hSx, hP⟩ := hv
  have hr := B.returns
  have hlocks := B.notSynchronized
  have X : CxG g p s m _ c cJ0_coder_7d493 1 RJ0 wsJ0_coder_7d493 := ⟨⟨B.exec, B.bytes, hml, findClass_of_methodNamed B.named, atoms_spec (ws := wsJ0_coder_7d493) B.pre⟩, hSx, hA⟩
  have hS : va_S (AbG g) s.heap s.heap [] := va_S.rf
  have hl := lv_entry ([.ref (gs g 5)] : List Value) (n := 1) (Nat.le_of_ble_eq_true rfl)
  rw [lg_entry_eq]
  generalize (lg_sl ([.ref (gs g 5)] : List Value) ++ List.replicate (1 - (lg_sl ([.ref (gs g 5)] : List Value)).length) Slot.unset).toArray = ls at hl ⊢
  have hl : lv_has ls 1 [(0, .ref (gs g 5))] := hl
  obtain ⟨⟨hx, hb, hml, hown, hts⟩, -, -⟩ := id X
  refine x_compact X hS (by decide +kernel) dJ0_coder_7d493_0 ?_
  refine lv_if_eq (tgt := 13) hx hb dJ0_coder_7d493_3 (by decide) (fun h => absurd h (by decide)) (fun _ => ?_)
  refine lv_aload_n hx hb dJ0_coder_7d493_6 rfl (lv_at hl 0 rfl) ?_
  refine x_strCod X hS (by decide +kernel) dJ0_coder_7d493_7 ?_
  refine lv_goto (tgt := 14) hx hb dJ0_coder_7d493_10 (by decide) ?_
  exact x_nret X rfl hP hS hr hlocks dJ0_coder_7d493_14
set_option maxHeartbeats 4000000 in
set_option maxRecDepth 100000 in
theorem c_strLatin (l : Launch) {g : GT} (hA : AxG g) {M : Mem}  : CI l yJ0_isLatin1_aae02 wsJ0_isLatin1_aae02 (rmStr 0 0) g [.ref (gs g 5)] M 1 M := by
  refine Met.ofW (cc := cJ0_isLatin1_aae02) (maxL := 1) (ret := (some .boolean)) (by decide) rfl ?_
  intro p e s m args below meth c s₁ B hml hv
  obtain ⟨rfl, hSx, hP⟩ := hv
  have hr := B.returns
  have hlocks := B.notSynchronized
  have X : CxG g p s m _ c cJ0_isLatin1_aae02 1 RJ0 wsJ0_isLatin1_aae02 := ⟨⟨B.exec, B.bytes, hml, findClass_of_methodNamed B.named, atoms_spec (ws := wsJ0_isLatin1_aae02) B.pre⟩, hSx, hA⟩
  have hS : va_S (AbG g) s.heap s.heap [] := va_S.rf
  have hl := lv_entry ([.ref (gs g 5)] : List Value) (n := 1) (Nat.le_of_ble_eq_true rfl)
  rw [lg_entry_eq]
  generalize (lg_sl ([.ref (gs g 5)] : List Value) ++ List.replicate (1 - (lg_sl ([.ref (gs g 5)] : List Value)).length) Slot.unset).toArray = ls at hl ⊢
  have hl : lv_has ls 1 [(0, .ref (gs g 5))] := hl
  obtain ⟨⟨hx, hb, hml, hown, hts⟩, -, -⟩ := id X
  refine x_compact X hS (by decide +kernel) dJ0_isLatin1_aae02_0 ?_
  refine lv_if_eq (tgt := 17) hx hb dJ0_isLatin1_aae02_3 (by decide) (fun h => absurd h (by decide)) (fun _ => ?_)
  refine lv_aload_n hx hb dJ0_isLatin1_aae02_6 rfl (lv_at hl 0 rfl) ?_
  refine x_strCod X hS (by decide +kernel) dJ0_isLatin1_aae02_7 ?_
  refine lv_if_ne (tgt := 17) hx hb dJ0_isLatin1_aae02_10 (by decide) (fun h => absurd rfl h) (fun _ => ?_)
  refine lv_iconst (v := 1) hx hb dJ0_isLatin1_aae02_13 (by decide) ?_
  refine lv_goto (tgt := 18) hx hb dJ0_isLatin1_aae02_14 (by decide) ?_
  exact x_nret X rfl hP hS hr hlocks dJ0_isLatin1_aae02_18
set_option maxHeartbeats 4000000 in
set_option maxRecDepth 100000 in
theorem c_strlen (l : Launch) {g : GT} (hA : AxG g) {M : Mem}  : CI l yJ0_length_8abf5 wsJ0_length_8abf5 (rmStr 1 20) g [.ref (gs g 5)] M (Int32.ofNat kwN) M := by
  refine Met.ofW (cc := cJ0_length_8abf5) (maxL := 1) (ret := (some .int)) (by decide) rfl ?_
  intro p e s m args below meth c s₁ B hml hv
  obtain ⟨rfl, hSx, hP⟩ := hv
  have hr := B.returns
  have hlocks := B.notSynchronized
  have X : CxG g p s m _ c cJ0_length_8abf5 1 RJ0 wsJ0_length_8abf5 := ⟨⟨B.exec, B.bytes, hml, findClass_of_methodNamed B.named, atoms_spec (ws := wsJ0_length_8abf5) B.pre⟩, hSx, hA⟩
  have hS : va_S (AbG g) s.heap s.heap [] := va_S.rf
  have hl := lv_entry ([.ref (gs g 5)] : List Value) (n := 1) (Nat.le_of_ble_eq_true rfl)
  rw [lg_entry_eq]
  generalize (lg_sl ([.ref (gs g 5)] : List Value) ++ List.replicate (1 - (lg_sl ([.ref (gs g 5)] : List Value)).length) Slot.unset).toArray = ls at hl ⊢
  have hl : lv_has ls 1 [(0, .ref (gs g 5))] := hl
  obtain ⟨⟨hx, hb, hml, hown, hts⟩, -, -⟩ := id X
  refine lv_aload_n hx hb dJ0_length_8abf5_0 rfl (lv_at hl 0 rfl) ?_
  refine x_strVal X hS (by decide +kernel) dJ0_length_8abf5_1 ?_
  refine x_blen X hS dJ0_length_8abf5_4 ?_
  refine lv_aload_n hx hb dJ0_length_8abf5_5 rfl (lv_at hl 0 rfl) ?_
  refine x_calli (x_runV (As := []) (rest := [.int (Int32.ofNat kwN)]) X hP hS (c_strCoder l X.2.2) (cwV 0 hts gJ0_length_8abf5_J0_coder_7d493 rfl rfl rfl (by decide +kernel) ⟨Nat.le_of_ble_eq_true rfl, Nat.le_of_ble_eq_true rfl⟩) (x_recvS X hS) rfl hl.1 rfl (Nat.le_of_ble_eq_true rfl) dJ0_length_8abf5_6 ⟨Nat.zero_le _, Nat.zero_le _⟩) hS (fun H locs hP hS => ?_)
  refine lv_ishr hx hb dJ0_length_8abf5_9 ?_
  rw [show (Int32.ofNat kwN >>> ((0 : Int32) &&& 31)) = Int32.ofNat kwN by decide]
  exact x_iret X hP hS hr hlocks dJ0_length_8abf5_10
set_option maxHeartbeats 4000000 in
set_option maxRecDepth 100000 in
theorem c_chk3 (l : Launch) {g : GT} (hA : AxG g) {M : Mem} {i n : Int32} {v : Value} (hv : v = .null ∨ ∃ t, v = .ref t) (h0 : ¬ i < 0) (h1 : i < n) : CI l yJ3_checkIndex_8e157 wsJ3_checkIndex_8e157 (rmStr 0 0) g [.int i, .int n, v] M i M := by
  rcases hv with rfl | ⟨t, rfl⟩
  · refine Met.ofW (cc := cJ3_checkIndex_8e157) (maxL := 3) (ret := (some .int)) (by decide) rfl ?_
    intro p e s m args below meth c s₁ B hml hv
    obtain ⟨rfl, hSx, hP⟩ := hv
    have hr := B.returns
    have hlocks := B.notSynchronized
    have X : CxG g p s m _ c cJ3_checkIndex_8e157 3 RJ3 wsJ3_checkIndex_8e157 := ⟨⟨B.exec, B.bytes, hml, findClass_of_methodNamed B.named, atoms_spec (ws := wsJ3_checkIndex_8e157) B.pre⟩, hSx, hA⟩
    have hS : va_S (AbG g) s.heap s.heap [] := va_S.rf
    have hl := lv_entry ([.int i, .int n, .null] : List Value) (n := 3) (Nat.le_of_ble_eq_true rfl)
    rw [lg_entry_eq]
    generalize (lg_sl ([.int i, .int n, .null] : List Value) ++ List.replicate (3 - (lg_sl ([.int i, .int n, .null] : List Value)).length) Slot.unset).toArray = ls at hl ⊢
    have hl : lv_has ls 3 [(0, .int i), (1, .int n), (2, .null)] := hl
    obtain ⟨⟨hx, hb, hml, hown, hts⟩, -, -⟩ := id X
    refine lv_iload_n hx hb dJ3_checkIndex_8e157_0 rfl (lv_at hl 0 rfl) ?_
    refine lv_if_lt (tgt := 9) hx hb dJ3_checkIndex_8e157_1 (by decide) (fun h => absurd h h0) (fun _ => ?_)
    refine lv_iload_n hx hb dJ3_checkIndex_8e157_4 rfl (lv_at hl 0 rfl) ?_
    refine lv_iload_n hx hb dJ3_checkIndex_8e157_5 rfl (lv_at hl 1 rfl) ?_
    refine lv_icmp_lt (tgt := 16) hx hb dJ3_checkIndex_8e157_6 (by decide) (fun _ => ?_) (fun h => absurd h1 h)
    refine lv_iload_n hx hb dJ3_checkIndex_8e157_16 rfl (lv_at hl 0 rfl) ?_
    exact x_iret X hP hS hr hlocks dJ3_checkIndex_8e157_17
  · refine Met.ofW (cc := cJ3_checkIndex_8e157) (maxL := 3) (ret := (some .int)) (by decide) rfl ?_
    intro p e s m args below meth c s₁ B hml hv
    obtain ⟨rfl, hSx, hP⟩ := hv
    have hr := B.returns
    have hlocks := B.notSynchronized
    have X : CxG g p s m _ c cJ3_checkIndex_8e157 3 RJ3 wsJ3_checkIndex_8e157 := ⟨⟨B.exec, B.bytes, hml, findClass_of_methodNamed B.named, atoms_spec (ws := wsJ3_checkIndex_8e157) B.pre⟩, hSx, hA⟩
    have hS : va_S (AbG g) s.heap s.heap [] := va_S.rf
    have hl := lv_entry ([.int i, .int n, .ref t] : List Value) (n := 3) (Nat.le_of_ble_eq_true rfl)
    rw [lg_entry_eq]
    generalize (lg_sl ([.int i, .int n, .ref t] : List Value) ++ List.replicate (3 - (lg_sl ([.int i, .int n, .ref t] : List Value)).length) Slot.unset).toArray = ls at hl ⊢
    have hl : lv_has ls 3 [(0, .int i), (1, .int n), (2, .ref t)] := hl
    obtain ⟨⟨hx, hb, hml, hown, hts⟩, -, -⟩ := id X
    refine lv_iload_n hx hb dJ3_checkIndex_8e157_0 rfl (lv_at hl 0 rfl) ?_
    refine lv_if_lt (tgt := 9) hx hb dJ3_checkIndex_8e157_1 (by decide) (fun h => absurd h h0) (fun _ => ?_)
    refine lv_iload_n hx hb dJ3_checkIndex_8e157_4 rfl (lv_at hl 0 rfl) ?_
    refine lv_iload_n hx hb dJ3_checkIndex_8e157_5 rfl (lv_at hl 1 rfl) ?_
    refine lv_icmp_lt (tgt := 16) hx hb dJ3_checkIndex_8e157_6 (by decide) (fun _ => ?_) (fun h => absurd h1 h)
    refine lv_iload_n hx hb dJ3_checkIndex_8e157_16 rfl (lv_at hl 0 rfl) ?_
    exact x_iret X hP hS hr hlocks dJ3_checkIndex_8e157_17
set_option maxHeartbeats 4000000 in
set_option maxRecDepth 100000 in
theorem c_chk2 (l : Launch) {g : GT} (hA : AxG g) {M : Mem} {i n : Int32} (h0 : ¬ i < 0) (h1 : i < n) : CV l yJ0_checkIndex_df160 wsJ0_checkIndex_df160 (rmStr 1 22) g [.int i, .int n] M M := by
  refine Met.ofW (cc := cJ0_checkIndex_df160) (maxL := 2) (ret := none) (by decide) rfl ?_
  intro p e s m args below meth c s₁ B hml hv
  obtain ⟨rfl, hSx, hP⟩ := hv
  have hr := B.returns
  have hlocks := B.notSynchronized
  have X : CxG g p s m _ c cJ0_checkIndex_df160 2 RJ0 wsJ0_checkIndex_df160 := ⟨⟨B.exec, B.bytes, hml, findClass_of_methodNamed B.named, atoms_spec (ws := wsJ0_checkIndex_df160) B.pre⟩, hSx, hA⟩
  have hS : va_S (AbG g) s.heap s.heap [] := va_S.rf
  have hl := lv_entry ([.int i, .int n] : List Value) (n := 2) (Nat.le_of_ble_eq_true rfl)
  rw [lg_entry_eq]
  generalize (lg_sl ([.int i, .int n] : List Value) ++ List.replicate (2 - (lg_sl ([.int i, .int n] : List Value)).length) Slot.unset).toArray = ls at hl ⊢
  have hl : lv_has ls 2 [(0, .int i), (1, .int n)] := hl
  obtain ⟨⟨hx, hb, hml, hown, hts⟩, -, -⟩ := id X
  refine lv_iload_n hx hb dJ0_checkIndex_df160_0 rfl (lv_at hl 0 rfl) ?_
  refine lv_iload_n hx hb dJ0_checkIndex_df160_1 rfl (lv_at hl 1 rfl) ?_
  refine x_fmt X hS (by decide +kernel) dJ0_checkIndex_df160_2 (fun v hv => ?_)
  refine x_calli (x_runS (As := [.int i, .int n, v]) (rest := []) X hP hS (c_chk3 l X.2.2 hv h0 h1) (va_cwS 3 hts gJ0_checkIndex_df160_J3_checkIndex_8e157 rfl rfl rfl (by decide +kernel) ⟨Nat.le_of_ble_eq_true rfl, Nat.le_of_ble_eq_true rfl⟩) rfl hl.1 rfl (Nat.le_of_ble_eq_true rfl) dJ0_checkIndex_df160_5 ⟨Nat.zero_le _, Nat.zero_le _⟩) hS (fun H locs hP hS => ?_)
  refine lv_pop hx hb dJ0_checkIndex_df160_8 rfl ?_
  exact x_vret X hP hS hr hlocks dJ0_checkIndex_df160_9
theorem kwC_i2c : ∀ j : Nat, j < 98 → ((kwC j &&& 255).toUInt32 % 65536).toInt32 = kwC j := by decide
theorem kwC_nar : ∀ j : Nat, j < 98 → narrow .char (.int (kwC j)) = .int (kwC j) := by
  intro j hj
  have h : ∀ j : Nat, j < 98 → vp_nar .char (kwC j) = kwC j := by decide
  exact congrArg Value.int (h j hj)
theorem inb_kw {i : Int32} (h : inb i 98 = true) : ¬ i < 0 ∧ i < Int32.ofNat kwN := by
  simp only [inb, Bool.and_eq_true, Bool.not_eq_true', decide_eq_false_iff_not, decide_eq_true_eq] at h
  refine ⟨h.1, Int32.lt_iff_toInt_lt.mpr ?_⟩
  have h2 : (Int32.ofNat kwN).toInt = 98 := by decide
  rw [h2]
  have h3 : i.toInt.toNat < 98 := h.2
  omega
set_option maxHeartbeats 4000000 in
set_option maxRecDepth 100000 in
theorem c_char1 (l : Launch) {g : GT} (hA : AxG g) {M : Mem} {i : Int32} (hin : inb i kwN = true) : CI l yJ1_charAt_3b067 wsJ1_charAt_3b067 (rmStr 2 43) g [.ref (gs g 6), .int i] M (kwC (ix i)) M := by
  refine Met.ofW (cc := cJ1_charAt_3b067) (maxL := 2) (ret := (some .char)) (by decide) rfl ?_
  intro p e s m args below meth c s₁ B hml hv
  obtain ⟨rfl, hSx, hP⟩ := hv
  have hr := B.returns
  have hlocks := B.notSynchronized
  have X : CxG g p s m _ c cJ1_charAt_3b067 2 RJ1 wsJ1_charAt_3b067 := ⟨⟨B.exec, B.bytes, hml, findClass_of_methodNamed B.named, atoms_spec (ws := wsJ1_charAt_3b067) B.pre⟩, hSx, hA⟩
  have hS : va_S (AbG g) s.heap s.heap [] := va_S.rf
  have hl := lv_entry ([.ref (gs g 6), .int i] : List Value) (n := 2) (Nat.le_of_ble_eq_true rfl)
  rw [lg_entry_eq]
  generalize (lg_sl ([.ref (gs g 6), .int i] : List Value) ++ List.replicate (2 - (lg_sl ([.ref (gs g 6), .int i] : List Value)).length) Slot.unset).toArray = ls at hl ⊢
  have hl : lv_has ls 2 [(0, .ref (gs g 6)), (1, .int i)] := hl
  obtain ⟨⟨hx, hb, hml, hown, hts⟩, -, -⟩ := id X
  refine lv_iload_n hx hb dJ1_charAt_3b067_0 rfl (lv_at hl 1 rfl) ?_
  refine lv_aload_n hx hb dJ1_charAt_3b067_1 rfl (lv_at hl 0 rfl) ?_
  refine x_blen X hS dJ1_charAt_3b067_2 ?_
  refine x_callv (x_runS (As := [.int i, .int (Int32.ofNat kwN)]) (rest := []) X hP hS (c_chk2 l X.2.2 (inb_kw hin).1 (inb_kw hin).2) (va_cwS 2 hts gJ1_charAt_3b067_J0_checkIndex_df160 rfl rfl rfl (by decide +kernel) ⟨Nat.le_of_ble_eq_true rfl, Nat.le_of_ble_eq_true rfl⟩) rfl hl.1 rfl (Nat.le_of_ble_eq_true rfl) dJ1_charAt_3b067_3 ⟨Nat.zero_le _, Nat.zero_le _⟩) hS (fun H locs hP hS => ?_)
  refine lv_aload_n hx hb dJ1_charAt_3b067_6 rfl (lv_at hl 0 rfl) ?_
  refine lv_iload_n hx hb dJ1_charAt_3b067_7 rfl (lv_at hl 1 rfl) ?_
  refine x_bld X hS hin dJ1_charAt_3b067_8 ?_
  refine lv_sipush (v := 255) hx hb dJ1_charAt_3b067_9 (by decide) ?_
  refine lv_iand hx hb dJ1_charAt_3b067_12 ?_
  refine lv_i2c (v := kwC (ix i)) hx hb dJ1_charAt_3b067_13 (kwC_i2c _ (inb_lt hin)) ?_
  exact x_nret X (kwC_nar _ (inb_lt hin)) hP hS hr hlocks dJ1_charAt_3b067_14
set_option maxHeartbeats 4000000 in
set_option maxRecDepth 100000 in
theorem c_charAt (l : Launch) {g : GT} (hA : AxG g) {M : Mem} {i : Int32} (hin : inb i kwN = true) : CI l yJ0_charAt_5068e wsJ0_charAt_5068e (rmStr 3 64) g [.ref (gs g 5), .int i] M (kwC (ix i)) M := by
  refine Met.ofW (cc := cJ0_charAt_5068e) (maxL := 2) (ret := (some .char)) (by decide) rfl ?_
  intro p e s m args below meth c s₁ B hml hv
  obtain ⟨rfl, hSx, hP⟩ := hv
  have hr := B.returns
  have hlocks := B.notSynchronized
  have X : CxG g p s m _ c cJ0_charAt_5068e 2 RJ0 wsJ0_charAt_5068e := ⟨⟨B.exec, B.bytes, hml, findClass_of_methodNamed B.named, atoms_spec (ws := wsJ0_charAt_5068e) B.pre⟩, hSx, hA⟩
  have hS : va_S (AbG g) s.heap s.heap [] := va_S.rf
  have hl := lv_entry ([.ref (gs g 5), .int i] : List Value) (n := 2) (Nat.le_of_ble_eq_true rfl)
  rw [lg_entry_eq]
  generalize (lg_sl ([.ref (gs g 5), .int i] : List Value) ++ List.replicate (2 - (lg_sl ([.ref (gs g 5), .int i] : List Value)).length) Slot.unset).toArray = ls at hl ⊢
  have hl : lv_has ls 2 [(0, .ref (gs g 5)), (1, .int i)] := hl
  obtain ⟨⟨hx, hb, hml, hown, hts⟩, -, -⟩ := id X
  refine lv_aload_n hx hb dJ0_charAt_5068e_0 rfl (lv_at hl 0 rfl) ?_
  refine x_calli (x_runV (As := []) (rest := []) X hP hS (c_strLatin l X.2.2) (cwV 0 hts gJ0_charAt_5068e_J0_isLatin1_aae02 rfl rfl rfl (by decide +kernel) ⟨Nat.le_of_ble_eq_true rfl, Nat.le_of_ble_eq_true rfl⟩) (x_recvS X hS) rfl hl.1 rfl (Nat.le_of_ble_eq_true rfl) dJ0_charAt_5068e_1 ⟨Nat.zero_le _, Nat.zero_le _⟩) hS (fun H locs hP hS => ?_)
  refine lv_if_eq (tgt := 16) hx hb dJ0_charAt_5068e_4 (by decide) (fun h => absurd h (by decide)) (fun _ => ?_)
  refine lv_aload_n hx hb dJ0_charAt_5068e_7 rfl (lv_at hl 0 rfl) ?_
  refine x_strVal X hS (by decide +kernel) dJ0_charAt_5068e_8 ?_
  refine lv_iload_n hx hb dJ0_charAt_5068e_11 rfl (lv_at hl 1 rfl) ?_
  refine x_calli (x_runS (As := [.ref (gs g 6), .int i]) (rest := []) X hP hS (c_char1 l X.2.2 hin) (va_cwS 2 hts gJ0_charAt_5068e_J1_charAt_3b067 rfl rfl rfl (by decide +kernel) ⟨Nat.le_of_ble_eq_true rfl, Nat.le_of_ble_eq_true rfl⟩) rfl hl.1 rfl (Nat.le_of_ble_eq_true rfl) dJ0_charAt_5068e_12 ⟨Nat.zero_le _, Nat.zero_le _⟩) hS (fun H locs hP hS => ?_)
  exact x_nret X (kwC_nar _ (inb_lt hin)) hP hS hr hlocks dJ0_charAt_5068e_15
