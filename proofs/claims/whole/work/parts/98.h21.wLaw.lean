/-! walks: written by wip/whole/gen/gen.py out of the printed names -/
section
variable {p : Program} {l : Launch} {e : Env} {s : State} {m : MethodId} {args : Array Value} {below : List Frame} {meth : Method} {c : Code} {Q : State → Prop} {g : GT}
/-! X2_take -/
def rmX2_take : Room := { frames := 1, cells := 0, slots := 0, locals := 26 }
theorem uX2_take_X2 : ∀ w ∈ wsX20, w ∈ wsX2_take := by decide +kernel
theorem mbX2_take_1 : Cond.fieldLink RX2 9 "FootANight$Law" "code" "[I" ∈ wsX2_take := by decide +kernel
theorem mbX2_take_2 : Cond.methodLink RX2 19 arraycopyName ∈ wsX2_take := by decide +kernel
theorem mbX2_take_3 : Cond.native arraycopyName ∈ wsX2_take := by decide +kernel
theorem mbX2_take_4 : Cond.static arraycopyName ∈ wsX2_take := by decide +kernel
theorem mbX2_take_5 : Cond.initialized "java/lang/System" ∈ wsX2_take := by decide +kernel
theorem mbX2_take_6 : Cond.fieldLink RX2 15 "FootANight$Law" "length" "I" ∈ wsX2_take := by decide +kernel
set_option maxHeartbeats 4000000 in
set_option maxRecDepth 100000 in
theorem c_X2_take (l : Launch) {g : GT} (hA : AxG g) {l0 : Nat} {k1 : Nat} (okl0 : okLaw g l0) (okk1 : okA g k1 0 400) {M : Mem} {a2 : Int32} {MM : Mem} (hm : m_X2_take l0 k1 M a2 = some MM) : CV l yX2_take wsX2_take rmX2_take g [.ref (ga g l0), .ref (ga g k1), .int a2] M MM := by
  refine Met.ofW (cc := cX2_take) (maxL := 3) (ret := none) (by decide) rfl ?_
  intro p e s m args below meth c s₁ B hml hv
  obtain ⟨rfl, hSx, hP⟩ := hv
  have hr := B.returns
  have hlocks := B.notSynchronized
  have X : CxG g p s m _ c cX2_take 3 RX2 wsX2_take := ⟨⟨B.exec, B.bytes, hml, findClass_of_methodNamed B.named, atoms_spec (ws := wsX2_take) B.pre⟩, hSx, hA⟩
  have hS : va_S (AbG g) s.heap s.heap [] := va_S.rf
  have hl := lv_entry (([.ref (ga g l0), .ref (ga g k1), .int a2] : List Value)) (n := 3) (Nat.le_of_ble_eq_true rfl)
  rw [lg_entry_eq]
  generalize (lg_sl (([.ref (ga g l0), .ref (ga g k1), .int a2] : List Value)) ++ List.replicate (3 - (lg_sl (([.ref (ga g l0), .ref (ga g k1), .int a2] : List Value))).length) Slot.unset).toArray = ls at hl ⊢
  have hl : lv_has ls 3 [(0, .ref (ga g l0)), (1, .ref (ga g k1)), (2, .int a2)] := hl
  obtain ⟨⟨hx, hb, hml, hown, hts⟩, -, -⟩ := id X
  unfold m_X2_take at hm
  refine lv_aload_n hx hb dX2_take_0 rfl (lv_at hl 1 rfl) ?_
  refine lv_iconst (v := 0) hx hb dX2_take_1 (by decide) ?_
  refine lv_aload_n hx hb dX2_take_2 rfl (lv_at hl 0 rfl) ?_
  refine xg_X2_0 X hP okl0 uX2_take_X2 mbX2_take_1 dX2_take_3 ?_
  refine lv_iconst (v := 0) hx hb dX2_take_6 (by decide) ?_
  refine lv_iload_n hx hb dX2_take_7 rfl (lv_at hl 2 rfl) ?_
  obtain ⟨hc_1, hm⟩ := chk_elim hm
  obtain ⟨M_2, hM_3, hm⟩ := bnd_elim hm
  refine x_copyi X hP hS (hml.trans hl.1.symm) mbX2_take_2 mbX2_take_3 mbX2_take_4 mbX2_take_5 okk1 okl0.2 hc_1 hM_3 (Nat.le_of_ble_eq_true rfl) (Nat.le_of_ble_eq_true rfl) dX2_take_8 (fun H locs hP hS => ?_)
  refine lv_aload_n hx hb dX2_take_11 rfl (lv_at hl 0 rfl) ?_
  refine lv_iload_n hx hb dX2_take_12 rfl (lv_at hl 2 rfl) ?_
  obtain ⟨M_4, hM_5, hm⟩ := bnd_elim hm
  refine xp_X2_1 X hP okl0 uX2_take_X2 mbX2_take_6 hS hM_5 dX2_take_13 (fun H locs hP hS => ?_)
  cases hm
  exact x_vret X hP hS hr hlocks dX2_take_16


/-! X2_joined -/
def rmX2_joined : Room := { frames := 0, cells := 0, slots := 0, locals := 0 }

set_option maxHeartbeats 4000000 in
set_option maxRecDepth 100000 in
theorem c_X2_joined (l : Launch) {g : GT} (hA : AxG g)   {M : Mem} {a0 : Int32} {a1 : Int32} {a2 : Int32} {rr : Int32} (hm : m_X2_joined M a0 a1 a2 = some rr) : CI l yX2_joined wsX2_joined rmX2_joined g [.int a0, .int a1, .int a2] M rr M := by
  refine Met.ofW (cc := cX2_joined) (maxL := 3) (ret := (some .int)) (by decide) rfl ?_
  intro p e s m args below meth c s₁ B hml hv
  obtain ⟨rfl, hSx, hP⟩ := hv
  have hr := B.returns
  have hlocks := B.notSynchronized
  have X : CxG g p s m _ c cX2_joined 3 RX2 wsX2_joined := ⟨⟨B.exec, B.bytes, hml, findClass_of_methodNamed B.named, atoms_spec (ws := wsX2_joined) B.pre⟩, hSx, hA⟩
  have hS : va_S (AbG g) s.heap s.heap [] := va_S.rf
  have hl := lv_entry (([.int a0, .int a1, .int a2] : List Value)) (n := 3) (Nat.le_of_ble_eq_true rfl)
  rw [lg_entry_eq]
  generalize (lg_sl (([.int a0, .int a1, .int a2] : List Value)) ++ List.replicate (3 - (lg_sl (([.int a0, .int a1, .int a2] : List Value))).length) Slot.unset).toArray = ls at hl ⊢
  have hl : lv_has ls 3 [(0, .int a0), (1, .int a1), (2, .int a2)] := hl
  obtain ⟨⟨hx, hb, hml, hown, hts⟩, -, -⟩ := id X
  unfold m_X2_joined at hm
  refine lv_iload_n hx hb dX2_joined_0 rfl (lv_at hl 0 rfl) ?_
  by_cases h_1 : a0 = 42
  · rw [if_pos h_1] at hm
    refine lv_lookup (off := 83) (tgt := 84) hx hb dX2_joined_1 (by decide) (by rw [h_1]; decide) (by decide) ?_
    refine lv_iload_n hx hb dX2_joined_84 rfl (lv_at hl 1 rfl) ?_
    refine lv_iload_n hx hb dX2_joined_85 rfl (lv_at hl 2 rfl) ?_
    refine lv_imul hx hb dX2_joined_86 ?_
    cases hm
    exact x_iret X hP hS hr hlocks dX2_joined_87
  rw [if_neg h_1] at hm
  by_cases h_2 : a0 = 43
  · rw [if_pos h_2] at hm
    refine lv_lookup (off := 75) (tgt := 76) hx hb dX2_joined_1 (by decide) (by rw [h_2]; decide) (by decide) ?_
    refine lv_iload_n hx hb dX2_joined_76 rfl (lv_at hl 1 rfl) ?_
    refine lv_iload_n hx hb dX2_joined_77 rfl (lv_at hl 2 rfl) ?_
    refine lv_iadd hx hb dX2_joined_78 ?_
    cases hm
    exact x_iret X hP hS hr hlocks dX2_joined_79
  rw [if_neg h_2] at hm
  by_cases h_3 : a0 = 45
  · rw [if_pos h_3] at hm
    refine lv_lookup (off := 79) (tgt := 80) hx hb dX2_joined_1 (by decide) (by rw [h_3]; decide) (by decide) ?_
    refine lv_iload_n hx hb dX2_joined_80 rfl (lv_at hl 1 rfl) ?_
    refine lv_iload_n hx hb dX2_joined_81 rfl (lv_at hl 2 rfl) ?_
    refine lv_isub hx hb dX2_joined_82 ?_
    cases hm
    exact x_iret X hP hS hr hlocks dX2_joined_83
  rw [if_neg h_3] at hm
  by_cases h_4 : a0 = 47
  · rw [if_pos h_4] at hm
    refine lv_lookup (off := 87) (tgt := 88) hx hb dX2_joined_1 (by decide) (by rw [h_4]; decide) (by decide) ?_
    refine lv_iload_n hx hb dX2_joined_88 rfl (lv_at hl 2 rfl) ?_
    refine lv_if_ne (tgt := 96) hx hb dX2_joined_89 (by decide) (fun h_5 => ?_) (fun h_5 => ?_)
    · rw [if_neg h_5] at hm
      refine lv_iload_n hx hb dX2_joined_96 rfl (lv_at hl 1 rfl) ?_
      refine lv_iload_n hx hb dX2_joined_97 rfl (lv_at hl 2 rfl) ?_
      obtain ⟨hz_6, hm⟩ := chk_elim hm
      refine lv_idiv hx hb dX2_joined_98 (nz_of hz_6) ?_
      cases hm
      exact x_iret X hP hS hr hlocks dX2_joined_99
    · rw [if_pos h_5] at hm
      refine lv_iconst (v := 0) hx hb dX2_joined_92 (by decide) ?_
      refine lv_goto (tgt := 99) hx hb dX2_joined_93 (by decide) ?_
      cases hm
      exact x_iret X hP hS hr hlocks dX2_joined_99
  rw [if_neg h_4] at hm
  by_cases h_7 : a0 = 60
  · rw [if_pos h_7] at hm
    refine lv_lookup (off := 99) (tgt := 100) hx hb dX2_joined_1 (by decide) (by rw [h_7]; decide) (by decide) ?_
    refine lv_iload_n hx hb dX2_joined_100 rfl (lv_at hl 1 rfl) ?_
    refine lv_iload_n hx hb dX2_joined_101 rfl (lv_at hl 2 rfl) ?_
    refine lv_icmp_ge (tgt := 109) hx hb dX2_joined_102 (by decide) (fun h_8 => ?_) (fun h_8 => ?_)
    · rw [if_pos h_8] at hm
      refine lv_iconst (v := 0) hx hb dX2_joined_109 (by decide) ?_
      cases hm
      exact x_iret X hP hS hr hlocks dX2_joined_110
    · rw [if_neg h_8] at hm
      refine lv_iconst (v := 1) hx hb dX2_joined_105 (by decide) ?_
      refine lv_goto (tgt := 110) hx hb dX2_joined_106 (by decide) ?_
      cases hm
      exact x_iret X hP hS hr hlocks dX2_joined_110
  rw [if_neg h_7] at hm
  by_cases h_9 : a0 = 61
  · rw [if_pos h_9] at hm
    refine lv_lookup (off := 110) (tgt := 111) hx hb dX2_joined_1 (by decide) (by rw [h_9]; decide) (by decide) ?_
    refine lv_iload_n hx hb dX2_joined_111 rfl (lv_at hl 1 rfl) ?_
    refine lv_iload_n hx hb dX2_joined_112 rfl (lv_at hl 2 rfl) ?_
    refine lv_icmp_ne (tgt := 120) hx hb dX2_joined_113 (by decide) (fun h_10 => ?_) (fun h_10 => ?_)
    · rw [if_neg h_10] at hm
      refine lv_iconst (v := 0) hx hb dX2_joined_120 (by decide) ?_
      cases hm
      exact x_iret X hP hS hr hlocks dX2_joined_121
    · rw [if_pos h_10] at hm
      refine lv_iconst (v := 1) hx hb dX2_joined_116 (by decide) ?_
      refine lv_goto (tgt := 121) hx hb dX2_joined_117 (by decide) ?_
      cases hm
      exact x_iret X hP hS hr hlocks dX2_joined_121
  rw [if_neg h_9] at hm
  by_cases h_11 : a0 = 62
  · rw [if_pos h_11] at hm
    refine lv_lookup (off := 121) (tgt := 122) hx hb dX2_joined_1 (by decide) (by rw [h_11]; decide) (by decide) ?_
    refine lv_iload_n hx hb dX2_joined_122 rfl (lv_at hl 1 rfl) ?_
    refine lv_iload_n hx hb dX2_joined_123 rfl (lv_at hl 2 rfl) ?_
    refine lv_icmp_le (tgt := 131) hx hb dX2_joined_124 (by decide) (fun h_12 => ?_) (fun h_12 => ?_)
    · rw [if_pos h_12] at hm
      refine lv_iconst (v := 0) hx hb dX2_joined_131 (by decide) ?_
      cases hm
      exact x_iret X hP hS hr hlocks dX2_joined_132
    · rw [if_neg h_12] at hm
      refine lv_iconst (v := 1) hx hb dX2_joined_127 (by decide) ?_
      refine lv_goto (tgt := 132) hx hb dX2_joined_128 (by decide) ?_
      cases hm
      exact x_iret X hP hS hr hlocks dX2_joined_132
  rw [if_neg h_11] at hm
  by_cases h_13 : a0 = 203
  · rw [if_pos h_13] at hm
    refine lv_lookup (off := 132) (tgt := 133) hx hb dX2_joined_1 (by decide) (by rw [h_13]; decide) (by decide) ?_
    refine lv_iload_n hx hb dX2_joined_133 rfl (lv_at hl 1 rfl) ?_
    refine lv_iload_n hx hb dX2_joined_134 rfl (lv_at hl 2 rfl) ?_
    refine lv_iand hx hb dX2_joined_135 ?_
    cases hm
    exact x_iret X hP hS hr hlocks dX2_joined_136
  rw [if_neg h_13] at hm
  refine lv_lookup (off := 136) (tgt := 137) hx hb dX2_joined_1 (by decide) ((lv_osw h_1 (by decide)).trans ((lv_osw h_2 (by decide)).trans ((lv_osw h_3 (by decide)).trans ((lv_osw h_4 (by decide)).trans ((lv_osw h_7 (by decide)).trans ((lv_osw h_9 (by decide)).trans ((lv_osw h_11 (by decide)).trans ((lv_osw h_13 (by decide)).trans rfl)))))))) (by decide) ?_
  refine lv_iload_n hx hb dX2_joined_137 rfl (lv_at hl 1 rfl) ?_
  refine lv_iload_n hx hb dX2_joined_138 rfl (lv_at hl 2 rfl) ?_
  refine lv_ior hx hb dX2_joined_139 ?_
  cases hm
  exact x_iret X hP hS hr hlocks dX2_joined_140

end
