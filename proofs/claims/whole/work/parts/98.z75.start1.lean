/-! ===== the law's start: what the machine gives of classes, constants and the text ===== -/
def offk (k : Nat) : Nat := ((List.range 183).map pmk).idxOf k
theorem offk_all : (List.range 183).all (fun i => decide (offk (pmk i) = i)) = true := by decide +kernel
theorem offk_pmk (i : Nat) (hi : i < 183) : offk (pmk i) = i := by simpa using List.all_eq_true.mp offk_all i (List.mem_range.mpr hi)
theorem aoi_spec {s : State} (h : AOI s) : ∃ c k comp, s.vm.findClass ("[" ++ (FieldType.array .int).toString) = some c ∧ s.vm.classes[c]? = some k ∧ k.kind = .array comp (.array .int) := by
  unfold AOI Cond.before at h
  simp only [Cond.holds, Cond.value, beq_iff_eq] at h
  cases hc : s.vm.findClass (FieldType.array .int).toString with
  | none => simp [hc] at h
  | some comp =>
    simp only [hc, Option.bind_some, Option.bind_eq_some_iff, Option.map_eq_some_iff] at h
    obtain ⟨c, hi, k, hk, hb⟩ := h
    cases hkind : k.kind with
    | array component ty =>
      rw [hkind] at hb
      simp at hb
      exact ⟨c, k, component, hb.2, hk, by rw [hkind, hb.1]⟩
    | _ => rw [hkind] at hb; simp at hb
theorem arr_of {s : State} {c comp : ClassId} {k : Class} {ty : FieldType} (hk : s.vm.classes[c]? = some k) (hkind : k.kind = .array comp ty) : ArrOfT s c ty := fun n z => ⟨fun q h => (by cases h), k, hk, comp, hkind⟩
abbrev nwL : List Cond := flatC (Jvm.Cond.and given_1 narrow_1)

theorem nw_st0 : Cond.arrayOf (.static "FootANight" "FARM_MOST" "[I") .int ∈ nwL ∧ Cond.eq (.length (.static "FootANight" "FARM_MOST" "[I")) (.int (Int32.ofNat (stN 0))) ∈ nwL ∧ ∀ j, j < stN 0 → Cond.eq (.elem (.static "FootANight" "FARM_MOST" "[I") (.int (Int32.ofNat j))) (.int (stV 0 j)) ∈ nwL := by decide +kernel
theorem tb_st0 : Cond.laysStatic "FootANight" "FARM_MOST" "[I" ∈ lw_tbl ∧ Cond.initialized "FootANight" ∈ lw_tbl := by decide +kernel
theorem nw_st1 : Cond.arrayOf (.static "FootANight" "BORDER_MOST" "[I") .int ∈ nwL ∧ Cond.eq (.length (.static "FootANight" "BORDER_MOST" "[I")) (.int (Int32.ofNat (stN 1))) ∈ nwL ∧ ∀ j, j < stN 1 → Cond.eq (.elem (.static "FootANight" "BORDER_MOST" "[I") (.int (Int32.ofNat j))) (.int (stV 1 j)) ∈ nwL := by decide +kernel
theorem tb_st1 : Cond.laysStatic "FootANight" "BORDER_MOST" "[I" ∈ lw_tbl ∧ Cond.initialized "FootANight" ∈ lw_tbl := by decide +kernel
theorem nw_st2 : Cond.arrayOf (.static "FootANight" "SETTING_MOST" "[I") .int ∈ nwL ∧ Cond.eq (.length (.static "FootANight" "SETTING_MOST" "[I")) (.int (Int32.ofNat (stN 2))) ∈ nwL ∧ ∀ j, j < stN 2 → Cond.eq (.elem (.static "FootANight" "SETTING_MOST" "[I") (.int (Int32.ofNat j))) (.int (stV 2 j)) ∈ nwL := by decide +kernel
theorem tb_st2 : Cond.laysStatic "FootANight" "SETTING_MOST" "[I" ∈ lw_tbl ∧ Cond.initialized "FootANight" ∈ lw_tbl := by decide +kernel
theorem nw_st3 : Cond.arrayOf (.static "FootANight" "SETTING_AT_FIRST" "[I") .int ∈ nwL ∧ Cond.eq (.length (.static "FootANight" "SETTING_AT_FIRST" "[I")) (.int (Int32.ofNat (stN 3))) ∈ nwL ∧ ∀ j, j < stN 3 → Cond.eq (.elem (.static "FootANight" "SETTING_AT_FIRST" "[I") (.int (Int32.ofNat j))) (.int (stV 3 j)) ∈ nwL := by decide +kernel
theorem tb_st3 : Cond.laysStatic "FootANight" "SETTING_AT_FIRST" "[I" ∈ lw_tbl ∧ Cond.initialized "FootANight" ∈ lw_tbl := by decide +kernel
theorem nw_st4 : Cond.arrayOf (.static "FootANight$Duel" "WAYS" "[I") .int ∈ nwL ∧ Cond.eq (.length (.static "FootANight$Duel" "WAYS" "[I")) (.int (Int32.ofNat (stN 4))) ∈ nwL ∧ ∀ j, j < stN 4 → Cond.eq (.elem (.static "FootANight$Duel" "WAYS" "[I") (.int (Int32.ofNat j))) (.int (stV 4 j)) ∈ nwL := by decide +kernel
theorem tb_st4 : Cond.laysStatic "FootANight$Duel" "WAYS" "[I" ∈ lw_tbl ∧ Cond.initialized "FootANight$Duel" ∈ lw_tbl := by decide +kernel
theorem tb_st : ∀ i, i < 5 → Cond.laysStatic (stC i).1 (stC i).2 "[I" ∈ lw_tbl ∧ Cond.initialized (stC i).1 ∈ lw_tbl := fun i hi => match i, hi with | 0, _ => tb_st0 | 1, _ => tb_st1 | 2, _ => tb_st2 | 3, _ => tb_st3 | 4, _ => tb_st4
theorem nw_st : ∀ i, i < 5 → Cond.arrayOf (.static (stC i).1 (stC i).2 "[I") .int ∈ nwL ∧ Cond.eq (.length (.static (stC i).1 (stC i).2 "[I")) (.int (Int32.ofNat (stN i))) ∈ nwL ∧ ∀ j, j < stN i → Cond.eq (.elem (.static (stC i).1 (stC i).2 "[I") (.int (Int32.ofNat j))) (.int (stV i j)) ∈ nwL := fun i hi => match i, hi with | 0, _ => nw_st0 | 1, _ => nw_st1 | 2, _ => nw_st2 | 3, _ => nw_st3 | 4, _ => nw_st4
theorem nw_str : Cond.exactly (.string "FootANight$Reader" 144) "java/lang/String" ∈ nwL ∧ Cond.eq (.field (.string "FootANight$Reader" 144) "java/lang/String" "coder" "B") (.int 0) ∈ nwL ∧ Cond.arrayOf (.field (.string "FootANight$Reader" 144) "java/lang/String" "value" "[B") .byte ∈ nwL ∧ Cond.eq (.length (.field (.string "FootANight$Reader" 144) "java/lang/String" "value" "[B")) (.int (Int32.ofNat kwN)) ∈ nwL := by decide +kernel
theorem nw_strs : ∀ j, j < kwN → Cond.eq (.elem (.field (.string "FootANight$Reader" 144) "java/lang/String" "value" "[B") (.int (Int32.ofNat j))) (.int (kwL.getD j 0)) ∈ nwL := by decide +kernel
theorem nw_rest : Cond.eq (.static "java/lang/String" "COMPACT_STRINGS" "Z") (.int 1) ∈ nwL ∧ Cond.isRef (.static "jdk/internal/util/Preconditions" "SIOOBE_FORMATTER" "Ljava/util/function/BiFunction;") ∈ nwL := by decide +kernel
theorem tb_rest : Cond.laysStatic "java/lang/String" "COMPACT_STRINGS" "Z" ∈ lw_tbl ∧ Cond.initialized "java/lang/String" ∈ lw_tbl ∧ Cond.laysStatic "jdk/internal/util/Preconditions" "SIOOBE_FORMATTER" "Ljava/util/function/BiFunction;" ∈ lw_tbl ∧ Cond.initialized "jdk/internal/util/Preconditions" ∈ lw_tbl ∧ Cond.stringRef RX3 kwIdx kwText ∈ lw_tbl := by decide +kernel
theorem tb_nest : Cond.methodLinkNest RX4 65 yX2_init RX5 ∈ lw_tbl ∧ Cond.methodLinkNest RX5 24 yX3_init RX5 ∈ lw_tbl ∧ Cond.methodLinkNest RX5 31 yX0_init RX5 ∈ lw_tbl ∧ Cond.methodLinkNest RX5 38 yX1_init RX5 ∈ lw_tbl ∧ Cond.arrayOver (.object RX2) ∈ lw_tbl ∧ Cond.arrayOver (.array .int) ∈ lw_tbl ∧ Cond.fieldLinkNest RX4 56 "FootANight" "SETTING_AT_FIRST" "[I" RX5 ∈ lw_tbl := by decide +kernel
theorem tb_arr : Cond.arrayClass .int ∈ lw_tbl ∧ Cond.arrayClass .long ∈ lw_tbl ∧ Cond.arrayClass .boolean ∈ lw_tbl := by decide +kernel
theorem tb_inst : Cond.instantiable RX0 12 ∈ lw_tbl ∧ Cond.instantiable RX1 8 ∈ lw_tbl ∧ Cond.instantiable RX2 2 ∈ lw_tbl ∧ Cond.instantiable RX3 17 ∈ lw_tbl ∧ Cond.instantiable RX4 12 ∈ lw_tbl ∧ Cond.instantiable RX5 11 ∈ lw_tbl ∧ Cond.instantiable RX6 55 ∈ lw_tbl := by decide +kernel
