/-! ===== a ring's constructor, walked ===== -/
/-- its settings as the class has them at first -/
def toldM (M : Mem) (r0 : Nat) : Mem := (fun k j => if k = r0 + 1 then stV 3 j else M.1 k j, M.2)
/-- the laws of a ring are zero -/
def RLz (M : Mem) (r0 : Nat) : Prop := ∀ o, 28 ≤ o → o < 36 → ∀ j, rd M (r0 + o) j = 0 ∧ rdl M (r0 + o) j = 0
theorem ring_lz {M : Mem} {r0 : Nat} (hz : RZ M r0) : RLz (toldM M r0) r0 := fun o h1 h2 j => ⟨by
  show (if r0 + o = r0 + 1 then stV 3 j else M.1 (r0 + o) j) = 0
  rw [if_neg (by omega)]
  exact (hz o (by omega) j).1, (hz o (by omega) j).2⟩
theorem ring_ref {a b : Nat} (h : a = b) : Value.ref a = Value.ref b := by rw [h]
theorem ring_told {g : GT} {b r0 : Nat} {M : Mem} {f : Nat → va_E} {e0 e1 : va_E} (hB : RB g b r0) : kW g M b f e0 (b + 25) e1 (b + 1) = .inl (gc g 0, 10, .inl (fun j => rd M (r0 + 1) j)) := by
  rw [kW_n (by omega) (by omega), show pmk (b + 1) = r0 + 1 from hB.2.1 1 (by decide)]
  exact enc_int hB.ok.told.2 (by decide)
theorem stV3_end {j : Nat} (h : 10 ≤ j) : stV 3 j = 0 := by
  unfold stV
  rw [List.getD_eq_getElem?_getD, List.getElem?_eq_none (show (stL 3).length ≤ j from h)]
  rfl
theorem ring_set {g : GT} {b r0 : Nat} {M : Mem} {f : Nat → va_E} {e1 : va_E} (hB : RB g b r0) (hz : RZ M r0) : ∀ i, i < b + 29 → fu1 (kW g M b f (.inr (4, stF g M r0 (flRing r0) 12)) (b + 25) e1) (b + 1) (.inl (gc g 0, 10, .inl (va_cpy (stV 3) (fun j => rd M (r0 + 1) j) 0 0 (ix 10)))) i = kW g (toldM M r0) b f (.inr (4, stF g (toldM M r0) r0 (flRing r0) 12)) (b + 25) e1 i := by
  intro i hi
  unfold fu1
  by_cases h : i = b + 1
  · rw [if_pos h, h, ring_told hB]
    congr 4
    funext j
    show va_cpy (stV 3) (fun j => rd M (r0 + 1) j) 0 0 10 j = (if r0 + 1 = r0 + 1 then stV 3 j else M.1 (r0 + 1) j)
    rw [if_pos rfl]
    unfold va_cpy
    by_cases h1 : j < 10
    · rw [if_pos ⟨Nat.zero_le _, by omega⟩, Nat.zero_add, Nat.sub_zero]
    · rw [if_neg (fun q => h1 (by omega)), stV3_end (by omega)]
      exact (hz 1 (by decide) j).1
  · rw [if_neg h]
    have hne : ∀ k, k ≠ r0 + 1 → ∀ j, rd (toldM M r0) k j = rd M k j := fun k hk j => if_neg hk
    unfold kW
    by_cases h1 : i < b
    · rw [if_pos h1, if_pos h1]
    · rw [if_neg h1, if_neg h1]
      by_cases h2 : i = b
      · rw [if_pos h2, if_pos h2, stF_mem (hne r0 (by omega))]
      · rw [if_neg h2, if_neg h2]
        by_cases h3 : i = b + 25
        · rw [if_pos h3, if_pos h3]
        · rw [if_neg h3, if_neg h3]
          obtain ⟨lo, rfl⟩ : ∃ lo, i = b + lo := ⟨i - b, by omega⟩
          rw [hB.2.1 lo (by omega)]
          have hk := pmR_told lo (by omega) (by omega)
          exact (encG_eq (hne _ (by omega)) (fun _ => rfl)).symm
theorem ring_full {g : GT} {b r0 : Nat} {M : Mem} {f : Nat → va_E} {H : Heap} (hB : RB g b r0) (hP : va_P (gD g) vwCl (cwl (gb g) (kW g M b f (.inr (4, stF g M r0 (flRing r0) 12)) (b + 25) (eL g r0 4)) (b + 37)) H) : va_P (gD g) vwCl (cwl (gb g) (fun i => if i < b then f i else encG g M (pmk i)) (b + 37)) H := by
  intro i q hq
  have hi : i < b + 37 := by have := (List.getElem?_eq_some_iff.mp hq).1; rwa [cwl_len] at this
  rw [cwl_get hi] at hq
  cases hq
  have h := hP i _ (cwl_get hi)
  by_cases h1 : i < b
  · rw [if_pos h1]
    unfold kW at h
    rw [if_pos h1] at h
    exact h
  · rw [if_neg h1]
    by_cases h2 : i = b
    · subst h2
      rw [kW_b] at h
      rw [show pmk i = r0 from hB.2.1 0 (by decide), enc_obj hB.ok.obj.2]
      rw [show stF g M r0 (flRing r0) 12 = fldsV g M r0 (flRing r0) from stF_end] at h
      exact h
    · by_cases h3 : i = b + 25
      · subst h3
        rw [kW_x (by omega)] at h
        rw [show pmk (b + 25) = r0 + 4 from hB.2.1 25 (by decide), enc_ref hB.ok.laws.2]
        exact at_refs h (fun j hj => if_pos hj)
      · rw [kW_n (by omega) h3] at h
        exact h
def rmX4_init : Room := { frames := 2, cells := 36, slots := 2202, locals := 46 }
theorem uX4_init_X4 : ∀ w ∈ wsX40, w ∈ wsX4_init := by decide +kernel
theorem uX4_init_X2 : ∀ w ∈ wsX20, w ∈ wsX4_init := by decide +kernel
theorem mbX4_init_1 : Cond.methodLink RX4 3 objectInit ∈ wsX4_init := by decide +kernel
theorem mbX4_init_2 : Cond.instanceMethod objectInit ∈ wsX4_init := by decide +kernel
theorem mbX4_init_3 : Cond.code objectInit ⟨#[0xb1]⟩ 1 none ∈ wsX4_init := by decide +kernel
theorem mbX4_init_4 : Cond.fieldLink RX4 9 "FootANight$Ring" "n" "I" ∈ wsX4_init := by decide +kernel
theorem mbX4_init_5 : Cond.fieldLink RX4 15 "FootANight$Ring" "drawn" "I" ∈ wsX4_init := by decide +kernel
theorem mbX4_init_6 : Cond.fieldLink RX4 18 "FootANight$Ring" "night" "I" ∈ wsX4_init := by decide +kernel
theorem mbX4_init_7 : Cond.fieldLink RX4 21 "FootANight$Ring" "moved" "I" ∈ wsX4_init := by decide +kernel
theorem mbX4_init_8 : Cond.arrayClass .int ∈ wsX4_init := by decide +kernel
theorem mbX4_init_9 : Cond.fieldLink RX4 24 "FootANight$Ring" "told" "[I" ∈ wsX4_init := by decide +kernel
theorem mbX4_init_10 : Cond.classLink RX4 28 ("[" ++ (FieldType.array .int).toString) ∈ wsX4_init := by decide +kernel
theorem mbX4_init_11 : Cond.fieldLink RX4 30 "FootANight$Ring" "lands" "[[I" ∈ wsX4_init := by decide +kernel
theorem mbX4_init_12 : Cond.arrayClass .long ∈ wsX4_init := by decide +kernel
theorem mbX4_init_13 : Cond.fieldLink RX4 33 "FootANight$Ring" "purses" "[J" ∈ wsX4_init := by decide +kernel
theorem mbX4_init_14 : Cond.fieldLink RX4 37 "FootANight$Ring" "stakes" "[[I" ∈ wsX4_init := by decide +kernel
theorem mbX4_init_15 : Cond.classLink RX4 40 RX2 ∈ wsX4_init := by decide +kernel
theorem mbX4_init_16 : Cond.fieldLink RX4 42 "FootANight$Ring" "laws" "[LFootANight$Law;" ∈ wsX4_init := by decide +kernel
theorem mbX4_init_17 : Cond.fieldLink RX4 46 "FootANight$Ring" "doing" "[I" ∈ wsX4_init := by decide +kernel
theorem mbX4_init_18 : Cond.arrayClass .boolean ∈ wsX4_init := by decide +kernel
theorem mbX4_init_19 : Cond.fieldLink RX4 49 "FootANight$Ring" "lost" "[Z" ∈ wsX4_init := by decide +kernel
theorem mbX4_init_20 : Cond.fieldLink RX4 53 "FootANight$Ring" "stack" "[I" ∈ wsX4_init := by decide +kernel
theorem mbX4_init_21 : Cond.methodLink RX4 59 arraycopyName ∈ wsX4_init := by decide +kernel
theorem mbX4_init_22 : Cond.native arraycopyName ∈ wsX4_init := by decide +kernel
theorem mbX4_init_23 : Cond.static arraycopyName ∈ wsX4_init := by decide +kernel
theorem mbX4_init_24 : Cond.initialized "java/lang/System" ∈ wsX4_init := by decide +kernel
theorem mbX4_init_25 : Cond.instantiable RX2 2 ∈ wsX4_init := by decide +kernel
theorem mbX4_init_26 : Cond.initialized RX2 ∈ wsX4_init := by decide +kernel
theorem mbX4_init_27 : Cond.instanceMethod yX2_init ∈ wsX4_init := by decide +kernel
section RINGW
variable {p : Program} {l : Launch} {e : Env} {s : State} {m : MethodId} {args : Array Value} {below : List Frame} {meth : Method} {c : Code} {cells slots : Nat} {Q : State → Prop} {g : GT} {f : Nat → va_E} {b r0 : Nat} {M : Mem}
set_option maxHeartbeats 4000000 in
set_option maxRecDepth 100000 in
theorem ring_round (X : CxG g p s m args c cX4_init 2 RX4 wsX4_init) (hW0 : NwG s) (hB : RB g b r0) {k : Nat} (hz0 : s.heap.size + cells = gb g + (b + 29 + 2 * k)) (hk : k < 4) (hz : RLz M r0) (hcells : cells + 2 ≤ rmX4_init.cells) (hslots : slots + 402 ≤ rmX4_init.slots)
    (kk : ∀ (H : Heap) (locs : List Loc) (ls : Array Slot), va_P (gD g) vwCl (cwl (gb g) (kW g M b f (.inr (4, stF g M r0 (flRing r0) 12)) (b + 25) (eL g r0 (k + 1))) (b + 29 + 2 * (k + 1))) H → va_S (AbG g) s.heap H locs → lv_has ls 2 [(1, .int (nI (k + 1))), (0, .ref (gb g + b))] → W p l e rmX4_init s m args below meth c H locs (cells + 2) (slots + 402) Q (F0 m 112 ls [])) :
    ∀ (H : Heap) (locs : List Loc) (ls : Array Slot), va_P (gD g) vwCl (cwl (gb g) (kW g M b f (.inr (4, stF g M r0 (flRing r0) 12)) (b + 25) (eL g r0 k)) (b + 29 + 2 * k)) H → va_S (AbG g) s.heap H locs → lv_has ls 2 [(1, .int (nI k)), (0, .ref (gb g + b))] → W p l e rmX4_init s m args below meth c H locs cells slots Q (F0 m 112 ls []) := by
  intro H locs ls hP hS hl
  obtain ⟨⟨hx, hb, hml, hown, hts⟩, -, -⟩ := id X
  refine lv_iload_n hx hb dX4_init_112 rfl (lv_at hl 0 rfl) ?_
  refine lv_iconst (v := 4) hx hb dX4_init_113 (by decide) ?_
  refine lv_icmp_ge (tgt := 136) hx hb dX4_init_114 (by decide) (fun h_2 => absurd h_2 (nI_ge (b := 4) hk (by decide))) (fun h_2 => ?_)
  refine lv_aload_n hx hb dX4_init_117 rfl (lv_at hl 1 rfl) ?_
  refine k_get (i := b) X hP (ci := 4) (C := RX4) (T := TX4) (N := 12) (j := 8) (v := .ref (gb g + (b + 25))) (by omega) kW_b rfl uX4_init_X4 (by decide) mbX4_init_16 (by rw [stF_get (show 8 < (flRing r0).length by exact (by decide : 8 < 12))]; exact congrArg some (ring_ref (hB.a (lo := 25) (by decide) rfl))) dX4_init_118 ?_
  refine lv_iload_n hx hb dX4_init_121 rfl (lv_at hl 0 rfl) ?_
  have hL := hB.ok.law hk
  have hL4 : r0 + 28 + k + 4 = r0 + (32 + k) := by omega
  have hp0 : pmk (b + 29 + 2 * k) = r0 + 28 + k := by rw [Nat.add_assoc, hB.2.1 (29 + 2 * k) (by omega), pmR_law k hk, Nat.add_assoc]
  have hp1 : pmk (b + 29 + 2 * k + 1) = r0 + 28 + k + 4 := by rw [show b + 29 + 2 * k + 1 = b + (30 + 2 * k) by omega, hB.2.1 (30 + 2 * k) (by omega), pmR_code k hk, hL4]
  have ha0 : ga g (r0 + 28 + k) = gb g + (b + 29 + 2 * k) := (hB.a (lo := 29 + 2 * k) (by omega) (by rw [pmR_law k hk, Nat.add_assoc])).trans (by omega)
  have ha1 : ga g (r0 + 28 + k + 4) = gb g + (b + 29 + 2 * k + 1) := (hB.a (lo := 30 + 2 * k) (by omega) (by rw [pmR_code k hk, hL4])).trans (by omega)
  refine k_new (ci := 2) (C := RX2) (T := TX2) (N := 2) (ty := tyX2) (fs := stF g M (r0 + 28 + k) [some (r0 + 28 + k + 4), none] 0) X hP hS hz0 uX4_init_X2 tyX2_ok mbX4_init_15 mbX4_init_25 mbX4_init_26 rfl (fun j hj => match j, hj with | 0, _ => rfl | 1, _ => rfl) (by omega) (by omega) dX4_init_122 (fun H hP hS => ?_)
  refine lv_dup hx hb dX4_init_125 rfl ?_
  have hc := c_X2_init l X.2.2 hp0 hp1 hL.1.2 hL.2.2 ha1 (M := M) (fun j => by have := (hz (28 + k) (by omega) (by omega) j).1; rwa [← Nat.add_assoc] at this) (fun j => by rw [hL4]; exact (hz (32 + k) (by omega) (by omega) j).1) (fun j => by rw [hL4]; exact (hz (32 + k) (by omega) (by omega) j).2) (f := fu1 (kW g M b f (.inr (4, stF g M r0 (flRing r0) 12)) (b + 25) (eL g r0 k)) (b + 29 + 2 * k) (.inr (2, stF g M (r0 + 28 + k) [some (r0 + 28 + k + 4), none] 0))) (if_pos rfl)
  refine k_initN (n := b + 29 + 2 * k + 1) X hW0 hP hS (by omega) (by omega) hc ⟨va_cnB 0 hts gX4_init_X2_init_n65 rfl rfl rfl hW0.1 (hts _ mbX4_init_26) (by decide +kernel) ⟨Nat.le_of_ble_eq_true rfl, Nat.le_of_ble_eq_true rfl⟩, rfl, hts _ mbX4_init_27⟩ hl.1 (Nat.le_of_ble_eq_true rfl) dX4_init_126 ⟨hcells, hslots⟩ (fun H locs hP hS => ?_)
  have hP : va_P (gD g) vwCl (cwl (gb g) (kW g M b f (.inr (4, stF g M r0 (flRing r0) 12)) (b + 25) (eL g r0 k)) (b + 29 + 2 * (k + 1))) H := by
    rw [show b + 29 + 2 * (k + 1) = b + 29 + 2 * k + 2 by omega]
    refine cwl_re hP (fun i hi => ?_)
    by_cases h1 : i < b + 29 + 2 * k
    · rw [if_pos h1]
      unfold fu1
      rw [if_neg (by omega)]
    · rw [if_neg h1, kW_n (by omega) (by omega)]
  refine k_aast (i := b + 25) (i2 := b + 29 + 2 * k) (N := 4) (h := fun j => if j < k then some (ga g (r0 + 28 + j)) else none) (fs := fldsV g M (r0 + 28 + k) [some (r0 + 28 + k + 4), none]) X hP hS (by omega) (by omega) (kW_x (by omega)) (by rw [kW_n (by omega) (by omega), hp0, enc_obj hL.1.2]) (inb_nI hk (by decide)) dX4_init_129 (fun H locs hP hS => ?_)
  have hP : va_P (gD g) vwCl (cwl (gb g) (kW g M b f (.inr (4, stF g M r0 (flRing r0) 12)) (b + 25) (eL g r0 (k + 1))) (b + 29 + 2 * (k + 1))) H := by
    refine cwl_re hP (fun i hi => ?_)
    unfold fu1
    by_cases h : i = b + 25
    · rw [if_pos h, h, kW_x (by omega)]
      unfold eL
      congr 7
      funext a
      rw [ix_nI (show k < 2 ^ 31 by omega)]
      unfold va_up
      by_cases h1 : a = k
      · rw [if_pos h1, h1, if_pos (Nat.lt_succ_self k), ha0]
      · rw [if_neg h1]
        show (if a < k then some (ga g (r0 + 28 + a)) else none) = _
        by_cases h3 : a < k
        · rw [if_pos h3, if_pos (by omega)]
        · rw [if_neg h3, if_neg (by omega)]
    · rw [if_neg h]
      unfold kW
      by_cases h1 : i < b
      · rw [if_pos h1, if_pos h1]
      · rw [if_neg h1, if_neg h1]
        by_cases h2 : i = b
        · rw [if_pos h2, if_pos h2]
        · rw [if_neg h2, if_neg h2, if_neg h, if_neg h]
  refine lv_iinc (v := nI (k + 1)) (lv' := [(1, .int (nI (k + 1))), (0, .ref (gb g + b))]) hx hb dX4_init_130 hl (k := 0) rfl (by rw [nI_succ]; rfl) (by decide) rfl (fun ls hl => ?_)
  refine lv_goto (tgt := 112) hx hb dX4_init_133 (by decide) ?_
  exact kk _ _ _ hP hS hl
end RINGW
set_option maxHeartbeats 4000000 in
set_option maxRecDepth 100000 in
theorem c_X4_init (l : Launch) {g : GT} (hA : AxG g) {b r0 : Nat} (hB : RB g b r0) {M MM : Mem} (hz : RZ M r0) {fu : Nat} (hm : m_X4_begin fu r0 (toldM M r0) 4 = some MM) {f : Nat → va_E} (hf : f b = .inr (4, stF g M r0 (flRing r0) 0)) : CN l yX4_init wsX4_init rmX4_init g [.ref (gb g + b)] f (b + 1) (fun i => if i < b then f i else encG g MM (pmk i)) (b + 37) 36 2202 := by
  refine Met.ofW (cc := cX4_init) (maxL := 2) (ret := none) (by decide) rfl ?_
  intro p e s m args below meth c s₁ B hml hv
  obtain ⟨rfl, hSx, hW0, hsz, hP⟩ := hv
  have hr := B.returns
  have hlocks := B.notSynchronized
  have hname : meth.name = "<init>" := (name_of_methodNamed B.named B.method).1
  have X : CxG g p s m _ c cX4_init 2 RX4 wsX4_init := ⟨⟨B.exec, B.bytes, hml, findClass_of_methodNamed B.named, atoms_spec (ws := wsX4_init) B.pre⟩, hSx, hA⟩
  have hS : va_S (AbG g) s.heap s.heap [] := va_S.rf
  have hl := lv_entry (([.ref (gb g + b)] : List Value)) (n := 2) (Nat.le_of_ble_eq_true rfl)
  rw [lg_entry_eq]
  generalize (lg_sl (([.ref (gb g + b)] : List Value)) ++ List.replicate (2 - (lg_sl (([.ref (gb g + b)] : List Value))).length) Slot.unset).toArray = ls at hl ⊢
  have hl : lv_has ls 2 [(0, .ref (gb g + b))] := hl
  obtain ⟨⟨hx, hb, hml, hown, hts⟩, -, -⟩ := id X
  have hP : va_P (gD g) vwCl (cwl (gb g) (kW g M b f (.inr (4, stF g M r0 (flRing r0) 0)) b eN) (b + 1)) s.heap := cwl_re hP (fun i hi => kW_0 hi hf)
  refine lv_aload_n hx hb dX4_init_0 rfl (lv_at hl 0 rfl) ?_
  refine W.objInit hx hb hown (hts _ mbX4_init_1) (hts _ mbX4_init_2) (hts _ mbX4_init_3) rfl (by rw [hml]; exact hl.1) rfl dX4_init_1 (Nat.le_of_ble_eq_true rfl) (Nat.le_of_ble_eq_true rfl) ?_
  refine W.eq (g2 := F0 m 4 ls []) rfl ?_
  refine lv_aload_n hx hb dX4_init_4 rfl (lv_at hl 0 rfl) ?_
  refine lv_iconst (v := 0) hx hb dX4_init_5 (by decide) ?_
  refine kc_put (n := b + 1) X (ci := 4) (C := RX4) (T := TX4) (N := 12) (j := 0) hP hS (by omega) rfl uX4_init_X4 tyX4_ok nmX4 (by decide) (show 0 < 12 by decide) mbX4_init_4 hname rfl (fv_int (hz 0 (by decide) 0).1 rfl) rfl rfl dX4_init_6 (fun H locs hP hS => ?_)
  refine lv_aload_n hx hb dX4_init_9 rfl (lv_at hl 0 rfl) ?_
  refine lv_iconst (v := 0) hx hb dX4_init_10 (by decide) ?_
  refine kc_put (n := b + 1) X (ci := 4) (C := RX4) (T := TX4) (N := 12) (j := 1) hP hS (by omega) rfl uX4_init_X4 tyX4_ok nmX4 (by decide) (show 1 < 12 by decide) mbX4_init_5 hname rfl (fv_int (hz 0 (by decide) 1).1 rfl) rfl rfl dX4_init_11 (fun H locs hP hS => ?_)
  refine lv_aload_n hx hb dX4_init_14 rfl (lv_at hl 0 rfl) ?_
  refine lv_iconst (v := 0) hx hb dX4_init_15 (by decide) ?_
  refine kc_put (n := b + 1) X (ci := 4) (C := RX4) (T := TX4) (N := 12) (j := 2) hP hS (by omega) rfl uX4_init_X4 tyX4_ok nmX4 (by decide) (show 2 < 12 by decide) mbX4_init_6 hname rfl (fv_int (hz 0 (by decide) 2).1 rfl) rfl rfl dX4_init_16 (fun H locs hP hS => ?_)
  refine lv_aload_n hx hb dX4_init_19 rfl (lv_at hl 0 rfl) ?_
  refine lv_iconst (v := 0) hx hb dX4_init_20 (by decide) ?_
  refine kc_put (n := b + 1) X (ci := 4) (C := RX4) (T := TX4) (N := 12) (j := 3) hP hS (by omega) rfl uX4_init_X4 tyX4_ok nmX4 (by decide) (show 3 < 12 by decide) mbX4_init_7 hname rfl (fv_int (hz 0 (by decide) 3).1 rfl) rfl rfl dX4_init_21 (fun H locs hP hS => ?_)
  refine lv_aload_n hx hb dX4_init_24 rfl (lv_at hl 0 rfl) ?_
  refine lv_bipush (v := 10) hx hb dX4_init_25 (by decide) ?_
  refine kc_newa (n := b + 1) (atype := .int) (ty := .int) (t := 0) (N := 10) X hP hS (by omega) (by omega) (by omega) rfl rfl (fun _ => rfl) (hB.z (lo := 1) (o := 1) hz (by decide) rfl hB.ok.told.2) (by decide) rfl (by decide) mbX4_init_8 (Nat.le_of_ble_eq_true rfl) (Nat.le_of_ble_eq_true rfl) dX4_init_27 (fun H hP hS => ?_)
  refine kc_put (n := b + 2) X (ci := 4) (C := RX4) (T := TX4) (N := 12) (j := 4) hP hS (by omega) rfl uX4_init_X4 tyX4_ok nmX4 (by decide) (show 4 < 12 by decide) mbX4_init_9 hname rfl (fv_ref (hB.a (lo := 1) (by decide) rfl) rfl) rfl rfl dX4_init_29 (fun H locs hP hS => ?_)
  refine lv_aload_n hx hb dX4_init_32 rfl (lv_at hl 0 rfl) ?_
  refine lv_bipush (v := 10) hx hb dX4_init_33 (by decide) ?_
  refine lv_bipush (v := 9) hx hb dX4_init_35 (by decide) ?_
  refine kc_mna (n := b + 2) (N := 10) (K := 9) (B := r0 + 8) X hP hS (by omega) (by omega) mbX4_init_10 hW0.2.2.2.2.2.1 mbX4_init_8 (fun j hj => (hB.a (lo := 3 + j) (by omega) (by rw [pmR_land j hj]; omega)).trans (by omega)) ((congrArg shp (hB.2.1 2 (by decide))).trans hB.ok.lands.2) (fun j hj => by rw [show b + 2 + 1 + j = b + (3 + j) by omega]; exact hB.z (o := 8 + j) hz (by omega) (pmR_land j hj) (by rw [← Nat.add_assoc]; exact (hB.ok.land hj).2)) (by decide) (by decide) rfl rfl (by decide) (by decide) (by decide) (Nat.le_of_ble_eq_true rfl) (Nat.le_of_ble_eq_true rfl) dX4_init_37 (fun H hP hS => ?_)
  refine kc_put (n := b + 13) X (ci := 4) (C := RX4) (T := TX4) (N := 12) (j := 5) hP hS (by omega) rfl uX4_init_X4 tyX4_ok nmX4 (by decide) (show 5 < 12 by decide) mbX4_init_11 hname rfl (fv_ref (hB.a (lo := 2) (by decide) rfl) rfl) rfl rfl dX4_init_41 (fun H locs hP hS => ?_)
  refine lv_aload_n hx hb dX4_init_44 rfl (lv_at hl 0 rfl) ?_
  refine lv_bipush (v := 10) hx hb dX4_init_45 (by decide) ?_
  refine kc_newa (n := b + 13) (atype := .long) (ty := .long) (t := 1) (N := 10) X hP hS (by omega) (by omega) (by omega) rfl rfl (fun _ => rfl) (hB.z (lo := 13) (o := 36) hz (by decide) rfl hB.ok.purses.2) (by decide) rfl (by decide) mbX4_init_12 (Nat.le_of_ble_eq_true rfl) (Nat.le_of_ble_eq_true rfl) dX4_init_47 (fun H hP hS => ?_)
  refine kc_put (n := b + 14) X (ci := 4) (C := RX4) (T := TX4) (N := 12) (j := 6) hP hS (by omega) rfl uX4_init_X4 tyX4_ok nmX4 (by decide) (show 6 < 12 by decide) mbX4_init_13 hname rfl (fv_ref (hB.a (lo := 13) (by decide) rfl) rfl) rfl rfl dX4_init_49 (fun H locs hP hS => ?_)
  refine lv_aload_n hx hb dX4_init_52 rfl (lv_at hl 0 rfl) ?_
  refine lv_bipush (v := 10) hx hb dX4_init_53 (by decide) ?_
  refine lv_iconst (v := 4) hx hb dX4_init_55 (by decide) ?_
  refine kc_mna (n := b + 14) (N := 10) (K := 4) (B := r0 + 18) X hP hS (by omega) (by omega) mbX4_init_10 hW0.2.2.2.2.2.1 mbX4_init_8 (fun j hj => (hB.a (lo := 15 + j) (by omega) (by rw [pmR_stake j hj]; omega)).trans (by omega)) ((congrArg shp (hB.2.1 14 (by decide))).trans hB.ok.stakes.2) (fun j hj => by rw [show b + 14 + 1 + j = b + (15 + j) by omega]; exact hB.z (o := 18 + j) hz (by omega) (pmR_stake j hj) (by rw [← Nat.add_assoc]; exact (hB.ok.stake hj).2)) (by decide) (by decide) rfl rfl (by decide) (by decide) (by decide) (Nat.le_of_ble_eq_true rfl) (Nat.le_of_ble_eq_true rfl) dX4_init_56 (fun H hP hS => ?_)
  refine kc_put (n := b + 25) X (ci := 4) (C := RX4) (T := TX4) (N := 12) (j := 7) hP hS (by omega) rfl uX4_init_X4 tyX4_ok nmX4 (by decide) (show 7 < 12 by decide) mbX4_init_14 hname rfl (fv_ref (hB.a (lo := 14) (by decide) rfl) rfl) rfl rfl dX4_init_60 (fun H locs hP hS => ?_)
  refine lv_aload_n hx hb dX4_init_63 rfl (lv_at hl 0 rfl) ?_
  refine lv_iconst (v := 4) hx hb dX4_init_64 (by decide) ?_
  refine kc_newq (n := b + 25) (r0 := r0) X hP hS (by omega) (by omega) mbX4_init_15 hW0.2.2.2.2.1 (Nat.le_of_ble_eq_true rfl) (Nat.le_of_ble_eq_true rfl) dX4_init_65 (fun H hP hS => ?_)
  refine kc_put (n := b + 26) X (ci := 4) (C := RX4) (T := TX4) (N := 12) (j := 8) hP hS (by omega) rfl uX4_init_X4 tyX4_ok nmX4 (by decide) (show 8 < 12 by decide) mbX4_init_16 hname rfl (fv_ref (hB.a (lo := 25) (by decide) rfl) rfl) rfl rfl dX4_init_68 (fun H locs hP hS => ?_)
  refine lv_aload_n hx hb dX4_init_71 rfl (lv_at hl 0 rfl) ?_
  refine lv_bipush (v := 10) hx hb dX4_init_72 (by decide) ?_
  refine kc_newa (n := b + 26) (atype := .int) (ty := .int) (t := 0) (N := 10) X hP hS (by omega) (by omega) (by omega) rfl rfl (fun _ => rfl) (hB.z (lo := 26) (o := 5) hz (by decide) rfl hB.ok.doing.2) (by decide) rfl (by decide) mbX4_init_8 (Nat.le_of_ble_eq_true rfl) (Nat.le_of_ble_eq_true rfl) dX4_init_74 (fun H hP hS => ?_)
  refine kc_put (n := b + 27) X (ci := 4) (C := RX4) (T := TX4) (N := 12) (j := 9) hP hS (by omega) rfl uX4_init_X4 tyX4_ok nmX4 (by decide) (show 9 < 12 by decide) mbX4_init_17 hname rfl (fv_ref (hB.a (lo := 26) (by decide) rfl) rfl) rfl rfl dX4_init_76 (fun H locs hP hS => ?_)
  refine lv_aload_n hx hb dX4_init_79 rfl (lv_at hl 0 rfl) ?_
  refine lv_bipush (v := 10) hx hb dX4_init_80 (by decide) ?_
  refine kc_newa (n := b + 27) (atype := .boolean) (ty := .boolean) (t := 2) (N := 10) X hP hS (by omega) (by omega) (by omega) rfl rfl (fun _ => rfl) (hB.z (lo := 27) (o := 6) hz (by decide) rfl hB.ok.lost.2) (by decide) rfl (by decide) mbX4_init_18 (Nat.le_of_ble_eq_true rfl) (Nat.le_of_ble_eq_true rfl) dX4_init_82 (fun H hP hS => ?_)
  refine kc_put (n := b + 28) X (ci := 4) (C := RX4) (T := TX4) (N := 12) (j := 10) hP hS (by omega) rfl uX4_init_X4 tyX4_ok nmX4 (by decide) (show 10 < 12 by decide) mbX4_init_19 hname rfl (fv_ref (hB.a (lo := 27) (by decide) rfl) rfl) rfl rfl dX4_init_84 (fun H locs hP hS => ?_)
  refine lv_aload_n hx hb dX4_init_87 rfl (lv_at hl 0 rfl) ?_
  refine lv_sipush (v := 400) hx hb dX4_init_88 (by decide) ?_
  refine kc_newa (n := b + 28) (atype := .int) (ty := .int) (t := 0) (N := 400) X hP hS (by omega) (by omega) (by omega) rfl rfl (fun _ => rfl) (hB.z (lo := 28) (o := 7) hz (by decide) rfl hB.ok.stack.2) (by decide) rfl (by decide) mbX4_init_8 (Nat.le_of_ble_eq_true rfl) (Nat.le_of_ble_eq_true rfl) dX4_init_91 (fun H hP hS => ?_)
  refine kc_put (n := b + 29) X (ci := 4) (C := RX4) (T := TX4) (N := 12) (j := 11) hP hS (by omega) rfl uX4_init_X4 tyX4_ok nmX4 (by decide) (show 11 < 12 by decide) mbX4_init_20 hname rfl (fv_ref (hB.a (lo := 28) (by decide) rfl) rfl) rfl rfl dX4_init_93 (fun H locs hP hS => ?_)
  refine va_getsN hx hb (X.2.1.2.2.1 3 (by decide)).1 hS hown (va_Nw.use rfl hW0.2.2.2.2.2.2) (fun _ h => h) dX4_init_96 ?_
  refine lv_iconst (v := 0) hx hb dX4_init_99 (by decide) ?_
  refine lv_aload_n hx hb dX4_init_100 rfl (lv_at hl 0 rfl) ?_
  refine k_get (n := b + 29) (i := b) X hP (ci := 4) (C := RX4) (T := TX4) (N := 12) (j := 4) (v := .ref (gb g + (b + 1))) (by omega) kW_b rfl uX4_init_X4 (by decide) mbX4_init_9 (by rw [stF_get (show 4 < (flRing r0).length by exact (by decide : 4 < 12))]; exact congrArg some (ring_ref (hB.a (lo := 1) (by decide) rfl))) dX4_init_101 ?_
  refine lv_iconst (v := 0) hx hb dX4_init_104 (by decide) ?_
  refine lv_bipush (v := 10) hx hb dX4_init_105 (by decide) ?_
  refine k_copy (n := b + 29) (i := b + 1) (t := 3) (N := 10) (h := fun j => rd M (r0 + 1) j) X hP hS (hml.trans hl.1.symm) mbX4_init_21 mbX4_init_22 mbX4_init_23 mbX4_init_24 (by decide) (by omega) (ring_told hB) (by decide) (by decide) (by decide) (Nat.le_of_ble_eq_true rfl) (Nat.le_of_ble_eq_true rfl) dX4_init_107 (fun H locs hP hS => ?_)
  have hP := cwl_re hP (ring_set (e1 := eL g r0 0) hB hz)
  refine lv_iconst (v := 0) hx hb dX4_init_110 (by decide) ?_
  refine lv_istore_n (lv' := [(1, .int 0), (0, .ref (gb g + b))]) hx hb dX4_init_111 rfl hl (by decide) rfl (fun ls hl => ?_)
  refine ring_round (M := toldM M r0) (k := 0) X hW0 hB (by omega) (by decide) (ring_lz hz) (Nat.le_of_ble_eq_true rfl) (Nat.le_of_ble_eq_true rfl) (fun H locs ls hP hS hl => ?_) _ _ _ hP hS hl
  refine ring_round (M := toldM M r0) (k := 1) X hW0 hB (by omega) (by decide) (ring_lz hz) (Nat.le_of_ble_eq_true rfl) (Nat.le_of_ble_eq_true rfl) (fun H locs ls hP hS hl => ?_) _ _ _ hP hS hl
  refine ring_round (M := toldM M r0) (k := 2) X hW0 hB (by omega) (by decide) (ring_lz hz) (Nat.le_of_ble_eq_true rfl) (Nat.le_of_ble_eq_true rfl) (fun H locs ls hP hS hl => ?_) _ _ _ hP hS hl
  refine ring_round (M := toldM M r0) (k := 3) X hW0 hB (by omega) (by decide) (ring_lz hz) (Nat.le_of_ble_eq_true rfl) (Nat.le_of_ble_eq_true rfl) (fun H locs ls hP hS hl => ?_) _ _ _ hP hS hl
  refine lv_iload_n hx hb dX4_init_112 rfl (lv_at hl 0 rfl) ?_
  refine lv_iconst (v := 4) hx hb dX4_init_113 (by decide) ?_
  refine lv_icmp_ge (tgt := 136) hx hb dX4_init_114 (by decide) (fun h_2 => ?_) (fun h_2 => absurd (by decide) h_2)
  have hP := ring_full hB hP
  refine lv_aload_n hx hb dX4_init_136 rfl (lv_at hl 1 rfl) ?_
  refine lv_iconst (v := 4) hx hb dX4_init_137 (by decide) ?_
  refine k_begin X hB (by omega) hP hS hm (cwV 1 hts gX4_init_X4_begin rfl rfl rfl (by decide +kernel) ⟨Nat.le_of_ble_eq_true rfl, Nat.le_of_ble_eq_true rfl⟩) hl.1 dX4_init_138 ⟨Nat.le_of_ble_eq_true rfl, Nat.le_of_ble_eq_true rfl⟩ (fun H locs hP hS => ?_)
  exact kc_ret X hP hS hr hlocks dX4_init_141
