/-! ===== constructors: the cells in the order of their making, the i-th at gb + i ===== -/
def fu1 (f : Nat → va_E) (i : Nat) (e : va_E) : Nat → va_E := fun j => if j = i then e else f j
def cwl (h : Nat) (f : Nat → va_E) (n : Nat) : va_W := (List.range n).map (fun i => (h + i, f i))
theorem cwl_len (h : Nat) (f : Nat → va_E) (n : Nat) : (cwl h f n).length = n := by unfold cwl; rw [List.length_map, List.length_range]
theorem cwl_get {h : Nat} {f : Nat → va_E} {n i : Nat} (hi : i < n) : (cwl h f n)[i]? = some (h + i, f i) := by
  unfold cwl
  rw [List.getElem?_map, List.getElem?_range hi]
  rfl
theorem cwl_none {h : Nat} {f : Nat → va_E} {n i : Nat} (hi : ¬ i < n) : (cwl h f n)[i]? = none := List.getElem?_eq_none (by rw [cwl_len]; omega)
theorem cwl_eq {h : Nat} {f f' : Nat → va_E} {n : Nat} (e : ∀ i, i < n → f i = f' i) : cwl h f n = cwl h f' n := by
  unfold cwl
  apply List.map_congr_left
  intro i hi
  rw [e i (List.mem_range.mp hi)]
theorem cwl_set {h : Nat} {f : Nat → va_E} {n i : Nat} {e : va_E} (hi : i < n) : (cwl h f n).set i (h + i, e) = cwl h (fu1 f i e) n := by
  apply List.ext_getElem?
  intro j
  by_cases hj : j < n
  · rw [cwl_get hj]
    by_cases e1 : i = j
    · subst e1
      rw [List.getElem?_set_self (by rw [cwl_len]; exact hi)]
      simp [fu1]
    · rw [List.getElem?_set_ne e1, cwl_get hj]
      simp [fu1, Ne.symm e1]
  · rw [List.getElem?_eq_none (by rw [List.length_set, cwl_len]; omega), cwl_none hj]
theorem cwl_push {h : Nat} {f : Nat → va_E} {n : Nat} {e : va_E} : cwl h f n ++ [(h + n, e)] = cwl h (fu1 f n e) (n + 1) := by
  unfold cwl
  rw [List.range_succ, List.map_append]
  congr 1
  · apply List.map_congr_left
    intro i hi
    have := List.mem_range.mp hi
    simp [fu1, show i ≠ n by omega]
  · simp [fu1]
theorem cwl_D {h : Nat} {f : Nat → va_E} {n : Nat} : va_D (fun q => h ≤ q) (cwl h f n) := by
  refine ⟨fun i j p q hi hj e => ?_, fun k q hk => ?_⟩
  · have h1 : i < n := by have := (List.getElem?_eq_some_iff.mp hi).1; rwa [cwl_len] at this
    have h2 : j < n := by have := (List.getElem?_eq_some_iff.mp hj).1; rwa [cwl_len] at this
    rw [cwl_get h1] at hi
    rw [cwl_get h2] at hj
    cases hi
    cases hj
    dsimp only at e
    omega
  · have h1 : k < n := by have := (List.getElem?_eq_some_iff.mp hk).1; rwa [cwl_len] at this
    rw [cwl_get h1] at hk
    cases hk
    exact Nat.le_add_right _ _
theorem cwl_re {D : va_G} {cl : List vw_C} {h n : Nat} {f f' : Nat → va_E} {H : Heap} (hP : va_P D cl (cwl h f n) H) (e : ∀ i, i < n → f i = f' i) : va_P D cl (cwl h f' n) H := by rw [← cwl_eq e]; exact hP
theorem cwl_low {D : va_G} {cl : List vw_C} {h n : Nat} {f : Nat → va_E} {H : Heap} (hP : va_P D cl (cwl h f n) H) (hn : 0 < n) : h + n ≤ H.size := by
  have := (hP (n - 1) _ (cwl_get (by omega))).lt
  dsimp only at this
  omega
/-- where a new cell lies -/
theorem k_addr {D : va_G} {cl : List vw_C} {A : Nat → Prop} {h n q : Nat} {f : Nat → va_E} {e : va_E} {H : Heap} (hP : va_P D cl (cwl h f n ++ [(q, e)]) H) (hD : va_D A (cwl h f n ++ [(q, e)])) (hA : h ≤ q) (hs : H.size ≤ h + n + 1) : q = h + n := by
  have hg : (cwl h f n ++ [(q, e)])[n]? = some (q, e) := by
    rw [List.getElem?_append_right (by rw [cwl_len]; exact Nat.le_refl _), cwl_len, Nat.sub_self]
    rfl
  have h1 := (hP n _ hg).lt
  dsimp only at h1
  by_cases hq : q < h + n
  · exfalso
    have hl : q - h < n := by omega
    have h2 : (cwl h f n ++ [(q, e)])[q - h]? = some (h + (q - h), f (q - h)) := by
      rw [List.getElem?_append_left (by rw [cwl_len]; exact hl), cwl_get hl]
    have := hD.1 (q - h) n _ _ h2 hg (by show h + (q - h) = q; omega)
    omega
  · omega
theorem ra_one {s : State} {c1 c2 : ClassId} {ty : FieldType} (h1 : va_RA s c1 ty) (h2 : va_RA s c2 ty) : c1 = c2 := by
  cases ty with
  | object C =>
    obtain ⟨_, _, -, -, -, e1⟩ := h1
    obtain ⟨_, _, -, -, -, e2⟩ := h2
    exact Option.some.inj (e1.symm.trans e2)
  | _ => exact Option.some.inj (Eq.trans (Eq.symm h1) h2)
/-- what the constructors need besides -/
def AOI (U : State) : Prop := (Cond.arrayOver (.array .int)).before #[] U = true
theorem AOI.moved {u U : State} (hvm : u.vm.Alike U.vm) (h : AOI u) : AOI U := by
  have h2 : (Cond.arrayOver (.array .int)).before #[] (u.setVm U.vm) = true := by rw [Cond.arrayOver_setVmC hvm]; exact h
  exact h2
def NwG (U : State) : Prop := va_Nw (.methodLinkNest RX4 65 yX2_init RX5) U ∧ va_Nw (.methodLinkNest RX5 24 yX3_init RX5) U ∧ va_Nw (.methodLinkNest RX5 31 yX0_init RX5) U ∧ va_Nw (.methodLinkNest RX5 38 yX1_init RX5) U ∧ va_AO RX2 U ∧ AOI U ∧ va_Nw (.fieldLinkNest RX4 56 "FootANight" "SETTING_AT_FIRST" "[I" RX5) U
theorem NwG.warm {s U : State} (hW : s.WarmedH U.vm) (h : NwG s) : NwG U := ⟨h.1.warmM hW, h.2.1.warmM hW, h.2.2.1.warmM hW, h.2.2.2.1.warmM hW, h.2.2.2.2.1.moved hW.alike, h.2.2.2.2.2.1.moved hW.alike, h.2.2.2.2.2.2.warmF hW⟩
theorem NwG.same {u U : State} (e : u.vm = U.vm) (h : NwG u) : NwG U := ⟨h.1.same rfl e, h.2.1.same rfl e, h.2.2.1.same rfl e, h.2.2.2.1.same rfl e, h.2.2.2.2.1.moved (e ▸ Vm.Alike.refl u.vm), h.2.2.2.2.2.1.moved (e ▸ Vm.Alike.refl u.vm), h.2.2.2.2.2.2.same rfl e⟩
def PcN (g : GT) (av : List Value) (f : Nat → va_E) (n : Nat) : Array Value → State → Prop := va_Pc av (fun U => SxG g U ∧ NwG U ∧ U.heap.size = gb g + n ∧ va_P (gD g) vwCl (cwl (gb g) f n) U.heap)
theorem PcN.blind (g : GT) (av : List Value) (f : Nat → va_E) (n : Nat) : FrameBlind (PcN g av f n) := fun a U fr mk q => ⟨q.1, q.2.1.calling fr mk a, q.2.2.1.same rfl, q.2.2.2⟩
abbrev CN (l : Launch) (y : MethodName) (ws : List Cond) (rm : Room) (g : GT) (av : List Value) (f : Nat → va_E) (n : Nat) (f' : Nat → va_E) (n' mc ms : Nat) : Prop := Met l y ws rm (PcN g av f n) (va_Qv (fun (_ : Unit) => True) (fun _ t => va_P (gD g) vwCl (cwl (gb g) f' n') t.heap) (AbG g)) mc ms (AbG g)
/-- an object whose first j fields have come to what the memory says -/
def df0 : Option Nat → Value
  | none => .int 0
  | some _ => .null
def stF (g : GT) (M : Mem) (k : Nat) (fl : List (Option Nat)) (j : Nat) : List Value := (List.range fl.length).map (fun i => if i < j then fldV g M k i (fl.getD i none) else df0 (fl.getD i none))
theorem stF_len (g : GT) (M : Mem) (k : Nat) (fl : List (Option Nat)) (j : Nat) : (stF g M k fl j).length = fl.length := by unfold stF; rw [List.length_map, List.length_range]
theorem stF_get {g : GT} {M : Mem} {k j i : Nat} {fl : List (Option Nat)} (hi : i < fl.length) : (stF g M k fl j)[i]? = some (if i < j then fldV g M k i (fl.getD i none) else df0 (fl.getD i none)) := by
  unfold stF
  rw [List.getElem?_map, List.getElem?_range hi]
  rfl
theorem stF_set {g : GT} {M : Mem} {k j : Nat} {fl : List (Option Nat)} {v : Value} (hj : j < fl.length) (hv : v = fldV g M k j (fl.getD j none)) : (stF g M k fl j).set j v = stF g M k fl (j + 1) := by
  apply List.ext_getElem?
  intro i
  by_cases hi : i < fl.length
  · rw [stF_get hi]
    by_cases e : j = i
    · subst e
      rw [List.getElem?_set_self (by rw [stF_len]; exact hi), if_pos (Nat.lt_succ_self _), hv]
    · rw [List.getElem?_set_ne e, stF_get hi]
      by_cases h : i < j
      · rw [if_pos h, if_pos (by omega)]
      · rw [if_neg h, if_neg (by omega)]
  · rw [List.getElem?_eq_none (by rw [List.length_set, stF_len]; omega), List.getElem?_eq_none (by rw [stF_len]; omega)]
theorem stF_skip {g : GT} {M : Mem} {k j : Nat} {fl : List (Option Nat)} (h : fldV g M k j (fl.getD j none) = df0 (fl.getD j none)) : stF g M k fl j = stF g M k fl (j + 1) := by
  unfold stF
  apply List.map_congr_left
  intro i hi
  by_cases h1 : i < j
  · rw [if_pos h1, if_pos (by omega)]
  · by_cases e : i = j
    · subst e
      rw [if_neg h1, if_pos (by omega), h]
    · rw [if_neg h1, if_neg (by omega)]
theorem stF_end {g : GT} {M : Mem} {k : Nat} {fl : List (Option Nat)} : stF g M k fl fl.length = fldsV g M k fl := by
  unfold stF fldsV
  apply List.map_congr_left
  intro i hi
  rw [if_pos (List.mem_range.mp hi)]
theorem stF_mem {g : GT} {M M' : Mem} {k j : Nat} {fl : List (Option Nat)} (h : ∀ i, rd M' k i = rd M k i) : stF g M' k fl j = stF g M k fl j := by
  unfold stF
  apply List.map_congr_left
  intro i hi
  by_cases h1 : i < j
  · rw [if_pos h1, if_pos h1]
    cases fl.getD i none with
    | none => simp only [fldV, h]
    | some t => rfl
  · rw [if_neg h1, if_neg h1]
/-- new arrays -/
def zA (t n : Nat) : vp_A := (n, if t = 1 then .inr (.inl (fun _ => 0)) else .inl (fun _ => 0))
theorem enc_z {g : GT} {M : Mem} {k t n : Nat} (h : shp k = shA t n) (hz : ∀ j, rd M k j = 0) (hzl : ∀ j, rdl M k j = 0) : encG g M k = .inl (gc g t, zA t n) := by
  unfold encG
  rw [h]
  show Sum.inl (gc g t, n, if t = 1 then _ else _) = _
  unfold zA
  by_cases ht : t = 1
  · rw [if_pos ht, if_pos ht]; simp only [hzl]
  · rw [if_neg ht, if_neg ht]; simp only [hz]
