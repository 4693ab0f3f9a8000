/-! ===== statics, the contract's form, rows over the memory ===== -/
def stC : Nat → String × String := fun i => match i with
  | 0 => ("FootANight", "FARM_MOST")
  | 1 => ("FootANight", "BORDER_MOST")
  | 2 => ("FootANight", "SETTING_MOST")
  | 3 => ("FootANight", "SETTING_AT_FIRST")
  | _ => ("FootANight$Duel", "WAYS")
def stL : Nat → List Int32 := fun i => match i with
  | 0 => [60, 3, 9, 1]
  | 1 => [1, 3]
  | 2 => [99, 99, 99, 99, 99, 99, 99, 1000, 1000, 5]
  | 3 => [20, 10, 5, 3, 5, 1, 10, 900, 300, 1]
  | _ => [0, 1, 3]
def stN (i : Nat) : Nat := (stL i).length
def stV (i j : Nat) : Int32 := (stL i).getD j 0
def StG (g : GT) (U : State) (H : Heap) : Prop := ∀ i : Nat, i < 5 → va_Z (stC i).1 (stC i).2 "[I" (.ref (gs g i)) (AbG g) U H ∧ va_T .int (gs g i) (stN i) (fun j => .int (stV i j)) (AbG g) U H
def kwL : List Int32 := [100, 111, 32, 119, 104, 101, 110, 32, 111, 114, 32, 97, 110, 100, 32, 110, 111, 116, 32, 119, 105, 100, 101, 32, 108, 119, 105, 100, 101, 32, 114, 119, 105, 100, 101, 32, 103, 97, 105, 110, 32, 108, 111, 115, 115, 32, 110, 105, 103, 104, 116, 32, 104, 105, 116, 32, 100, 111, 103, 32, 108, 100, 111, 103, 32, 114, 100, 111, 103, 32, 108, 107, 105, 110, 32, 114, 107, 105, 110, 32, 108, 119, 97, 108, 108, 32, 114, 119, 97, 108, 108, 32, 112, 117, 114, 115, 101, 32]
abbrev kwN : Nat := 98
def kwC (i : Nat) : Int32 := kwL.getD i 0
def SjG (g : GT) (U : State) (H : Heap) : Prop := va_Z "java/lang/String" "COMPACT_STRINGS" "Z" (.int 1) (AbG g) U H ∧ va_Zq "jdk/internal/util/Preconditions" "SIOOBE_FORMATTER" "Ljava/util/function/BiFunction;" (AbG g) U H
def SkG (g : GT) (U : State) (H : Heap) : Prop := (vk_S 1 [kwN] [kwL] (fun _ => gs g 5) (fun _ => gs g 6) (AbG g) U H ∧ SjG g U H) ∧ vk_R RX3 kwIdx kwText (gs g 5) U
def SxG (g : GT) (U : State) : Prop := gb g ≤ U.heap.size ∧ va_K (gD g) vwCl (tyG g) U ∧ StG g U U.heap ∧ SkG g U U.heap
theorem SxG.calling {g : GT} {U : State} (h : SxG g U) (f : JFrame) (mk : MethodId) (a : Array Value) : SxG g (U.calling f mk a) :=
  ⟨h.1, va_K.moved (u := U) (U := U.calling f mk a) (Vm.Alike.refl U.vm) h.2.1, fun i hi => ⟨va_Z.moved (u := U) (U := U.calling f mk a) (Vm.Alike.refl U.vm) (h.2.2.1 i hi).1, va_T.moved (u := U) (U := U.calling f mk a) (Vm.Alike.refl U.vm) (h.2.2.1 i hi).2⟩, ⟨vk_S.moved (u := U) (U := U.calling f mk a) (Vm.Alike.refl U.vm) h.2.2.2.1.1, va_Z.moved (u := U) (U := U.calling f mk a) (Vm.Alike.refl U.vm) h.2.2.2.1.2.1, va_Zq.moved (u := U) (U := U.calling f mk a) (Vm.Alike.refl U.vm) h.2.2.2.1.2.2⟩, vk_R.same (u := U) (U := U.calling f mk a) rfl h.2.2.2.2⟩
theorem SxG.warm {g : GT} {s U : State} {locs : List Loc} (h : SxG g s) (hW : s.WarmedH U.vm) (hS : va_S (AbG g) s.heap U.heap locs) : SxG g U :=
  ⟨Nat.le_trans h.1 hS.1, va_K.moved hW.alike h.2.1, fun i hi => ⟨(va_Z.moved hW.alike (h.2.2.1 i hi).1).kept hS.2.1, (va_T.moved hW.alike (h.2.2.1 i hi).2).kept hS.2.1⟩, ⟨(vk_S.moved hW.alike h.2.2.2.1.1).kept hS.2.1, (va_Z.moved hW.alike h.2.2.2.1.2.1).kept hS.2.1, (va_Zq.moved hW.alike h.2.2.2.1.2.2).kept hS.2.1⟩, vk_R.warm hW h.2.2.2.2⟩
def PcG (g : GT) (av : List Value) (M : Mem) : Array Value → State → Prop := va_Pc av (fun U => SxG g U ∧ va_P (gD g) vwCl (wlG g M) U.heap)
abbrev CI (l : Launch) (y : MethodName) (ws : List Cond) (rm : Room) (g : GT) (av : List Value) (M : Mem) (r : Int32) (M' : Mem) : Prop := Met l y ws rm (PcG g av M) (va_Qi (fun (q : Int32) (_ : Unit) => q = r) (fun _ t => va_P (gD g) vwCl (wlG g M') t.heap) (AbG g)) 0 0 (AbG g)
abbrev CL (l : Launch) (y : MethodName) (ws : List Cond) (rm : Room) (g : GT) (av : List Value) (M : Mem) (r : Int64) (M' : Mem) : Prop := Met l y ws rm (PcG g av M) (va_Ql (fun (q : Int64) (_ : Unit) => q = r) (fun _ t => va_P (gD g) vwCl (wlG g M') t.heap) (AbG g)) 0 0 (AbG g)
abbrev CV (l : Launch) (y : MethodName) (ws : List Cond) (rm : Room) (g : GT) (av : List Value) (M : Mem) (M' : Mem) : Prop := Met l y ws rm (PcG g av M) (va_Qv (fun (_ : Unit) => True) (fun _ t => va_P (gD g) vwCl (wlG g M') t.heap) (AbG g)) 0 0 (AbG g)
theorem PcG.blind (g : GT) (av : List Value) (M : Mem) : FrameBlind (PcG g av M) := fun a U f mk q => ⟨q.1, q.2.1.calling f mk a, q.2.2⟩
/-- what holds all through a method -/
def CxG (g : GT) (p : Program) (s : State) (m : MethodId) (args : Array Value) (c : Code) (cc : ByteArray) (nL : Nat) (own : String) (Ts : List Cond) : Prop := CallFix p m c cc nL s args Ts own ∧ SxG g s ∧ AxG g
theorem fldsV_get {g : GT} {M : Mem} {k j : Nat} {fl : List (Option Nat)} {o : Option Nat} (h : fl[j]? = some o) : (fldsV g M k fl)[j]? = some (fldV g M k j o) := by
  have hj : j < fl.length := (List.getElem?_eq_some_iff.mp h).1
  unfold fldsV
  rw [List.getElem?_map, List.getElem?_range hj]
  show some (fldV g M k j (fl.getD j none)) = _
  rw [List.getD_eq_getElem?_getD, h]
  rfl
theorem fldsV_set {g : GT} {M : Mem} {k j : Nat} {fl : List (Option Nat)} (h : fl[j]? = some none) (x : Int32) : (fldsV g M k fl).set j (.int x) = fldsV g (wr M k j x) k fl := by
  have hj : j < fl.length := (List.getElem?_eq_some_iff.mp h).1
  have hl : (fldsV g M k fl).length = fl.length := by unfold fldsV; rw [List.length_map, List.length_range]
  apply List.ext_getElem?
  intro i
  by_cases hi : j = i
  · subst hi
    rw [List.getElem?_set_self (by rw [hl]; exact hj), fldsV_get h]
    show some (Value.int x) = some (Value.int (rd (wr M k j x) k j))
    simp [rd, wr]
  · rw [List.getElem?_set_ne hi]
    cases hf : fl[i]? with
    | none =>
      have h1 : (fldsV g M k fl).length ≤ i := by rw [hl]; exact List.getElem?_eq_none_iff.mp hf
      have h2 : (fldsV g (wr M k j x) k fl).length ≤ i := by
        unfold fldsV
        rw [List.length_map, List.length_range]; exact List.getElem?_eq_none_iff.mp hf
      rw [List.getElem?_eq_none_iff.mpr h1, List.getElem?_eq_none_iff.mpr h2]
    | some o =>
      rw [fldsV_get hf, fldsV_get hf]
      cases o with
      | none =>
        show some (Value.int (rd M k i)) = some (Value.int (rd (wr M k j x) k i))
        simp [rd, wr, Ne.symm hi]
      | some t => rfl
theorem enc_obj {g : GT} {M : Mem} {k ci : Nat} {fl : List (Option Nat)} (h : shp k = shO ci fl) : encG g M k = .inr (ci, fldsV g M k fl) := by unfold encG; rw [h]; rfl
theorem enc_int {g : GT} {M : Mem} {k t n : Nat} (h : shp k = shA t n) (ht : t ≠ 1) : encG g M k = .inl (gc g t, n, .inl (fun j => rd M k j)) := by unfold encG; rw [h]; show Sum.inl (gc g t, n, if t = 1 then _ else _) = _; rw [if_neg ht]
theorem enc_long {g : GT} {M : Mem} {k n : Nat} (h : shp k = shA 1 n) : encG g M k = .inl (gc g 1, n, .inr (.inl (fun j => rdl M k j))) := by unfold encG; rw [h]; rfl
theorem enc_ref {g : GT} {M : Mem} {k t n b : Nat} (h : shp k = shR t n b) : encG g M k = .inl (gc g t, n, .inr (.inr (.inr (.inr (fun j => some (ga g (b + j))))))) := by unfold encG; rw [h]; rfl
theorem wr_else {g : GT} {M : Mem} {k j : Nat} {x : Int32} : ∀ k', k' ≠ k → encG g (wr M k j x) k' = encG g M k' := fun k' h => encG_eq (fun i => rd_wr_ne h) (fun i => rfl)
theorem wrl_else {g : GT} {M : Mem} {k j : Nat} {x : Int64} : ∀ k', k' ≠ k → encG g (wrl M k j x) k' = encG g M k' := fun k' h => encG_eq (fun i => rfl) (fun i => by simp [rdl, wrl, h])
theorem upd_rd (M : Mem) (k j : Nat) (x : Int32) : upd (fun i => rd M k i) j x = fun i => rd (wr M k j x) k i := by
  funext i
  by_cases h : i = j <;> simp [upd, rd, wr, h]
section ROWS
variable {p : Program} {l : Launch} {e : Env} {R : Room} {s : State} {m : MethodId} {args : Array Value} {below : List Frame} {meth : Method} {c : Code} {H : Heap} {locs : List Loc} {cells slots : Nat} {Q : State → Prop}
variable {cc : ByteArray} {pc nL : Nat} {ls : Array Slot} {rest : List Value} {g : GT} {own : String} {Ts : List Cond} {M M' : Mem}
theorem x_name {x y : Int32} (h : y = x) (k : W p l e R s m args below meth c H locs cells slots Q (F0 m pc ls (.int y :: rest))) : W p l e R s m args below meth c H locs cells slots Q (F0 m pc ls (.int x :: rest)) := by subst h; exact k
theorem x_namel {x y : Int64} (h : y = x) (k : W p l e R s m args below meth c H locs cells slots Q (F0 m pc ls (.long y :: rest))) : W p l e R s m args below meth c H locs cells slots Q (F0 m pc ls (.long x :: rest)) := by subst h; exact k
theorem x_get (X : CxG g p s m args c cc nL own Ts) (hP : va_P (gD g) vwCl (wlG g M) H) {k ci j N index : Nat} {fl : List (Option Nat)} {o : Option Nat} {C : String} {T : u_T} (ok : okO g k ci fl) (hc : vwCl[ci]? = some (C, T, N)) (hin : ∀ w ∈ u_ws C T N, w ∈ Ts) (hj : j < N) (hf : fl[j]? = some o) (hlink : Cond.fieldLink own index (T j).1 (T j).2.1 (T j).2.2.1 ∈ Ts) (hdg : decode cc pc = .ok (.getfield index, 3))
    (kk : W p l e R s m args below meth c H locs cells slots Q (F0 m (pc + 3) ls (fldV g M k j o :: rest))) : W p l e R s m args below meth c H locs cells slots Q (F0 m pc ls (.ref (ga g k) :: rest)) := by
  obtain ⟨⟨hx, hb, -, hown, hts⟩, ⟨-, hK, -⟩, hA⟩ := X
  obtain ⟨i, hi⟩ := wl_get ok.1
  have hi := hi M
  rw [enc_obj ok.2] at hi
  exact va_get hx hb hts hin hown hK hP i hi hc j hj (hts _ hlink) (fun _ h => h) (fldsV_get hf) hdg kk
theorem x_put (X : CxG g p s m args c cc nL own Ts) (hP : va_P (gD g) vwCl (wlG g M) H) (hS : va_S (AbG g) s.heap H locs) {k ci j N index : Nat} {fl : List (Option Nat)} {C : String} {T : u_T} {ty0 : Nat → FieldType} {ty : FieldType} {x : Int32} (ok : okO g k ci fl) (hM : M' = wr M k j x) (hc : vwCl[ci]? = some (C, T, N)) (hin : ∀ w ∈ u_ws C T N, w ∈ Ts) (hty : ∀ k, k < N → parseFieldDescriptor (T k).2.2.1 = some (ty0 k)) (hnm : ∀ a, a < N → ∀ b, b < N → a ≠ b → (T a).2.1 ≠ (T b).2.1) (hj : j < N) (hf : fl[j]? = some none) (hlink : Cond.fieldLink own index (T j).1 (T j).2.1 (T j).2.2.1 ∈ Ts) (hfin : (T j).2.2.2 = false) (hd : parseFieldDescriptor (T j).2.2.1 = some ty) (hn : narrow ty (.int x) = .int x) (hfit : fits ty (.int x) = true) (hdg : decode cc pc = .ok (.putfield index, 3))
    (kk : ∀ (H1 : Heap) (locs1 : List Loc), va_P (gD g) vwCl (wlG g M') H1 → va_S (AbG g) s.heap H1 locs1 → W p l e R s m args below meth c H1 locs1 cells slots Q (F0 m (pc + 3) ls rest)) : W p l e R s m args below meth c H locs cells slots Q (F0 m pc ls (.int x :: .ref (ga g k) :: rest)) := by
  subst hM
  obtain ⟨⟨hx, hb, -, hown, hts⟩, ⟨-, hK, -⟩, hA⟩ := X
  obtain ⟨i, hi0⟩ := wl_get ok.1
  have hi := hi0 M
  rw [enc_obj ok.2] at hi
  refine va_put hx hb hts hin ty0 hty hnm hown hK hP (hA M) hS i hi hc j hj (hts _ hlink) (fun _ h => h) hfin hd hn hfit (by
    have h1 := fldsV_get (g := g) (M := M) (k := k) hf
    exact (List.getElem?_eq_some_iff.mp h1).1) hdg (fun H1 locs1 hP1 hD1 hS1 => ?_)
  rw [fldsV_set hf, wl_set hA ok.1 (hi0 M) wr_else (enc_obj ok.2)] at hP1
  exact kk H1 locs1 hP1 hS1
theorem x_iald (X : CxG g p s m args c cc nL own Ts) (hP : va_P (gD g) vwCl (wlG g M) H) {k n : Nat} {i : Int32} (ok : okA g k 0 n) (hin : inb i n = true) (hdg : decode cc pc = .ok (.iaload, 1))
    (kk : W p l e R s m args below meth c H locs cells slots Q (F0 m (pc + 1) ls (.int (rd M k (ix i)) :: rest))) : W p l e R s m args below meth c H locs cells slots Q (F0 m pc ls (.int i :: .ref (ga g k) :: rest)) := by
  obtain ⟨⟨hx, hb, -, hown, hts⟩, ⟨-, hK, -⟩, hA⟩ := X
  obtain ⟨q, hi⟩ := wl_get ok.1
  have hi := hi M
  rw [enc_int ok.2 (by decide)] at hi
  exact va_iald hx hb hK hP q 0 hi rfl (inb_vp hin) hdg kk
theorem x_zald (X : CxG g p s m args c cc nL own Ts) (hP : va_P (gD g) vwCl (wlG g M) H) {k n : Nat} {i : Int32} (ok : okA g k 2 n) (hin : inb i n = true) (hdg : decode cc pc = .ok (.baload, 1))
    (kk : W p l e R s m args below meth c H locs cells slots Q (F0 m (pc + 1) ls (.int (rd M k (ix i)) :: rest))) : W p l e R s m args below meth c H locs cells slots Q (F0 m pc ls (.int i :: .ref (ga g k) :: rest)) := by
  obtain ⟨⟨hx, hb, -, hown, hts⟩, ⟨-, hK, -⟩, hA⟩ := X
  obtain ⟨q, hi⟩ := wl_get ok.1
  have hi := hi M
  rw [enc_int ok.2 (by decide)] at hi
  exact va_zald hx hb hK hP q 2 hi rfl (inb_vp hin) hdg kk
theorem x_lald (X : CxG g p s m args c cc nL own Ts) (hP : va_P (gD g) vwCl (wlG g M) H) {k n : Nat} {i : Int32} (ok : okA g k 1 n) (hin : inb i n = true) (hdg : decode cc pc = .ok (.laload, 1))
    (kk : W p l e R s m args below meth c H locs cells slots Q (F0 m (pc + 1) ls (.long (rdl M k (ix i)) :: rest))) : W p l e R s m args below meth c H locs cells slots Q (F0 m pc ls (.int i :: .ref (ga g k) :: rest)) := by
  obtain ⟨⟨hx, hb, -, hown, hts⟩, ⟨-, hK, -⟩, hA⟩ := X
  obtain ⟨q, hi⟩ := wl_get ok.1
  have hi := hi M
  rw [enc_long ok.2] at hi
  exact va_lald hx hb hK hP q 1 hi rfl (inb_vp hin) hdg kk
theorem x_iast (X : CxG g p s m args c cc nL own Ts) (hP : va_P (gD g) vwCl (wlG g M) H) (hS : va_S (AbG g) s.heap H locs) {k n : Nat} {i x : Int32} (ok : okA g k 0 n) (hM : M' = wr M k (ix i) x) (hin : inb i n = true) (hdg : decode cc pc = .ok (.iastore, 1))
    (kk : ∀ (H1 : Heap) (locs1 : List Loc), va_P (gD g) vwCl (wlG g M') H1 → va_S (AbG g) s.heap H1 locs1 → W p l e R s m args below meth c H1 locs1 cells slots Q (F0 m (pc + 1) ls rest)) : W p l e R s m args below meth c H locs cells slots Q (F0 m pc ls (.int x :: .int i :: .ref (ga g k) :: rest)) := by
  subst hM
  obtain ⟨⟨hx, hb, -, hown, hts⟩, ⟨-, hK, -⟩, hA⟩ := X
  obtain ⟨q, hi0⟩ := wl_get ok.1
  have hi := hi0 M
  rw [enc_int ok.2 (by decide)] at hi
  refine va_iast hx hb hK hP (hA M) hS q 0 hi rfl (inb_vp hin) hdg (fun H1 locs1 hP1 hD1 hS1 => ?_)
  rw [upd_rd, wl_set hA ok.1 (hi0 M) wr_else (enc_int ok.2 (by decide))] at hP1
  exact kk H1 locs1 hP1 hS1
theorem x_zast (X : CxG g p s m args c cc nL own Ts) (hP : va_P (gD g) vwCl (wlG g M) H) (hS : va_S (AbG g) s.heap H locs) {k n : Nat} {i x : Int32} (ok : okA g k 2 n) (hM : M' = wr M k (ix i) x) (hin : inb i n = true) (hx0 : vp_nar .boolean x = x) (hdg : decode cc pc = .ok (.bastore, 1))
    (kk : ∀ (H1 : Heap) (locs1 : List Loc), va_P (gD g) vwCl (wlG g M') H1 → va_S (AbG g) s.heap H1 locs1 → W p l e R s m args below meth c H1 locs1 cells slots Q (F0 m (pc + 1) ls rest)) : W p l e R s m args below meth c H locs cells slots Q (F0 m pc ls (.int x :: .int i :: .ref (ga g k) :: rest)) := by
  subst hM
  obtain ⟨⟨hx, hb, -, hown, hts⟩, ⟨-, hK, -⟩, hA⟩ := X
  obtain ⟨q, hi0⟩ := wl_get ok.1
  have hi := hi0 M
  rw [enc_int ok.2 (by decide)] at hi
  refine va_zast hx hb hK hP (hA M) hS q 2 hi rfl (inb_vp hin) hdg (fun H1 locs1 hP1 hD1 hS1 => ?_)
  rw [hx0, upd_rd, wl_set hA ok.1 (hi0 M) wr_else (enc_int ok.2 (by decide))] at hP1
  exact kk H1 locs1 hP1 hS1
theorem x_last (X : CxG g p s m args c cc nL own Ts) (hP : va_P (gD g) vwCl (wlG g M) H) (hS : va_S (AbG g) s.heap H locs) {k n : Nat} {i : Int32} {x : Int64} (ok : okA g k 1 n) (hM : M' = wrl M k (ix i) x) (hin : inb i n = true) (hdg : decode cc pc = .ok (.lastore, 1))
    (kk : ∀ (H1 : Heap) (locs1 : List Loc), va_P (gD g) vwCl (wlG g M') H1 → va_S (AbG g) s.heap H1 locs1 → W p l e R s m args below meth c H1 locs1 cells slots Q (F0 m (pc + 1) ls rest)) : W p l e R s m args below meth c H locs cells slots Q (F0 m pc ls (.long x :: .int i :: .ref (ga g k) :: rest)) := by
  subst hM
  obtain ⟨⟨hx, hb, -, hown, hts⟩, ⟨-, hK, -⟩, hA⟩ := X
  obtain ⟨q, hi0⟩ := wl_get ok.1
  have hi := hi0 M
  rw [enc_long ok.2] at hi
  refine va_last hx hb hK hP (hA M) hS q 1 hi rfl (inb_vp hin) hdg (fun H1 locs1 hP1 hD1 hS1 => ?_)
  rw [wl_set hA ok.1 (hi0 M) (e := .inl (gc g 1, n, .inr (.inl (vp_updL (fun j => rdl M k j) i.toNatClampNeg x)))) (M' := wrl M k (ix i) x) wrl_else (by
    rw [enc_long ok.2]
    congr 5
    funext j
    by_cases h : j = i.toNatClampNeg <;> simp [vp_updL, rdl, wrl, ix, h])] at hP1
  exact kk H1 locs1 hP1 hS1
theorem x_aaldI (X : CxG g p s m args c cc nL own Ts) (hP : va_P (gD g) vwCl (wlG g M) H) {k n b : Nat} {i : Int32} (ok : okR g k 4 n b) (hin : inb i n = true) (hdg : decode cc pc = .ok (.aaload, 1))
    (kk : W p l e R s m args below meth c H locs cells slots Q (F0 m (pc + 1) ls (.ref (ga g (b + ix i)) :: rest))) : W p l e R s m args below meth c H locs cells slots Q (F0 m pc ls (.int i :: .ref (ga g k) :: rest)) := by
  obtain ⟨⟨hx, hb, -, hown, hts⟩, ⟨-, hK, -⟩, hA⟩ := X
  obtain ⟨q, hi⟩ := wl_get ok.1
  have hi := hi M
  rw [enc_ref ok.2] at hi
  have hlt : i.toNatClampNeg < n := inb_lt hin
  exact W.aald (v := .ref (ga g (b + ix i))) (ty := .array .int) hx hb (hP q _ hi) ((hK.2 4 _ rfl).1 n (fun j => va_rf (some (ga g (b + j))))) rfl (fun q => by cases q) (by show ¬ (i < 0 ∨ (arrV _ _ _).slots.size ≤ _); rw [arrV_size]; exact inb_vp hin) (by show (arrV _ _ _).slots[_]? = _; rw [arrV_read _ _ hlt]; rfl) rfl rfl hdg kk
theorem x_aaldL (X : CxG g p s m args c cc nL own Ts) (hP : va_P (gD g) vwCl (wlG g M) H) {k n b : Nat} {i : Int32} (ok : okR g k 3 n b) (hin : inb i n = true) (hdg : decode cc pc = .ok (.aaload, 1))
    (kk : W p l e R s m args below meth c H locs cells slots Q (F0 m (pc + 1) ls (.ref (ga g (b + ix i)) :: rest))) : W p l e R s m args below meth c H locs cells slots Q (F0 m pc ls (.int i :: .ref (ga g k) :: rest)) := by
  obtain ⟨⟨hx, hb, -, hown, hts⟩, ⟨-, hK, -⟩, hA⟩ := X
  obtain ⟨q, hi⟩ := wl_get ok.1
  have hi := hi M
  rw [enc_ref ok.2] at hi
  exact va_aldq hx hb hK hP q 3 hi rfl (inb_vp hin) hdg kk
theorem x_alen (X : CxG g p s m args c cc nL own Ts) (hP : va_P (gD g) vwCl (wlG g M) H) {k t n : Nat} (ok : okA g k t n) (ht : t < 3) (hdg : decode cc pc = .ok (.arraylength, 1))
    (kk : W p l e R s m args below meth c H locs cells slots Q (F0 m (pc + 1) ls (.int (Int32.ofNat n) :: rest))) : W p l e R s m args below meth c H locs cells slots Q (F0 m pc ls (.ref (ga g k) :: rest)) := by
  obtain ⟨⟨hx, hb, -, hown, hts⟩, ⟨-, hK, -⟩, hA⟩ := X
  obtain ⟨q, hi⟩ := wl_get ok.1
  have hi := hi M
  match t, ht with
  | 0, _ => rw [enc_int ok.2 (by decide)] at hi; exact va_alen hx hb hK hP q 0 hi rfl rfl hdg kk
  | 1, _ => rw [enc_long ok.2] at hi; exact va_alen hx hb hK hP q 1 hi rfl rfl hdg kk
  | 2, _ => rw [enc_int ok.2 (by decide)] at hi; exact va_alen hx hb hK hP q 2 hi rfl rfl hdg kk
theorem x_alenR (X : CxG g p s m args c cc nL own Ts) (hP : va_P (gD g) vwCl (wlG g M) H) {k t n b : Nat} (ok : okR g k t n b) (ht : t = 3 ∨ t = 4) (hdg : decode cc pc = .ok (.arraylength, 1))
    (kk : W p l e R s m args below meth c H locs cells slots Q (F0 m (pc + 1) ls (.int (Int32.ofNat n) :: rest))) : W p l e R s m args below meth c H locs cells slots Q (F0 m pc ls (.ref (ga g k) :: rest)) := by
  obtain ⟨⟨hx, hb, -, hown, hts⟩, ⟨-, hK, -⟩, hA⟩ := X
  obtain ⟨q, hi⟩ := wl_get ok.1
  have hi := hi M
  rw [enc_ref ok.2] at hi
  rcases ht with rfl | rfl
  · exact va_alen hx hb hK hP q 3 hi rfl rfl hdg kk
  · exact va_alen hx hb hK hP q 4 hi rfl rfl hdg kk
theorem x_gets (X : CxG g p s m args c cc nL own Ts) (hS : va_S (AbG g) s.heap H locs) (i : Nat) (hi : i < 5) {index : Nat} (hlink : Cond.fieldLink own index (stC i).1 (stC i).2 "[I" ∈ Ts) (hdg : decode cc pc = .ok (.getstatic index, 3))
    (kk : W p l e R s m args below meth c H locs cells slots Q (F0 m (pc + 3) ls (.ref (gs g i) :: rest))) : W p l e R s m args below meth c H locs cells slots Q (F0 m pc ls rest) := by
  obtain ⟨⟨hx, hb, -, hown, hts⟩, ⟨-, -, hT, -⟩, hA⟩ := X
  exact va_gets hx hb (hT i hi).1 hS hown (hts _ hlink) (fun _ h => h) hdg kk
theorem x_stld (X : CxG g p s m args c cc nL own Ts) (hS : va_S (AbG g) s.heap H locs) {i : Nat} (hi : i < 5) {j : Int32} (hin : inb j (stN i) = true) (hdg : decode cc pc = .ok (.iaload, 1))
    (kk : W p l e R s m args below meth c H locs cells slots Q (F0 m (pc + 1) ls (.int (stV i (ix j)) :: rest))) : W p l e R s m args below meth c H locs cells slots Q (F0 m pc ls (.int j :: .ref (gs g i) :: rest)) := by
  obtain ⟨⟨hx, hb, -, hown, hts⟩, ⟨-, -, hT, -⟩, hA⟩ := X
  exact va_ti hx hb (hT i hi).2 hS (inb_vp hin) rfl hdg kk
theorem x_stlen (X : CxG g p s m args c cc nL own Ts) (hS : va_S (AbG g) s.heap H locs) {i : Nat} (hi : i < 5) (hdg : decode cc pc = .ok (.arraylength, 1))
    (kk : W p l e R s m args below meth c H locs cells slots Q (F0 m (pc + 1) ls (.int (Int32.ofNat (stN i)) :: rest))) : W p l e R s m args below meth c H locs cells slots Q (F0 m pc ls (.ref (gs g i) :: rest)) := by
  obtain ⟨⟨hx, hb, -, hown, hts⟩, ⟨-, -, hT, -⟩, hA⟩ := X
  exact va_tlen hx hb (hT i hi).2 hS rfl hdg kk
theorem x_recv (X : CxG g p s m args c cc nL own Ts) (hP : va_P (gD g) vwCl (wlG g M) H) {k ci N : Nat} {fl : List (Option Nat)} {C : String} {T : u_T} (ok : okO g k ci fl) (hc : vwCl[ci]? = some (C, T, N)) : ∃ cell : Cell, H[ga g k]? = some cell ∧ cell.vm.isStatics = false ∧ s.vm.findClass C = some cell.cls := by
  obtain ⟨⟨hx, hb, -, hown, hts⟩, ⟨-, hK, -⟩, hA⟩ := X
  obtain ⟨q, hi⟩ := wl_get ok.1
  have hi := hi M
  rw [enc_obj ok.2] at hi
  exact va_recv hK hP hc hi
theorem x_pre (X : CxG g p s m args c cc nL own Ts) (hP : va_P (gD g) vwCl (wlG g M) H) (hS : va_S (AbG g) s.heap H locs) (av : List Value) : ∀ U : State, U.heap = H → s.WarmedH U.vm → PcG g av M av.toArray U :=
  fun U hU hW => ⟨rfl, X.2.1.warm hW (by rw [hU]; exact hS), by rw [hU]; exact hP⟩
variable {y : MethodName} {ws : List Cond} {rm : Room} {As st0 : List Value} {b n index maxL : Nat} {bytes : ByteArray} {ret : Option FieldType} {C : String}
theorem x_runV {Qc : Array Value → State → Outcome → State → Prop} (X : CxG g p s m args c cc nL own Ts) (hP : va_P (gD g) vwCl (wlG g M) H) (hS : va_S (AbG g) s.heap H locs) (hM : Met l y ws rm (PcG g (.ref b :: As) M) Qc 0 0 (AbG g)) (cw : CallW R s args own C index y bytes maxL ret ws rm 0 0 n) (hr : ∃ cell : Cell, H[b]? = some cell ∧ cell.vm.isStatics = false ∧ s.vm.findClass C = some cell.cls) (hn : As.length = n) (hsz : ls.size = nL) (hst : st0 = As.reverse ++ .ref b :: rest) (hW : (rest.map fun v => v.category).sum ≤ 8) (hdg : decode cc pc = .ok (.invokevirtual index, 3)) (hcs : cells ≤ R.cells ∧ slots ≤ R.slots) : va_Run p l e R s m args below meth c H locs cells slots 0 0 (F0 m pc ls st0) rest (Qc (Value.ref b :: As).toArray) (AbG g) :=
  va_runV X.1 hM cw ⟨PcG.blind g _ M, hr, x_pre X hP hS _⟩ rfl hn hsz hst (lv_room hW) hdg hcs
theorem x_runS {Qc : Array Value → State → Outcome → State → Prop} (X : CxG g p s m args c cc nL own Ts) (hP : va_P (gD g) vwCl (wlG g M) H) (hS : va_S (AbG g) s.heap H locs) (hM : Met l y ws rm (PcG g As M) Qc 0 0 (AbG g)) (cw : CallB R s args own index y bytes maxL ret ws rm 0 0 n ∧ (Cond.static y).before args s = true) (hn : As.length = n) (hsz : ls.size = nL) (hst : st0 = As.reverse ++ rest) (hW : (rest.map fun v => v.category).sum ≤ 8) (hdg : decode cc pc = .ok (.invokestatic index, 3)) (hcs : cells ≤ R.cells ∧ slots ≤ R.slots) : va_Run p l e R s m args below meth c H locs cells slots 0 0 (F0 m pc ls st0) rest (Qc As.toArray) (AbG g) :=
  va_runS X.1 hM cw ⟨PcG.blind g _ M, x_pre X hP hS _⟩ rfl hn hsz hst (lv_room hW) hdg hcs
variable {aa : Array Value}
theorem x_calli {r : Int32} (hr : va_Run p l e R s m args below meth c H locs cells slots 0 0 (F0 m pc ls st0) rest (va_Qi (fun (q : Int32) (_ : Unit) => q = r) (fun _ t => va_P (gD g) vwCl (wlG g M') t.heap) (AbG g) aa) (AbG g)) (hS : va_S (AbG g) s.heap H locs)
    (kk : ∀ (H1 : Heap) (locs1 : List Loc), va_P (gD g) vwCl (wlG g M') H1 → va_S (AbG g) s.heap H1 locs1 → W p l e R s m args below meth c H1 locs1 cells slots Q (F0 m (pc + 3) ls (.int r :: rest))) : W p l e R s m args below meth c H locs cells slots Q (F0 m pc ls st0) := by
  refine va_calli hr hS (fun q _ h => h) (fun q h => h) (fun r2 u t H1 locs1 ht _ hr2 hB _ _ hS1 => ?_)
  subst hr2
  exact kk H1 locs1 (by rw [← ht]; exact hB) hS1
theorem x_calll {r : Int64} (hr : va_Run p l e R s m args below meth c H locs cells slots 0 0 (F0 m pc ls st0) rest (va_Ql (fun (q : Int64) (_ : Unit) => q = r) (fun _ t => va_P (gD g) vwCl (wlG g M') t.heap) (AbG g) aa) (AbG g)) (hS : va_S (AbG g) s.heap H locs)
    (kk : ∀ (H1 : Heap) (locs1 : List Loc), va_P (gD g) vwCl (wlG g M') H1 → va_S (AbG g) s.heap H1 locs1 → W p l e R s m args below meth c H1 locs1 cells slots Q (F0 m (pc + 3) ls (.long r :: rest))) : W p l e R s m args below meth c H locs cells slots Q (F0 m pc ls st0) := by
  refine va_calll hr hS (fun q _ h => h) (fun q h => h) (fun r2 u t H1 locs1 ht _ hr2 hB _ _ hS1 => ?_)
  subst hr2
  exact kk H1 locs1 (by rw [← ht]; exact hB) hS1
theorem x_callv (hr : va_Run p l e R s m args below meth c H locs cells slots 0 0 (F0 m pc ls st0) rest (va_Qv (fun (_ : Unit) => True) (fun _ t => va_P (gD g) vwCl (wlG g M') t.heap) (AbG g) aa) (AbG g)) (hS : va_S (AbG g) s.heap H locs)
    (kk : ∀ (H1 : Heap) (locs1 : List Loc), va_P (gD g) vwCl (wlG g M') H1 → va_S (AbG g) s.heap H1 locs1 → W p l e R s m args below meth c H1 locs1 cells slots Q (F0 m (pc + 3) ls rest)) : W p l e R s m args below meth c H locs cells slots Q (F0 m pc ls st0) := by
  refine va_callv hr hS (fun q _ h => h) (fun q h => h) (fun u t H1 locs1 ht _ _ hB _ _ hS1 => ?_)
  exact kk H1 locs1 (by rw [← ht]; exact hB) hS1
/-- the ends of a method -/
theorem x_iret (X : CxG g p s m args c cc nL own Ts) {r : Int32} (hP : va_P (gD g) vwCl (wlG g M) H) (hS : va_S (AbG g) s.heap H locs) (hr : meth.sig.returnType = some .int) (hlocks : meth.locks = false) (hdg : decode cc pc = .ok (.ireturn, 1)) : W p l e R s m args below meth c H locs cells slots (MQ below (va_Qi (fun (q : Int32) (_ : Unit) => q = r) (fun _ t => va_P (gD g) vwCl (wlG g M) t.heap) (AbG g)) args s cells slots (AbG g)) (F0 m pc ls [.int r]) :=
  W.iret X.1.1 X.1.2.1 hr (fun t ht hW => ⟨⟨r, (), rfl, rfl, by show va_P (gD g) vwCl (wlG g M) t.heap; rw [ht]; exact hP⟩, hS.F ht⟩) hS.2.2 hdg hlocks
theorem x_zret (X : CxG g p s m args c cc nL own Ts) {r : Int32} (hz : r = 0 ∨ r = 1) (hP : va_P (gD g) vwCl (wlG g M) H) (hS : va_S (AbG g) s.heap H locs) (hr : meth.sig.returnType = some .boolean) (hlocks : meth.locks = false) (hdg : decode cc pc = .ok (.ireturn, 1)) : W p l e R s m args below meth c H locs cells slots (MQ below (va_Qi (fun (q : Int32) (_ : Unit) => q = r) (fun _ t => va_P (gD g) vwCl (wlG g M) t.heap) (AbG g)) args s cells slots (AbG g)) (F0 m pc ls [.int r]) :=
  W.zret X.1.1 X.1.2.1 hr (by rcases hz with rfl | rfl <;> rfl) (fun t ht hW => ⟨⟨r, (), rfl, rfl, by show va_P (gD g) vwCl (wlG g M) t.heap; rw [ht]; exact hP⟩, hS.F ht⟩) hS.2.2 hdg hlocks
theorem x_lret (X : CxG g p s m args c cc nL own Ts) {r : Int64} (hP : va_P (gD g) vwCl (wlG g M) H) (hS : va_S (AbG g) s.heap H locs) (hr : meth.sig.returnType = some .long) (hlocks : meth.locks = false) (hdg : decode cc pc = .ok (.lreturn, 1)) : W p l e R s m args below meth c H locs cells slots (MQ below (va_Ql (fun (q : Int64) (_ : Unit) => q = r) (fun _ t => va_P (gD g) vwCl (wlG g M) t.heap) (AbG g)) args s cells slots (AbG g)) (F0 m pc ls [.long r]) :=
  W.lret X.1.1 X.1.2.1 hr (fun t ht hW => ⟨⟨r, (), rfl, rfl, by show va_P (gD g) vwCl (wlG g M) t.heap; rw [ht]; exact hP⟩, hS.F ht⟩) hS.2.2 hdg hlocks
theorem x_vret (X : CxG g p s m args c cc nL own Ts) (hP : va_P (gD g) vwCl (wlG g M) H) (hS : va_S (AbG g) s.heap H locs) (hr : meth.sig.returnType = none) (hlocks : meth.locks = false) (hdg : decode cc pc = .ok (.return_, 1)) : W p l e R s m args below meth c H locs cells slots (MQ below (va_Qv (fun (_ : Unit) => True) (fun _ t => va_P (gD g) vwCl (wlG g M) t.heap) (AbG g)) args s cells slots (AbG g)) (F0 m pc ls []) :=
  W.vret X.1.1 X.1.2.1 hr (fun t ht hW => ⟨⟨(), rfl, trivial, by show va_P (gD g) vwCl (wlG g M) t.heap; rw [ht]; exact hP⟩, hS.F ht⟩) hS.2.2 hdg hlocks
end ROWS
