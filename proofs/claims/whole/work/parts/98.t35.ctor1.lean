/-! ===== rows over cells in the order of their making ===== -/
section CROWS
variable {p : Program} {l : Launch} {e : Env} {R : Room} {s : State} {m : MethodId} {args : Array Value} {below : List Frame} {meth : Method} {c : Code} {H : Heap} {locs : List Loc} {cells slots : Nat} {Q : State → Prop}
variable {cc : ByteArray} {pc nL : Nat} {ls : Array Slot} {rest : List Value} {g : GT} {own : String} {Ts : List Cond} {f f' : Nat → va_E} {n n' : Nat} {G : JFrame}
theorem k_size (kk : H.size ≤ s.heap.size + cells → W p l e R s m args below meth c H locs cells slots Q G) : W p l e R s m args below meth c H locs cells slots Q G := by
  intro T hT X
  exact kk (by rw [← hT]; exact X.heapSize) T hT X
theorem k_newa (X : CxG g p s m args c cc nL own Ts) (hP : va_P (gD g) vwCl (cwl (gb g) f n) H) (hS : va_S (AbG g) s.heap H locs) (hz : s.heap.size + cells = gb g + n) {atype : ArrayType} {t N : Nat} {ty : FieldType} (hty : newarray.typeOf atype = ty) (htt : (tyG g)[t]? = some (gc g t, ty)) {nn : Int32} (ha : ∀ cA : ClassId, vp_cell cA (zA t N) = arrV cA N (fun _ => defaultValue ty)) (hn : ¬ nn < 0) (hN : nn.toNatClampNeg = N) (hbytes : N * componentBytes ty ≤ 536870912) (harr : Cond.arrayClass (newarray.typeOf atype) ∈ Ts) (hcells : cells + 1 ≤ R.cells) (hslots : slots + N ≤ R.slots) (hdg : decode cc pc = .ok (.newarray atype, 2))
    (kk : ∀ H1 : Heap, va_P (gD g) vwCl (cwl (gb g) (fu1 f n (.inl (gc g t, zA t N))) (n + 1)) H1 → va_S (AbG g) s.heap H1 locs → W p l e R s m args below meth c H1 locs (cells + 1) (slots + N) Q (F0 m (pc + 2) ls (.ref (gb g + n) :: rest))) : W p l e R s m args below meth c H locs cells slots Q (F0 m pc ls (.int nn :: rest)) := by
  obtain ⟨⟨hx, hb, -, hown, hts⟩, ⟨hg, hK, -⟩, hA⟩ := X
  refine va_newa (a0 := zA t N) hx hb (hts _ harr) hty hK hP cwl_D hS (fun q hq => Nat.le_trans hg hq) ha hn hN hbytes hcells hslots hdg (fun q cA H1 hK1 hP1 hD1 hS1 => ?_)
  refine k_size (fun hsz => ?_)
  have e1 : cA = gc g t := ra_one (hK1.2 5 (cA, ty) rfl).2 (hK.2 t _ htt).2
  have e2 : gb g ≤ q := by
    have := hD1.2 n (q, _) (by rw [List.getElem?_append_right (by rw [cwl_len]; exact Nat.le_refl _), cwl_len, Nat.sub_self]; rfl)
    exact this
  have e3 : q = gb g + n := k_addr hP1 hD1 e2 (by omega)
  subst e1
  subst e3
  rw [cwl_push] at hP1
  exact kk H1 hP1 hS1
theorem k_new (X : CxG g p s m args c cc nL own Ts) (hP : va_P (gD g) vwCl (cwl (gb g) f n) H) (hS : va_S (AbG g) s.heap H locs) (hz : s.heap.size + cells = gb g + n) {C : String} {T : u_T} {N ci index : Nat} (hin : ∀ w ∈ u_ws C T N, w ∈ Ts) {ty : Nat → FieldType} (hty : ∀ k, k < N → parseFieldDescriptor (T k).2.2.1 = some (ty k)) (hcl : Cond.classLink own index C ∈ Ts) (hinst : Cond.instantiable C N ∈ Ts) (hini : Cond.initialized C ∈ Ts) (hc : vwCl[ci]? = some (C, T, N)) {fs : List Value} (hfs : ∀ j, j < N → defaultValue (ty j) = vp_V fs j) (hcells : cells + 1 ≤ R.cells) (hslots : slots + N ≤ R.slots) (hdg : decode cc pc = .ok (.new index, 3))
    (kk : ∀ H1 : Heap, va_P (gD g) vwCl (cwl (gb g) (fu1 f n (.inr (ci, fs))) (n + 1)) H1 → va_S (AbG g) s.heap H1 locs → W p l e R s m args below meth c H1 locs (cells + 1) (slots + N) Q (F0 m (pc + 3) ls (.ref (gb g + n) :: rest))) : W p l e R s m args below meth c H locs cells slots Q (F0 m pc ls rest) := by
  obtain ⟨⟨hx, hb, -, hown, hts⟩, ⟨hg, hK, -⟩, hA⟩ := X
  refine va_new (fs := fs) hx hb hts hin ty hty hown (hts _ hcl) (hts _ hinst) (hts _ hini) hK hP cwl_D hS (fun q hq => Nat.le_trans hg hq) hc hfs hcells hslots hdg (fun q H1 hP1 hD1 hS1 => ?_)
  refine k_size (fun hsz => ?_)
  have e2 : gb g ≤ q := by
    have := hD1.2 n (q, _) (by rw [List.getElem?_append_right (by rw [cwl_len]; exact Nat.le_refl _), cwl_len, Nat.sub_self]; rfl)
    exact this
  have e3 : q = gb g + n := k_addr hP1 hD1 e2 (by omega)
  subst e3
  rw [cwl_push] at hP1
  exact kk H1 hP1 hS1
theorem k_newq (X : CxG g p s m args c cc nL own Ts) (hP : va_P (gD g) vwCl (cwl (gb g) f n) H) (hS : va_S (AbG g) s.heap H locs) (hz : s.heap.size + cells = gb g + n) {C : String} {index t N : Nat} (hcl : Cond.classLink own index C ∈ Ts) (hover : va_AO C s) (htt : (tyG g)[t]? = some (gc g t, .object C)) {nn : Int32} (hn : ¬ nn < 0) (hN : nn.toNatClampNeg = N) (hbytes : N * 4 ≤ 536870912) (hcells : cells + 1 ≤ R.cells) (hslots : slots + N ≤ R.slots) (hdg : decode cc pc = .ok (.anewarray index, 3))
    (kk : ∀ H1 : Heap, va_P (gD g) vwCl (cwl (gb g) (fu1 f n (.inl (gc g t, N, .inr (.inr (.inr (.inr (fun _ => none))))))) (n + 1)) H1 → va_S (AbG g) s.heap H1 locs → W p l e R s m args below meth c H1 locs (cells + 1) (slots + N) Q (F0 m (pc + 3) ls (.ref (gb g + n) :: rest))) : W p l e R s m args below meth c H locs cells slots Q (F0 m pc ls (.int nn :: rest)) := by
  obtain ⟨⟨hx, hb, -, hown, hts⟩, ⟨hg, hK, -⟩, hA⟩ := X
  refine va_newq hx hb hown (hts _ hcl) hover hK hP cwl_D hS (fun q hq => Nat.le_trans hg hq) hn hN hbytes hcells hslots hdg (fun q cA H1 hK1 hP1 hD1 hS1 => ?_)
  refine k_size (fun hsz => ?_)
  have e1 : cA = gc g t := ra_one (hK1.2 5 (cA, .object C) rfl).2 (hK.2 t _ htt).2
  have e2 : gb g ≤ q := by
    have := hD1.2 n (q, _) (by rw [List.getElem?_append_right (by rw [cwl_len]; exact Nat.le_refl _), cwl_len, Nat.sub_self]; rfl)
    exact this
  have e3 : q = gb g + n := k_addr hP1 hD1 e2 (by omega)
  subst e1
  subst e3
  rw [cwl_push] at hP1
  exact kk H1 hP1 hS1
/-- an array of int arrays: itself at the end, its rows behind it -/
theorem k_mna (X : CxG g p s m args c cc nL own Ts) (hP : va_P (gD g) vwCl (cwl (gb g) f n) H) (hS : va_S (AbG g) s.heap H locs) (hpos : 0 < n) (hz : s.heap.size + cells = gb g + n) {index : Nat} (hcl : Cond.classLink own index ("[" ++ (FieldType.array .int).toString) ∈ Ts) (hover : AOI s) (harr : Cond.arrayClass .int ∈ Ts) {nn k : Int32} {N K : Nat} {rr : Nat → Nat} (hrr : ∀ j, j < N → rr j = gb g + n + 1 + j) (hn : ¬ nn < 0) (hk : ¬ k < 0) (hN : nn.toNatClampNeg = N) (hKk : k.toNatClampNeg = K) (hb1 : N * 4 ≤ 536870912) (hb2 : K * componentBytes .int ≤ 536870912) (hb3 : K ≤ 536870912) (hcells : cells + (1 + N) ≤ R.cells) (hslots : slots + (N + N * K) ≤ R.slots) (hdg : decode cc pc = .ok (.multianewarray index 2, 4))
    (hf0 : ∀ i, i < n → f' i = f i) (hf1 : f' n = .inl (gc g 4, N, .inr (.inr (.inr (.inr (fun j => some (rr j))))))) (hf2 : ∀ j, j < N → f' (n + 1 + j) = .inl (gc g 0, zA 0 K))
    (kk : ∀ H1 : Heap, va_P (gD g) vwCl (cwl (gb g) f' (n + 1 + N)) H1 → va_S (AbG g) s.heap H1 locs → W p l e R s m args below meth c H1 locs (cells + 1 + N) (slots + N + N * K) Q (F0 m (pc + 4) ls (.ref (gb g + n) :: rest))) : W p l e R s m args below meth c H locs cells slots Q (F0 m pc ls (.int k :: .int nn :: rest)) := by
  obtain ⟨⟨hx, hb, -, hown, hts⟩, ⟨hg, hK, -⟩, hA⟩ := X
  subst hN
  subst hKk
  refine k_size (fun hsz => ?_)
  have hHs : H.size = gb g + n := Nat.le_antisymm (by omega) (cwl_low hP hpos)
  intro T hT Xs
  have hov : (Cond.arrayOver (.array .int)).before args s = true := hover
  obtain ⟨vm₁, cA, comp, -, fA, fC, hO, -, X', step⟩ := Jvm.Stand.multianewarray2F Xs hx hown (hts _ hcl) hov (hts _ harr) (g := F0 m pc ls (.int k :: .int nn :: rest)) rfl (by rw [hb]; exact hdg) rfl hn hk hb1 hb2 hb3 (by decide) (by decide) hcells hslots
  have ec : comp = gc g 0 := Option.some.inj (fC.symm.trans (hK.2 0 _ rfl).2)
  have eA : cA = gc g 4 := Option.some.inj (fA.symm.trans (hK.2 4 _ rfl).2)
  subst ec
  subst eA
  generalize hF : Jvm.Free.Multi.fill (T.setVm vm₁) (gc g 4) (gc g 0) nn.toNatClampNeg k.toNatClampNeg (defaultValue .int) nn.toNatClampNeg = F at X' step
  have hTh : (T.setVm vm₁).heap = H := hT
  obtain ⟨f1, f2, -, -⟩ := Jvm.Free.Multi.fill_facts (T.setVm vm₁) (gc g 4) (gc g 0) nn.toNatClampNeg k.toNatClampNeg (defaultValue .int) nn.toNatClampNeg
  rw [hF, hTh] at f1 f2
  have hold : ∀ x : Nat, x < H.size → F.heap[x]? = H[x]? := fun x hx => by
    have := Jvm.Free.Multi.fill_old (T.setVm vm₁) (gc g 4) (gc g 0) nn.toNatClampNeg k.toNatClampNeg (defaultValue .int) (a := x) (by rw [hTh]; exact hx) nn.toNatClampNeg
    rw [hF, hTh] at this
    exact this
  have hrow : ∀ j : Nat, j < nn.toNatClampNeg → F.heap[H.size + 1 + j]? = some (vp_cell (gc g 0) (zA 0 k.toNatClampNeg)) := fun j hj => by
    have := Jvm.Free.Multi.fill_inner (T.setVm vm₁) (gc g 4) (gc g 0) nn.toNatClampNeg k.toNatClampNeg (defaultValue .int) nn.toNatClampNeg j hj
    rw [hF, hTh] at this
    rw [this]
    show some ({ cls := gc g 0, slots := Array.replicate k.toNatClampNeg (defaultValue .int), vm := .none } : Cell) = some (arrV (gc g 0) k.toNatClampNeg (fun _ => .int 0))
    rw [arrV_new]
    rfl
  have hout : F.heap[H.size]? = some (vp_cell (gc g 4) (nn.toNatClampNeg, .inr (.inr (.inr (.inr (fun j => some (rr j))))))) := by
    rw [f2, vr_outer, vp_cell_q]
    refine congrArg some ?_
    unfold arrV
    congr 1
    apply Array.ext
    · simp
    · intro i h1 h2
      have hi : i < nn.toNatClampNeg := by simpa using h1
      simp [va_rf, hi, hrr i hi, hHs]
  have hP1 : va_P (gD g) vwCl (cwl (gb g) f' (n + 1 + nn.toNatClampNeg)) F.heap := by
    intro i q hq
    have hi : i < n + 1 + nn.toNatClampNeg := by have := (List.getElem?_eq_some_iff.mp hq).1; rwa [cwl_len] at this
    rw [cwl_get hi] at hq
    cases hq
    by_cases h1 : i < n
    · have h2 := hP i _ (cwl_get h1)
      rw [hf0 i h1]
      exact h2.kept (hold _ (by omega))
    · by_cases h2 : i = n
      · subst h2
        rw [hf1]
        show F.heap[gb g + i]? = _
        rw [← hHs]
        exact hout
      · obtain ⟨j, rfl⟩ : ∃ j, i = n + 1 + j := ⟨i - n - 1, by omega⟩
        rw [hf2 j (by omega)]
        show F.heap[gb g + (n + 1 + j)]? = _
        rw [show gb g + (n + 1 + j) = H.size + 1 + j by omega]
        exact hrow j (by omega)
  obtain ⟨t, a1, b1⟩ := kk F.heap hP1 ⟨by rw [f1]; have := hS.1; omega, fun x h1 h2 => (hold x (Nat.lt_of_lt_of_le h1 hS.1)).trans (hS.2.1 x h1 h2), hS.2.2⟩ F rfl X'
  refine ⟨t, step t ?_, b1⟩
  have e : T.heap.size = gb g + n := by rw [hT]; exact hHs
  rw [e]
  exact a1
theorem k_put (X : CxG g p s m args c cc nL own Ts) (hP : va_P (gD g) vwCl (cwl (gb g) f n) H) (hS : va_S (AbG g) s.heap H locs) {i ci j N index : Nat} {C : String} {T : u_T} {fs : List Value} {v : Value} (hi : i < n) (hfi : f i = .inr (ci, fs)) (hc : vwCl[ci]? = some (C, T, N)) (hin : ∀ w ∈ u_ws C T N, w ∈ Ts) {ty : Nat → FieldType} (hty : ∀ k, k < N → parseFieldDescriptor (T k).2.2.1 = some (ty k)) (hnm : ∀ a, a < N → ∀ b, b < N → a ≠ b → (T a).2.1 ≠ (T b).2.1) (hj : j < N) (hlink : Cond.fieldLink own index (T j).1 (T j).2.1 (T j).2.2.1 ∈ Ts) (hname : meth.name = "<init>") (hdecl : (T j).1 = own) (hn : narrow (ty j) v = v) (hfit : fits (ty j) v = true) (hl : j < fs.length) (hdg : decode cc pc = .ok (.putfield index, 3))
    (kk : ∀ (H1 : Heap) (locs1 : List Loc), va_P (gD g) vwCl (cwl (gb g) (fu1 f i (.inr (ci, fs.set j v))) n) H1 → va_S (AbG g) s.heap H1 locs1 → W p l e R s m args below meth c H1 locs1 cells slots Q (F0 m (pc + 3) ls rest)) : W p l e R s m args below meth c H locs cells slots Q (F0 m pc ls (v :: .ref (gb g + i) :: rest)) := by
  obtain ⟨⟨hx, hb, -, hown, hts⟩, ⟨-, hK, -⟩, hA⟩ := X
  have he : (cwl (gb g) f n)[i]? = some (gb g + i, .inr (ci, fs)) := by rw [cwl_get hi, hfi]
  cases hfin : (T j).2.2.2 with
  | true =>
    refine va_putF hx hb hts hin ty hty hnm hown hK hP cwl_D hS i he hc j hj (hts _ hlink) (fun _ h => h) hfin hname hdecl (hty j hj) hn hfit hl hdg (fun H1 locs1 hP1 hD1 hS1 => ?_)
    rw [cwl_set hi] at hP1
    exact kk H1 locs1 hP1 hS1
  | false =>
    refine va_put hx hb hts hin ty hty hnm hown hK hP cwl_D hS i he hc j hj (hts _ hlink) (fun _ h => h) hfin (hty j hj) hn hfit hl hdg (fun H1 locs1 hP1 hD1 hS1 => ?_)
    rw [cwl_set hi] at hP1
    exact kk H1 locs1 hP1 hS1
theorem k_get (X : CxG g p s m args c cc nL own Ts) (hP : va_P (gD g) vwCl (cwl (gb g) f n) H) {i ci j N index : Nat} {C : String} {T : u_T} {fs : List Value} {v : Value} (hi : i < n) (hfi : f i = .inr (ci, fs)) (hc : vwCl[ci]? = some (C, T, N)) (hin : ∀ w ∈ u_ws C T N, w ∈ Ts) (hj : j < N) (hlink : Cond.fieldLink own index (T j).1 (T j).2.1 (T j).2.2.1 ∈ Ts) (hv : fs[j]? = some v) (hdg : decode cc pc = .ok (.getfield index, 3))
    (kk : W p l e R s m args below meth c H locs cells slots Q (F0 m (pc + 3) ls (v :: rest))) : W p l e R s m args below meth c H locs cells slots Q (F0 m pc ls (.ref (gb g + i) :: rest)) := by
  obtain ⟨⟨hx, hb, -, hown, hts⟩, ⟨-, hK, -⟩, hA⟩ := X
  have he : (cwl (gb g) f n)[i]? = some (gb g + i, .inr (ci, fs)) := by rw [cwl_get hi, hfi]
  exact va_get hx hb hts hin hown hK hP i he hc j hj (hts _ hlink) (fun _ h => h) hv hdg kk
theorem k_iast (X : CxG g p s m args c cc nL own Ts) (hP : va_P (gD g) vwCl (cwl (gb g) f n) H) (hS : va_S (AbG g) s.heap H locs) {i N : Nat} {h : Nat → Int32} {j x : Int32} (hi : i < n) (hfi : f i = .inl (gc g 0, N, .inl h)) (hin : inb j N = true) (hdg : decode cc pc = .ok (.iastore, 1))
    (kk : ∀ (H1 : Heap) (locs1 : List Loc), va_P (gD g) vwCl (cwl (gb g) (fu1 f i (.inl (gc g 0, N, .inl (upd h (ix j) x)))) n) H1 → va_S (AbG g) s.heap H1 locs1 → W p l e R s m args below meth c H1 locs1 cells slots Q (F0 m (pc + 1) ls rest)) : W p l e R s m args below meth c H locs cells slots Q (F0 m pc ls (.int x :: .int j :: .ref (gb g + i) :: rest)) := by
  obtain ⟨⟨hx, hb, -, hown, hts⟩, ⟨-, hK, -⟩, hA⟩ := X
  have he : (cwl (gb g) f n)[i]? = some (gb g + i, .inl (gc g 0, N, .inl h)) := by rw [cwl_get hi, hfi]
  refine va_iast hx hb hK hP cwl_D hS i 0 he rfl (inb_vp hin) hdg (fun H1 locs1 hP1 hD1 hS1 => ?_)
  rw [cwl_set hi] at hP1
  exact kk H1 locs1 hP1 hS1
theorem k_aast (X : CxG g p s m args c cc nL own Ts) (hP : va_P (gD g) vwCl (cwl (gb g) f n) H) (hS : va_S (AbG g) s.heap H locs) {i i2 N : Nat} {h : Nat → Option Nat} {fs : List Value} {j : Int32} (hi : i < n) (hi2 : i2 < n) (hfi : f i = .inl (gc g 3, N, .inr (.inr (.inr (.inr h))))) (hf2 : f i2 = .inr (2, fs)) (hin : inb j N = true) (hdg : decode cc pc = .ok (.aastore, 1))
    (kk : ∀ (H1 : Heap) (locs1 : List Loc), va_P (gD g) vwCl (cwl (gb g) (fu1 f i (.inl (gc g 3, N, .inr (.inr (.inr (.inr (va_up h (ix j) (some (gb g + i2))))))))) n) H1 → va_S (AbG g) s.heap H1 locs1 → W p l e R s m args below meth c H1 locs1 cells slots Q (F0 m (pc + 1) ls rest)) : W p l e R s m args below meth c H locs cells slots Q (F0 m pc ls (.ref (gb g + i2) :: .int j :: .ref (gb g + i) :: rest)) := by
  obtain ⟨⟨hx, hb, -, hown, hts⟩, ⟨-, hK, -⟩, hA⟩ := X
  have he : (cwl (gb g) f n)[i]? = some (gb g + i, .inl (gc g 3, N, .inr (.inr (.inr (.inr h))))) := by rw [cwl_get hi, hfi]
  have he2 : (cwl (gb g) f n)[i2]? = some (gb g + i2, .inr (2, fs)) := by rw [cwl_get hi2, hf2]
  refine va_astq (r := (RX2, TX2, 2)) hx hb hK hP cwl_D hS i 3 i2 2 he rfl he2 rfl (inb_vp hin) hdg (fun H1 locs1 hP1 hD1 hS1 => ?_)
  rw [cwl_set hi] at hP1
  exact kk H1 locs1 hP1 hS1
/-- a row of the class's own constants, copied into an array -/
theorem k_copy (X : CxG g p s m args c cc nL own Ts) (hP : va_P (gD g) vwCl (cwl (gb g) f n) H) (hS : va_S (AbG g) s.heap H locs) (hml : c.maxLocals = ls.size) {index : Nat} (hlink : Cond.methodLink own index arraycopyName ∈ Ts) (hnat : Cond.native arraycopyName ∈ Ts) (hstat : Cond.static arraycopyName ∈ Ts) (hini : Cond.initialized "java/lang/System" ∈ Ts) {t i N : Nat} {h : Nat → Int32} (ht : t < 5) (hi : i < n) (hfi : f i = .inl (gc g 0, N, .inl h)) {nn : Int32} (hn : ¬ nn < 0) (hl1 : ix nn ≤ stN t) (hl2 : ix nn ≤ N)
    (hframes : 1 ≤ R.frames) (hlocals : (rest.map fun v => v.category).sum + 18 ≤ R.locals) (hdg : decode cc pc = .ok (.invokestatic index, 3))
    (kk : ∀ (H1 : Heap) (locs1 : List Loc), va_P (gD g) vwCl (cwl (gb g) (fu1 f i (.inl (gc g 0, N, .inl (va_cpy (stV t) h 0 0 (ix nn))))) n) H1 → va_S (AbG g) s.heap H1 locs1 → W p l e R s m args below meth c H1 locs1 cells slots Q (F0 m (pc + 3) ls rest)) : W p l e R s m args below meth c H locs cells slots Q (F0 m pc ls (.int nn :: .int 0 :: .ref (gb g + i) :: .int 0 :: .ref (gs g t) :: rest)) := by
  obtain ⟨⟨hx, hb, -, hown, hts⟩, ⟨-, hK, hT, -⟩, hA⟩ := X
  obtain ⟨cell, t1, t2, t3, t4, t5, t6, t7⟩ := (hT t ht).2
  have he : (cwl (gb g) f n)[i]? = some (gb g + i, .inl (gc g 0, N, .inl h)) := by rw [cwl_get hi, hfi]
  have hb0 : gs g t < s.heap.size := (Array.getElem?_eq_some_iff.mp t1).1
  have nn0 : nn.toInt = (ix nn : Int) := by
    have hz0 : (0 : Int) ≤ nn.toInt := by
      have := Int32.not_lt.mp hn
      simpa using Int32.le_iff_toInt_le.mp this
    show nn.toInt = ((nn.toInt.toNat : Nat) : Int)
    omega
  intro T hT Xs
  have hc0 : H[gs g t]? = some cell := by rw [hS.2.1 (gs g t) hb0 t7]; exact t1
  have hc1 : H[gb g + i]? = some (vp_cell (gc g 0) (N, .inl h)) := hP i _ he
  obtain ⟨hs6, k0, hk0, cm0, hkk0⟩ := t2
  obtain ⟨-, k1, hk1, cm1, hkk1⟩ := (hK.2 0 _ rfl).1 N (fun j => .int (h j))
  obtain ⟨vm', X', step⟩ := Xs.arraycopy hx hown (hts _ hlink) (hts _ hnat) (hts _ hstat) (hts _ hini) (src := gs g t) (dst := gb g + i) (cs := cell) (cd := vp_cell (gc g 0) (N, .inl h)) (srcPos := 0) (destPos := 0) (n := nn) (by rw [hT]; exact hc0) (by rw [hT]; exact hc1)
    hs6 (fun _ q => by cases q) t3 (fun q => by cases q) hk0 hk1 hkk0 hkk1 (by simp [refKind]) (by decide) (by decide) hn
    (by rw [nn0, show (0 : Int32).toInt = 0 from rfl]; omega)
    (by rw [nn0, show (0 : Int32).toInt = 0 from rfl]; show ¬ _ > ((arrV (gc g 0) N (fun j => .int (h j))).slots.size : Int); rw [arrV_size]; omega)
    (fun vm₁ _ j hj => by
      have hj2 : j < stN t := Nat.lt_of_lt_of_le hj hl1
      have e : cell.slots.getD ((0 : Int32).toNatClampNeg + j) .null = .int (stV t j) := by
        rw [Array.getD_eq_getD_getElem?, show (0 : Int32).toNatClampNeg + j = j from Nat.zero_add j, t6 _ hj2]
        rfl
      refine ⟨?_, ?_⟩
      · rw [e]
        rfl
      · rw [e]
        exact trivial)
    (g := F0 m pc ls (.int nn :: .int 0 :: .ref (gb g + i) :: .int 0 :: .ref (gs g t) :: rest)) rfl (by rw [hml]) (rest := rest) rfl (by rw [hb]; exact hdg) hframes (by
      have : nativeFrameWords "java/lang/System" "arraycopy" 5 + 11 = 18 := by decide +kernel
      show 2 * 0 + _ + _ ≤ _
      omega)
  have e1 : copied cell (vp_cell (gc g 0) (N, .inl h)) 0 0 nn = vp_cell (gc g 0) (N, .inl (va_cpy (stV t) h 0 0 (ix nn))) := va_copiedX (fun z => .int z) cell (gc g 0) (stV t) h t6 (show (0 : Int32).toNatClampNeg + ix nn ≤ stN t by rw [show (0 : Int32).toNatClampNeg = 0 from rfl]; omega)
  rw [e1] at X' step
  have hl : gb g + i < H.size := (Array.getElem?_eq_some_iff.mp hc1).1
  have hheap : ((T.setVm vm').setCell (gb g + i) (vp_cell (gc g 0) (N, .inl (va_cpy (stV t) h 0 0 (ix nn))))).heap = H.setIfInBounds (gb g + i) (vp_cell (gc g 0) (N, .inl (va_cpy (stV t) h 0 0 (ix nn)))) := by rw [← hT]; rfl
  have oq : ∀ q : Nat, q ≠ gb g + i → (H.setIfInBounds (gb g + i) (vp_cell (gc g 0) (N, .inl (va_cpy (stV t) h 0 0 (ix nn)))))[q]? = H[q]? := fun q hq => by simp [Array.getElem?_setIfInBounds, Ne.symm hq]
  have hP1 := hP.set (cwl_D (h := gb g)) he (show va_at (gD g) vwCl (gb g + i, .inl (gc g 0, N, .inl (va_cpy (stV t) h 0 0 (ix nn)))) (H.setIfInBounds (gb g + i) (vp_cell (gc g 0) (N, .inl (va_cpy (stV t) h 0 0 (ix nn))))) from by
    show (H.setIfInBounds (gb g + i) _)[gb g + i]? = some _
    simp [Array.getElem?_setIfInBounds, hl]) oq
  rw [cwl_set hi] at hP1
  obtain ⟨t9, a1, b1⟩ := kk _ _ hP1 ⟨by simp; exact hS.1, fun q g1 g2 => by
      rw [oq q (fun e => g2 (by rw [e]; exact Nat.le_add_right _ _))]
      exact hS.2.1 q g1 g2, fun q hq => by
      rcases List.mem_append.mp hq with h9 | h9
      · exact hS.2.2 q h9
      · obtain ⟨z, -, hz⟩ := List.mem_map.mp h9
        rw [← hz]
        exact Nat.le_add_right _ _⟩ _ hheap X'
  exact ⟨t9, step t9 a1, b1⟩
end CROWS
