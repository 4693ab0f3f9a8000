/-! ===== constructors: the order of the making of all 183 cells; a world half made ===== -/
def pmR (o : Nat) : Nat := if o < 3 then o else if o < 13 then o + 5 else if o = 13 then 36 else if o = 14 then 3 else if o < 25 then o + 3 else if o < 29 then o - 21 else if o % 2 = 1 then 28 + (o - 29) / 2 else 32 + (o - 30) / 2
def pmk (i : Nat) : Nat :=
  if i = 0 then 146 else if i < 38 then pmR (i - 1) else if i < 75 then 37 + pmR (i - 38) else if i < 112 then 74 + pmR (i - 75) else if i < 118 then i - 1 else if i < 124 then i
  else if i = 124 then 117 else if i < 136 then i - 1 else if i < 139 then i + 1 else if i = 139 then 135 else if i < 143 then i else if i = 143 then 136 else if i < 147 then i - 1 else i
theorem pmk_all : ((List.range 183).map pmk).all (fun k => decide (k < 183)) = true ∧ (List.range 183).all (fun k => decide (k ∈ (List.range 183).map pmk)) = true := by decide +kernel
/-- where every cell lies -/
def GG (g : GT) : Prop := gl g = (List.range 183).map pmk ∧ ∀ i, i < 183 → ga g (pmk i) = gb g + i
theorem GG.at {g : GT} (h : GG g) {i k : Nat} (hi : i < 183) (e : pmk i = k) : ga g k = gb g + i := by rw [← e]; exact h.2 i hi
theorem GG.wl {g : GT} (h : GG g) (M : Mem) : wlG g M = cwl (gb g) (fun i => encG g M (pmk i)) 183 := by
  unfold wlG cwl
  rw [h.1, List.map_map]
  apply List.map_congr_left
  intro i hi
  show (ga g (pmk i), encG g M (pmk i)) = (gb g + i, encG g M (pmk i))
  rw [h.2 i (List.mem_range.mp hi)]
theorem GG.ax {g : GT} (h : GG g) : AxG g := fun M => by rw [h.wl M]; exact cwl_D
theorem GG.all {g : GT} (h : GG g) : okAll g := fun k hk => by
  rw [h.1]
  have := List.all_eq_true.mp pmk_all.2 k (List.mem_range.mpr hk)
  simpa using this
/-- half made: before b what f says, at b the object that is made, at x a row that is filled, else what the memory says -/
def kW (g : GT) (M : Mem) (b : Nat) (f : Nat → va_E) (e0 : va_E) (x : Nat) (e1 : va_E) : Nat → va_E := fun i => if i < b then f i else if i = b then e0 else if i = x then e1 else encG g M (pmk i)
theorem kW_b {g : GT} {M : Mem} {b x : Nat} {f : Nat → va_E} {e0 e1 : va_E} : kW g M b f e0 x e1 b = e0 := by
  unfold kW
  rw [if_neg (Nat.lt_irrefl b), if_pos rfl]
theorem kW_x {g : GT} {M : Mem} {b x : Nat} {f : Nat → va_E} {e0 e1 : va_E} (h : b < x) : kW g M b f e0 x e1 x = e1 := by
  unfold kW
  rw [if_neg (by omega), if_neg (by omega), if_pos rfl]
theorem kW_n {g : GT} {M : Mem} {b x i : Nat} {f : Nat → va_E} {e0 e1 : va_E} (h : b < i) (hx : i ≠ x) : kW g M b f e0 x e1 i = encG g M (pmk i) := by
  unfold kW
  rw [if_neg (by omega), if_neg (by omega), if_neg hx]
section KROWS
variable {p : Program} {l : Launch} {e : Env} {R : Room} {s : State} {m : MethodId} {args : Array Value} {below : List Frame} {meth : Method} {c : Code} {H : Heap} {locs : List Loc} {cells slots : Nat} {Q : State → Prop}
variable {cc : ByteArray} {pc nL : Nat} {ls : Array Slot} {rest : List Value} {g : GT} {own : String} {Ts : List Cond} {f f' : Nat → va_E} {n n' b x i0 : Nat} {M M' : Mem} {e0 e1 e2 : va_E}
/-- a new row of zeros that stays one -/
theorem kc_newa (X : CxG g p s m args c cc nL own Ts) (hP : va_P (gD g) vwCl (cwl (gb g) (kW g M b f e0 x e1) n) H) (hS : va_S (AbG g) s.heap H locs) (hz : s.heap.size + cells = gb g + n) (hb : b < n) (hx : n ≠ x) {atype : ArrayType} {t N : Nat} {ty : FieldType} (hty : newarray.typeOf atype = ty) (htt : (tyG g)[t]? = some (gc g t, ty)) {nn : Int32} (ha : ∀ cA : ClassId, vp_cell cA (zA t N) = arrV cA N (fun _ => defaultValue ty)) (hen : encG g M (pmk n) = .inl (gc g t, zA t N)) (hn : ¬ nn < 0) (hN : nn.toNatClampNeg = N) (hbytes : N * componentBytes ty ≤ 536870912) (harr : Cond.arrayClass (newarray.typeOf atype) ∈ Ts) (hcells : cells + 1 ≤ R.cells) (hslots : slots + N ≤ R.slots) (hdg : decode cc pc = .ok (.newarray atype, 2))
    (kk : ∀ H1 : Heap, va_P (gD g) vwCl (cwl (gb g) (kW g M b f e0 x e1) (n + 1)) H1 → va_S (AbG g) s.heap H1 locs → W p l e R s m args below meth c H1 locs (cells + 1) (slots + N) Q (F0 m (pc + 2) ls (.ref (gb g + n) :: rest))) : W p l e R s m args below meth c H locs cells slots Q (F0 m pc ls (.int nn :: rest)) :=
  k_newa X hP hS hz hty htt ha hn hN hbytes harr hcells hslots hdg (fun H1 hP1 hS1 => kk H1 (cwl_re hP1 (fun i hi => by
    unfold fu1
    by_cases h : i = n
    · rw [if_pos h, h, kW_n hb hx, hen]
    · rw [if_neg h])) hS1)
/-- a new row of zeros that is to be filled -/
theorem kc_newS (X : CxG g p s m args c cc nL own Ts) (hP : va_P (gD g) vwCl (cwl (gb g) (kW g M b f e0 b e1) n) H) (hS : va_S (AbG g) s.heap H locs) (hz : s.heap.size + cells = gb g + n) (hb : b < n) {N : Nat} {nn : Int32} (hn : ¬ nn < 0) (hN : nn.toNatClampNeg = N) (hbytes : N * componentBytes .int ≤ 536870912) (harr : Cond.arrayClass .int ∈ Ts) (hcells : cells + 1 ≤ R.cells) (hslots : slots + N ≤ R.slots) (hdg : decode cc pc = .ok (.newarray .int, 2))
    (kk : ∀ H1 : Heap, va_P (gD g) vwCl (cwl (gb g) (kW g M b f e0 n (.inl (gc g 0, N, .inl (fun j => if j < 0 then rd M (pmk n) j else 0)))) (n + 1)) H1 → va_S (AbG g) s.heap H1 locs → W p l e R s m args below meth c H1 locs (cells + 1) (slots + N) Q (F0 m (pc + 2) ls (.ref (gb g + n) :: rest))) : W p l e R s m args below meth c H locs cells slots Q (F0 m pc ls (.int nn :: rest)) :=
  k_newa X hP hS hz (atype := .int) (ty := .int) (t := 0) rfl rfl (fun cA => rfl) hn hN hbytes harr hcells hslots hdg (fun H1 hP1 hS1 => kk H1 (cwl_re hP1 (fun i hi => by
    unfold fu1
    by_cases h : i = n
    · rw [if_pos h, h, kW_x hb]
      show Sum.inl (gc g 0, zA 0 N) = _
      congr 3
    · rw [if_neg h]
      unfold kW
      by_cases h1 : i < b
      · rw [if_pos h1, if_pos h1]
      · rw [if_neg h1, if_neg h1]
        by_cases h2 : i = b
        · rw [if_pos h2, if_pos h2]
        · rw [if_neg h2, if_neg h2, if_neg h2, if_neg h])) hS1)
/-- the next place of the row that is filled -/
theorem kc_iast (X : CxG g p s m args c cc nL own Ts) (hP : va_P (gD g) vwCl (cwl (gb g) (kW g M b f e0 x (.inl (gc g 0, n', .inl (fun j => if j < i0 then rd M (pmk x) j else 0)))) n) H) (hS : va_S (AbG g) s.heap H locs) {j v : Int32} (hb : b < x) (hx : x < n) (hj : ix j = i0) (hin : inb j n' = true) (hv : rd M (pmk x) i0 = v) (hdg : decode cc pc = .ok (.iastore, 1))
    (kk : ∀ (H1 : Heap) (locs1 : List Loc), va_P (gD g) vwCl (cwl (gb g) (kW g M b f e0 x (.inl (gc g 0, n', .inl (fun j => if j < i0 + 1 then rd M (pmk x) j else 0)))) n) H1 → va_S (AbG g) s.heap H1 locs1 → W p l e R s m args below meth c H1 locs1 cells slots Q (F0 m (pc + 1) ls rest)) : W p l e R s m args below meth c H locs cells slots Q (F0 m pc ls (.int v :: .int j :: .ref (gb g + x) :: rest)) :=
  k_iast X hP hS hx (kW_x hb) hin hdg (fun H1 locs1 hP1 hS1 => kk H1 locs1 (cwl_re hP1 (fun i hi => by
    unfold fu1
    by_cases h : i = x
    · rw [if_pos h, h, kW_x hb]
      congr 4
      funext a
      rw [hj]
      unfold upd
      by_cases h1 : a = i0
      · subst h1
        simp [hv]
      · by_cases h2 : a < i0
        · simp [h1, h2, Nat.lt_succ_of_lt h2]
        · simp [h1, h2, show ¬ a < i0 + 1 by omega]
    · rw [if_neg h]
      unfold kW
      by_cases h1 : i < b
      · rw [if_pos h1, if_pos h1]
      · rw [if_neg h1, if_neg h1]
        by_cases h2 : i = b
        · rw [if_pos h2, if_pos h2]
        · rw [if_neg h2, if_neg h2, if_neg h, if_neg h])) hS1)
/-- the row is full -/
theorem kc_full (hP : va_P (gD g) vwCl (cwl (gb g) (kW g M b f e0 x (.inl (gc g 0, n', .inl (fun j => if j < n' then rd M (pmk x) j else 0)))) n) H) (hb : b < x) (hsh : shp (pmk x) = shA 0 n') (hz : ∀ j, n' ≤ j → rd M (pmk x) j = 0) : va_P (gD g) vwCl (cwl (gb g) (kW g M b f e0 b e1) n) H :=
  cwl_re hP (fun i hi => by
    unfold kW
    by_cases h1 : i < b
    · rw [if_pos h1, if_pos h1]
    · rw [if_neg h1, if_neg h1]
      by_cases h2 : i = b
      · rw [if_pos h2, if_pos h2]
      · rw [if_neg h2, if_neg h2, if_neg h2]
        by_cases h : i = x
        · rw [if_pos h, h, enc_int hsh (by decide)]
          congr 4
          funext j
          by_cases hj : j < n'
          · rw [if_pos hj]
          · rw [if_neg hj, hz j (by omega)]
        · rw [if_neg h])
theorem kc_e1 {e9 : va_E} (hP : va_P (gD g) vwCl (cwl (gb g) (kW g M b f e0 b e1) n) H) : va_P (gD g) vwCl (cwl (gb g) (kW g M b f e0 b e9) n) H :=
  cwl_re hP (fun i hi => by
    unfold kW
    by_cases h1 : i < b
    · rw [if_pos h1, if_pos h1]
    · rw [if_neg h1, if_neg h1]
      by_cases h2 : i = b
      · rw [if_pos h2, if_pos h2]
      · rw [if_neg h2, if_neg h2, if_neg h2, if_neg h2])
/-- the next field of the object that is made -/
theorem kc_put (X : CxG g p s m args c cc nL own Ts) {k ci j N index : Nat} {C : String} {T : u_T} {fl : List (Option Nat)} {v : Value} (hP : va_P (gD g) vwCl (cwl (gb g) (kW g M b f (.inr (ci, stF g M k fl j)) x e1) n) H) (hS : va_S (AbG g) s.heap H locs) (hb : b < n) (hc : vwCl[ci]? = some (C, T, N)) (hin : ∀ w ∈ u_ws C T N, w ∈ Ts) {ty : Nat → FieldType} (hty : ∀ k, k < N → parseFieldDescriptor (T k).2.2.1 = some (ty k)) (hnm : ∀ a, a < N → ∀ b, b < N → a ≠ b → (T a).2.1 ≠ (T b).2.1) (hj : j < N) (hfl : j < fl.length) (hlink : Cond.fieldLink own index (T j).1 (T j).2.1 (T j).2.2.1 ∈ Ts) (hname : meth.name = "<init>") (hdecl : (T j).1 = own) (hv : v = fldV g M k j (fl.getD j none)) (hn : narrow (ty j) v = v) (hfit : fits (ty j) v = true) (hdg : decode cc pc = .ok (.putfield index, 3))
    (kk : ∀ (H1 : Heap) (locs1 : List Loc), va_P (gD g) vwCl (cwl (gb g) (kW g M b f (.inr (ci, stF g M k fl (j + 1))) x e1) n) H1 → va_S (AbG g) s.heap H1 locs1 → W p l e R s m args below meth c H1 locs1 cells slots Q (F0 m (pc + 3) ls rest)) : W p l e R s m args below meth c H locs cells slots Q (F0 m pc ls (v :: .ref (gb g + b) :: rest)) :=
  k_put X hP hS hb kW_b hc hin hty hnm hj hlink hname hdecl hn hfit (by rw [stF_len]; exact hfl) hdg (fun H1 locs1 hP1 hS1 => kk H1 locs1 (cwl_re hP1 (fun i hi => by
    unfold fu1
    by_cases h : i = b
    · rw [if_pos h, h, kW_b, stF_set hfl hv]
    · rw [if_neg h]
      unfold kW
      by_cases h1 : i < b
      · rw [if_pos h1, if_pos h1]
      · rw [if_neg h1, if_neg h1, if_neg h, if_neg h])) hS1)
/-- fields that stay as a new object has them -/
theorem kc_skip {k ci j : Nat} {fl : List (Option Nat)} (hP : va_P (gD g) vwCl (cwl (gb g) (kW g M b f (.inr (ci, stF g M k fl j)) x e1) n) H) (h : fldV g M k j (fl.getD j none) = df0 (fl.getD j none)) : va_P (gD g) vwCl (cwl (gb g) (kW g M b f (.inr (ci, stF g M k fl (j + 1))) x e1) n) H := by
  rw [stF_skip h] at hP
  exact hP
/-- a new array of rows -/
theorem kc_mna (X : CxG g p s m args c cc nL own Ts) (hP : va_P (gD g) vwCl (cwl (gb g) (kW g M b f e0 b e1) n) H) (hS : va_S (AbG g) s.heap H locs) (hb : b < n) (hz : s.heap.size + cells = gb g + n) {index : Nat} (hcl : Cond.classLink own index ("[" ++ (FieldType.array .int).toString) ∈ Ts) (hover : AOI s) (harr : Cond.arrayClass .int ∈ Ts) {nn k : Int32} {N K B : Nat} (hrr : ∀ j, j < N → ga g (B + j) = gb g + n + 1 + j) (hsh : shp (pmk n) = shR 4 N B) (hen : ∀ j, j < N → encG g M (pmk (n + 1 + j)) = .inl (gc g 0, zA 0 K)) (hn : ¬ nn < 0) (hk : ¬ k < 0) (hN : nn.toNatClampNeg = N) (hKk : k.toNatClampNeg = K) (hb1 : N * 4 ≤ 536870912) (hb2 : K * componentBytes .int ≤ 536870912) (hb3 : K ≤ 536870912) (hcells : cells + (1 + N) ≤ R.cells) (hslots : slots + (N + N * K) ≤ R.slots) (hdg : decode cc pc = .ok (.multianewarray index 2, 4))
    (kk : ∀ H1 : Heap, va_P (gD g) vwCl (cwl (gb g) (kW g M b f e0 b e1) (n + 1 + N)) H1 → va_S (AbG g) s.heap H1 locs → W p l e R s m args below meth c H1 locs (cells + 1 + N) (slots + N + N * K) Q (F0 m (pc + 4) ls (.ref (gb g + n) :: rest))) : W p l e R s m args below meth c H locs cells slots Q (F0 m pc ls (.int k :: .int nn :: rest)) :=
  k_mna X hP hS (by omega) hz hcl hover harr hrr hn hk hN hKk hb1 hb2 hb3 hcells hslots hdg (fun i hi => rfl) (by rw [kW_n hb (by omega), enc_ref hsh]) (fun j hj => by rw [kW_n (by omega) (by omega), hen j hj]) kk
/-- another constructor, on the object that lies last -/
theorem k_init {y : MethodName} {ws : List Cond} {rm : Room} {mc ms k index maxL : Nat} {bytes : ByteArray} (X : CxG g p s m args c cc nL own Ts) (hW0 : NwG s) (hP : va_P (gD g) vwCl (cwl (gb g) f n) H) (hS : va_S (AbG g) s.heap H locs) (hz : s.heap.size + cells = gb g + n) (hpos : 0 < n) (hM : CN l y ws rm g [.ref k] f n f' n' mc ms)
    (cw : CallB R s args own index y bytes maxL none ws rm mc ms 0 ∧ y.name = "<init>" ∧ (Cond.instanceMethod y).before args s = true) (hsz : ls.size = nL) (hW : (rest.map fun v => v.category).sum ≤ 8) (hdg : decode cc pc = .ok (.invokespecial index, 3)) (hcs : cells + mc ≤ R.cells ∧ slots + ms ≤ R.slots)
    (kk : ∀ (H1 : Heap) (locs1 : List Loc), va_P (gD g) vwCl (cwl (gb g) f' n') H1 → va_S (AbG g) s.heap H1 locs1 → W p l e R s m args below meth c H1 locs1 (cells + mc) (slots + ms) Q (F0 m (pc + 3) ls rest)) : W p l e R s m args below meth c H locs cells slots Q (F0 m pc ls (.ref k :: rest)) := by
  refine k_size (fun hsH => ?_)
  have hH : H.size = gb g + n := Nat.le_antisymm (by omega) (cwl_low hP hpos)
  refine va_callv (va_runI (As := []) (rest := rest) X.1 hM cw ⟨PcN.blind g _ f n, fun U hU hWU => ⟨rfl, X.2.1.warm hWU (by rw [hU]; exact hS), hW0.warm hWU, by rw [hU]; exact hH, by rw [hU]; exact hP⟩⟩ rfl rfl hsz rfl (lv_room hW) hdg hcs) hS (fun q _ h => h) (fun q h => h) (fun u t H1 locs1 ht _ _ hB _ _ hS1 => ?_)
  exact kk H1 locs1 (by rw [← ht]; exact hB) hS1
theorem k_initN {y : MethodName} {ws : List Cond} {rm : Room} {mc ms k index maxL : Nat} {bytes : ByteArray} {host : String} (X : CxG g p s m args c cc nL own Ts) (hW0 : NwG s) (hP : va_P (gD g) vwCl (cwl (gb g) f n) H) (hS : va_S (AbG g) s.heap H locs) (hz : s.heap.size + cells = gb g + n) (hpos : 0 < n) (hM : CN l y ws rm g [.ref k] f n f' n' mc ms)
    (cw : va_CN R s args own index y host bytes maxL none ws rm mc ms 0 ∧ y.name = "<init>" ∧ (Cond.instanceMethod y).before args s = true) (hsz : ls.size = nL) (hW : (rest.map fun v => v.category).sum ≤ 8) (hdg : decode cc pc = .ok (.invokespecial index, 3)) (hcs : cells + mc ≤ R.cells ∧ slots + ms ≤ R.slots)
    (kk : ∀ (H1 : Heap) (locs1 : List Loc), va_P (gD g) vwCl (cwl (gb g) f' n') H1 → va_S (AbG g) s.heap H1 locs1 → W p l e R s m args below meth c H1 locs1 (cells + mc) (slots + ms) Q (F0 m (pc + 3) ls rest)) : W p l e R s m args below meth c H locs cells slots Q (F0 m pc ls (.ref k :: rest)) := by
  refine k_size (fun hsH => ?_)
  have hH : H.size = gb g + n := Nat.le_antisymm (by omega) (cwl_low hP hpos)
  refine va_callv (va_runIN (As := []) (rest := rest) X.1 hM cw ⟨PcN.blind g _ f n, fun U hU hWU => ⟨rfl, X.2.1.warm hWU (by rw [hU]; exact hS), hW0.warm hWU, by rw [hU]; exact hH, by rw [hU]; exact hP⟩⟩ rfl rfl hsz rfl (lv_room hW) hdg hcs) hS (fun q _ h => h) (fun q h => h) (fun u t H1 locs1 ht _ _ hB _ _ hS1 => ?_)
  exact kk H1 locs1 (by rw [← ht]; exact hB) hS1
end KROWS
