/-! ===== small words of the mirrors ===== -/
def un0 {A : Type} (f : Option A) : Unit → Option A := fun _ => f
def un1 {A B : Type} (f : A → Option B) : A → Option B := f
def un2 {A B C : Type} (f : A → B → Option C) : A × B → Option C := fun q => f q.1 q.2
def un3 {A B C D : Type} (f : A → B → C → Option D) : A × B × C → Option D := fun q => f q.1 q.2.1 q.2.2
def un4 {A B C D E : Type} (f : A → B → C → D → Option E) : A × B × C × D → Option E := fun q => f q.1 q.2.1 q.2.2.1 q.2.2.2
def un5 {A B C D E F : Type} (f : A → B → C → D → E → Option F) : A × B × C × D × E → Option F := fun q => f q.1 q.2.1 q.2.2.1 q.2.2.2.1 q.2.2.2.2
def un6 {A B C D E F G : Type} (f : A → B → C → D → E → F → Option G) : A × B × C × D × E × F → Option G := fun q => f q.1 q.2.1 q.2.2.1 q.2.2.2.1 q.2.2.2.2.1 q.2.2.2.2.2
def un7 {A B C D E F G H : Type} (f : A → B → C → D → E → F → G → Option H) : A × B × C × D × E × F × G → Option H := fun q => f q.1 q.2.1 q.2.2.1 q.2.2.2.1 q.2.2.2.2.1 q.2.2.2.2.2.1 q.2.2.2.2.2.2
def unS {A B C : Type} (f : A → Option C) (h : B → Option C) : A ⊕ B → Option C := fun q => match q with
  | .inl a => f a
  | .inr b => h b
theorem un0_e {A : Type} {f : Option A} {u : Unit} {o : Option A} (h : un0 f u = o) : f = o := h
theorem un1_e {A B : Type} {f : A → Option B} {a : A} {o : Option B} (h : un1 f a = o) : f a = o := h
theorem un2_e {A B C : Type} {f : A → B → Option C} {a : A} {b : B} {o : Option C} (h : un2 f (a, b) = o) : f a b = o := h
theorem un3_e {A B C D : Type} {f : A → B → C → Option D} {a : A} {b : B} {c : C} {o : Option D} (h : un3 f (a, b, c) = o) : f a b c = o := h
theorem un4_e {A B C D E : Type} {f : A → B → C → D → Option E} {a : A} {b : B} {c : C} {d : D} {o : Option E} (h : un4 f (a, b, c, d) = o) : f a b c d = o := h
theorem un5_e {A B C D E F : Type} {f : A → B → C → D → E → Option F} {a : A} {b : B} {c : C} {d : D} {e : E} {o : Option F} (h : un5 f (a, b, c, d, e) = o) : f a b c d e = o := h
theorem un6_e {A B C D E F G : Type} {f : A → B → C → D → E → F → Option G} {a : A} {b : B} {c : C} {d : D} {e : E} {k : F} {o : Option G} (h : un6 f (a, b, c, d, e, k) = o) : f a b c d e k = o := h
theorem un7_e {A B C D E F G H : Type} {f : A → B → C → D → E → F → G → Option H} {a : A} {b : B} {c : C} {d : D} {e : E} {k : F} {j : G} {o : Option H} (h : un7 f (a, b, c, d, e, k, j) = o) : f a b c d e k j = o := h
theorem unS_l {A B C : Type} {f : A → Option C} {h : B → Option C} {a : A} {o : Option C} (e : unS f h (.inl a) = o) : f a = o := e
theorem unS_r {A B C : Type} {f : A → Option C} {h : B → Option C} {b : B} {o : Option C} (e : unS f h (.inr b) = o) : h b = o := e
theorem nz_of {x : Int32} (h : (!decide (x = 0)) = true) : ¬ x = 0 := by simpa using h
theorem nzl_of {x : Int64} (h : (!decide (x = 0)) = true) : ¬ x = 0 := by simpa using h
def isB (x : Int32) : Bool := decide (x = 0) || decide (x = 1)
theorem isB_or {x : Int32} (h : isB x = true) : x = 0 ∨ x = 1 := by simpa [isB] using h
theorem isB_nar {x : Int32} (h : isB x = true) : narrow .boolean (.int x) = .int x := by rcases isB_or h with rfl | rfl <;> rfl
theorem isB_vp {x : Int32} (h : isB x = true) : vp_nar .boolean x = x := by rcases isB_or h with rfl | rfl <;> rfl
abbrev ishl (x y : Int32) : Int32 := x <<< (y &&& 31)
abbrev ishr (x y : Int32) : Int32 := x >>> (y &&& 31)
abbrev irem (x y : Int32) : Int32 := x - x / y * y
abbrev lrem (x y : Int64) : Int64 := x - x / y * y
def ushr (x y : Int32) : Int32 := (x.toUInt32 >>> (y.toUInt32 &&& Int32.toUInt32 31)).toInt32
/-- a row copied into another -/
def cpM (M : Mem) (k1 : Nat) (sp : Int32) (k2 : Nat) (dp n : Int32) : Mem := (fun a b => if a = k2 ∧ ix dp ≤ b ∧ b < ix dp + ix n then M.1 k1 (ix sp + (b - ix dp)) else M.1 a b, M.2)
def cpML (M : Mem) (k1 : Nat) (sp : Int32) (k2 : Nat) (dp n : Int32) : Mem := (M.1, fun a b => if a = k2 ∧ ix dp ≤ b ∧ b < ix dp + ix n then M.2 k1 (ix sp + (b - ix dp)) else M.2 a b)
def cpOk (sp dp n : Int32) (n1 n2 : Nat) : Bool := !decide (sp < 0) && !decide (dp < 0) && !decide (n < 0) && decide (ix sp + ix n ≤ n1) && decide (ix dp + ix n ≤ n2)
section ROWS2
variable {p : Program} {l : Launch} {e : Env} {R : Room} {s : State} {m : MethodId} {args : Array Value} {below : List Frame} {meth : Method} {c : Code} {H : Heap} {locs : List Loc} {cells slots : Nat} {Q : State → Prop}
variable {cc : ByteArray} {pc nL : Nat} {ls : Array Slot} {rest : List Value} {g : GT} {own : String} {Ts : List Cond} {M M' : Mem}
theorem x_getI (X : CxG g p s m args c cc nL own Ts) (hP : va_P (gD g) vwCl (wlG g M) H) {k ci j N index : Nat} {fl : List (Option Nat)} {C : String} {T : u_T} (ok : okO g k ci fl) (hc : vwCl[ci]? = some (C, T, N)) (hin : ∀ w ∈ u_ws C T N, w ∈ Ts) (hj : j < N) (hf : fl[j]? = some none) (hlink : Cond.fieldLink own index (T j).1 (T j).2.1 (T j).2.2.1 ∈ Ts) (hdg : decode cc pc = .ok (.getfield index, 3))
    (kk : W p l e R s m args below meth c H locs cells slots Q (F0 m (pc + 3) ls (.int (rd M k j) :: rest))) : W p l e R s m args below meth c H locs cells slots Q (F0 m pc ls (.ref (ga g k) :: rest)) := x_get X hP ok hc hin hj hf hlink hdg kk
theorem x_getR (X : CxG g p s m args c cc nL own Ts) (hP : va_P (gD g) vwCl (wlG g M) H) {k ci j N index t : Nat} {fl : List (Option Nat)} {C : String} {T : u_T} (ok : okO g k ci fl) (hc : vwCl[ci]? = some (C, T, N)) (hin : ∀ w ∈ u_ws C T N, w ∈ Ts) (hj : j < N) (hf : fl[j]? = some (some t)) (hlink : Cond.fieldLink own index (T j).1 (T j).2.1 (T j).2.2.1 ∈ Ts) (hdg : decode cc pc = .ok (.getfield index, 3))
    (kk : W p l e R s m args below meth c H locs cells slots Q (F0 m (pc + 3) ls (.ref (ga g t) :: rest))) : W p l e R s m args below meth c H locs cells slots Q (F0 m pc ls (.ref (ga g k) :: rest)) := x_get X hP ok hc hin hj hf hlink hdg kk
theorem x_copyi (X : CxG g p s m args c cc nL own Ts) (hP : va_P (gD g) vwCl (wlG g M) H) (hS : va_S (AbG g) s.heap H locs) (hml : c.maxLocals = ls.size) {index : Nat} (hlink : Cond.methodLink own index arraycopyName ∈ Ts) (hnat : Cond.native arraycopyName ∈ Ts) (hstat : Cond.static arraycopyName ∈ Ts) (hini : Cond.initialized "java/lang/System" ∈ Ts) {k1 k2 n1 n2 : Nat} {sp dp n : Int32} (ok1 : okA g k1 0 n1) (ok2 : okA g k2 0 n2) (hc : cpOk sp dp n n1 n2 = true) (hM : M' = cpM M k1 sp k2 dp n)
    (hframes : 1 ≤ R.frames) (hlocals : (rest.map fun v => v.category).sum + 18 ≤ R.locals) (hdg : decode cc pc = .ok (.invokestatic index, 3))
    (kk : ∀ (H1 : Heap) (locs1 : List Loc), va_P (gD g) vwCl (wlG g M') H1 → va_S (AbG g) s.heap H1 locs1 → W p l e R s m args below meth c H1 locs1 cells slots Q (F0 m (pc + 3) ls rest)) : W p l e R s m args below meth c H locs cells slots Q (F0 m pc ls (.int n :: .int dp :: .ref (ga g k2) :: .int sp :: .ref (ga g k1) :: rest)) := by
  subst hM
  obtain ⟨⟨hx, hb, -, hown, hts⟩, ⟨-, hK, -⟩, hA⟩ := X
  obtain ⟨q1, hi1⟩ := wl_get ok1.1
  obtain ⟨q2, hi2⟩ := wl_get ok2.1
  have h1 := hi1 M
  have h2 := hi2 M
  rw [enc_int ok1.2 (by decide)] at h1
  rw [enc_int ok2.2 (by decide)] at h2
  simp only [cpOk, Bool.and_eq_true, Bool.not_eq_true', decide_eq_false_iff_not, decide_eq_true_eq] at hc
  obtain ⟨⟨⟨⟨c1, c2⟩, c3⟩, c4⟩, c5⟩ := hc
  refine va_copyi hx hb hml hown (hts _ hlink) (hts _ hnat) (hts _ hstat) (hts _ hini) hK hP (hA M) hS q1 q2 0 0 h1 h2 rfl rfl rfl c1 c2 c3 c4 c5 (fun i _ => rfl) hframes (by
    have : nativeFrameWords "java/lang/System" "arraycopy" 5 + 11 = 18 := by decide +kernel
    omega) hdg (fun H1 locs1 hP1 hD1 hS1 => ?_)
  rw [wl_set hA ok2.1 (hi2 M) (M' := cpM M k1 sp k2 dp n) (fun k' hk' => encG_eq (fun j => by simp [rd, cpM, hk']) (fun j => rfl)) (by
    rw [enc_int ok2.2 (by decide)]
    congr 4
    funext j
    show (if k2 = k2 ∧ ix dp ≤ j ∧ j < ix dp + ix n then M.1 k1 (ix sp + (j - ix dp)) else M.1 k2 j) = va_cpy (fun j => rd M k1 j) (fun j => rd M k2 j) (ix sp) (ix dp) (ix n) j
    unfold va_cpy
    by_cases h : ix dp ≤ j ∧ j < ix dp + ix n
    · rw [if_pos ⟨rfl, h⟩, if_pos h]; rfl
    · rw [if_neg (fun q => h q.2), if_neg h]; rfl)] at hP1
  exact kk H1 locs1 hP1 hS1
theorem x_copyl (X : CxG g p s m args c cc nL own Ts) (hP : va_P (gD g) vwCl (wlG g M) H) (hS : va_S (AbG g) s.heap H locs) (hml : c.maxLocals = ls.size) {index : Nat} (hlink : Cond.methodLink own index arraycopyName ∈ Ts) (hnat : Cond.native arraycopyName ∈ Ts) (hstat : Cond.static arraycopyName ∈ Ts) (hini : Cond.initialized "java/lang/System" ∈ Ts) {k1 k2 n1 n2 : Nat} {sp dp n : Int32} (ok1 : okA g k1 1 n1) (ok2 : okA g k2 1 n2) (hc : cpOk sp dp n n1 n2 = true) (hM : M' = cpML M k1 sp k2 dp n)
    (hframes : 1 ≤ R.frames) (hlocals : (rest.map fun v => v.category).sum + 18 ≤ R.locals) (hdg : decode cc pc = .ok (.invokestatic index, 3))
    (kk : ∀ (H1 : Heap) (locs1 : List Loc), va_P (gD g) vwCl (wlG g M') H1 → va_S (AbG g) s.heap H1 locs1 → W p l e R s m args below meth c H1 locs1 cells slots Q (F0 m (pc + 3) ls rest)) : W p l e R s m args below meth c H locs cells slots Q (F0 m pc ls (.int n :: .int dp :: .ref (ga g k2) :: .int sp :: .ref (ga g k1) :: rest)) := by
  subst hM
  obtain ⟨⟨hx, hb, -, hown, hts⟩, ⟨-, hK, -⟩, hA⟩ := X
  obtain ⟨q1, hi1⟩ := wl_get ok1.1
  obtain ⟨q2, hi2⟩ := wl_get ok2.1
  have h1 := hi1 M
  have h2 := hi2 M
  rw [enc_long ok1.2] at h1
  rw [enc_long ok2.2] at h2
  simp only [cpOk, Bool.and_eq_true, Bool.not_eq_true', decide_eq_false_iff_not, decide_eq_true_eq] at hc
  obtain ⟨⟨⟨⟨c1, c2⟩, c3⟩, c4⟩, c5⟩ := hc
  refine va_copyl hx hb hml hown (hts _ hlink) (hts _ hnat) (hts _ hstat) (hts _ hini) hK hP (hA M) hS q1 q2 1 1 h1 h2 rfl rfl rfl c1 c2 c3 c4 c5 (fun i _ => rfl) hframes (by
    have : nativeFrameWords "java/lang/System" "arraycopy" 5 + 11 = 18 := by decide +kernel
    omega) hdg (fun H1 locs1 hP1 hD1 hS1 => ?_)
  rw [wl_set hA ok2.1 (hi2 M) (M' := cpML M k1 sp k2 dp n) (fun k' hk' => encG_eq (fun j => rfl) (fun j => by simp [rdl, cpML, hk'])) (by
    rw [enc_long ok2.2]
    congr 5
    funext j
    show (if k2 = k2 ∧ ix dp ≤ j ∧ j < ix dp + ix n then M.2 k1 (ix sp + (j - ix dp)) else M.2 k2 j) = va_cpy (fun j => rdl M k1 j) (fun j => rdl M k2 j) (ix sp) (ix dp) (ix n) j
    unfold va_cpy
    by_cases h : ix dp ≤ j ∧ j < ix dp + ix n
    · rw [if_pos ⟨rfl, h⟩, if_pos h]; rfl
    · rw [if_neg (fun q => h q.2), if_neg h]; rfl)] at hP1
  exact kk H1 locs1 hP1 hS1
end ROWS2
section OFWM
variable {l : Launch}
/-- as Met.ofW, of a method for which the machine has no row of its own (java.lang.Math) -/
theorem Met.ofWM {y : MethodName} {ws ws' : List Cond} {rm : Room} {Pc : Array Value → State → Prop} {Qc : Array Value → State → Outcome → State → Prop} {mc ms : Nat} {free : Addr → Prop} {cc : ByteArray} {maxL : Nat} {ret : Option FieldType}
    (hy : plainFor y = true) (hw : ws = Cond.code y cc maxL ret :: ws')
    (body : ∀ p e s m args below meth c s₁, BodyLoose p l y (headSpec ws rm) cc maxL ret e s m args below meth c s₁ → c.maxLocals = maxL → Pc args s →
      W p l e (headSpec ws rm).room s m args below meth c s.heap [] 0 0 (MQ below Qc args s mc ms free) (entryFrame m args maxL)) : Met l y ws rm Pc Qc mc ms free := by
  refine MetFree.of_bodySF (code := cc) (maxLocals := maxL) (ret := ret) hy ?_ ?_
  · intro args s m h hn
    obtain ⟨meth, c, h1, h2, h3, h4, h5, h6, -, -⟩ := Cond.code_spec hn (atoms_spec (ws := ws) h _ (by rw [hw]; exact List.mem_cons_self))
    exact ⟨meth, c, h1, h2, h3, h4, h5, h6⟩
  · intro p e s m args below meth c s₁ B hml hP _
    have hh0 : s₁.heap = s.heap := by rw [B.state]; rfl
    obtain ⟨t, a1, o, b1, b2, b3⟩ := body p e s m args below meth c s₁ B hml hP s₁ hh0 (Stand.of_body B)
    exact ⟨t, o, a1, b1, b2, ⟨b3.1, b3.2⟩⟩
end OFWM
