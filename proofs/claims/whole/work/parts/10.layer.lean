/-! ===== the layer: one world for all cells of class and model, a memory, rows over it ===== -/
abbrev vwCl : List vw_C := [(RX0, TX0, 12), (RX1, TX1, 8), (RX2, TX2, 2), (RX3, TX3, 17), (RX4, TX4, 12), (RX5, TX5, 11), (RX6, TX6, 55)]
/-- the text of the class's words: its entry in the reader's pool (144 in this landing) -/
abbrev kwIdx : Nat := 144
def kwText : String := "do when or and not wide lwide rwide gain loss night hit dog ldog rdog lkin rkin lwall rwall purse "
/-- the memory: by cell and place, ints and longs -/
abbrev Mem : Type := (Nat → Nat → Int32) × (Nat → Nat → Int64)
def rd (M : Mem) (k j : Nat) : Int32 := M.1 k j
def rdl (M : Mem) (k j : Nat) : Int64 := M.2 k j
def wr (M : Mem) (k j : Nat) (x : Int32) : Mem := (fun a b => if a = k ∧ b = j then x else M.1 a b, M.2)
def wrl (M : Mem) (k j : Nat) (x : Int64) : Mem := (M.1, fun a b => if a = k ∧ b = j then x else M.2 a b)
def ix (i : Int32) : Nat := i.toNatClampNeg
def inb (i : Int32) (n : Nat) : Bool := !decide (i < 0) && decide (i.toNatClampNeg < n)
theorem inb_vp {i : Int32} {n : Nat} (h : inb i n = true) : vp_in i n := by
  intro q
  simp [inb] at h
  rcases q with q | q
  · exact absurd q (by simpa using h.1)
  · exact absurd h.2 (by omega)
theorem inb_lt {i : Int32} {n : Nat} (h : inb i n = true) : ix i < n := by
  simp [inb] at h
  exact h.2
def bnd {α β : Type} (x : α) (f : α → Option β) : Option β := f x
theorem bnd_elim {α β : Type} {x : α} {f : α → Option β} {o : Option β} (h : bnd x f = o) : ∃ y, y = x ∧ f y = o := ⟨x, rfl, h⟩
def chk {β : Type} (b : Bool) (k : Option β) : Option β := if b = true then k else none
theorem chk_elim {β : Type} {b : Bool} {k : Option β} {o : β} (h : chk b k = some o) : b = true ∧ k = some o := by
  unfold chk at h
  by_cases hb : b = true
  · rw [if_pos hb] at h; exact ⟨hb, h⟩
  · rw [if_neg hb] at h; cases h
theorem bind_elim {α β : Type} {x : Option α} {f : α → Option β} {o : β} (h : x.bind f = some o) : ∃ y, x = some y ∧ f y = some o := by
  cases x with
  | none => cases h
  | some y => exact ⟨y, rfl, h⟩
/-- a loop: at most n rounds -/
def lp {S X : Type} (body : S → Option (S ⊕ X)) : Nat → S → Option X
  | 0, _ => none
  | n + 1, s => match body s with
    | none => none
    | some (.inl s') => lp body n s'
    | some (.inr x) => some x
theorem lp_elim {S X : Type} {body : S → Option (S ⊕ X)} {P : S → Prop} {x : X} (hs : ∀ (s : S) (o : S ⊕ X), body s = some o → (∀ s', o = .inl s' → P s') → (∀ y, o = .inr y → y = x) → P s) : ∀ (n : Nat) (s : S), lp body n s = some x → P s
  | 0, _, h => by cases h
  | n + 1, s, h => by
    unfold lp at h
    cases hb : body s with
    | none => rw [hb] at h; cases h
    | some o =>
      rw [hb] at h
      cases o with
      | inl s' => exact hs s _ hb (fun s2 e => by cases e; exact lp_elim hs n s' h) (fun y e => by cases e)
      | inr y => exact hs s _ hb (fun s2 e => by cases e) (fun y2 e => by cases e; exact Option.some.inj h)
/-! shapes -/
abbrev Shp : Type := (Nat × Nat) ⊕ (Nat × Nat × Nat) ⊕ (Nat × List (Option Nat))
abbrev shA (t n : Nat) : Shp := .inl (t, n)
abbrev shR (t n b : Nat) : Shp := .inr (.inl (t, n, b))
abbrev shO (ci : Nat) (fl : List (Option Nat)) : Shp := .inr (.inr (ci, fl))
/-- what is known of all calls: class ids, addresses by cell, the first address, array classes, the cells that stand, statics -/
abbrev GT : Type := va_G × (Nat → Nat) × Nat × (Nat → ClassId) × List Nat × (Nat → Nat)
def gD (g : GT) : va_G := g.1
def ga (g : GT) : Nat → Nat := g.2.1
def gb (g : GT) : Nat := g.2.2.1
def gc (g : GT) : Nat → ClassId := g.2.2.2.1
def gl (g : GT) : List Nat := g.2.2.2.2.1
def gs (g : GT) : Nat → Nat := g.2.2.2.2.2
def tyG (g : GT) : List (ClassId × FieldType) := [(gc g 0, .int), (gc g 1, .long), (gc g 2, .boolean), (gc g 3, .object "FootANight$Law"), (gc g 4, .array .int)]
def fldV (g : GT) (M : Mem) (k j : Nat) : Option Nat → Value
  | none => .int (rd M k j)
  | some t => .ref (ga g t)
def fldsV (g : GT) (M : Mem) (k : Nat) (fl : List (Option Nat)) : List Value := (List.range fl.length).map (fun j => fldV g M k j (fl.getD j none))
def encS (g : GT) (M : Mem) (k : Nat) : Shp → va_E
  | .inl (t, n) => .inl (gc g t, n, if t = 1 then .inr (.inl (fun j => rdl M k j)) else .inl (fun j => rd M k j))
  | .inr (.inl (t, n, b)) => .inl (gc g t, n, .inr (.inr (.inr (.inr (fun j => some (ga g (b + j)))))))
  | .inr (.inr (ci, fl)) => .inr (ci, fldsV g M k fl)
/-- the shapes of all cells: three rings of 37, then the reader, the counsel, the duel, the class, the model -/
def shpRing (R o : Nat) : Shp :=
  if o = 0 then shO 4 [none, none, none, none, some (R + 1), some (R + 2), some (R + 36), some (R + 3), some (R + 4), some (R + 5), some (R + 6), some (R + 7)]
  else if o = 1 then shA 0 10 else if o = 2 then shR 4 10 (R + 8) else if o = 3 then shR 4 10 (R + 18) else if o = 4 then shR 3 4 (R + 28)
  else if o = 5 then shA 0 10 else if o = 6 then shA 2 10 else if o = 7 then shA 0 400
  else if o < 18 then shA 0 9 else if o < 28 then shA 0 4
  else if o < 32 then shO 2 [some (R + o + 4), none] else if o < 36 then shA 0 400 else shA 1 10
def shpRest : List Shp := [
  shO 3 [some 112, none, none, none, none, some 113, none, none, none, none, none, none, none, none, some 114, none, none],
  shA 0 400, shA 0 400, shA 0 400,
  shO 0 [none, none, none, none, none, none, some 116, some 117, none, none, none, none],
  shR 4 6 118, shR 4 6 124, shA 0 64, shA 0 64, shA 0 64, shA 0 64, shA 0 64, shA 0 64, shA 0 16, shA 0 16, shA 0 16, shA 0 16, shA 0 16, shA 0 16,
  shO 1 [some 131, some 132, some 133, some 134, some 135, some 136, none, none],
  shA 1 61, shA 0 61, shA 1 61, shR 4 3 137, shR 4 3 140, shR 4 3 143, shA 0 61, shA 0 61, shA 0 61, shA 0 61, shA 0 61, shA 0 61, shA 0 61, shA 0 61, shA 0 61,
  shO 5 [some 0, some 37, some 74, some 111, some 115, some 130, some 147, none, none, none, none],
  shA 0 400,
  shO 6 [none, none, none, none, none, some 149, some 150, some 151, some 152, some 153, some 154, some 155, some 156, some 157, some 158, some 159, some 160, some 161, some 162, some 163, none, none, none, none, none, some 164, some 165, some 166, some 167, some 168, some 169, some 170, none, none, some 171, none, none, none, none, none, some 172, some 173, some 174, some 175, some 176, some 177, some 178, some 179, none, none, some 180, none, some 181, some 182, none],
  shA 0 10, shA 0 10, shA 0 10, shA 0 10, shA 0 10, shA 0 10, shA 0 10, shA 0 10, shA 0 10, shA 0 10, shA 0 10, shA 0 10, shA 0 10, shA 0 10, shA 0 400, shA 0 99, shA 0 5, shA 0 80, shA 0 80, shA 0 80, shA 0 2000, shA 0 2000, shA 0 40, shA 0 15, shA 0 420, shA 0 10, shA 2 10, shA 0 10, shA 1 61, shA 1 61, shA 0 61, shA 0 160, shA 0 160, shA 0 3400]
def shp (k : Nat) : Shp := if k < 37 then shpRing 0 k else if k < 74 then shpRing 37 (k - 37) else if k < 111 then shpRing 74 (k - 74) else shpRest.getD (k - 111) (shA 0 0)
def isRing (R : Nat) : Prop := R = 0 ∨ R = 37 ∨ R = 74
theorem shp_ring {R : Nat} (h : isRing R) (o : Nat) (ho : o < 37) : shp (R + o) = shpRing R o := by
  unfold shp
  rcases h with rfl | rfl | rfl
  · rw [if_pos (by omega)]; congr 1; omega
  · rw [if_neg (by omega), if_pos (by omega)]; congr 1; omega
  · rw [if_neg (by omega), if_neg (by omega), if_pos (by omega)]; congr 1; omega
def encG (g : GT) (M : Mem) (k : Nat) : va_E := encS g M k (shp k)
def wlG (g : GT) (M : Mem) : va_W := (gl g).map (fun k => (ga g k, encG g M k))
def AbG (g : GT) : Nat → Prop := fun q => gb g ≤ q
/-- the cells stand apart, above the first address -/
def AxG (g : GT) : Prop := ∀ M : Mem, va_D (AbG g) (wlG g M)
theorem wl_get {g : GT} {k : Nat} (hk : k ∈ gl g) : ∃ i : Nat, ∀ M : Mem, (wlG g M)[i]? = some (ga g k, encG g M k) := by
  obtain ⟨i, hi⟩ := List.getElem?_of_mem hk
  exact ⟨i, fun M => by unfold wlG; rw [List.getElem?_map, hi]; rfl⟩
theorem wl_set {g : GT} (hA : AxG g) {k i : Nat} {M M' : Mem} {e : va_E} (hk : k ∈ gl g) (hi : (wlG g M)[i]? = some (ga g k, encG g M k)) (hne : ∀ k', k' ≠ k → encG g M' k' = encG g M k') (he : encG g M' k = e) : (wlG g M).set i (ga g k, e) = wlG g M' := by
  apply List.ext_getElem?
  intro j
  have hil : i < (wlG g M).length := (List.getElem?_eq_some_iff.mp hi).1
  by_cases hj : i = j
  · subst hj
    rw [List.getElem?_set_self hil]
    obtain ⟨i2, h2⟩ := wl_get hk
    have hii : i = i2 := (hA M).1 i i2 _ _ hi (h2 M) rfl
    rw [hii, h2 M', he]
  · rw [List.getElem?_set_ne hj]
    unfold wlG
    rw [List.getElem?_map, List.getElem?_map]
    cases hjk : (gl g)[j]? with
    | none => rfl
    | some k' =>
      have hk' : k' ≠ k := fun q => by
        subst q
        have h3 : (wlG g M)[j]? = some (ga g k', encG g M k') := by unfold wlG; rw [List.getElem?_map, hjk]; rfl
        exact hj ((hA M).1 i j _ _ hi h3 rfl)
      show some (ga g k', encG g M k') = some (ga g k', encG g M' k')
      rw [hne k' hk']
theorem encG_eq {g : GT} {M M' : Mem} {k : Nat} (h1 : ∀ j, rd M' k j = rd M k j) (h2 : ∀ j, rdl M' k j = rdl M k j) : encG g M' k = encG g M k := by
  unfold encG encS
  cases shp k with
  | inl a => simp only [h1, h2]
  | inr a =>
    cases a with
    | inl b => rfl
    | inr b =>
      simp only [fldsV]
      congr 2
      apply List.map_congr_left
      intro j _
      cases b.2.getD j none with
      | none => simp only [fldV, h1]
      | some t => rfl
theorem rd_wr_ne {M : Mem} {k k' j j' : Nat} {x : Int32} (h : k' ≠ k) : rd (wr M k j x) k' j' = rd M k' j' := by simp [rd, wr, h]
theorem rd_wr (M : Mem) (k j k' j' : Nat) (x : Int32) : rd (wr M k j x) k' j' = if k' = k ∧ j' = j then x else rd M k' j' := rfl
theorem rdl_wrl (M : Mem) (k j k' j' : Nat) (x : Int64) : rdl (wrl M k j x) k' j' = if k' = k ∧ j' = j then x else rdl M k' j' := rfl
theorem rdl_wr (M : Mem) (k j k' j' : Nat) (x : Int32) : rdl (wr M k j x) k' j' = rdl M k' j' := rfl
theorem rd_wrl (M : Mem) (k j k' j' : Nat) (x : Int64) : rd (wrl M k j x) k' j' = rd M k' j' := rfl
def okA (g : GT) (k t n : Nat) : Prop := k ∈ gl g ∧ shp k = shA t n
def okR (g : GT) (k t n b : Nat) : Prop := k ∈ gl g ∧ shp k = shR t n b
def okO (g : GT) (k ci : Nat) (fl : List (Option Nat)) : Prop := k ∈ gl g ∧ shp k = shO ci fl
/-- all 183 cells stand -/
def okAll (g : GT) : Prop := ∀ k, k < 183 → k ∈ gl g
def okRing (g : GT) (R : Nat) : Prop := isRing R ∧ ∀ o, o < 37 → R + o ∈ gl g
theorem okAll.ring {g : GT} (h : okAll g) {R : Nat} (hR : isRing R) : okRing g R := ⟨hR, fun o ho => h _ (by rcases hR with rfl | rfl | rfl <;> omega)⟩
def flRing (R : Nat) : List (Option Nat) := [none, none, none, none, some (R + 1), some (R + 2), some (R + 36), some (R + 3), some (R + 4), some (R + 5), some (R + 6), some (R + 7)]
theorem okRing.obj {g : GT} {R : Nat} (h : okRing g R) : okO g R 4 (flRing R) := ⟨by have := h.2 0 (by omega); rwa [Nat.add_zero] at this, by have := shp_ring h.1 0 (by omega); rw [Nat.add_zero] at this; rw [this]; rfl⟩
theorem okRing.told {g : GT} {R : Nat} (h : okRing g R) : okA g (R + 1) 0 10 := ⟨h.2 1 (by omega), shp_ring h.1 1 (by omega)⟩
theorem okRing.lands {g : GT} {R : Nat} (h : okRing g R) : okR g (R + 2) 4 10 (R + 8) := ⟨h.2 2 (by omega), shp_ring h.1 2 (by omega)⟩
theorem okRing.stakes {g : GT} {R : Nat} (h : okRing g R) : okR g (R + 3) 4 10 (R + 18) := ⟨h.2 3 (by omega), shp_ring h.1 3 (by omega)⟩
theorem okRing.laws {g : GT} {R : Nat} (h : okRing g R) : okR g (R + 4) 3 4 (R + 28) := ⟨h.2 4 (by omega), shp_ring h.1 4 (by omega)⟩
theorem okRing.doing {g : GT} {R : Nat} (h : okRing g R) : okA g (R + 5) 0 10 := ⟨h.2 5 (by omega), shp_ring h.1 5 (by omega)⟩
theorem okRing.lost {g : GT} {R : Nat} (h : okRing g R) : okA g (R + 6) 2 10 := ⟨h.2 6 (by omega), shp_ring h.1 6 (by omega)⟩
theorem okRing.stack {g : GT} {R : Nat} (h : okRing g R) : okA g (R + 7) 0 400 := ⟨h.2 7 (by omega), shp_ring h.1 7 (by omega)⟩
theorem okRing.purses {g : GT} {R : Nat} (h : okRing g R) : okA g (R + 36) 1 10 := ⟨h.2 36 (by omega), shp_ring h.1 36 (by omega)⟩
theorem okRing.land {g : GT} {R f : Nat} (h : okRing g R) (hf : f < 10) : okA g (R + 8 + f) 0 9 := by
  rw [Nat.add_assoc]
  refine ⟨h.2 (8 + f) (by omega), (shp_ring h.1 (8 + f) (by omega)).trans ?_⟩
  unfold shpRing
  repeat rw [if_neg (by omega)]
  rw [if_pos (by omega)]
theorem okRing.stake {g : GT} {R f : Nat} (h : okRing g R) (hf : f < 10) : okA g (R + 18 + f) 0 4 := by
  rw [Nat.add_assoc]
  refine ⟨h.2 (18 + f) (by omega), (shp_ring h.1 (18 + f) (by omega)).trans ?_⟩
  unfold shpRing
  repeat rw [if_neg (by omega)]
  rw [if_pos (by omega)]
/-- a law: its object, and its code four cells behind -/
def okLaw (g : GT) (L : Nat) : Prop := okO g L 2 [some (L + 4), none] ∧ okA g (L + 4) 0 400
theorem okRing.law {g : GT} {R f : Nat} (h : okRing g R) (hf : f < 4) : okLaw g (R + 28 + f) := by
  refine ⟨⟨by rw [Nat.add_assoc]; exact h.2 (28 + f) (by omega), ?_⟩, ⟨by rw [show R + 28 + f + 4 = R + (32 + f) by omega]; exact h.2 (32 + f) (by omega), ?_⟩⟩
  · rw [Nat.add_assoc, shp_ring h.1 (28 + f) (by omega)]
    unfold shpRing
    repeat rw [if_neg (by omega)]
    rw [if_pos (by omega)]
  · rw [show R + 28 + f + 4 = R + (32 + f) by omega, shp_ring h.1 (32 + f) (by omega)]
    unfold shpRing
    repeat rw [if_neg (by omega)]
    rw [if_pos (by omega)]
