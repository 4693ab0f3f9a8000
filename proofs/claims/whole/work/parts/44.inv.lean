/-! ===== what holds between calls ===== -/
/-- a step of a law: as the model keeps it (op, arg), as the class keeps it -/
def sgn (o : Int32) : Int32 := if o = 2 then 43 else if o = 3 then 45 else if o = 4 then 42 else if o = 5 then 47 else if o = 6 then 60 else if o = 7 then 61 else if o = 8 then 62 else if o = 9 then 204 else if o = 10 then 203 else 202
abbrev Op : Type := Int32 × Int32
abbrev Ln : Type := Int32 × List Op
def encO (p : Op) : Int32 := if p.1 = 0 then p.2 else if p.1 = 1 then 10000 + p.2 else 10100 + sgn p.1
def encLn (l : Ln) : List Int32 := (match l.2 with
  | [] => [1]
  | o :: r => (o :: r).map encO) ++ [10400 + l.1]
def encL (ls : List Ln) : List Int32 := ls.flatMap encLn
/-- the kinds on the stack, the top first: 0 a number, 1 a number that is not 0, 2 a yes or no -/
def tyO (p : Op) (t : List Nat) : Option (List Nat) :=
  if p.1 = 0 then (if 0 ≤ p.2 ∧ p.2 ≤ 9999 then some ((if p.2 = 0 then 0 else 1) :: t) else none)
  else if p.1 = 1 then (if 0 ≤ p.2 ∧ p.2 ≤ 14 then some (0 :: t) else none)
  else if p.1 = 9 then (match t with | 2 :: r => some (2 :: r) | _ => none)
  else match t with
    | b :: a :: r =>
      if p.1 = 2 ∨ p.1 = 3 ∨ p.1 = 4 then (if b < 2 ∧ a < 2 then some (0 :: r) else none)
      else if p.1 = 5 then (if b = 1 ∧ a < 2 then some (0 :: r) else none)
      else if p.1 = 6 ∨ p.1 = 7 ∨ p.1 = 8 then (if b < 2 ∧ a < 2 then some (2 :: r) else none)
      else if p.1 = 10 ∨ p.1 = 11 then (if b = 2 ∧ a = 2 then some (2 :: r) else none)
      else none
    | _ => none
def tyL : List Op → List Nat → Option (List Nat)
  | [], t => some t
  | o :: r, t => (tyO o t).bind (tyL r)
def LnOk (l : Ln) : Prop := (∃ k, k < 4 ∧ l.1 = nI k) ∧ (l.2 = [] ∨ tyL l.2 [] = some [2])
/-- a law as the class has it: its length, its code -/
def LawC (len : Int32) (code : Nat → Int32) (ls : List Ln) : Prop := len = nI (encL ls).length ∧ (encL ls).length ≤ 400 ∧ ∀ i, i < (encL ls).length → code i = (encL ls).getD i 0
/-- a law as the model has it: how many lines; of each what it does, from where to where; the steps -/
def LawM (many : Int32) (doing frm to op arg : Nat → Int32) (ls : List Ln) : Prop :=
  many = nI ls.length ∧ ls.length ≤ 16 ∧ ∀ l, l < ls.length → doing l = (ls.getD l (0, [])).1 ∧ ∃ a, a + (ls.getD l (0, [])).2.length ≤ 400 ∧ frm l = nI a ∧ to l = nI (a + (ls.getD l (0, [])).2.length) ∧ ∀ i, i < (ls.getD l (0, [])).2.length → op (a + i) = ((ls.getD l (0, [])).2.getD i (0, 0)).1 ∧ arg (a + i) = ((ls.getD l (0, [])).2.getD i (0, 0)).2
def LawsC (M : Mem) (R : Nat) (L : Nat → List Ln) : Prop := ∀ k, k < 4 → LawC (rd M (R + 28 + k) 1) (rd M (R + 32 + k)) (L k)
def LawsM (M : Mem) (L : Nat → List Ln) : Prop := ∀ k, k < 4 → LawM (rd M 165 k) (fun l => rd M 166 (16 * k + l)) (fun l => rd M 167 (16 * k + l)) (fun l => rd M 168 (16 * k + l)) (fun i => rd M 169 (400 * k + i)) (fun i => rd M 170 (400 * k + i)) (L k)
def LawsI (M : Mem) (L : Nat → List Ln) : Prop := ∀ k, k < 4 → LawM (rd M 182 k) (fun l => rd M 182 (4 + 3 * (16 * k + l))) (fun l => rd M 182 (5 + 3 * (16 * k + l))) (fun l => rd M 182 (6 + 3 * (16 * k + l))) (fun i => rd M 182 (196 + 2 * (400 * k + i))) (fun i => rd M 182 (197 + 2 * (400 * k + i))) (L k)
def LawsOk (L : Nat → List Ln) : Prop := ∀ k, k < 4 → ∀ l, l ∈ L k → LnOk l
/-- the image's view, as the model keeps it -/
def vI (M : Mem) : Vw := fun k j => if k = 148 then (if 1 ≤ j ∧ j ≤ 4 then rd M 181 (j - 1) else 0) else if 149 ≤ k ∧ k ≤ 162 ∧ j < 10 then (if k = 162 then rd M 181 (4 + 14 * j) else rd M 181 (4 + 14 * j + (k - 148))) else 0
/-- what a purse is at most -/
def PB (R : Nat) (M : Mem) (V : Vw) : Prop := ∀ f, f < 10 → -(4000000 * (V 148 3).toInt) ≤ (rdl M (R + 36) f).toInt ∧ (rdl M (R + 36) f).toInt ≤ 4000000 * (V 148 3).toInt
def mwL : List Int32 := [32, 100, 111, 32, 119, 104, 101, 110, 32, 111, 114, 32, 97, 110, 100, 32, 110, 111, 116, 32, 119, 105, 100, 101, 32, 108, 119, 105, 100, 101, 32, 114, 119, 105, 100, 101, 32, 103, 97, 105, 110, 32, 108, 111, 115, 115, 32, 110, 105, 103, 104, 116, 32, 104, 105, 116, 32, 100, 111, 103, 32, 108, 100, 111, 103, 32, 114, 100, 111, 103, 32, 108, 107, 105, 110, 32, 114, 107, 105, 110, 32, 108, 119, 97, 108, 108, 32, 114, 119, 97, 108, 108, 32, 112, 117, 114, 115, 101, 32]
def Img (W : Int) (M : Mem) : Prop := (rd M 146 10 = 0 ∧ rd M 148 51 = 0) ∨ (rd M 146 10 = 1 ∧ rd M 148 51 = 1 ∧ ∃ n L, vI M = vC 37 M ∧ Vok (vC 37 M) n W 9999 ∧ PB 37 M (vC 37 M) ∧ LawsC M 37 L ∧ LawsI M L ∧ LawsOk L)
def Tape (M : Mem) : Prop := ∃ t : Nat, t ≤ 400 ∧ rd M 146 7 = nI t ∧ rd M 148 20 = nI t ∧ ∀ i, i < t → rd M 147 i = rd M 163 i ∧ 0 ≤ rd M 163 i
def Misc (M : Mem) : Prop := Tape M ∧ rd M 146 8 = rd M 148 38 ∧ rd M 146 9 = rd M 148 39 ∧ ∀ i, i < 99 → rd M 164 i = mwL.getD i 0
def wI (c : Nat) : Int := 600 + 60 * c
def Inv (c : Nat) (M : Mem) : Prop := ∃ n L, vM M = vC 0 M ∧ Vok (vC 0 M) n (wI c) 9999 ∧ PB 0 M (vC 0 M) ∧ LawsC M 0 L ∧ LawsM M L ∧ LawsOk L ∧ Misc M ∧ Img (wI c) M
theorem Vok.mono {V : Vw} {n : Nat} {W W' N N' : Int} (h : Vok V n W N) (h1 : W ≤ W') (h2 : N ≤ N') : Vok V n W' N' := by
  obtain ⟨a, b, c, d, e, f, g, i, j, k, l, m⟩ := h
  exact ⟨a, b, Int.le_trans c h1, d, e, f, g, i, j, k, l, Int.le_trans m h2⟩
theorem Inv.mono {c c' : Nat} {M : Mem} (h : Inv c M) (hc : c ≤ c') : Inv c' M := by
  obtain ⟨n, L, h1, h2, h3, h4, h5, h6, h7, h8⟩ := h
  have hw : wI c ≤ wI c' := by unfold wI; omega
  refine ⟨n, L, h1, h2.mono hw (Int.le_refl _), h3, h4, h5, h6, h7, ?_⟩
  rcases h8 with h8 | ⟨q1, q2, n2, L2, q3, q4, q5⟩
  · exact Or.inl h8
  · exact Or.inr ⟨q1, q2, n2, L2, q3, q4.mono hw (Int.le_refl _), q5⟩
/-! what is kept -/
def keepL (k : Nat) (j : Nat) : Prop := (28 ≤ k ∧ k < 36) ∨ (165 ≤ k ∧ k ≤ 170)
def keepX (k : Nat) (j : Nat) : Prop := (k = 146 ∧ 7 ≤ j ∧ j < 10) ∨ k = 147 ∨ (k = 148 ∧ (j = 20 ∨ j = 38 ∨ j = 39)) ∨ k = 163 ∨ k = 164
def keepG (k : Nat) (j : Nat) : Prop := (k = 37 ∧ j < 4) ∨ k = 38 ∨ (45 ≤ k ∧ k < 73) ∨ (k = 146 ∧ j = 10) ∨ (k = 148 ∧ j = 51) ∨ k = 181 ∨ k = 182
def keepV (k : Nat) (j : Nat) : Prop := (k = 0 ∧ j < 4) ∨ k = 1 ∨ (8 ≤ k ∧ k < 28)
def keepW (k : Nat) (j : Nat) : Prop := (k = 148 ∧ 1 ≤ j ∧ j ≤ 4) ∨ (149 ≤ k ∧ k ≤ 162)
def Eqs (w : Nat → Nat → Prop) (M M' : Mem) : Prop := ∀ k j, w k j → rd M' k j = rd M k j
def EqL (w : Nat → Prop) (M M' : Mem) : Prop := ∀ k j, w k → rdl M' k j = rdl M k j
theorem Fr.eqs {w v : Nat → Nat → Prop} {M M' : Mem} (h : Fr w v M M') {k : Nat → Nat → Prop} (hk : ∀ a b, w a b → ¬ k a b) : Eqs k M M' := fun a b q => h.1 a b (fun z => hk a b z q)
theorem Fr.eql {w v : Nat → Nat → Prop} {M M' : Mem} (h : Fr w v M M') {k : Nat → Prop} (hk : ∀ a b, v a b → ¬ k a) : EqL k M M' := fun a b q => h.2 a b (fun z => hk a b z q)
theorem Eqs.tr {w : Nat → Nat → Prop} {M M1 M2 : Mem} (h : Eqs w M M1) (h2 : Eqs w M1 M2) : Eqs w M M2 := fun k j q => (h2 k j q).trans (h k j q)
theorem EqL.tr {w : Nat → Prop} {M M1 M2 : Mem} (h : EqL w M M1) (h2 : EqL w M1 M2) : EqL w M M2 := fun k j q => (h2 k j q).trans (h k j q)
theorem vC_eqs {R : Nat} {M M' : Mem} (h : ∀ k j, (k = R ∧ j < 4) ∨ k = R + 1 ∨ (R + 8 ≤ k ∧ k < R + 28) → rd M' k j = rd M k j) (h2 : ∀ j, rdl M' (R + 36) j = rdl M (R + 36) j) : vC R M' = vC R M :=
  vC_fr (w := fun k j => ¬ ((k = R ∧ j < 4) ∨ k = R + 1 ∨ (R + 8 ≤ k ∧ k < R + 28))) (v := fun k _ => k ≠ R + 36) ⟨fun k j q => h k j (Classical.not_not.mp q), fun k j q => by rw [Classical.not_not.mp q]; exact h2 j⟩ (fun _ _ q => q) (fun _ _ q => q)
theorem vM_eqs {M M' : Mem} (h : Eqs keepW M M') : vM M' = vM M :=
  vM_fr (w := fun k j => ¬ keepW k j) (v := fun _ _ => True) ⟨fun k j q => h k j (Classical.not_not.mp q), fun _ _ q => absurd trivial q⟩ (fun _ _ q => q)
theorem LawsC_eq {R : Nat} {M M' : Mem} {L : Nat → List Ln} (h : ∀ k j, R + 28 ≤ k → k < R + 36 → rd M' k j = rd M k j) (h0 : LawsC M R L) : LawsC M' R L := by
  intro k hk
  obtain ⟨a, b, c⟩ := h0 k hk
  exact ⟨by rw [h _ _ (by omega) (by omega)]; exact a, b, fun i hi => by rw [h _ _ (by omega) (by omega)]; exact c i hi⟩
theorem LawsM_eq {M M' : Mem} {L : Nat → List Ln} (h : ∀ k j, 165 ≤ k → k ≤ 170 → rd M' k j = rd M k j) (h0 : LawsM M L) : LawsM M' L := by
  intro k hk
  have := h0 k hk
  simp only [h 165 _ (by omega) (by omega), h 166 _ (by omega) (by omega), h 167 _ (by omega) (by omega), h 168 _ (by omega) (by omega), h 169 _ (by omega) (by omega), h 170 _ (by omega) (by omega)]
  exact this
theorem LawsI_eq {M M' : Mem} {L : Nat → List Ln} (h : ∀ j, rd M' 182 j = rd M 182 j) (h0 : LawsI M L) : LawsI M' L := by
  intro k hk
  have := h0 k hk
  simp only [h]
  exact this
theorem Misc_eq {M M' : Mem} (h : Eqs keepX M M') (h0 : Misc M) : Misc M' := by
  obtain ⟨⟨t, t1, t2, t3, t4⟩, f1, f2, wd⟩ := h0
  have e1 : ∀ j, 7 ≤ j → j < 10 → rd M' 146 j = rd M 146 j := fun j h1 h2 => h _ _ (Or.inl ⟨rfl, h1, h2⟩)
  have e2 : ∀ j, rd M' 147 j = rd M 147 j := fun j => h _ _ (Or.inr (Or.inl rfl))
  have e3 : ∀ j, (j = 20 ∨ j = 38 ∨ j = 39) → rd M' 148 j = rd M 148 j := fun j q => h _ _ (Or.inr (Or.inr (Or.inl ⟨rfl, q⟩)))
  have e4 : ∀ j, rd M' 163 j = rd M 163 j := fun j => h _ _ (Or.inr (Or.inr (Or.inr (Or.inl rfl))))
  have e5 : ∀ j, rd M' 164 j = rd M 164 j := fun j => h _ _ (Or.inr (Or.inr (Or.inr (Or.inr rfl))))
  refine ⟨⟨t, t1, by rw [e1 7 (by omega) (by omega)]; exact t2, by rw [e3 20 (by omega)]; exact t3, fun i hi => by rw [e2, e4]; exact t4 i hi⟩, ?_, ?_, fun i hi => by rw [e5]; exact wd i hi⟩
  · rw [e1 8 (by omega) (by omega), e3 38 (by omega)]; exact f1
  · rw [e1 9 (by omega) (by omega), e3 39 (by omega)]; exact f2
theorem vI_eq {M M' : Mem} (h : ∀ j, rd M' 181 j = rd M 181 j) : vI M' = vI M := by
  funext k j; simp only [vI, h]
theorem PB_eq {R : Nat} {M M' : Mem} {V : Vw} (h : ∀ j, rdl M' (R + 36) j = rdl M (R + 36) j) (h0 : PB R M V) : PB R M' V := fun f hf => by rw [h]; exact h0 f hf
theorem Img_eq {W : Int} {M M' : Mem} (h : Eqs keepG M M') (hl : EqL (fun k => k = 73) M M') (h0 : Img W M) : Img W M' := by
  have e1 : rd M' 146 10 = rd M 146 10 := h _ _ (by unfold keepG; omega)
  have e2 : rd M' 148 51 = rd M 148 51 := h _ _ (by unfold keepG; omega)
  have e3 : ∀ j, rd M' 181 j = rd M 181 j := fun j => h _ _ (by unfold keepG; omega)
  have e4 : ∀ j, rd M' 182 j = rd M 182 j := fun j => h _ _ (by unfold keepG; omega)
  have e5 : ∀ j, rdl M' (37 + 36) j = rdl M (37 + 36) j := fun j => hl _ _ rfl
  have e6 : vC 37 M' = vC 37 M := vC_eqs (fun k j q => h _ _ (by unfold keepG; omega)) e5
  unfold Img
  rw [e1, e2, e6, vI_eq e3]
  rcases h0 with h0 | ⟨q1, q2, n, L, q3, q4, q5, q6, q7, q8⟩
  · exact Or.inl h0
  · exact Or.inr ⟨q1, q2, n, L, q3, q4, PB_eq e5 q5, LawsC_eq (fun k j h1 h2 => h _ _ (by unfold keepG; omega)) q6, LawsI_eq e4 q7, q8⟩
/-- nothing of what is kept has changed -/
theorem Inv.keep {c : Nat} {M M' : Mem} (h : Inv c M) (hC : vC 0 M' = vC 0 M) (hM : vM M' = vM M) (hp : EqL (fun k => k = 36 ∨ k = 73) M M') (hL : Eqs keepL M M') (hX : Eqs keepX M M') (hG : Eqs keepG M M') : Inv c M' := by
  obtain ⟨n, L, h1, h2, h3, h4, h5, h6, h7, h8⟩ := h
  refine ⟨n, L, by rw [hC, hM]; exact h1, by rw [hC]; exact h2, by rw [hC]; exact PB_eq (fun j => hp _ _ (Or.inl rfl)) h3, LawsC_eq (fun k j q1 q2 => hL _ _ (Or.inl ⟨by omega, by omega⟩)) h4, LawsM_eq (fun k j q1 q2 => hL _ _ (Or.inr ⟨q1, q2⟩)) h5, h6, Misc_eq hX h7, Img_eq hG (fun k j q => hp _ _ (Or.inr q)) h8⟩
def keepI (k j : Nat) : Prop := keepL k j ∨ keepX k j ∨ keepG k j ∨ keepV k j ∨ keepW k j
theorem Inv.keepAll {c : Nat} {M M' : Mem} (h : Inv c M) (hI : Eqs keepI M M') (hp : EqL (fun k => k = 36 ∨ k = 73) M M') : Inv c M' :=
  h.keep (vC_eqs (fun k j q => hI _ _ (Or.inr (Or.inr (Or.inr (Or.inl (by unfold keepV; omega)))))) (fun j => hp _ _ (Or.inl rfl))) (vM_eqs (fun k j q => hI _ _ (Or.inr (Or.inr (Or.inr (Or.inr q)))))) hp
    (fun k j q => hI _ _ (Or.inl q)) (fun k j q => hI _ _ (Or.inr (Or.inl q))) (fun k j q => hI _ _ (Or.inr (Or.inr (Or.inl q))))
/-- a call that both sides only look by -/
theorem Inv.fr2 {c : Nat} {M M1 M2 : Mem} {w1 v1 w2 v2 : Nat → Nat → Prop} (h : Inv c M) (f1 : Fr w1 v1 M M1) (f2 : Fr w2 v2 M1 M2) (h1 : ∀ k j, w1 k j → ¬ keepI k j) (g1 : ∀ k j, v1 k j → ¬ (k = 36 ∨ k = 73)) (h2 : ∀ k j, w2 k j → ¬ keepI k j) (g2 : ∀ k j, v2 k j → ¬ (k = 36 ∨ k = 73)) : Inv c M2 :=
  (h.keepAll (f1.eqs h1) (f1.eql g1)).keepAll (f2.eqs h2) (f2.eql g2)
