/-! ===== how a text is read, told once ===== -/
def opc (x : Int32) : Int32 := if x = 43 then 2 else if x = 45 then 3 else if x = 42 then 4 else if x = 47 then 5 else if x = 60 then 6 else if x = 61 then 7 else if x = 62 then 8 else if x = 204 then 9 else if x = 203 then 10 else 11
def ol (x : Int32) : List Op := if x = 0 then [] else [(opc x, 0)]
def pl (x : Int32) : List Int32 := if x = 0 then [] else [x]
def rkN (x : Int32) : Nat := if x = 42 then 6 else if x = 43 then 5 else if x = 45 then 5 else if x = 47 then 6 else if x = 60 then 4 else if x = 61 then 4 else if x = 62 then 4 else if x = 202 then 1 else if x = 203 then 2 else if x = 204 then 3 else 0
def stl (r : Nat) : List Int32 → List Op × List Int32
  | [] => ([], [])
  | x :: l => if rkN x < r then ([], x :: l) else ((opc x, 0) :: (stl r l).1, (stl r l).2)
theorem stl_c (r : Nat) (x : Int32) (l : List Int32) : stl r (x :: l) = if rkN x < r then ([], x :: l) else ((opc x, 0) :: (stl r l).1, (stl r l).2) := rfl
def opn : List Int32 → Nat
  | [] => 0
  | x :: l => (if x = 204 ∨ x = 40 then 1 else 0) + opn l
/-- next, doing, (*/, +-, <=>) that wait, logic that waits, steps of this line, lines -/
abbrev PS : Type := Nat × Int32 × (Int32 × Int32 × Int32) × List Int32 × List Op × List Ln
def unP (d pr su cm : Int32) (lg : List Int32) (cur : List Op) (dn : List Ln) (k v : Int32) : Int32 ⊕ PS :=
  if k = 1 then .inr (6, d, (pr, su, cm), lg, cur ++ [(0, v)], dn) else if k < 205 then .inl 1 else .inr (6, d, (pr, su, cm), lg, cur ++ [(1, k - 205)], dn)
def bhP (d : Int32) (lg : List Int32) (cur : List Op) (dn : List Ln) (k : Int32) : Int32 ⊕ PS :=
  if k = 203 then .inr (3, d, (0, 0, 0), 203 :: (stl 2 lg).2, cur ++ (stl 2 lg).1, dn)
  else if k = 202 then .inr (3, d, (0, 0, 0), 202 :: (stl 1 lg).2, cur ++ (stl 1 lg).1, dn)
  else if k = 41 then (match (stl 1 lg).2 with
    | [] => .inl 1
    | _ :: r => .inr (7, d, (0, 0, 0), r, cur ++ (stl 1 lg).1, dn))
  else if k = 59 then (match (stl 1 lg).2 with
    | [] => .inr (0, d, (0, 0, 0), [], [], dn ++ [(d, cur ++ (stl 1 lg).1)])
    | _ :: _ => .inl 1)
  else .inl 1
def stp (s : PS) (k v : Int32) : Int32 ⊕ PS :=
  match s with
  | (nx, d, (pr, su, cm), lg, cur, dn) =>
    if nx = 0 then (if k = 200 then (if dn.length < 16 then .inr (1, d, (pr, su, cm), lg, cur, dn) else .inl 3) else .inl 1)
    else if nx = 1 then (if k = 1 then (if v < 4 then .inr (2, v, (pr, su, cm), lg, cur, dn) else .inl 2) else .inl 1)
    else if nx = 2 then (if k = 201 then .inr (3, d, (0, 0, 0), [], [], dn) else if k = 59 then .inr (0, d, (0, 0, 0), [], [], dn ++ [(d, [])]) else .inl 1)
    else if nx = 3 then (if k = 204 ∨ k = 40 then (if opn lg < 8 then .inr (3, d, (0, 0, 0), k :: lg, cur, dn) else .inl 3) else unP d pr su 0 lg cur dn k v)
    else if nx = 4 then unP d pr su cm lg cur dn k v
    else if nx = 5 then (if k = 1 then (if v = 0 then .inl 2 else unP d pr su cm lg cur dn k v) else .inl 1)
    else if nx = 6 then
      (if rkN k = 6 then .inr (if k = 47 then 5 else 4, d, (k, su, cm), lg, cur ++ ol pr, dn)
      else if rkN k = 5 then .inr (4, d, (0, k, cm), lg, cur ++ ol pr ++ ol su, dn)
      else if cm = 0 then (if rkN k = 4 then .inr (4, d, (0, 0, k), lg, cur ++ ol pr ++ ol su, dn) else .inl 1)
      else bhP d lg (cur ++ ol pr ++ ol su ++ ol cm) dn k)
    else bhP d lg cur dn k
abbrev Res : Type := (Int32 × Nat) ⊕ List Ln
def nxR (R : Int32 ⊕ PS) (q : Nat) (F : PS → Res) : Res := match R with
  | .inl k => .inl (k, q)
  | .inr s => F s
section RUN
variable (b : Nat → Int32) (len : Nat)
noncomputable def runF : Nat → PS → Nat → Res
  | 0, _, _ => .inl (0, 0)
  | n + 1, s, p => if tK b len p = 0 then (if s.1 = 0 then .inr s.2.2.2.2.2 else .inl (1, tF b len p)) else nxR (stp s (tK b len p) (tV b len p)) (tF b len p) (fun s' => runF n s' (tS b len p))
noncomputable def run (s : PS) (p : Nat) : Res := runF b len (len + 1 - p) s p
end RUN
theorem tS_adv {b : Nat → Int32} {len p : Nat} (h0 : ∀ i, i < len → 0 ≤ b i) (hp : p ≤ len) (h : tK b len p ≠ 0) : p ≤ tF b len p ∧ tF b len p < tS b len p ∧ tS b len p ≤ len := by
  have a := tF_b b hp
  have c := tS_b b hp
  have := mt (tK_0 h0 hp).mpr h
  have := c.2.2 (by omega)
  omega
theorem runF_eq {b : Nat → Int32} {len : Nat} (h0 : ∀ i, i < len → 0 ≤ b i) : ∀ n m (s : PS) p, p ≤ len → len - p < n → len - p < m → runF b len n s p = runF b len m s p
  | 0, _, _, _, _, h, _ => absurd h (Nat.not_lt_zero _)
  | _ + 1, 0, _, _, _, _, h => absurd h (Nat.not_lt_zero _)
  | n + 1, m + 1, s, p, hp, h1, h2 => by
    unfold runF
    by_cases z : tK b len p = 0
    · rw [if_pos z, if_pos z]
    · rw [if_neg z, if_neg z]
      have t := tS_adv h0 hp z
      congr 1
      funext s'
      exact runF_eq h0 n m s' _ (by omega) (by omega) (by omega)
theorem run_u {b : Nat → Int32} {len : Nat} (h0 : ∀ i, i < len → 0 ≤ b i) (s : PS) {p : Nat} (hp : p ≤ len) : run b len s p = if tK b len p = 0 then (if s.1 = 0 then .inr s.2.2.2.2.2 else .inl (1, tF b len p)) else nxR (stp s (tK b len p) (tV b len p)) (tF b len p) (fun s' => run b len s' (tS b len p)) := by
  unfold run
  rw [show len + 1 - p = (len - p) + 1 by omega]
  show (if tK b len p = 0 then _ else nxR _ _ (fun s' => runF b len (len - p) s' (tS b len p))) = _
  by_cases z : tK b len p = 0
  · rw [if_pos z, if_pos z]
  · rw [if_neg z, if_neg z]
    have t := tS_adv h0 hp z
    congr 1
    funext s'
    exact runF_eq h0 _ _ s' _ (by omega) (by omega) (by omega)
/-! what holds while it is read -/
def rkh : List Int32 → Nat
  | [] => 0
  | x :: _ => rkN x
def FitC : List Int32 → List Nat → Prop
  | [], t => t = []
  | x :: l, t => (x = 204 ∧ FitC l t) ∨ (x = 40 ∧ FitC l t) ∨ (x = 203 ∧ rkh l < 2 ∧ ∃ t', t = 2 :: t' ∧ FitC l t') ∨ (x = 202 ∧ rkh l < 1 ∧ ∃ t', t = 2 :: t' ∧ FitC l t')
def fitA (x : Int32) (T : List Nat) (P : List Nat → Prop) : Prop := (x = 0 ∧ P T) ∨ (x ≠ 0 ∧ ∃ a r, a < 2 ∧ T = a :: r ∧ P r)
def FitN (pr su cm : Int32) (lg : List Int32) (T : List Nat) : Prop := fitA pr T (fun T => fitA su T (fun T => fitA cm T (FitC lg)))
def sgOk (pr su cm : Int32) : Prop := (pr = 0 ∨ pr = 42 ∨ pr = 47) ∧ (su = 0 ∨ su = 43 ∨ su = 45) ∧ (cm = 0 ∨ cm = 60 ∨ cm = 61 ∨ cm = 62)
def Sv (s : PS) (p : Nat) : Prop :=
  match s with
  | (nx, d, (pr, su, cm), lg, cur, dn) =>
    (∀ l, l ∈ dn → LnOk l) ∧ dn.length ≤ 16 ∧ opn lg ≤ 8 ∧ sgOk pr su cm ∧
    ((nx = 0 ∧ lg = [] ∧ cur = [] ∧ pr = 0 ∧ su = 0 ∧ cm = 0 ∧ (encL dn).length ≤ p) ∨
     (nx = 1 ∧ lg = [] ∧ cur = [] ∧ pr = 0 ∧ su = 0 ∧ cm = 0 ∧ dn.length < 16 ∧ (encL dn).length + 1 ≤ p) ∨
     (nx = 2 ∧ lg = [] ∧ cur = [] ∧ pr = 0 ∧ su = 0 ∧ cm = 0 ∧ dn.length < 16 ∧ (∃ k, k < 4 ∧ d = nI k) ∧ (encL dn).length + 2 ≤ p) ∨
     ((nx = 3 ∨ nx = 4 ∨ nx = 5 ∨ nx = 6 ∨ nx = 7) ∧ dn.length < 16 ∧ (∃ k, k < 4 ∧ d = nI k) ∧ (encL dn).length + cur.length + (pl pr).length + (pl su).length + (pl cm).length + lg.length + 3 ≤ p ∧
      ((nx = 3 ∧ pr = 0 ∧ su = 0 ∧ cm = 0 ∧ ∃ t, tyL cur [] = some t ∧ FitC lg t) ∨
       (nx = 4 ∧ pr ≠ 47 ∧ ∃ T, tyL cur [] = some T ∧ FitN pr su cm lg T) ∨
       (nx = 5 ∧ pr = 47 ∧ ∃ T, tyL cur [] = some T ∧ FitN pr su cm lg T) ∨
       (nx = 6 ∧ ∃ k T, tyL cur [] = some (k :: T) ∧ k < 2 ∧ (pr = 47 → k = 1) ∧ FitN pr su cm lg T) ∨
       (nx = 7 ∧ pr = 0 ∧ su = 0 ∧ cm = 0 ∧ ∃ t, tyL cur [] = some (2 :: t) ∧ FitC lg t))))
theorem tyL_app : ∀ {a c : List Op} {t : List Nat}, tyL (a ++ c) t = (tyL a t).bind (tyL c)
  | [], c, t => rfl
  | o :: a, c, t => by
    show (tyO o t).bind (tyL (a ++ c)) = ((tyO o t).bind (tyL a)).bind (tyL c)
    cases tyO o t with
    | none => rfl
    | some u => exact tyL_app
theorem encL_app (a c : List Ln) : encL (a ++ c) = encL a ++ encL c := List.flatMap_append
theorem encL_1 (d : Int32) (O : List Op) : (encL [(d, O)]).length = (if O = [] then 2 else O.length + 1) := by
  cases O with
  | nil => rfl
  | cons o r => simp [encL, encLn]
theorem stl_ty : ∀ {lg : List Int32} {t : List Nat} {r : Nat}, 0 < r → FitC lg t → ∃ t', tyL (stl r lg).1 (2 :: t) = some (2 :: t') ∧ FitC (stl r lg).2 t'
  | [], t, r, _, h => ⟨t, rfl, h⟩
  | x :: l, t, r, hr, h => by
    rw [stl_c]
    by_cases c : rkN x < r
    · rw [if_pos c]; exact ⟨t, rfl, h⟩
    · rw [if_neg c]
      rcases h with ⟨rfl, q⟩ | ⟨rfl, q⟩ | ⟨rfl, q0, t', rfl, q⟩ | ⟨rfl, q0, t', rfl, q⟩
      · obtain ⟨u, e1, e2⟩ := stl_ty hr q
        exact ⟨u, e1, e2⟩
      · exact absurd hr (by have : rkN 40 = 0 := by decide
                            omega)
      · obtain ⟨u, e1, e2⟩ := stl_ty hr q
        exact ⟨u, e1, e2⟩
      · obtain ⟨u, e1, e2⟩ := stl_ty hr q
        exact ⟨u, e1, e2⟩
theorem stl_1 : ∀ {lg : List Int32} {t : List Nat}, FitC lg t → (stl 1 lg).2 = [] ∨ ∃ r, (stl 1 lg).2 = 40 :: r
  | [], t, h => Or.inl rfl
  | x :: l, t, h => by
    rw [stl_c]
    rcases h with ⟨rfl, q⟩ | ⟨rfl, q⟩ | ⟨rfl, q0, t', rfl, q⟩ | ⟨rfl, q0, t', rfl, q⟩
    · rw [if_neg (by decide)]; exact stl_1 q
    · rw [if_pos (by decide)]; exact Or.inr ⟨l, rfl⟩
    · rw [if_neg (by decide)]; exact stl_1 q
    · rw [if_neg (by decide)]; exact stl_1 q
theorem stl_len (r : Nat) : ∀ lg : List Int32, (stl r lg).1.length + (stl r lg).2.length = lg.length ∧ opn (stl r lg).2 ≤ opn lg
  | [] => ⟨rfl, Nat.le_refl _⟩
  | x :: l => by
    rw [stl_c]
    have ih := stl_len r l
    by_cases c : rkN x < r
    · rw [if_pos c]; exact ⟨Nat.zero_add _, Nat.le_refl _⟩
    · rw [if_neg c]
      refine ⟨?_, ?_⟩
      · show ((stl r l).1.length + 1) + (stl r l).2.length = l.length + 1
        omega
      · show opn (stl r l).2 ≤ (if x = 204 ∨ x = 40 then 1 else 0) + opn l
        omega
theorem stl_rk {r : Nat} : ∀ lg : List Int32, 0 < r → rkh (stl r lg).2 < r
  | [], h => h
  | x :: l, h => by
    rw [stl_c]
    by_cases c : rkN x < r
    · rw [if_pos c]; exact c
    · rw [if_neg c]; exact stl_rk l h
theorem pl_len (x : Int32) : (pl x).length = (ol x).length := by unfold pl ol; split <;> rfl
/-- what a sign that waits makes of the kinds -/
theorem ty_pr {pr : Int32} {k : Nat} {T : List Nat} {P : List Nat → Prop} (h0 : pr = 0 ∨ pr = 42 ∨ pr = 47) (hk : k < 2) (h7 : pr = 47 → k = 1) (h : fitA pr T P) : ∃ k' T', k' < 2 ∧ tyL (ol pr) (k :: T) = some (k' :: T') ∧ P T' := by
  rcases h with ⟨rfl, q⟩ | ⟨hn, a, r, ha, rfl, q⟩
  · exact ⟨k, T, hk, rfl, q⟩
  · rcases h0 with e | rfl | rfl
    · exact absurd e hn
    · refine ⟨0, r, by decide, ?_, q⟩
      show (tyO (4, 0) (k :: a :: r)).bind _ = _
      unfold tyO
      simp [hk, ha, tyL]
    · refine ⟨0, r, by decide, ?_, q⟩
      have := h7 rfl
      subst this
      show (tyO (5, 0) (1 :: a :: r)).bind _ = _
      unfold tyO
      simp [ha, tyL]
theorem ty_su {su : Int32} {k : Nat} {T : List Nat} {P : List Nat → Prop} (h0 : su = 0 ∨ su = 43 ∨ su = 45) (hk : k < 2) (h : fitA su T P) : ∃ k' T', k' < 2 ∧ tyL (ol su) (k :: T) = some (k' :: T') ∧ P T' := by
  rcases h with ⟨rfl, q⟩ | ⟨hn, a, r, ha, rfl, q⟩
  · exact ⟨k, T, hk, rfl, q⟩
  · rcases h0 with e | rfl | rfl
    · exact absurd e hn
    · refine ⟨0, r, by decide, ?_, q⟩
      show (tyO (2, 0) (k :: a :: r)).bind _ = _
      unfold tyO
      simp [hk, ha, tyL]
    · refine ⟨0, r, by decide, ?_, q⟩
      show (tyO (3, 0) (k :: a :: r)).bind _ = _
      unfold tyO
      simp [hk, ha, tyL]
theorem ty_cm {cm : Int32} {k : Nat} {T : List Nat} {P : List Nat → Prop} (h0 : cm = 60 ∨ cm = 61 ∨ cm = 62) (hk : k < 2) (h : fitA cm T P) : ∃ T', tyL (ol cm) (k :: T) = some (2 :: T') ∧ P T' := by
  rcases h with ⟨rfl, q⟩ | ⟨hn, a, r, ha, rfl, q⟩
  · rcases h0 with e | e | e <;> exact absurd e (by decide)
  · rcases h0 with rfl | rfl | rfl
    · refine ⟨r, ?_, q⟩
      show (tyO (6, 0) (k :: a :: r)).bind _ = _
      unfold tyO
      simp [hk, ha, tyL]
    · refine ⟨r, ?_, q⟩
      show (tyO (7, 0) (k :: a :: r)).bind _ = _
      unfold tyO
      simp [hk, ha, tyL]
    · refine ⟨r, ?_, q⟩
      show (tyO (8, 0) (k :: a :: r)).bind _ = _
      unfold tyO
      simp [hk, ha, tyL]
