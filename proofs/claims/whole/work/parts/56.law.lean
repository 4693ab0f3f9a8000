/-! ===== what a farm does: a law's lines ===== -/
def binS (o a b : Int32) : Int32 :=
  if o = 2 then a + b else if o = 3 then a - b else if o = 4 then a * b else if o = 5 then a / b else if o = 6 then (if b ≤ a then 0 else 1)
  else if o = 7 then (if a = b then 1 else 0) else if o = 8 then (if a ≤ b then 0 else 1) else if o = 10 then a * b else (if a + b ≤ 0 then 0 else 1)
def evO (ask : Nat → Int32) (p : Op) (st : List Int32) : List Int32 :=
  if p.1 = 0 then p.2 :: st else if p.1 = 1 then ask (ix p.2) :: st
  else if p.1 = 9 then (match st with
    | x :: r => (1 - x) :: r
    | [] => [])
  else match st with
    | b :: a :: r => binS p.1 a b :: r
    | s => s
def evL (ask : Nat → Int32) : List Op → List Int32 → List Int32
  | [], st => st
  | p :: r, st => evL ask r (evO ask p st)
def okv (t : Nat) (v : Int32) : Prop := (t = 1 → v ≠ 0) ∧ (t = 2 → v = 0 ∨ v = 1)
def okS : List Nat → List Int32 → Prop
  | [], [] => True
  | t :: ts, v :: vs => okv t v ∧ okS ts vs
  | _, _ => False
theorem okS_len : ∀ {t : List Nat} {s : List Int32}, okS t s → t.length = s.length
  | [], [], _ => rfl
  | _ :: _, _ :: _, h => by simp [okS_len h.2]
  | [], _ :: _, h => h.elim
  | _ :: _, [], h => h.elim
def biK (p : Op) (a b : Nat) (k : Nat) : Prop := ((p.1 = 2 ∨ p.1 = 3 ∨ p.1 = 4) ∧ b < 2 ∧ a < 2 ∧ k = 0) ∨ (p.1 = 5 ∧ b = 1 ∧ a < 2 ∧ k = 0) ∨ ((p.1 = 6 ∨ p.1 = 7 ∨ p.1 = 8) ∧ b < 2 ∧ a < 2 ∧ k = 2) ∨ ((p.1 = 10 ∨ p.1 = 11) ∧ b = 2 ∧ a = 2 ∧ k = 2)
theorem ty_cases {p : Op} {t t' : List Nat} (h : tyO p t = some t') : (p.1 = 0 ∧ 0 ≤ p.2 ∧ p.2 ≤ 9999 ∧ t' = (if p.2 = 0 then 0 else 1) :: t) ∨ (p.1 = 1 ∧ 0 ≤ p.2 ∧ p.2 ≤ 14 ∧ t' = 0 :: t) ∨ (p.1 = 9 ∧ ∃ r, t = 2 :: r ∧ t' = 2 :: r) ∨ ∃ b a r k, t = b :: a :: r ∧ t' = k :: r ∧ biK p a b k := by
  unfold tyO at h
  by_cases h0 : p.1 = 0
  · rw [if_pos h0] at h
    split at h
    · next q => cases h; exact Or.inl ⟨h0, q.1, q.2, rfl⟩
    · cases h
  rw [if_neg h0] at h
  by_cases h1 : p.1 = 1
  · rw [if_pos h1] at h
    split at h
    · next q => cases h; exact Or.inr (Or.inl ⟨h1, q.1, q.2, rfl⟩)
    · cases h
  rw [if_neg h1] at h
  by_cases h9 : p.1 = 9
  · rw [if_pos h9] at h
    split at h
    · cases h; exact Or.inr (Or.inr (Or.inl ⟨h9, _, rfl, rfl⟩))
    · cases h
  rw [if_neg h9] at h
  refine Or.inr (Or.inr (Or.inr ?_))
  split at h
  · next b a r =>
    unfold biK
    split at h
    · next q1 => split at h
                 · next q2 => cases h; exact ⟨_, _, _, _, rfl, rfl, Or.inl ⟨q1, q2.1, q2.2, rfl⟩⟩
                 · cases h
    · split at h
      · next q1 => split at h
                   · next q2 => cases h; exact ⟨_, _, _, _, rfl, rfl, Or.inr (Or.inl ⟨q1, q2.1, q2.2, rfl⟩)⟩
                   · cases h
      · split at h
        · next q1 => split at h
                     · next q2 => cases h; exact ⟨_, _, _, _, rfl, rfl, Or.inr (Or.inr (Or.inl ⟨q1, q2.1, q2.2, rfl⟩))⟩
                     · cases h
        · split at h
          · next q1 => split at h
                       · next q2 => cases h; exact ⟨_, _, _, _, rfl, rfl, Or.inr (Or.inr (Or.inr ⟨q1, q2.1, q2.2, rfl⟩))⟩
                       · cases h
          · cases h
  · cases h
/-- kinds are kept -/
theorem ev_ok {ask : Nat → Int32} {p : Op} {t t' : List Nat} {st : List Int32} (h : tyO p t = some t') (hs : okS t st) : okS t' (evO ask p st) := by
  rcases ty_cases h with ⟨h0, -, -, rfl⟩ | ⟨h1, -, -, rfl⟩ | ⟨h9, r, rfl, rfl⟩ | ⟨b, a, r, k, rfl, rfl, hk⟩
  · unfold evO; rw [if_pos h0]
    refine ⟨⟨fun q => ?_, fun q => ?_⟩, hs⟩
    · split at q <;> first | assumption | omega
    · split at q <;> omega
  · unfold evO; rw [if_neg (by rw [h1]; decide), if_pos h1]
    exact ⟨⟨fun q => by omega, fun q => by omega⟩, hs⟩
  · cases st with
    | nil => exact hs.elim
    | cons x st =>
      unfold evO; rw [if_neg (by rw [h9]; decide), if_neg (by rw [h9]; decide), if_pos h9]
      refine ⟨⟨fun q => by omega, fun _ => ?_⟩, hs.2⟩
      rcases hs.1.2 rfl with e | e <;> rw [e] <;> decide
  · cases st with
    | nil => exact hs.elim
    | cons y st =>
      cases st with
      | nil => exact hs.2.elim
      | cons x st =>
        have n0 : p.1 ≠ 0 := by intro e; unfold biK at hk; rw [e] at hk; revert hk; simp
        have n1 : p.1 ≠ 1 := by intro e; unfold biK at hk; rw [e] at hk; revert hk; simp
        have n9 : p.1 ≠ 9 := by intro e; unfold biK at hk; rw [e] at hk; revert hk; simp
        unfold evO; rw [if_neg n0, if_neg n1, if_neg n9]
        refine ⟨⟨fun q => ?_, fun q => ?_⟩, hs.2.2⟩
        · unfold biK at hk; omega
        · have ya := hs.1.2
          have xa := hs.2.1.2
          rcases hk with ⟨-, -, -, z⟩ | ⟨-, -, -, z⟩ | ⟨e, -, -, -⟩ | ⟨e, rfl, rfl, -⟩
          · omega
          · omega
          · unfold binS
            rcases e with e | e | e <;> rw [e] <;> simp <;> grind
          · unfold binS
            rcases ya rfl with e1 | e1 <;> rcases xa rfl with e2 | e2 <;> rcases e with e | e <;> rw [e, e1, e2] <;> decide
theorem evL_ok {ask : Nat → Int32} : ∀ {ops : List Op} {t t' : List Nat} {st : List Int32}, tyL ops t = some t' → okS t st → okS t' (evL ask ops st)
  | [], t, t', st, h, hs => by cases h; exact hs
  | p :: r, t, t', st, h, hs => by
    unfold tyL at h
    obtain ⟨t1, h1, h2⟩ := bind_elim h
    exact evL_ok (ops := r) h2 (ev_ok h1 hs)
/-- the depth grows by one at most -/
theorem ev_len {ask : Nat → Int32} {p : Op} {t t' : List Nat} {st : List Int32} (h : tyO p t = some t') (hs : okS t st) : (evO ask p st).length ≤ st.length + 1 := by
  have h1 := okS_len (ev_ok (ask := ask) h hs)
  have h2 := okS_len hs
  rcases ty_cases h with ⟨h0, -, -, rfl⟩ | ⟨h1, -, -, rfl⟩ | ⟨h9, r, rfl, rfl⟩ | ⟨b, a, r, k, rfl, rfl, hk⟩ <;> simp at h1 h2 <;> omega
/-! the stack in memory -/
def stk (m : Nat → Int32) : List Int32 → Prop
  | [] => True
  | x :: r => m r.length = x ∧ stk m r
theorem stk_fr {m m' : Nat → Int32} : ∀ {st : List Int32}, (∀ j, j < st.length → m' j = m j) → stk m st → stk m' st
  | [], _, _ => trivial
  | x :: r, h, hs => ⟨by rw [h _ (by simp)]; exact hs.1, stk_fr (fun j hj => h j (by simp; omega)) hs.2⟩
theorem stk_push {M : Mem} {k : Nat} {st : List Int32} {x : Int32} (h : stk (rd M k) st) : stk (rd (wr M k st.length x) k) (x :: st) := by
  refine ⟨?_, stk_fr (fun j hj => ?_) h⟩
  · show rd (wr M k st.length x) k st.length = x
    rw [rd_wr, if_pos ⟨rfl, rfl⟩]
  · show rd (wr M k st.length x) k j = rd M k j
    rw [rd_wr, if_neg (by omega)]
/-! the same as bnd_is, chk_t, some_bind, but no steps by computation -/
theorem bnd_e {α β : Type} (x : α) (f : α → Option β) : bnd x f = f x := by
  have h : ∀ o : Option β, o = f x → o = f x := fun _ h => h
  exact h _ rfl
theorem rd_we (M : Mem) (k j k' j' : Nat) (x : Int32) : rd (wr M k j x) k' j' = if k' = k ∧ j' = j then x else rd M k' j' := by
  have h : ∀ o : Int32, o = (if k' = k ∧ j' = j then x else rd M k' j') → o = (if k' = k ∧ j' = j then x else rd M k' j') := fun _ h => h
  exact h _ (rd_wr M k j k' j' x)
theorem chk_e {β : Type} (k : Option β) : chk true k = k := if_pos (Eq.refl true)
/-! what a farm sees -/
def askS (V : Vw) (n f i : Nat) : Int32 :=
  if i = 0 then V 149 f else if i = 1 then V 149 (lfN n f) else if i = 2 then V 149 (rtN n f)
  else if i = 3 then worthS V (V 149 f + V 162 9) - worthS V (V 149 f) else if i = 4 then worthS V (V 149 f) - worthS V (if V 149 f ≤ V 162 9 then 0 else V 149 f - V 162 9)
  else if i = 5 then V 148 3 else if i = 6 then V 154 f else if i = 7 then V 152 f else if i = 8 then V 152 (lfN n f) else if i = 9 then V 152 (rtN n f)
  else if i = 10 then (if V 151 (lfN n f) = V 151 f then 1 else 0) else if i = 11 then (if V 151 (rtN n f) = V 151 f then 1 else 0)
  else if i = 12 then V 157 (lfN n f) else if i = 13 then V 157 f else V 153 f
section ASK
variable {R n f : Nat} {M : Mem} {V : Vw} {W N : Int}
theorem cseen_is (hV : vC R M = V) (h : Vok V n W N) (hW : W ≤ 100000) (hf : f < n) {i : Nat} (hi : i < 15) : m_X4_seen R M (nI f) (nI i) = some (askS V n f i) := by
  have h10 := h.1.2.2
  have hR : rd M R 0 = nI n := (c_n hV).trans h.1.1
  have hl := lfN_lt hf
  have hr := rtN_lt hf
  have h9 := h.2.2.2.2.2.2.2.2.2.1
  have h1 := h.wide (f := f) (by omega)
  have h3 : V 149 f ≤ 100000 := I_le.mpr (Int.le_trans (V_le h (by omega)) hW)
  have e4 : (if 0 < V 149 f - V 162 9 then V 149 f - V 162 9 else 0) = (if V 149 f ≤ V 162 9 then 0 else V 149 f - V 162 9) := by
    have := I_le.mp h1
    have := I_le.mp h9.1
    have := I_le.mp h9.2
    have := I_le.mp h3
    have t1 : (100000 : Int32).toInt = 100000 := rfl
    rw [tI_0] at *
    rw [tI_5] at *
    have hs : (V 149 f - V 162 9).toInt = (V 149 f).toInt - (V 162 9).toInt := I_sub (by omega) (by omega)
    by_cases q : V 149 f ≤ V 162 9
    · rw [if_pos q, if_neg]
      intro z
      have q1 := I_le.mp q
      have q2 := I_lt.mp z
      rw [hs, tI_0] at q2; omega
    · rw [if_neg q, if_pos]
      apply I_lt.mpr
      have q1 := mt I_le.mpr q
      rw [hs, tI_0]; omega
  unfold m_X4_seen m_X4_purseAsInt
  simp only [inb_nI (show f < 10 by omega) (by decide), inb_nI (show lfN n f < 10 by omega) (by decide), inb_nI (show rtN n f < 10 by omega) (by decide), chk_t, cleft_is hR hf h10, cright_is hR hf h10, some_bind, bnd_is, ix_nI (show f < 2 ^ 31 by omega), ix_nI (show lfN n f < 2 ^ 31 by omega), ix_nI (show rtN n f < 2 ^ 31 by omega), ix_0, ix_2, ix_3, ix_5, ix_9, c_wide hV (show f < 10 by omega), c_wide hV (show lfN n f < 10 by omega), c_wide hV (show rtN n f < 10 by omega), c_dog hV (show f < 10 by omega), c_dog hV (show lfN n f < 10 by omega), c_dog hV (show rtN n f < 10 by omega), c_fam hV (show f < 10 by omega), c_fam hV (show lfN n f < 10 by omega), c_fam hV (show rtN n f < 10 by omega), c_hit hV (show f < 10 by omega), c_wall hV (show f < 10 by omega), c_wall hV (show lfN n f < 10 by omega), c_set hV (show 9 < 10 by decide), c_ni hV, c_pur hV (show f < 10 by omega), cworth_is hV, e4]
  unfold askS
  rcases (by omega : i = 0 ∨ i = 1 ∨ i = 2 ∨ i = 3 ∨ i = 4 ∨ i = 5 ∨ i = 6 ∨ i = 7 ∨ i = 8 ∨ i = 9 ∨ i = 10 ∨ i = 11 ∨ i = 12 ∨ i = 13 ∨ i = 14) with rfl | rfl | rfl | rfl | rfl | rfl | rfl | rfl | rfl | rfl | rfl | rfl | rfl | rfl | rfl
  all_goals first
    | rfl
    | (show (if V 151 (lfN n f) = V 151 f then some 1 else some 0) = some (if V 151 (lfN n f) = V 151 f then (1 : Int32) else 0); split <;> rfl)
    | (show (if V 151 (rtN n f) = V 151 f then some 1 else some 0) = some (if V 151 (rtN n f) = V 151 f then (1 : Int32) else 0); split <;> rfl)
theorem nn_ite {a b : Int32} (h1 : 0 ≤ a) (h9 : 0 ≤ b ∧ b ≤ 5) : 0 ≤ (if a ≤ b then 0 else a - b) := by
  split
  · decide
  · next q => grind
/-- the view at a memory of which only the asked are other -/
def Av (V : Vw) (M : Mem) : Prop := (∀ k j, 149 ≤ k → k ≤ 162 → j < 10 → rd M k j = V k j) ∧ rd M 148 3 = V 148 3
theorem Av.w {j : Nat} {x : Int32} (h : Av V M) : Av V (wr M 172 j x) := ⟨fun k j' q1 q2 q3 => by rw [rd_wr, if_neg (by omega)]; exact h.1 k j' q1 q2 q3, by rw [rd_wr, if_neg (by omega)]; exact h.2⟩
theorem eta_b (o : Option (Int32 × Mem)) : (o.bind (un2 fun r M1 => some (r, M1))) = o := by
  cases o with
  | none => rfl
  | some x => rfl
theorem Av.wo (h : Av V M) {w : Int32} (hw : 0 ≤ w) : m_X6_worthOf M w = some (worthS V w) := by
  have e : worthS (vM M) w = worthS V w := by
    unfold worthS
    rw [show vM M 162 0 = V 162 0 from (m_at (V := vM M) rfl (by decide) (by decide) (by decide)).symm.trans (h.1 162 0 (by decide) (by decide) (by decide)), show vM M 162 1 = V 162 1 from (m_at (V := vM M) rfl (by decide) (by decide) (by decide)).symm.trans (h.1 162 1 (by decide) (by decide) (by decide)), show vM M 162 2 = V 162 2 from (m_at (V := vM M) rfl (by decide) (by decide) (by decide)).symm.trans (h.1 162 2 (by decide) (by decide) (by decide))]
  rw [mworth_is rfl hw, e]
theorem ma240 {fu l : Nat} {x : Int32} (h : Av V M) (hf : f < 10) (hl : l < 10) : j_X6_doingOf_240 fu M (nI f) (nI l) 11 x = m_X6_doingBy fu (wr (wr (wr (wr M 172 11 x) 172 12 (V 157 l)) 172 13 (V 157 f)) 172 14 (V 153 f)) (V 150 f) := by
  unfold j_X6_doingOf_240
  rw [chk_is (by decide), bnd_e, chk_is (inb_nI hl (by decide)), ix_nI (by omega), ix_11, ix_12, bnd_e, chk_is (inb_nI hf (by decide)), ix_nI (by omega), ix_13, bnd_e, ix_14, bnd_e]
  rw [h.w.1 157 l (by decide) (by decide) hl, h.w.w.1 157 f (by decide) (by decide) hf, h.w.w.w.1 153 f (by decide) (by decide) hf, h.w.w.w.w.1 150 f (by decide) (by decide) hf]
  exact eta_b _
theorem ma212 {fu l r : Nat} {x : Int32} (h : Av V M) (hf : f < 10) (hl : l < 10) (hr : r < 10) : j_X6_doingOf_212 fu M (nI f) (nI l) (nI r) 10 x = m_X6_doingBy fu (wr (wr (wr (wr (wr M 172 10 x) 172 11 (if V 151 r = V 151 f then 1 else 0)) 172 12 (V 157 l)) 172 13 (V 157 f)) 172 14 (V 153 f)) (V 150 f) := by
  unfold j_X6_doingOf_212
  rw [chk_is (by decide), bnd_e, chk_is (inb_nI hr (by decide)), chk_is (inb_nI hf (by decide)), ix_nI (n := r) (by omega), ix_nI (n := f) (by omega), ix_10, h.w.1 151 r (by decide) (by decide) hr, h.w.1 151 f (by decide) (by decide) hf]
  by_cases q : V 151 r = V 151 f
  · rw [if_pos q, if_pos q, ma240 h.w hf hl]
  · rw [if_neg q, if_neg q, ma240 h.w hf hl]
theorem ma118 {fu l r : Nat} {x w : Int32} (h : Av V M) (hw : 0 ≤ w) (hf : f < 10) (hl : l < 10) (hr : r < 10) : j_X6_doingOf_118 fu M (nI f) (nI l) (nI r) 4 x w = m_X6_doingBy fu (wr (wr (wr (wr (wr (wr (wr (wr (wr (wr (wr M 172 4 (x - worthS V w)) 172 5 (V 148 3)) 172 6 (V 154 f)) 172 7 (V 152 f)) 172 8 (V 152 l)) 172 9 (V 152 r)) 172 10 (if V 151 l = V 151 f then 1 else 0)) 172 11 (if V 151 r = V 151 f then 1 else 0)) 172 12 (V 157 l)) 172 13 (V 157 f)) 172 14 (V 153 f)) (V 150 f) := by
  unfold j_X6_doingOf_118
  rw [h.wo hw, some_bind, chk_is (by decide), bnd_e, ix_4, h.w.2, ix_5, bnd_e, chk_is (inb_nI hf (by decide)), ix_nI (n := f) (by omega), ix_6, bnd_e, ix_7, bnd_e, chk_is (inb_nI hl (by decide)), ix_nI (n := l) (by omega), ix_8, bnd_e, chk_is (inb_nI hr (by decide)), ix_nI (n := r) (by omega), ix_9, bnd_e]
  rw [h.w.w.1 154 f (by decide) (by decide) hf, h.w.w.w.1 152 f (by decide) (by decide) hf, h.w.w.w.w.1 152 l (by decide) (by decide) hl, h.w.w.w.w.w.1 152 r (by decide) (by decide) hr, h.w.w.w.w.w.w.1 151 l (by decide) (by decide) hl, h.w.w.w.w.w.w.1 151 f (by decide) (by decide) hf]
  by_cases q : V 151 l = V 151 f
  · rw [if_pos q, if_pos q, ma212 h.w.w.w.w.w.w hf hl hr]
  · rw [if_neg q, if_neg q, ma212 h.w.w.w.w.w.w hf hl hr]
theorem Av.of (hV : vM M = V) : Av V M := ⟨fun _ _ q1 q2 q3 => m_at hV q1 q2 q3, m_ni hV⟩
def askM (V : Vw) (n f : Nat) (M : Mem) : Mem := wr (wr (wr (wr (wr (wr (wr (wr (wr (wr (wr (wr (wr (wr (wr M 172 0 (V 149 f)) 172 1 (V 149 (lfN n f))) 172 2 (V 149 (rtN n f))) 172 3 (worthS V (V 149 f + V 162 9) - worthS V (V 149 f))) 172 4 (worthS V (V 149 f) - worthS V (if V 149 f ≤ V 162 9 then 0 else V 149 f - V 162 9))) 172 5 (V 148 3)) 172 6 (V 154 f)) 172 7 (V 152 f)) 172 8 (V 152 (lfN n f))) 172 9 (V 152 (rtN n f))) 172 10 (if V 151 (lfN n f) = V 151 f then 1 else 0)) 172 11 (if V 151 (rtN n f) = V 151 f then 1 else 0)) 172 12 (V 157 (lfN n f))) 172 13 (V 157 f)) 172 14 (V 153 f)
theorem mask_do {fu : Nat} (hV : vM M = V) (h : Vok V n W N) (hW : W ≤ 100000) (hf : f < n) (h0 : V 149 f ≠ 0) : m_X6_doingOf fu M (nI f) = m_X6_doingBy fu (askM V n f M) (V 150 f) := by
  have h10 := h.1.2.2
  have hl := lfN_lt hf
  have hr := rtN_lt hf
  have h1 := h.wide (f := f) (by omega)
  have h5 := h.five hW (f := f) (by omega)
  have h9 := h.2.2.2.2.2.2.2.2.2.1
  have A := Av.of hV
  have hR : rd M 148 2 = nI n := (m_n hV).trans h.1.1
  unfold m_X6_doingOf
  rw [chk_is (inb_nI (by omega : f < 10) (by decide)), bnd_e, ix_nI (n := f) (by omega), A.1 149 f (by decide) (by decide) (by omega), if_neg h0, mleft_is hR hf h10, some_bind, mright_is hR hf h10, some_bind, bnd_e, ix_0, chk_is (inb_nI (by omega : lfN n f < 10) (by decide)), bnd_e, ix_nI (n := lfN n f) (by omega), ix_1, chk_is (inb_nI (by omega : rtN n f < 10) (by decide)), bnd_e, ix_nI (n := rtN n f) (by omega), ix_2]
  rw [A.w.1 149 (lfN n f) (by decide) (by decide) (by omega), A.w.w.1 149 (rtN n f) (by decide) (by decide) (by omega), ix_9, A.w.w.w.1 162 9 (by decide) (by decide) (by decide), A.w.w.w.wo h5, some_bind, A.w.w.w.wo h1, some_bind, bnd_e, ix_3, A.w.w.w.w.wo h1, some_bind, A.w.w.w.w.1 162 9 (by decide) (by decide) (by decide)]
  by_cases q : V 149 f ≤ V 162 9
  · rw [if_pos q, ma118 A.w.w.w.w (by decide) (by omega) (by omega) (by omega)]
    unfold askM
    rw [if_pos q]
  · rw [if_neg q, ma118 A.w.w.w.w (by grind) (by omega) (by omega) (by omega)]
    unfold askM
    rw [if_neg q]
theorem askM_at {i : Nat} (hi : i < 15) : rd (askM V n f M) 172 i = askS V n f i := by
  unfold askM askS
  rcases (by omega : i = 0 ∨ i = 1 ∨ i = 2 ∨ i = 3 ∨ i = 4 ∨ i = 5 ∨ i = 6 ∨ i = 7 ∨ i = 8 ∨ i = 9 ∨ i = 10 ∨ i = 11 ∨ i = 12 ∨ i = 13 ∨ i = 14) with rfl | rfl | rfl | rfl | rfl | rfl | rfl | rfl | rfl | rfl | rfl | rfl | rfl | rfl | rfl <;> simp [rd_we]
theorem askM_out {k j : Nat} (hk : k ≠ 172) : rd (askM V n f M) k j = rd M k j := by
  unfold askM
  have e : ∀ (M1 : Mem) (j' : Nat) (x : Int32), rd (wr M1 172 j' x) k j = rd M1 k j := fun M1 j' x => by rw [rd_wr, if_neg (fun z => hk z.1)]
  rw [e, e, e, e, e, e, e, e, e, e, e, e, e, e, e]
end ASK
