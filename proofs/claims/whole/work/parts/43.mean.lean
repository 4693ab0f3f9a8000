/-! ===== small functions, and VALUE ===== -/
def tf (p : Prop) [Decidable p] : Int32 := if p then 1 else 0
theorem tf_0 {p : Prop} [Decidable p] : tf p = 0 ↔ ¬ p := by unfold tf; by_cases h : p <;> simp [h]
theorem tf_t {p : Prop} [Decidable p] (h : p) : tf p = 1 := by unfold tf; rw [if_pos h]
theorem tf_f {p : Prop} [Decidable p] (h : ¬ p) : tf p = 0 := by unfold tf; rw [if_neg h]
theorem isIn_is (M : Mem) (a lo hi : Int32) : m_X6_isIn M a lo hi = some (tf (¬ a < lo ∧ ¬ hi < a)) := by
  unfold m_X6_isIn tf; grind
theorem has_is (R : Nat) (M : Mem) (a : Int32) : m_X4_has R M a = some (tf (¬ a < 0 ∧ ¬ rd M R 0 ≤ a)) := by
  unfold m_X4_has tf; grind
theorem isFarm_is (M : Mem) (a : Int32) : m_X6_isFarm M a = some (tf (¬ a < 0 ∧ ¬ rd M 148 2 ≤ a)) := by
  unfold m_X6_isFarm tf; grind
theorem less_is (M : Mem) (a b : Int32) : m_X6_less M a b = some (if b ≤ a then b else a) := by
  unfold m_X6_less; grind
theorem size_is (M : Mem) (a : Int32) : m_X6_size M a = some (if 0 ≤ a then a else -a) := by
  unfold m_X6_size; grind
/-! neighbours -/
def lfN (n f : Nat) : Nat := if f = 0 then n - 1 else f - 1
def rtN (n f : Nat) : Nat := if f = n - 1 then 0 else f + 1
theorem lfN_lt {n f : Nat} (h : f < n) : lfN n f < n := by unfold lfN; split <;> omega
theorem rtN_lt {n f : Nat} (h : f < n) : rtN n f < n := by unfold rtN; split <;> omega
theorem rt_lf {n f : Nat} (h : f < n) (h2 : 2 ≤ n) : rtN n (lfN n f) = f := by unfold rtN lfN; split <;> split <;> omega
theorem irem_lf : ∀ n : Nat, n < 11 → ∀ f : Nat, f < n → irem (nI f + nI n - 1) (nI n) = nI (lfN n f) := by decide +kernel
theorem irem_rt : ∀ n : Nat, n < 11 → ∀ f : Nat, f < n → irem (nI f + 1) (nI n) = nI (rtN n f) := by decide +kernel
theorem cleft_is {R n f : Nat} {M : Mem} (hn : rd M R 0 = nI n) (h : f < n) (h10 : n ≤ 10) : m_X4_leftOf R M (nI f) = some (nI (lfN n f)) := by
  unfold m_X4_leftOf lfN
  rw [hn]
  by_cases h0 : f = 0
  · subst h0
    rw [if_pos (by decide), if_pos rfl]
    obtain ⟨k, rfl⟩ : ∃ k, n = k + 1 := ⟨n - 1, by omega⟩
    rw [nI_pred]; rfl
  · rw [if_neg (nI_ne0 (by omega) (by omega)), if_neg h0]
    obtain ⟨k, rfl⟩ : ∃ k, f = k + 1 := ⟨f - 1, by omega⟩
    rw [nI_pred]; rfl
theorem nI_inj {a b : Nat} (ha : a < 2 ^ 31) (hb : b < 2 ^ 31) (h : nI a = nI b) : a = b := by
  have := congrArg Int32.toInt h
  rw [nI_toInt ha, nI_toInt hb] at this; omega
theorem cright_is {R n f : Nat} {M : Mem} (hn : rd M R 0 = nI n) (h : f < n) (h10 : n ≤ 10) : m_X4_rightOf R M (nI f) = some (nI (rtN n f)) := by
  unfold m_X4_rightOf rtN
  rw [hn]
  obtain ⟨k, rfl⟩ : ∃ k, n = k + 1 := ⟨n - 1, by omega⟩
  rw [nI_pred, Nat.add_sub_cancel]
  by_cases h0 : f = k
  · subst h0
    rw [if_pos rfl, if_pos rfl]; rfl
  · rw [if_neg (fun e => h0 (nI_inj (by omega) (by omega) e)), if_neg h0, nI_1]
theorem mleft_is {n f : Nat} {M : Mem} (hn : rd M 148 2 = nI n) (h : f < n) (h10 : n ≤ 10) : m_X6_leftOf M (nI f) = some (nI (lfN n f)) := by
  unfold m_X6_leftOf
  rw [hn, chk_is (by simp [nI_ne0 (n := n) (by omega) (by omega)]), irem_lf n (by omega) f h]
theorem mright_is {n f : Nat} {M : Mem} (hn : rd M 148 2 = nI n) (h : f < n) (h10 : n ≤ 10) : m_X6_rightOf M (nI f) = some (nI (rtN n f)) := by
  unfold m_X6_rightOf
  rw [hn, chk_is (by simp [nI_ne0 (n := n) (by omega) (by omega)]), irem_rt n (by omega) f h]
/-! WORTH -/
def worthS (V : Vw) (w : Int32) : Int32 := V 162 0 * (if 10 < w then 10 else w) + V 162 1 * (if 0 < (if 30 < w then 30 else w) - 10 then (if 30 < w then 30 else w) - 10 else 0) + V 162 2 * (if 0 < w - 30 then w - 30 else 0)
theorem cworth_is {R : Nat} {M : Mem} {V : Vw} (hV : vC R M = V) (w : Int32) : m_X4_worthOf R M w = some (worthS V w) := by
  unfold m_X4_worthOf worthS
  rw [ix_0, ix_1, ix_2, c_set hV (by decide), c_set hV (by decide), c_set hV (by decide)]
theorem mworth_is {M : Mem} {V : Vw} (hV : vM M = V) {w : Int32} (hw : 0 ≤ w) : m_X6_worthOf M w = some (worthS V w) := by
  unfold m_X6_worthOf worthS
  have e1 : (if (10 : Int32) ≤ w then 10 else w) = (if 10 < w then 10 else w) := by grind
  have e2 : (if (30 : Int32) ≤ w then 30 else w) - (if (10 : Int32) ≤ w then 10 else w) = (if 0 < (if 30 < w then 30 else w) - 10 then (if 30 < w then 30 else w) - 10 else 0) := by grind
  have e0 : ∀ a c : Int32, w - a - (c - a) = w - c := by intro a c; grind
  have e3 : w - (if (30 : Int32) ≤ w then 30 else w) = (if 0 < w - 30 then w - 30 else 0) := by
    have h0 := I_le.mp hw
    have h1 := Int32.toInt_lt w
    rw [tI_0] at h0
    have hs : (w - 30).toInt = w.toInt - 30 := by rw [I_sub (by rw [tI_30]; omega) (by rw [tI_30]; omega), tI_30]
    by_cases h : (30 : Int32) ≤ w
    · rw [if_pos h]
      by_cases h2 : 0 < w - 30
      · rw [if_pos h2]
      · rw [if_neg h2]
        have q := mt I_lt.mpr h2
        have q2 := I_le.mp h
        rw [hs, tI_0] at q
        rw [tI_30] at q2
        apply I_eq.mpr
        rw [hs, tI_0]; omega
    · rw [if_neg h, if_neg]
      · exact Int32.sub_self w
      · intro h2
        have q := I_lt.mp h2
        rw [hs, tI_0] at q
        exact h (I_le.mpr (by rw [tI_30]; omega))
  simp only [less_is, some_bind, bnd_is, ix_0, ix_1, ix_2, m_at hV (k := 162) (f := 0) (by decide) (by decide) (by decide), m_at hV (k := 162) (f := 1) (by decide) (by decide) (by decide), m_at hV (k := 162) (f := 2) (by decide) (by decide) (by decide)]
  rw [e0, e3, e2, e1]
/-! VALUE -/
def costS (V : Vw) (f : Nat) (d : Int32) : Int32 := (if V 152 f = 0 then 0 else V 162 5) + (if d = 1 then V 162 4 else if d = 0 then 0 else V 162 3)
def canS (V : Vw) (b f o : Nat) : Prop := V 157 b = 0 ∧ ¬ V 162 9 ≤ 0 ∧ ¬ V 149 f ≤ 0 ∧ ¬ V 149 o ≤ 0
noncomputable def chS (V : Vw) (b o : Nat) (wt : Prop) [Decidable wt] : Int32 := (if wt then 1000 - V 162 7 else if V 152 o = 0 then 1000 else 1000 - V 162 8) / (1 + V 158 b)
def mnS (a b : Int32) : Int32 := if b < a then b else a
noncomputable def gainS (V : Vw) (b f o : Nat) (wt : Prop) [Decidable wt] : Int32 :=
  if V 157 b = 0 ∧ ¬ V 162 9 ≤ 0 ∧ ¬ V 149 f ≤ 0 ∧ ¬ V 149 o ≤ 0 then chS V b o wt * (worthS V (V 149 f + mnS (V 162 9) (V 149 o)) - worthS V (V 149 f)) - (1000 - chS V b o wt) * V 162 6 else 0
noncomputable def lossS (V : Vw) (b f o : Nat) (wt : Prop) [Decidable wt] : Int32 :=
  if V 157 b = 0 ∧ ¬ V 162 9 ≤ 0 ∧ ¬ V 149 f ≤ 0 ∧ ¬ V 149 o ≤ 0 then chS V b f wt * (worthS V (V 149 f) - worthS V (V 149 f - mnS (V 162 9) (V 149 f))) else 0
noncomputable def meanS (V : Vw) (n f : Nat) (l o r : Int32) : Int32 :=
  (-1000) * costS V f o + (if o = 2 then gainS V (lfN n f) f (lfN n f) (l = 1) else if o = 3 then gainS V f f (rtN n f) (r = 1) else 0)
    - (if l = 3 then lossS V (lfN n f) f (lfN n f) (o = 1) else 0) - (if r = 2 then lossS V f f (rtN n f) (o = 1) else 0)
section CLASS
variable {R n f b o : Nat} {M : Mem} {V : Vw}
theorem ccost_is (hV : vC R M = V) (hf : f < 10) (d : Int32) : m_X4_costOf R M (nI f) d = some (costS V f d) := by
  unfold m_X4_costOf j_X4_costOf_21 costS
  simp only [bnd_is, inb_nI hf (by decide), chk_t, ix_nI (n := f) (by omega), ix_3, ix_4, ix_5, c_dog hV hf, c_set hV (f := 3) (by decide), c_set hV (f := 4) (by decide), c_set hV (f := 5) (by decide)]
  grind
theorem ccan_is (hV : vC R M = V) (hb : b < 10) (hf : f < 10) (ho : o < 10) : m_X0_canMove R M (nI b) (nI f) (nI o) = some (tf (V 157 b = 0 ∧ ¬ V 162 9 ≤ 0 ∧ ¬ V 149 f ≤ 0 ∧ ¬ V 149 o ≤ 0)) := by
  unfold m_X0_canMove tf
  simp only [bnd_is, inb_nI hb (by decide), inb_nI hf (by decide), inb_nI ho (by decide), chk_t, ix_nI (n := b) (by omega), ix_nI (n := f) (by omega), ix_nI (n := o) (by omega), ix_0, ix_9, c_wall hV hb, c_set hV (f := 9) (by decide), c_wide hV hf, c_wide hV ho]
  grind
theorem heavy_nz {V : Vw} {b : Nat} (h : 0 ≤ V 158 b ∧ V 158 b ≤ 3) : (!decide (1 + V 158 b = 0)) = true := by
  have : ¬ 1 + V 158 b = 0 := by grind
  simpa using this
theorem heavy_if {h x : Int32} (hh : 0 ≤ h ∧ h ≤ 3) : (if 1 + h ≤ 1 then some x else some (x / (1 + h))) = some (x / (1 + h)) := by
  by_cases q : 1 + h ≤ 1
  · have e : h = 0 := by grind
    subst e
    rw [if_pos q, show (1 : Int32) + 0 = 1 from rfl, Int32.div_one]
  · rw [if_neg q]
theorem cch_is (hV : vC R M = V) (hb : b < 10) (ho : o < 10) (hh : 0 ≤ V 158 b ∧ V 158 b ≤ 3) (w : Int32) : m_X0_chance R M (nI b) (nI o) w = some (chS V b o (w ≠ 0)) := by
  unfold m_X0_chance j_X0_chance_47 chS
  simp only [bnd_is, inb_nI hb (by decide), inb_nI ho (by decide), chk_t, ix_nI (n := b) (by omega), ix_nI (n := o) (by omega), ix_1, ix_3, ix_7, ix_8, c_heavy hV hb, c_dog hV ho, c_set hV (f := 7) (by decide), c_set hV (f := 8) (by decide), heavy_nz hh, heavy_if hh]
  by_cases h : w = 0
  · rw [if_pos h, if_neg (show ¬ (w ≠ 0) from fun q => q h)]
    by_cases h2 : V 152 o = 0
    · rw [if_pos h2, if_pos h2]
    · rw [if_neg h2, if_neg h2]
  · rw [if_neg h, if_pos h]
theorem cgain_is (hV : vC R M = V) (hb : b < 10) (hf : f < 10) (ho : o < 10) (hh : 0 ≤ V 158 b ∧ V 158 b ≤ 3) (w : Int32) : m_X0_gain R M (nI b) (nI f) (nI o) w = some (gainS V b f o (w ≠ 0)) := by
  unfold m_X0_gain gainS
  simp only [ccan_is hV hb hf ho, some_bind, tf_0, bnd_is, inb_nI hf (by decide), inb_nI ho (by decide), chk_t, ix_nI (n := f) (by omega), ix_nI (n := o) (by omega), ix_0, ix_9, ix_6, c_wide hV hf, c_wide hV ho, c_set hV (f := 9) (by decide), c_set hV (f := 6) (by decide), cch_is hV hb ho hh, cworth_is hV]
  by_cases h : V 157 b = 0 ∧ ¬ V 162 9 ≤ 0 ∧ ¬ V 149 f ≤ 0 ∧ ¬ V 149 o ≤ 0
  · rw [if_neg (fun q => q h), if_pos h]; rfl
  · rw [if_pos h, if_neg h]
theorem closs_is (hV : vC R M = V) (hb : b < 10) (hf : f < 10) (ho : o < 10) (hh : 0 ≤ V 158 b ∧ V 158 b ≤ 3) (w : Int32) : m_X0_loss R M (nI b) (nI f) (nI o) w = some (lossS V b f o (w ≠ 0)) := by
  unfold m_X0_loss lossS
  simp only [ccan_is hV hb hf ho, some_bind, tf_0, bnd_is, inb_nI hf (by decide), chk_t, ix_nI (n := f) (by omega), ix_0, ix_9, c_wide hV hf, c_set hV (f := 9) (by decide), cch_is hV hb hf hh, cworth_is hV]
  by_cases h : V 157 b = 0 ∧ ¬ V 162 9 ≤ 0 ∧ ¬ V 149 f ≤ 0 ∧ ¬ V 149 o ≤ 0
  · rw [if_neg (fun q => q h), if_pos h]; rfl
  · rw [if_pos h, if_neg h]
theorem chS_eq {V : Vw} {b o : Nat} {p q : Prop} [Decidable p] [Decidable q] (h : p ↔ q) : chS V b o p = chS V b o q := by
  unfold chS; by_cases hp : p
  · rw [if_pos hp, if_pos (h.mp hp)]
  · rw [if_neg hp, if_neg (fun z => hp (h.mpr z))]
theorem gainS_eq {V : Vw} {b f o : Nat} {p q : Prop} [Decidable p] [Decidable q] (h : p ↔ q) : gainS V b f o p = gainS V b f o q := by
  unfold gainS; rw [chS_eq h]
theorem lossS_eq {V : Vw} {b f o : Nat} {p q : Prop} [Decidable p] [Decidable q] (h : p ↔ q) : lossS V b f o p = lossS V b f o q := by
  unfold lossS; rw [chS_eq h]
theorem cmean_is (hV : vC R M = V) (hn : V 148 2 = nI n) (h10 : n ≤ 10) (h2 : 2 ≤ n) (hf : f < n) (hh : ∀ b, b < 10 → 0 ≤ V 158 b ∧ V 158 b ≤ 3) (l o r : Int32) : m_X0_mean R M (nI f) l o r = some (meanS V n f l o r) := by
  have hl := lfN_lt hf
  have hr := rtN_lt hf
  have hR : rd M R 0 = nI n := (c_n hV).trans hn
  have e1 : gainS V (lfN n f) f (lfN n f) ((1 : Int32) ≠ 0) = gainS V (lfN n f) f (lfN n f) True := gainS_eq (by decide)
  have e0 : gainS V (lfN n f) f (lfN n f) ((0 : Int32) ≠ 0) = gainS V (lfN n f) f (lfN n f) False := gainS_eq (by decide)
  have e3 : gainS V f f (rtN n f) ((1 : Int32) ≠ 0) = gainS V f f (rtN n f) True := gainS_eq (by decide)
  have e2 : gainS V f f (rtN n f) ((0 : Int32) ≠ 0) = gainS V f f (rtN n f) False := gainS_eq (by decide)
  have d1 : lossS V (lfN n f) f (lfN n f) ((1 : Int32) ≠ 0) = lossS V (lfN n f) f (lfN n f) True := lossS_eq (by decide)
  have d0 : lossS V (lfN n f) f (lfN n f) ((0 : Int32) ≠ 0) = lossS V (lfN n f) f (lfN n f) False := lossS_eq (by decide)
  have d3 : lossS V f f (rtN n f) ((1 : Int32) ≠ 0) = lossS V f f (rtN n f) True := lossS_eq (by decide)
  have d2 : lossS V f f (rtN n f) ((0 : Int32) ≠ 0) = lossS V f f (rtN n f) False := lossS_eq (by decide)
  have g1 : gainS V (lfN n f) f (lfN n f) (l = 1) = if l = 1 then gainS V (lfN n f) f (lfN n f) True else gainS V (lfN n f) f (lfN n f) False := by
    by_cases h : l = 1
    · rw [if_pos h]; exact gainS_eq (by simp [h])
    · rw [if_neg h]; exact gainS_eq (by simp [h])
  have g2 : gainS V f f (rtN n f) (r = 1) = if r = 1 then gainS V f f (rtN n f) True else gainS V f f (rtN n f) False := by
    by_cases h : r = 1
    · rw [if_pos h]; exact gainS_eq (by simp [h])
    · rw [if_neg h]; exact gainS_eq (by simp [h])
  have l1 : lossS V (lfN n f) f (lfN n f) (o = 1) = if o = 1 then lossS V (lfN n f) f (lfN n f) True else lossS V (lfN n f) f (lfN n f) False := by
    by_cases h : o = 1
    · rw [if_pos h]; exact lossS_eq (by simp [h])
    · rw [if_neg h]; exact lossS_eq (by simp [h])
  have l2 : lossS V f f (rtN n f) (o = 1) = if o = 1 then lossS V f f (rtN n f) True else lossS V f f (rtN n f) False := by
    by_cases h : o = 1
    · rw [if_pos h]; exact lossS_eq (by simp [h])
    · rw [if_neg h]; exact lossS_eq (by simp [h])
  unfold meanS
  rw [g1, g2, l1, l2]
  unfold m_X0_mean j_X0_mean_42 j_X0_mean_77 j_X0_mean_83 j_X0_mean_106 j_X0_mean_112 j_X0_mean_138
  simp only [ccost_is hV (f := f) (by omega), some_bind, bnd_is, cleft_is hR hf h10, cright_is hR hf h10, cgain_is hV (b := lfN n f) (f := f) (o := lfN n f) (by omega) (by omega) (by omega) (hh _ (by omega)), cgain_is hV (b := f) (f := f) (o := rtN n f) (by omega) (by omega) (by omega) (hh _ (by omega)), closs_is hV (b := lfN n f) (f := f) (o := lfN n f) (by omega) (by omega) (by omega) (hh _ (by omega)), closs_is hV (b := f) (f := f) (o := rtN n f) (by omega) (by omega) (by omega) (hh _ (by omega)), e0, e1, e2, e3, d0, d1, d2, d3]
  generalize gainS V (lfN n f) f (lfN n f) True = A1
  generalize gainS V (lfN n f) f (lfN n f) False = A0
  generalize gainS V f f (rtN n f) True = B1
  generalize gainS V f f (rtN n f) False = B0
  generalize lossS V (lfN n f) f (lfN n f) True = C1
  generalize lossS V (lfN n f) f (lfN n f) False = C0
  generalize lossS V f f (rtN n f) True = D1
  generalize lossS V f f (rtN n f) False = D0
  grind
end CLASS
/-- what VALUE wants of a view -/
theorem Vok.heavy {V : Vw} {n : Nat} {W N : Int} (h : Vok V n W N) : ∀ b, b < 10 → 0 ≤ V 158 b ∧ V 158 b ≤ 3 := h.2.2.2.2.2.2.1
section MODEL
variable {n f b o : Nat} {M : Mem} {V : Vw} {W N : Int}
theorem mcan_is (hV : vM M = V) (hn : V 148 2 = nI n) (h10 : n ≤ 10) (hb : b < n) : m_X6_canMove M (nI b) = some (tf (V 157 b = 0 ∧ ¬ V 162 9 ≤ 0 ∧ ¬ V 149 b ≤ 0 ∧ ¬ V 149 (rtN n b) ≤ 0)) := by
  have hr := rtN_lt hb
  unfold m_X6_canMove tf
  simp only [inb_nI (show b < 10 by omega) (by decide), chk_t, ix_nI (n := b) (by omega), mright_is ((m_n hV).trans hn) hb h10, some_bind, inb_nI (show rtN n b < 10 by omega) (by decide), ix_nI (n := rtN n b) (by omega), ix_9, m_at hV (k := 157) (f := b) (by decide) (by decide) (by omega), m_at hV (k := 162) (f := 9) (by decide) (by decide) (by decide), m_at hV (k := 149) (f := b) (by decide) (by decide) (by omega), m_at hV (k := 149) (f := rtN n b) (by decide) (by decide) (by omega)]
  grind
theorem mch_is (hV : vM M = V) (hb : b < 10) (ho : o < 10) (hh : 0 ≤ V 158 b ∧ V 158 b ≤ 3) (hd : V 152 o = 0 ∨ V 152 o = 1) (w : Int32) : m_X6_chanceOf M (nI b) (nI o) w = some (chS V b o (w = 1)) := by
  have hz := heavy_nz hh
  have hc : V 158 b + 1 = 1 + V 158 b := by grind
  unfold m_X6_chanceOf j_X6_chanceOf_46 chS
  simp only [inb_nI hb (by decide), inb_nI ho (by decide), chk_t, ix_nI (n := b) (by omega), ix_nI (n := o) (by omega), ix_7, ix_8, m_at hV (k := 158) (f := b) (by decide) (by decide) hb, m_at hV (k := 152) (f := o) (by decide) (by decide) ho, m_at hV (k := 162) (f := 7) (by decide) (by decide) (by decide), m_at hV (k := 162) (f := 8) (by decide) (by decide) (by decide), hz, hc]
  by_cases h : w = 1
  · rw [if_pos h, if_pos h]
  · rw [if_neg h, if_neg h]
    rcases hd with e | e
    · rw [if_neg (by rw [e]; decide), if_pos e]
    · rw [if_pos e, if_neg (by rw [e]; decide)]
theorem mn_sub {a b : Int32} (ha : 0 ≤ a) (hb : 0 ≤ b) : 0 ≤ a - mnS b a := by unfold mnS; grind
theorem mlt_is {a b : Int32} : (if b ≤ a then b else a) = mnS a b := by unfold mnS; grind
theorem V_le {V : Vw} {n f : Nat} {W N : Int} (h : Vok V n W N) (hf : f < 10) : (V 149 f).toInt ≤ W := Int.le_trans (tot_le h.2.1 (n := 10) (Nat.le_refl _) hf) h.2.2.1
theorem Vok.wide {V : Vw} {n f : Nat} {W N : Int} (h : Vok V n W N) (hf : f < 10) : 0 ≤ V 149 f := I_le.mpr (h.2.1 f hf)
theorem Vok.add {V : Vw} {n f o : Nat} {W N : Int} (h : Vok V n W N) (hW : W ≤ 100000) (hf : f < 10) (ho : o < 10) : 0 ≤ V 149 f + mnS (V 162 9) (V 149 o) := by
  have h1 := h.wide hf
  have h2 := h.wide ho
  have h3 : V 149 f ≤ 100000 := I_le.mpr (Int.le_trans (V_le h hf) hW)
  have h4 := h.2.2.2.2.2.2.2.2.2.1
  unfold mnS; grind
theorem Vok.five {V : Vw} {n f : Nat} {W N : Int} (h : Vok V n W N) (hW : W ≤ 100000) (hf : f < 10) : 0 ≤ V 149 f + V 162 9 := by
  have h1 := h.wide hf
  have h3 : V 149 f ≤ 100000 := I_le.mpr (Int.le_trans (V_le h hf) hW)
  have h4 := h.2.2.2.2.2.2.2.2.2.1
  grind
theorem mloss_is (hV : vM M = V) (h : Vok V n W N) (hb : b < n) (hf : f < n) (hob : V 157 b = 0 ∧ ¬ V 162 9 ≤ 0 ∧ ¬ V 149 b ≤ 0 ∧ ¬ V 149 (rtN n b) ≤ 0 ↔ V 157 b = 0 ∧ ¬ V 162 9 ≤ 0 ∧ ¬ V 149 f ≤ 0 ∧ ¬ V 149 o ≤ 0) : m_X6_lossBy M (nI f) (nI b) = some (lossS V b f o (rd M 176 f = 1)) := by
  have hn := h.1.1
  have h10 := h.1.2.2
  have hc : m_X6_canMove M (nI b) = some (tf (V 157 b = 0 ∧ ¬ V 162 9 ≤ 0 ∧ ¬ V 149 f ≤ 0 ∧ ¬ V 149 o ≤ 0)) := by
    rw [mcan_is hV hn h10 hb]; unfold tf; congr 1
    by_cases q : V 157 b = 0 ∧ ¬ V 162 9 ≤ 0 ∧ ¬ V 149 f ≤ 0 ∧ ¬ V 149 o ≤ 0
    · rw [if_pos q, if_pos (hob.mpr q)]
    · rw [if_neg q, if_neg (fun z => q (hob.mp z))]
  have hd := h.2.2.2.2.1 f (by omega)
  have h9 := h.2.2.2.2.2.2.2.2.2.1
  unfold m_X6_lossBy lossS
  simp only [inb_nI (show f < 10 by omega) (by decide), chk_t, ix_nI (n := f) (by omega), ix_9, less_is, some_bind, hc, tf_0, mlt_is, m_at hV (k := 162) (f := 9) (by decide) (by decide) (by decide), m_at hV (k := 149) (f := f) (by decide) (by decide) (by omega), mch_is hV (b := b) (o := f) (by omega) (by omega) (h.heavy _ (by omega)) hd, mworth_is hV (h.wide (f := f) (by omega)), mworth_is hV (mn_sub (h.wide (f := f) (by omega)) h9.1)]
  by_cases q : V 157 b = 0 ∧ ¬ V 162 9 ≤ 0 ∧ ¬ V 149 f ≤ 0 ∧ ¬ V 149 o ≤ 0
  · rw [if_neg (fun z => z q), if_pos q]
  · rw [if_pos q, if_neg q]
theorem mval_is (hV : vM M = V) (h : Vok V n W N) (hW : W ≤ 100000) (hf : f < n) (hd : rd M 176 f = 0 ∨ rd M 176 f = 1 ∨ rd M 176 f = 2 ∨ rd M 176 f = 3) : m_X6_valueOf M (nI f) = some (meanS V n f (rd M 176 (lfN n f)) (rd M 176 f) (rd M 176 (rtN n f))) := by
  have hn := h.1.1
  have h10 := h.1.2.2
  have hl := lfN_lt hf
  have hr := rtN_lt hf
  have hR : rd M 148 2 = nI n := (m_n hV).trans hn
  have hdog := h.2.2.2.2.1 f (by omega)
  have h9 := h.2.2.2.2.2.2.2.2.2.1
  have c1 : m_X6_canMove M (nI (lfN n f)) = some (tf (V 157 (lfN n f) = 0 ∧ ¬ V 162 9 ≤ 0 ∧ ¬ V 149 f ≤ 0 ∧ ¬ V 149 (lfN n f) ≤ 0)) := by
    rw [mcan_is hV hn h10 hl, rt_lf hf h.1.2.1]; unfold tf; grind
  have c2 : m_X6_canMove M (nI f) = some (tf (V 157 f = 0 ∧ ¬ V 162 9 ≤ 0 ∧ ¬ V 149 f ≤ 0 ∧ ¬ V 149 (rtN n f) ≤ 0)) := mcan_is hV hn h10 hf
  have l1 : m_X6_lossBy M (nI f) (nI (lfN n f)) = some (lossS V (lfN n f) f (lfN n f) (rd M 176 f = 1)) := mloss_is hV h hl hf (by rw [rt_lf hf h.1.2.1]; grind)
  have l2 : m_X6_lossBy M (nI f) (nI f) = some (lossS V f f (rtN n f) (rd M 176 f = 1)) := mloss_is hV h hf hf Iff.rfl
  have k1 := mch_is hV (b := lfN n f) (o := lfN n f) (by omega) (by omega) (h.heavy _ (by omega)) (h.2.2.2.2.1 _ (by omega)) (rd M 176 (lfN n f))
  have k2 := mch_is hV (b := f) (o := rtN n f) (by omega) (by omega) (h.heavy _ (by omega)) (h.2.2.2.2.1 _ (by omega)) (rd M 176 (rtN n f))
  have a1 := h.add hW (f := f) (o := lfN n f) (by omega) (by omega)
  have a2 := h.add hW (f := f) (o := rtN n f) (by omega) (by omega)
  unfold meanS gainS costS
  unfold m_X6_valueOf j_X6_valueOf_24 j_X6_valueOf_48 j_X6_valueOf_71 j_X6_valueOf_109 j_X6_valueOf_127 j_X6_valueOf_220 j_X6_valueOf_239
  simp only [inb_nI (show f < 10 by omega) (by decide), inb_nI (show lfN n f < 10 by omega) (by decide), inb_nI (show rtN n f < 10 by omega) (by decide), chk_t, ix_nI (n := f) (by omega), ix_nI (n := lfN n f) (by omega), ix_nI (n := rtN n f) (by omega), ix_3, ix_4, ix_5, ix_6, ix_9, bnd_is, some_bind, mleft_is hR hf h10, mright_is hR hf h10, c1, c2, l1, l2, k1, k2, less_is, mlt_is, tf_0,
    m_at hV (k := 162) (f := 3) (by decide) (by decide) (by decide), m_at hV (k := 162) (f := 4) (by decide) (by decide) (by decide), m_at hV (k := 162) (f := 5) (by decide) (by decide) (by decide), m_at hV (k := 162) (f := 6) (by decide) (by decide) (by decide), m_at hV (k := 162) (f := 9) (by decide) (by decide) (by decide),
    m_at hV (k := 152) (f := f) (by decide) (by decide) (by omega), m_at hV (k := 149) (f := f) (by decide) (by decide) (by omega), m_at hV (k := 149) (f := lfN n f) (by decide) (by decide) (by omega), m_at hV (k := 149) (f := rtN n f) (by decide) (by decide) (by omega), mworth_is hV (h.wide (f := f) (by omega)), mworth_is hV a1, mworth_is hV a2]
  generalize lossS V (lfN n f) f (lfN n f) (rd M 176 f = 1) = L1
  generalize lossS V f f (rtN n f) (rd M 176 f = 1) = L2
  generalize chS V (lfN n f) (lfN n f) (rd M 176 (lfN n f) = 1) = X1
  generalize chS V f (rtN n f) (rd M 176 (rtN n f) = 1) = X2
  generalize worthS V (V 149 f + mnS (V 162 9) (V 149 (lfN n f))) - worthS V (V 149 f) = G1
  generalize worthS V (V 149 f + mnS (V 162 9) (V 149 (rtN n f))) - worthS V (V 149 f) = G2
  generalize V 162 3 = s3
  generalize V 162 4 = s4
  generalize V 162 5 = s5
  generalize V 162 6 = s6
  generalize rd M 176 (lfN n f) = dl
  generalize rd M 176 (rtN n f) = dr
  generalize rd M 176 f = d at hd
  clear c1 c2 l1 l2 k1 k2 a1 a2
  generalize V 152 f = dg at hdog
  rcases hdog with rfl | rfl <;> rcases hd with rfl | rfl | rfl | rfl <;> simp <;> grind
end MODEL
