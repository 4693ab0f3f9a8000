/-! ===== the model reads a text ===== -/
def Bs (b : Nat → Int32) (len : Nat) (M : Mem) : Prop := rd M 148 20 = nI len ∧ (∀ i, i < len → rd M 163 i = b i) ∧ ∀ i, i < 99 → rd M 164 i = mwL.getD i 0
def Tok (b : Nat → Int32) (len : Nat) (M : Mem) (p : Nat) : Prop := p ≤ len ∧ rd M 148 22 = nI (tF b len p) ∧ rd M 148 21 = nI (tS b len p) ∧ TR (rd M 148 23) (rd M 148 24) (tK b len p) (tV b len p)
def MC (M : Mem) (xs : List Op) : Prop := rd M 148 32 = nI xs.length ∧ ∀ i, i < xs.length → rd M 169 (1600 + i) = (xs.getD i (0, 0)).1 ∧ rd M 170 (1600 + i) = (xs.getD i (0, 0)).2
def Fx (M M' : Mem) : Prop := ∀ k j, ¬ (k = 148 ∧ ((21 ≤ j ∧ j ≤ 24) ∨ j = 32 ∨ j = 36 ∨ j = 37)) → ¬ ((k = 169 ∨ k = 170) ∧ 1600 ≤ j) → rd M' k j = rd M k j
theorem Fx.rf {M : Mem} : Fx M M := fun _ _ _ _ => rfl
theorem Fx.tr {M M1 M2 : Mem} (h : Fx M M1) (h2 : Fx M1 M2) : Fx M M2 := fun k j q1 q2 => (h2 k j q1 q2).trans (h k j q1 q2)
theorem Bs.fx {b : Nat → Int32} {len : Nat} {M M' : Mem} (h : Bs b len M) (f : Fx M M') : Bs b len M' := ⟨by rw [f _ _ (by decide) (by decide)]; exact h.1, fun i hi => by rw [f _ _ (by omega) (by omega)]; exact h.2.1 i hi, fun i hi => by rw [f _ _ (by omega) (by omega)]; exact h.2.2 i hi⟩
theorem kd {a c : Nat} (ha : a < 300) (hc : c < 300) (h : a ≠ c) : nI a ≠ nI c := fun e => h (nI_inj (by omega) (by omega) e)
/-- a sign is no number, word, end -/
theorem si_b {k : Int32} (h : isSi k = true) : ∃ a, 40 ≤ a ∧ a ≤ 62 ∧ k = nI a := by
  unfold isSi at h
  rw [decide_eq_true_iff] at h
  have h0 : 0 ≤ k := by grind
  have h1 : k ≤ 62 := by grind
  obtain ⟨a, ha, rfl⟩ := nI_of_le (x := k) (m := 62) h0 h1 (by decide)
  refine ⟨a, ?_, ha, rfl⟩
  by_cases c : a < 40
  · exfalso
    have : nI a < 40 := nI_lt (b := 40) c (by decide)
    grind
  · omega
section MR1
variable {b : Nat → Int32} {len p : Nat} {M : Mem}
theorem mword_is (h : Tok b len M p) {w : Nat} (hw : w < 20) : m_X6_isWord M (nI w) = some (if tK b len p = nI (200 + w) then 1 else 0) := by
  obtain ⟨-, -, -, t⟩ := h
  unfold m_X6_isWord
  rcases t with ⟨e, t⟩ | ⟨e, t, v⟩ | ⟨e, t⟩ | ⟨w', hw', e, t, v⟩ | ⟨e, t, v⟩
  · rw [t, e, if_neg (by decide), if_neg (show (0 : Int32) ≠ _ from kd (a := 0) (by omega) (by omega) (by omega))]
  · rw [t, e, if_neg (by decide), if_neg (show (1 : Int32) ≠ _ from kd (a := 1) (by omega) (by omega) (by omega))]
  · rw [t, e, if_neg (by decide), if_neg (show (2 : Int32) ≠ _ from kd (a := 2) (by omega) (by omega) (by omega))]
  · rw [t, e, v, if_pos rfl]
    by_cases c : w' = w
    · subst c; rw [if_pos rfl, if_pos rfl]
    · rw [if_neg (kd (by omega) (by omega) c), if_neg (kd (by omega) (by omega) (by omega))]
  · obtain ⟨a, a1, a2, ea⟩ := si_b e
    rw [t, if_neg (by decide), ea, if_neg (kd (by omega) (by omega) (by omega))]
theorem msign_is (h : Tok b len M p) {c : Int32} (hc : isSi c = true) : m_X6_isSign M c = some (if tK b len p = c then 1 else 0) := by
  obtain ⟨-, -, -, t⟩ := h
  obtain ⟨a, a1, a2, ea⟩ := si_b hc
  unfold m_X6_isSign
  rcases t with ⟨e, t⟩ | ⟨e, t, v⟩ | ⟨e, t⟩ | ⟨w', hw', e, t, v⟩ | ⟨e, t, v⟩
  · rw [t, e, if_neg (by decide), ea, if_neg (show (0 : Int32) ≠ _ from kd (a := 0) (by omega) (by omega) (by omega))]
  · rw [t, e, if_neg (by decide), ea, if_neg (show (1 : Int32) ≠ _ from kd (a := 1) (by omega) (by omega) (by omega))]
  · rw [t, e, if_neg (by decide), ea, if_neg (show (2 : Int32) ≠ _ from kd (a := 2) (by omega) (by omega) (by omega))]
  · rw [t, e, if_neg (by decide), ea, if_neg (kd (by omega) (by omega) (by omega))]
  · rw [t, v, if_pos rfl]
    by_cases c2 : tK b len p = c
    · rw [if_pos c2, if_pos c2]
    · rw [if_neg c2, if_neg c2]
theorem mnum_is (h : Tok b len M p) : (rd M 148 23 = 3 ↔ tK b len p = 1) ∧ (tK b len p = 1 → rd M 148 24 = tV b len p) ∧ (rd M 148 23 = 0 ↔ tK b len p = 0) := by
  obtain ⟨-, -, -, t⟩ := h
  rcases t with ⟨e, t⟩ | ⟨e, t, v⟩ | ⟨e, t⟩ | ⟨w', hw', e, t, v⟩ | ⟨e, t, v⟩
  · rw [t, e]; exact ⟨by decide, fun z => absurd z (by decide), by decide⟩
  · rw [t, e, v]; exact ⟨by decide, fun _ => rfl, by decide⟩
  · rw [t, e]; exact ⟨by decide, fun z => absurd z (by decide), by decide⟩
  · have n1 : nI (200 + w') ≠ 1 := kd (c := 1) (by omega) (by omega) (by omega)
    have n0 : nI (200 + w') ≠ 0 := kd (c := 0) (by omega) (by omega) (by omega)
    rw [t, e]
    exact ⟨⟨fun z => absurd z (by decide), fun z => absurd z n1⟩, fun z => absurd z n1, ⟨fun z => absurd z (by decide), fun z => absurd z n0⟩⟩
  · obtain ⟨a, a1, a2, ea⟩ := si_b e
    have n1 : nI a ≠ 1 := kd (c := 1) (by omega) (by omega) (by omega)
    have n0 : nI a ≠ 0 := kd (c := 0) (by omega) (by omega) (by omega)
    rw [t, ea]
    exact ⟨⟨fun z => absurd z (by decide), fun z => absurd z n1⟩, fun z => absurd z n1, ⟨fun z => absurd z (by decide), fun z => absurd z n0⟩⟩
theorem memits {xs : List Op} (h : MC M xs) (hl : xs.length < 400) (a c : Int32) : ∃ M', m_X6_emits M a c = some M' ∧ MC M' (xs ++ [(a, c)]) ∧ ∀ k j, ¬ (k = 148 ∧ j = 32) → ¬ ((k = 169 ∨ k = 170) ∧ 1600 ≤ j) → rd M' k j = rd M k j := by
  have e1 : 1600 + nI xs.length = nI (1600 + xs.length) := by rw [show (1600 : Int32) = nI 1600 from rfl, nI_add]
  refine ⟨wr (wr (wr M 169 (1600 + xs.length) a) 170 (1600 + xs.length) c) 148 32 (nI (xs.length + 1)), ?_, ⟨?_, fun i hi => ?_⟩, fun k j q1 q2 => ?_⟩
  · unfold m_X6_emits
    rw [h.1, e1, chk_is (inb_nI (by omega) (by decide)), ix_nI (by omega), bnd_e, wr_sp (by omega), h.1, e1, chk_is (inb_nI (by omega) (by decide)), ix_nI (by omega), bnd_e, wr_sp (by omega), wr_sp (by omega), h.1, nI_1, bnd_e]
  · rw [rd_we, if_pos ⟨rfl, rfl⟩, List.length_append]; rfl
  · rw [List.length_append] at hi
    have hi' : i < xs.length + 1 := hi
    by_cases z : i = xs.length
    · have eg : (xs ++ [(a, c)]).getD i (0, 0) = (a, c) := by rw [z]; simp
      rw [eg]
      refine ⟨?_, ?_⟩
      · rw [wr_sp (by omega), wr_sp (by omega), rd_we, if_pos ⟨rfl, by omega⟩]
      · rw [wr_sp (by omega), rd_we, if_pos ⟨rfl, by omega⟩]
    · rw [getD_app1 (by omega)]
      refine ⟨?_, ?_⟩
      · rw [wr_sp (by omega), wr_sp (by omega), wr_sp (by omega)]; exact (h.2 i (by omega)).1
      · rw [wr_sp (by omega), wr_sp (by omega), wr_sp (by omega)]; exact (h.2 i (by omega)).2
  · rw [wr_sp (by omega), wr_sp (by omega), wr_sp (by omega)]
theorem MC.fr {M' : Mem} {xs : List Op} (h : MC M xs) (h1 : rd M' 148 32 = rd M 148 32) (h2 : ∀ k j, k = 169 ∨ k = 170 → rd M' k j = rd M k j) : MC M' xs := ⟨h1.trans h.1, fun i hi => ⟨(h2 _ _ (Or.inl rfl)).trans (h.2 i hi).1, (h2 _ _ (Or.inr rfl)).trans (h.2 i hi).2⟩⟩
theorem Tok.fr {M' : Mem} (h : Tok b len M p) (h1 : ∀ j, 21 ≤ j → j ≤ 24 → rd M' 148 j = rd M 148 j) : Tok b len M' p := by
  unfold Tok
  rw [h1 21 (by decide) (by decide), h1 22 (by decide) (by decide), h1 23 (by decide) (by decide), h1 24 (by decide) (by decide)]
  exact h
theorem merrs (h : Tok b len M p) (e : Int32) : ∃ M', m_X6_errs M e = some (-1, M') ∧ rd M' 148 36 = e ∧ rd M' 148 37 = nI (tF b len p) ∧ Fx M M' := by
  refine ⟨_, rfl, ?_, ?_, fun k j q1 q2 => ?_⟩
  · rw [wr_sp (by omega), rd_we, if_pos ⟨rfl, rfl⟩]
  · rw [rd_we, if_pos ⟨rfl, rfl⟩, wr_sp (by omega)]; exact h.2.1
  · rw [wr_sp (by omega), wr_sp (by omega)]
theorem mrd {fu : Nat} (hfu : 1000 ≤ fu) (hl : len ≤ 400) (h0 : ∀ i, i < len → 0 ≤ b i) (hB : Bs b len M) (h : Tok b len M p) : ∃ M', m_X6_reads fu M = some M' ∧ Tok b len M' (tS b len p) ∧ (∀ k j, ¬ (k = 148 ∧ 21 ≤ j ∧ j ≤ 24) → rd M' k j = rd M k j) := by
  have t := tS_b b h.1
  obtain ⟨M', e1, e2, e3, e4, e5, -⟩ := mreads_is (fu := fu) hfu hB.1 hB.2.1 h0 hB.2.2 hl h.2.2.1 t.2.1
  exact ⟨M', e1, ⟨t.2.1, e2, e3, e4⟩, e5⟩
theorem Fx.of {M' : Mem} (h : ∀ k j, ¬ (k = 148 ∧ 21 ≤ j ∧ j ≤ 24) → rd M' k j = rd M k j) : Fx M M' := fun k j q1 q2 => h k j (by omega)
/-- one unit -/
theorem munit {fu : Nat} {xs : List Op} {d pr su cm : Int32} {lg : List Int32} {cur : List Op} {dn : List Ln} (hfu : 1000 ≤ fu) (hl : len ≤ 400) (h0 : ∀ i, i < len → 0 ≤ b i) (hB : Bs b len M) (h : Tok b len M p) (hc : MC M xs) (hx : xs.length ≤ p) :
    (∃ M', (tK b len p ≠ 0 → unP d pr su cm lg cur dn (tK b len p) (tV b len p) = .inl 1) ∧ m_X6_readUnit fu M = some (-1, M') ∧ rd M' 148 36 = 1 ∧ rd M' 148 37 = nI (tF b len p) ∧ Fx M M') ∨
    (∃ u M', tK b len p ≠ 0 ∧ unP d pr su cm lg cur dn (tK b len p) (tV b len p) = .inr (6, d, (pr, su, cm), lg, cur ++ [u], dn) ∧ m_X6_readUnit fu M = some (0, M') ∧ Tok b len M' (tS b len p) ∧ MC M' (xs ++ [u]) ∧ Fx M M') := by
  have go : tK b len p ≠ 0 → ∀ a c : Int32, ∃ M1 M', m_X6_emits M a c = some M1 ∧ m_X6_reads fu M1 = some M' ∧ Tok b len M' (tS b len p) ∧ MC M' (xs ++ [(a, c)]) ∧ Fx M M' := by
    intro hk a c
    have adv := tS_adv h0 h.1 hk
    obtain ⟨M1, e1, e2, e3⟩ := memits hc (by omega) a c
    have f1 : Fx M M1 := fun k j q1 q2 => e3 k j (by omega) q2
    obtain ⟨M2, g1, g2, g3⟩ := mrd hfu hl h0 (hB.fx f1) (h.fr (fun j z1 z2 => e3 _ _ (by omega) (by omega)))
    exact ⟨M1, M2, e1, g1, g2, e2.fr (g3 _ _ (by omega)) (fun k j q => g3 _ _ (by omega)), f1.tr (Fx.of g3)⟩
  have nm := mnum_is h
  have bad : tK b len p ≠ 1 → tK b len p < 205 → ∃ M', (tK b len p ≠ 0 → unP d pr su cm lg cur dn (tK b len p) (tV b len p) = .inl 1) ∧ m_X6_errs M 1 = some (-1, M') ∧ rd M' 148 36 = 1 ∧ rd M' 148 37 = nI (tF b len p) ∧ Fx M M' := by
    intro n1 n2
    obtain ⟨M', g1, g2, g3, g4⟩ := merrs h 1
    exact ⟨M', fun _ => by unfold unP; rw [if_neg n1, if_pos n2], g1, g2, g3, g4⟩
  have nonword : rd M 148 23 ≠ 2 ∨ rd M 148 24 < 5 → m_X6_readUnit fu M = j_X6_readUnit_21 fu M 0 := by
    intro z
    unfold m_X6_readUnit j_X6_readUnit_20
    by_cases c : rd M 148 23 = 2
    · rw [if_pos c]
      rcases z with z | z
      · exact absurd c z
      · rw [if_pos z]
    · rw [if_neg c]
  have other : rd M 148 23 ≠ 2 ∨ rd M 148 24 < 5 → tK b len p ≠ 1 → tK b len p < 205 → ∃ M', (tK b len p ≠ 0 → unP d pr su cm lg cur dn (tK b len p) (tV b len p) = .inl 1) ∧ m_X6_readUnit fu M = some (-1, M') ∧ rd M' 148 36 = 1 ∧ rd M' 148 37 = nI (tF b len p) ∧ Fx M M' := by
    intro z n1 n2
    obtain ⟨M', g1, g2, g3, g4, g5⟩ := bad n1 n2
    refine ⟨M', g1, ?_, g3, g4, g5⟩
    rw [nonword z]
    unfold j_X6_readUnit_21
    rw [if_pos rfl, if_neg (fun y => n1 (nm.1.mp y)), g2, some_bind, un2_is]
  have t := h.2.2.2
  rcases t with ⟨e, t⟩ | ⟨e, t, v⟩ | ⟨e, t⟩ | ⟨w, hw, e, t, v⟩ | ⟨e, t, v⟩
  · exact Or.inl (other (Or.inl (by rw [t]; decide)) (by rw [e]; decide) (by rw [e]; decide))
  · right
    have hk : tK b len p ≠ 0 := by rw [e]; decide
    obtain ⟨M1, M', e1, e2, e3, e4, e5⟩ := go hk 0 (tV b len p)
    refine ⟨_, M', hk, by unfold unP; rw [if_pos e], ?_, e3, e4, e5⟩
    rw [nonword (Or.inl (by rw [t]; decide))]
    unfold j_X6_readUnit_21 j_X6_readUnit_40 j_X6_readUnit_50 j_X6_readUnit_67
    rw [if_pos rfl, if_pos t, if_pos rfl, if_pos rfl, v, e1, some_bind, e2, some_bind]
  · exact Or.inl (other (Or.inl (by rw [t]; decide)) (by rw [e]; decide) (by rw [e]; decide))
  · by_cases c : w < 5
    · have lt : nI (200 + w) < 205 := nI_lt (b := 205) (by omega) (by decide)
      exact Or.inl (other (Or.inr (by rw [v]; exact nI_lt (b := 5) c (by decide))) (by rw [e]; exact kd (c := 1) (by omega) (by omega) (by omega)) (by rw [e]; exact lt))
    · right
      have hk : tK b len p ≠ 0 := by rw [e]; exact kd (c := 0) (by omega) (by omega) (by omega)
      have e5' : nI (200 + w) - 205 = nI w - 5 := by rw [show nI (200 + w) = nI 200 + nI w from (nI_add _ _).symm, show (205 : Int32) = nI 200 + 5 by decide]; grind
      obtain ⟨M1, M', e1, e2, e3, e4, e5⟩ := go hk 1 (nI w - 5)
      refine ⟨_, M', hk, ?_, ?_, e3, e4, e5⟩
      · unfold unP
        rw [e, if_neg (show ¬ nI (200 + w) = 1 from kd (c := 1) (by omega) (by omega) (by omega)), if_neg (show ¬ nI (200 + w) < 205 from nI_nlt (b := 205) (by omega) (by omega)), e5']
      · unfold m_X6_readUnit
        rw [if_pos t, v, if_neg (show ¬ nI w < 5 from nI_nlt (b := 5) (by omega) (by omega))]
        unfold j_X6_readUnit_21 j_X6_readUnit_40 j_X6_readUnit_50 j_X6_readUnit_67
        rw [if_neg (by decide), if_neg (by decide), if_neg (by decide), v, e1, some_bind, e2, some_bind]
  · obtain ⟨a, a1, a2, ea⟩ := si_b e
    have lt : nI a < 205 := nI_lt (b := 205) (by omega) (by decide)
    exact Or.inl (other (Or.inl (by rw [t]; decide)) (by rw [ea]; exact kd (c := 1) (by omega) (by omega) (by omega)) (by rw [ea]; exact lt))
end MR1
