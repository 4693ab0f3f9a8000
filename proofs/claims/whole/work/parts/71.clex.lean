/-! ===== the class finds the next token ===== -/
theorem wr_wr (M : Mem) (k j : Nat) (x y : Int32) : wr (wr M k j x) k j y = wr M k j y := by
  refine Prod.ext ?_ rfl
  funext a b
  show rd (wr (wr M k j x) k j y) a b = rd (wr M k j y) a b
  by_cases h : a = k ∧ b = j
  · rw [rd_we, if_pos h, rd_we, if_pos h]
  · rw [rd_we, if_neg h, rd_we, if_neg h, rd_we, if_neg h]
theorem wr_id (M : Mem) (k j : Nat) : wr M k j (rd M k j) = M := by
  refine Prod.ext ?_ rfl
  funext a b
  show rd (wr M k j (rd M k j)) a b = rd M a b
  rw [rd_we]
  by_cases h : a = k ∧ b = j
  · rw [if_pos h, h.1, h.2]
  · rw [if_neg h]
theorem lp_scan {S X : Type} {body : S → Option (S ⊕ X)} {P : Int32 → Bool} {b : Nat → Int32} {len f : Nat} (St : Nat → S) (E : Nat → X) (h : ∀ p, f ≤ p → p ≤ len → body (St p) = some (if p < len ∧ P (b p) = true then .inl (St (p + 1)) else .inr (E p))) : ∀ fu p, f ≤ p → p ≤ len → len - p < fu → lp body fu (St p) = some (E (skN P b len p))
  | 0, p, _, _, q => absurd q (Nat.not_lt_zero _)
  | fu + 1, p, h0, h1, q => by
    by_cases c : p < len ∧ P (b p) = true
    · rw [lp_inl (by rw [h p h0 h1, if_pos c]), lp_scan St E h fu (p + 1) (by omega) (by omega) (by omega), skN_u P b len p, if_pos c]
    · rw [lp_inr (by rw [h p h0 h1, if_neg c]), skN_u P b len p, if_neg c]
theorem c_le (M : Mem) (x : Int32) : m_X3_isLetter M x = some (if isLe x = true then 1 else 0) := by
  unfold m_X3_isLetter j_X3_isLetter_12 j_X3_isLetter_24 isLe
  simp only [decide_eq_true_iff]
  grind
theorem c_di (M : Mem) (x : Int32) : m_X3_isDigit M x = some (if isDi x = true then 1 else 0) := by
  unfold m_X3_isDigit isDi
  simp only [decide_eq_true_iff]
  grind
theorem c_si (M : Mem) (x : Int32) : m_X3_isSign M x = some (if isSi x = true then 1 else 0) := by
  unfold m_X3_isSign j_X3_isSign_12 j_X3_isSign_36 isSi
  simp only [decide_eq_true_iff]
  grind
theorem kw_sp : ∀ w, w < 20 → ∀ i, i < 98 → kwSt w ≤ i → i < kwSt (w + 1) → (kwC i = 32 ↔ i + 1 = kwSt (w + 1)) := by decide +kernel
theorem kw_st : ∀ w, w < 20 → kwSt w + 2 ≤ kwSt (w + 1) ∧ kwSt (w + 1) ≤ 98 := by decide +kernel
theorem kwFrom_s (b : Nat → Int32) (f s n w : Nat) : kwFrom b f s (n + 1) w = if kwHit b f s w = true then nI w else kwFrom b f s n (w + 1) := rfl
section CLEX
variable {fu len p f s : Nat} {M : Mem} {b : Nat → Int32}
theorem cstands_at {w : Nat} (hfu : 1000 ≤ fu) (hb : ∀ i, i < len → rd M 113 i = b i) (hl : len ≤ 400) (h7 : rd M 111 7 = nI f) (h8 : rd M 111 8 = nI s) (hfs : f ≤ s) (hs : s ≤ len) (hw : w < 20) (hn : s - f = kwSt (w + 1) - kwSt w - 1) : m_X3_standsAtHand fu M (nI (kwSt w)) = some (if kwHit b f s w = true then 1 else 0) := by
  have kb := kw_st w hw
  obtain ⟨x, e, hp⟩ := lp_up (body := b_X3_standsAtHand_5 fu M (nI (kwSt w))) (s - f) (fun i c => c = nI (f + i) ∧ ∀ j, j < i → b (f + j) = kwC (kwSt w + j)) (fun x => (kwHit b f s w = true ∧ x = .inr ()) ∨ (kwHit b f s w = false ∧ x = .inl ())) (by
    rintro i c hi ⟨rfl, q⟩
    unfold b_X3_standsAtHand_5
    have e1 : nI (kwSt w) + nI (f + i) - nI f = nI (kwSt w + i) := by rw [nI_add, pk_sub (by omega)]; congr 1; omega
    rw [un1_is, h7, h8, if_neg (nI_ge (by omega) (by omega)), e1, chk_is (inb_nI (show kwSt w + i < kwN from (by omega : kwSt w + i < 98)) (by decide)), chk_is (inb_nI (by omega) (by decide)), ix_nI (by omega), ix_nI (by omega), hb _ (by omega), bnd_e, nI_1]
    by_cases z : kwC (kwSt w + i) = b (f + i)
    · left
      rw [if_pos z]
      refine ⟨_, rfl, rfl, fun j hj => ?_⟩
      by_cases y : j = i
      · rw [y]; exact z.symm
      · exact q j (by omega)
    · right
      rw [if_neg z]
      refine ⟨_, rfl, Or.inr ⟨?_, rfl⟩⟩
      unfold kwHit
      exact decide_eq_false (fun y => z (y.2 i hi).symm)) (by
    rintro c ⟨rfl, q⟩
    refine ⟨.inr (), ?_, Or.inl ⟨?_, rfl⟩⟩
    · unfold b_X3_standsAtHand_5
      rw [un1_is, h8, if_pos (nI_le (by omega) (by omega))]
    · unfold kwHit
      exact decide_eq_true ⟨hn, q⟩) fu 0 (nI f) (Nat.zero_le _) (by omega) ⟨rfl, fun j hj => absurd hj (Nat.not_lt_zero _)⟩
  unfold m_X3_standsAtHand
  rw [h7, bnd_e, e, some_bind]
  rcases hp with ⟨z, rfl⟩ | ⟨z, rfl⟩
  · rw [unS_inr, un0_is, if_pos z]
  · rw [unS_inl, un0_is, if_neg (by rw [z]; exact Bool.false_ne_true)]
theorem ckw_is (hfu : 1000 ≤ fu) (hb : ∀ i, i < len → rd M 113 i = b i) (hl : len ≤ 400) (h7 : rd M 111 7 = nI f) (h8 : rd M 111 8 = nI s) (hfs : f ≤ s) (hs : s ≤ len) : m_X3_keywordAtHand fu M = some (kwAt b f s) := by
  obtain ⟨x, e, hp⟩ := lp_up (body := b_X3_keywordAtHand_6 fu M) 98 (fun i c => ∃ w, w ≤ 20 ∧ kwSt w ≤ i ∧ (i < 98 → w < 20 ∧ i < kwSt (w + 1)) ∧ (i = 98 → w = 20) ∧ c = (nI w, nI (kwSt w), nI i) ∧ kwAt b f s = kwFrom b f s (20 - w) w) (fun x => x = .inl (kwAt b f s) ∨ (kwAt b f s = -1 ∧ x = .inr ())) (by
    rintro i c hi ⟨w, w1, w2, w3, w4, rfl, w5⟩
    obtain ⟨w6, w7⟩ := w3 hi
    have kb := kw_st w w6
    have nxt : i + 1 = kwSt (w + 1) → kwHit b f s w = false → ∃ v, v ≤ 20 ∧ kwSt v ≤ i + 1 ∧ (i + 1 < 98 → v < 20 ∧ i + 1 < kwSt (v + 1)) ∧ (i + 1 = 98 → v = 20) ∧ (nI (w + 1), nI (i + 1), nI (i + 1)) = (nI v, nI (kwSt v), nI (i + 1)) ∧ kwAt b f s = kwFrom b f s (20 - v) v := by
      intro q z
      refine ⟨w + 1, by omega, by omega, fun y => ?_, fun y => ?_, by rw [← q], ?_⟩
      · by_cases t : w + 1 < 20
        · have := kw_st (w + 1) t; exact ⟨t, by omega⟩
        · have : w = 19 := by omega
          subst this
          have : kwSt (19 + 1) = 98 := rfl
          omega
      · by_cases t : w + 1 < 20
        · have := kw_st (w + 1) t; omega
        · omega
      · rw [w5, show 20 - w = (20 - (w + 1)) + 1 by omega, kwFrom_s, if_neg (by rw [z]; exact Bool.false_ne_true)]
    unfold b_X3_keywordAtHand_6
    rw [un3_is, if_neg (show ¬ Int32.ofNat kwN ≤ nI i from nI_ge hi (by decide)), chk_is (inb_nI hi (by decide)), ix_nI (by omega), h7, h8]
    by_cases z : kwC i = 32
    · have q := (kw_sp w w6 i hi w2 w7).mp z
      rw [if_pos z, pk_sub w2, pk_sub hfs]
      by_cases y : nI (i - kwSt w) = nI (s - f)
      · have y' := nI_inj (by omega) (by omega) y
        rw [if_pos y, cstands_at hfu hb hl h7 h8 hfs hs w6 (by omega), some_bind]
        by_cases t : kwHit b f s w = true
        · right
          rw [if_pos t, if_neg (by decide)]
          exact ⟨_, rfl, Or.inl (by rw [w5, show 20 - w = (20 - (w + 1)) + 1 by omega, kwFrom_s, if_pos t])⟩
        · left
          rw [if_neg t, if_pos rfl]
          unfold j_X3_keywordAtHand_51i
          rw [bnd_e, bnd_e, bnd_e, nI_1, nI_1]
          exact ⟨_, rfl, nxt q (by simpa using t)⟩
      · left
        rw [if_neg y]
        unfold j_X3_keywordAtHand_51i
        rw [bnd_e, bnd_e, bnd_e, nI_1, nI_1]
        refine ⟨_, rfl, nxt q ?_⟩
        unfold kwHit
        exact decide_eq_false (fun t => y (by rw [t.1]; congr 1; omega))
    · left
      rw [if_neg z, bnd_e, nI_1]
      have q : ¬ i + 1 = kwSt (w + 1) := fun y => z ((kw_sp w w6 i hi w2 w7).mpr y)
      exact ⟨_, rfl, w, w1, by omega, fun _ => ⟨w6, by omega⟩, fun y => by omega, rfl, w5⟩) (by
    rintro c ⟨w, w1, w2, w3, w4, rfl, w5⟩
    have w6 := w4 rfl
    subst w6
    refine ⟨.inr (), ?_, Or.inr ⟨w5, rfl⟩⟩
    unfold b_X3_keywordAtHand_6
    rw [un3_is, if_pos (show Int32.ofNat kwN ≤ nI 98 from nI_le (Nat.le_refl _) (by decide))]) fu 0 (0, 0, 0) (Nat.zero_le _) (by omega) ⟨0, by decide, by decide, fun _ => by decide, fun y => absurd y (by decide), rfl, rfl⟩
  unfold m_X3_keywordAtHand
  rw [e, some_bind]
  rcases hp with rfl | ⟨z, rfl⟩
  · rw [unS_inl, un1_is]
  · rw [unS_inr, un0_is, z]
theorem cadv_is (hfu : 1000 ≤ fu) (hb : ∀ i, i < len → rd M 113 i = b i) (hl : len ≤ 400) (h6 : rd M 111 6 = nI len) (h8 : rd M 111 8 = nI p) (hp : p ≤ len) : ∃ M', m_X3_advance fu M = some M' ∧ rd M' 111 7 = nI (tF b len p) ∧ rd M' 111 8 = nI (tS b len p) ∧ rd M' 111 9 = tK b len p ∧ (tK b len p = 1 → rd M' 111 10 = tV b len p) ∧ (∀ k j, ¬ (k = 111 ∧ (j = 7 ∨ j = 8 ∨ j = 9 ∨ j = 10)) → rd M' k j = rd M k j) ∧ ∀ k j, rdl M' k j = rdl M k j := by
  have F := tF_b b hp
  have S := tS_b b hp
  have e1 : lp (b_X3_advance_8 fu) fu (wr M 111 7 (nI p)) = some (wr M 111 7 (nI (tF b len p))) :=
    lp_scan (P := isBl) (b := b) (len := len) (f := p) (fun q => wr M 111 7 (nI q)) (fun q => wr M 111 7 (nI q)) (fun q q0 q1 => by
      have r6 : rd (wr M 111 7 (nI q)) 111 6 = nI len := (wr_sp (by omega)).trans h6
      have r7 : rd (wr M 111 7 (nI q)) 111 7 = nI q := by rw [rd_we, if_pos ⟨rfl, rfl⟩]
      unfold b_X3_advance_8
      rw [un1_is, r6, r7]
      by_cases z : q < len
      · have rb : rd (wr M 111 7 (nI q)) 113 q = b q := (wr_sp (by omega)).trans (hb q z)
        rw [if_neg (nI_ge z (by omega)), chk_is (inb_nI (by omega) (by decide)), ix_nI (by omega), rb]
        unfold j_X3_advance_47i
        rw [r7, bnd_e, wr_wr, nI_1]
        by_cases a : b q = 32
        · rw [if_pos a, if_pos ⟨z, by unfold isBl; exact decide_eq_true (Or.inl a)⟩]
        · rw [if_neg a]
          by_cases c : b q = 10
          · rw [if_pos c, if_pos ⟨z, by unfold isBl; exact decide_eq_true (Or.inr c)⟩]
          · rw [if_neg c, if_neg]
            rintro ⟨-, y⟩
            unfold isBl at y
            rw [decide_eq_true_iff] at y
            rcases y with y | y
            · exact a y
            · exact c y
      · rw [if_pos (nI_le (by omega) (by omega)), if_neg (fun y => z y.1)]) fu p (Nat.le_refl _) hp (by omega)
  generalize hF : tF b len p = f at *
  generalize hS : tS b len p = s at *
  -- the memory behind the blanks
  have hN : ∀ (k j : Nat), ¬ (k = 111 ∧ (j = 7 ∨ j = 8)) → rd (wr (wr M 111 7 (nI f)) 111 8 (nI f)) k j = rd M k j := fun k j z => by rw [wr_sp (by omega), wr_sp (by omega)]
  have hN7 : rd (wr (wr M 111 7 (nI f)) 111 8 (nI f)) 111 7 = nI f := by rw [wr_sp (by omega), rd_we, if_pos ⟨rfl, rfl⟩]
  have hN8 : rd (wr (wr M 111 7 (nI f)) 111 8 (nI f)) 111 8 = nI f := by rw [rd_we, if_pos ⟨rfl, rfl⟩]
  have hN6 : rd (wr (wr M 111 7 (nI f)) 111 8 (nI f)) 111 6 = nI len := (hN _ _ (by omega)).trans h6
  have hNb : ∀ i, i < len → rd (wr (wr M 111 7 (nI f)) 111 8 (nI f)) 113 i = b i := fun i hi => (hN _ _ (by omega)).trans (hb i hi)
  have pre : m_X3_advance fu M = (if nI f < nI len then (if isLe (b f) = true then (m_X3_advanceWord fu (wr (wr M 111 7 (nI f)) 111 8 (nI f))).bind (fun M_33 => some M_33) else if isDi (b f) = true then (m_X3_advanceNumber fu (wr (wr M 111 7 (nI f)) 111 8 (nI f))).bind (fun M_31 => some M_31) else some (wr (wr M 111 7 (nI f)) 111 8 (nI (f + 1)) |> fun X => wr X 111 9 (if isSi (b f) = true then b f else 2))) else some (wr (wr (wr M 111 7 (nI f)) 111 8 (nI f)) 111 9 0)) := by
    unfold m_X3_advance
    rw [h8, bnd_e, e1, some_bind, un1_is, show rd (wr M 111 7 (nI f)) 111 7 = nI f by rw [rd_we, if_pos ⟨rfl, rfl⟩], bnd_e, hN7, hN6]
    by_cases z : f < len
    · rw [if_pos (nI_lt z (by omega)), if_pos (nI_lt z (by omega)), chk_is (inb_nI (by omega) (by decide)), ix_nI (by omega), hNb f z, c_le, some_bind]
      by_cases l : isLe (b f) = true
      · rw [if_pos l, if_pos l, if_neg (by decide)]
      · rw [if_neg l, if_neg l, if_pos rfl, c_di, some_bind]
        by_cases d : isDi (b f) = true
        · rw [if_pos d, if_pos d, if_neg (by decide)]
        · rw [if_neg d, if_neg d, if_pos rfl, bnd_e, wr_wr, nI_1]
          have g7 : rd (wr (wr M 111 7 (nI f)) 111 8 (nI (f + 1))) 111 7 = nI f := by rw [wr_sp (by omega), rd_we, if_pos ⟨rfl, rfl⟩]
          have gb : rd (wr (wr M 111 7 (nI f)) 111 8 (nI (f + 1))) 113 f = b f := by rw [wr_sp (by omega), wr_sp (by omega)]; exact hb f z
          rw [g7, chk_is (inb_nI (by omega) (by decide)), ix_nI (by omega), gb, c_si, some_bind]
          unfold j_X3_advance_170
          by_cases t : isSi (b f) = true
          · rw [if_pos t, if_neg (by decide), bnd_e, if_pos t]
          · rw [if_neg t, if_pos rfl, bnd_e, if_neg t]
    · rw [if_neg (nI_nlt (by omega) (by omega)), if_neg (nI_nlt (by omega) (by omega)), bnd_e]
  rw [pre]
  have tk : tK b len p = if len ≤ f then 0 else if isLe (b f) = true then (if kwAt b f s = -1 then 2 else 200 + kwAt b f s) else if isDi (b f) = true then (if s - f ≤ 4 then 1 else 2) else (if isSi (b f) = true then b f else 2) := by unfold tK; rw [hF, hS]
  have ts : s = if len ≤ f then f else if isLe (b f) = true then skN isLe b len f else if isDi (b f) = true then skN isDi b len f else f + 1 := by rw [← hS]; unfold tS; rw [hF]
  have tv : tV b len p = nvS b f (s - f) := by unfold tV; rw [hF, hS]
  by_cases z : f < len
  · rw [if_pos (nI_lt z (by omega))]
    rw [if_neg (by omega)] at tk ts
    by_cases l : isLe (b f) = true
    · rw [if_pos l] at tk ts
      rw [if_pos l]
      have e2 : lp (b_X3_advanceWord_0 fu) fu (wr (wr M 111 7 (nI f)) 111 8 (nI f)) = some (wr (wr M 111 7 (nI f)) 111 8 (nI s)) := by
        rw [ts]
        exact lp_scan (P := isLe) (b := b) (len := len) (f := f) (fun q => wr (wr M 111 7 (nI f)) 111 8 (nI q)) (fun q => wr (wr M 111 7 (nI f)) 111 8 (nI q)) (fun q q0 q1 => by
          have r6 : rd (wr (wr M 111 7 (nI f)) 111 8 (nI q)) 111 6 = nI len := by rw [wr_sp (by omega), wr_sp (by omega)]; exact h6
          have r8 : rd (wr (wr M 111 7 (nI f)) 111 8 (nI q)) 111 8 = nI q := by rw [rd_we, if_pos ⟨rfl, rfl⟩]
          unfold b_X3_advanceWord_0
          rw [un1_is, r6, r8]
          by_cases y : q < len
          · have rb : rd (wr (wr M 111 7 (nI f)) 111 8 (nI q)) 113 q = b q := by rw [wr_sp (by omega), wr_sp (by omega)]; exact hb q y
            rw [if_neg (nI_ge y (by omega)), chk_is (inb_nI (by omega) (by decide)), ix_nI (by omega), rb, c_le, some_bind, bnd_e, wr_wr, nI_1]
            by_cases a : isLe (b q) = true
            · rw [if_pos a, if_neg (by decide), if_pos ⟨y, a⟩]
            · rw [if_neg a, if_pos rfl, if_neg (fun t => a t.2)]
          · rw [if_pos (nI_le (by omega) (by omega)), if_neg (fun t => y t.1)]) fu f (Nat.le_refl _) (by omega) (by omega)
      have k := ckw_is (fu := fu) (len := len) (f := f) (s := s) (b := b) (M := wr (wr M 111 7 (nI f)) 111 8 (nI s)) hfu (fun i hi => by rw [wr_sp (by omega), wr_sp (by omega)]; exact hb i hi) hl (by rw [wr_sp (by omega), rd_we, if_pos ⟨rfl, rfl⟩]) (by rw [rd_we, if_pos ⟨rfl, rfl⟩]) (by omega) (by omega)
      have g : m_X3_advanceWord fu (wr (wr M 111 7 (nI f)) 111 8 (nI f)) = some (wr (wr (wr M 111 7 (nI f)) 111 8 (nI s)) 111 9 (tK b len p)) := by
        unfold m_X3_advanceWord j_X3_advanceWord_59
        rw [e2, some_bind, un1_is, k, some_bind, tk]
        by_cases t : kwAt b f s = -1
        · rw [if_pos t, if_pos t, bnd_e]
        · rw [if_neg t, if_neg t, bnd_e]
      rw [g, some_bind]
      refine ⟨_, rfl, ?_, ?_, ?_, fun t => ?_, fun k j y => ?_, fun _ _ => rfl⟩
      · rw [wr_sp (by omega), wr_sp (by omega), rd_we, if_pos ⟨rfl, rfl⟩]
      · rw [wr_sp (by omega), rd_we, if_pos ⟨rfl, rfl⟩]
      · rw [rd_we, if_pos ⟨rfl, rfl⟩]
      · exfalso
        rw [tk] at t
        by_cases k : kwAt b f s = -1
        · rw [if_pos k] at t; exact absurd t (by decide)
        · rw [if_neg k] at t
          rcases kwFrom_is b f s 20 0 rfl with e | ⟨v, h1, h2, e⟩
          · exact k e
          · have e' : kwAt b f s = nI v := e
            rw [e', show (200 : Int32) = nI 200 from rfl, nI_add] at t
            have := nI_inj (by omega) (by decide) (t.trans (show (1 : Int32) = nI 1 from rfl))
            omega
      · rw [wr_sp (by omega), wr_sp (by omega), wr_sp (by omega)]
    · rw [if_neg l] at tk ts
      rw [if_neg l]
      by_cases d : isDi (b f) = true
      · rw [if_pos d] at tk ts
        rw [if_pos d]
        have e2 : lp (b_X3_advanceNumber_5 fu) fu (wr (wr (wr M 111 7 (nI f)) 111 10 (nvS b f (f - f))) 111 8 (nI f)) = some (wr (wr (wr M 111 7 (nI f)) 111 10 (nvS b f (s - f))) 111 8 (nI s)) := by
          rw [ts]
          exact lp_scan (P := isDi) (b := b) (len := len) (f := f) (fun q => wr (wr (wr M 111 7 (nI f)) 111 10 (nvS b f (q - f))) 111 8 (nI q)) (fun q => wr (wr (wr M 111 7 (nI f)) 111 10 (nvS b f (q - f))) 111 8 (nI q)) (fun q q0 q1 => by
            generalize hX : wr (wr (wr M 111 7 (nI f)) 111 10 (nvS b f (q - f))) 111 8 (nI q) = X
            have r6 : rd X 111 6 = nI len := by rw [← hX, wr_sp (by omega), wr_sp (by omega), wr_sp (by omega)]; exact h6
            have r8 : rd X 111 8 = nI q := by rw [← hX, rd_we, if_pos ⟨rfl, rfl⟩]
            have r10 : rd X 111 10 = nvS b f (q - f) := by rw [← hX, wr_sp (by omega), rd_we, if_pos ⟨rfl, rfl⟩]
            unfold b_X3_advanceNumber_5
            rw [un1_is, r6, r8, r10]
            by_cases y : q < len
            · have rb : rd X 113 q = b q := by rw [← hX, wr_sp (by omega), wr_sp (by omega), wr_sp (by omega)]; exact hb q y
              rw [if_neg (nI_ge y (by omega)), chk_is (inb_nI (by omega) (by decide)), ix_nI (by omega), rb, c_di, some_bind, bnd_e, bnd_e]
              by_cases a : isDi (b q) = true
              · rw [if_pos a, if_neg (by decide), if_pos ⟨y, a⟩, wr_sp (by omega), r8, nI_1]
                have ev : 10 * nvS b f (q - f) + b q - 48 = nvS b f (q + 1 - f) := by
                  rw [show q + 1 - f = (q - f) + 1 by omega]
                  show _ = 10 * nvS b f (q - f) + b (f + (q - f)) - 48
                  rw [show f + (q - f) = q by omega]
                rw [ev, ← hX]
                congr 2
                refine Prod.ext ?_ rfl
                funext k j
                show rd (wr (wr (wr (wr (wr M 111 7 (nI f)) 111 10 (nvS b f (q - f))) 111 8 (nI q)) 111 10 (nvS b f (q + 1 - f))) 111 8 (nI (q + 1))) k j = rd (wr (wr (wr M 111 7 (nI f)) 111 10 (nvS b f (q + 1 - f))) 111 8 (nI (q + 1))) k j
                simp only [rd_we]
                grind
              · rw [if_neg a, if_pos rfl, if_neg (fun t => a t.2)]
            · rw [if_pos (nI_le (by omega) (by omega)), if_neg (fun t => y t.1)]) fu f (Nat.le_refl _) (by omega) (by omega)
        have sw : wr (wr (wr M 111 7 (nI f)) 111 8 (nI f)) 111 10 0 = wr (wr (wr M 111 7 (nI f)) 111 10 (nvS b f (f - f))) 111 8 (nI f) := by
          rw [Nat.sub_self]
          refine Prod.ext ?_ rfl
          funext k j
          show rd (wr (wr (wr M 111 7 (nI f)) 111 8 (nI f)) 111 10 0) k j = rd (wr (wr (wr M 111 7 (nI f)) 111 10 (nvS b f 0)) 111 8 (nI f)) k j
          simp only [rd_we]
          have : nvS b f 0 = 0 := rfl
          grind
        generalize hX : wr (wr (wr M 111 7 (nI f)) 111 10 (nvS b f (s - f))) 111 8 (nI s) = X at *
        have r7 : rd X 111 7 = nI f := by rw [← hX, wr_sp (by omega), wr_sp (by omega), rd_we, if_pos ⟨rfl, rfl⟩]
        have r8 : rd X 111 8 = nI s := by rw [← hX, rd_we, if_pos ⟨rfl, rfl⟩]
        have r10 : rd X 111 10 = nvS b f (s - f) := by rw [← hX, wr_sp (by omega), rd_we, if_pos ⟨rfl, rfl⟩]
        have g : m_X3_advanceNumber fu (wr (wr M 111 7 (nI f)) 111 8 (nI f)) = some (wr X 111 9 (tK b len p)) := by
          unfold m_X3_advanceNumber j_X3_advanceNumber_87
          rw [bnd_e, sw, e2, some_bind, un1_is, r7, r8, pk_sub (by omega), bnd_e, bnd_e, tk]
          by_cases t : s - f ≤ 4
          · rw [if_pos (show nI (s - f) ≤ 4 from nI_le t (by decide)), if_pos t]
          · rw [if_neg (show ¬ nI (s - f) ≤ 4 from nI_ge (a := 4) (by omega) (by omega)), if_neg t]
        rw [g, some_bind]
        refine ⟨_, rfl, ?_, ?_, ?_, fun t => ?_, fun k j y => ?_, fun k j => by rw [← hX]; rfl⟩
        · rw [wr_sp (by omega)]; exact r7
        · rw [wr_sp (by omega)]; exact r8
        · rw [rd_we, if_pos ⟨rfl, rfl⟩]
        · rw [wr_sp (by omega), r10, tv]
        · rw [wr_sp (by omega), ← hX, wr_sp (by omega), wr_sp (by omega), wr_sp (by omega)]
      · rw [if_neg d] at tk ts
        rw [if_neg d]
        refine ⟨_, rfl, ?_, ?_, ?_, fun t => ?_, fun k j y => ?_, fun _ _ => rfl⟩
        · show rd (wr (wr (wr M 111 7 (nI f)) 111 8 (nI (f + 1))) 111 9 _) 111 7 = _
          rw [wr_sp (by omega), wr_sp (by omega), rd_we, if_pos ⟨rfl, rfl⟩]
        · show rd (wr (wr (wr M 111 7 (nI f)) 111 8 (nI (f + 1))) 111 9 _) 111 8 = _
          rw [wr_sp (by omega), rd_we, if_pos ⟨rfl, rfl⟩, ts]
        · show rd (wr (wr (wr M 111 7 (nI f)) 111 8 (nI (f + 1))) 111 9 _) 111 9 = _
          rw [rd_we, if_pos ⟨rfl, rfl⟩, tk]
        · exfalso
          rw [tk] at t
          by_cases k : isSi (b f) = true
          · rw [if_pos k] at t; rw [t] at k; exact absurd k (by unfold isSi; decide)
          · rw [if_neg k] at t; exact absurd t (by decide)
        · show rd (wr (wr (wr M 111 7 (nI f)) 111 8 (nI (f + 1))) 111 9 _) k j = _
          rw [wr_sp (by omega), wr_sp (by omega), wr_sp (by omega)]
  · rw [if_neg (nI_nlt (by omega) (by omega))]
    rw [if_pos (by omega)] at tk ts
    refine ⟨_, rfl, ?_, ?_, ?_, fun t => ?_, fun k j y => ?_, fun _ _ => rfl⟩
    · rw [wr_sp (by omega), wr_sp (by omega), rd_we, if_pos ⟨rfl, rfl⟩]
    · rw [wr_sp (by omega), rd_we, if_pos ⟨rfl, rfl⟩, ts]
    · rw [rd_we, if_pos ⟨rfl, rfl⟩, tk]
    · rw [tk] at t; exact absurd t (by decide)
    · rw [wr_sp (by omega), wr_sp (by omega), wr_sp (by omega)]
end CLEX
