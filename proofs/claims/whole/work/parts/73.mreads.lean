def TR (t v k x : Int32) : Prop := (k = 0 ∧ t = 0) ∨ (k = 1 ∧ t = 3 ∧ v = x) ∨ (k = 2 ∧ t = 1) ∨ (∃ w, w < 20 ∧ k = nI (200 + w) ∧ t = 2 ∧ v = nI w) ∨ (isSi k = true ∧ t = 4 ∧ v = k)
def mvS (b : Nat → Int32) (f : Nat) : Nat → Int32
  | 0 => 0
  | i + 1 => if 10000 ≤ mvS b f i then mvS b f i else 10 * mvS b f i + b (f + i) - 48
theorem mv_nv {b : Nat → Int32} {f : Nat} : ∀ i, i ≤ 4 → (∀ j, j < i → isDi (b (f + j)) = true) → mvS b f i = nvS b f i
  | 0, _, _ => rfl
  | i + 1, hi, h => by
    have e := mv_nv i (by omega) (fun j hj => h j (by omega))
    have q := nv_bd (b := b) (f := f) i (by omega) (fun j hj => h j (by omega))
    unfold mvS nvS
    rw [e, if_neg]
    intro z
    have := I_le.mp z
    rw [show (10000 : Int32).toInt = 10000 from rfl] at this
    have pw : (10 : Int) ^ i ≤ 1000 := by
      rcases (by omega : i = 0 ∨ i = 1 ∨ i = 2 ∨ i = 3) with rfl | rfl | rfl | rfl <;> decide
    omega
section MREADS
variable {fu len p : Nat} {M : Mem} {b : Nat → Int32}
theorem mreads_is (hfu : 1000 ≤ fu) (h20 : rd M 148 20 = nI len) (hb : ∀ i, i < len → rd M 163 i = b i) (h0 : ∀ i, i < len → 0 ≤ b i) (hw : ∀ i, i < 99 → rd M 164 i = mwL.getD i 0) (hl : len ≤ 400) (h21 : rd M 148 21 = nI p) (hp : p ≤ len) : ∃ M', m_X6_reads fu M = some M' ∧ rd M' 148 22 = nI (tF b len p) ∧ rd M' 148 21 = nI (tS b len p) ∧ TR (rd M' 148 23) (rd M' 148 24) (tK b len p) (tV b len p) ∧ (∀ k j, ¬ (k = 148 ∧ 21 ≤ j ∧ j ≤ 24) → rd M' k j = rd M k j) ∧ ∀ k j, rdl M' k j = rdl M k j := by
  have F := tF_b b hp
  have S := tS_b b hp
  have e1 : lp (b_X6_reads_0 fu) fu (wr M 148 21 (nI p)) = some (wr M 148 21 (nI (tF b len p))) :=
    lp_scan (P := isBl) (b := b) (len := len) (f := p) (fun q => wr M 148 21 (nI q)) (fun q => wr M 148 21 (nI q)) (fun q q0 q1 => by
      have r20 : rd (wr M 148 21 (nI q)) 148 20 = nI len := (wr_sp (by omega)).trans h20
      have r21 : rd (wr M 148 21 (nI q)) 148 21 = nI q := by rw [rd_we, if_pos ⟨rfl, rfl⟩]
      have raw := mraw_is (M := wr M 148 21 (nI q)) (b := b) r20 (fun i hi => (wr_sp (by omega)).trans (hb i hi)) hl (show q ≤ 400 by omega)
      unfold b_X6_reads_0 j_X6_reads_26i
      rw [un1_is, r21, raw, some_bind, some_bind, bnd_e, wr_wr, nI_1]
      by_cases z : q < len
      · rw [if_pos z]
        by_cases a : b q = 32
        · rw [if_pos a, if_pos ⟨z, by unfold isBl; exact decide_eq_true (Or.inl a)⟩]
        · rw [if_neg a]
          by_cases c : b q = 10
          · rw [if_pos c, if_pos ⟨z, by unfold isBl; exact decide_eq_true (Or.inr c)⟩]
          · rw [if_neg c, if_neg]
            rintro ⟨-, y⟩
            unfold isBl at y
            rw [decide_eq_true_iff] at y
            rcases y with y | y
            · exact a y
            · exact c y
      · rw [if_neg z, if_neg (by decide), if_neg (by decide), if_neg (fun y => z y.1)]) fu p (Nat.le_refl _) hp (by omega)
  rw [show wr M 148 21 (nI p) = M by rw [← h21]; exact wr_id _ _ _] at e1
  have tk : tK b len p = if len ≤ tF b len p then 0 else if isLe (b (tF b len p)) = true then (if kwAt b (tF b len p) (tS b len p) = -1 then 2 else 200 + kwAt b (tF b len p) (tS b len p)) else if isDi (b (tF b len p)) = true then (if tS b len p - tF b len p ≤ 4 then 1 else 2) else (if isSi (b (tF b len p)) = true then b (tF b len p) else 2) := rfl
  have ts : tS b len p = if len ≤ tF b len p then tF b len p else if isLe (b (tF b len p)) = true then skN isLe b len (tF b len p) else if isDi (b (tF b len p)) = true then skN isDi b len (tF b len p) else tF b len p + 1 := rfl
  have tv : tV b len p = nvS b (tF b len p) (tS b len p - tF b len p) := rfl
  generalize tK b len p = K at *
  generalize tV b len p = Y at *
  generalize tS b len p = s at *
  generalize tF b len p = f at *
  -- behind the blanks
  generalize hX : wr (wr (wr M 148 21 (nI f)) 148 22 (nI f)) 148 23 1 = X
  have hN : ∀ (k j : Nat), ¬ (k = 148 ∧ 21 ≤ j ∧ j ≤ 24) → rd X k j = rd M k j := fun k j z => by rw [← hX, wr_sp (by omega), wr_sp (by omega), wr_sp (by omega)]
  have h21X : rd X 148 21 = nI f := by rw [← hX, wr_sp (by omega), wr_sp (by omega), rd_we, if_pos ⟨rfl, rfl⟩]
  have h22X : rd X 148 22 = nI f := by rw [← hX, wr_sp (by omega), rd_we, if_pos ⟨rfl, rfl⟩]
  have h23X : rd X 148 23 = 1 := by rw [← hX, rd_we, if_pos ⟨rfl, rfl⟩]
  have hlX : ∀ k j, rdl X k j = rdl M k j := fun k j => by rw [← hX]; rfl
  have hXb : ∀ i, i < len → rd X 163 i = b i := fun i hi => (hN _ _ (by omega)).trans (hb i hi)
  have hX20 : rd X 148 20 = nI len := (hN _ _ (by omega)).trans h20
  have rX := mraw_is hX20 hXb hl (show f ≤ 400 by omega)
  unfold m_X6_reads
  rw [e1, some_bind, un1_is, show rd (wr M 148 21 (nI f)) 148 21 = nI f by rw [rd_we, if_pos ⟨rfl, rfl⟩], bnd_e, bnd_e, hX, h21X, rX, some_bind]
  by_cases z : f < len
  · rw [if_pos z]
    rw [if_neg (by omega)] at tk ts
    have n1 : b f ≠ -1 := fun e => by have := h0 f z; rw [e] at this; exact absurd this (by decide)
    rw [if_neg n1, bnd_e, nI_1, bnd_e, m_le, some_bind]
    generalize hY : wr (wr X 148 21 (nI (f + 1))) 148 24 (b f) = Z
    have hNZ : ∀ (k j : Nat), ¬ (k = 148 ∧ 21 ≤ j ∧ j ≤ 24) → rd Z k j = rd M k j := fun k j z => by rw [← hY, wr_sp (by omega), wr_sp (by omega)]; exact hN k j z
    have z21 : rd Z 148 21 = nI (f + 1) := by rw [← hY, wr_sp (by omega), rd_we, if_pos ⟨rfl, rfl⟩]
    have z22 : rd Z 148 22 = nI f := by rw [← hY, wr_sp (by omega), wr_sp (by omega)]; exact h22X
    have z23 : rd Z 148 23 = 1 := by rw [← hY, wr_sp (by omega), wr_sp (by omega)]; exact h23X
    have z24 : rd Z 148 24 = b f := by rw [← hY, rd_we, if_pos ⟨rfl, rfl⟩]
    have zl : ∀ k j, rdl Z k j = rdl M k j := fun k j => by rw [← hY]; exact hlX k j
    by_cases l : isLe (b f) = true
    · rw [if_pos l] at tk ts
      rw [if_pos l, if_neg (by decide)]
      have es : s = skN isLe b len (f + 1) := by rw [ts, skN_u, if_pos ⟨z, l⟩]
      have e2 : lp (b_X6_reads_95 fu) fu Z = some (wr Z 148 21 (nI s)) := by
        have := lp_scan (body := b_X6_reads_95 fu) (P := isLe) (b := b) (len := len) (f := f + 1) (fun q => wr Z 148 21 (nI q)) (fun q => wr Z 148 21 (nI q)) (fun q q0 q1 => by
          have r20 : rd (wr Z 148 21 (nI q)) 148 20 = nI len := (wr_sp (by omega)).trans ((hNZ _ _ (by omega)).trans h20)
          have r21 : rd (wr Z 148 21 (nI q)) 148 21 = nI q := by rw [rd_we, if_pos ⟨rfl, rfl⟩]
          have raw := mraw_is (M := wr Z 148 21 (nI q)) (b := b) r20 (fun i hi => (wr_sp (by omega)).trans ((hNZ _ _ (by omega)).trans (hb i hi))) hl (show q ≤ 400 by omega)
          unfold b_X6_reads_95
          rw [un1_is, r21, raw, some_bind, m_le, some_bind, bnd_e, wr_wr, nI_1]
          by_cases y : q < len
          · rw [if_pos y]
            by_cases a : isLe (b q) = true
            · rw [if_pos a, if_neg (by decide), if_pos ⟨y, a⟩]
            · rw [if_neg a, if_pos rfl, if_neg (fun t => a t.2)]
          · rw [if_neg y, show (if isLe (-1) = true then (1 : Int32) else 0) = 0 from if_neg (by unfold isLe; decide), if_pos rfl, if_neg (fun t => y t.1)]) fu (f + 1) (Nat.le_refl _) (by omega) (by omega)
        rw [show wr Z 148 21 (nI (f + 1)) = Z by rw [← z21]; exact wr_id _ _ _] at this
        rw [this, es]
      have all : ∀ i, f ≤ i → i < s → isLe (b i) = true := fun i h1 h2 => skN_all (len := len) (p := f) h1 (by rw [← ts]; exact h2)
      have k := mkw_is (fu := fu) (len := len) (f := f) (s := s) (b := b) (M := wr Z 148 21 (nI s)) hfu (fun i hi => (wr_sp (by omega)).trans ((hNZ _ _ (by omega)).trans (hb i hi))) (fun i hi => (wr_sp (by omega)).trans ((hNZ _ _ (by omega)).trans (hw i hi))) hl (by omega) (by omega) all
      rw [e2, some_bind, un1_is, show rd (wr Z 148 21 (nI s)) 148 22 = nI f from (wr_sp (by omega)).trans z22, show rd (wr Z 148 21 (nI s)) 148 21 = nI s by rw [rd_we, if_pos ⟨rfl, rfl⟩], k, some_bind, bnd_e, show rd (wr (wr Z 148 21 (nI s)) 148 24 (kwAt b f s)) 148 24 = kwAt b f s by rw [rd_we, if_pos ⟨rfl, rfl⟩]]
      by_cases t : kwAt b f s = -1
      · rw [if_pos t] at tk
        rw [if_pos t]
        refine ⟨_, rfl, ?_, ?_, ?_, fun k j y => ?_, zl⟩
        · rw [wr_sp (by omega), wr_sp (by omega)]; exact z22
        · rw [wr_sp (by omega), rd_we, if_pos ⟨rfl, rfl⟩]
        · exact Or.inr (Or.inr (Or.inl ⟨tk, by rw [wr_sp (by omega), wr_sp (by omega)]; exact z23⟩))
        · rw [wr_sp (by omega), wr_sp (by omega)]; exact hNZ k j y
      · rw [if_neg t] at tk
        rw [if_neg t, bnd_e]
        rcases kwFrom_is b f s 20 0 rfl with e | ⟨v, h1, h2, e⟩
        · exact absurd e t
        · have e' : kwAt b f s = nI v := e
          refine ⟨_, rfl, ?_, ?_, ?_, fun k j y => ?_, zl⟩
          · rw [wr_sp (by omega), wr_sp (by omega), wr_sp (by omega)]; exact z22
          · rw [wr_sp (by omega), wr_sp (by omega), rd_we, if_pos ⟨rfl, rfl⟩]
          · refine Or.inr (Or.inr (Or.inr (Or.inl ⟨v, h2, by rw [tk, e', show (200 : Int32) = nI 200 from rfl, nI_add], by rw [rd_we, if_pos ⟨rfl, rfl⟩], ?_⟩)))
            rw [wr_sp (by omega), rd_we, if_pos ⟨rfl, rfl⟩, e']
          · rw [wr_sp (by omega), wr_sp (by omega), wr_sp (by omega)]; exact hNZ k j y
    · rw [if_neg l] at tk ts
      rw [if_neg l, if_pos rfl, m_di, some_bind]
      by_cases d : isDi (b f) = true
      · rw [if_pos d] at tk ts
        rw [if_pos d, if_neg (by decide), bnd_e]
        have es : s = skN isDi b len (f + 1) := by rw [ts, skN_u, if_pos ⟨z, d⟩]
        have all : ∀ i, f ≤ i → i < s → isDi (b i) = true := fun i h1 h2 => skN_all (len := len) (p := f) h1 (by rw [← ts]; exact h2)
        have st : wr Z 148 24 (b f - 48) = wr (wr Z 148 24 (mvS b f (f + 1 - f))) 148 21 (nI (f + 1)) := by
          have e : mvS b f (f + 1 - f) = b f - 48 := by
            rw [show f + 1 - f = 0 + 1 by omega]
            show (if (10000 : Int32) ≤ 0 then (0 : Int32) else 10 * 0 + b (f + 0) - 48) = b f - 48
            rw [if_neg (by decide), Nat.add_zero]; grind
          rw [e]
          refine Prod.ext ?_ rfl
          funext k j
          show rd (wr Z 148 24 (b f - 48)) k j = rd (wr (wr Z 148 24 (b f - 48)) 148 21 (nI (f + 1))) k j
          simp only [rd_we]
          grind
        have e2 : lp (b_X6_reads_171 fu) fu (wr Z 148 24 (b f - 48)) = some (wr (wr Z 148 24 (mvS b f (s - f))) 148 21 (nI s)) := by
          rw [st, es]
          exact lp_scan (P := isDi) (b := b) (len := len) (f := f + 1) (fun q => wr (wr Z 148 24 (mvS b f (q - f))) 148 21 (nI q)) (fun q => wr (wr Z 148 24 (mvS b f (q - f))) 148 21 (nI q)) (fun q q0 q1 => by
            generalize hQ : wr (wr Z 148 24 (mvS b f (q - f))) 148 21 (nI q) = Q
            have r20 : rd Q 148 20 = nI len := by rw [← hQ, wr_sp (by omega), wr_sp (by omega)]; exact (hNZ _ _ (by omega)).trans h20
            have r21 : rd Q 148 21 = nI q := by rw [← hQ, rd_we, if_pos ⟨rfl, rfl⟩]
            have r24 : rd Q 148 24 = mvS b f (q - f) := by rw [← hQ, wr_sp (by omega), rd_we, if_pos ⟨rfl, rfl⟩]
            have raw := mraw_is (M := Q) (b := b) r20 (fun i hi => by rw [← hQ, wr_sp (by omega), wr_sp (by omega)]; exact (hNZ _ _ (by omega)).trans (hb i hi)) hl (show q ≤ 400 by omega)
            have nx : ∀ x, j_X6_reads_223i fu Q x = some (.inl (wr (wr Z 148 24 x) 148 21 (nI (q + 1)))) := by
              intro x
              unfold j_X6_reads_223i
              rw [bnd_e, wr_sp (by omega), r21, bnd_e, nI_1, ← hQ]
              congr 2
              refine Prod.ext ?_ rfl
              funext k j
              show rd (wr (wr (wr (wr Z 148 24 (mvS b f (q - f))) 148 21 (nI q)) 148 24 x) 148 21 (nI (q + 1))) k j = rd (wr (wr Z 148 24 x) 148 21 (nI (q + 1))) k j
              simp only [rd_we]
              grind
            unfold b_X6_reads_171
            rw [un1_is, r21, r24, raw, some_bind, m_di, some_bind, some_bind, nx, nx]
            by_cases y : q < len
            · rw [if_pos y]
              by_cases a : isDi (b q) = true
              · rw [if_pos a, if_neg (by decide)]
                have ev : mvS b f (q + 1 - f) = if 10000 ≤ mvS b f (q - f) then mvS b f (q - f) else 10 * mvS b f (q - f) + b q - 48 := by
                  rw [show q + 1 - f = (q - f) + 1 by omega]
                  show (if 10000 ≤ mvS b f (q - f) then mvS b f (q - f) else 10 * mvS b f (q - f) + b (f + (q - f)) - 48) = _
                  rw [show f + (q - f) = q by omega]
                rw [ev]
                by_cases t : 10000 ≤ mvS b f (q - f)
                · rw [if_pos t, if_pos t, if_pos ⟨y, a⟩]
                · rw [if_neg t, if_neg t, if_pos ⟨y, a⟩]
              · rw [if_neg a, if_pos rfl, if_neg (fun t => a t.2)]
            · rw [if_neg y, show (if isDi (-1) = true then (1 : Int32) else 0) = 0 from if_neg (by unfold isDi; decide), if_pos rfl, if_neg (fun t => y t.1)]) fu (f + 1) (Nat.le_refl _) (by omega) (by omega)
        generalize hQ : wr (wr Z 148 24 (mvS b f (s - f))) 148 21 (nI s) = Q at *
        have r21 : rd Q 148 21 = nI s := by rw [← hQ, rd_we, if_pos ⟨rfl, rfl⟩]
        have r22 : rd Q 148 22 = nI f := by rw [← hQ, wr_sp (by omega), wr_sp (by omega)]; exact z22
        have r23 : rd Q 148 23 = 1 := by rw [← hQ, wr_sp (by omega), wr_sp (by omega)]; exact z23
        have r24 : rd Q 148 24 = mvS b f (s - f) := by rw [← hQ, wr_sp (by omega), rd_we, if_pos ⟨rfl, rfl⟩]
        have rQ : ∀ k j, ¬ (k = 148 ∧ 21 ≤ j ∧ j ≤ 24) → rd Q k j = rd M k j := fun k j y => by rw [← hQ, wr_sp (by omega), wr_sp (by omega)]; exact hNZ k j y
        have rl : ∀ k j, rdl Q k j = rdl M k j := fun k j => by rw [← hQ]; exact zl k j
        rw [e2, some_bind, un1_is, r21, r22, pk_sub (by omega)]
        by_cases t : s - f ≤ 4
        · rw [if_pos t] at tk
          rw [if_neg (show ¬ (5 : Int32) ≤ nI (s - f) from nI_ge (b := 5) (by omega) (by decide)), bnd_e]
          refine ⟨_, rfl, (wr_sp (by omega)).trans r22, (wr_sp (by omega)).trans r21, ?_, fun k j y => (wr_sp (by omega)).trans (rQ k j y), rl⟩
          refine Or.inr (Or.inl ⟨tk, by rw [rd_we, if_pos ⟨rfl, rfl⟩], ?_⟩)
          rw [wr_sp (by omega), r24, tv]
          exact mv_nv _ t (fun j hj => all (f + j) (by omega) (by omega))
        · rw [if_neg t] at tk
          rw [if_pos (show (5 : Int32) ≤ nI (s - f) from nI_le (a := 5) (by omega) (by omega))]
          exact ⟨_, rfl, r22, r21, Or.inr (Or.inr (Or.inl ⟨tk, r23⟩)), rQ, rl⟩
      · rw [if_neg d] at tk ts
        rw [if_neg d, if_pos rfl, m_si, some_bind]
        by_cases t : isSi (b f) = true
        · rw [if_pos t] at tk
          rw [if_pos t, if_neg (by decide), bnd_e]
          refine ⟨_, rfl, (wr_sp (by omega)).trans z22, (wr_sp (by omega)).trans (by rw [z21, ts]), ?_, fun k j y => (wr_sp (by omega)).trans (hNZ k j y), zl⟩
          exact Or.inr (Or.inr (Or.inr (Or.inr ⟨by rw [tk]; exact t, by rw [rd_we, if_pos ⟨rfl, rfl⟩], by rw [wr_sp (by omega), z24, tk]⟩)))
        · rw [if_neg t] at tk
          rw [if_neg t, if_pos rfl]
          exact ⟨_, rfl, z22, by rw [z21, ts], Or.inr (Or.inr (Or.inl ⟨tk, z23⟩)), hNZ, zl⟩
  · rw [if_neg z, if_pos rfl, bnd_e]
    rw [if_pos (by omega)] at tk ts
    refine ⟨_, rfl, (wr_sp (by omega)).trans h22X, (wr_sp (by omega)).trans (by rw [h21X, ts]), Or.inl ⟨tk, by rw [rd_we, if_pos ⟨rfl, rfl⟩]⟩, fun k j y => (wr_sp (by omega)).trans (hN k j y), hlX⟩
end MREADS
