/-! ===== a night ===== -/
theorem l_sub (x : Int64) (y : Int32) : (x - y.toInt64).toInt32 = x.toInt32 - y := by simp
theorem l_add (x : Int64) (y : Int32) : (x + y.toInt64).toInt32 = x.toInt32 + y := by simp
def drwS (V : Vw) : Vw := vs V 148 1 (1664525 * V 148 1 + 1013904223)
def drwR (V : Vw) : Int32 := irem (ushr (V 148 1) 8) 1000
def stopS (V : Vw) (D : Nat → Int32) (o : Nat) : Vw × Bool :=
  if D o = 1 then (drwS V, decide (¬ V 162 7 ≤ drwR (drwS V))) else if V 152 o = 0 then (V, false) else (drwS V, decide (¬ V 162 8 ≤ drwR (drwS V)))
def fineS (V : Vw) (f b : Nat) : Vw := vs (vs (vs V 155 f (V 155 f + 1)) 153 f (V 153 f - V 162 6)) 159 b 0
def pushS (V : Vw) (f b : Nat) : Vw := vs (vs V 159 b (if V 160 b = nI f then V 159 b + 1 else 1)) 160 b (nI f)
def moveS (V : Vw) (f b o : Nat) : Vw := vs (vs (vs (vs V 159 b 0) 149 o (V 149 o - mnS (V 162 9) (V 149 o))) 149 f (V 149 f + mnS (V 162 9) (V 149 o))) 148 4 (V 148 4 + mnS (V 162 9) (V 149 o))
def goS (V : Vw) (f b o : Nat) (st : Bool) : Vw × Bool :=
  if st = true then (fineS V f b, false) else if (pushS V f b) 159 b ≤ (pushS V f b) 158 b then (pushS V f b, false) else (moveS (pushS V f b) f b o, true)
theorem goS_f (V : Vw) (f b o : Nat) : goS V f b o false = if (pushS V f b) 159 b ≤ (pushS V f b) 158 b then (pushS V f b, false) else (moveS (pushS V f b) f b o, true) := if_neg Bool.false_ne_true
theorem stop6 (V : Vw) (D : Nat → Int32) (o : Nat) : (stopS V D o).1 162 6 = V 162 6 := by
  have e : drwS V 162 6 = V 162 6 := vs_nk (show 162 ≠ 148 by decide)
  unfold stopS
  split
  · exact e
  · split
    · rfl
    · exact e
def creepS (V : Vw) (D : Nat → Int32) (f b o : Nat) : Vw × Bool :=
  if V 157 b = 0 ∧ V 162 9 ≠ 0 ∧ V 149 o ≠ 0 then goS (stopS V D o).1 f b o (stopS V D o).2 else (V, false)
section CN
variable {R n f b o : Nat} {M : Mem} {V : Vw} {D : Nat → Int32}
theorem cdraw_is (hV : vC R M = V) : m_X4_draw R M = some (drwR (drwS V), wr M R 1 (1664525 * V 148 1 + 1013904223)) := by
  unfold m_X4_draw
  rw [bnd_e, c_dr hV, rd_wr, if_pos ⟨rfl, rfl⟩]
  unfold drwR drwS
  rw [vs_at]
theorem cstop_is (hV : vC R M = V) (ho : o < 10) (hD : rd M (R + 5) o = D o) : ∃ M', m_X4_stopsOne R M (nI o) = some (if (stopS V D o).2 = true then 1 else 0, M') ∧ vC R M' = (stopS V D o).1 ∧ (∀ k j, k ≠ R → rd M' k j = rd M k j) ∧ ∀ k j, rdl M' k j = rdl M k j := by
  have hb := inb_nI ho (by decide : 10 ≤ 2 ^ 31)
  have hx := ix_nI (show o < 2 ^ 31 by omega)
  have eV : vC R (wr M R 1 (1664525 * V 148 1 + 1013904223)) = drwS V := by rw [w_dr, hV]; rfl
  have s7 : rd (wr M R 1 (1664525 * V 148 1 + 1013904223)) (R + 1) 7 = V 162 7 := by rw [rd_wr, if_neg (by omega)]; exact c_set hV (by decide)
  have s8 : rd (wr M R 1 (1664525 * V 148 1 + 1013904223)) (R + 1) 8 = V 162 8 := by rw [rd_wr, if_neg (by omega)]; exact c_set hV (by decide)
  have ko : ∀ k j, k ≠ R → rd (wr M R 1 (1664525 * V 148 1 + 1013904223)) k j = rd M k j := fun k j q => by rw [rd_wr, if_neg (fun z => q z.1)]
  unfold m_X4_stopsOne stopS
  rw [chk_is hb, hx, hD, ix_3, c_dog hV ho, cdraw_is hV]
  by_cases q1 : D o = 1
  · rw [if_pos q1, if_pos q1, some_bind, un2_is, ix_7, s7]
    refine ⟨_, ?_, eV, ko, fun _ _ => rfl⟩
    by_cases z : V 162 7 ≤ drwR (drwS V)
    · rw [if_pos z, if_neg (by simp [z])]
    · rw [if_neg z, if_pos (by simp [z])]
  · rw [if_neg q1, if_neg q1]
    by_cases q2 : V 152 o = 0
    · rw [if_pos q2, if_pos q2]
      exact ⟨M, rfl, hV, fun _ _ _ => rfl, fun _ _ => rfl⟩
    · rw [if_neg q2, if_neg q2, some_bind, un2_is, ix_8, s8]
      refine ⟨_, ?_, eV, ko, fun _ _ => rfl⟩
      by_cases z : V 162 8 ≤ drwR (drwS V)
      · rw [if_pos z, if_neg (by simp [z])]
      · rw [if_neg z, if_pos (by simp [z])]
theorem cpush_is {t2 : Int32} (hV : vC R M = V) (hf : f < 10) (hb : b < 10) (ho : o < 10) (hfo : f ≠ o) (ht : t2 = if V 160 b = nI f then V 159 b + 1 else 1) : ∃ M', j_X4_creep_138 R M (nI f) (nI o) (R + 18 + b) (R + 8 + f) (R + 18 + b) 2 t2 = some M' ∧ vC R M' = (goS V f b o false).1 ∧ (∀ j, rd M' (R + 6) j = if (goS V f b o false).2 = true ∧ j = o then 1 else rd M (R + 6) j) ∧ (∀ j, rd M' (R + 5) j = rd M (R + 5) j) ∧ ∀ k j, rdl M' k j = rdl M k j := by
  have eV : vC R (wr (wr M (R + 18 + b) 2 t2) (R + 18 + b) 3 (nI f)) = pushS V f b := by
    rw [w_stake hb (by decide), w_stake hb (by decide), hV, ht]; rfl
  have kp : ∀ k j, k ≠ R + 18 + b → rd (wr (wr M (R + 18 + b) 2 t2) (R + 18 + b) 3 (nI f)) k j = rd M k j := fun k j q => by rw [rd_we, if_neg (fun z => q z.1), rd_we, if_neg (fun z => q z.1)]
  have kl : ∀ k j, rdl (wr (wr M (R + 18 + b) 2 t2) (R + 18 + b) 3 (nI f)) k j = rdl M k j := fun k j => rfl
  generalize hM2 : wr (wr M (R + 18 + b) 2 t2) (R + 18 + b) 3 (nI f) = M2 at eV kp kl
  have hxo := ix_nI (show o < 2 ^ 31 by omega)
  unfold j_X4_creep_138
  rw [chk_is (by decide), ix_2, ix_3, ix_1, bnd_e, bnd_e, hM2, c_push eV hb, c_heavy eV hb]
  rw [goS_f]
  by_cases q : pushS V f b 159 b ≤ pushS V f b 158 b
  · rw [if_pos q, if_pos q]
    exact ⟨M2, rfl, eV, fun j => by rw [if_neg (by simp)]; exact kp _ _ (by omega), fun j => kp _ _ (by omega), kl⟩
  · rw [if_neg q, if_neg q, bnd_e, chk_is (inb_nI ho (by decide)), hxo, ix_0, ix_9]
    have r1 : rd (wr M2 (R + 18 + b) 2 0) (R + 8 + o) 0 = pushS V f b 149 o := by rw [rd_we, if_neg (by omega)]; exact c_wide eV ho
    have r2 : rd (wr M2 (R + 18 + b) 2 0) (R + 1) 9 = pushS V f b 162 9 := by rw [rd_we, if_neg (by omega)]; exact c_set eV (by decide)
    rw [r1, r2, bnd_e, bnd_e]
    have hd : (if pushS V f b 149 o < pushS V f b 162 9 then pushS V f b 149 o else pushS V f b 162 9) = mnS (pushS V f b 162 9) (pushS V f b 149 o) := rfl
    rw [hd]
    generalize hg : mnS (pushS V f b 162 9) (pushS V f b 149 o) = g
    have r3 : rd (wr (wr M2 (R + 18 + b) 2 0) (R + 8 + o) 0 (pushS V f b 149 o - g)) (R + 8 + f) 0 = pushS V f b 149 f := by rw [rd_we, if_neg (by omega), rd_we, if_neg (by omega)]; exact c_wide eV hf
    rw [r3, bnd_e]
    have r4 : rd (wr (wr (wr M2 (R + 18 + b) 2 0) (R + 8 + o) 0 (pushS V f b 149 o - g)) (R + 8 + f) 0 (pushS V f b 149 f + g)) R 3 = pushS V f b 148 4 := by rw [rd_we, if_neg (by omega), rd_we, if_neg (by omega), rd_we, if_neg (by omega)]; exact c_mo eV
    rw [r4, bnd_e, bnd_e]
    refine ⟨_, rfl, ?_, fun j => ?_, fun j => ?_, fun k j => ?_⟩
    · rw [w_out (by omega), w_mo, w_land hf (by decide) (by decide), w_land ho (by decide) (by decide), w_stake hb (by decide), eV]
      unfold moveS
      rw [hg]
    · rw [rd_we]
      by_cases z : j = o
      · rw [if_pos ⟨rfl, z⟩, if_pos ⟨rfl, z⟩]
      · rw [if_neg (fun y => z y.2), if_neg (fun y => z y.2), rd_we, if_neg (by omega), rd_we, if_neg (by omega), rd_we, if_neg (by omega), rd_we, if_neg (by omega)]; exact kp _ _ (by omega)
    · rw [rd_we, if_neg (by omega), rd_we, if_neg (by omega), rd_we, if_neg (by omega), rd_we, if_neg (by omega), rd_we, if_neg (by omega)]; exact kp _ _ (by omega)
    · rw [rdl_wr, rdl_wr, rdl_wr, rdl_wr, rdl_wr]; exact kl k j
theorem ccreep_is (hV : vC R M = V) (hf : f < 10) (hb : b < 10) (ho : o < 10) (hfo : f ≠ o) (hD : rd M (R + 5) o = D o) : ∃ M', j_X4_creep_43 R M (nI f) (nI o) (nI b) = some M' ∧ vC R M' = (creepS V D f b o).1 ∧ (∀ j, rd M' (R + 6) j = if (creepS V D f b o).2 = true ∧ j = o then 1 else rd M (R + 6) j) ∧ (∀ j, rd M' (R + 5) j = rd M (R + 5) j) ∧ (∀ g, g ≠ f → rdl M' (R + 36) g = rdl M (R + 36) g) ∧ (rdl M' (R + 36) f = rdl M (R + 36) f ∨ rdl M' (R + 36) f = rdl M (R + 36) f - (V 162 6).toInt64) := by
  unfold j_X4_creep_43 creepS
  rw [chk_is (inb_nI hb (by decide)), chk_is (inb_nI hf (by decide)), ix_nI (n := b) (by omega), ix_nI (n := f) (by omega), ix_nI (n := o) (by omega), ix_0, ix_9, c_wall hV hb, c_set hV (show 9 < 10 by decide), chk_is (inb_nI ho (by decide)), c_wide hV ho]
  by_cases q1 : V 157 b = 0
  · rw [if_pos q1]
    by_cases q2 : V 162 9 = 0
    · rw [if_pos q2, if_neg (fun z => z.2.1 q2)]
      exact ⟨M, rfl, hV, fun j => by rw [if_neg (by simp)], fun _ => rfl, fun _ _ => rfl, Or.inl rfl⟩
    · rw [if_neg q2]
      by_cases q3 : V 149 o = 0
      · rw [if_pos q3, if_neg (fun z => z.2.2 q3)]
        exact ⟨M, rfl, hV, fun j => by rw [if_neg (by simp)], fun _ => rfl, fun _ _ => rfl, Or.inl rfl⟩
      · rw [if_neg q3, if_pos ⟨q1, q2, q3⟩]
        obtain ⟨M1, e1, e2, e3, e4⟩ := cstop_is hV ho hD
        rw [e1, some_bind, un2_is]
        have e6 := stop6 V D o
        by_cases z : (stopS V D o).2 = true
        · rw [if_pos z, if_neg (by decide), bnd_e, bnd_e, bnd_e, ix_6, ix_2]
          have r1 : rd M1 (R + 8 + f) 6 = (stopS V D o).1 155 f := c_cau e2 hf
          have r2 : rd (wr M1 (R + 8 + f) 6 (rd M1 (R + 8 + f) 6 + 1)) (R + 1) 6 = V 162 6 := by rw [rd_we, if_neg (by omega), c_set e2 (by decide), e6]
          have r3 : rdl (wr M1 (R + 8 + f) 6 (rd M1 (R + 8 + f) 6 + 1)) (R + 36) f = rdl M (R + 36) f := by rw [rdl_wr]; exact e4 _ _
          rw [r2, r3, r1]
          have hp : (rdl M (R + 36) f).toInt32 = (stopS V D o).1 153 f := by rw [← e4]; exact c_pur e2 hf
          unfold goS
          rw [if_pos z]
          refine ⟨_, rfl, ?_, fun j => ?_, fun j => ?_, fun g hg => ?_, Or.inr ?_⟩
          · rw [w_stake hb (by decide), w_pur hf, w_land hf (by decide) (by decide), e2, l_sub, hp]
            unfold fineS
            rw [e6]
          · rw [if_neg (by simp), rd_we, if_neg (by omega), rd_wrl, rd_we, if_neg (by omega)]; exact e3 _ _ (by omega)
          · rw [rd_we, if_neg (by omega), rd_wrl, rd_we, if_neg (by omega)]; exact e3 _ _ (by omega)
          · rw [rdl_wr, rdl_wrl, if_neg (fun y => hg y.2), rdl_wr]; exact e4 _ _
          · rw [rdl_wr, rdl_wrl, if_pos ⟨rfl, rfl⟩]
        · have z' : (stopS V D o).2 = false := by simpa using z
          rw [if_neg z, if_pos rfl, z']
          have r1 : rd M1 (R + 18 + b) 3 = (stopS V D o).1 160 b := c_by e2 hb
          have r2 : rd M1 (R + 18 + b) 2 = (stopS V D o).1 159 b := c_push e2 hb
          rw [ix_3, ix_2, r1, r2]
          by_cases y : (stopS V D o).1 160 b = nI f
          · rw [if_pos y]
            obtain ⟨M2, f1, f2, f3, f4, f5⟩ := cpush_is (o := o) (t2 := (stopS V D o).1 159 b + 1) e2 hf hb ho hfo (by rw [if_pos y])
            exact ⟨M2, f1, f2, fun j => by rw [f3, e3 _ _ (by omega)], fun j => by rw [f4]; exact e3 _ _ (by omega), fun g _ => by rw [f5]; exact e4 _ _, Or.inl (by rw [f5]; exact e4 _ _)⟩
          · rw [if_neg y]
            obtain ⟨M2, f1, f2, f3, f4, f5⟩ := cpush_is (o := o) (t2 := 1) e2 hf hb ho hfo (by rw [if_neg y])
            exact ⟨M2, f1, f2, fun j => by rw [f3, e3 _ _ (by omega)], fun j => by rw [f4]; exact e3 _ _ (by omega), fun g _ => by rw [f5]; exact e4 _ _, Or.inl (by rw [f5]; exact e4 _ _)⟩
  · rw [if_neg q1, if_neg (fun z => q1 z.1)]
    exact ⟨M, rfl, hV, fun j => by rw [if_neg (by simp)], fun _ => rfl, fun _ _ => rfl, Or.inl rfl⟩
end CN
section MN
variable {n f b o : Nat} {M : Mem} {V : Vw} {D : Nat → Int32}
theorem mdraw_is (hV : vM M = V) : m_X6_draw M 1000 = some (drwR (drwS V), wr M 148 1 (1664525 * V 148 1 + 1013904223)) := by
  unfold m_X6_draw
  rw [bnd_e, m_dr hV, chk_is (by decide), rd_wr, if_pos ⟨rfl, rfl⟩]
  unfold drwR drwS
  rw [vs_at]
theorem mstop_is (hV : vM M = V) (ho : o < 10) (hD : rd M 174 o = D o) (hd : V 152 o = 0 ∨ V 152 o = 1) : ∃ M', m_X6_isStopped M (nI o) = some (if (stopS V D o).2 = true then 1 else 0, M') ∧ vM M' = (stopS V D o).1 ∧ ∀ k j, k ≠ 148 → rd M' k j = rd M k j := by
  have hb := inb_nI ho (by decide : 10 ≤ 2 ^ 31)
  have hx := ix_nI (show o < 2 ^ 31 by omega)
  have eV : vM (wr M 148 1 (1664525 * V 148 1 + 1013904223)) = drwS V := by rw [vM_wr (by omega), hV]; rfl
  have s7 : rd (wr M 148 1 (1664525 * V 148 1 + 1013904223)) 162 7 = V 162 7 := by rw [rd_wr, if_neg (by omega)]; exact m_at hV (by decide) (by decide) (by decide)
  have s8 : rd (wr M 148 1 (1664525 * V 148 1 + 1013904223)) 162 8 = V 162 8 := by rw [rd_wr, if_neg (by omega)]; exact m_at hV (by decide) (by decide) (by decide)
  have ko : ∀ k j, k ≠ 148 → rd (wr M 148 1 (1664525 * V 148 1 + 1013904223)) k j = rd M k j := fun k j q => by rw [rd_wr, if_neg (fun z => q z.1)]
  unfold m_X6_isStopped stopS
  rw [chk_is hb, hx, hD, m_at hV (k := 152) (by decide) (by decide) ho, mdraw_is hV]
  by_cases q1 : D o = 1
  · rw [if_pos q1, if_pos q1, some_bind, un2_is, ix_7, s7]
    refine ⟨_, ?_, eV, ko⟩
    by_cases z : V 162 7 ≤ drwR (drwS V)
    · rw [if_pos z, if_neg (by simp [z])]
    · rw [if_neg z, if_pos (by simp [z])]
  · rw [if_neg q1, if_neg q1]
    by_cases q2 : V 152 o = 0
    · rw [if_pos q2, if_neg (by rw [q2]; decide)]
      exact ⟨M, rfl, hV, fun _ _ _ => rfl⟩
    · rw [if_neg q2, if_pos (hd.resolve_left q2), some_bind, un2_is, ix_8, s8]
      refine ⟨_, ?_, eV, ko⟩
      by_cases z : V 162 8 ≤ drwR (drwS V)
      · rw [if_pos z, if_neg (by simp [z])]
      · rw [if_neg z, if_pos (by simp [z])]
theorem mpush_is {t2 : Int32} (hV : vM M = V) (hf : f < 10) (hb : b < 10) (ho : o < 10) (hfo : f ≠ o) (ht : t2 = if V 160 b = nI f then V 159 b + 1 else 1) : ∃ M', j_X6_moves_107 M (nI f) (nI b) (nI o) (nI b) t2 = some M' ∧ vM M' = (goS V f b o false).1 ∧ (∀ j, rd M' 175 j = if (goS V f b o false).2 = true ∧ j = o then 1 else rd M 175 j) ∧ ∀ j, rd M' 174 j = rd M 174 j := by
  have eV : vM (wr (wr M 159 b t2) 160 b (nI f)) = pushS V f b := by
    rw [vM_wr (by omega), vM_wr (by omega), hV, ht]; rfl
  have kp : ∀ k j, k ≠ 159 → k ≠ 160 → rd (wr (wr M 159 b t2) 160 b (nI f)) k j = rd M k j := fun k j q q2 => by rw [rd_we, if_neg (fun z => q2 z.1), rd_we, if_neg (fun z => q z.1)]
  generalize hM2 : wr (wr M 159 b t2) 160 b (nI f) = M2 at eV kp
  have hxo := ix_nI (show o < 2 ^ 31 by omega)
  unfold j_X6_moves_107
  rw [chk_is (inb_nI hb (by decide)), ix_nI (n := b) (by omega), bnd_e, chk_is (inb_nI hb (by decide)), bnd_e, hM2, m_at eV (k := 158) (by decide) (by decide) hb, m_at eV (k := 159) (by decide) (by decide) hb]
  rw [goS_f]
  by_cases q : pushS V f b 159 b ≤ pushS V f b 158 b
  · rw [if_pos q, if_neg (by grind)]
    exact ⟨M2, rfl, eV, fun j => by rw [if_neg (by simp)]; exact kp _ _ (by decide) (by decide), fun j => kp _ _ (by decide) (by decide)⟩
  · rw [if_neg q, if_pos (by grind), chk_is (inb_nI ho (by decide)), hxo, ix_9, m_at eV (k := 162) (by decide) (by decide) (by decide), m_at eV (k := 149) (by decide) (by decide) ho, less_is, some_bind, mlt_is, bnd_e]
    generalize hg : mnS (pushS V f b 162 9) (pushS V f b 149 o) = g
    have r1 : rd (wr M2 159 b 0) 149 o = pushS V f b 149 o := by rw [rd_we, if_neg (by omega)]; exact m_at eV (by decide) (by decide) ho
    rw [r1, bnd_e, chk_is (inb_nI hf (by decide)), ix_nI (n := f) (by omega)]
    have r3 : rd (wr (wr M2 159 b 0) 149 o (pushS V f b 149 o - g)) 149 f = pushS V f b 149 f := by rw [rd_we, if_neg (by omega), rd_we, if_neg (by omega)]; exact m_at eV (by decide) (by decide) hf
    rw [r3, bnd_e, bnd_e]
    have r4 : rd (wr (wr (wr (wr M2 159 b 0) 149 o (pushS V f b 149 o - g)) 149 f (pushS V f b 149 f + g)) 175 o 1) 148 4 = pushS V f b 148 4 := by rw [rd_we, if_neg (by omega), rd_we, if_neg (by omega), rd_we, if_neg (by omega), rd_we, if_neg (by omega)]; exact m_mo eV
    rw [r4, bnd_e]
    refine ⟨_, rfl, ?_, fun j => ?_, fun j => ?_⟩
    · rw [vM_wr (by omega), vM_out (by omega), vM_wr (by omega), vM_wr (by omega), vM_wr (by omega), eV]
      unfold moveS
      rw [hg]
    · rw [rd_we, if_neg (by omega), rd_we]
      by_cases z : j = o
      · rw [if_pos ⟨rfl, z⟩, if_pos ⟨rfl, z⟩]
      · rw [if_neg (fun y => z y.2), if_neg (fun y => z y.2), rd_we, if_neg (by omega), rd_we, if_neg (by omega), rd_we, if_neg (by omega)]; exact kp _ _ (by decide) (by decide)
    · rw [rd_we, if_neg (by omega), rd_we, if_neg (by omega), rd_we, if_neg (by omega), rd_we, if_neg (by omega), rd_we, if_neg (by omega)]; exact kp _ _ (by decide) (by decide)
theorem mcreep_is (hV : vM M = V) (hf : f < 10) (hb : b < 10) (ho : o < 10) (hfo : f ≠ o) (hD : rd M 174 o = D o) (hd : V 152 o = 0 ∨ V 152 o = 1) (hw : V 157 b = 0 ∨ V 157 b = 1) : ∃ M', m_X6_moves M (nI f) (nI b) (nI o) = some M' ∧ vM M' = (creepS V D f b o).1 ∧ (∀ j, rd M' 175 j = if (creepS V D f b o).2 = true ∧ j = o then 1 else rd M 175 j) ∧ ∀ j, rd M' 174 j = rd M 174 j := by
  unfold m_X6_moves creepS
  rw [chk_is (inb_nI hb (by decide)), ix_nI (n := b) (by omega), ix_nI (n := o) (by omega), ix_9, m_at hV (k := 157) (by decide) (by decide) hb, m_at hV (k := 162) (f := 9) (by decide) (by decide) (by decide), chk_is (inb_nI ho (by decide)), m_at hV (k := 149) (f := o) (by decide) (by decide) ho]
  by_cases q1 : V 157 b = 0
  · rw [if_neg (by rw [q1]; decide)]
    by_cases q2 : V 162 9 = 0
    · rw [if_pos q2, if_neg (fun z => z.2.1 q2)]
      exact ⟨M, rfl, hV, fun j => by rw [if_neg (by simp)], fun _ => rfl⟩
    · rw [if_neg q2]
      by_cases q3 : V 149 o = 0
      · rw [if_pos q3, if_neg (fun z => z.2.2 q3)]
        exact ⟨M, rfl, hV, fun j => by rw [if_neg (by simp)], fun _ => rfl⟩
      · rw [if_neg q3, if_pos ⟨q1, q2, q3⟩]
        obtain ⟨M1, e1, e2, e3⟩ := mstop_is hV ho hD hd
        rw [e1, some_bind, un2_is]
        have e6 := stop6 V D o
        by_cases z : (stopS V D o).2 = true
        · rw [if_pos z, if_neg (by decide), chk_is (inb_nI hf (by decide)), ix_nI (n := f) (by omega), bnd_e, bnd_e, bnd_e, ix_6]
          have r1 : rd M1 155 f = (stopS V D o).1 155 f := m_at e2 (by decide) (by decide) hf
          have r2 : rd (wr M1 155 f (rd M1 155 f + 1)) 162 6 = (stopS V D o).1 162 6 := by rw [rd_we, if_neg (by omega)]; exact m_at e2 (by decide) (by decide) (by decide)
          have r3 : rd (wr M1 155 f (rd M1 155 f + 1)) 153 f = (stopS V D o).1 153 f := by rw [rd_we, if_neg (by omega)]; exact m_at e2 (by decide) (by decide) hf
          rw [r2, r3, r1]
          unfold goS
          rw [if_pos z]
          refine ⟨_, rfl, ?_, fun j => ?_, fun j => ?_⟩
          · rw [vM_wr (by omega), vM_wr (by omega), vM_wr (by omega), e2]; rfl
          · rw [if_neg (by simp), rd_we, if_neg (by omega), rd_we, if_neg (by omega), rd_we, if_neg (by omega)]; exact e3 _ _ (by decide)
          · rw [rd_we, if_neg (by omega), rd_we, if_neg (by omega), rd_we, if_neg (by omega)]; exact e3 _ _ (by decide)
        · have z' : (stopS V D o).2 = false := by simpa using z
          rw [if_neg z, if_pos rfl, z']
          have r1 : rd M1 160 b = (stopS V D o).1 160 b := m_at e2 (by decide) (by decide) hb
          have r2 : rd M1 159 b = (stopS V D o).1 159 b := m_at e2 (by decide) (by decide) hb
          rw [r1, r2]
          by_cases y : (stopS V D o).1 160 b = nI f
          · rw [if_pos y]
            obtain ⟨M2, f1, f2, f3, f4⟩ := mpush_is (o := o) (t2 := (stopS V D o).1 159 b + 1) e2 hf hb ho hfo (by rw [if_pos y])
            exact ⟨M2, f1, f2, fun j => by rw [f3, e3 _ _ (by decide)], fun j => by rw [f4]; exact e3 _ _ (by decide)⟩
          · rw [if_neg y]
            obtain ⟨M2, f1, f2, f3, f4⟩ := mpush_is (o := o) (t2 := 1) e2 hf hb ho hfo (by rw [if_neg y])
            exact ⟨M2, f1, f2, fun j => by rw [f3, e3 _ _ (by decide)], fun j => by rw [f4]; exact e3 _ _ (by decide)⟩
  · rw [if_pos (hw.resolve_left q1), if_neg (fun z => q1 z.1)]
    exact ⟨M, rfl, hV, fun j => by rw [if_neg (by simp)], fun _ => rfl⟩
end MN
