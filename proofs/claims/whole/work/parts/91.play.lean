section CPLAY
variable {fu a F : Nat} {V : Vw} {W N : Int} {L : Nat → List Ln}
theorem fillL_is {M : Mem} {k n : Nat} {x : Int64} (hf : n < fu) (hn : n < 2 ^ 31) : ∃ M', m_J7_fill_d0a16 fu k n M x = some M' ∧ (∀ j, j < n → rdl M' k j = x) ∧ (∀ k j, rd M' k j = rd M k j) := by
  obtain ⟨M', e, r⟩ := lp_up (body := b_J7_fill_d0a16_6 fu k n x (nI n)) n (fun i s => ∃ Z, s = (nI i, Z) ∧ (∀ j, j < i → rdl Z k j = x) ∧ ∀ k j, rd Z k j = rd M k j) (fun M' => (∀ j, j < n → rdl M' k j = x) ∧ ∀ k j, rd M' k j = rd M k j) (by
    rintro i s hi ⟨Z, rfl, z1, z2⟩
    left
    refine ⟨(nI (i + 1), wrl Z k i x), ?_, _, rfl, fun j hj => ?_, fun k j => by rw [rd_wrl]; exact z2 k j⟩
    · unfold b_J7_fill_d0a16_6
      rw [un2_is, if_neg (nI_ge hi hn), chk_is (inb_nI hi (by omega)), ix_nI (by omega), bnd_e, bnd_e, nI_1]
    · rw [rdl_wrl]
      by_cases y : j = i
      · rw [if_pos ⟨rfl, y⟩]
      · rw [if_neg (fun z => y z.2)]; exact z1 j (by omega)) (by
    rintro s ⟨Z, rfl, z1, z2⟩
    refine ⟨Z, ?_, z1, z2⟩
    unfold b_J7_fill_d0a16_6
    rw [un2_is, if_pos (nI_le (Nat.le_refl _) hn)]) fu 0 (0, M) (Nat.zero_le _) (by omega) ⟨M, rfl, fun j hj => absurd hj (Nat.not_lt_zero _), fun _ _ => rfl⟩
  refine ⟨M', ?_, r⟩
  unfold m_J7_fill_d0a16
  rw [bnd_e, show lp (b_J7_fill_d0a16_6 fu k n x (Int32.ofNat n)) fu (0, M) = some M' from e, some_bind, un1_is]
theorem lat_s (p : Int32) (k w : Nat) (hw : w ≤ a) : latS V a F L p (k + 1) w = (b3S V a F L p (latS V a F L p k) w).1 := by
  show (if w ≤ a then _ else _) = _
  rw [if_pos hw]
/-- only widths that there are bear on it -/
theorem b3_cong {p : Int32} {l l' : Nat → Int64} (ha6 : a ≤ 60) (h : ∀ x, x ≤ a → l x = l' x) {w : Nat} (hw : w ≤ a) : b3S V a F L p l w = b3S V a F L p l' w := by
  have nx : ∀ c e, nxS F a w c e l = nxS F a w c e l' := by
    intro c e
    have g1 : min F (a - w) ≤ a - w := Nat.min_le_right _ _
    unfold nxS
    rw [h _ (by omega), h _ (by omega), h _ (by omega), h _ hw]
  unfold b3S fdS
  rw [nx, nx, nx]
theorem cplay_is {M : Mem} {k : Nat} {p : Int32} (hfu : 500 ≤ fu) (ha6 : a ≤ 60) (hF : F ≤ 5) (hk : k ≤ 40) (h6 : rd M 130 6 = nI a) (h7 : rd M 130 7 = nI F) (hfil : Fil V a L (a + 1) M) : ∃ M', m_X1_play fu M (nI k) p = some M' ∧ ∀ x, x ≤ a → rdl M' 131 x = latS V a F L p k x ∧ (1 ≤ k → rd M' 132 x = (b3S V a F L p (latS V a F L p (k - 1)) x).2) := by
  obtain ⟨X, x1, x2, x3⟩ := fillL_is (fu := fu) (M := M) (k := 131) (n := 61) (x := 0) (by omega) (by decide)
  have inner : ∀ (s3 : Int32) (Z : Mem) (i : Nat), rd Z 130 6 = nI a → rd Z 130 7 = nI F → Fil V a L (a + 1) Z → (∀ x, x ≤ a → rdl Z 131 x = latS V a F L p i x) → ∃ Y, lp (b_X1_play_18 fu (nI k) p s3) fu (0, Z) = some Y ∧ rd Y 130 6 = nI a ∧ rd Y 130 7 = nI F ∧ Fil V a L (a + 1) Y ∧ ∀ x, x ≤ a → rdl Y 133 x = (b3S V a F L p (latS V a F L p i) x).1 ∧ rd Y 132 x = (b3S V a F L p (latS V a F L p i) x).2 := by
    intro s3 Z i z6 z7 zf zl
    refine lp_up (a + 1) (fun w s => ∃ Y, s = (nI w, Y) ∧ rd Y 130 6 = nI a ∧ rd Y 130 7 = nI F ∧ Fil V a L (a + 1) Y ∧ (∀ x, x ≤ a → rdl Y 131 x = latS V a F L p i x) ∧ ∀ x, x < w → rdl Y 133 x = (b3S V a F L p (latS V a F L p i) x).1 ∧ rd Y 132 x = (b3S V a F L p (latS V a F L p i) x).2) (fun Y => rd Y 130 6 = nI a ∧ rd Y 130 7 = nI F ∧ Fil V a L (a + 1) Y ∧ ∀ x, x ≤ a → rdl Y 133 x = (b3S V a F L p (latS V a F L p i) x).1 ∧ rd Y 132 x = (b3S V a F L p (latS V a F L p i) x).2) ?_ ?_ fu 0 (0, Z) (Nat.zero_le _) (by omega) ⟨Z, rfl, z6, z7, zf, zl, fun x hx => absurd hx (Nat.not_lt_zero _)⟩
    · rintro w s hw ⟨Y, rfl, y6, y7, yf, yl, yd⟩
      left
      obtain ⟨A, a1, a2, a3, a4, a5⟩ := cchoose_is (fu := fu) (w := w) (p := p) (by omega) (by omega) ha6 hF y6 y7 yf yl
      refine ⟨(nI (w + 1), A), ?_, A, rfl, by rw [a4 _ _ (by omega)]; exact y6, by rw [a4 _ _ (by omega)]; exact y7, yf.fr (fun k j q1 q2 => a4 _ _ (by omega)), fun x hx => by rw [a5 _ _ (by omega)]; exact yl x hx, fun x hx => ?_⟩
      · unfold b_X1_play_18
        rw [un2_is, y6, if_neg (nI_nlt (by omega) (by omega)), a1, some_bind, bnd_e, nI_1]
      · by_cases y : x = w
        · rw [y]; exact ⟨a2, a3⟩
        · rw [a5 _ _ (by omega), a4 _ _ (by omega)]; exact yd x (by omega)
    · rintro s ⟨Y, rfl, y6, y7, yf, yl, yd⟩
      refine ⟨Y, ?_, y6, y7, yf, fun x hx => yd x (by omega)⟩
      unfold b_X1_play_18
      rw [un2_is, y6, if_pos (nI_lt (by omega) (by omega))]
  obtain ⟨M', e, r⟩ := lp_up (body := b_X1_play_10 fu (nI k) p) k (fun i s => ∃ Z, s = (nI i, Z) ∧ rd Z 130 6 = nI a ∧ rd Z 130 7 = nI F ∧ Fil V a L (a + 1) Z ∧ ∀ x, x ≤ a → rdl Z 131 x = latS V a F L p i x ∧ (1 ≤ i → rd Z 132 x = (b3S V a F L p (latS V a F L p (i - 1)) x).2)) (fun M' => ∀ x, x ≤ a → rdl M' 131 x = latS V a F L p k x ∧ (1 ≤ k → rd M' 132 x = (b3S V a F L p (latS V a F L p (k - 1)) x).2)) (by
    rintro i s hi ⟨Z, rfl, z6, z7, zf, zl⟩
    left
    obtain ⟨Y, y1, y6, y7, yf, yd⟩ := inner (nI i) Z i z6 z7 zf (fun x hx => (zl x hx).1)
    refine ⟨(nI (i + 1), cpML Y 133 0 131 0 (nI (a + 1))), ?_, _, rfl, y6, y7, yf, fun x hx => ⟨?_, fun _ => ?_⟩⟩
    · unfold b_X1_play_10
      rw [un2_is, if_neg (nI_ge hi (by omega)), y1, some_bind, un1_is, y6, nI_1, chk_is (cpOk_nI (by omega) (by omega) (by decide)), bnd_e, bnd_e, nI_1]
    · rw [rdl_cpl, ix_nI (by omega), if_pos ⟨rfl, by omega⟩, (yd x hx).1, lat_s p i x hx]
    · rw [rd_cpl, (yd x hx).2, Nat.add_sub_cancel]) (by
    rintro s ⟨Z, rfl, z6, z7, zf, zl⟩
    refine ⟨Z, ?_, zl⟩
    unfold b_X1_play_10
    rw [un2_is, if_pos (nI_le (Nat.le_refl _) (by omega))]) fu 0 (0, X) (Nat.zero_le _) (by omega) ⟨X, rfl, by rw [x3]; exact h6, by rw [x3]; exact h7, hfil.fr (fun k j _ _ => x3 k j), fun x hx => ⟨x2 x (by omega), fun z => absurd z (by decide)⟩⟩
  refine ⟨M', ?_, r⟩
  unfold m_X1_play
  rw [x1, some_bind, e, some_bind, un1_is]
end CPLAY
