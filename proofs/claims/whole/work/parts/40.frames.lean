/-! frames: written by wip/whole/gen/frames.py out of the mirrors -/
/-- what stays: ints outside w, longs outside v -/
def Fr (w : Nat → Nat → Prop) (v : Nat → Nat → Prop) (M M' : Mem) : Prop := (∀ k j, ¬ w k j → rd M' k j = rd M k j) ∧ (∀ k j, ¬ v k j → rdl M' k j = rdl M k j)
theorem Fr.rf {w : Nat → Nat → Prop} {v : Nat → Nat → Prop} {M : Mem} : Fr w v M M := ⟨fun _ _ _ => rfl, fun _ _ _ => rfl⟩
theorem Fr.tr {w : Nat → Nat → Prop} {v : Nat → Nat → Prop} {M M1 M2 : Mem} (h : Fr w v M M1) (h2 : Fr w v M1 M2) : Fr w v M M2 := ⟨fun k j q => (h2.1 k j q).trans (h.1 k j q), fun k j q => (h2.2 k j q).trans (h.2 k j q)⟩
theorem Fr.mono {w w2 : Nat → Nat → Prop} {v v2 : Nat → Nat → Prop} {M M1 : Mem} (h : Fr w v M M1) (hw : ∀ k j, w k j → w2 k j) (hv : ∀ k j, v k j → v2 k j) : Fr w2 v2 M M1 := ⟨fun k j q => h.1 k j (fun z => q (hw k j z)), fun k j q => h.2 k j (fun z => q (hv k j z))⟩
theorem Fr.wr {w : Nat → Nat → Prop} {v : Nat → Nat → Prop} {M : Mem} {k j : Nat} {x : Int32} (h : w k j) : Fr w v M (wr M k j x) := ⟨fun a b q => by rw [rd_wr, if_neg]; rintro ⟨rfl, rfl⟩; exact q h, fun _ _ _ => rfl⟩
theorem Fr.wrl {w : Nat → Nat → Prop} {v : Nat → Nat → Prop} {M : Mem} {k j : Nat} {x : Int64} (h : v k j) : Fr w v M (wrl M k j x) := ⟨fun _ _ _ => rfl, fun a b q => by rw [rdl_wrl, if_neg]; rintro ⟨rfl, rfl⟩; exact q h⟩
theorem Fr.cp {w : Nat → Nat → Prop} {v : Nat → Nat → Prop} {M : Mem} {k1 k2 : Nat} {sp dp n : Int32} (h : ∀ j, w k2 j) : Fr w v M (cpM M k1 sp k2 dp n) := ⟨fun a b q => by
  show (if a = k2 ∧ ix dp ≤ b ∧ b < ix dp + ix n then M.1 k1 (ix sp + (b - ix dp)) else M.1 a b) = M.1 a b
  rw [if_neg]; rintro ⟨rfl, _⟩; exact q (h _), fun _ _ _ => rfl⟩
theorem Fr.cpl {w : Nat → Nat → Prop} {v : Nat → Nat → Prop} {M : Mem} {k1 k2 : Nat} {sp dp n : Int32} (h : ∀ j, v k2 j) : Fr w v M (cpML M k1 sp k2 dp n) := ⟨fun _ _ _ => rfl, fun a b q => by
  show (if a = k2 ∧ ix dp ≤ b ∧ b < ix dp + ix n then M.2 k1 (ix sp + (b - ix dp)) else M.2 a b) = M.2 a b
  rw [if_neg]; rintro ⟨rfl, _⟩; exact q (h _)⟩
theorem lp_fr {S X : Type} {body : S → Option (S ⊕ X)} {w : Nat → Nat → Prop} {v : Nat → Nat → Prop} (mS : S → Mem) (mX : X → Mem) (hb : ∀ s o, body s = some o → Fr w v (mS s) (Sum.elim mS mX o)) : ∀ (n : Nat) (s : S) (x : X), lp body n s = some x → Fr w v (mS s) (mX x)
  | 0, _, _, h => by cases h
  | n + 1, s, x, h => by
    unfold lp at h
    cases hs : body s with
    | none => rw [hs] at h; cases h
    | some o =>
      rw [hs] at h
      have q := hb s o hs
      cases o with
      | inl s' => exact q.tr (lp_fr mS mX hb n s' x h)
      | inr y => cases h; exact q

def w_X5_state : Nat → Nat → Prop := fun k j => (k = 0 ∧ j = 1)
def v_X5_state : Nat → Nat → Prop := fun k j => False
def w_J7_fill_53178 (k0 : Nat) : Nat → Nat → Prop := fun k j => k = k0
def v_J7_fill_53178 (k0 : Nat) : Nat → Nat → Prop := fun k j => False
def w_X4_begin (r0 : Nat) : Nat → Nat → Prop := fun k j => (k = r0 ∧ j = 0) ∨ (r0 + 8 ≤ k ∧ k < r0 + 28)
def v_X4_begin (r0 : Nat) : Nat → Nat → Prop := fun k j => k = r0 + 36
def w_X5_ring : Nat → Nat → Prop := fun k j => (k = 0 ∧ j = 0) ∨ (8 ≤ k ∧ k < 28)
def v_X5_ring : Nat → Nat → Prop := fun k j => k = 36
def w_X5_farm : Nat → Nat → Prop := fun k j => (8 ≤ k ∧ k < 18)
def v_X5_farm : Nat → Nat → Prop := fun k j => False
def w_X5_border : Nat → Nat → Prop := fun k j => (18 ≤ k ∧ k < 28)
def v_X5_border : Nat → Nat → Prop := fun k j => False
def w_X5_set : Nat → Nat → Prop := fun k j => k = 1
def v_X5_set : Nat → Nat → Prop := fun k j => False
def w_X5_putBytes : Nat → Nat → Prop := fun k j => (k = 146 ∧ j = 7) ∨ k = 147
def v_X5_putBytes : Nat → Nat → Prop := fun k j => False
def w_X5_feed : Nat → Nat → Prop := fun k j => (k = 146 ∧ j = 7) ∨ k = 147
def v_X5_feed : Nat → Nat → Prop := fun k j => False
def w_X5_end : Nat → Nat → Prop := fun k j => (k = 146 ∧ j = 7)
def v_X5_end : Nat → Nat → Prop := fun k j => False
def w_X3_advanceWord : Nat → Nat → Prop := fun k j => (k = 111 ∧ j = 8) ∨ (k = 111 ∧ j = 9)
def v_X3_advanceWord : Nat → Nat → Prop := fun k j => False
def w_X3_advanceNumber : Nat → Nat → Prop := fun k j => (k = 111 ∧ j = 10) ∨ (k = 111 ∧ j = 8) ∨ (k = 111 ∧ j = 9)
def v_X3_advanceNumber : Nat → Nat → Prop := fun k j => False
def w_X3_advance : Nat → Nat → Prop := fun k j => (k = 111 ∧ j = 10) ∨ (k = 111 ∧ j = 7) ∨ (k = 111 ∧ j = 8) ∨ (k = 111 ∧ j = 9)
def v_X3_advance : Nat → Nat → Prop := fun k j => False
def w_X3_refuse : Nat → Nat → Prop := fun k j => (k = 111 ∧ j = 3) ∨ (k = 111 ∧ j = 4)
def v_X3_refuse : Nat → Nat → Prop := fun k j => False
def w_X3_expect : Nat → Nat → Prop := fun k j => (k = 111 ∧ j = 11)
def v_X3_expect : Nat → Nat → Prop := fun k j => False
def w_X3_readsDo : Nat → Nat → Prop := fun k j => (k = 111 ∧ j = 11) ∨ (k = 111 ∧ j = 2) ∨ (k = 111 ∧ j = 3) ∨ (k = 111 ∧ j = 4)
def v_X3_readsDo : Nat → Nat → Prop := fun k j => False
def w_X3_readsDoing : Nat → Nat → Prop := fun k j => (k = 111 ∧ j = 11) ∨ (k = 111 ∧ j = 12) ∨ (k = 111 ∧ j = 3) ∨ (k = 111 ∧ j = 4)
def v_X3_readsDoing : Nat → Nat → Prop := fun k j => False
def w_X3_emit : Nat → Nat → Prop := fun k j => (k = 111 ∧ j = 1) ∨ k = 112
def v_X3_emit : Nat → Nat → Prop := fun k j => False
def w_X3_readsWhen : Nat → Nat → Prop := fun k j => (k = 111 ∧ j = 1) ∨ (k = 111 ∧ j = 11) ∨ (k = 111 ∧ j = 3) ∨ (k = 111 ∧ j = 4) ∨ k = 112
def v_X3_readsWhen : Nat → Nat → Prop := fun k j => False
def w_X3_readsUnit : Nat → Nat → Prop := fun k j => (k = 111 ∧ j = 1) ∨ (k = 111 ∧ j = 11) ∨ (k = 111 ∧ j = 3) ∨ (k = 111 ∧ j = 4) ∨ k = 112
def v_X3_readsUnit : Nat → Nat → Prop := fun k j => False
def w_X3_putSign : Nat → Nat → Prop := fun k j => (k = 111 ∧ j = 11) ∨ (k = 111 ∧ j = 15) ∨ k = 114
def v_X3_putSign : Nat → Nat → Prop := fun k j => False
def w_X3_readsCondition : Nat → Nat → Prop := fun k j => (k = 111 ∧ j = 1) ∨ (k = 111 ∧ j = 11) ∨ (k = 111 ∧ j = 13) ∨ (k = 111 ∧ j = 15) ∨ (k = 111 ∧ j = 16) ∨ (k = 111 ∧ j = 3) ∨ (k = 111 ∧ j = 4) ∨ k = 112 ∨ k = 114
def v_X3_readsCondition : Nat → Nat → Prop := fun k j => False
def w_X3_readsPart : Nat → Nat → Prop := fun k j => (k = 111 ∧ j = 1) ∨ (k = 111 ∧ j = 11) ∨ (k = 111 ∧ j = 3) ∨ (k = 111 ∧ j = 4) ∨ k = 112
def v_X3_readsPart : Nat → Nat → Prop := fun k j => False
def w_X3_settleSigns : Nat → Nat → Prop := fun k j => (k = 111 ∧ j = 1) ∨ (k = 111 ∧ j = 15) ∨ (k = 111 ∧ j = 16) ∨ k = 112
def v_X3_settleSigns : Nat → Nat → Prop := fun k j => False
def w_X3_readsBehindCondition : Nat → Nat → Prop := fun k j => (k = 111 ∧ j = 1) ∨ (k = 111 ∧ j = 11) ∨ (k = 111 ∧ j = 15) ∨ (k = 111 ∧ j = 16) ∨ (k = 111 ∧ j = 3) ∨ (k = 111 ∧ j = 4) ∨ k = 112 ∨ k = 114
def v_X3_readsBehindCondition : Nat → Nat → Prop := fun k j => False
def w_X3_readsBehindUnit : Nat → Nat → Prop := fun k j => (k = 111 ∧ j = 1) ∨ (k = 111 ∧ j = 11) ∨ (k = 111 ∧ j = 13) ∨ (k = 111 ∧ j = 15) ∨ (k = 111 ∧ j = 16) ∨ (k = 111 ∧ j = 3) ∨ (k = 111 ∧ j = 4) ∨ k = 112 ∨ k = 114
def v_X3_readsBehindUnit : Nat → Nat → Prop := fun k j => False
def w_X3_readsToken : Nat → Nat → Prop := fun k j => (k = 111 ∧ j = 1) ∨ (k = 111 ∧ j = 11) ∨ (k = 111 ∧ j = 12) ∨ (k = 111 ∧ j = 13) ∨ (k = 111 ∧ j = 15) ∨ (k = 111 ∧ j = 16) ∨ (k = 111 ∧ j = 2) ∨ (k = 111 ∧ j = 3) ∨ (k = 111 ∧ j = 4) ∨ k = 112 ∨ k = 114
def v_X3_readsToken : Nat → Nat → Prop := fun k j => False
def w_X3_accepts (k1 : Nat) : Nat → Nat → Prop := fun k j => (k = 111 ∧ j = 1) ∨ (k = 111 ∧ j = 10) ∨ (k = 111 ∧ j = 11) ∨ (k = 111 ∧ j = 12) ∨ (k = 111 ∧ j = 13) ∨ (k = 111 ∧ j = 15) ∨ (k = 111 ∧ j = 16) ∨ (k = 111 ∧ j = 2) ∨ (k = 111 ∧ j = 3) ∨ (k = 111 ∧ j = 4) ∨ (k = 111 ∧ j = 6) ∨ (k = 111 ∧ j = 7) ∨ (k = 111 ∧ j = 8) ∨ (k = 111 ∧ j = 9) ∨ (112 ≤ k ∧ k < 115)
def v_X3_accepts (k1 : Nat) : Nat → Nat → Prop := fun k j => False
def w_X2_take (l0 : Nat) (k1 : Nat) : Nat → Nat → Prop := fun k j => (k = l0 ∧ j = 1) ∨ k = l0 + 4
def v_X2_take (l0 : Nat) (k1 : Nat) : Nat → Nat → Prop := fun k j => False
def w_X5_text : Nat → Nat → Prop := fun k j => ((28 ≤ k ∧ k < 32) ∧ j = 1) ∨ (k = 111 ∧ j = 1) ∨ (k = 111 ∧ j = 10) ∨ (k = 111 ∧ j = 11) ∨ (k = 111 ∧ j = 12) ∨ (k = 111 ∧ j = 13) ∨ (k = 111 ∧ j = 15) ∨ (k = 111 ∧ j = 16) ∨ (k = 111 ∧ j = 2) ∨ (k = 111 ∧ j = 3) ∨ (k = 111 ∧ j = 4) ∨ (k = 111 ∧ j = 6) ∨ (k = 111 ∧ j = 7) ∨ (k = 146 ∧ j = 7) ∨ (k = 111 ∧ j = 8) ∨ (k = 146 ∧ j = 8) ∨ (k = 111 ∧ j = 9) ∨ (k = 146 ∧ j = 9) ∨ (32 ≤ k ∧ k < 36) ∨ (112 ≤ k ∧ k < 115)
def v_X5_text : Nat → Nat → Prop := fun k j => False
def w_X4_negate (r0 : Nat) : Nat → Nat → Prop := fun k j => k = r0 + 7
def v_X4_negate (r0 : Nat) : Nat → Nat → Prop := fun k j => False
def w_X4_join (r0 : Nat) : Nat → Nat → Prop := fun k j => k = r0 + 7
def v_X4_join (r0 : Nat) : Nat → Nat → Prop := fun k j => False
def w_X4_does (r0 : Nat) : Nat → Nat → Prop := fun k j => k = r0 + 7
def v_X4_does (r0 : Nat) : Nat → Nat → Prop := fun k j => False
def w_X5_of : Nat → Nat → Prop := fun k j => k = 7
def v_X5_of : Nat → Nat → Prop := fun k j => False
def w_X4_draw (r0 : Nat) : Nat → Nat → Prop := fun k j => (k = r0 ∧ j = 1)
def v_X4_draw (r0 : Nat) : Nat → Nat → Prop := fun k j => False
def w_X4_stopsOne (r0 : Nat) : Nat → Nat → Prop := fun k j => (k = r0 ∧ j = 1)
def v_X4_stopsOne (r0 : Nat) : Nat → Nat → Prop := fun k j => False
def w_X4_creep (r0 : Nat) : Nat → Nat → Prop := fun k j => ((r0 + 8 ≤ k ∧ k < r0 + 18) ∧ j = 0) ∨ (k = r0 ∧ j = 1) ∨ (k = r0 ∧ j = 3) ∨ ((r0 + 8 ≤ k ∧ k < r0 + 18) ∧ j = 6) ∨ k = r0 + 6 ∨ (r0 + 18 ≤ k ∧ k < r0 + 28)
def v_X4_creep (r0 : Nat) : Nat → Nat → Prop := fun k j => k = r0 + 36
def w_X4_settle (r0 : Nat) : Nat → Nat → Prop := fun k j => (r0 + 8 ≤ k ∧ k < r0 + 18)
def v_X4_settle (r0 : Nat) : Nat → Nat → Prop := fun k j => k = r0 + 36
def w_X4_pass (r0 : Nat) : Nat → Nat → Prop := fun k j => (k = r0 ∧ j = 1) ∨ (k = r0 ∧ j = 2) ∨ (k = r0 ∧ j = 3) ∨ (r0 + 5 ≤ k ∧ k < r0 + 28)
def v_X4_pass (r0 : Nat) : Nat → Nat → Prop := fun k j => k = r0 + 36
def w_X5_nights : Nat → Nat → Prop := fun k j => (k = 0 ∧ j = 1) ∨ (k = 0 ∧ j = 2) ∨ (k = 0 ∧ j = 3) ∨ (5 ≤ k ∧ k < 28)
def v_X5_nights : Nat → Nat → Prop := fun k j => k = 36
def w_X0_fillMeans (r0 : Nat) : Nat → Nat → Prop := fun k j => (118 ≤ k ∧ k < 130)
def v_X0_fillMeans (r0 : Nat) : Nat → Nat → Prop := fun k j => False
def w_X0_findRests (r0 : Nat) : Nat → Nat → Prop := fun k j => (k = 115 ∧ j = 0) ∨ (k = 115 ∧ j = 1) ∨ (k = 115 ∧ j = 2) ∨ (k = 115 ∧ j = 3) ∨ (118 ≤ k ∧ k < 130)
def v_X0_findRests (r0 : Nat) : Nat → Nat → Prop := fun k j => False
def w_X5_rests : Nat → Nat → Prop := fun k j => (k = 115 ∧ j = 0) ∨ (k = 115 ∧ j = 1) ∨ (k = 115 ∧ j = 2) ∨ (k = 115 ∧ j = 3) ∨ (118 ≤ k ∧ k < 130)
def v_X5_rests : Nat → Nat → Prop := fun k j => False
def w_X0_fillTempted (r0 : Nat) : Nat → Nat → Prop := fun k j => (k = 115 ∧ j = 10) ∨ (k = 115 ∧ j = 11) ∨ (k = 115 ∧ j = 8) ∨ (k = 115 ∧ j = 9)
def v_X0_fillTempted (r0 : Nat) : Nat → Nat → Prop := fun k j => False
def w_X0_fewestWatchers (r0 : Nat) : Nat → Nat → Prop := fun k j => (k = 115 ∧ j = 10) ∨ (k = 115 ∧ j = 11) ∨ (k = 115 ∧ j = 8) ∨ (k = 115 ∧ j = 9)
def v_X0_fewestWatchers (r0 : Nat) : Nat → Nat → Prop := fun k j => False
def w_X5_still : Nat → Nat → Prop := fun k j => (k = 115 ∧ j = 10) ∨ (k = 115 ∧ j = 11) ∨ (k = 115 ∧ j = 8) ∨ (k = 115 ∧ j = 9)
def v_X5_still : Nat → Nat → Prop := fun k j => False
def w_X4_copy (r0 : Nat) (r1 : Nat) : Nat → Nat → Prop := fun k j => (k = r0 ∧ j = 0) ∨ (k = r0 ∧ j = 1) ∨ ((r0 + 28 ≤ k ∧ k < r0 + 32) ∧ j = 1) ∨ (k = r0 ∧ j = 2) ∨ (k = r0 ∧ j = 3) ∨ k = r0 + 1 ∨ (r0 + 8 ≤ k ∧ k < r0 + 28) ∨ (r0 + 32 ≤ k ∧ k < r0 + 36)
def v_X4_copy (r0 : Nat) (r1 : Nat) : Nat → Nat → Prop := fun k j => k = r0 + 36
def w_X0_build (r0 : Nat) : Nat → Nat → Prop := fun k j => ((r0 + 18 ≤ k ∧ k < r0 + 28) ∧ j = 0)
def v_X0_build (r0 : Nat) : Nat → Nat → Prop := fun k j => False
def w_X0_findWalls (r0 : Nat) : Nat → Nat → Prop := fun k j => (k = 115 ∧ j = 10) ∨ (k = 115 ∧ j = 11) ∨ (k = 115 ∧ j = 4) ∨ (k = 115 ∧ j = 5) ∨ (k = 115 ∧ j = 8) ∨ (k = 115 ∧ j = 9) ∨ ((r0 + 18 ≤ k ∧ k < r0 + 28) ∧ j = 0)
def v_X0_findWalls (r0 : Nat) : Nat → Nat → Prop := fun k j => False
def w_X5_walls : Nat → Nat → Prop := fun k j => (k = 74 ∧ j = 0) ∨ (k = 74 ∧ j = 1) ∨ ((102 ≤ k ∧ k < 106) ∧ j = 1) ∨ (k = 115 ∧ j = 10) ∨ (k = 115 ∧ j = 11) ∨ (k = 74 ∧ j = 2) ∨ (k = 74 ∧ j = 3) ∨ (k = 115 ∧ j = 4) ∨ (k = 115 ∧ j = 5) ∨ (k = 115 ∧ j = 8) ∨ (k = 115 ∧ j = 9) ∨ k = 75 ∨ (82 ≤ k ∧ k < 102) ∨ (106 ≤ k ∧ k < 110)
def v_X5_walls : Nat → Nat → Prop := fun k j => k = 110
def w_X1_prepare (r0 : Nat) : Nat → Nat → Prop := fun k j => (k = 130 ∧ j = 6) ∨ (k = 130 ∧ j = 7) ∨ (137 ≤ k ∧ k < 146) ∨ ((r0 + 8 ≤ k ∧ k < r0 + 28) ∧ j = 0) ∨ k = r0 + 7
def v_X1_prepare (r0 : Nat) : Nat → Nat → Prop := fun k j => False
def w_J7_fill_d0a16 (k0 : Nat) : Nat → Nat → Prop := fun k j => False
def v_J7_fill_d0a16 (k0 : Nat) : Nat → Nat → Prop := fun k j => k = k0
def w_X1_choose : Nat → Nat → Prop := fun k j => k = 132
def v_X1_choose : Nat → Nat → Prop := fun k j => k = 133
def w_X1_play : Nat → Nat → Prop := fun k j => k = 132
def v_X1_play : Nat → Nat → Prop := fun k j => k = 131 ∨ k = 133
def w_X5_two : Nat → Nat → Prop := fun k j => (k = 74 ∧ j = 0) ∨ (k = 74 ∧ j = 1) ∨ ((102 ≤ k ∧ k < 106) ∧ j = 1) ∨ (k = 74 ∧ j = 2) ∨ (k = 74 ∧ j = 3) ∨ (k = 130 ∧ j = 6) ∨ (k = 130 ∧ j = 7) ∨ k = 75 ∨ (81 ≤ k ∧ k < 102) ∨ (106 ≤ k ∧ k < 110) ∨ k = 132 ∨ (137 ≤ k ∧ k < 146)
def v_X5_two : Nat → Nat → Prop := fun k j => k = 110 ∨ k = 131 ∨ k = 133
def w_X5_was : Nat → Nat → Prop := fun k j => ((8 ≤ k ∧ k < 18) ∧ j = 8)
def v_X5_was : Nat → Nat → Prop := fun k j => False
def w_X5_feet : Nat → Nat → Prop := fun k j => (k = 74 ∧ j = 0) ∨ (k = 74 ∧ j = 1) ∨ ((102 ≤ k ∧ k < 106) ∧ j = 1) ∨ (k = 74 ∧ j = 2) ∨ (k = 74 ∧ j = 3) ∨ k = 75 ∨ (79 ≤ k ∧ k < 102) ∨ (106 ≤ k ∧ k < 110)
def v_X5_feet : Nat → Nat → Prop := fun k j => k = 110
def w_X5_thought : Nat → Nat → Prop := fun k j => (k = 74 ∧ j = 0) ∨ (k = 74 ∧ j = 1) ∨ ((102 ≤ k ∧ k < 106) ∧ j = 1) ∨ (k = 74 ∧ j = 2) ∨ (k = 74 ∧ j = 3) ∨ k = 75 ∨ (79 ≤ k ∧ k < 102) ∨ (106 ≤ k ∧ k < 110)
def v_X5_thought : Nat → Nat → Prop := fun k j => k = 110
def w_X5_image : Nat → Nat → Prop := fun k j => (k = 0 ∧ j = 0) ∨ (k = 37 ∧ j = 0) ∨ (k = 0 ∧ j = 1) ∨ ((28 ≤ k ∧ k < 32) ∧ j = 1) ∨ (k = 37 ∧ j = 1) ∨ ((65 ≤ k ∧ k < 69) ∧ j = 1) ∨ (k = 146 ∧ j = 10) ∨ (k = 0 ∧ j = 2) ∨ (k = 37 ∧ j = 2) ∨ (k = 0 ∧ j = 3) ∨ (k = 37 ∧ j = 3) ∨ k = 1 ∨ (8 ≤ k ∧ k < 28) ∨ (32 ≤ k ∧ k < 36) ∨ k = 38 ∨ (45 ≤ k ∧ k < 65) ∨ (69 ≤ k ∧ k < 73)
def v_X5_image : Nat → Nat → Prop := fun k j => k = 36 ∨ k = 73
def w_X6_state : Nat → Nat → Prop := fun k j => (k = 148 ∧ j = 0) ∨ (k = 148 ∧ j = 1)
def v_X6_state : Nat → Nat → Prop := fun k j => False
def w_X6_draw : Nat → Nat → Prop := fun k j => (k = 148 ∧ j = 1)
def v_X6_draw : Nat → Nat → Prop := fun k j => False
def w_X6_ring : Nat → Nat → Prop := fun k j => (k = 148 ∧ j = 0) ∨ (k = 148 ∧ j = 2) ∨ (149 ≤ k ∧ k < 162)
def v_X6_ring : Nat → Nat → Prop := fun k j => False
def w_X6_farm : Nat → Nat → Prop := fun k j => (k = 148 ∧ j = 0) ∨ (149 ≤ k ∧ k < 153)
def v_X6_farm : Nat → Nat → Prop := fun k j => False
def w_X6_border : Nat → Nat → Prop := fun k j => (k = 148 ∧ j = 0) ∨ (157 ≤ k ∧ k < 160)
def v_X6_border : Nat → Nat → Prop := fun k j => False
def w_X6_set : Nat → Nat → Prop := fun k j => (k = 148 ∧ j = 0) ∨ k = 162
def v_X6_set : Nat → Nat → Prop := fun k j => False
def w_X6_worth : Nat → Nat → Prop := fun k j => (k = 148 ∧ j = 0)
def v_X6_worth : Nat → Nat → Prop := fun k j => False
def w_X6_puts : Nat → Nat → Prop := fun k j => (k = 148 ∧ j = 20) ∨ k = 163
def v_X6_puts : Nat → Nat → Prop := fun k j => False
def w_X6_feed : Nat → Nat → Prop := fun k j => (k = 148 ∧ j = 0) ∨ (k = 148 ∧ j = 20) ∨ k = 163
def v_X6_feed : Nat → Nat → Prop := fun k j => False
def w_X6_end : Nat → Nat → Prop := fun k j => (k = 148 ∧ j = 0) ∨ (k = 148 ∧ j = 20)
def v_X6_end : Nat → Nat → Prop := fun k j => False
def w_X6_reads : Nat → Nat → Prop := fun k j => (k = 148 ∧ j = 21) ∨ (k = 148 ∧ j = 22) ∨ (k = 148 ∧ j = 23) ∨ (k = 148 ∧ j = 24)
def v_X6_reads : Nat → Nat → Prop := fun k j => False
def w_X6_errs : Nat → Nat → Prop := fun k j => (k = 148 ∧ j = 36) ∨ (k = 148 ∧ j = 37)
def v_X6_errs : Nat → Nat → Prop := fun k j => False
def w_X6_emits : Nat → Nat → Prop := fun k j => (k = 148 ∧ j = 32) ∨ (169 ≤ k ∧ k < 171)
def v_X6_emits : Nat → Nat → Prop := fun k j => False
def w_X6_readUnit : Nat → Nat → Prop := fun k j => (k = 148 ∧ j = 21) ∨ (k = 148 ∧ j = 22) ∨ (k = 148 ∧ j = 23) ∨ (k = 148 ∧ j = 24) ∨ (k = 148 ∧ j = 32) ∨ (k = 148 ∧ j = 36) ∨ (k = 148 ∧ j = 37) ∨ (169 ≤ k ∧ k < 171)
def v_X6_readUnit : Nat → Nat → Prop := fun k j => False
def w_X6_readProduct : Nat → Nat → Prop := fun k j => (k = 148 ∧ j = 21) ∨ (k = 148 ∧ j = 22) ∨ (k = 148 ∧ j = 23) ∨ (k = 148 ∧ j = 24) ∨ (k = 148 ∧ j = 32) ∨ (k = 148 ∧ j = 36) ∨ (k = 148 ∧ j = 37) ∨ (169 ≤ k ∧ k < 171)
def v_X6_readProduct : Nat → Nat → Prop := fun k j => False
def w_X6_readSum : Nat → Nat → Prop := fun k j => (k = 148 ∧ j = 21) ∨ (k = 148 ∧ j = 22) ∨ (k = 148 ∧ j = 23) ∨ (k = 148 ∧ j = 24) ∨ (k = 148 ∧ j = 32) ∨ (k = 148 ∧ j = 36) ∨ (k = 148 ∧ j = 37) ∨ (169 ≤ k ∧ k < 171)
def v_X6_readSum : Nat → Nat → Prop := fun k j => False
def w_X6_readCompared : Nat → Nat → Prop := fun k j => (k = 148 ∧ j = 21) ∨ (k = 148 ∧ j = 22) ∨ (k = 148 ∧ j = 23) ∨ (k = 148 ∧ j = 24) ∨ (k = 148 ∧ j = 32) ∨ (k = 148 ∧ j = 36) ∨ (k = 148 ∧ j = 37) ∨ (169 ≤ k ∧ k < 171)
def v_X6_readCompared : Nat → Nat → Prop := fun k j => False
def w_X6_waits : Nat → Nat → Prop := fun k j => (k = 148 ∧ j = 35) ∨ k = 171
def v_X6_waits : Nat → Nat → Prop := fun k j => False
def w_X6_settles : Nat → Nat → Prop := fun k j => (k = 148 ∧ j = 32) ∨ (k = 148 ∧ j = 33) ∨ (k = 148 ∧ j = 35) ∨ (169 ≤ k ∧ k < 171)
def v_X6_settles : Nat → Nat → Prop := fun k j => False
def w_X6_readAny : Nat → Nat → Prop := fun k j => (k = 148 ∧ j = 21) ∨ (k = 148 ∧ j = 22) ∨ (k = 148 ∧ j = 23) ∨ (k = 148 ∧ j = 24) ∨ (k = 148 ∧ j = 32) ∨ (k = 148 ∧ j = 33) ∨ (k = 148 ∧ j = 35) ∨ (k = 148 ∧ j = 36) ∨ (k = 148 ∧ j = 37) ∨ (169 ≤ k ∧ k < 172)
def v_X6_readAny : Nat → Nat → Prop := fun k j => False
def w_X6_readLaw : Nat → Nat → Prop := fun k j => (k = 148 ∧ j = 21) ∨ (k = 148 ∧ j = 22) ∨ (k = 148 ∧ j = 23) ∨ (k = 148 ∧ j = 24) ∨ (k = 148 ∧ j = 32) ∨ (k = 148 ∧ j = 33) ∨ (k = 148 ∧ j = 35) ∨ (k = 148 ∧ j = 36) ∨ (k = 148 ∧ j = 37) ∨ (166 ≤ k ∧ k < 172)
def v_X6_readLaw : Nat → Nat → Prop := fun k j => False
def w_X6_text : Nat → Nat → Prop := fun k j => (k = 148 ∧ j = 0) ∨ (k = 148 ∧ j = 20) ∨ (k = 148 ∧ j = 21) ∨ (k = 148 ∧ j = 22) ∨ (k = 148 ∧ j = 23) ∨ (k = 148 ∧ j = 24) ∨ (k = 148 ∧ j = 32) ∨ (k = 148 ∧ j = 33) ∨ (k = 148 ∧ j = 35) ∨ (k = 148 ∧ j = 36) ∨ (k = 148 ∧ j = 37) ∨ (k = 148 ∧ j = 38) ∨ (k = 148 ∧ j = 39) ∨ (165 ≤ k ∧ k < 172)
def v_X6_text : Nat → Nat → Prop := fun k j => False
def w_X6_fault : Nat → Nat → Prop := fun k j => (k = 148 ∧ j = 0)
def v_X6_fault : Nat → Nat → Prop := fun k j => False
def w_X6_worthAt : Nat → Nat → Prop := fun k j => k = 173
def v_X6_worthAt : Nat → Nat → Prop := fun k j => False
def w_X6_doingBy : Nat → Nat → Prop := fun k j => k = 173
def v_X6_doingBy : Nat → Nat → Prop := fun k j => False
def w_X6_doingOf : Nat → Nat → Prop := fun k j => (172 ≤ k ∧ k < 174)
def v_X6_doingOf : Nat → Nat → Prop := fun k j => False
def w_X6_isStopped : Nat → Nat → Prop := fun k j => (k = 148 ∧ j = 1)
def v_X6_isStopped : Nat → Nat → Prop := fun k j => False
def w_X6_moves : Nat → Nat → Prop := fun k j => (k = 148 ∧ j = 1) ∨ (k = 148 ∧ j = 4) ∨ k = 149 ∨ k = 153 ∨ k = 155 ∨ (159 ≤ k ∧ k < 161) ∨ k = 175
def v_X6_moves : Nat → Nat → Prop := fun k j => False
def w_X6_goesBy : Nat → Nat → Prop := fun k j => (k = 148 ∧ j = 1) ∨ (k = 148 ∧ j = 3) ∨ (k = 148 ∧ j = 4) ∨ k = 149 ∨ (153 ≤ k ∧ k < 157) ∨ (159 ≤ k ∧ k < 161) ∨ (172 ≤ k ∧ k < 176)
def v_X6_goesBy : Nat → Nat → Prop := fun k j => False
def w_X6_nights : Nat → Nat → Prop := fun k j => (k = 148 ∧ j = 0) ∨ (k = 148 ∧ j = 1) ∨ (k = 148 ∧ j = 3) ∨ (k = 148 ∧ j = 4) ∨ k = 149 ∨ (153 ≤ k ∧ k < 157) ∨ (159 ≤ k ∧ k < 161) ∨ (172 ≤ k ∧ k < 176)
def v_X6_nights : Nat → Nat → Prop := fun k j => False
def w_X6_of : Nat → Nat → Prop := fun k j => (k = 148 ∧ j = 0) ∨ (172 ≤ k ∧ k < 174)
def v_X6_of : Nat → Nat → Prop := fun k j => False
def w_X6_stake : Nat → Nat → Prop := fun k j => (k = 148 ∧ j = 0)
def v_X6_stake : Nat → Nat → Prop := fun k j => False
def w_X6_takesRow : Nat → Nat → Prop := fun k j => k = 176
def v_X6_takesRow : Nat → Nat → Prop := fun k j => False
def w_X6_value : Nat → Nat → Prop := fun k j => (k = 148 ∧ j = 0) ∨ k = 176
def v_X6_value : Nat → Nat → Prop := fun k j => False
def w_X6_replyOf : Nat → Nat → Prop := fun k j => k = 176
def v_X6_replyOf : Nat → Nat → Prop := fun k j => False
def w_X6_reply : Nat → Nat → Prop := fun k j => (k = 148 ∧ j = 0) ∨ k = 176
def v_X6_reply : Nat → Nat → Prop := fun k j => False
def w_X6_isRest : Nat → Nat → Prop := fun k j => k = 176
def v_X6_isRest : Nat → Nat → Prop := fun k j => False
def w_X6_rests : Nat → Nat → Prop := fun k j => (k = 148 ∧ j = 0) ∨ k = 176
def v_X6_rests : Nat → Nat → Prop := fun k j => False
def w_X6_standsStill : Nat → Nat → Prop := fun k j => k = 176
def v_X6_standsStill : Nat → Nat → Prop := fun k j => False
def w_X6_stillSet : Nat → Nat → Prop := fun k j => k = 176
def v_X6_stillSet : Nat → Nat → Prop := fun k j => False
def w_X6_still : Nat → Nat → Prop := fun k j => (k = 148 ∧ j = 0) ∨ k = 176
def v_X6_still : Nat → Nat → Prop := fun k j => False
def w_X6_walls : Nat → Nat → Prop := fun k j => (k = 148 ∧ j = 0) ∨ k = 157 ∨ k = 176
def v_X6_walls : Nat → Nat → Prop := fun k j => False
def w_X6_pactValue : Nat → Nat → Prop := fun k j => k = 176
def v_X6_pactValue : Nat → Nat → Prop := fun k j => False
def w_X6_holds : Nat → Nat → Prop := fun k j => k = 176
def v_X6_holds : Nat → Nat → Prop := fun k j => False
def w_X6_pact : Nat → Nat → Prop := fun k j => (k = 148 ∧ j = 0) ∨ k = 176
def v_X6_pact : Nat → Nat → Prop := fun k j => False
def w_X6_findsTwo : Nat → Nat → Prop := fun k j => (k = 149 ∧ j = 0) ∨ (k = 176 ∧ j = 0) ∨ (k = 149 ∧ j = 1) ∨ (k = 176 ∧ j = 1) ∨ (172 ≤ k ∧ k < 174) ∨ k = 179
def v_X6_findsTwo : Nat → Nat → Prop := fun k j => (177 ≤ k ∧ k < 179)
def w_X6_two : Nat → Nat → Prop := fun k j => ((148 ≤ k ∧ k < 150) ∧ j = 0) ∨ (k = 176 ∧ j = 0) ∨ (k = 149 ∧ j = 1) ∨ (k = 157 ∧ j = 1) ∨ (k = 176 ∧ j = 1) ∨ (172 ≤ k ∧ k < 174) ∨ k = 179
def v_X6_two : Nat → Nat → Prop := fun k j => (177 ≤ k ∧ k < 179)
def w_X6_was : Nat → Nat → Prop := fun k j => (k = 148 ∧ j = 0) ∨ k = 161
def v_X6_was : Nat → Nat → Prop := fun k j => False
def w_X6_judged : Nat → Nat → Prop := fun k j => (k = 148 ∧ j = 0)
def v_X6_judged : Nat → Nat → Prop := fun k j => False
def w_X6_putAside : Nat → Nat → Prop := fun k j => (k = 148 ∧ j = 49) ∨ k = 180
def v_X6_putAside : Nat → Nat → Prop := fun k j => False
def w_X6_asides : Nat → Nat → Prop := fun k j => (k = 148 ∧ j = 1) ∨ (k = 148 ∧ j = 2) ∨ (k = 148 ∧ j = 3) ∨ (k = 148 ∧ j = 4) ∨ (k = 148 ∧ j = 48) ∨ (k = 148 ∧ j = 49) ∨ (149 ≤ k ∧ k < 163) ∨ k = 180
def v_X6_asides : Nat → Nat → Prop := fun k j => False
def w_X6_thinks : Nat → Nat → Prop := fun k j => (k = 148 ∧ j = 1) ∨ (k = 148 ∧ j = 2) ∨ (k = 148 ∧ j = 3) ∨ (k = 148 ∧ j = 4) ∨ (k = 148 ∧ j = 48) ∨ (k = 148 ∧ j = 49) ∨ (149 ≤ k ∧ k < 163) ∨ (172 ≤ k ∧ k < 176) ∨ k = 180
def v_X6_thinks : Nat → Nat → Prop := fun k j => False
def w_X6_feet : Nat → Nat → Prop := fun k j => (k = 148 ∧ j = 0) ∨ (k = 148 ∧ j = 1) ∨ (k = 148 ∧ j = 2) ∨ (k = 148 ∧ j = 3) ∨ (k = 148 ∧ j = 4) ∨ (k = 148 ∧ j = 48) ∨ (k = 148 ∧ j = 49) ∨ (149 ≤ k ∧ k < 163) ∨ (172 ≤ k ∧ k < 176) ∨ k = 180
def v_X6_feet : Nat → Nat → Prop := fun k j => False
def w_X6_thought : Nat → Nat → Prop := fun k j => (k = 148 ∧ j = 0) ∨ (k = 148 ∧ j = 1) ∨ (k = 148 ∧ j = 2) ∨ (k = 148 ∧ j = 3) ∨ (k = 148 ∧ j = 4) ∨ (k = 148 ∧ j = 48) ∨ (k = 148 ∧ j = 49) ∨ (149 ≤ k ∧ k < 163) ∨ (172 ≤ k ∧ k < 176) ∨ k = 180
def v_X6_thought : Nat → Nat → Prop := fun k j => False
def w_X6_keptText : Nat → Nat → Prop := fun k j => (k = 148 ∧ j = 54) ∨ k = 182
def v_X6_keptText : Nat → Nat → Prop := fun k j => False
def w_X6_image : Nat → Nat → Prop := fun k j => (k = 148 ∧ j = 0) ∨ (k = 148 ∧ j = 1) ∨ (k = 148 ∧ j = 2) ∨ (k = 148 ∧ j = 3) ∨ (k = 148 ∧ j = 4) ∨ (k = 148 ∧ j = 48) ∨ (k = 148 ∧ j = 49) ∨ (k = 148 ∧ j = 51) ∨ (k = 148 ∧ j = 54) ∨ (149 ≤ k ∧ k < 163) ∨ (165 ≤ k ∧ k < 171) ∨ (180 ≤ k ∧ k < 183)
def v_X6_image : Nat → Nat → Prop := fun k j => False
def w_X6_look : Nat → Nat → Prop := fun k j => (k = 148 ∧ j = 0)
def v_X6_look : Nat → Nat → Prop := fun k j => False
def rg (p : Prop) : Prop := p
set_option maxHeartbeats 1000000 in
theorem fr_m_X5_state {M : Mem} {a1 : Int32} {rr : Int32} {M2 : Mem} (h : m_X5_state M a1 = some (rr, M2)) : Fr (w_X5_state) (v_X5_state) M M2 := by
  unfold m_X5_state at h
  have F0 : Fr (w_X5_state) (v_X5_state) M M := Fr.rf
  obtain ⟨v_1, e1, h⟩ := bnd_elim h
  obtain ⟨M_3, e2, h⟩ := bnd_elim h
  have F3 : Fr (w_X5_state) (v_X5_state) M M_3 := F0.tr (by rw [e2]; exact Fr.wr (by unfold w_X5_state; exact ⟨by omega, by decide⟩))
  cases h
  exact F3
set_option maxHeartbeats 1000000 in
theorem fr_b_J7_fill_53178_5 {fu : Nat} {k0 : Nat} {n0 : Nat} {s1 : Int32} {s3 : Int32} {s0 : Int32 × Mem} {o : (Int32 × Mem) ⊕ (Mem)} (h : b_J7_fill_53178_5 fu k0 n0 s1 s3 s0 = some o) : Fr (w_J7_fill_53178 k0) (v_J7_fill_53178 k0) ((fun x : Int32 × Mem => x.2) s0) (Sum.elim (fun x : Int32 × Mem => x.2) (fun x : Mem => x) o) := by
  obtain ⟨c2, M⟩ := s0
  unfold b_J7_fill_53178_5 at h
  replace h := un2_e h
  have F0 : Fr (w_J7_fill_53178 k0) (v_J7_fill_53178 k0) M M := Fr.rf
  by_cases hc1 : s3 ≤ c2
  · rw [if_pos hc1] at h
    cases h
    exact F0
  · rw [if_neg hc1] at h
    obtain ⟨hb2, h⟩ := chk_elim h
    have q3 := inb_lt hb2
    obtain ⟨M_5, e4, h⟩ := bnd_elim h
    have F5 : Fr (w_J7_fill_53178 k0) (v_J7_fill_53178 k0) M M_5 := F0.tr (by rw [e4]; exact Fr.wr (by unfold w_J7_fill_53178; exact (by omega)))
    obtain ⟨v_7, e6, h⟩ := bnd_elim h
    cases h
    exact F5
set_option maxHeartbeats 1000000 in
theorem fr_m_J7_fill_53178 {fu : Nat} {k0 : Nat} {n0 : Nat} {M : Mem} {a1 : Int32} {M2 : Mem} (h : m_J7_fill_53178 fu k0 n0 M a1 = some M2) : Fr (w_J7_fill_53178 k0) (v_J7_fill_53178 k0) M M2 := by
  unfold m_J7_fill_53178 at h
  have F0 : Fr (w_J7_fill_53178 k0) (v_J7_fill_53178 k0) M M := Fr.rf
  obtain ⟨v_1, e1, h⟩ := bnd_elim h
  obtain ⟨x2, hr3, h⟩ := bind_elim h
  have F4 := F0.tr (lp_fr (w := (w_J7_fill_53178 k0)) (v := (v_J7_fill_53178 k0)) (fun x : Int32 × Mem => x.2) (fun x : Mem => x) (fun s o hq => fr_b_J7_fill_53178_5 hq) _ _ _ hr3)
  obtain ⟨M_11, rfl⟩ : ∃ z, z = x2 := ⟨_, rfl⟩
  replace h := un1_e h
  have F5 : Fr (w_J7_fill_53178 k0) (v_J7_fill_53178 k0) M M_11 := F4
  cases h
  exact F5
set_option maxHeartbeats 1000000 in
theorem fr_b_X4_begin_7 {fu : Nat} {r0 : Nat} {s0 : Int32 × Mem} {o : (Int32 × Mem) ⊕ (Mem)} (h : b_X4_begin_7 fu r0 s0 = some o) : Fr (w_X4_begin r0) (v_X4_begin r0) ((fun x : Int32 × Mem => x.2) s0) (Sum.elim (fun x : Int32 × Mem => x.2) (fun x : Mem => x) o) := by
  obtain ⟨c2, M⟩ := s0
  unfold b_X4_begin_7 at h
  replace h := un2_e h
  have F0 : Fr (w_X4_begin r0) (v_X4_begin r0) M M := Fr.rf
  by_cases hc1 : 10 ≤ c2
  · rw [if_pos hc1] at h
    cases h
    exact F0
  · rw [if_neg hc1] at h
    obtain ⟨hb2, h⟩ := chk_elim h
    have q3 := inb_lt hb2
    obtain ⟨M_6, hr4, h⟩ := bind_elim h
    have F5 : Fr (w_X4_begin r0) (v_X4_begin r0) M M_6 := F0.tr ((fr_m_J7_fill_53178 hr4).mono (fun k j h => by
        unfold w_J7_fill_53178 at h
        exact (Or.inr (by omega))) (fun k j h => absurd h id))
    obtain ⟨M_7, e6, h⟩ := bnd_elim h
    have F7 : Fr (w_X4_begin r0) (v_X4_begin r0) M M_7 := F5.tr (by rw [e6]; exact Fr.wr (Or.inr (by omega)))
    obtain ⟨M_9, e8, h⟩ := bnd_elim h
    have F9 : Fr (w_X4_begin r0) (v_X4_begin r0) M M_9 := F7.tr (by rw [e8]; exact Fr.wr (Or.inr (by omega)))
    obtain ⟨M_11, e10, h⟩ := bnd_elim h
    have F11 : Fr (w_X4_begin r0) (v_X4_begin r0) M M_11 := F9.tr (by rw [e10]; exact Fr.wr (Or.inr (by omega)))
    obtain ⟨M_13, e12, h⟩ := bnd_elim h
    have F13 : Fr (w_X4_begin r0) (v_X4_begin r0) M M_13 := F11.tr (by rw [e12]; exact Fr.wr (Or.inr (by omega)))
    obtain ⟨M_15, e14, h⟩ := bnd_elim h
    have F15 : Fr (w_X4_begin r0) (v_X4_begin r0) M M_15 := F13.tr (by rw [e14]; exact Fr.wr (Or.inr (by omega)))
    obtain ⟨M_17, e16, h⟩ := bnd_elim h
    have F17 : Fr (w_X4_begin r0) (v_X4_begin r0) M M_17 := F15.tr (by rw [e16]; exact Fr.wrl (by unfold v_X4_begin; exact (by omega)))
    obtain ⟨M_20, hr18, h⟩ := bind_elim h
    have F19 : Fr (w_X4_begin r0) (v_X4_begin r0) M M_20 := F17.tr ((fr_m_J7_fill_53178 hr18).mono (fun k j h => by
        unfold w_J7_fill_53178 at h
        exact (Or.inr (by omega))) (fun k j h => absurd h id))
    obtain ⟨M_21, e20, h⟩ := bnd_elim h
    have F21 : Fr (w_X4_begin r0) (v_X4_begin r0) M M_21 := F19.tr (by rw [e20]; exact Fr.wr (Or.inr (by omega)))
    obtain ⟨v_23, e22, h⟩ := bnd_elim h
    cases h
    exact F21
set_option maxHeartbeats 1000000 in
theorem fr_m_X4_begin {fu : Nat} {r0 : Nat} {M : Mem} {a1 : Int32} {M2 : Mem} (h : m_X4_begin fu r0 M a1 = some M2) : Fr (w_X4_begin r0) (v_X4_begin r0) M M2 := by
  unfold m_X4_begin at h
  have F0 : Fr (w_X4_begin r0) (v_X4_begin r0) M M := Fr.rf
  obtain ⟨M_1, e1, h⟩ := bnd_elim h
  have F2 : Fr (w_X4_begin r0) (v_X4_begin r0) M M_1 := F0.tr (by rw [e1]; exact Fr.wr (Or.inl ⟨by omega, by decide⟩))
  obtain ⟨x3, hr4, h⟩ := bind_elim h
  have F5 := F2.tr (lp_fr (w := (w_X4_begin r0)) (v := (v_X4_begin r0)) (fun x : Int32 × Mem => x.2) (fun x : Mem => x) (fun s o hq => fr_b_X4_begin_7 hq) _ _ _ hr4)
  obtain ⟨M_27, rfl⟩ : ∃ z, z = x3 := ⟨_, rfl⟩
  replace h := un1_e h
  have F6 : Fr (w_X4_begin r0) (v_X4_begin r0) M M_27 := F5
  cases h
  exact F6
set_option maxHeartbeats 1000000 in
theorem fr_m_X5_ring {fu : Nat} {M : Mem} {a1 : Int32} {rr : Int32} {M2 : Mem} (h : m_X5_ring fu M a1 = some (rr, M2)) : Fr (w_X5_ring) (v_X5_ring) M M2 := by
  unfold m_X5_ring at h
  have F0 : Fr (w_X5_ring) (v_X5_ring) M M := Fr.rf
  by_cases hc1 : a1 < 2
  · rw [if_pos hc1] at h
    cases h
    exact F0
  · rw [if_neg hc1] at h
    by_cases hc2 : a1 ≤ 10
    · rw [if_pos hc2] at h
      obtain ⟨M_4, hr3, h⟩ := bind_elim h
      have F4 : Fr (w_X5_ring) (v_X5_ring) M M_4 := F0.tr ((fr_m_X4_begin hr3).mono (fun k j h => by
          unfold w_X4_begin at h
          rcases h with h | h
          · exact (Or.inl ⟨by omega, h.2⟩)
          · exact (Or.inr (by omega))) (fun k j h => by
          unfold v_X4_begin at h
          exact (by unfold v_X5_ring; exact (by omega))))
      cases h
      exact F4
    · rw [if_neg hc2] at h
      cases h
      exact F0
set_option maxHeartbeats 1000000 in
theorem fr_m_X5_farm {M : Mem} {a1 : Int32} {a2 : Int32} {a3 : Int32} {rr : Int32} {M2 : Mem} (h : m_X5_farm M a1 a2 a3 = some (rr, M2)) : Fr (w_X5_farm) (v_X5_farm) M M2 := by
  unfold m_X5_farm at h
  have F0 : Fr (w_X5_farm) (v_X5_farm) M M := Fr.rf
  obtain ⟨r_2, hr1, h⟩ := bind_elim h
  by_cases hc2 : r_2 = 0
  · rw [if_pos hc2] at h
    cases h
    exact F0
  · rw [if_neg hc2] at h
    obtain ⟨r_5, hr3, h⟩ := bind_elim h
    by_cases hc4 : r_5 = 0
    · rw [if_pos hc4] at h
      cases h
      exact F0
    · rw [if_neg hc4] at h
      obtain ⟨hb5, h⟩ := chk_elim h
      have q6 := inb_lt hb5
      obtain ⟨hb7, h⟩ := chk_elim h
      have q8 := inb_lt hb7
      obtain ⟨M_9, e9, h⟩ := bnd_elim h
      have F10 : Fr (w_X5_farm) (v_X5_farm) M M_9 := F0.tr (by rw [e9]; exact Fr.wr (by unfold w_X5_farm; exact (by omega)))
      cases h
      exact F10
set_option maxHeartbeats 1000000 in
theorem fr_m_X5_border {M : Mem} {a1 : Int32} {a2 : Int32} {a3 : Int32} {rr : Int32} {M2 : Mem} (h : m_X5_border M a1 a2 a3 = some (rr, M2)) : Fr (w_X5_border) (v_X5_border) M M2 := by
  unfold m_X5_border at h
  have F0 : Fr (w_X5_border) (v_X5_border) M M := Fr.rf
  obtain ⟨r_2, hr1, h⟩ := bind_elim h
  by_cases hc2 : r_2 = 0
  · rw [if_pos hc2] at h
    cases h
    exact F0
  · rw [if_neg hc2] at h
    obtain ⟨r_5, hr3, h⟩ := bind_elim h
    by_cases hc4 : r_5 = 0
    · rw [if_pos hc4] at h
      cases h
      exact F0
    · rw [if_neg hc4] at h
      obtain ⟨hb5, h⟩ := chk_elim h
      have q6 := inb_lt hb5
      obtain ⟨hb7, h⟩ := chk_elim h
      have q8 := inb_lt hb7
      obtain ⟨M_9, e9, h⟩ := bnd_elim h
      have F10 : Fr (w_X5_border) (v_X5_border) M M_9 := F0.tr (by rw [e9]; exact Fr.wr (by unfold w_X5_border; exact (by omega)))
      obtain ⟨M_11, e11, h⟩ := bnd_elim h
      have F12 : Fr (w_X5_border) (v_X5_border) M M_11 := F10.tr (by rw [e11]; exact Fr.wr (by unfold w_X5_border; exact (by omega)))
      cases h
      exact F12
set_option maxHeartbeats 1000000 in
theorem fr_m_X5_set {M : Mem} {a1 : Int32} {a2 : Int32} {rr : Int32} {M2 : Mem} (h : m_X5_set M a1 a2 = some (rr, M2)) : Fr (w_X5_set) (v_X5_set) M M2 := by
  unfold m_X5_set at h
  have F0 : Fr (w_X5_set) (v_X5_set) M M := Fr.rf
  obtain ⟨r_2, hr1, h⟩ := bind_elim h
  by_cases hc2 : r_2 = 0
  · rw [if_pos hc2] at h
    cases h
    exact F0
  · rw [if_neg hc2] at h
    obtain ⟨hb3, h⟩ := chk_elim h
    have q4 := inb_lt hb3
    obtain ⟨M_5, e5, h⟩ := bnd_elim h
    have F6 : Fr (w_X5_set) (v_X5_set) M M_5 := F0.tr (by rw [e5]; exact Fr.wr (by unfold w_X5_set; exact (by omega)))
    cases h
    exact F6
set_option maxHeartbeats 1000000 in
theorem fr_b_X5_putBytes_3 {fu : Nat} {s1 : Int32} {s0 : Int32 × Mem} {o : (Int32 × Mem) ⊕ (Mem)} (h : b_X5_putBytes_3 fu s1 s0 = some o) : Fr (w_X5_putBytes) (v_X5_putBytes) ((fun x : Int32 × Mem => x.2) s0) (Sum.elim (fun x : Int32 × Mem => x.2) (fun x : Mem => x) o) := by
  obtain ⟨c2, M⟩ := s0
  unfold b_X5_putBytes_3 at h
  replace h := un2_e h
  have F0 : Fr (w_X5_putBytes) (v_X5_putBytes) M M := Fr.rf
  by_cases hc1 : c2 < 0
  · rw [if_pos hc1] at h
    cases h
    exact F0
  · rw [if_neg hc1] at h
    by_cases hc2 : 400 ≤ (rd M 146 7)
    · rw [if_pos hc2] at h
      cases h
      exact F0
    · rw [if_neg hc2] at h
      obtain ⟨hb3, h⟩ := chk_elim h
      have q4 := inb_lt hb3
      obtain ⟨M_4, e5, h⟩ := bnd_elim h
      have F6 : Fr (w_X5_putBytes) (v_X5_putBytes) M M_4 := F0.tr (by rw [e5]; exact Fr.wr (Or.inr (by omega)))
      obtain ⟨M_6, e7, h⟩ := bnd_elim h
      have F8 : Fr (w_X5_putBytes) (v_X5_putBytes) M M_6 := F6.tr (by rw [e7]; exact Fr.wr (Or.inl ⟨by omega, by decide⟩))
      obtain ⟨v_8, e9, h⟩ := bnd_elim h
      cases h
      exact F8
set_option maxHeartbeats 1000000 in
theorem fr_m_X5_putBytes {fu : Nat} {M : Mem} {a1 : Int32} {M2 : Mem} (h : m_X5_putBytes fu M a1 = some M2) : Fr (w_X5_putBytes) (v_X5_putBytes) M M2 := by
  unfold m_X5_putBytes at h
  have F0 : Fr (w_X5_putBytes) (v_X5_putBytes) M M := Fr.rf
  obtain ⟨x1, hr2, h⟩ := bind_elim h
  have F3 := F0.tr (lp_fr (w := (w_X5_putBytes)) (v := (v_X5_putBytes)) (fun x : Int32 × Mem => x.2) (fun x : Mem => x) (fun s o hq => fr_b_X5_putBytes_3 hq) _ _ _ hr2)
  obtain ⟨M_12, rfl⟩ : ∃ z, z = x1 := ⟨_, rfl⟩
  replace h := un1_e h
  have F4 : Fr (w_X5_putBytes) (v_X5_putBytes) M M_12 := F3
  cases h
  exact F4
set_option maxHeartbeats 1000000 in
theorem fr_m_X5_feed {fu : Nat} {M : Mem} {a1 : Int32} {a2 : Int32} {a3 : Int32} {a4 : Int32} {a5 : Int32} {rr : Int32} {M2 : Mem} (h : m_X5_feed fu M a1 a2 a3 a4 a5 = some (rr, M2)) : Fr (w_X5_feed) (v_X5_feed) M M2 := by
  unfold m_X5_feed at h
  have F0 : Fr (w_X5_feed) (v_X5_feed) M M := Fr.rf
  by_cases hc1 : ((rd M 146 7) + 20) ≤ 400
  · rw [if_pos hc1] at h
    obtain ⟨M_3, hr2, h⟩ := bind_elim h
    have F3 : Fr (w_X5_feed) (v_X5_feed) M M_3 := F0.tr ((fr_m_X5_putBytes hr2).mono (fun k j h => by
        unfold w_X5_putBytes at h
        rcases h with h | h
        · exact (Or.inl ⟨by omega, h.2⟩)
        · exact (Or.inr (by omega))) (fun k j h => absurd h id))
    obtain ⟨M_5, hr4, h⟩ := bind_elim h
    have F5 : Fr (w_X5_feed) (v_X5_feed) M M_5 := F3.tr ((fr_m_X5_putBytes hr4).mono (fun k j h => by
        unfold w_X5_putBytes at h
        rcases h with h | h
        · exact (Or.inl ⟨by omega, h.2⟩)
        · exact (Or.inr (by omega))) (fun k j h => absurd h id))
    obtain ⟨M_7, hr6, h⟩ := bind_elim h
    have F7 : Fr (w_X5_feed) (v_X5_feed) M M_7 := F5.tr ((fr_m_X5_putBytes hr6).mono (fun k j h => by
        unfold w_X5_putBytes at h
        rcases h with h | h
        · exact (Or.inl ⟨by omega, h.2⟩)
        · exact (Or.inr (by omega))) (fun k j h => absurd h id))
    obtain ⟨M_9, hr8, h⟩ := bind_elim h
    have F9 : Fr (w_X5_feed) (v_X5_feed) M M_9 := F7.tr ((fr_m_X5_putBytes hr8).mono (fun k j h => by
        unfold w_X5_putBytes at h
        rcases h with h | h
        · exact (Or.inl ⟨by omega, h.2⟩)
        · exact (Or.inr (by omega))) (fun k j h => absurd h id))
    obtain ⟨M_11, hr10, h⟩ := bind_elim h
    have F11 : Fr (w_X5_feed) (v_X5_feed) M M_11 := F9.tr ((fr_m_X5_putBytes hr10).mono (fun k j h => by
        unfold w_X5_putBytes at h
        rcases h with h | h
        · exact (Or.inl ⟨by omega, h.2⟩)
        · exact (Or.inr (by omega))) (fun k j h => absurd h id))
    cases h
    exact F11
  · rw [if_neg hc1] at h
    cases h
    exact F0
set_option maxHeartbeats 1000000 in
theorem fr_m_X5_end {M : Mem} {a1 : Int32} {rr : Int32} {M2 : Mem} (h : m_X5_end M a1 = some (rr, M2)) : Fr (w_X5_end) (v_X5_end) M M2 := by
  unfold m_X5_end at h
  have F0 : Fr (w_X5_end) (v_X5_end) M M := Fr.rf
  by_cases hc1 : a1 < 0
  · rw [if_pos hc1] at h
    cases h
    exact F0
  · rw [if_neg hc1] at h
    by_cases hc2 : a1 ≤ (rd M 146 7)
    · rw [if_pos hc2] at h
      obtain ⟨M_3, e3, h⟩ := bnd_elim h
      have F4 : Fr (w_X5_end) (v_X5_end) M M_3 := F0.tr (by rw [e3]; exact Fr.wr (by unfold w_X5_end; exact ⟨by omega, by decide⟩))
      cases h
      exact F4
    · rw [if_neg hc2] at h
      cases h
      exact F0
set_option maxHeartbeats 1000000 in
theorem fr_b_X3_advanceWord_0 {fu : Nat} {s0 : Mem} {o : (Mem) ⊕ (Mem)} (h : b_X3_advanceWord_0 fu s0 = some o) : Fr (w_X3_advanceWord) (v_X3_advanceWord) ((fun x : Mem => x) s0) (Sum.elim (fun x : Mem => x) (fun x : Mem => x) o) := by
  obtain ⟨M, rfl⟩ : ∃ z, z = s0 := ⟨_, rfl⟩
  unfold b_X3_advanceWord_0 at h
  replace h := un1_e h
  have F0 : Fr (w_X3_advanceWord) (v_X3_advanceWord) M M := Fr.rf
  by_cases hc1 : (rd M 111 6) ≤ (rd M 111 8)
  · rw [if_pos hc1] at h
    cases h
    exact F0
  · rw [if_neg hc1] at h
    obtain ⟨hb2, h⟩ := chk_elim h
    have q3 := inb_lt hb2
    obtain ⟨r_4, hr4, h⟩ := bind_elim h
    by_cases hc5 : r_4 = 0
    · rw [if_pos hc5] at h
      cases h
      exact F0
    · rw [if_neg hc5] at h
      obtain ⟨M_6, e6, h⟩ := bnd_elim h
      have F7 : Fr (w_X3_advanceWord) (v_X3_advanceWord) M M_6 := F0.tr (by rw [e6]; exact Fr.wr (Or.inl ⟨by omega, by decide⟩))
      cases h
      exact F7
set_option maxHeartbeats 1000000 in
theorem fr_j_X3_advanceWord_59 {fu : Nat} {M : Mem} {t1 : Int32} {M2 : Mem} (h : j_X3_advanceWord_59 fu M t1 = some M2) : Fr (w_X3_advanceWord) (v_X3_advanceWord) M M2 := by
  unfold j_X3_advanceWord_59 at h
  have F0 : Fr (w_X3_advanceWord) (v_X3_advanceWord) M M := Fr.rf
  obtain ⟨M_14, e1, h⟩ := bnd_elim h
  have F2 : Fr (w_X3_advanceWord) (v_X3_advanceWord) M M_14 := F0.tr (by rw [e1]; exact Fr.wr (Or.inr ⟨by omega, by decide⟩))
  cases h
  exact F2
set_option maxHeartbeats 1000000 in
theorem fr_m_X3_advanceWord {fu : Nat} {M : Mem} {M2 : Mem} (h : m_X3_advanceWord fu M = some M2) : Fr (w_X3_advanceWord) (v_X3_advanceWord) M M2 := by
  unfold m_X3_advanceWord at h
  have F0 : Fr (w_X3_advanceWord) (v_X3_advanceWord) M M := Fr.rf
  obtain ⟨x1, hr2, h⟩ := bind_elim h
  have F3 := F0.tr (lp_fr (w := (w_X3_advanceWord)) (v := (v_X3_advanceWord)) (fun x : Mem => x) (fun x : Mem => x) (fun s o hq => fr_b_X3_advanceWord_0 hq) _ _ _ hr2)
  obtain ⟨M_10, rfl⟩ : ∃ z, z = x1 := ⟨_, rfl⟩
  replace h := un1_e h
  have F4 : Fr (w_X3_advanceWord) (v_X3_advanceWord) M M_10 := F3
  obtain ⟨r_12, hr5, h⟩ := bind_elim h
  by_cases hc6 : r_12 = (-1)
  · rw [if_pos hc6] at h
    exact F4.tr (fr_j_X3_advanceWord_59 h)
  · rw [if_neg hc6] at h
    exact F4.tr (fr_j_X3_advanceWord_59 h)
set_option maxHeartbeats 1000000 in
theorem fr_b_X3_advanceNumber_5 {fu : Nat} {s0 : Mem} {o : (Mem) ⊕ (Mem)} (h : b_X3_advanceNumber_5 fu s0 = some o) : Fr (w_X3_advanceNumber) (v_X3_advanceNumber) ((fun x : Mem => x) s0) (Sum.elim (fun x : Mem => x) (fun x : Mem => x) o) := by
  obtain ⟨M, rfl⟩ : ∃ z, z = s0 := ⟨_, rfl⟩
  unfold b_X3_advanceNumber_5 at h
  replace h := un1_e h
  have F0 : Fr (w_X3_advanceNumber) (v_X3_advanceNumber) M M := Fr.rf
  by_cases hc1 : (rd M 111 6) ≤ (rd M 111 8)
  · rw [if_pos hc1] at h
    cases h
    exact F0
  · rw [if_neg hc1] at h
    obtain ⟨hb2, h⟩ := chk_elim h
    have q3 := inb_lt hb2
    obtain ⟨r_6, hr4, h⟩ := bind_elim h
    by_cases hc5 : r_6 = 0
    · rw [if_pos hc5] at h
      cases h
      exact F0
    · rw [if_neg hc5] at h
      obtain ⟨M_8, e6, h⟩ := bnd_elim h
      have F7 : Fr (w_X3_advanceNumber) (v_X3_advanceNumber) M M_8 := F0.tr (by rw [e6]; exact Fr.wr (Or.inl ⟨by omega, by decide⟩))
      obtain ⟨M_10, e8, h⟩ := bnd_elim h
      have F9 : Fr (w_X3_advanceNumber) (v_X3_advanceNumber) M M_10 := F7.tr (by rw [e8]; exact Fr.wr (Or.inr (Or.inl ⟨by omega, by decide⟩)))
      cases h
      exact F9
set_option maxHeartbeats 1000000 in
theorem fr_j_X3_advanceNumber_87 {fu : Nat} {M : Mem} {t1 : Int32} {M2 : Mem} (h : j_X3_advanceNumber_87 fu M t1 = some M2) : Fr (w_X3_advanceNumber) (v_X3_advanceNumber) M M2 := by
  unfold j_X3_advanceNumber_87 at h
  have F0 : Fr (w_X3_advanceNumber) (v_X3_advanceNumber) M M := Fr.rf
  obtain ⟨M_16, e1, h⟩ := bnd_elim h
  have F2 : Fr (w_X3_advanceNumber) (v_X3_advanceNumber) M M_16 := F0.tr (by rw [e1]; exact Fr.wr (Or.inr (Or.inr ⟨by omega, by decide⟩)))
  cases h
  exact F2
set_option maxHeartbeats 1000000 in
theorem fr_m_X3_advanceNumber {fu : Nat} {M : Mem} {M2 : Mem} (h : m_X3_advanceNumber fu M = some M2) : Fr (w_X3_advanceNumber) (v_X3_advanceNumber) M M2 := by
  unfold m_X3_advanceNumber at h
  have F0 : Fr (w_X3_advanceNumber) (v_X3_advanceNumber) M M := Fr.rf
  obtain ⟨M_1, e1, h⟩ := bnd_elim h
  have F2 : Fr (w_X3_advanceNumber) (v_X3_advanceNumber) M M_1 := F0.tr (by rw [e1]; exact Fr.wr (Or.inl ⟨by omega, by decide⟩))
  obtain ⟨x3, hr4, h⟩ := bind_elim h
  have F5 := F2.tr (lp_fr (w := (w_X3_advanceNumber)) (v := (v_X3_advanceNumber)) (fun x : Mem => x) (fun x : Mem => x) (fun s o hq => fr_b_X3_advanceNumber_5 hq) _ _ _ hr4)
  obtain ⟨M_14, rfl⟩ : ∃ z, z = x3 := ⟨_, rfl⟩
  replace h := un1_e h
  have F6 : Fr (w_X3_advanceNumber) (v_X3_advanceNumber) M M_14 := F5
  by_cases hc7 : ((rd M_14 111 8) - (rd M_14 111 7)) ≤ 4
  · rw [if_pos hc7] at h
    exact F6.tr (fr_j_X3_advanceNumber_87 h)
  · rw [if_neg hc7] at h
    exact F6.tr (fr_j_X3_advanceNumber_87 h)
set_option maxHeartbeats 1000000 in
theorem fr_j_X3_advance_47i {fu : Nat} {M : Mem} {o : (Mem) ⊕ (Mem)} (h : j_X3_advance_47i fu M = some o) : Fr (w_X3_advance) (v_X3_advance) M ((Sum.elim (fun x : Mem => x) (fun x : Mem => x)) o) := by
  unfold j_X3_advance_47i at h
  have F0 : Fr (w_X3_advance) (v_X3_advance) M M := Fr.rf
  obtain ⟨M_6, e1, h⟩ := bnd_elim h
  have F2 : Fr (w_X3_advance) (v_X3_advance) M M_6 := F0.tr (by rw [e1]; exact Fr.wr (Or.inr (Or.inl ⟨by omega, by decide⟩)))
  cases h
  exact F2
set_option maxHeartbeats 1000000 in
theorem fr_b_X3_advance_8 {fu : Nat} {s0 : Mem} {o : (Mem) ⊕ (Mem)} (h : b_X3_advance_8 fu s0 = some o) : Fr (w_X3_advance) (v_X3_advance) ((fun x : Mem => x) s0) (Sum.elim (fun x : Mem => x) (fun x : Mem => x) o) := by
  obtain ⟨M, rfl⟩ : ∃ z, z = s0 := ⟨_, rfl⟩
  unfold b_X3_advance_8 at h
  replace h := un1_e h
  have F0 : Fr (w_X3_advance) (v_X3_advance) M M := Fr.rf
  by_cases hc1 : (rd M 111 6) ≤ (rd M 111 7)
  · rw [if_pos hc1] at h
    cases h
    exact F0
  · rw [if_neg hc1] at h
    obtain ⟨hb2, h⟩ := chk_elim h
    have q3 := inb_lt hb2
    by_cases hc4 : (rd M 113 (ix (rd M 111 7))) = 32
    · rw [if_pos hc4] at h
      exact F0.tr (fr_j_X3_advance_47i h)
    · rw [if_neg hc4] at h
      by_cases hc5 : (rd M 113 (ix (rd M 111 7))) = 10
      · rw [if_pos hc5] at h
        exact F0.tr (fr_j_X3_advance_47i h)
      · rw [if_neg hc5] at h
        cases h
        exact F0
set_option maxHeartbeats 1000000 in
theorem fr_j_X3_advance_170 {fu : Nat} {M : Mem} {t1 : Int32} {M2 : Mem} (h : j_X3_advance_170 fu M t1 = some M2) : Fr (w_X3_advance) (v_X3_advance) M M2 := by
  unfold j_X3_advance_170 at h
  have F0 : Fr (w_X3_advance) (v_X3_advance) M M := Fr.rf
  obtain ⟨M_28, e1, h⟩ := bnd_elim h
  have F2 : Fr (w_X3_advance) (v_X3_advance) M M_28 := F0.tr (by rw [e1]; exact Fr.wr (Or.inr (Or.inr (Or.inr ⟨by omega, by decide⟩))))
  cases h
  exact F2
set_option maxHeartbeats 1000000 in
theorem fr_m_X3_advance {fu : Nat} {M : Mem} {M2 : Mem} (h : m_X3_advance fu M = some M2) : Fr (w_X3_advance) (v_X3_advance) M M2 := by
  unfold m_X3_advance at h
  have F0 : Fr (w_X3_advance) (v_X3_advance) M M := Fr.rf
  obtain ⟨M_1, e1, h⟩ := bnd_elim h
  have F2 : Fr (w_X3_advance) (v_X3_advance) M M_1 := F0.tr (by rw [e1]; exact Fr.wr (Or.inr (Or.inl ⟨by omega, by decide⟩)))
  obtain ⟨x3, hr4, h⟩ := bind_elim h
  have F5 := F2.tr (lp_fr (w := (w_X3_advance)) (v := (v_X3_advance)) (fun x : Mem => x) (fun x : Mem => x) (fun s o hq => fr_b_X3_advance_8 hq) _ _ _ hr4)
  obtain ⟨M_11, rfl⟩ : ∃ z, z = x3 := ⟨_, rfl⟩
  replace h := un1_e h
  have F6 : Fr (w_X3_advance) (v_X3_advance) M M_11 := F5
  obtain ⟨M_12, e7, h⟩ := bnd_elim h
  have F8 : Fr (w_X3_advance) (v_X3_advance) M M_12 := F6.tr (by rw [e7]; exact Fr.wr (Or.inr (Or.inr (Or.inl ⟨by omega, by decide⟩))))
  by_cases hc9 : (rd M_12 111 7) < (rd M_12 111 6)
  · rw [if_pos hc9] at h
    obtain ⟨hb10, h⟩ := chk_elim h
    have q11 := inb_lt hb10
    obtain ⟨r_17, hr12, h⟩ := bind_elim h
    by_cases hc13 : r_17 = 0
    · rw [if_pos hc13] at h
      obtain ⟨r_20, hr14, h⟩ := bind_elim h
      by_cases hc15 : r_20 = 0
      · rw [if_pos hc15] at h
        obtain ⟨M_22, e16, h⟩ := bnd_elim h
        have F17 : Fr (w_X3_advance) (v_X3_advance) M M_22 := F8.tr (by rw [e16]; exact Fr.wr (Or.inr (Or.inr (Or.inl ⟨by omega, by decide⟩))))
        obtain ⟨hb18, h⟩ := chk_elim h
        have q19 := inb_lt hb18
        obtain ⟨r_26, hr20, h⟩ := bind_elim h
        by_cases hc21 : r_26 = 0
        · rw [if_pos hc21] at h
          exact F17.tr (fr_j_X3_advance_170 h)
        · rw [if_neg hc21] at h
          exact F17.tr (fr_j_X3_advance_170 h)
      · rw [if_neg hc15] at h
        obtain ⟨M_31, hr22, h⟩ := bind_elim h
        have F23 : Fr (w_X3_advance) (v_X3_advance) M M_31 := F8.tr ((fr_m_X3_advanceNumber hr22).mono (fun k j h => by
            unfold w_X3_advanceNumber at h
            rcases h with h | h | h
            · exact (Or.inl ⟨by omega, h.2⟩)
            · exact (Or.inr (Or.inr (Or.inl ⟨by omega, h.2⟩)))
            · exact (Or.inr (Or.inr (Or.inr ⟨by omega, h.2⟩)))) (fun k j h => absurd h id))
        cases h
        exact F23
    · rw [if_neg hc13] at h
      obtain ⟨M_33, hr24, h⟩ := bind_elim h
      have F25 : Fr (w_X3_advance) (v_X3_advance) M M_33 := F8.tr ((fr_m_X3_advanceWord hr24).mono (fun k j h => by
          unfold w_X3_advanceWord at h
          rcases h with h | h
          · exact (Or.inr (Or.inr (Or.inl ⟨by omega, h.2⟩)))
          · exact (Or.inr (Or.inr (Or.inr ⟨by omega, h.2⟩)))) (fun k j h => absurd h id))
      cases h
      exact F25
  · rw [if_neg hc9] at h
    obtain ⟨M_34, e26, h⟩ := bnd_elim h
    have F27 : Fr (w_X3_advance) (v_X3_advance) M M_34 := F8.tr (by rw [e26]; exact Fr.wr (Or.inr (Or.inr (Or.inr ⟨by omega, by decide⟩))))
    cases h
    exact F27
set_option maxHeartbeats 1000000 in
theorem fr_m_X3_refuse {M : Mem} {a1 : Int32} {rr : Int32} {M2 : Mem} (h : m_X3_refuse M a1 = some (rr, M2)) : Fr (w_X3_refuse) (v_X3_refuse) M M2 := by
  unfold m_X3_refuse at h
  have F0 : Fr (w_X3_refuse) (v_X3_refuse) M M := Fr.rf
  obtain ⟨M_1, e1, h⟩ := bnd_elim h
  have F2 : Fr (w_X3_refuse) (v_X3_refuse) M M_1 := F0.tr (by rw [e1]; exact Fr.wr (Or.inl ⟨by omega, by decide⟩))
  obtain ⟨M_3, e3, h⟩ := bnd_elim h
  have F4 : Fr (w_X3_refuse) (v_X3_refuse) M M_3 := F2.tr (by rw [e3]; exact Fr.wr (Or.inr ⟨by omega, by decide⟩))
  cases h
  exact F4
set_option maxHeartbeats 1000000 in
theorem fr_m_X3_expect {M : Mem} {a1 : Int32} {rr : Int32} {M2 : Mem} (h : m_X3_expect M a1 = some (rr, M2)) : Fr (w_X3_expect) (v_X3_expect) M M2 := by
  unfold m_X3_expect at h
  have F0 : Fr (w_X3_expect) (v_X3_expect) M M := Fr.rf
  obtain ⟨M_1, e1, h⟩ := bnd_elim h
  have F2 : Fr (w_X3_expect) (v_X3_expect) M M_1 := F0.tr (by rw [e1]; exact Fr.wr (by unfold w_X3_expect; exact ⟨by omega, by decide⟩))
  cases h
  exact F2
set_option maxHeartbeats 1000000 in
theorem fr_m_X3_readsDo {M : Mem} {rr : Int32} {M2 : Mem} (h : m_X3_readsDo M = some (rr, M2)) : Fr (w_X3_readsDo) (v_X3_readsDo) M M2 := by
  unfold m_X3_readsDo at h
  have F0 : Fr (w_X3_readsDo) (v_X3_readsDo) M M := Fr.rf
  by_cases hc1 : (rd M 111 9) = 200
  · rw [if_pos hc1] at h
    by_cases hc2 : (rd M 111 2) < 16
    · rw [if_pos hc2] at h
      obtain ⟨M_3, e3, h⟩ := bnd_elim h
      have F4 : Fr (w_X3_readsDo) (v_X3_readsDo) M M_3 := F0.tr (by rw [e3]; exact Fr.wr (Or.inr (Or.inl ⟨by omega, by decide⟩)))
      obtain ⟨⟨r_6, M_7⟩, hr5, h⟩ := bind_elim h
      replace h := un2_e h
      have F6 : Fr (w_X3_readsDo) (v_X3_readsDo) M M_7 := F4.tr ((fr_m_X3_expect hr5).mono (fun k j h => by
          unfold w_X3_expect at h
          exact (Or.inl ⟨by omega, h.2⟩)) (fun k j h => absurd h id))
      obtain ⟨hb7, h⟩ := chk_elim h
      cases h
      exact F6
    · rw [if_neg hc2] at h
      obtain ⟨⟨r_10, M_11⟩, hr8, h⟩ := bind_elim h
      replace h := un2_e h
      have F9 : Fr (w_X3_readsDo) (v_X3_readsDo) M M_11 := F0.tr ((fr_m_X3_refuse hr8).mono (fun k j h => by
          unfold w_X3_refuse at h
          rcases h with h | h
          · exact (Or.inr (Or.inr (Or.inl ⟨by omega, h.2⟩)))
          · exact (Or.inr (Or.inr (Or.inr ⟨by omega, h.2⟩)))) (fun k j h => absurd h id))
      obtain ⟨hb10, h⟩ := chk_elim h
      cases h
      exact F9
  · rw [if_neg hc1] at h
    obtain ⟨⟨r_14, M_15⟩, hr11, h⟩ := bind_elim h
    replace h := un2_e h
    have F12 : Fr (w_X3_readsDo) (v_X3_readsDo) M M_15 := F0.tr ((fr_m_X3_refuse hr11).mono (fun k j h => by
        unfold w_X3_refuse at h
        rcases h with h | h
        · exact (Or.inr (Or.inr (Or.inl ⟨by omega, h.2⟩)))
        · exact (Or.inr (Or.inr (Or.inr ⟨by omega, h.2⟩)))) (fun k j h => absurd h id))
    obtain ⟨hb13, h⟩ := chk_elim h
    cases h
    exact F12
set_option maxHeartbeats 1000000 in
theorem fr_m_X3_readsDoing {M : Mem} {rr : Int32} {M2 : Mem} (h : m_X3_readsDoing M = some (rr, M2)) : Fr (w_X3_readsDoing) (v_X3_readsDoing) M M2 := by
  unfold m_X3_readsDoing at h
  have F0 : Fr (w_X3_readsDoing) (v_X3_readsDoing) M M := Fr.rf
  by_cases hc1 : (rd M 111 9) = 1
  · rw [if_pos hc1] at h
    by_cases hc2 : (rd M 111 10) < 4
    · rw [if_pos hc2] at h
      obtain ⟨M_3, e3, h⟩ := bnd_elim h
      have F4 : Fr (w_X3_readsDoing) (v_X3_readsDoing) M M_3 := F0.tr (by rw [e3]; exact Fr.wr (Or.inr (Or.inl ⟨by omega, by decide⟩)))
      obtain ⟨⟨r_6, M_7⟩, hr5, h⟩ := bind_elim h
      replace h := un2_e h
      have F6 : Fr (w_X3_readsDoing) (v_X3_readsDoing) M M_7 := F4.tr ((fr_m_X3_expect hr5).mono (fun k j h => by
          unfold w_X3_expect at h
          exact (Or.inl ⟨by omega, h.2⟩)) (fun k j h => absurd h id))
      obtain ⟨hb7, h⟩ := chk_elim h
      cases h
      exact F6
    · rw [if_neg hc2] at h
      obtain ⟨⟨r_10, M_11⟩, hr8, h⟩ := bind_elim h
      replace h := un2_e h
      have F9 : Fr (w_X3_readsDoing) (v_X3_readsDoing) M M_11 := F0.tr ((fr_m_X3_refuse hr8).mono (fun k j h => by
          unfold w_X3_refuse at h
          rcases h with h | h
          · exact (Or.inr (Or.inr (Or.inl ⟨by omega, h.2⟩)))
          · exact (Or.inr (Or.inr (Or.inr ⟨by omega, h.2⟩)))) (fun k j h => absurd h id))
      obtain ⟨hb10, h⟩ := chk_elim h
      cases h
      exact F9
  · rw [if_neg hc1] at h
    obtain ⟨⟨r_14, M_15⟩, hr11, h⟩ := bind_elim h
    replace h := un2_e h
    have F12 : Fr (w_X3_readsDoing) (v_X3_readsDoing) M M_15 := F0.tr ((fr_m_X3_refuse hr11).mono (fun k j h => by
        unfold w_X3_refuse at h
        rcases h with h | h
        · exact (Or.inr (Or.inr (Or.inl ⟨by omega, h.2⟩)))
        · exact (Or.inr (Or.inr (Or.inr ⟨by omega, h.2⟩)))) (fun k j h => absurd h id))
    obtain ⟨hb13, h⟩ := chk_elim h
    cases h
    exact F12
set_option maxHeartbeats 1000000 in
theorem fr_m_X3_emit {M : Mem} {a1 : Int32} {M2 : Mem} (h : m_X3_emit M a1 = some M2) : Fr (w_X3_emit) (v_X3_emit) M M2 := by
  unfold m_X3_emit at h
  have F0 : Fr (w_X3_emit) (v_X3_emit) M M := Fr.rf
  by_cases hc1 : (Int32.ofNat 400) ≤ (rd M 111 1)
  · rw [if_pos hc1] at h
    cases h
    exact F0
  · rw [if_neg hc1] at h
    obtain ⟨hb2, h⟩ := chk_elim h
    have q3 := inb_lt hb2
    obtain ⟨M_3, e4, h⟩ := bnd_elim h
    have F5 : Fr (w_X3_emit) (v_X3_emit) M M_3 := F0.tr (by rw [e4]; exact Fr.wr (Or.inr (by omega)))
    obtain ⟨M_5, e6, h⟩ := bnd_elim h
    have F7 : Fr (w_X3_emit) (v_X3_emit) M M_5 := F5.tr (by rw [e6]; exact Fr.wr (Or.inl ⟨by omega, by decide⟩))
    cases h
    exact F7
set_option maxHeartbeats 1000000 in
theorem fr_m_X3_readsWhen {M : Mem} {rr : Int32} {M2 : Mem} (h : m_X3_readsWhen M = some (rr, M2)) : Fr (w_X3_readsWhen) (v_X3_readsWhen) M M2 := by
  unfold m_X3_readsWhen at h
  have F0 : Fr (w_X3_readsWhen) (v_X3_readsWhen) M M := Fr.rf
  by_cases hc1 : (rd M 111 9) = 201
  · rw [if_pos hc1] at h
    obtain ⟨⟨r_16, M_17⟩, hr2, h⟩ := bind_elim h
    replace h := un2_e h
    have F3 : Fr (w_X3_readsWhen) (v_X3_readsWhen) M M_17 := F0.tr ((fr_m_X3_expect hr2).mono (fun k j h => by
        unfold w_X3_expect at h
        exact (Or.inr (Or.inl ⟨by omega, h.2⟩))) (fun k j h => absurd h id))
    obtain ⟨hb4, h⟩ := chk_elim h
    cases h
    exact F3
  · rw [if_neg hc1] at h
    by_cases hc5 : (rd M 111 9) = 59
    · rw [if_pos hc5] at h
      obtain ⟨M_4, hr6, h⟩ := bind_elim h
      have F7 : Fr (w_X3_readsWhen) (v_X3_readsWhen) M M_4 := F0.tr ((fr_m_X3_emit hr6).mono (fun k j h => by
          unfold w_X3_emit at h
          rcases h with h | h
          · exact (Or.inl ⟨by omega, h.2⟩)
          · exact (Or.inr (Or.inr (Or.inr (Or.inr (by omega)))))) (fun k j h => absurd h id))
      obtain ⟨M_6, hr8, h⟩ := bind_elim h
      have F9 : Fr (w_X3_readsWhen) (v_X3_readsWhen) M M_6 := F7.tr ((fr_m_X3_emit hr8).mono (fun k j h => by
          unfold w_X3_emit at h
          rcases h with h | h
          · exact (Or.inl ⟨by omega, h.2⟩)
          · exact (Or.inr (Or.inr (Or.inr (Or.inr (by omega)))))) (fun k j h => absurd h id))
      obtain ⟨⟨r_8, M_9⟩, hr10, h⟩ := bind_elim h
      replace h := un2_e h
      have F11 : Fr (w_X3_readsWhen) (v_X3_readsWhen) M M_9 := F9.tr ((fr_m_X3_expect hr10).mono (fun k j h => by
          unfold w_X3_expect at h
          exact (Or.inr (Or.inl ⟨by omega, h.2⟩))) (fun k j h => absurd h id))
      obtain ⟨hb12, h⟩ := chk_elim h
      cases h
      exact F11
    · rw [if_neg hc5] at h
      obtain ⟨⟨r_12, M_13⟩, hr13, h⟩ := bind_elim h
      replace h := un2_e h
      have F14 : Fr (w_X3_readsWhen) (v_X3_readsWhen) M M_13 := F0.tr ((fr_m_X3_refuse hr13).mono (fun k j h => by
          unfold w_X3_refuse at h
          rcases h with h | h
          · exact (Or.inr (Or.inr (Or.inl ⟨by omega, h.2⟩)))
          · exact (Or.inr (Or.inr (Or.inr (Or.inl ⟨by omega, h.2⟩))))) (fun k j h => absurd h id))
      obtain ⟨hb15, h⟩ := chk_elim h
      cases h
      exact F14
set_option maxHeartbeats 1000000 in
theorem fr_j_X3_readsUnit_54 {M : Mem} {rr : Int32} {M2 : Mem} (h : j_X3_readsUnit_54 M = some (rr, M2)) : Fr (w_X3_readsUnit) (v_X3_readsUnit) M M2 := by
  unfold j_X3_readsUnit_54 at h
  have F0 : Fr (w_X3_readsUnit) (v_X3_readsUnit) M M := Fr.rf
  obtain ⟨⟨r_10, M_11⟩, hr1, h⟩ := bind_elim h
  replace h := un2_e h
  have F2 : Fr (w_X3_readsUnit) (v_X3_readsUnit) M M_11 := F0.tr ((fr_m_X3_expect hr1).mono (fun k j h => by
      unfold w_X3_expect at h
      exact (Or.inr (Or.inl ⟨by omega, h.2⟩))) (fun k j h => absurd h id))
  obtain ⟨hb3, h⟩ := chk_elim h
  cases h
  exact F2
set_option maxHeartbeats 1000000 in
theorem fr_m_X3_readsUnit {M : Mem} {rr : Int32} {M2 : Mem} (h : m_X3_readsUnit M = some (rr, M2)) : Fr (w_X3_readsUnit) (v_X3_readsUnit) M M2 := by
  unfold m_X3_readsUnit at h
  have F0 : Fr (w_X3_readsUnit) (v_X3_readsUnit) M M := Fr.rf
  by_cases hc1 : (rd M 111 9) = 1
  · rw [if_pos hc1] at h
    obtain ⟨M_14, hr2, h⟩ := bind_elim h
    have F3 : Fr (w_X3_readsUnit) (v_X3_readsUnit) M M_14 := F0.tr ((fr_m_X3_emit hr2).mono (fun k j h => by
        unfold w_X3_emit at h
        rcases h with h | h
        · exact (Or.inl ⟨by omega, h.2⟩)
        · exact (Or.inr (Or.inr (Or.inr (Or.inr (by omega)))))) (fun k j h => absurd h id))
    exact F3.tr (fr_j_X3_readsUnit_54 h)
  · rw [if_neg hc1] at h
    by_cases hc4 : (rd M 111 9) < 205
    · rw [if_pos hc4] at h
      obtain ⟨⟨r_4, M_5⟩, hr5, h⟩ := bind_elim h
      replace h := un2_e h
      have F6 : Fr (w_X3_readsUnit) (v_X3_readsUnit) M M_5 := F0.tr ((fr_m_X3_refuse hr5).mono (fun k j h => by
          unfold w_X3_refuse at h
          rcases h with h | h
          · exact (Or.inr (Or.inr (Or.inl ⟨by omega, h.2⟩)))
          · exact (Or.inr (Or.inr (Or.inr (Or.inl ⟨by omega, h.2⟩))))) (fun k j h => absurd h id))
      obtain ⟨hb7, h⟩ := chk_elim h
      cases h
      exact F6
    · rw [if_neg hc4] at h
      obtain ⟨M_8, hr8, h⟩ := bind_elim h
      have F9 : Fr (w_X3_readsUnit) (v_X3_readsUnit) M M_8 := F0.tr ((fr_m_X3_emit hr8).mono (fun k j h => by
          unfold w_X3_emit at h
          rcases h with h | h
          · exact (Or.inl ⟨by omega, h.2⟩)
          · exact (Or.inr (Or.inr (Or.inr (Or.inr (by omega)))))) (fun k j h => absurd h id))
      exact F9.tr (fr_j_X3_readsUnit_54 h)
set_option maxHeartbeats 1000000 in
theorem fr_j_X3_putSign_35 {M : Mem} {s1 : Int32} {rr : Int32} {M2 : Mem} (h : j_X3_putSign_35 M s1 = some (rr, M2)) : Fr (w_X3_putSign) (v_X3_putSign) M M2 := by
  unfold j_X3_putSign_35 at h
  have F0 : Fr (w_X3_putSign) (v_X3_putSign) M M := Fr.rf
  obtain ⟨⟨r_3, M_4⟩, hr1, h⟩ := bind_elim h
  replace h := un2_e h
  have F2 : Fr (w_X3_putSign) (v_X3_putSign) M M_4 := F0.tr ((fr_m_X3_expect hr1).mono (fun k j h => by
      unfold w_X3_expect at h
      exact (Or.inl ⟨by omega, h.2⟩)) (fun k j h => absurd h id))
  obtain ⟨hb3, h⟩ := chk_elim h
  cases h
  exact F2
set_option maxHeartbeats 1000000 in
theorem fr_m_X3_putSign {M : Mem} {a1 : Int32} {rr : Int32} {M2 : Mem} (h : m_X3_putSign M a1 = some (rr, M2)) : Fr (w_X3_putSign) (v_X3_putSign) M M2 := by
  unfold m_X3_putSign at h
  have F0 : Fr (w_X3_putSign) (v_X3_putSign) M M := Fr.rf
  by_cases hc1 : (Int32.ofNat 400) ≤ (rd M 111 15)
  · rw [if_pos hc1] at h
    exact F0.tr (fr_j_X3_putSign_35 h)
  · rw [if_neg hc1] at h
    obtain ⟨hb2, h⟩ := chk_elim h
    have q3 := inb_lt hb2
    obtain ⟨M_7, e4, h⟩ := bnd_elim h
    have F5 : Fr (w_X3_putSign) (v_X3_putSign) M M_7 := F0.tr (by rw [e4]; exact Fr.wr (Or.inr (Or.inr (by omega))))
    obtain ⟨M_9, e6, h⟩ := bnd_elim h
    have F7 : Fr (w_X3_putSign) (v_X3_putSign) M M_9 := F5.tr (by rw [e6]; exact Fr.wr (Or.inr (Or.inl ⟨by omega, by decide⟩)))
    exact F7.tr (fr_j_X3_putSign_35 h)
set_option maxHeartbeats 1000000 in
theorem fr_j_X3_readsCondition_29 {M : Mem} {rr : Int32} {M2 : Mem} (h : j_X3_readsCondition_29 M = some (rr, M2)) : Fr (w_X3_readsCondition) (v_X3_readsCondition) M M2 := by
  unfold j_X3_readsCondition_29 at h
  have F0 : Fr (w_X3_readsCondition) (v_X3_readsCondition) M M := Fr.rf
  by_cases hc1 : (rd M 111 16) < 8
  · rw [if_pos hc1] at h
    obtain ⟨M_3, e2, h⟩ := bnd_elim h
    have F3 : Fr (w_X3_readsCondition) (v_X3_readsCondition) M M_3 := F0.tr (by rw [e2]; exact Fr.wr (Or.inr (Or.inr (Or.inr (Or.inr (Or.inl ⟨by omega, by decide⟩))))))
    obtain ⟨⟨r_6, M_7⟩, hr4, h⟩ := bind_elim h
    replace h := un2_e h
    have F5 : Fr (w_X3_readsCondition) (v_X3_readsCondition) M M_7 := F3.tr ((fr_m_X3_putSign hr4).mono (fun k j h => by
        unfold w_X3_putSign at h
        rcases h with h | h | h
        · exact (Or.inr (Or.inl ⟨by omega, h.2⟩))
        · exact (Or.inr (Or.inr (Or.inr (Or.inl ⟨by omega, h.2⟩))))
        · exact (Or.inr (Or.inr (Or.inr (Or.inr (Or.inr (Or.inr (Or.inr (Or.inr (by omega)))))))))) (fun k j h => absurd h id))
    obtain ⟨hb6, h⟩ := chk_elim h
    cases h
    exact F5
  · rw [if_neg hc1] at h
    obtain ⟨⟨r_10, M_11⟩, hr7, h⟩ := bind_elim h
    replace h := un2_e h
    have F8 : Fr (w_X3_readsCondition) (v_X3_readsCondition) M M_11 := F0.tr ((fr_m_X3_refuse hr7).mono (fun k j h => by
        unfold w_X3_refuse at h
        rcases h with h | h
        · exact (Or.inr (Or.inr (Or.inr (Or.inr (Or.inr (Or.inl ⟨by omega, h.2⟩))))))
        · exact (Or.inr (Or.inr (Or.inr (Or.inr (Or.inr (Or.inr (Or.inl ⟨by omega, h.2⟩)))))))) (fun k j h => absurd h id))
    obtain ⟨hb9, h⟩ := chk_elim h
    cases h
    exact F8
set_option maxHeartbeats 1000000 in
theorem fr_m_X3_readsCondition {M : Mem} {rr : Int32} {M2 : Mem} (h : m_X3_readsCondition M = some (rr, M2)) : Fr (w_X3_readsCondition) (v_X3_readsCondition) M M2 := by
  unfold m_X3_readsCondition at h
  have F0 : Fr (w_X3_readsCondition) (v_X3_readsCondition) M M := Fr.rf
  by_cases hc1 : (rd M 111 9) = 204
  · rw [if_pos hc1] at h
    exact F0.tr (fr_j_X3_readsCondition_29 h)
  · rw [if_neg hc1] at h
    by_cases hc2 : (rd M 111 9) = 40
    · rw [if_pos hc2] at h
      exact F0.tr (fr_j_X3_readsCondition_29 h)
    · rw [if_neg hc2] at h
      obtain ⟨M_14, e3, h⟩ := bnd_elim h
      have F4 : Fr (w_X3_readsCondition) (v_X3_readsCondition) M M_14 := F0.tr (by rw [e3]; exact Fr.wr (Or.inr (Or.inr (Or.inl ⟨by omega, by decide⟩))))
      obtain ⟨⟨r_17, M_18⟩, hr5, h⟩ := bind_elim h
      replace h := un2_e h
      have F6 : Fr (w_X3_readsCondition) (v_X3_readsCondition) M M_18 := F4.tr ((fr_m_X3_readsUnit hr5).mono (fun k j h => by
          unfold w_X3_readsUnit at h
          rcases h with h | h | h | h | h
          · exact (Or.inl ⟨by omega, h.2⟩)
          · exact (Or.inr (Or.inl ⟨by omega, h.2⟩))
          · exact (Or.inr (Or.inr (Or.inr (Or.inr (Or.inr (Or.inl ⟨by omega, h.2⟩))))))
          · exact (Or.inr (Or.inr (Or.inr (Or.inr (Or.inr (Or.inr (Or.inl ⟨by omega, h.2⟩)))))))
          · exact (Or.inr (Or.inr (Or.inr (Or.inr (Or.inr (Or.inr (Or.inr (Or.inl (by omega)))))))))) (fun k j h => absurd h id))
      obtain ⟨hb7, h⟩ := chk_elim h
      cases h
      exact F6
set_option maxHeartbeats 1000000 in
theorem fr_m_X3_readsPart {M : Mem} {rr : Int32} {M2 : Mem} (h : m_X3_readsPart M = some (rr, M2)) : Fr (w_X3_readsPart) (v_X3_readsPart) M M2 := by
  unfold m_X3_readsPart at h
  have F0 : Fr (w_X3_readsPart) (v_X3_readsPart) M M := Fr.rf
  by_cases hc1 : (rd M 111 9) = 1
  · rw [if_pos hc1] at h
    by_cases hc2 : (rd M 111 10) = 0
    · rw [if_pos hc2] at h
      obtain ⟨⟨r_8, M_9⟩, hr3, h⟩ := bind_elim h
      replace h := un2_e h
      have F4 : Fr (w_X3_readsPart) (v_X3_readsPart) M M_9 := F0.tr ((fr_m_X3_refuse hr3).mono (fun k j h => by
          unfold w_X3_refuse at h
          rcases h with h | h
          · exact (Or.inr (Or.inr (Or.inl ⟨by omega, h.2⟩)))
          · exact (Or.inr (Or.inr (Or.inr (Or.inl ⟨by omega, h.2⟩))))) (fun k j h => absurd h id))
      obtain ⟨hb5, h⟩ := chk_elim h
      cases h
      exact F4
    · rw [if_neg hc2] at h
      obtain ⟨⟨r_4, M_5⟩, hr6, h⟩ := bind_elim h
      replace h := un2_e h
      have F7 : Fr (w_X3_readsPart) (v_X3_readsPart) M M_5 := F0.tr ((fr_m_X3_readsUnit hr6).mono (fun k j h => by
          unfold w_X3_readsUnit at h
          rcases h with h | h | h | h | h
          · exact (Or.inl ⟨by omega, h.2⟩)
          · exact (Or.inr (Or.inl ⟨by omega, h.2⟩))
          · exact (Or.inr (Or.inr (Or.inl ⟨by omega, h.2⟩)))
          · exact (Or.inr (Or.inr (Or.inr (Or.inl ⟨by omega, h.2⟩))))
          · exact (Or.inr (Or.inr (Or.inr (Or.inr (by omega)))))) (fun k j h => absurd h id))
      obtain ⟨hb8, h⟩ := chk_elim h
      cases h
      exact F7
  · rw [if_neg hc1] at h
    obtain ⟨⟨r_12, M_13⟩, hr9, h⟩ := bind_elim h
    replace h := un2_e h
    have F10 : Fr (w_X3_readsPart) (v_X3_readsPart) M M_13 := F0.tr ((fr_m_X3_refuse hr9).mono (fun k j h => by
        unfold w_X3_refuse at h
        rcases h with h | h
        · exact (Or.inr (Or.inr (Or.inl ⟨by omega, h.2⟩)))
        · exact (Or.inr (Or.inr (Or.inr (Or.inl ⟨by omega, h.2⟩))))) (fun k j h => absurd h id))
    obtain ⟨hb11, h⟩ := chk_elim h
    cases h
    exact F10
set_option maxHeartbeats 1000000 in
theorem fr_b_X3_settleSigns_0 {fu : Nat} {s1 : Int32} {s0 : Mem} {o : (Mem) ⊕ (Mem)} (h : b_X3_settleSigns_0 fu s1 s0 = some o) : Fr (w_X3_settleSigns) (v_X3_settleSigns) ((fun x : Mem => x) s0) (Sum.elim (fun x : Mem => x) (fun x : Mem => x) o) := by
  obtain ⟨M, rfl⟩ : ∃ z, z = s0 := ⟨_, rfl⟩
  unfold b_X3_settleSigns_0 at h
  replace h := un1_e h
  have F0 : Fr (w_X3_settleSigns) (v_X3_settleSigns) M M := Fr.rf
  by_cases hc1 : (rd M 111 15) ≤ 0
  · rw [if_pos hc1] at h
    cases h
    exact F0
  · rw [if_neg hc1] at h
    obtain ⟨hb2, h⟩ := chk_elim h
    have q3 := inb_lt hb2
    obtain ⟨r_4, hr4, h⟩ := bind_elim h
    by_cases hc5 : r_4 < s1
    · rw [if_pos hc5] at h
      cases h
      exact F0
    · rw [if_neg hc5] at h
      obtain ⟨M_6, e6, h⟩ := bnd_elim h
      have F7 : Fr (w_X3_settleSigns) (v_X3_settleSigns) M M_6 := F0.tr (by rw [e6]; exact Fr.wr (Or.inr (Or.inl ⟨by omega, by decide⟩)))
      obtain ⟨hb8, h⟩ := chk_elim h
      have q9 := inb_lt hb8
      obtain ⟨M_10, hr10, h⟩ := bind_elim h
      have F11 : Fr (w_X3_settleSigns) (v_X3_settleSigns) M M_10 := F7.tr ((fr_m_X3_emit hr10).mono (fun k j h => by
          unfold w_X3_emit at h
          rcases h with h | h
          · exact (Or.inl ⟨by omega, h.2⟩)
          · exact (Or.inr (Or.inr (Or.inr (by omega))))) (fun k j h => absurd h id))
      obtain ⟨hb12, h⟩ := chk_elim h
      have q13 := inb_lt hb12
      by_cases hc14 : (rd M_10 114 (ix (rd M_10 111 15))) = 204
      · rw [if_pos hc14] at h
        obtain ⟨M_13, e15, h⟩ := bnd_elim h
        have F16 : Fr (w_X3_settleSigns) (v_X3_settleSigns) M M_13 := F11.tr (by rw [e15]; exact Fr.wr (Or.inr (Or.inr (Or.inl ⟨by omega, by decide⟩))))
        cases h
        exact F16
      · rw [if_neg hc14] at h
        cases h
        exact F11
set_option maxHeartbeats 1000000 in
theorem fr_m_X3_settleSigns {fu : Nat} {M : Mem} {a1 : Int32} {M2 : Mem} (h : m_X3_settleSigns fu M a1 = some M2) : Fr (w_X3_settleSigns) (v_X3_settleSigns) M M2 := by
  unfold m_X3_settleSigns at h
  have F0 : Fr (w_X3_settleSigns) (v_X3_settleSigns) M M := Fr.rf
  obtain ⟨x1, hr2, h⟩ := bind_elim h
  have F3 := F0.tr (lp_fr (w := (w_X3_settleSigns)) (v := (v_X3_settleSigns)) (fun x : Mem => x) (fun x : Mem => x) (fun s o hq => fr_b_X3_settleSigns_0 hq) _ _ _ hr2)
  obtain ⟨M_17, rfl⟩ : ∃ z, z = x1 := ⟨_, rfl⟩
  replace h := un1_e h
  have F4 : Fr (w_X3_settleSigns) (v_X3_settleSigns) M M_17 := F3
  cases h
  exact F4
set_option maxHeartbeats 1000000 in
theorem fr_j_X3_readsBehindCondition_20 {fu : Nat} {M : Mem} {rr : Int32} {M2 : Mem} (h : j_X3_readsBehindCondition_20 fu M = some (rr, M2)) : Fr (w_X3_readsBehindCondition) (v_X3_readsBehindCondition) M M2 := by
  unfold j_X3_readsBehindCondition_20 at h
  have F0 : Fr (w_X3_readsBehindCondition) (v_X3_readsBehindCondition) M M := Fr.rf
  obtain ⟨r_3, hr1, h⟩ := bind_elim h
  obtain ⟨M_5, hr2, h⟩ := bind_elim h
  have F3 : Fr (w_X3_readsBehindCondition) (v_X3_readsBehindCondition) M M_5 := F0.tr ((fr_m_X3_settleSigns hr2).mono (fun k j h => by
      unfold w_X3_settleSigns at h
      rcases h with h | h | h | h
      · exact (Or.inl ⟨by omega, h.2⟩)
      · exact (Or.inr (Or.inr (Or.inl ⟨by omega, h.2⟩)))
      · exact (Or.inr (Or.inr (Or.inr (Or.inl ⟨by omega, h.2⟩))))
      · exact (Or.inr (Or.inr (Or.inr (Or.inr (Or.inr (Or.inr (Or.inl (by omega))))))))) (fun k j h => absurd h id))
  obtain ⟨⟨r_7, M_8⟩, hr4, h⟩ := bind_elim h
  replace h := un2_e h
  have F5 : Fr (w_X3_readsBehindCondition) (v_X3_readsBehindCondition) M M_8 := F3.tr ((fr_m_X3_putSign hr4).mono (fun k j h => by
      unfold w_X3_putSign at h
      rcases h with h | h | h
      · exact (Or.inr (Or.inl ⟨by omega, h.2⟩))
      · exact (Or.inr (Or.inr (Or.inl ⟨by omega, h.2⟩)))
      · exact (Or.inr (Or.inr (Or.inr (Or.inr (Or.inr (Or.inr (Or.inr (by omega))))))))) (fun k j h => absurd h id))
  obtain ⟨hb6, h⟩ := chk_elim h
  cases h
  exact F5
set_option maxHeartbeats 1000000 in
theorem fr_j_X3_readsBehindCondition_98 {fu : Nat} {M : Mem} {s1 : Int32} {t0 : Int32} {rr : Int32} {M2 : Mem} (h : j_X3_readsBehindCondition_98 fu M s1 t0 = some (rr, M2)) : Fr (w_X3_readsBehindCondition) (v_X3_readsBehindCondition) M M2 := by
  unfold j_X3_readsBehindCondition_98 at h
  have F0 : Fr (w_X3_readsBehindCondition) (v_X3_readsBehindCondition) M M := Fr.rf
  by_cases hc1 : s1 = t0
  · rw [if_pos hc1] at h
    by_cases hc2 : t0 = 0
    · rw [if_pos hc2] at h
      obtain ⟨M_21, hr3, h⟩ := bind_elim h
      have F4 : Fr (w_X3_readsBehindCondition) (v_X3_readsBehindCondition) M M_21 := F0.tr ((fr_m_X3_emit hr3).mono (fun k j h => by
          unfold w_X3_emit at h
          rcases h with h | h
          · exact (Or.inl ⟨by omega, h.2⟩)
          · exact (Or.inr (Or.inr (Or.inr (Or.inr (Or.inr (Or.inr (Or.inl (by omega))))))))) (fun k j h => absurd h id))
      obtain ⟨⟨r_23, M_24⟩, hr5, h⟩ := bind_elim h
      replace h := un2_e h
      have F6 : Fr (w_X3_readsBehindCondition) (v_X3_readsBehindCondition) M M_24 := F4.tr ((fr_m_X3_expect hr5).mono (fun k j h => by
          unfold w_X3_expect at h
          exact (Or.inr (Or.inl ⟨by omega, h.2⟩))) (fun k j h => absurd h id))
      obtain ⟨hb7, h⟩ := chk_elim h
      cases h
      exact F6
    · rw [if_neg hc2] at h
      obtain ⟨M_26, e8, h⟩ := bnd_elim h
      have F9 : Fr (w_X3_readsBehindCondition) (v_X3_readsBehindCondition) M M_26 := F0.tr (by rw [e8]; exact Fr.wr (Or.inr (Or.inr (Or.inl ⟨by omega, by decide⟩))))
      obtain ⟨M_28, e10, h⟩ := bnd_elim h
      have F11 : Fr (w_X3_readsBehindCondition) (v_X3_readsBehindCondition) M M_28 := F9.tr (by rw [e10]; exact Fr.wr (Or.inr (Or.inr (Or.inr (Or.inl ⟨by omega, by decide⟩)))))
      obtain ⟨⟨r_31, M_32⟩, hr12, h⟩ := bind_elim h
      replace h := un2_e h
      have F13 : Fr (w_X3_readsBehindCondition) (v_X3_readsBehindCondition) M M_32 := F11.tr ((fr_m_X3_expect hr12).mono (fun k j h => by
          unfold w_X3_expect at h
          exact (Or.inr (Or.inl ⟨by omega, h.2⟩))) (fun k j h => absurd h id))
      obtain ⟨hb14, h⟩ := chk_elim h
      cases h
      exact F13
  · rw [if_neg hc1] at h
    obtain ⟨⟨r_35, M_36⟩, hr15, h⟩ := bind_elim h
    replace h := un2_e h
    have F16 : Fr (w_X3_readsBehindCondition) (v_X3_readsBehindCondition) M M_36 := F0.tr ((fr_m_X3_refuse hr15).mono (fun k j h => by
        unfold w_X3_refuse at h
        rcases h with h | h
        · exact (Or.inr (Or.inr (Or.inr (Or.inr (Or.inl ⟨by omega, h.2⟩)))))
        · exact (Or.inr (Or.inr (Or.inr (Or.inr (Or.inr (Or.inl ⟨by omega, h.2⟩))))))) (fun k j h => absurd h id))
    obtain ⟨hb17, h⟩ := chk_elim h
    cases h
    exact F16
set_option maxHeartbeats 1000000 in
theorem fr_j_X3_readsBehindCondition_83 {fu : Nat} {M : Mem} {t0 : Int32} {rr : Int32} {M2 : Mem} (h : j_X3_readsBehindCondition_83 fu M t0 = some (rr, M2)) : Fr (w_X3_readsBehindCondition) (v_X3_readsBehindCondition) M M2 := by
  unfold j_X3_readsBehindCondition_83 at h
  have F0 : Fr (w_X3_readsBehindCondition) (v_X3_readsBehindCondition) M M := Fr.rf
  by_cases hc1 : (rd M 111 9) = 41
  · rw [if_pos hc1] at h
    exact F0.tr (fr_j_X3_readsBehindCondition_98 h)
  · rw [if_neg hc1] at h
    exact F0.tr (fr_j_X3_readsBehindCondition_98 h)
set_option maxHeartbeats 1000000 in
theorem fr_j_X3_readsBehindCondition_61 {fu : Nat} {M : Mem} {rr : Int32} {M2 : Mem} (h : j_X3_readsBehindCondition_61 fu M = some (rr, M2)) : Fr (w_X3_readsBehindCondition) (v_X3_readsBehindCondition) M M2 := by
  unfold j_X3_readsBehindCondition_61 at h
  have F0 : Fr (w_X3_readsBehindCondition) (v_X3_readsBehindCondition) M M := Fr.rf
  obtain ⟨r_13, hr1, h⟩ := bind_elim h
  obtain ⟨M_15, hr2, h⟩ := bind_elim h
  have F3 : Fr (w_X3_readsBehindCondition) (v_X3_readsBehindCondition) M M_15 := F0.tr ((fr_m_X3_settleSigns hr2).mono (fun k j h => by
      unfold w_X3_settleSigns at h
      rcases h with h | h | h | h
      · exact (Or.inl ⟨by omega, h.2⟩)
      · exact (Or.inr (Or.inr (Or.inl ⟨by omega, h.2⟩)))
      · exact (Or.inr (Or.inr (Or.inr (Or.inl ⟨by omega, h.2⟩))))
      · exact (Or.inr (Or.inr (Or.inr (Or.inr (Or.inr (Or.inr (Or.inl (by omega))))))))) (fun k j h => absurd h id))
  by_cases hc4 : (rd M_15 111 15) ≤ 0
  · rw [if_pos hc4] at h
    exact F3.tr (fr_j_X3_readsBehindCondition_83 h)
  · rw [if_neg hc4] at h
    exact F3.tr (fr_j_X3_readsBehindCondition_83 h)
set_option maxHeartbeats 1000000 in
theorem fr_m_X3_readsBehindCondition {fu : Nat} {M : Mem} {rr : Int32} {M2 : Mem} (h : m_X3_readsBehindCondition fu M = some (rr, M2)) : Fr (w_X3_readsBehindCondition) (v_X3_readsBehindCondition) M M2 := by
  unfold m_X3_readsBehindCondition at h
  have F0 : Fr (w_X3_readsBehindCondition) (v_X3_readsBehindCondition) M M := Fr.rf
  by_cases hc1 : (rd M 111 9) = 203
  · rw [if_pos hc1] at h
    exact F0.tr (fr_j_X3_readsBehindCondition_20 h)
  · rw [if_neg hc1] at h
    by_cases hc2 : (rd M 111 9) = 202
    · rw [if_pos hc2] at h
      exact F0.tr (fr_j_X3_readsBehindCondition_20 h)
    · rw [if_neg hc2] at h
      by_cases hc3 : (rd M 111 9) = 41
      · rw [if_pos hc3] at h
        exact F0.tr (fr_j_X3_readsBehindCondition_61 h)
      · rw [if_neg hc3] at h
        by_cases hc4 : (rd M 111 9) = 59
        · rw [if_pos hc4] at h
          exact F0.tr (fr_j_X3_readsBehindCondition_61 h)
        · rw [if_neg hc4] at h
          obtain ⟨⟨r_40, M_41⟩, hr5, h⟩ := bind_elim h
          replace h := un2_e h
          have F6 : Fr (w_X3_readsBehindCondition) (v_X3_readsBehindCondition) M M_41 := F0.tr ((fr_m_X3_refuse hr5).mono (fun k j h => by
              unfold w_X3_refuse at h
              rcases h with h | h
              · exact (Or.inr (Or.inr (Or.inr (Or.inr (Or.inl ⟨by omega, h.2⟩)))))
              · exact (Or.inr (Or.inr (Or.inr (Or.inr (Or.inr (Or.inl ⟨by omega, h.2⟩))))))) (fun k j h => absurd h id))
          obtain ⟨hb7, h⟩ := chk_elim h
          cases h
          exact F6
set_option maxHeartbeats 1000000 in
theorem fr_j_X3_readsBehindUnit_41 {fu : Nat} {M : Mem} {t1 : Int32} {rr : Int32} {M2 : Mem} (h : j_X3_readsBehindUnit_41 fu M t1 = some (rr, M2)) : Fr (w_X3_readsBehindUnit) (v_X3_readsBehindUnit) M M2 := by
  unfold j_X3_readsBehindUnit_41 at h
  have F0 : Fr (w_X3_readsBehindUnit) (v_X3_readsBehindUnit) M M := Fr.rf
  obtain ⟨⟨r_36, M_37⟩, hr1, h⟩ := bind_elim h
  replace h := un2_e h
  have F2 : Fr (w_X3_readsBehindUnit) (v_X3_readsBehindUnit) M M_37 := F0.tr ((fr_m_X3_putSign hr1).mono (fun k j h => by
      unfold w_X3_putSign at h
      rcases h with h | h | h
      · exact (Or.inr (Or.inl ⟨by omega, h.2⟩))
      · exact (Or.inr (Or.inr (Or.inr (Or.inl ⟨by omega, h.2⟩))))
      · exact (Or.inr (Or.inr (Or.inr (Or.inr (Or.inr (Or.inr (Or.inr (Or.inr (by omega)))))))))) (fun k j h => absurd h id))
  obtain ⟨hb3, h⟩ := chk_elim h
  cases h
  exact F2
set_option maxHeartbeats 1000000 in
theorem fr_m_X3_readsBehindUnit {fu : Nat} {M : Mem} {rr : Int32} {M2 : Mem} (h : m_X3_readsBehindUnit fu M = some (rr, M2)) : Fr (w_X3_readsBehindUnit) (v_X3_readsBehindUnit) M M2 := by
  unfold m_X3_readsBehindUnit at h
  have F0 : Fr (w_X3_readsBehindUnit) (v_X3_readsBehindUnit) M M := Fr.rf
  obtain ⟨r_2, hr1, h⟩ := bind_elim h
  obtain ⟨r_4, hr2, h⟩ := bind_elim h
  by_cases hc3 : r_2 ≤ r_4
  · rw [if_pos hc3] at h
    by_cases hc4 : (rd M 111 13) = 0
    · rw [if_pos hc4] at h
      obtain ⟨r_8, hr5, h⟩ := bind_elim h
      obtain ⟨r_10, hr6, h⟩ := bind_elim h
      by_cases hc7 : r_10 ≤ r_8
      · rw [if_pos hc7] at h
        obtain ⟨M_12, e8, h⟩ := bnd_elim h
        have F9 : Fr (w_X3_readsBehindUnit) (v_X3_readsBehindUnit) M M_12 := F0.tr (by rw [e8]; exact Fr.wr (Or.inr (Or.inr (Or.inl ⟨by omega, by decide⟩))))
        obtain ⟨r_15, hr10, h⟩ := bind_elim h
        obtain ⟨M_17, hr11, h⟩ := bind_elim h
        have F12 : Fr (w_X3_readsBehindUnit) (v_X3_readsBehindUnit) M M_17 := F9.tr ((fr_m_X3_settleSigns hr11).mono (fun k j h => by
            unfold w_X3_settleSigns at h
            rcases h with h | h | h | h
            · exact (Or.inl ⟨by omega, h.2⟩)
            · exact (Or.inr (Or.inr (Or.inr (Or.inl ⟨by omega, h.2⟩))))
            · exact (Or.inr (Or.inr (Or.inr (Or.inr (Or.inl ⟨by omega, h.2⟩)))))
            · exact (Or.inr (Or.inr (Or.inr (Or.inr (Or.inr (Or.inr (Or.inr (Or.inl (by omega)))))))))) (fun k j h => absurd h id))
        obtain ⟨⟨r_19, M_20⟩, hr13, h⟩ := bind_elim h
        replace h := un2_e h
        have F14 : Fr (w_X3_readsBehindUnit) (v_X3_readsBehindUnit) M M_20 := F12.tr ((fr_m_X3_putSign hr13).mono (fun k j h => by
            unfold w_X3_putSign at h
            rcases h with h | h | h
            · exact (Or.inr (Or.inl ⟨by omega, h.2⟩))
            · exact (Or.inr (Or.inr (Or.inr (Or.inl ⟨by omega, h.2⟩))))
            · exact (Or.inr (Or.inr (Or.inr (Or.inr (Or.inr (Or.inr (Or.inr (Or.inr (by omega)))))))))) (fun k j h => absurd h id))
        obtain ⟨hb15, h⟩ := chk_elim h
        cases h
        exact F14
      · rw [if_neg hc7] at h
        obtain ⟨⟨r_23, M_24⟩, hr16, h⟩ := bind_elim h
        replace h := un2_e h
        have F17 : Fr (w_X3_readsBehindUnit) (v_X3_readsBehindUnit) M M_24 := F0.tr ((fr_m_X3_refuse hr16).mono (fun k j h => by
            unfold w_X3_refuse at h
            rcases h with h | h
            · exact (Or.inr (Or.inr (Or.inr (Or.inr (Or.inr (Or.inl ⟨by omega, h.2⟩))))))
            · exact (Or.inr (Or.inr (Or.inr (Or.inr (Or.inr (Or.inr (Or.inl ⟨by omega, h.2⟩)))))))) (fun k j h => absurd h id))
        obtain ⟨hb18, h⟩ := chk_elim h
        cases h
        exact F17
    · rw [if_neg hc4] at h
      obtain ⟨⟨r_27, M_28⟩, hr19, h⟩ := bind_elim h
      replace h := un2_e h
      have F20 : Fr (w_X3_readsBehindUnit) (v_X3_readsBehindUnit) M M_28 := F0.tr ((fr_m_X3_readsBehindCondition hr19).mono (fun k j h => by
          unfold w_X3_readsBehindCondition at h
          rcases h with h | h | h | h | h | h | h | h
          · exact (Or.inl ⟨by omega, h.2⟩)
          · exact (Or.inr (Or.inl ⟨by omega, h.2⟩))
          · exact (Or.inr (Or.inr (Or.inr (Or.inl ⟨by omega, h.2⟩))))
          · exact (Or.inr (Or.inr (Or.inr (Or.inr (Or.inl ⟨by omega, h.2⟩)))))
          · exact (Or.inr (Or.inr (Or.inr (Or.inr (Or.inr (Or.inl ⟨by omega, h.2⟩))))))
          · exact (Or.inr (Or.inr (Or.inr (Or.inr (Or.inr (Or.inr (Or.inl ⟨by omega, h.2⟩)))))))
          · exact (Or.inr (Or.inr (Or.inr (Or.inr (Or.inr (Or.inr (Or.inr (Or.inl (by omega)))))))))
          · exact (Or.inr (Or.inr (Or.inr (Or.inr (Or.inr (Or.inr (Or.inr (Or.inr (by omega)))))))))) (fun k j h => absurd h id))
      obtain ⟨hb21, h⟩ := chk_elim h
      cases h
      exact F20
  · rw [if_neg hc3] at h
    obtain ⟨r_31, hr22, h⟩ := bind_elim h
    obtain ⟨M_33, hr23, h⟩ := bind_elim h
    have F24 : Fr (w_X3_readsBehindUnit) (v_X3_readsBehindUnit) M M_33 := F0.tr ((fr_m_X3_settleSigns hr23).mono (fun k j h => by
        unfold w_X3_settleSigns at h
        rcases h with h | h | h | h
        · exact (Or.inl ⟨by omega, h.2⟩)
        · exact (Or.inr (Or.inr (Or.inr (Or.inl ⟨by omega, h.2⟩))))
        · exact (Or.inr (Or.inr (Or.inr (Or.inr (Or.inl ⟨by omega, h.2⟩)))))
        · exact (Or.inr (Or.inr (Or.inr (Or.inr (Or.inr (Or.inr (Or.inr (Or.inl (by omega)))))))))) (fun k j h => absurd h id))
    by_cases hc25 : (rd M_33 111 9) = 47
    · rw [if_pos hc25] at h
      exact F24.tr (fr_j_X3_readsBehindUnit_41 h)
    · rw [if_neg hc25] at h
      exact F24.tr (fr_j_X3_readsBehindUnit_41 h)
set_option maxHeartbeats 1000000 in
theorem fr_m_X3_readsToken {fu : Nat} {M : Mem} {rr : Int32} {M2 : Mem} (h : m_X3_readsToken fu M = some (rr, M2)) : Fr (w_X3_readsToken) (v_X3_readsToken) M M2 := by
  unfold m_X3_readsToken at h
  have F0 : Fr (w_X3_readsToken) (v_X3_readsToken) M M := Fr.rf
  obtain ⟨v_1, e1, h⟩ := bnd_elim h
  by_cases hc2 : v_1 = 0
  · rw [if_pos hc2] at h
    obtain ⟨⟨r_5, M_6⟩, hr3, h⟩ := bind_elim h
    replace h := un2_e h
    have F4 : Fr (w_X3_readsToken) (v_X3_readsToken) M M_6 := F0.tr ((fr_m_X3_readsDo hr3).mono (fun k j h => by
        unfold w_X3_readsDo at h
        rcases h with h | h | h | h
        · exact (Or.inr (Or.inl ⟨by omega, h.2⟩))
        · exact (Or.inr (Or.inr (Or.inr (Or.inr (Or.inr (Or.inr (Or.inl ⟨by omega, h.2⟩)))))))
        · exact (Or.inr (Or.inr (Or.inr (Or.inr (Or.inr (Or.inr (Or.inr (Or.inl ⟨by omega, h.2⟩))))))))
        · exact (Or.inr (Or.inr (Or.inr (Or.inr (Or.inr (Or.inr (Or.inr (Or.inr (Or.inl ⟨by omega, h.2⟩)))))))))) (fun k j h => absurd h id))
    obtain ⟨hb5, h⟩ := chk_elim h
    cases h
    exact F4
  · rw [if_neg hc2] at h
    by_cases hc6 : v_1 = 1
    · rw [if_pos hc6] at h
      obtain ⟨⟨r_10, M_11⟩, hr7, h⟩ := bind_elim h
      replace h := un2_e h
      have F8 : Fr (w_X3_readsToken) (v_X3_readsToken) M M_11 := F0.tr ((fr_m_X3_readsDoing hr7).mono (fun k j h => by
          unfold w_X3_readsDoing at h
          rcases h with h | h | h | h
          · exact (Or.inr (Or.inl ⟨by omega, h.2⟩))
          · exact (Or.inr (Or.inr (Or.inl ⟨by omega, h.2⟩)))
          · exact (Or.inr (Or.inr (Or.inr (Or.inr (Or.inr (Or.inr (Or.inr (Or.inl ⟨by omega, h.2⟩))))))))
          · exact (Or.inr (Or.inr (Or.inr (Or.inr (Or.inr (Or.inr (Or.inr (Or.inr (Or.inl ⟨by omega, h.2⟩)))))))))) (fun k j h => absurd h id))
      obtain ⟨hb9, h⟩ := chk_elim h
      cases h
      exact F8
    · rw [if_neg hc6] at h
      by_cases hc10 : v_1 = 2
      · rw [if_pos hc10] at h
        obtain ⟨⟨r_15, M_16⟩, hr11, h⟩ := bind_elim h
        replace h := un2_e h
        have F12 : Fr (w_X3_readsToken) (v_X3_readsToken) M M_16 := F0.tr ((fr_m_X3_readsWhen hr11).mono (fun k j h => by
            unfold w_X3_readsWhen at h
            rcases h with h | h | h | h | h
            · exact (Or.inl ⟨by omega, h.2⟩)
            · exact (Or.inr (Or.inl ⟨by omega, h.2⟩))
            · exact (Or.inr (Or.inr (Or.inr (Or.inr (Or.inr (Or.inr (Or.inr (Or.inl ⟨by omega, h.2⟩))))))))
            · exact (Or.inr (Or.inr (Or.inr (Or.inr (Or.inr (Or.inr (Or.inr (Or.inr (Or.inl ⟨by omega, h.2⟩)))))))))
            · exact (Or.inr (Or.inr (Or.inr (Or.inr (Or.inr (Or.inr (Or.inr (Or.inr (Or.inr (Or.inl (by omega)))))))))))) (fun k j h => absurd h id))
        obtain ⟨hb13, h⟩ := chk_elim h
        cases h
        exact F12
      · rw [if_neg hc10] at h
        by_cases hc14 : v_1 = 3
        · rw [if_pos hc14] at h
          obtain ⟨⟨r_20, M_21⟩, hr15, h⟩ := bind_elim h
          replace h := un2_e h
          have F16 : Fr (w_X3_readsToken) (v_X3_readsToken) M M_21 := F0.tr ((fr_m_X3_readsCondition hr15).mono (fun k j h => by
              unfold w_X3_readsCondition at h
              rcases h with h | h | h | h | h | h | h | h | h
              · exact (Or.inl ⟨by omega, h.2⟩)
              · exact (Or.inr (Or.inl ⟨by omega, h.2⟩))
              · exact (Or.inr (Or.inr (Or.inr (Or.inl ⟨by omega, h.2⟩))))
              · exact (Or.inr (Or.inr (Or.inr (Or.inr (Or.inl ⟨by omega, h.2⟩)))))
              · exact (Or.inr (Or.inr (Or.inr (Or.inr (Or.inr (Or.inl ⟨by omega, h.2⟩))))))
              · exact (Or.inr (Or.inr (Or.inr (Or.inr (Or.inr (Or.inr (Or.inr (Or.inl ⟨by omega, h.2⟩))))))))
              · exact (Or.inr (Or.inr (Or.inr (Or.inr (Or.inr (Or.inr (Or.inr (Or.inr (Or.inl ⟨by omega, h.2⟩)))))))))
              · exact (Or.inr (Or.inr (Or.inr (Or.inr (Or.inr (Or.inr (Or.inr (Or.inr (Or.inr (Or.inl (by omega)))))))))))
              · exact (Or.inr (Or.inr (Or.inr (Or.inr (Or.inr (Or.inr (Or.inr (Or.inr (Or.inr (Or.inr (by omega)))))))))))) (fun k j h => absurd h id))
          obtain ⟨hb17, h⟩ := chk_elim h
          cases h
          exact F16
        · rw [if_neg hc14] at h
          by_cases hc18 : v_1 = 4
          · rw [if_pos hc18] at h
            obtain ⟨⟨r_25, M_26⟩, hr19, h⟩ := bind_elim h
            replace h := un2_e h
            have F20 : Fr (w_X3_readsToken) (v_X3_readsToken) M M_26 := F0.tr ((fr_m_X3_readsUnit hr19).mono (fun k j h => by
                unfold w_X3_readsUnit at h
                rcases h with h | h | h | h | h
                · exact (Or.inl ⟨by omega, h.2⟩)
                · exact (Or.inr (Or.inl ⟨by omega, h.2⟩))
                · exact (Or.inr (Or.inr (Or.inr (Or.inr (Or.inr (Or.inr (Or.inr (Or.inl ⟨by omega, h.2⟩))))))))
                · exact (Or.inr (Or.inr (Or.inr (Or.inr (Or.inr (Or.inr (Or.inr (Or.inr (Or.inl ⟨by omega, h.2⟩)))))))))
                · exact (Or.inr (Or.inr (Or.inr (Or.inr (Or.inr (Or.inr (Or.inr (Or.inr (Or.inr (Or.inl (by omega)))))))))))) (fun k j h => absurd h id))
            obtain ⟨hb21, h⟩ := chk_elim h
            cases h
            exact F20
          · rw [if_neg hc18] at h
            by_cases hc22 : v_1 = 5
            · rw [if_pos hc22] at h
              obtain ⟨⟨r_30, M_31⟩, hr23, h⟩ := bind_elim h
              replace h := un2_e h
              have F24 : Fr (w_X3_readsToken) (v_X3_readsToken) M M_31 := F0.tr ((fr_m_X3_readsPart hr23).mono (fun k j h => by
                  unfold w_X3_readsPart at h
                  rcases h with h | h | h | h | h
                  · exact (Or.inl ⟨by omega, h.2⟩)
                  · exact (Or.inr (Or.inl ⟨by omega, h.2⟩))
                  · exact (Or.inr (Or.inr (Or.inr (Or.inr (Or.inr (Or.inr (Or.inr (Or.inl ⟨by omega, h.2⟩))))))))
                  · exact (Or.inr (Or.inr (Or.inr (Or.inr (Or.inr (Or.inr (Or.inr (Or.inr (Or.inl ⟨by omega, h.2⟩)))))))))
                  · exact (Or.inr (Or.inr (Or.inr (Or.inr (Or.inr (Or.inr (Or.inr (Or.inr (Or.inr (Or.inl (by omega)))))))))))) (fun k j h => absurd h id))
              obtain ⟨hb25, h⟩ := chk_elim h
              cases h
              exact F24
            · rw [if_neg hc22] at h
              by_cases hc26 : v_1 = 6
              · rw [if_pos hc26] at h
                obtain ⟨⟨r_35, M_36⟩, hr27, h⟩ := bind_elim h
                replace h := un2_e h
                have F28 : Fr (w_X3_readsToken) (v_X3_readsToken) M M_36 := F0.tr ((fr_m_X3_readsBehindUnit hr27).mono (fun k j h => by
                    unfold w_X3_readsBehindUnit at h
                    rcases h with h | h | h | h | h | h | h | h | h
                    · exact (Or.inl ⟨by omega, h.2⟩)
                    · exact (Or.inr (Or.inl ⟨by omega, h.2⟩))
                    · exact (Or.inr (Or.inr (Or.inr (Or.inl ⟨by omega, h.2⟩))))
                    · exact (Or.inr (Or.inr (Or.inr (Or.inr (Or.inl ⟨by omega, h.2⟩)))))
                    · exact (Or.inr (Or.inr (Or.inr (Or.inr (Or.inr (Or.inl ⟨by omega, h.2⟩))))))
                    · exact (Or.inr (Or.inr (Or.inr (Or.inr (Or.inr (Or.inr (Or.inr (Or.inl ⟨by omega, h.2⟩))))))))
                    · exact (Or.inr (Or.inr (Or.inr (Or.inr (Or.inr (Or.inr (Or.inr (Or.inr (Or.inl ⟨by omega, h.2⟩)))))))))
                    · exact (Or.inr (Or.inr (Or.inr (Or.inr (Or.inr (Or.inr (Or.inr (Or.inr (Or.inr (Or.inl (by omega)))))))))))
                    · exact (Or.inr (Or.inr (Or.inr (Or.inr (Or.inr (Or.inr (Or.inr (Or.inr (Or.inr (Or.inr (by omega)))))))))))) (fun k j h => absurd h id))
                obtain ⟨hb29, h⟩ := chk_elim h
                cases h
                exact F28
              · rw [if_neg hc26] at h
                obtain ⟨⟨r_39, M_40⟩, hr30, h⟩ := bind_elim h
                replace h := un2_e h
                have F31 : Fr (w_X3_readsToken) (v_X3_readsToken) M M_40 := F0.tr ((fr_m_X3_readsBehindCondition hr30).mono (fun k j h => by
                    unfold w_X3_readsBehindCondition at h
                    rcases h with h | h | h | h | h | h | h | h
                    · exact (Or.inl ⟨by omega, h.2⟩)
                    · exact (Or.inr (Or.inl ⟨by omega, h.2⟩))
                    · exact (Or.inr (Or.inr (Or.inr (Or.inr (Or.inl ⟨by omega, h.2⟩)))))
                    · exact (Or.inr (Or.inr (Or.inr (Or.inr (Or.inr (Or.inl ⟨by omega, h.2⟩))))))
                    · exact (Or.inr (Or.inr (Or.inr (Or.inr (Or.inr (Or.inr (Or.inr (Or.inl ⟨by omega, h.2⟩))))))))
                    · exact (Or.inr (Or.inr (Or.inr (Or.inr (Or.inr (Or.inr (Or.inr (Or.inr (Or.inl ⟨by omega, h.2⟩)))))))))
                    · exact (Or.inr (Or.inr (Or.inr (Or.inr (Or.inr (Or.inr (Or.inr (Or.inr (Or.inr (Or.inl (by omega)))))))))))
                    · exact (Or.inr (Or.inr (Or.inr (Or.inr (Or.inr (Or.inr (Or.inr (Or.inr (Or.inr (Or.inr (by omega)))))))))))) (fun k j h => absurd h id))
                obtain ⟨hb32, h⟩ := chk_elim h
                cases h
                exact F31
set_option maxHeartbeats 1000000 in
theorem fr_b_X3_accepts_62 {fu : Nat} {k1 : Nat} {s0 : Int32 × Mem} {o : (Int32 × Mem) ⊕ ((Mem) ⊕ (Mem))} (h : b_X3_accepts_62 fu k1 s0 = some o) : Fr (w_X3_accepts k1) (v_X3_accepts k1) ((fun x : Int32 × Mem => x.2) s0) (Sum.elim (fun x : Int32 × Mem => x.2) (Sum.elim (fun x : Mem => x) (fun x : Mem => x)) o) := by
  obtain ⟨c3, M⟩ := s0
  unfold b_X3_accepts_62 at h
  replace h := un2_e h
  have F0 : Fr (w_X3_accepts k1) (v_X3_accepts k1) M M := Fr.rf
  by_cases hc1 : (rd M 111 6) ≤ c3
  · rw [if_pos hc1] at h
    cases h
    exact F0
  · rw [if_neg hc1] at h
    by_cases hc2 : (rd M 111 9) = 0
    · rw [if_pos hc2] at h
      cases h
      exact F0
    · rw [if_neg hc2] at h
      obtain ⟨⟨r_27, M_28⟩, hr3, h⟩ := bind_elim h
      replace h := un2_e h
      have F4 : Fr (w_X3_accepts k1) (v_X3_accepts k1) M M_28 := F0.tr ((fr_m_X3_readsToken hr3).mono (fun k j h => by
          unfold w_X3_readsToken at h
          rcases h with h | h | h | h | h | h | h | h | h | h | h
          · exact (Or.inl ⟨by omega, h.2⟩)
          · exact (Or.inr (Or.inr (Or.inl ⟨by omega, h.2⟩)))
          · exact (Or.inr (Or.inr (Or.inr (Or.inl ⟨by omega, h.2⟩))))
          · exact (Or.inr (Or.inr (Or.inr (Or.inr (Or.inl ⟨by omega, h.2⟩)))))
          · exact (Or.inr (Or.inr (Or.inr (Or.inr (Or.inr (Or.inl ⟨by omega, h.2⟩))))))
          · exact (Or.inr (Or.inr (Or.inr (Or.inr (Or.inr (Or.inr (Or.inl ⟨by omega, h.2⟩)))))))
          · exact (Or.inr (Or.inr (Or.inr (Or.inr (Or.inr (Or.inr (Or.inr (Or.inl ⟨by omega, h.2⟩))))))))
          · exact (Or.inr (Or.inr (Or.inr (Or.inr (Or.inr (Or.inr (Or.inr (Or.inr (Or.inl ⟨by omega, h.2⟩)))))))))
          · exact (Or.inr (Or.inr (Or.inr (Or.inr (Or.inr (Or.inr (Or.inr (Or.inr (Or.inr (Or.inl ⟨by omega, h.2⟩))))))))))
          · exact (Or.inr (Or.inr (Or.inr (Or.inr (Or.inr (Or.inr (Or.inr (Or.inr (Or.inr (Or.inr (Or.inr (Or.inr (Or.inr (Or.inr (by omega)))))))))))))))
          · exact (Or.inr (Or.inr (Or.inr (Or.inr (Or.inr (Or.inr (Or.inr (Or.inr (Or.inr (Or.inr (Or.inr (Or.inr (Or.inr (Or.inr (by omega)))))))))))))))) (fun k j h => absurd h id))
      by_cases hc5 : r_27 = 0
      · rw [if_pos hc5] at h
        cases h
        exact F4
      · rw [if_neg hc5] at h
        obtain ⟨M_31, hr6, h⟩ := bind_elim h
        have F7 : Fr (w_X3_accepts k1) (v_X3_accepts k1) M M_31 := F4.tr ((fr_m_X3_advance hr6).mono (fun k j h => by
            unfold w_X3_advance at h
            rcases h with h | h | h | h
            · exact (Or.inr (Or.inl ⟨by omega, h.2⟩))
            · exact (Or.inr (Or.inr (Or.inr (Or.inr (Or.inr (Or.inr (Or.inr (Or.inr (Or.inr (Or.inr (Or.inr (Or.inl ⟨by omega, h.2⟩))))))))))))
            · exact (Or.inr (Or.inr (Or.inr (Or.inr (Or.inr (Or.inr (Or.inr (Or.inr (Or.inr (Or.inr (Or.inr (Or.inr (Or.inl ⟨by omega, h.2⟩)))))))))))))
            · exact (Or.inr (Or.inr (Or.inr (Or.inr (Or.inr (Or.inr (Or.inr (Or.inr (Or.inr (Or.inr (Or.inr (Or.inr (Or.inr (Or.inl ⟨by omega, h.2⟩))))))))))))))) (fun k j h => absurd h id))
        obtain ⟨v_32, e8, h⟩ := bnd_elim h
        cases h
        exact F7
set_option maxHeartbeats 1000000 in
theorem fr_j_X3_accepts_111 {fu : Nat} {k1 : Nat} {M : Mem} {rr : Int32} {M2 : Mem} (h : j_X3_accepts_111 fu k1 M = some (rr, M2)) : Fr (w_X3_accepts k1) (v_X3_accepts k1) M M2 := by
  unfold j_X3_accepts_111 at h
  have F0 : Fr (w_X3_accepts k1) (v_X3_accepts k1) M M := Fr.rf
  cases h
  exact F0
set_option maxHeartbeats 1000000 in
theorem fr_m_X3_accepts {fu : Nat} {k1 : Nat} {M : Mem} {a2 : Int32} {rr : Int32} {M2 : Mem} (h : m_X3_accepts fu k1 M a2 = some (rr, M2)) : Fr (w_X3_accepts k1) (v_X3_accepts k1) M M2 := by
  unfold m_X3_accepts at h
  have F0 : Fr (w_X3_accepts k1) (v_X3_accepts k1) M M := Fr.rf
  obtain ⟨hb1, h⟩ := chk_elim h
  obtain ⟨M_2, e2, h⟩ := bnd_elim h
  have F3 : Fr (w_X3_accepts k1) (v_X3_accepts k1) M M_2 := F0.tr (by rw [e2]; exact Fr.cp (fun j => (Or.inr (Or.inr (Or.inr (Or.inr (Or.inr (Or.inr (Or.inr (Or.inr (Or.inr (Or.inr (Or.inr (Or.inr (Or.inr (Or.inr (by omega)))))))))))))))))
  obtain ⟨M_4, e4, h⟩ := bnd_elim h
  have F5 : Fr (w_X3_accepts k1) (v_X3_accepts k1) M M_4 := F3.tr (by rw [e4]; exact Fr.wr (Or.inr (Or.inr (Or.inr (Or.inr (Or.inr (Or.inr (Or.inr (Or.inr (Or.inr (Or.inr (Or.inl ⟨by omega, by decide⟩))))))))))))
  obtain ⟨M_6, e6, h⟩ := bnd_elim h
  have F7 : Fr (w_X3_accepts k1) (v_X3_accepts k1) M M_6 := F5.tr (by rw [e6]; exact Fr.wr (Or.inr (Or.inr (Or.inr (Or.inr (Or.inr (Or.inr (Or.inr (Or.inr (Or.inr (Or.inr (Or.inr (Or.inr (Or.inl ⟨by omega, by decide⟩))))))))))))))
  obtain ⟨M_8, e8, h⟩ := bnd_elim h
  have F9 : Fr (w_X3_accepts k1) (v_X3_accepts k1) M M_8 := F7.tr (by rw [e8]; exact Fr.wr (Or.inl ⟨by omega, by decide⟩))
  obtain ⟨M_10, e10, h⟩ := bnd_elim h
  have F11 : Fr (w_X3_accepts k1) (v_X3_accepts k1) M M_10 := F9.tr (by rw [e10]; exact Fr.wr (Or.inr (Or.inr (Or.inr (Or.inr (Or.inr (Or.inr (Or.inr (Or.inl ⟨by omega, by decide⟩)))))))))
  obtain ⟨M_12, e12, h⟩ := bnd_elim h
  have F13 : Fr (w_X3_accepts k1) (v_X3_accepts k1) M M_12 := F11.tr (by rw [e12]; exact Fr.wr (Or.inr (Or.inr (Or.inr (Or.inr (Or.inr (Or.inr (Or.inr (Or.inr (Or.inl ⟨by omega, by decide⟩))))))))))
  obtain ⟨M_14, e14, h⟩ := bnd_elim h
  have F15 : Fr (w_X3_accepts k1) (v_X3_accepts k1) M M_14 := F13.tr (by rw [e14]; exact Fr.wr (Or.inr (Or.inr (Or.inr (Or.inr (Or.inr (Or.inr (Or.inr (Or.inr (Or.inr (Or.inl ⟨by omega, by decide⟩)))))))))))
  obtain ⟨M_16, e16, h⟩ := bnd_elim h
  have F17 : Fr (w_X3_accepts k1) (v_X3_accepts k1) M M_16 := F15.tr (by rw [e16]; exact Fr.wr (Or.inr (Or.inr (Or.inl ⟨by omega, by decide⟩))))
  obtain ⟨M_18, e18, h⟩ := bnd_elim h
  have F19 : Fr (w_X3_accepts k1) (v_X3_accepts k1) M M_18 := F17.tr (by rw [e18]; exact Fr.wr (Or.inr (Or.inr (Or.inr (Or.inr (Or.inr (Or.inl ⟨by omega, by decide⟩)))))))
  obtain ⟨M_20, e20, h⟩ := bnd_elim h
  have F21 : Fr (w_X3_accepts k1) (v_X3_accepts k1) M M_20 := F19.tr (by rw [e20]; exact Fr.wr (Or.inr (Or.inr (Or.inr (Or.inr (Or.inr (Or.inr (Or.inl ⟨by omega, by decide⟩))))))))
  obtain ⟨M_23, hr22, h⟩ := bind_elim h
  have F23 : Fr (w_X3_accepts k1) (v_X3_accepts k1) M M_23 := F21.tr ((fr_m_X3_advance hr22).mono (fun k j h => by
      unfold w_X3_advance at h
      rcases h with h | h | h | h
      · exact (Or.inr (Or.inl ⟨by omega, h.2⟩))
      · exact (Or.inr (Or.inr (Or.inr (Or.inr (Or.inr (Or.inr (Or.inr (Or.inr (Or.inr (Or.inr (Or.inr (Or.inl ⟨by omega, h.2⟩))))))))))))
      · exact (Or.inr (Or.inr (Or.inr (Or.inr (Or.inr (Or.inr (Or.inr (Or.inr (Or.inr (Or.inr (Or.inr (Or.inr (Or.inl ⟨by omega, h.2⟩)))))))))))))
      · exact (Or.inr (Or.inr (Or.inr (Or.inr (Or.inr (Or.inr (Or.inr (Or.inr (Or.inr (Or.inr (Or.inr (Or.inr (Or.inr (Or.inl ⟨by omega, h.2⟩))))))))))))))) (fun k j h => absurd h id))
  obtain ⟨x24, hr25, h⟩ := bind_elim h
  have F26 := F23.tr (lp_fr (w := (w_X3_accepts k1)) (v := (v_X3_accepts k1)) (fun x : Int32 × Mem => x.2) (Sum.elim (fun x : Mem => x) (fun x : Mem => x)) (fun s o hq => fr_b_X3_accepts_62 hq) _ _ _ hr25)
  rcases x24 with y27 | y27
  · replace h := unS_l h
    obtain ⟨M_36, rfl⟩ : ∃ z, z = y27 := ⟨_, rfl⟩
    replace h := un1_e h
    have F28 : Fr (w_X3_accepts k1) (v_X3_accepts k1) M M_36 := F26
    cases h
    exact F28
  · replace h := unS_r h
    obtain ⟨M_37, rfl⟩ : ∃ z, z = y27 := ⟨_, rfl⟩
    replace h := un1_e h
    have F29 : Fr (w_X3_accepts k1) (v_X3_accepts k1) M M_37 := F26
    by_cases hc30 : (rd M_37 111 11) = 0
    · rw [if_pos hc30] at h
      exact F29.tr (fr_j_X3_accepts_111 h)
    · rw [if_neg hc30] at h
      obtain ⟨⟨r_40, M_41⟩, hr31, h⟩ := bind_elim h
      replace h := un2_e h
      have F32 : Fr (w_X3_accepts k1) (v_X3_accepts k1) M M_41 := F29.tr ((fr_m_X3_refuse hr31).mono (fun k j h => by
          unfold w_X3_refuse at h
          rcases h with h | h
          · exact (Or.inr (Or.inr (Or.inr (Or.inr (Or.inr (Or.inr (Or.inr (Or.inr (Or.inl ⟨by omega, h.2⟩)))))))))
          · exact (Or.inr (Or.inr (Or.inr (Or.inr (Or.inr (Or.inr (Or.inr (Or.inr (Or.inr (Or.inl ⟨by omega, h.2⟩))))))))))) (fun k j h => absurd h id))
      by_cases hc33 : r_40 = 0
      · rw [if_pos hc33] at h
        cases h
        exact F32
      · rw [if_neg hc33] at h
        exact F32.tr (fr_j_X3_accepts_111 h)
set_option maxHeartbeats 1000000 in
theorem fr_m_X2_take {l0 : Nat} {k1 : Nat} {M : Mem} {a2 : Int32} {M2 : Mem} (h : m_X2_take l0 k1 M a2 = some M2) : Fr (w_X2_take l0 k1) (v_X2_take l0 k1) M M2 := by
  unfold m_X2_take at h
  have F0 : Fr (w_X2_take l0 k1) (v_X2_take l0 k1) M M := Fr.rf
  obtain ⟨hb1, h⟩ := chk_elim h
  obtain ⟨M_2, e2, h⟩ := bnd_elim h
  have F3 : Fr (w_X2_take l0 k1) (v_X2_take l0 k1) M M_2 := F0.tr (by rw [e2]; exact Fr.cp (fun j => (Or.inr (by omega))))
  obtain ⟨M_4, e4, h⟩ := bnd_elim h
  have F5 : Fr (w_X2_take l0 k1) (v_X2_take l0 k1) M M_4 := F3.tr (by rw [e4]; exact Fr.wr (Or.inl ⟨by omega, by decide⟩))
  cases h
  exact F5
set_option maxHeartbeats 1000000 in
theorem fr_m_X5_text {fu : Nat} {M : Mem} {a1 : Int32} {rr : Int32} {M2 : Mem} (h : m_X5_text fu M a1 = some (rr, M2)) : Fr (w_X5_text) (v_X5_text) M M2 := by
  unfold m_X5_text at h
  have F0 : Fr (w_X5_text) (v_X5_text) M M := Fr.rf
  obtain ⟨v_1, e1, h⟩ := bnd_elim h
  obtain ⟨M_3, e2, h⟩ := bnd_elim h
  have F3 : Fr (w_X5_text) (v_X5_text) M M_3 := F0.tr (by rw [e2]; exact Fr.wr (Or.inr (Or.inr (Or.inr (Or.inr (Or.inr (Or.inr (Or.inr (Or.inr (Or.inr (Or.inr (Or.inr (Or.inr (Or.inr (Or.inl ⟨by omega, by decide⟩)))))))))))))))
  obtain ⟨M_5, e4, h⟩ := bnd_elim h
  have F5 : Fr (w_X5_text) (v_X5_text) M M_5 := F3.tr (by rw [e4]; exact Fr.wr (Or.inr (Or.inr (Or.inr (Or.inr (Or.inr (Or.inr (Or.inr (Or.inr (Or.inr (Or.inr (Or.inr (Or.inr (Or.inr (Or.inr (Or.inr (Or.inl ⟨by omega, by decide⟩)))))))))))))))))
  obtain ⟨M_7, e6, h⟩ := bnd_elim h
  have F7 : Fr (w_X5_text) (v_X5_text) M M_7 := F5.tr (by rw [e6]; exact Fr.wr (Or.inr (Or.inr (Or.inr (Or.inr (Or.inr (Or.inr (Or.inr (Or.inr (Or.inr (Or.inr (Or.inr (Or.inr (Or.inr (Or.inr (Or.inr (Or.inr (Or.inr (Or.inl ⟨by omega, by decide⟩)))))))))))))))))))
  by_cases hc8 : a1 < 0
  · rw [if_pos hc8] at h
    cases h
    exact F7
  · rw [if_neg hc8] at h
    by_cases hc9 : a1 < 4
    · rw [if_pos hc9] at h
      obtain ⟨⟨r_12, M_13⟩, hr10, h⟩ := bind_elim h
      replace h := un2_e h
      have F11 : Fr (w_X5_text) (v_X5_text) M M_13 := F7.tr ((fr_m_X3_accepts hr10).mono (fun k j h => by
          unfold w_X3_accepts at h
          rcases h with h | h | h | h | h | h | h | h | h | h | h | h | h | h | h
          · exact (Or.inr (Or.inl ⟨by omega, h.2⟩))
          · exact (Or.inr (Or.inr (Or.inl ⟨by omega, h.2⟩)))
          · exact (Or.inr (Or.inr (Or.inr (Or.inl ⟨by omega, h.2⟩))))
          · exact (Or.inr (Or.inr (Or.inr (Or.inr (Or.inl ⟨by omega, h.2⟩)))))
          · exact (Or.inr (Or.inr (Or.inr (Or.inr (Or.inr (Or.inl ⟨by omega, h.2⟩))))))
          · exact (Or.inr (Or.inr (Or.inr (Or.inr (Or.inr (Or.inr (Or.inl ⟨by omega, h.2⟩)))))))
          · exact (Or.inr (Or.inr (Or.inr (Or.inr (Or.inr (Or.inr (Or.inr (Or.inl ⟨by omega, h.2⟩))))))))
          · exact (Or.inr (Or.inr (Or.inr (Or.inr (Or.inr (Or.inr (Or.inr (Or.inr (Or.inl ⟨by omega, h.2⟩)))))))))
          · exact (Or.inr (Or.inr (Or.inr (Or.inr (Or.inr (Or.inr (Or.inr (Or.inr (Or.inr (Or.inl ⟨by omega, h.2⟩))))))))))
          · exact (Or.inr (Or.inr (Or.inr (Or.inr (Or.inr (Or.inr (Or.inr (Or.inr (Or.inr (Or.inr (Or.inl ⟨by omega, h.2⟩)))))))))))
          · exact (Or.inr (Or.inr (Or.inr (Or.inr (Or.inr (Or.inr (Or.inr (Or.inr (Or.inr (Or.inr (Or.inr (Or.inl ⟨by omega, h.2⟩))))))))))))
          · exact (Or.inr (Or.inr (Or.inr (Or.inr (Or.inr (Or.inr (Or.inr (Or.inr (Or.inr (Or.inr (Or.inr (Or.inr (Or.inl ⟨by omega, h.2⟩)))))))))))))
          · exact (Or.inr (Or.inr (Or.inr (Or.inr (Or.inr (Or.inr (Or.inr (Or.inr (Or.inr (Or.inr (Or.inr (Or.inr (Or.inr (Or.inr (Or.inl ⟨by omega, h.2⟩)))))))))))))))
          · exact (Or.inr (Or.inr (Or.inr (Or.inr (Or.inr (Or.inr (Or.inr (Or.inr (Or.inr (Or.inr (Or.inr (Or.inr (Or.inr (Or.inr (Or.inr (Or.inr (Or.inl ⟨by omega, h.2⟩)))))))))))))))))
          · exact (Or.inr (Or.inr (Or.inr (Or.inr (Or.inr (Or.inr (Or.inr (Or.inr (Or.inr (Or.inr (Or.inr (Or.inr (Or.inr (Or.inr (Or.inr (Or.inr (Or.inr (Or.inr (Or.inr (by omega))))))))))))))))))))) (fun k j h => absurd h id))
      by_cases hc12 : r_12 = 0
      · rw [if_pos hc12] at h
        obtain ⟨M_18, e13, h⟩ := bnd_elim h
        have F14 : Fr (w_X5_text) (v_X5_text) M M_18 := F11.tr (by rw [e13]; exact Fr.wr (Or.inr (Or.inr (Or.inr (Or.inr (Or.inr (Or.inr (Or.inr (Or.inr (Or.inr (Or.inr (Or.inr (Or.inr (Or.inr (Or.inr (Or.inr (Or.inl ⟨by omega, by decide⟩)))))))))))))))))
        obtain ⟨M_20, e15, h⟩ := bnd_elim h
        have F16 : Fr (w_X5_text) (v_X5_text) M M_20 := F14.tr (by rw [e15]; exact Fr.wr (Or.inr (Or.inr (Or.inr (Or.inr (Or.inr (Or.inr (Or.inr (Or.inr (Or.inr (Or.inr (Or.inr (Or.inr (Or.inr (Or.inr (Or.inr (Or.inr (Or.inr (Or.inl ⟨by omega, by decide⟩)))))))))))))))))))
        cases h
        exact F16
      · rw [if_neg hc12] at h
        obtain ⟨hb17, h⟩ := chk_elim h
        have q18 := inb_lt hb17
        obtain ⟨M_17, hr19, h⟩ := bind_elim h
        have F20 : Fr (w_X5_text) (v_X5_text) M M_17 := F11.tr ((fr_m_X2_take hr19).mono (fun k j h => by
            unfold w_X2_take at h
            rcases h with h | h
            · exact (Or.inl ⟨by omega, h.2⟩)
            · exact (Or.inr (Or.inr (Or.inr (Or.inr (Or.inr (Or.inr (Or.inr (Or.inr (Or.inr (Or.inr (Or.inr (Or.inr (Or.inr (Or.inr (Or.inr (Or.inr (Or.inr (Or.inr (Or.inl (by omega))))))))))))))))))))) (fun k j h => absurd h id))
        cases h
        exact F20
    · rw [if_neg hc9] at h
      cases h
      exact F7
set_option maxHeartbeats 1000000 in
theorem fr_j_X4_negate_27 {r0 : Nat} {M : Mem} {t1 : Int32} {t2 : Int32} {M2 : Mem} (h : j_X4_negate_27 r0 M t1 t2 = some M2) : Fr (w_X4_negate r0) (v_X4_negate r0) M M2 := by
  unfold j_X4_negate_27 at h
  have F0 : Fr (w_X4_negate r0) (v_X4_negate r0) M M := Fr.rf
  obtain ⟨hb1, h⟩ := chk_elim h
  have q2 := inb_lt hb1
  obtain ⟨M_5, e3, h⟩ := bnd_elim h
  have F4 : Fr (w_X4_negate r0) (v_X4_negate r0) M M_5 := F0.tr (by rw [e3]; exact Fr.wr (by unfold w_X4_negate; exact (by omega)))
  cases h
  exact F4
set_option maxHeartbeats 1000000 in
theorem fr_m_X4_negate {r0 : Nat} {M : Mem} {a1 : Int32} {M2 : Mem} (h : m_X4_negate r0 M a1 = some M2) : Fr (w_X4_negate r0) (v_X4_negate r0) M M2 := by
  unfold m_X4_negate at h
  have F0 : Fr (w_X4_negate r0) (v_X4_negate r0) M M := Fr.rf
  by_cases hc1 : a1 ≤ 0
  · rw [if_pos hc1] at h
    cases h
    exact F0
  · rw [if_neg hc1] at h
    obtain ⟨hb2, h⟩ := chk_elim h
    have q3 := inb_lt hb2
    by_cases hc4 : (rd M (r0 + 7) (ix (a1 - 1))) = 0
    · rw [if_pos hc4] at h
      exact F0.tr (fr_j_X4_negate_27 h)
    · rw [if_neg hc4] at h
      exact F0.tr (fr_j_X4_negate_27 h)
set_option maxHeartbeats 1000000 in
theorem fr_m_X4_join {r0 : Nat} {M : Mem} {a1 : Int32} {a2 : Int32} {rr : Int32} {M2 : Mem} (h : m_X4_join r0 M a1 a2 = some (rr, M2)) : Fr (w_X4_join r0) (v_X4_join r0) M M2 := by
  unfold m_X4_join at h
  have F0 : Fr (w_X4_join r0) (v_X4_join r0) M M := Fr.rf
  by_cases hc1 : 2 ≤ a2
  · rw [if_pos hc1] at h
    obtain ⟨hb2, h⟩ := chk_elim h
    have q3 := inb_lt hb2
    obtain ⟨hb4, h⟩ := chk_elim h
    have q5 := inb_lt hb4
    obtain ⟨r_5, hr6, h⟩ := bind_elim h
    obtain ⟨M_6, e7, h⟩ := bnd_elim h
    have F8 : Fr (w_X4_join r0) (v_X4_join r0) M M_6 := F0.tr (by rw [e7]; exact Fr.wr (by unfold w_X4_join; exact (by omega)))
    cases h
    exact F8
  · rw [if_neg hc1] at h
    cases h
    exact F0
set_option maxHeartbeats 1000000 in
theorem fr_j_X4_does_162i {fu : Nat} {r0 : Nat} {M : Mem} {s1 : Int32} {s2 : Nat} {s3 : Int32} {s4 : Int32} {t1 : Int32} {t2 : Int32} (g_s2 : rg ((r0 + 28 ≤ s2 ∧ s2 < r0 + 32))) {o : (Int32 × Int32 × Mem) ⊕ ((Int32 × Mem) ⊕ (Mem))} (h : j_X4_does_162i fu r0 M s1 s2 s3 s4 t1 t2 = some o) : Fr (w_X4_does r0) (v_X4_does r0) M ((Sum.elim (fun x : Int32 × Int32 × Mem => x.2.2) (Sum.elim (fun x : Int32 × Mem => x.2) (fun x : Mem => x))) o) := by
  simp only [rg] at g_s2
  unfold j_X4_does_162i at h
  have F0 : Fr (w_X4_does r0) (v_X4_does r0) M M := Fr.rf
  obtain ⟨hb1, h⟩ := chk_elim h
  have q2 := inb_lt hb1
  obtain ⟨M_16, e3, h⟩ := bnd_elim h
  have F4 : Fr (w_X4_does r0) (v_X4_does r0) M M_16 := F0.tr (by rw [e3]; exact Fr.wr (by unfold w_X4_does; exact (by omega)))
  obtain ⟨v_18, e5, h⟩ := bnd_elim h
  obtain ⟨v_20, e6, h⟩ := bnd_elim h
  cases h
  exact F4
set_option maxHeartbeats 1000000 in
theorem fr_j_X4_does_80i {fu : Nat} {r0 : Nat} {M : Mem} {s1 : Int32} {s2 : Nat} {s4 : Int32} (g_s2 : rg ((r0 + 28 ≤ s2 ∧ s2 < r0 + 32))) {o : (Int32 × Int32 × Mem) ⊕ ((Int32 × Mem) ⊕ (Mem))} (h : j_X4_does_80i fu r0 M s1 s2 s4 = some o) : Fr (w_X4_does r0) (v_X4_does r0) M ((Sum.elim (fun x : Int32 × Int32 × Mem => x.2.2) (Sum.elim (fun x : Int32 × Mem => x.2) (fun x : Mem => x))) o) := by
  simp only [rg] at g_s2
  unfold j_X4_does_80i at h
  have F0 : Fr (w_X4_does r0) (v_X4_does r0) M M := Fr.rf
  obtain ⟨v_34, e1, h⟩ := bnd_elim h
  cases h
  exact F0
set_option maxHeartbeats 1000000 in
theorem fr_b_X4_does_32 {fu : Nat} {r0 : Nat} {s1 : Int32} {s2 : Nat} (g_s2 : rg ((r0 + 28 ≤ s2 ∧ s2 < r0 + 32))) {s0 : Int32 × Int32 × Mem} {o : (Int32 × Int32 × Mem) ⊕ ((Int32 × Mem) ⊕ (Mem))} (h : b_X4_does_32 fu r0 s1 s2 s0 = some o) : Fr (w_X4_does r0) (v_X4_does r0) ((fun x : Int32 × Int32 × Mem => x.2.2) s0) (Sum.elim (fun x : Int32 × Int32 × Mem => x.2.2) (Sum.elim (fun x : Int32 × Mem => x.2) (fun x : Mem => x)) o) := by
  simp only [rg] at g_s2
  obtain ⟨c3, c4, M⟩ := s0
  unfold b_X4_does_32 at h
  replace h := un3_e h
  have F0 : Fr (w_X4_does r0) (v_X4_does r0) M M := Fr.rf
  by_cases hc1 : (rd M s2 1) ≤ c4
  · rw [if_pos hc1] at h
    cases h
    exact F0
  · rw [if_neg hc1] at h
    obtain ⟨hb2, h⟩ := chk_elim h
    have q3 := inb_lt hb2
    obtain ⟨v_6, e4, h⟩ := bnd_elim h
    by_cases hc5 : v_6 < 10400
    · rw [if_pos hc5] at h
      by_cases hc6 : v_6 = 10304
      · rw [if_pos hc6] at h
        obtain ⟨M_30, hr7, h⟩ := bind_elim h
        have F8 : Fr (w_X4_does r0) (v_X4_does r0) M M_30 := F0.tr ((fr_m_X4_negate hr7).mono (fun k j h => by
            unfold w_X4_negate at h
            exact (by unfold w_X4_does; exact (by omega))) (fun k j h => absurd h id))
        obtain ⟨v_31, e9, h⟩ := bnd_elim h
        cases h
        exact F8
      · rw [if_neg hc6] at h
        by_cases hc10 : v_6 < 10100
        · rw [if_pos hc10] at h
          by_cases hc11 : (Int32.ofNat 400) ≤ c3
          · rw [if_pos hc11] at h
            obtain ⟨v_12, e12, h⟩ := bnd_elim h
            cases h
            exact F0
          · rw [if_neg hc11] at h
            by_cases hc13 : v_6 < 10000
            · rw [if_pos hc13] at h
              exact F0.tr (fr_j_X4_does_162i (by simp only [rg]; omega) h)
            · rw [if_neg hc13] at h
              obtain ⟨r_23, hr14, h⟩ := bind_elim h
              exact F0.tr (fr_j_X4_does_162i (by simp only [rg]; omega) h)
        · rw [if_neg hc10] at h
          obtain ⟨⟨r_25, M_26⟩, hr15, h⟩ := bind_elim h
          replace h := un2_e h
          have F16 : Fr (w_X4_does r0) (v_X4_does r0) M M_26 := F0.tr ((fr_m_X4_join hr15).mono (fun k j h => by
              unfold w_X4_join at h
              exact (by unfold w_X4_does; exact (by omega))) (fun k j h => absurd h id))
          obtain ⟨v_27, e17, h⟩ := bnd_elim h
          cases h
          exact F16
    · rw [if_neg hc5] at h
      by_cases hc18 : c3 ≤ 0
      · rw [if_pos hc18] at h
        exact F0.tr (fr_j_X4_does_80i (by simp only [rg]; omega) h)
      · rw [if_neg hc18] at h
        obtain ⟨hb19, h⟩ := chk_elim h
        have q20 := inb_lt hb19
        by_cases hc21 : (rd M (r0 + 7) (ix (c3 - 1))) = 0
        · rw [if_pos hc21] at h
          exact F0.tr (fr_j_X4_does_80i (by simp only [rg]; omega) h)
        · rw [if_neg hc21] at h
          cases h
          exact F0
set_option maxHeartbeats 1000000 in
theorem fr_m_X4_does {fu : Nat} {r0 : Nat} {M : Mem} {a1 : Int32} {rr : Int32} {M2 : Mem} (h : m_X4_does fu r0 M a1 = some (rr, M2)) : Fr (w_X4_does r0) (v_X4_does r0) M M2 := by
  unfold m_X4_does at h
  have F0 : Fr (w_X4_does r0) (v_X4_does r0) M M := Fr.rf
  obtain ⟨hb1, h⟩ := chk_elim h
  have q2 := inb_lt hb1
  by_cases hc3 : (rd M (r0 + 8 + ix a1) (ix 0)) = 0
  · rw [if_pos hc3] at h
    cases h
    exact F0
  · rw [if_neg hc3] at h
    obtain ⟨hb4, h⟩ := chk_elim h
    have q5 := inb_lt hb4
    obtain ⟨x6, hr7, h⟩ := bind_elim h
    have F8 := F0.tr (lp_fr (w := (w_X4_does r0)) (v := (v_X4_does r0)) (fun x : Int32 × Int32 × Mem => x.2.2) (Sum.elim (fun x : Int32 × Mem => x.2) (fun x : Mem => x)) (fun s o hq => fr_b_X4_does_32 (by simp only [rg]; omega) hq) _ _ _ hr7)
    rcases x6 with y9 | y9
    · replace h := unS_l h
      obtain ⟨v_40, M_41⟩ := y9
      replace h := un2_e h
      have F10 : Fr (w_X4_does r0) (v_X4_does r0) M M_41 := F8
      cases h
      exact F10
    · replace h := unS_r h
      obtain ⟨M_42, rfl⟩ : ∃ z, z = y9 := ⟨_, rfl⟩
      replace h := un1_e h
      have F11 : Fr (w_X4_does r0) (v_X4_does r0) M M_42 := F8
      cases h
      exact F11
set_option maxHeartbeats 1000000 in
theorem fr_m_X5_of {fu : Nat} {M : Mem} {a1 : Int32} {a2 : Int32} {rr : Int32} {M2 : Mem} (h : m_X5_of fu M a1 a2 = some (rr, M2)) : Fr (w_X5_of) (v_X5_of) M M2 := by
  unfold m_X5_of at h
  have F0 : Fr (w_X5_of) (v_X5_of) M M := Fr.rf
  obtain ⟨r_2, hr1, h⟩ := bind_elim h
  by_cases hc2 : r_2 = 0
  · rw [if_pos hc2] at h
    cases h
    exact F0
  · rw [if_neg hc2] at h
    by_cases hc3 : a2 < 0
    · rw [if_pos hc3] at h
      cases h
      exact F0
    · rw [if_neg hc3] at h
      by_cases hc4 : a2 ≤ 8
      · rw [if_pos hc4] at h
        by_cases hc5 : a2 = 4
        · rw [if_pos hc5] at h
          obtain ⟨r_8, hr6, h⟩ := bind_elim h
          cases h
          exact F0
        · rw [if_neg hc5] at h
          by_cases hc7 : a2 = 8
          · rw [if_pos hc7] at h
            obtain ⟨⟨r_11, M_12⟩, hr8, h⟩ := bind_elim h
            replace h := un2_e h
            have F9 : Fr (w_X5_of) (v_X5_of) M M_12 := F0.tr ((fr_m_X4_does hr8).mono (fun k j h => by
                unfold w_X4_does at h
                exact (by unfold w_X5_of; exact (by omega))) (fun k j h => absurd h id))
            cases h
            exact F9
          · rw [if_neg hc7] at h
            obtain ⟨hb10, h⟩ := chk_elim h
            have q11 := inb_lt hb10
            obtain ⟨hb12, h⟩ := chk_elim h
            have q13 := inb_lt hb12
            cases h
            exact F0
      · rw [if_neg hc4] at h
        cases h
        exact F0
set_option maxHeartbeats 1000000 in
theorem fr_m_X4_draw {r0 : Nat} {M : Mem} {rr : Int32} {M2 : Mem} (h : m_X4_draw r0 M = some (rr, M2)) : Fr (w_X4_draw r0) (v_X4_draw r0) M M2 := by
  unfold m_X4_draw at h
  have F0 : Fr (w_X4_draw r0) (v_X4_draw r0) M M := Fr.rf
  obtain ⟨M_1, e1, h⟩ := bnd_elim h
  have F2 : Fr (w_X4_draw r0) (v_X4_draw r0) M M_1 := F0.tr (by rw [e1]; exact Fr.wr (by unfold w_X4_draw; exact ⟨by omega, by decide⟩))
  cases h
  exact F2
set_option maxHeartbeats 1000000 in
theorem fr_m_X4_stopsOne {r0 : Nat} {M : Mem} {a1 : Int32} {rr : Int32} {M2 : Mem} (h : m_X4_stopsOne r0 M a1 = some (rr, M2)) : Fr (w_X4_stopsOne r0) (v_X4_stopsOne r0) M M2 := by
  unfold m_X4_stopsOne at h
  have F0 : Fr (w_X4_stopsOne r0) (v_X4_stopsOne r0) M M := Fr.rf
  obtain ⟨hb1, h⟩ := chk_elim h
  have q2 := inb_lt hb1
  by_cases hc3 : (rd M (r0 + 5) (ix a1)) = 1
  · rw [if_pos hc3] at h
    obtain ⟨⟨r_9, M_10⟩, hr4, h⟩ := bind_elim h
    replace h := un2_e h
    have F5 : Fr (w_X4_stopsOne r0) (v_X4_stopsOne r0) M M_10 := F0.tr ((fr_m_X4_draw hr4).mono (fun k j h => by
        unfold w_X4_draw at h
        exact (by unfold w_X4_stopsOne; exact ⟨by omega, h.2⟩)) (fun k j h => absurd h id))
    by_cases hc6 : (rd M_10 (r0 + 1) (ix 7)) ≤ r_9
    · rw [if_pos hc6] at h
      cases h
      exact F5
    · rw [if_neg hc6] at h
      cases h
      exact F5
  · rw [if_neg hc3] at h
    by_cases hc7 : (rd M (r0 + 8 + ix a1) (ix 3)) = 0
    · rw [if_pos hc7] at h
      cases h
      exact F0
    · rw [if_neg hc7] at h
      obtain ⟨⟨r_5, M_6⟩, hr8, h⟩ := bind_elim h
      replace h := un2_e h
      have F9 : Fr (w_X4_stopsOne r0) (v_X4_stopsOne r0) M M_6 := F0.tr ((fr_m_X4_draw hr8).mono (fun k j h => by
          unfold w_X4_draw at h
          exact (by unfold w_X4_stopsOne; exact ⟨by omega, h.2⟩)) (fun k j h => absurd h id))
      by_cases hc10 : (rd M_6 (r0 + 1) (ix 8)) ≤ r_5
      · rw [if_pos hc10] at h
        cases h
        exact F9
      · rw [if_neg hc10] at h
        cases h
        exact F9
set_option maxHeartbeats 1000000 in
theorem fr_j_X4_creep_138 {r0 : Nat} {M : Mem} {s1 : Int32} {s2 : Int32} {s3 : Nat} {s4 : Nat} {t0 : Nat} {t1 : Int32} {t2 : Int32} (g_s3 : rg ((r0 + 18 ≤ s3 ∧ s3 < r0 + 28))) (g_s4 : rg ((r0 + 8 ≤ s4 ∧ s4 < r0 + 18))) (g_t0 : rg ((r0 + 18 ≤ t0 ∧ t0 < r0 + 28))) {M2 : Mem} (h : j_X4_creep_138 r0 M s1 s2 s3 s4 t0 t1 t2 = some M2) : Fr (w_X4_creep r0) (v_X4_creep r0) M M2 := by
  simp only [rg] at g_s3
  simp only [rg] at g_s4
  simp only [rg] at g_t0
  unfold j_X4_creep_138 at h
  have F0 : Fr (w_X4_creep r0) (v_X4_creep r0) M M := Fr.rf
  obtain ⟨hb1, h⟩ := chk_elim h
  have q2 := inb_lt hb1
  obtain ⟨M_19, e3, h⟩ := bnd_elim h
  have F4 : Fr (w_X4_creep r0) (v_X4_creep r0) M M_19 := F0.tr (by rw [e3]; exact Fr.wr (Or.inr (Or.inr (Or.inr (Or.inr (Or.inr (by omega)))))))
  obtain ⟨M_21, e5, h⟩ := bnd_elim h
  have F6 : Fr (w_X4_creep r0) (v_X4_creep r0) M M_21 := F4.tr (by rw [e5]; exact Fr.wr (Or.inr (Or.inr (Or.inr (Or.inr (Or.inr (by omega)))))))
  by_cases hc7 : (rd M_21 s3 (ix 2)) ≤ (rd M_21 s3 (ix 1))
  · rw [if_pos hc7] at h
    cases h
    exact F6
  · rw [if_neg hc7] at h
    obtain ⟨M_24, e8, h⟩ := bnd_elim h
    have F9 : Fr (w_X4_creep r0) (v_X4_creep r0) M M_24 := F6.tr (by rw [e8]; exact Fr.wr (Or.inr (Or.inr (Or.inr (Or.inr (Or.inr (by omega)))))))
    obtain ⟨hb10, h⟩ := chk_elim h
    have q11 := inb_lt hb10
    obtain ⟨v_27, e12, h⟩ := bnd_elim h
    obtain ⟨M_29, e13, h⟩ := bnd_elim h
    have F14 : Fr (w_X4_creep r0) (v_X4_creep r0) M M_29 := F9.tr (by rw [e13]; exact Fr.wr (Or.inl ⟨by omega, by decide⟩))
    obtain ⟨M_31, e15, h⟩ := bnd_elim h
    have F16 : Fr (w_X4_creep r0) (v_X4_creep r0) M M_31 := F14.tr (by rw [e15]; exact Fr.wr (Or.inl ⟨by omega, by decide⟩))
    obtain ⟨M_33, e17, h⟩ := bnd_elim h
    have F18 : Fr (w_X4_creep r0) (v_X4_creep r0) M M_33 := F16.tr (by rw [e17]; exact Fr.wr (Or.inr (Or.inr (Or.inl ⟨by omega, by decide⟩))))
    obtain ⟨M_35, e19, h⟩ := bnd_elim h
    have F20 : Fr (w_X4_creep r0) (v_X4_creep r0) M M_35 := F18.tr (by rw [e19]; exact Fr.wr (Or.inr (Or.inr (Or.inr (Or.inr (Or.inl (by omega)))))))
    cases h
    exact F20
set_option maxHeartbeats 1000000 in
theorem fr_j_X4_creep_43 {r0 : Nat} {M : Mem} {s1 : Int32} {s2 : Int32} {t1 : Int32} {M2 : Mem} (h : j_X4_creep_43 r0 M s1 s2 t1 = some M2) : Fr (w_X4_creep r0) (v_X4_creep r0) M M2 := by
  unfold j_X4_creep_43 at h
  have F0 : Fr (w_X4_creep r0) (v_X4_creep r0) M M := Fr.rf
  obtain ⟨hb1, h⟩ := chk_elim h
  have q2 := inb_lt hb1
  obtain ⟨hb3, h⟩ := chk_elim h
  have q4 := inb_lt hb3
  by_cases hc5 : (rd M (r0 + 18 + ix t1) (ix 0)) = 0
  · rw [if_pos hc5] at h
    by_cases hc6 : (rd M (r0 + 1) (ix 9)) = 0
    · rw [if_pos hc6] at h
      cases h
      exact F0
    · rw [if_neg hc6] at h
      obtain ⟨hb7, h⟩ := chk_elim h
      have q8 := inb_lt hb7
      by_cases hc9 : (rd M (r0 + 8 + ix s2) (ix 0)) = 0
      · rw [if_pos hc9] at h
        cases h
        exact F0
      · rw [if_neg hc9] at h
        obtain ⟨⟨r_14, M_15⟩, hr10, h⟩ := bind_elim h
        replace h := un2_e h
        have F11 : Fr (w_X4_creep r0) (v_X4_creep r0) M M_15 := F0.tr ((fr_m_X4_stopsOne hr10).mono (fun k j h => by
            unfold w_X4_stopsOne at h
            exact (Or.inr (Or.inl ⟨by omega, h.2⟩))) (fun k j h => absurd h id))
        by_cases hc12 : r_14 = 0
        · rw [if_pos hc12] at h
          by_cases hc13 : (rd M_15 (r0 + 18 + ix t1) (ix 3)) = s1
          · rw [if_pos hc13] at h
            exact F11.tr (fr_j_X4_creep_138 (by simp only [rg]; omega) (by simp only [rg]; omega) (by simp only [rg]; omega) h)
          · rw [if_neg hc13] at h
            exact F11.tr (fr_j_X4_creep_138 (by simp only [rg]; omega) (by simp only [rg]; omega) (by simp only [rg]; omega) h)
        · rw [if_neg hc12] at h
          obtain ⟨M_37, e14, h⟩ := bnd_elim h
          have F15 : Fr (w_X4_creep r0) (v_X4_creep r0) M M_37 := F11.tr (by rw [e14]; exact Fr.wr (Or.inr (Or.inr (Or.inr (Or.inl ⟨by omega, by decide⟩)))))
          obtain ⟨M_39, e16, h⟩ := bnd_elim h
          have F17 : Fr (w_X4_creep r0) (v_X4_creep r0) M M_39 := F15.tr (by rw [e16]; exact Fr.wrl (by unfold v_X4_creep; exact (by omega)))
          obtain ⟨M_41, e18, h⟩ := bnd_elim h
          have F19 : Fr (w_X4_creep r0) (v_X4_creep r0) M M_41 := F17.tr (by rw [e18]; exact Fr.wr (Or.inr (Or.inr (Or.inr (Or.inr (Or.inr (by omega)))))))
          cases h
          exact F19
  · rw [if_neg hc5] at h
    cases h
    exact F0
set_option maxHeartbeats 1000000 in
theorem fr_j_X4_creep_23 {r0 : Nat} {M : Mem} {s1 : Int32} {t0 : Int32} {M2 : Mem} (h : j_X4_creep_23 r0 M s1 t0 = some M2) : Fr (w_X4_creep r0) (v_X4_creep r0) M M2 := by
  unfold j_X4_creep_23 at h
  have F0 : Fr (w_X4_creep r0) (v_X4_creep r0) M M := Fr.rf
  obtain ⟨hb1, h⟩ := chk_elim h
  have q2 := inb_lt hb1
  by_cases hc3 : (rd M (r0 + 5) (ix s1)) = 2
  · rw [if_pos hc3] at h
    exact F0.tr (fr_j_X4_creep_43 h)
  · rw [if_neg hc3] at h
    exact F0.tr (fr_j_X4_creep_43 h)
set_option maxHeartbeats 1000000 in
theorem fr_m_X4_creep {r0 : Nat} {M : Mem} {a1 : Int32} {M2 : Mem} (h : m_X4_creep r0 M a1 = some M2) : Fr (w_X4_creep r0) (v_X4_creep r0) M M2 := by
  unfold m_X4_creep at h
  have F0 : Fr (w_X4_creep r0) (v_X4_creep r0) M M := Fr.rf
  obtain ⟨hb1, h⟩ := chk_elim h
  have q2 := inb_lt hb1
  by_cases hc3 : (rd M (r0 + 5) (ix a1)) = 2
  · rw [if_pos hc3] at h
    obtain ⟨r_44, hr4, h⟩ := bind_elim h
    exact F0.tr (fr_j_X4_creep_23 h)
  · rw [if_neg hc3] at h
    obtain ⟨r_4, hr5, h⟩ := bind_elim h
    exact F0.tr (fr_j_X4_creep_23 h)
set_option maxHeartbeats 1000000 in
theorem fr_j_X4_settle_61 {r0 : Nat} {M : Mem} {s2 : Nat} {t0 : Nat} {t1 : Int32} {t2 : Int32} (g_s2 : rg ((r0 + 8 ≤ s2 ∧ s2 < r0 + 18))) (g_t0 : rg ((r0 + 8 ≤ t0 ∧ t0 < r0 + 18))) {M2 : Mem} (h : j_X4_settle_61 r0 M s2 t0 t1 t2 = some M2) : Fr (w_X4_settle r0) (v_X4_settle r0) M M2 := by
  simp only [rg] at g_s2
  simp only [rg] at g_t0
  unfold j_X4_settle_61 at h
  have F0 : Fr (w_X4_settle r0) (v_X4_settle r0) M M := Fr.rf
  obtain ⟨hb1, h⟩ := chk_elim h
  have q2 := inb_lt hb1
  obtain ⟨M_10, e3, h⟩ := bnd_elim h
  have F4 : Fr (w_X4_settle r0) (v_X4_settle r0) M M_10 := F0.tr (by rw [e3]; exact Fr.wr (by unfold w_X4_settle; exact (by omega)))
  by_cases hc5 : (rd M_10 s2 (ix 0)) = 0
  · rw [if_pos hc5] at h
    by_cases hc6 : (rd M_10 s2 (ix 7)) = (-1)
    · rw [if_pos hc6] at h
      obtain ⟨M_14, e7, h⟩ := bnd_elim h
      have F8 : Fr (w_X4_settle r0) (v_X4_settle r0) M M_14 := F4.tr (by rw [e7]; exact Fr.wr (by unfold w_X4_settle; exact (by omega)))
      cases h
      exact F8
    · rw [if_neg hc6] at h
      cases h
      exact F4
  · rw [if_neg hc5] at h
    cases h
    exact F4
set_option maxHeartbeats 1000000 in
theorem fr_m_X4_settle {r0 : Nat} {M : Mem} {a1 : Int32} {M2 : Mem} (h : m_X4_settle r0 M a1 = some M2) : Fr (w_X4_settle r0) (v_X4_settle r0) M M2 := by
  unfold m_X4_settle at h
  have F0 : Fr (w_X4_settle r0) (v_X4_settle r0) M M := Fr.rf
  obtain ⟨hb1, h⟩ := chk_elim h
  have q2 := inb_lt hb1
  obtain ⟨r_3, hr3, h⟩ := bind_elim h
  obtain ⟨r_5, hr4, h⟩ := bind_elim h
  obtain ⟨M_6, e5, h⟩ := bnd_elim h
  have F6 : Fr (w_X4_settle r0) (v_X4_settle r0) M M_6 := F0.tr (by rw [e5]; exact Fr.wrl (by unfold v_X4_settle; exact (by omega)))
  by_cases hc7 : (rd M_6 (r0 + 6) (ix a1)) = 0
  · rw [if_pos hc7] at h
    exact F6.tr (fr_j_X4_settle_61 (by simp only [rg]; omega) (by simp only [rg]; omega) h)
  · rw [if_neg hc7] at h
    exact F6.tr (fr_j_X4_settle_61 (by simp only [rg]; omega) (by simp only [rg]; omega) h)
set_option maxHeartbeats 1000000 in
theorem fr_b_X4_pass_9 {fu : Nat} {r0 : Nat} {s1 : Int32} {s2 : Int32} {s0 : Int32 × Mem} {o : (Int32 × Mem) ⊕ (Mem)} (h : b_X4_pass_9 fu r0 s1 s2 s0 = some o) : Fr (w_X4_pass r0) (v_X4_pass r0) ((fun x : Int32 × Mem => x.2) s0) (Sum.elim (fun x : Int32 × Mem => x.2) (fun x : Mem => x) o) := by
  obtain ⟨c3, M⟩ := s0
  unfold b_X4_pass_9 at h
  replace h := un2_e h
  have F0 : Fr (w_X4_pass r0) (v_X4_pass r0) M M := Fr.rf
  by_cases hc1 : (rd M r0 0) ≤ c3
  · rw [if_pos hc1] at h
    cases h
    exact F0
  · rw [if_neg hc1] at h
    obtain ⟨⟨r_4, M_5⟩, hr2, h⟩ := bind_elim h
    replace h := un2_e h
    have F3 : Fr (w_X4_pass r0) (v_X4_pass r0) M M_5 := F0.tr ((fr_m_X4_does hr2).mono (fun k j h => by
        unfold w_X4_does at h
        exact (Or.inr (Or.inr (Or.inr (by omega))))) (fun k j h => absurd h id))
    obtain ⟨hb4, h⟩ := chk_elim h
    have q5 := inb_lt hb4
    obtain ⟨M_7, e6, h⟩ := bnd_elim h
    have F7 : Fr (w_X4_pass r0) (v_X4_pass r0) M M_7 := F3.tr (by rw [e6]; exact Fr.wr (Or.inr (Or.inr (Or.inr (by omega)))))
    obtain ⟨M_9, e8, h⟩ := bnd_elim h
    have F9 : Fr (w_X4_pass r0) (v_X4_pass r0) M M_9 := F7.tr (by rw [e8]; exact Fr.wr (Or.inr (Or.inr (Or.inr (by omega)))))
    obtain ⟨v_11, e10, h⟩ := bnd_elim h
    cases h
    exact F9
set_option maxHeartbeats 1000000 in
theorem fr_j_X4_pass_71i {fu : Nat} {r0 : Nat} {M : Mem} {s1 : Int32} {s2 : Int32} {s3 : Int32} {o : (Int32 × Mem) ⊕ (Mem)} (h : j_X4_pass_71i fu r0 M s1 s2 s3 = some o) : Fr (w_X4_pass r0) (v_X4_pass r0) M ((Sum.elim (fun x : Int32 × Mem => x.2) (fun x : Mem => x)) o) := by
  unfold j_X4_pass_71i at h
  have F0 : Fr (w_X4_pass r0) (v_X4_pass r0) M M := Fr.rf
  obtain ⟨M_20, hr1, h⟩ := bind_elim h
  have F2 : Fr (w_X4_pass r0) (v_X4_pass r0) M M_20 := F0.tr ((fr_m_X4_creep hr1).mono (fun k j h => by
      unfold w_X4_creep at h
      rcases h with h | h | h | h | h | h
      · exact (Or.inr (Or.inr (Or.inr (by omega))))
      · exact (Or.inl ⟨by omega, h.2⟩)
      · exact (Or.inr (Or.inr (Or.inl ⟨by omega, h.2⟩)))
      · exact (Or.inr (Or.inr (Or.inr (by omega))))
      · exact (Or.inr (Or.inr (Or.inr (by omega))))
      · exact (Or.inr (Or.inr (Or.inr (by omega))))) (fun k j h => by
      unfold v_X4_creep at h
      exact (by unfold v_X4_pass; exact (by omega))))
  obtain ⟨v_21, e3, h⟩ := bnd_elim h
  cases h
  exact F2
set_option maxHeartbeats 1000000 in
theorem fr_b_X4_pass_43 {fu : Nat} {r0 : Nat} {s1 : Int32} {s2 : Int32} {s0 : Int32 × Mem} {o : (Int32 × Mem) ⊕ (Mem)} (h : b_X4_pass_43 fu r0 s1 s2 s0 = some o) : Fr (w_X4_pass r0) (v_X4_pass r0) ((fun x : Int32 × Mem => x.2) s0) (Sum.elim (fun x : Int32 × Mem => x.2) (fun x : Mem => x) o) := by
  obtain ⟨c3, M⟩ := s0
  unfold b_X4_pass_43 at h
  replace h := un2_e h
  have F0 : Fr (w_X4_pass r0) (v_X4_pass r0) M M := Fr.rf
  by_cases hc1 : (rd M r0 0) ≤ c3
  · rw [if_pos hc1] at h
    cases h
    exact F0
  · rw [if_neg hc1] at h
    obtain ⟨hb2, h⟩ := chk_elim h
    have q3 := inb_lt hb2
    by_cases hc4 : (rd M (r0 + 5) (ix c3)) = 2
    · rw [if_pos hc4] at h
      exact F0.tr (fr_j_X4_pass_71i h)
    · rw [if_neg hc4] at h
      by_cases hc5 : (rd M (r0 + 5) (ix c3)) = 3
      · rw [if_pos hc5] at h
        exact F0.tr (fr_j_X4_pass_71i h)
      · rw [if_neg hc5] at h
        obtain ⟨v_24, e6, h⟩ := bnd_elim h
        cases h
        exact F0
set_option maxHeartbeats 1000000 in
theorem fr_b_X4_pass_84 {fu : Nat} {r0 : Nat} {s1 : Int32} {s2 : Int32} {s0 : Int32 × Mem} {o : (Int32 × Mem) ⊕ (Mem)} (h : b_X4_pass_84 fu r0 s1 s2 s0 = some o) : Fr (w_X4_pass r0) (v_X4_pass r0) ((fun x : Int32 × Mem => x.2) s0) (Sum.elim (fun x : Int32 × Mem => x.2) (fun x : Mem => x) o) := by
  obtain ⟨c3, M⟩ := s0
  unfold b_X4_pass_84 at h
  replace h := un2_e h
  have F0 : Fr (w_X4_pass r0) (v_X4_pass r0) M M := Fr.rf
  by_cases hc1 : (rd M r0 0) ≤ c3
  · rw [if_pos hc1] at h
    cases h
    exact F0
  · rw [if_neg hc1] at h
    obtain ⟨M_31, hr2, h⟩ := bind_elim h
    have F3 : Fr (w_X4_pass r0) (v_X4_pass r0) M M_31 := F0.tr ((fr_m_X4_settle hr2).mono (fun k j h => by
        unfold w_X4_settle at h
        exact (Or.inr (Or.inr (Or.inr (by omega))))) (fun k j h => by
        unfold v_X4_settle at h
        exact (by unfold v_X4_pass; exact (by omega))))
    obtain ⟨v_32, e4, h⟩ := bnd_elim h
    cases h
    exact F3
set_option maxHeartbeats 1000000 in
theorem fr_b_X4_pass_2 {fu : Nat} {r0 : Nat} {s1 : Int32} {s0 : Int32 × Mem} {o : (Int32 × Mem) ⊕ (Mem)} (h : b_X4_pass_2 fu r0 s1 s0 = some o) : Fr (w_X4_pass r0) (v_X4_pass r0) ((fun x : Int32 × Mem => x.2) s0) (Sum.elim (fun x : Int32 × Mem => x.2) (fun x : Mem => x) o) := by
  obtain ⟨c2, M⟩ := s0
  unfold b_X4_pass_2 at h
  replace h := un2_e h
  have F0 : Fr (w_X4_pass r0) (v_X4_pass r0) M M := Fr.rf
  by_cases hc1 : s1 ≤ c2
  · rw [if_pos hc1] at h
    cases h
    exact F0
  · rw [if_neg hc1] at h
    obtain ⟨x2, hr3, h⟩ := bind_elim h
    have F4 := F0.tr (lp_fr (w := (w_X4_pass r0)) (v := (v_X4_pass r0)) (fun x : Int32 × Mem => x.2) (fun x : Mem => x) (fun s o hq => fr_b_X4_pass_9 hq) _ _ _ hr3)
    obtain ⟨M_15, rfl⟩ : ∃ z, z = x2 := ⟨_, rfl⟩
    replace h := un1_e h
    have F5 : Fr (w_X4_pass r0) (v_X4_pass r0) M M_15 := F4
    obtain ⟨x6, hr7, h⟩ := bind_elim h
    have F8 := F5.tr (lp_fr (w := (w_X4_pass r0)) (v := (v_X4_pass r0)) (fun x : Int32 × Mem => x.2) (fun x : Mem => x) (fun s o hq => fr_b_X4_pass_43 hq) _ _ _ hr7)
    obtain ⟨M_28, rfl⟩ : ∃ z, z = x6 := ⟨_, rfl⟩
    replace h := un1_e h
    have F9 : Fr (w_X4_pass r0) (v_X4_pass r0) M M_28 := F8
    obtain ⟨x10, hr11, h⟩ := bind_elim h
    have F12 := F9.tr (lp_fr (w := (w_X4_pass r0)) (v := (v_X4_pass r0)) (fun x : Int32 × Mem => x.2) (fun x : Mem => x) (fun s o hq => fr_b_X4_pass_84 hq) _ _ _ hr11)
    obtain ⟨M_36, rfl⟩ : ∃ z, z = x10 := ⟨_, rfl⟩
    replace h := un1_e h
    have F13 : Fr (w_X4_pass r0) (v_X4_pass r0) M M_36 := F12
    obtain ⟨M_37, e14, h⟩ := bnd_elim h
    have F15 : Fr (w_X4_pass r0) (v_X4_pass r0) M M_37 := F13.tr (by rw [e14]; exact Fr.wr (Or.inr (Or.inl ⟨by omega, by decide⟩)))
    obtain ⟨v_39, e16, h⟩ := bnd_elim h
    cases h
    exact F15
set_option maxHeartbeats 1000000 in
theorem fr_m_X4_pass {fu : Nat} {r0 : Nat} {M : Mem} {a1 : Int32} {M2 : Mem} (h : m_X4_pass fu r0 M a1 = some M2) : Fr (w_X4_pass r0) (v_X4_pass r0) M M2 := by
  unfold m_X4_pass at h
  have F0 : Fr (w_X4_pass r0) (v_X4_pass r0) M M := Fr.rf
  obtain ⟨x1, hr2, h⟩ := bind_elim h
  have F3 := F0.tr (lp_fr (w := (w_X4_pass r0)) (v := (v_X4_pass r0)) (fun x : Int32 × Mem => x.2) (fun x : Mem => x) (fun s o hq => fr_b_X4_pass_2 hq) _ _ _ hr2)
  obtain ⟨M_43, rfl⟩ : ∃ z, z = x1 := ⟨_, rfl⟩
  replace h := un1_e h
  have F4 : Fr (w_X4_pass r0) (v_X4_pass r0) M M_43 := F3
  cases h
  exact F4
set_option maxHeartbeats 1000000 in
theorem fr_m_X5_nights {fu : Nat} {M : Mem} {a1 : Int32} {rr : Int32} {M2 : Mem} (h : m_X5_nights fu M a1 = some (rr, M2)) : Fr (w_X5_nights) (v_X5_nights) M M2 := by
  unfold m_X5_nights at h
  have F0 : Fr (w_X5_nights) (v_X5_nights) M M := Fr.rf
  by_cases hc1 : a1 < 1
  · rw [if_pos hc1] at h
    cases h
    exact F0
  · rw [if_neg hc1] at h
    by_cases hc2 : 99 < a1
    · rw [if_pos hc2] at h
      cases h
      exact F0
    · rw [if_neg hc2] at h
      by_cases hc3 : ((rd M 0 2) + a1) ≤ 9999
      · rw [if_pos hc3] at h
        obtain ⟨v_4, e4, h⟩ := bnd_elim h
        obtain ⟨M_7, hr5, h⟩ := bind_elim h
        have F6 : Fr (w_X5_nights) (v_X5_nights) M M_7 := F0.tr ((fr_m_X4_pass hr5).mono (fun k j h => by
            unfold w_X4_pass at h
            rcases h with h | h | h | h
            · exact (Or.inl ⟨by omega, h.2⟩)
            · exact (Or.inr (Or.inl ⟨by omega, h.2⟩))
            · exact (Or.inr (Or.inr (Or.inl ⟨by omega, h.2⟩)))
            · exact (Or.inr (Or.inr (Or.inr (by omega))))) (fun k j h => by
            unfold v_X4_pass at h
            exact (by unfold v_X5_nights; exact (by omega))))
        cases h
        exact F6
      · rw [if_neg hc3] at h
        cases h
        exact F0
set_option maxHeartbeats 1000000 in
theorem fr_b_X0_fillMeans_24 {fu : Nat} {r0 : Nat} {s2 : Int32} {s3 : Int32} {s0 : Int32 × Int32 × Mem} {o : (Int32 × Int32 × Mem) ⊕ (Int32 × Mem)} (h : b_X0_fillMeans_24 fu r0 s2 s3 s0 = some o) : Fr (w_X0_fillMeans r0) (v_X0_fillMeans r0) ((fun x : Int32 × Int32 × Mem => x.2.2) s0) (Sum.elim (fun x : Int32 × Int32 × Mem => x.2.2) (fun x : Int32 × Mem => x.2) o) := by
  obtain ⟨c4, c5, M⟩ := s0
  unfold b_X0_fillMeans_24 at h
  replace h := un3_e h
  have F0 : Fr (w_X0_fillMeans r0) (v_X0_fillMeans r0) M M := Fr.rf
  by_cases hc1 : 4 ≤ c5
  · rw [if_pos hc1] at h
    cases h
    exact F0
  · rw [if_neg hc1] at h
    obtain ⟨r_5, hr2, h⟩ := bind_elim h
    obtain ⟨hb3, h⟩ := chk_elim h
    have q4 := inb_lt hb3
    obtain ⟨hb5, h⟩ := chk_elim h
    have q6 := inb_lt hb5
    obtain ⟨M_8, e7, h⟩ := bnd_elim h
    have F8 : Fr (w_X0_fillMeans r0) (v_X0_fillMeans r0) M M_8 := F0.tr (by rw [e7]; exact Fr.wr (by unfold w_X0_fillMeans; exact (by omega)))
    by_cases hc9 : c5 = 0
    · rw [if_pos hc9] at h
      obtain ⟨v_15, e10, h⟩ := bnd_elim h
      cases h
      exact F8
    · rw [if_neg hc9] at h
      obtain ⟨v_11, e11, h⟩ := bnd_elim h
      obtain ⟨v_13, e12, h⟩ := bnd_elim h
      cases h
      exact F8
set_option maxHeartbeats 1000000 in
theorem fr_b_X0_fillMeans_12 {fu : Nat} {r0 : Nat} {s2 : Int32} {s0 : Int32 × Mem} {o : (Int32 × Mem) ⊕ (Mem)} (h : b_X0_fillMeans_12 fu r0 s2 s0 = some o) : Fr (w_X0_fillMeans r0) (v_X0_fillMeans r0) ((fun x : Int32 × Mem => x.2) s0) (Sum.elim (fun x : Int32 × Mem => x.2) (fun x : Mem => x) o) := by
  obtain ⟨c3, M⟩ := s0
  unfold b_X0_fillMeans_12 at h
  replace h := un2_e h
  have F0 : Fr (w_X0_fillMeans r0) (v_X0_fillMeans r0) M M := Fr.rf
  by_cases hc1 : 16 ≤ c3
  · rw [if_pos hc1] at h
    cases h
    exact F0
  · rw [if_neg hc1] at h
    obtain ⟨x2, hr3, h⟩ := bind_elim h
    have F4 := F0.tr (lp_fr (w := (w_X0_fillMeans r0)) (v := (v_X0_fillMeans r0)) (fun x : Int32 × Int32 × Mem => x.2.2) (fun x : Int32 × Mem => x.2) (fun s o hq => fr_b_X0_fillMeans_24 hq) _ _ _ hr3)
    obtain ⟨v_19, M_20⟩ := x2
    replace h := un2_e h
    have F5 : Fr (w_X0_fillMeans r0) (v_X0_fillMeans r0) M M_20 := F4
    obtain ⟨hb6, h⟩ := chk_elim h
    have q7 := inb_lt hb6
    obtain ⟨hb8, h⟩ := chk_elim h
    have q9 := inb_lt hb8
    obtain ⟨M_23, e10, h⟩ := bnd_elim h
    have F11 : Fr (w_X0_fillMeans r0) (v_X0_fillMeans r0) M M_23 := F5.tr (by rw [e10]; exact Fr.wr (by unfold w_X0_fillMeans; exact (by omega)))
    obtain ⟨v_25, e12, h⟩ := bnd_elim h
    cases h
    exact F11
set_option maxHeartbeats 1000000 in
theorem fr_b_X0_fillMeans_2 {fu : Nat} {r0 : Nat} {s0 : Int32 × Mem} {o : (Int32 × Mem) ⊕ (Mem)} (h : b_X0_fillMeans_2 fu r0 s0 = some o) : Fr (w_X0_fillMeans r0) (v_X0_fillMeans r0) ((fun x : Int32 × Mem => x.2) s0) (Sum.elim (fun x : Int32 × Mem => x.2) (fun x : Mem => x) o) := by
  obtain ⟨c2, M⟩ := s0
  unfold b_X0_fillMeans_2 at h
  replace h := un2_e h
  have F0 : Fr (w_X0_fillMeans r0) (v_X0_fillMeans r0) M M := Fr.rf
  by_cases hc1 : (rd M r0 0) ≤ c2
  · rw [if_pos hc1] at h
    cases h
    exact F0
  · rw [if_neg hc1] at h
    obtain ⟨x2, hr3, h⟩ := bind_elim h
    have F4 := F0.tr (lp_fr (w := (w_X0_fillMeans r0)) (v := (v_X0_fillMeans r0)) (fun x : Int32 × Mem => x.2) (fun x : Mem => x) (fun s o hq => fr_b_X0_fillMeans_12 hq) _ _ _ hr3)
    obtain ⟨M_29, rfl⟩ : ∃ z, z = x2 := ⟨_, rfl⟩
    replace h := un1_e h
    have F5 : Fr (w_X0_fillMeans r0) (v_X0_fillMeans r0) M M_29 := F4
    obtain ⟨v_30, e6, h⟩ := bnd_elim h
    cases h
    exact F5
set_option maxHeartbeats 1000000 in
theorem fr_m_X0_fillMeans {fu : Nat} {r0 : Nat} {M : Mem} {M2 : Mem} (h : m_X0_fillMeans fu r0 M = some M2) : Fr (w_X0_fillMeans r0) (v_X0_fillMeans r0) M M2 := by
  unfold m_X0_fillMeans at h
  have F0 : Fr (w_X0_fillMeans r0) (v_X0_fillMeans r0) M M := Fr.rf
  obtain ⟨x1, hr2, h⟩ := bind_elim h
  have F3 := F0.tr (lp_fr (w := (w_X0_fillMeans r0)) (v := (v_X0_fillMeans r0)) (fun x : Int32 × Mem => x.2) (fun x : Mem => x) (fun s o hq => fr_b_X0_fillMeans_2 hq) _ _ _ hr2)
  obtain ⟨M_34, rfl⟩ : ∃ z, z = x1 := ⟨_, rfl⟩
  replace h := un1_e h
  have F4 : Fr (w_X0_fillMeans r0) (v_X0_fillMeans r0) M M_34 := F3
  cases h
  exact F4
set_option maxHeartbeats 1000000 in
theorem fr_j_X0_findRests_142i {fu : Nat} {r0 : Nat} {M : Mem} {s2 : Int32} {s3 : Int32} {s4 : Int32} {s5 : Int32} {o : (Int32 × Int32 × Mem) ⊕ (Mem)} (h : j_X0_findRests_142i fu r0 M s2 s3 s4 s5 = some o) : Fr (w_X0_findRests r0) (v_X0_findRests r0) M ((Sum.elim (fun x : Int32 × Int32 × Mem => x.2.2) (fun x : Mem => x)) o) := by
  unfold j_X0_findRests_142i at h
  have F0 : Fr (w_X0_findRests r0) (v_X0_findRests r0) M M := Fr.rf
  obtain ⟨M_28, e1, h⟩ := bnd_elim h
  have F2 : Fr (w_X0_findRests r0) (v_X0_findRests r0) M M_28 := F0.tr (by rw [e1]; exact Fr.wr (Or.inl ⟨by omega, by decide⟩))
  obtain ⟨v_30, e3, h⟩ := bnd_elim h
  cases h
  exact F2
set_option maxHeartbeats 1000000 in
theorem fr_j_X0_findRests_111i {fu : Nat} {r0 : Nat} {M : Mem} {s2 : Int32} {s3 : Int32} {s4 : Int32} {s5 : Int32} {o : (Int32 × Int32 × Mem) ⊕ (Mem)} (h : j_X0_findRests_111i fu r0 M s2 s3 s4 s5 = some o) : Fr (w_X0_findRests r0) (v_X0_findRests r0) M ((Sum.elim (fun x : Int32 × Int32 × Mem => x.2.2) (fun x : Mem => x)) o) := by
  unfold j_X0_findRests_111i at h
  have F0 : Fr (w_X0_findRests r0) (v_X0_findRests r0) M M := Fr.rf
  obtain ⟨r_26, hr1, h⟩ := bind_elim h
  by_cases hc2 : s5 = (r_26 * s3)
  · rw [if_pos hc2] at h
    obtain ⟨M_32, e3, h⟩ := bnd_elim h
    have F4 : Fr (w_X0_findRests r0) (v_X0_findRests r0) M M_32 := F0.tr (by rw [e3]; exact Fr.wr (Or.inr (Or.inr (Or.inr (Or.inl ⟨by omega, by decide⟩)))))
    exact F4.tr (fr_j_X0_findRests_142i h)
  · rw [if_neg hc2] at h
    exact F0.tr (fr_j_X0_findRests_142i h)
set_option maxHeartbeats 1000000 in
theorem fr_j_X0_findRests_101i {fu : Nat} {r0 : Nat} {M : Mem} {s2 : Int32} {s3 : Int32} {s5 : Int32} {s6 : Int32} {o : (Int32 × Int32 × Mem) ⊕ (Mem)} (h : j_X0_findRests_101i fu r0 M s2 s3 s5 s6 = some o) : Fr (w_X0_findRests r0) (v_X0_findRests r0) M ((Sum.elim (fun x : Int32 × Int32 × Mem => x.2.2) (fun x : Mem => x)) o) := by
  unfold j_X0_findRests_101i at h
  have F0 : Fr (w_X0_findRests r0) (v_X0_findRests r0) M M := Fr.rf
  obtain ⟨M_23, e1, h⟩ := bnd_elim h
  have F2 : Fr (w_X0_findRests r0) (v_X0_findRests r0) M M_23 := F0.tr (by rw [e1]; exact Fr.wr (Or.inr (Or.inr (Or.inl ⟨by omega, by decide⟩))))
  exact F2.tr (fr_j_X0_findRests_111i h)
set_option maxHeartbeats 1000000 in
theorem fr_j_X0_findRests_87i {fu : Nat} {r0 : Nat} {M : Mem} {s2 : Int32} {s3 : Int32} {s4 : Int32} {s5 : Int32} {s6 : Int32} {o : (Int32 × Int32 × Mem) ⊕ (Mem)} (h : j_X0_findRests_87i fu r0 M s2 s3 s4 s5 s6 = some o) : Fr (w_X0_findRests r0) (v_X0_findRests r0) M ((Sum.elim (fun x : Int32 × Int32 × Mem => x.2.2) (fun x : Mem => x)) o) := by
  unfold j_X0_findRests_87i at h
  have F0 : Fr (w_X0_findRests r0) (v_X0_findRests r0) M M := Fr.rf
  by_cases hc1 : (rd M 115 0) = 0
  · rw [if_pos hc1] at h
    exact F0.tr (fr_j_X0_findRests_101i h)
  · rw [if_neg hc1] at h
    by_cases hc2 : s6 ≤ s4
    · rw [if_pos hc2] at h
      exact F0.tr (fr_j_X0_findRests_111i h)
    · rw [if_neg hc2] at h
      exact F0.tr (fr_j_X0_findRests_101i h)
set_option maxHeartbeats 1000000 in
theorem fr_b_X0_findRests_46 {fu : Nat} {r0 : Nat} {s2 : Int32} {s3 : Int32} {s0 : Int32 × Int32 × Mem} {o : (Int32 × Int32 × Mem) ⊕ (Mem)} (h : b_X0_findRests_46 fu r0 s2 s3 s0 = some o) : Fr (w_X0_findRests r0) (v_X0_findRests r0) ((fun x : Int32 × Int32 × Mem => x.2.2) s0) (Sum.elim (fun x : Int32 × Int32 × Mem => x.2.2) (fun x : Mem => x) o) := by
  obtain ⟨c4, c5, M⟩ := s0
  unfold b_X0_findRests_46 at h
  replace h := un3_e h
  have F0 : Fr (w_X0_findRests r0) (v_X0_findRests r0) M M := Fr.rf
  by_cases hc1 : s2 ≤ c5
  · rw [if_pos hc1] at h
    cases h
    exact F0
  · rw [if_neg hc1] at h
    obtain ⟨r_17, hr2, h⟩ := bind_elim h
    by_cases hc3 : r_17 = 0
    · rw [if_pos hc3] at h
      obtain ⟨v_37, e4, h⟩ := bnd_elim h
      cases h
      exact F0
    · rw [if_neg hc3] at h
      obtain ⟨r_20, hr5, h⟩ := bind_elim h
      by_cases hc6 : (rd M 115 0) = 0
      · rw [if_pos hc6] at h
        obtain ⟨M_35, e7, h⟩ := bnd_elim h
        have F8 : Fr (w_X0_findRests r0) (v_X0_findRests r0) M M_35 := F0.tr (by rw [e7]; exact Fr.wr (Or.inr (Or.inl ⟨by omega, by decide⟩)))
        exact F8.tr (fr_j_X0_findRests_87i h)
      · rw [if_neg hc6] at h
        exact F0.tr (fr_j_X0_findRests_87i h)
set_option maxHeartbeats 1000000 in
theorem fr_m_X0_findRests {fu : Nat} {r0 : Nat} {M : Mem} {M2 : Mem} (h : m_X0_findRests fu r0 M = some M2) : Fr (w_X0_findRests r0) (v_X0_findRests r0) M M2 := by
  unfold m_X0_findRests at h
  have F0 : Fr (w_X0_findRests r0) (v_X0_findRests r0) M M := Fr.rf
  obtain ⟨M_2, hr1, h⟩ := bind_elim h
  have F2 : Fr (w_X0_findRests r0) (v_X0_findRests r0) M M_2 := F0.tr ((fr_m_X0_fillMeans hr1).mono (fun k j h => by
      unfold w_X0_fillMeans at h
      exact (Or.inr (Or.inr (Or.inr (Or.inr (by omega)))))) (fun k j h => absurd h id))
  obtain ⟨M_3, e3, h⟩ := bnd_elim h
  have F4 : Fr (w_X0_findRests r0) (v_X0_findRests r0) M M_3 := F2.tr (by rw [e3]; exact Fr.wr (Or.inl ⟨by omega, by decide⟩))
  obtain ⟨M_5, e5, h⟩ := bnd_elim h
  have F6 : Fr (w_X0_findRests r0) (v_X0_findRests r0) M M_5 := F4.tr (by rw [e5]; exact Fr.wr (Or.inr (Or.inl ⟨by omega, by decide⟩)))
  obtain ⟨M_7, e7, h⟩ := bnd_elim h
  have F8 : Fr (w_X0_findRests r0) (v_X0_findRests r0) M M_7 := F6.tr (by rw [e7]; exact Fr.wr (Or.inr (Or.inr (Or.inl ⟨by omega, by decide⟩))))
  obtain ⟨M_9, e9, h⟩ := bnd_elim h
  have F10 : Fr (w_X0_findRests r0) (v_X0_findRests r0) M M_9 := F8.tr (by rw [e9]; exact Fr.wr (Or.inr (Or.inr (Or.inr (Or.inl ⟨by omega, by decide⟩)))))
  obtain ⟨v_11, e11, h⟩ := bnd_elim h
  obtain ⟨v_13, e12, h⟩ := bnd_elim h
  obtain ⟨x13, hr14, h⟩ := bind_elim h
  have F15 := F10.tr (lp_fr (w := (w_X0_findRests r0)) (v := (v_X0_findRests r0)) (fun x : Int32 × Int32 × Mem => x.2.2) (fun x : Mem => x) (fun s o hq => fr_b_X0_findRests_46 hq) _ _ _ hr14)
  obtain ⟨M_41, rfl⟩ : ∃ z, z = x13 := ⟨_, rfl⟩
  replace h := un1_e h
  have F16 : Fr (w_X0_findRests r0) (v_X0_findRests r0) M M_41 := F15
  cases h
  exact F16
set_option maxHeartbeats 1000000 in
theorem fr_m_X5_rests {fu : Nat} {M : Mem} {a1 : Int32} {rr : Int32} {M2 : Mem} (h : m_X5_rests fu M a1 = some (rr, M2)) : Fr (w_X5_rests) (v_X5_rests) M M2 := by
  unfold m_X5_rests at h
  have F0 : Fr (w_X5_rests) (v_X5_rests) M M := Fr.rf
  by_cases hc1 : 6 < (rd M 0 0)
  · rw [if_pos hc1] at h
    cases h
    exact F0
  · rw [if_neg hc1] at h
    by_cases hc2 : a1 < 0
    · rw [if_pos hc2] at h
      cases h
      exact F0
    · rw [if_neg hc2] at h
      by_cases hc3 : a1 ≤ 3
      · rw [if_pos hc3] at h
        obtain ⟨M_5, hr4, h⟩ := bind_elim h
        have F5 : Fr (w_X5_rests) (v_X5_rests) M M_5 := F0.tr ((fr_m_X0_findRests hr4).mono (fun k j h => by
            unfold w_X0_findRests at h
            rcases h with h | h | h | h | h
            · exact (Or.inl ⟨by omega, h.2⟩)
            · exact (Or.inr (Or.inl ⟨by omega, h.2⟩))
            · exact (Or.inr (Or.inr (Or.inl ⟨by omega, h.2⟩)))
            · exact (Or.inr (Or.inr (Or.inr (Or.inl ⟨by omega, h.2⟩))))
            · exact (Or.inr (Or.inr (Or.inr (Or.inr (by omega)))))) (fun k j h => absurd h id))
        by_cases hc6 : a1 = 0
        · rw [if_pos hc6] at h
          cases h
          exact F5
        · rw [if_neg hc6] at h
          by_cases hc7 : a1 = 1
          · rw [if_pos hc7] at h
            cases h
            exact F5
          · rw [if_neg hc7] at h
            by_cases hc8 : a1 = 2
            · rw [if_pos hc8] at h
              cases h
              exact F5
            · rw [if_neg hc8] at h
              cases h
              exact F5
      · rw [if_neg hc3] at h
        cases h
        exact F0
set_option maxHeartbeats 1000000 in
theorem fr_j_X0_fillTempted_147i {fu : Nat} {r0 : Nat} {M : Mem} {s2 : Int32} {t1 : Int32} {t2 : Int32} {o : (Int32 × Mem) ⊕ (Mem)} (h : j_X0_fillTempted_147i fu r0 M s2 t1 t2 = some o) : Fr (w_X0_fillTempted r0) (v_X0_fillTempted r0) M ((Sum.elim (fun x : Int32 × Mem => x.2) (fun x : Mem => x)) o) := by
  unfold j_X0_fillTempted_147i at h
  have F0 : Fr (w_X0_fillTempted r0) (v_X0_fillTempted r0) M M := Fr.rf
  obtain ⟨M_30, e1, h⟩ := bnd_elim h
  have F2 : Fr (w_X0_fillTempted r0) (v_X0_fillTempted r0) M M_30 := F0.tr (by rw [e1]; exact Fr.wr (Or.inr (Or.inl ⟨by omega, by decide⟩)))
  obtain ⟨v_32, e3, h⟩ := bnd_elim h
  cases h
  exact F2
set_option maxHeartbeats 1000000 in
theorem fr_j_X0_fillTempted_119i {fu : Nat} {r0 : Nat} {M : Mem} {s2 : Int32} {s3 : Int32} {t1 : Int32} {t2 : Int32} {o : (Int32 × Mem) ⊕ (Mem)} (h : j_X0_fillTempted_119i fu r0 M s2 s3 t1 t2 = some o) : Fr (w_X0_fillTempted r0) (v_X0_fillTempted r0) M ((Sum.elim (fun x : Int32 × Mem => x.2) (fun x : Mem => x)) o) := by
  unfold j_X0_fillTempted_119i at h
  have F0 : Fr (w_X0_fillTempted r0) (v_X0_fillTempted r0) M M := Fr.rf
  obtain ⟨M_25, e1, h⟩ := bnd_elim h
  have F2 : Fr (w_X0_fillTempted r0) (v_X0_fillTempted r0) M M_25 := F0.tr (by rw [e1]; exact Fr.wr (Or.inl ⟨by omega, by decide⟩))
  obtain ⟨r_28, hr3, h⟩ := bind_elim h
  by_cases hc4 : r_28 ≤ s3
  · rw [if_pos hc4] at h
    exact F2.tr (fr_j_X0_fillTempted_147i h)
  · rw [if_neg hc4] at h
    exact F2.tr (fr_j_X0_fillTempted_147i h)
set_option maxHeartbeats 1000000 in
theorem fr_j_X0_fillTempted_91i {fu : Nat} {r0 : Nat} {M : Mem} {s2 : Int32} {s3 : Int32} {t1 : Int32} {t2 : Int32} {o : (Int32 × Mem) ⊕ (Mem)} (h : j_X0_fillTempted_91i fu r0 M s2 s3 t1 t2 = some o) : Fr (w_X0_fillTempted r0) (v_X0_fillTempted r0) M ((Sum.elim (fun x : Int32 × Mem => x.2) (fun x : Mem => x)) o) := by
  unfold j_X0_fillTempted_91i at h
  have F0 : Fr (w_X0_fillTempted r0) (v_X0_fillTempted r0) M M := Fr.rf
  obtain ⟨M_20, e1, h⟩ := bnd_elim h
  have F2 : Fr (w_X0_fillTempted r0) (v_X0_fillTempted r0) M M_20 := F0.tr (by rw [e1]; exact Fr.wr (Or.inr (Or.inr (Or.inr ⟨by omega, by decide⟩))))
  obtain ⟨r_23, hr3, h⟩ := bind_elim h
  by_cases hc4 : r_23 ≤ s3
  · rw [if_pos hc4] at h
    exact F2.tr (fr_j_X0_fillTempted_119i h)
  · rw [if_neg hc4] at h
    exact F2.tr (fr_j_X0_fillTempted_119i h)
set_option maxHeartbeats 1000000 in
theorem fr_j_X0_fillTempted_63i {fu : Nat} {r0 : Nat} {M : Mem} {s2 : Int32} {s3 : Int32} {t1 : Int32} {t2 : Int32} {o : (Int32 × Mem) ⊕ (Mem)} (h : j_X0_fillTempted_63i fu r0 M s2 s3 t1 t2 = some o) : Fr (w_X0_fillTempted r0) (v_X0_fillTempted r0) M ((Sum.elim (fun x : Int32 × Mem => x.2) (fun x : Mem => x)) o) := by
  unfold j_X0_fillTempted_63i at h
  have F0 : Fr (w_X0_fillTempted r0) (v_X0_fillTempted r0) M M := Fr.rf
  obtain ⟨M_15, e1, h⟩ := bnd_elim h
  have F2 : Fr (w_X0_fillTempted r0) (v_X0_fillTempted r0) M M_15 := F0.tr (by rw [e1]; exact Fr.wr (Or.inr (Or.inr (Or.inl ⟨by omega, by decide⟩))))
  obtain ⟨r_18, hr3, h⟩ := bind_elim h
  by_cases hc4 : r_18 ≤ s3
  · rw [if_pos hc4] at h
    exact F2.tr (fr_j_X0_fillTempted_91i h)
  · rw [if_neg hc4] at h
    exact F2.tr (fr_j_X0_fillTempted_91i h)
set_option maxHeartbeats 1000000 in
theorem fr_b_X0_fillTempted_22 {fu : Nat} {r0 : Nat} {s0 : Int32 × Mem} {o : (Int32 × Mem) ⊕ (Mem)} (h : b_X0_fillTempted_22 fu r0 s0 = some o) : Fr (w_X0_fillTempted r0) (v_X0_fillTempted r0) ((fun x : Int32 × Mem => x.2) s0) (Sum.elim (fun x : Int32 × Mem => x.2) (fun x : Mem => x) o) := by
  obtain ⟨c2, M⟩ := s0
  unfold b_X0_fillTempted_22 at h
  replace h := un2_e h
  have F0 : Fr (w_X0_fillTempted r0) (v_X0_fillTempted r0) M M := Fr.rf
  by_cases hc1 : (rd M r0 0) ≤ c2
  · rw [if_pos hc1] at h
    cases h
    exact F0
  · rw [if_neg hc1] at h
    obtain ⟨r_11, hr2, h⟩ := bind_elim h
    obtain ⟨r_13, hr3, h⟩ := bind_elim h
    by_cases hc4 : r_13 ≤ r_11
    · rw [if_pos hc4] at h
      exact F0.tr (fr_j_X0_fillTempted_63i h)
    · rw [if_neg hc4] at h
      exact F0.tr (fr_j_X0_fillTempted_63i h)
set_option maxHeartbeats 1000000 in
theorem fr_m_X0_fillTempted {fu : Nat} {r0 : Nat} {M : Mem} {M2 : Mem} (h : m_X0_fillTempted fu r0 M = some M2) : Fr (w_X0_fillTempted r0) (v_X0_fillTempted r0) M M2 := by
  unfold m_X0_fillTempted at h
  have F0 : Fr (w_X0_fillTempted r0) (v_X0_fillTempted r0) M M := Fr.rf
  obtain ⟨M_1, e1, h⟩ := bnd_elim h
  have F2 : Fr (w_X0_fillTempted r0) (v_X0_fillTempted r0) M M_1 := F0.tr (by rw [e1]; exact Fr.wr (Or.inr (Or.inr (Or.inl ⟨by omega, by decide⟩))))
  obtain ⟨M_3, e3, h⟩ := bnd_elim h
  have F4 : Fr (w_X0_fillTempted r0) (v_X0_fillTempted r0) M M_3 := F2.tr (by rw [e3]; exact Fr.wr (Or.inr (Or.inr (Or.inr ⟨by omega, by decide⟩))))
  obtain ⟨M_5, e5, h⟩ := bnd_elim h
  have F6 : Fr (w_X0_fillTempted r0) (v_X0_fillTempted r0) M M_5 := F4.tr (by rw [e5]; exact Fr.wr (Or.inl ⟨by omega, by decide⟩))
  obtain ⟨M_7, e7, h⟩ := bnd_elim h
  have F8 : Fr (w_X0_fillTempted r0) (v_X0_fillTempted r0) M M_7 := F6.tr (by rw [e7]; exact Fr.wr (Or.inr (Or.inl ⟨by omega, by decide⟩)))
  obtain ⟨x9, hr10, h⟩ := bind_elim h
  have F11 := F8.tr (lp_fr (w := (w_X0_fillTempted r0)) (v := (v_X0_fillTempted r0)) (fun x : Int32 × Mem => x.2) (fun x : Mem => x) (fun s o hq => fr_b_X0_fillTempted_22 hq) _ _ _ hr10)
  obtain ⟨M_36, rfl⟩ : ∃ z, z = x9 := ⟨_, rfl⟩
  replace h := un1_e h
  have F12 : Fr (w_X0_fillTempted r0) (v_X0_fillTempted r0) M M_36 := F11
  cases h
  exact F12
set_option maxHeartbeats 1000000 in
theorem fr_m_X0_fewestWatchers {fu : Nat} {r0 : Nat} {M : Mem} {rr : Int32} {M2 : Mem} (h : m_X0_fewestWatchers fu r0 M = some (rr, M2)) : Fr (w_X0_fewestWatchers r0) (v_X0_fewestWatchers r0) M M2 := by
  unfold m_X0_fewestWatchers at h
  have F0 : Fr (w_X0_fewestWatchers r0) (v_X0_fewestWatchers r0) M M := Fr.rf
  obtain ⟨M_2, hr1, h⟩ := bind_elim h
  have F2 : Fr (w_X0_fewestWatchers r0) (v_X0_fewestWatchers r0) M M_2 := F0.tr ((fr_m_X0_fillTempted hr1).mono (fun k j h => by
      unfold w_X0_fillTempted at h
      rcases h with h | h | h | h
      · exact (Or.inl ⟨by omega, h.2⟩)
      · exact (Or.inr (Or.inl ⟨by omega, h.2⟩))
      · exact (Or.inr (Or.inr (Or.inl ⟨by omega, h.2⟩)))
      · exact (Or.inr (Or.inr (Or.inr ⟨by omega, h.2⟩)))) (fun k j h => absurd h id))
  obtain ⟨r_4, hr3, h⟩ := bind_elim h
  cases h
  exact F2
set_option maxHeartbeats 1000000 in
theorem fr_m_X5_still {fu : Nat} {M : Mem} {rr : Int32} {M2 : Mem} (h : m_X5_still fu M = some (rr, M2)) : Fr (w_X5_still) (v_X5_still) M M2 := by
  unfold m_X5_still at h
  have F0 : Fr (w_X5_still) (v_X5_still) M M := Fr.rf
  obtain ⟨⟨r_2, M_3⟩, hr1, h⟩ := bind_elim h
  replace h := un2_e h
  have F2 : Fr (w_X5_still) (v_X5_still) M M_3 := F0.tr ((fr_m_X0_fewestWatchers hr1).mono (fun k j h => by
      unfold w_X0_fewestWatchers at h
      rcases h with h | h | h | h
      · exact (Or.inl ⟨by omega, h.2⟩)
      · exact (Or.inr (Or.inl ⟨by omega, h.2⟩))
      · exact (Or.inr (Or.inr (Or.inl ⟨by omega, h.2⟩)))
      · exact (Or.inr (Or.inr (Or.inr ⟨by omega, h.2⟩)))) (fun k j h => absurd h id))
  cases h
  exact F2
set_option maxHeartbeats 1000000 in
theorem fr_b_X4_copy_64 {fu : Nat} {r0 : Nat} {r1 : Nat} {s0 : Int32 × Mem} {o : (Int32 × Mem) ⊕ (Mem)} (h : b_X4_copy_64 fu r0 r1 s0 = some o) : Fr (w_X4_copy r0 r1) (v_X4_copy r0 r1) ((fun x : Int32 × Mem => x.2) s0) (Sum.elim (fun x : Int32 × Mem => x.2) (fun x : Mem => x) o) := by
  obtain ⟨c2, M⟩ := s0
  unfold b_X4_copy_64 at h
  replace h := un2_e h
  have F0 : Fr (w_X4_copy r0 r1) (v_X4_copy r0 r1) M M := Fr.rf
  by_cases hc1 : 10 ≤ c2
  · rw [if_pos hc1] at h
    cases h
    exact F0
  · rw [if_neg hc1] at h
    obtain ⟨hb2, h⟩ := chk_elim h
    have q3 := inb_lt hb2
    obtain ⟨hb4, h⟩ := chk_elim h
    obtain ⟨M_18, e5, h⟩ := bnd_elim h
    have F6 : Fr (w_X4_copy r0 r1) (v_X4_copy r0 r1) M M_18 := F0.tr (by rw [e5]; exact Fr.cp (fun j => (Or.inr (Or.inr (Or.inr (Or.inr (Or.inr (Or.inr (Or.inl (by omega))))))))))
    obtain ⟨hb7, h⟩ := chk_elim h
    obtain ⟨M_21, e8, h⟩ := bnd_elim h
    have F9 : Fr (w_X4_copy r0 r1) (v_X4_copy r0 r1) M M_21 := F6.tr (by rw [e8]; exact Fr.cp (fun j => (Or.inr (Or.inr (Or.inr (Or.inr (Or.inr (Or.inr (Or.inl (by omega))))))))))
    obtain ⟨v_23, e10, h⟩ := bnd_elim h
    cases h
    exact F9
set_option maxHeartbeats 1000000 in
theorem fr_b_X4_copy_115 {fu : Nat} {r0 : Nat} {r1 : Nat} {s0 : Int32 × Mem} {o : (Int32 × Mem) ⊕ (Mem)} (h : b_X4_copy_115 fu r0 r1 s0 = some o) : Fr (w_X4_copy r0 r1) (v_X4_copy r0 r1) ((fun x : Int32 × Mem => x.2) s0) (Sum.elim (fun x : Int32 × Mem => x.2) (fun x : Mem => x) o) := by
  obtain ⟨c2, M⟩ := s0
  unfold b_X4_copy_115 at h
  replace h := un2_e h
  have F0 : Fr (w_X4_copy r0 r1) (v_X4_copy r0 r1) M M := Fr.rf
  by_cases hc1 : 4 ≤ c2
  · rw [if_pos hc1] at h
    cases h
    exact F0
  · rw [if_neg hc1] at h
    obtain ⟨hb2, h⟩ := chk_elim h
    have q3 := inb_lt hb2
    obtain ⟨M_31, hr4, h⟩ := bind_elim h
    have F5 : Fr (w_X4_copy r0 r1) (v_X4_copy r0 r1) M M_31 := F0.tr ((fr_m_X2_take hr4).mono (fun k j h => by
        unfold w_X2_take at h
        rcases h with h | h
        · exact (Or.inr (Or.inr (Or.inl ⟨by omega, h.2⟩)))
        · exact (Or.inr (Or.inr (Or.inr (Or.inr (Or.inr (Or.inr (Or.inr (by omega))))))))) (fun k j h => absurd h id))
    obtain ⟨v_32, e6, h⟩ := bnd_elim h
    cases h
    exact F5
set_option maxHeartbeats 1000000 in
theorem fr_m_X4_copy {fu : Nat} {r0 : Nat} {r1 : Nat} {M : Mem} {M2 : Mem} (h : m_X4_copy fu r0 r1 M = some M2) : Fr (w_X4_copy r0 r1) (v_X4_copy r0 r1) M M2 := by
  unfold m_X4_copy at h
  have F0 : Fr (w_X4_copy r0 r1) (v_X4_copy r0 r1) M M := Fr.rf
  obtain ⟨M_1, e1, h⟩ := bnd_elim h
  have F2 : Fr (w_X4_copy r0 r1) (v_X4_copy r0 r1) M M_1 := F0.tr (by rw [e1]; exact Fr.wr (Or.inl ⟨by omega, by decide⟩))
  obtain ⟨M_3, e3, h⟩ := bnd_elim h
  have F4 : Fr (w_X4_copy r0 r1) (v_X4_copy r0 r1) M M_3 := F2.tr (by rw [e3]; exact Fr.wr (Or.inr (Or.inl ⟨by omega, by decide⟩)))
  obtain ⟨M_5, e5, h⟩ := bnd_elim h
  have F6 : Fr (w_X4_copy r0 r1) (v_X4_copy r0 r1) M M_5 := F4.tr (by rw [e5]; exact Fr.wr (Or.inr (Or.inr (Or.inr (Or.inl ⟨by omega, by decide⟩)))))
  obtain ⟨M_7, e7, h⟩ := bnd_elim h
  have F8 : Fr (w_X4_copy r0 r1) (v_X4_copy r0 r1) M M_7 := F6.tr (by rw [e7]; exact Fr.wr (Or.inr (Or.inr (Or.inr (Or.inr (Or.inl ⟨by omega, by decide⟩))))))
  obtain ⟨hb9, h⟩ := chk_elim h
  obtain ⟨M_10, e10, h⟩ := bnd_elim h
  have F11 : Fr (w_X4_copy r0 r1) (v_X4_copy r0 r1) M M_10 := F8.tr (by rw [e10]; exact Fr.cp (fun j => (Or.inr (Or.inr (Or.inr (Or.inr (Or.inr (Or.inl (by omega)))))))))
  obtain ⟨hb12, h⟩ := chk_elim h
  obtain ⟨M_13, e13, h⟩ := bnd_elim h
  have F14 : Fr (w_X4_copy r0 r1) (v_X4_copy r0 r1) M M_13 := F11.tr (by rw [e13]; exact Fr.cpl (fun j => (by unfold v_X4_copy; exact (by omega))))
  obtain ⟨x15, hr16, h⟩ := bind_elim h
  have F17 := F14.tr (lp_fr (w := (w_X4_copy r0 r1)) (v := (v_X4_copy r0 r1)) (fun x : Int32 × Mem => x.2) (fun x : Mem => x) (fun s o hq => fr_b_X4_copy_64 hq) _ _ _ hr16)
  obtain ⟨M_27, rfl⟩ : ∃ z, z = x15 := ⟨_, rfl⟩
  replace h := un1_e h
  have F18 : Fr (w_X4_copy r0 r1) (v_X4_copy r0 r1) M M_27 := F17
  obtain ⟨x19, hr20, h⟩ := bind_elim h
  have F21 := F18.tr (lp_fr (w := (w_X4_copy r0 r1)) (v := (v_X4_copy r0 r1)) (fun x : Int32 × Mem => x.2) (fun x : Mem => x) (fun s o hq => fr_b_X4_copy_115 hq) _ _ _ hr20)
  obtain ⟨M_36, rfl⟩ : ∃ z, z = x19 := ⟨_, rfl⟩
  replace h := un1_e h
  have F22 : Fr (w_X4_copy r0 r1) (v_X4_copy r0 r1) M M_36 := F21
  cases h
  exact F22
set_option maxHeartbeats 1000000 in
theorem fr_b_X0_build_2 {fu : Nat} {r0 : Nat} {s1 : Int32} {s0 : Int32 × Mem} {o : (Int32 × Mem) ⊕ (Mem)} (h : b_X0_build_2 fu r0 s1 s0 = some o) : Fr (w_X0_build r0) (v_X0_build r0) ((fun x : Int32 × Mem => x.2) s0) (Sum.elim (fun x : Int32 × Mem => x.2) (fun x : Mem => x) o) := by
  obtain ⟨c2, M⟩ := s0
  unfold b_X0_build_2 at h
  replace h := un2_e h
  have F0 : Fr (w_X0_build r0) (v_X0_build r0) M M := Fr.rf
  by_cases hc1 : (rd M r0 0) ≤ c2
  · rw [if_pos hc1] at h
    cases h
    exact F0
  · rw [if_neg hc1] at h
    obtain ⟨hb2, h⟩ := chk_elim h
    have q3 := inb_lt hb2
    obtain ⟨M_3, e4, h⟩ := bnd_elim h
    have F5 : Fr (w_X0_build r0) (v_X0_build r0) M M_3 := F0.tr (by rw [e4]; exact Fr.wr (by unfold w_X0_build; exact ⟨by omega, by decide⟩))
    obtain ⟨v_5, e6, h⟩ := bnd_elim h
    cases h
    exact F5
set_option maxHeartbeats 1000000 in
theorem fr_m_X0_build {fu : Nat} {r0 : Nat} {M : Mem} {a1 : Int32} {M2 : Mem} (h : m_X0_build fu r0 M a1 = some M2) : Fr (w_X0_build r0) (v_X0_build r0) M M2 := by
  unfold m_X0_build at h
  have F0 : Fr (w_X0_build r0) (v_X0_build r0) M M := Fr.rf
  obtain ⟨x1, hr2, h⟩ := bind_elim h
  have F3 := F0.tr (lp_fr (w := (w_X0_build r0)) (v := (v_X0_build r0)) (fun x : Int32 × Mem => x.2) (fun x : Mem => x) (fun s o hq => fr_b_X0_build_2 hq) _ _ _ hr2)
  obtain ⟨M_9, rfl⟩ : ∃ z, z = x1 := ⟨_, rfl⟩
  replace h := un1_e h
  have F4 : Fr (w_X0_build r0) (v_X0_build r0) M M_9 := F3
  cases h
  exact F4
set_option maxHeartbeats 1000000 in
theorem fr_j_X0_findWalls_151i {fu : Nat} {r0 : Nat} {M : Mem} {s2 : Int32} {s3 : Int32} {s5 : Int32} {s8 : Int32} {o : (Int32 × Int32 × Mem) ⊕ (Mem)} (h : j_X0_findWalls_151i fu r0 M s2 s3 s5 s8 = some o) : Fr (w_X0_findWalls r0) (v_X0_findWalls r0) M ((Sum.elim (fun x : Int32 × Int32 × Mem => x.2.2) (fun x : Mem => x)) o) := by
  unfold j_X0_findWalls_151i at h
  have F0 : Fr (w_X0_findWalls r0) (v_X0_findWalls r0) M M := Fr.rf
  obtain ⟨M_27, e1, h⟩ := bnd_elim h
  have F2 : Fr (w_X0_findWalls r0) (v_X0_findWalls r0) M M_27 := F0.tr (by rw [e1]; exact Fr.wr (Or.inr (Or.inr (Or.inl ⟨by omega, by decide⟩))))
  obtain ⟨M_29, e3, h⟩ := bnd_elim h
  have F4 : Fr (w_X0_findWalls r0) (v_X0_findWalls r0) M M_29 := F2.tr (by rw [e3]; exact Fr.wr (Or.inr (Or.inr (Or.inr (Or.inl ⟨by omega, by decide⟩)))))
  obtain ⟨v_31, e5, h⟩ := bnd_elim h
  cases h
  exact F4
set_option maxHeartbeats 1000000 in
theorem fr_j_X0_findWalls_114i {fu : Nat} {r0 : Nat} {M : Mem} {s2 : Int32} {s3 : Int32} {s4 : Int32} {s5 : Int32} {s6 : Int32} {t0 : Int32} {o : (Int32 × Int32 × Mem) ⊕ (Mem)} (h : j_X0_findWalls_114i fu r0 M s2 s3 s4 s5 s6 t0 = some o) : Fr (w_X0_findWalls r0) (v_X0_findWalls r0) M ((Sum.elim (fun x : Int32 × Int32 × Mem => x.2.2) (fun x : Mem => x)) o) := by
  unfold j_X0_findWalls_114i at h
  have F0 : Fr (w_X0_findWalls r0) (v_X0_findWalls r0) M M := Fr.rf
  by_cases hc1 : s4 = 0
  · rw [if_pos hc1] at h
    exact F0.tr (fr_j_X0_findWalls_151i h)
  · rw [if_neg hc1] at h
    by_cases hc2 : t0 < (rd M 115 5)
    · rw [if_pos hc2] at h
      exact F0.tr (fr_j_X0_findWalls_151i h)
    · rw [if_neg hc2] at h
      by_cases hc3 : t0 = (rd M 115 5)
      · rw [if_pos hc3] at h
        obtain ⟨r_38, hr4, h⟩ := bind_elim h
        by_cases hc5 : r_38 ≤ s6
        · rw [if_pos hc5] at h
          obtain ⟨v_40, e6, h⟩ := bnd_elim h
          cases h
          exact F0
        · rw [if_neg hc5] at h
          exact F0.tr (fr_j_X0_findWalls_151i h)
      · rw [if_neg hc3] at h
        obtain ⟨v_35, e7, h⟩ := bnd_elim h
        cases h
        exact F0
set_option maxHeartbeats 1000000 in
theorem fr_b_X0_findWalls_41 {fu : Nat} {r0 : Nat} {s2 : Int32} {s3 : Int32} {s0 : Int32 × Int32 × Mem} {o : (Int32 × Int32 × Mem) ⊕ (Mem)} (h : b_X0_findWalls_41 fu r0 s2 s3 s0 = some o) : Fr (w_X0_findWalls r0) (v_X0_findWalls r0) ((fun x : Int32 × Int32 × Mem => x.2.2) s0) (Sum.elim (fun x : Int32 × Int32 × Mem => x.2.2) (fun x : Mem => x) o) := by
  obtain ⟨c4, c5, M⟩ := s0
  unfold b_X0_findWalls_41 at h
  replace h := un3_e h
  have F0 : Fr (w_X0_findWalls r0) (v_X0_findWalls r0) M M := Fr.rf
  by_cases hc1 : (ishl 1 (rd M r0 0)) ≤ c5
  · rw [if_pos hc1] at h
    cases h
    exact F0
  · rw [if_neg hc1] at h
    obtain ⟨r_12, hr2, h⟩ := bind_elim h
    by_cases hc3 : s2 < r_12
    · rw [if_pos hc3] at h
      obtain ⟨v_14, e4, h⟩ := bnd_elim h
      cases h
      exact F0
    · rw [if_neg hc3] at h
      by_cases hc5 : (c5 &&& s3) = 0
      · rw [if_pos hc5] at h
        obtain ⟨M_18, hr6, h⟩ := bind_elim h
        have F7 : Fr (w_X0_findWalls r0) (v_X0_findWalls r0) M M_18 := F0.tr ((fr_m_X0_build hr6).mono (fun k j h => by
            unfold w_X0_build at h
            exact (Or.inr (Or.inr (Or.inr (Or.inr (Or.inr (Or.inr ⟨by omega, h.2⟩))))))) (fun k j h => absurd h id))
        obtain ⟨M_20, hr8, h⟩ := bind_elim h
        have F9 : Fr (w_X0_findWalls r0) (v_X0_findWalls r0) M M_20 := F7.tr ((fr_m_X0_fillTempted hr8).mono (fun k j h => by
            unfold w_X0_fillTempted at h
            rcases h with h | h | h | h
            · exact (Or.inl ⟨by omega, h.2⟩)
            · exact (Or.inr (Or.inl ⟨by omega, h.2⟩))
            · exact (Or.inr (Or.inr (Or.inr (Or.inr (Or.inl ⟨by omega, h.2⟩)))))
            · exact (Or.inr (Or.inr (Or.inr (Or.inr (Or.inr (Or.inl ⟨by omega, h.2⟩))))))) (fun k j h => absurd h id))
        obtain ⟨r_22, hr10, h⟩ := bind_elim h
        by_cases hc11 : r_22 = (-1)
        · rw [if_pos hc11] at h
          exact F9.tr (fr_j_X0_findWalls_114i h)
        · rw [if_neg hc11] at h
          obtain ⟨r_25, hr12, h⟩ := bind_elim h
          exact F9.tr (fr_j_X0_findWalls_114i h)
      · rw [if_neg hc5] at h
        obtain ⟨v_42, e13, h⟩ := bnd_elim h
        cases h
        exact F0
set_option maxHeartbeats 1000000 in
theorem fr_m_X0_findWalls {fu : Nat} {r0 : Nat} {M : Mem} {a2 : Int32} {M2 : Mem} (h : m_X0_findWalls fu r0 M a2 = some M2) : Fr (w_X0_findWalls r0) (v_X0_findWalls r0) M M2 := by
  unfold m_X0_findWalls at h
  have F0 : Fr (w_X0_findWalls r0) (v_X0_findWalls r0) M M := Fr.rf
  obtain ⟨x1, hr2, h⟩ := bind_elim h
  obtain ⟨v_9, rfl⟩ : ∃ z, z = x1 := ⟨_, rfl⟩
  replace h := un1_e h
  obtain ⟨x3, hr4, h⟩ := bind_elim h
  have F5 := F0.tr (lp_fr (w := (w_X0_findWalls r0)) (v := (v_X0_findWalls r0)) (fun x : Int32 × Int32 × Mem => x.2.2) (fun x : Mem => x) (fun s o hq => fr_b_X0_findWalls_41 hq) _ _ _ hr4)
  obtain ⟨M_46, rfl⟩ : ∃ z, z = x3 := ⟨_, rfl⟩
  replace h := un1_e h
  have F6 : Fr (w_X0_findWalls r0) (v_X0_findWalls r0) M M_46 := F5
  cases h
  exact F6
set_option maxHeartbeats 1000000 in
theorem fr_m_X5_walls {fu : Nat} {M : Mem} {a1 : Int32} {a2 : Int32} {rr : Int32} {M2 : Mem} (h : m_X5_walls fu M a1 a2 = some (rr, M2)) : Fr (w_X5_walls) (v_X5_walls) M M2 := by
  unfold m_X5_walls at h
  have F0 : Fr (w_X5_walls) (v_X5_walls) M M := Fr.rf
  by_cases hc1 : a1 < 0
  · rw [if_pos hc1] at h
    cases h
    exact F0
  · rw [if_neg hc1] at h
    by_cases hc2 : 2 < a1
    · rw [if_pos hc2] at h
      cases h
      exact F0
    · rw [if_neg hc2] at h
      by_cases hc3 : a2 < 0
      · rw [if_pos hc3] at h
        cases h
        exact F0
      · rw [if_neg hc3] at h
        by_cases hc4 : a2 ≤ 1
        · rw [if_pos hc4] at h
          obtain ⟨M_6, hr5, h⟩ := bind_elim h
          have F6 : Fr (w_X5_walls) (v_X5_walls) M M_6 := F0.tr ((fr_m_X4_copy hr5).mono (fun k j h => by
              unfold w_X4_copy at h
              rcases h with h | h | h | h | h | h | h | h
              · exact (Or.inl ⟨by omega, h.2⟩)
              · exact (Or.inr (Or.inl ⟨by omega, h.2⟩))
              · exact (Or.inr (Or.inr (Or.inl ⟨by omega, h.2⟩)))
              · exact (Or.inr (Or.inr (Or.inr (Or.inr (Or.inr (Or.inl ⟨by omega, h.2⟩))))))
              · exact (Or.inr (Or.inr (Or.inr (Or.inr (Or.inr (Or.inr (Or.inl ⟨by omega, h.2⟩)))))))
              · exact (Or.inr (Or.inr (Or.inr (Or.inr (Or.inr (Or.inr (Or.inr (Or.inr (Or.inr (Or.inr (Or.inr (Or.inl (by omega)))))))))))))
              · exact (Or.inr (Or.inr (Or.inr (Or.inr (Or.inr (Or.inr (Or.inr (Or.inr (Or.inr (Or.inr (Or.inr (Or.inr (Or.inl (by omega))))))))))))))
              · exact (Or.inr (Or.inr (Or.inr (Or.inr (Or.inr (Or.inr (Or.inr (Or.inr (Or.inr (Or.inr (Or.inr (Or.inr (Or.inr (by omega))))))))))))))) (fun k j h => by
              unfold v_X4_copy at h
              exact (by unfold v_X5_walls; exact (by omega))))
          obtain ⟨M_8, hr7, h⟩ := bind_elim h
          have F8 : Fr (w_X5_walls) (v_X5_walls) M M_8 := F6.tr ((fr_m_X0_findWalls hr7).mono (fun k j h => by
              unfold w_X0_findWalls at h
              rcases h with h | h | h | h | h | h | h
              · exact (Or.inr (Or.inr (Or.inr (Or.inl ⟨by omega, h.2⟩))))
              · exact (Or.inr (Or.inr (Or.inr (Or.inr (Or.inl ⟨by omega, h.2⟩)))))
              · exact (Or.inr (Or.inr (Or.inr (Or.inr (Or.inr (Or.inr (Or.inr (Or.inl ⟨by omega, h.2⟩))))))))
              · exact (Or.inr (Or.inr (Or.inr (Or.inr (Or.inr (Or.inr (Or.inr (Or.inr (Or.inl ⟨by omega, h.2⟩)))))))))
              · exact (Or.inr (Or.inr (Or.inr (Or.inr (Or.inr (Or.inr (Or.inr (Or.inr (Or.inr (Or.inl ⟨by omega, h.2⟩))))))))))
              · exact (Or.inr (Or.inr (Or.inr (Or.inr (Or.inr (Or.inr (Or.inr (Or.inr (Or.inr (Or.inr (Or.inl ⟨by omega, h.2⟩)))))))))))
              · exact (Or.inr (Or.inr (Or.inr (Or.inr (Or.inr (Or.inr (Or.inr (Or.inr (Or.inr (Or.inr (Or.inr (Or.inr (Or.inl (by omega))))))))))))))) (fun k j h => absurd h id))
          by_cases hc9 : a2 = 0
          · rw [if_pos hc9] at h
            cases h
            exact F8
          · rw [if_neg hc9] at h
            cases h
            exact F8
        · rw [if_neg hc4] at h
          cases h
          exact F0
set_option maxHeartbeats 1000000 in
theorem fr_j_X1_prepare_195i {fu : Nat} {r0 : Nat} {M : Mem} {s3 : Int32} {s4 : Int32} {s5 : Int32} {s6 : Int32} {t0 : Nat} {t1 : Int32} {t2 : Int32} (g_t0 : rg ((143 ≤ t0 ∧ t0 < 146))) {o : (Int32 × Mem) ⊕ (Mem)} (h : j_X1_prepare_195i fu r0 M s3 s4 s5 s6 t0 t1 t2 = some o) : Fr (w_X1_prepare r0) (v_X1_prepare r0) M ((Sum.elim (fun x : Int32 × Mem => x.2) (fun x : Mem => x)) o) := by
  simp only [rg] at g_t0
  unfold j_X1_prepare_195i at h
  have F0 : Fr (w_X1_prepare r0) (v_X1_prepare r0) M M := Fr.rf
  obtain ⟨hb1, h⟩ := chk_elim h
  have q2 := inb_lt hb1
  obtain ⟨M_33, e3, h⟩ := bnd_elim h
  have F4 : Fr (w_X1_prepare r0) (v_X1_prepare r0) M M_33 := F0.tr (by rw [e3]; exact Fr.wr (Or.inr (Or.inr (Or.inl (by omega)))))
  obtain ⟨v_35, e5, h⟩ := bnd_elim h
  cases h
  exact F4
set_option maxHeartbeats 1000000 in
theorem fr_j_X1_prepare_194i {fu : Nat} {r0 : Nat} {M : Mem} {s3 : Int32} {s4 : Int32} {s5 : Int32} {s6 : Int32} {t0 : Nat} {t1 : Int32} (g_t0 : rg ((143 ≤ t0 ∧ t0 < 146))) {o : (Int32 × Mem) ⊕ (Mem)} (h : j_X1_prepare_194i fu r0 M s3 s4 s5 s6 t0 t1 = some o) : Fr (w_X1_prepare r0) (v_X1_prepare r0) M ((Sum.elim (fun x : Int32 × Mem => x.2) (fun x : Mem => x)) o) := by
  simp only [rg] at g_t0
  unfold j_X1_prepare_194i at h
  have F0 : Fr (w_X1_prepare r0) (v_X1_prepare r0) M M := Fr.rf
  exact F0.tr (fr_j_X1_prepare_195i (by simp only [rg]; omega) h)
set_option maxHeartbeats 1000000 in
theorem fr_j_X1_prepare_188i {fu : Nat} {r0 : Nat} {M : Mem} {s3 : Int32} {s4 : Int32} {s5 : Int32} {s6 : Int32} {t0 : Nat} {t1 : Int32} {t3 : Int32} {t4 : Int32} {t5 : Int32} (g_t0 : rg ((143 ≤ t0 ∧ t0 < 146))) {o : (Int32 × Mem) ⊕ (Mem)} (h : j_X1_prepare_188i fu r0 M s3 s4 s5 s6 t0 t1 t3 t4 t5 = some o) : Fr (w_X1_prepare r0) (v_X1_prepare r0) M ((Sum.elim (fun x : Int32 × Mem => x.2) (fun x : Mem => x)) o) := by
  simp only [rg] at g_t0
  unfold j_X1_prepare_188i at h
  have F0 : Fr (w_X1_prepare r0) (v_X1_prepare r0) M M := Fr.rf
  obtain ⟨r_40, hr1, h⟩ := bind_elim h
  exact F0.tr (fr_j_X1_prepare_195i (by simp only [rg]; omega) h)
set_option maxHeartbeats 1000000 in
theorem fr_j_X1_prepare_154i {fu : Nat} {r0 : Nat} {M : Mem} {s3 : Int32} {s4 : Int32} {s5 : Int32} {s6 : Int32} {s7 : Int32} {t0 : Nat} {t1 : Int32} {t2 : Int32} (g_t0 : rg ((140 ≤ t0 ∧ t0 < 143))) {o : (Int32 × Mem) ⊕ (Mem)} (h : j_X1_prepare_154i fu r0 M s3 s4 s5 s6 s7 t0 t1 t2 = some o) : Fr (w_X1_prepare r0) (v_X1_prepare r0) M ((Sum.elim (fun x : Int32 × Mem => x.2) (fun x : Mem => x)) o) := by
  simp only [rg] at g_t0
  unfold j_X1_prepare_154i at h
  have F0 : Fr (w_X1_prepare r0) (v_X1_prepare r0) M M := Fr.rf
  obtain ⟨hb1, h⟩ := chk_elim h
  have q2 := inb_lt hb1
  obtain ⟨M_28, e3, h⟩ := bnd_elim h
  have F4 : Fr (w_X1_prepare r0) (v_X1_prepare r0) M M_28 := F0.tr (by rw [e3]; exact Fr.wr (Or.inr (Or.inr (Or.inl (by omega)))))
  obtain ⟨hb5, h⟩ := chk_elim h
  have q6 := inb_lt hb5
  by_cases hc7 : s5 = 0
  · rw [if_pos hc7] at h
    exact F4.tr (fr_j_X1_prepare_194i (by simp only [rg]; omega) h)
  · rw [if_neg hc7] at h
    by_cases hc8 : s4 = 2
    · rw [if_pos hc8] at h
      by_cases hc9 : s7 = 1
      · rw [if_pos hc9] at h
        exact F4.tr (fr_j_X1_prepare_188i (by simp only [rg]; omega) h)
      · rw [if_neg hc9] at h
        exact F4.tr (fr_j_X1_prepare_188i (by simp only [rg]; omega) h)
    · rw [if_neg hc8] at h
      exact F4.tr (fr_j_X1_prepare_194i (by simp only [rg]; omega) h)
set_option maxHeartbeats 1000000 in
theorem fr_j_X1_prepare_153i {fu : Nat} {r0 : Nat} {M : Mem} {s3 : Int32} {s4 : Int32} {s5 : Int32} {s6 : Int32} {s7 : Int32} {t0 : Nat} {t1 : Int32} (g_t0 : rg ((140 ≤ t0 ∧ t0 < 143))) {o : (Int32 × Mem) ⊕ (Mem)} (h : j_X1_prepare_153i fu r0 M s3 s4 s5 s6 s7 t0 t1 = some o) : Fr (w_X1_prepare r0) (v_X1_prepare r0) M ((Sum.elim (fun x : Int32 × Mem => x.2) (fun x : Mem => x)) o) := by
  simp only [rg] at g_t0
  unfold j_X1_prepare_153i at h
  have F0 : Fr (w_X1_prepare r0) (v_X1_prepare r0) M M := Fr.rf
  exact F0.tr (fr_j_X1_prepare_154i (by simp only [rg]; omega) h)
set_option maxHeartbeats 1000000 in
theorem fr_j_X1_prepare_147i {fu : Nat} {r0 : Nat} {M : Mem} {s3 : Int32} {s4 : Int32} {s5 : Int32} {s6 : Int32} {s7 : Int32} {t0 : Nat} {t1 : Int32} {t3 : Int32} {t4 : Int32} {t5 : Int32} (g_t0 : rg ((140 ≤ t0 ∧ t0 < 143))) {o : (Int32 × Mem) ⊕ (Mem)} (h : j_X1_prepare_147i fu r0 M s3 s4 s5 s6 s7 t0 t1 t3 t4 t5 = some o) : Fr (w_X1_prepare r0) (v_X1_prepare r0) M ((Sum.elim (fun x : Int32 × Mem => x.2) (fun x : Mem => x)) o) := by
  simp only [rg] at g_t0
  unfold j_X1_prepare_147i at h
  have F0 : Fr (w_X1_prepare r0) (v_X1_prepare r0) M M := Fr.rf
  obtain ⟨r_44, hr1, h⟩ := bind_elim h
  exact F0.tr (fr_j_X1_prepare_154i (by simp only [rg]; omega) h)
set_option maxHeartbeats 1000000 in
theorem fr_b_X1_prepare_77 {fu : Nat} {r0 : Nat} {s3 : Int32} {s4 : Int32} {s5 : Int32} {s0 : Int32 × Mem} {o : (Int32 × Mem) ⊕ (Mem)} (h : b_X1_prepare_77 fu r0 s3 s4 s5 s0 = some o) : Fr (w_X1_prepare r0) (v_X1_prepare r0) ((fun x : Int32 × Mem => x.2) s0) (Sum.elim (fun x : Int32 × Mem => x.2) (fun x : Mem => x) o) := by
  obtain ⟨c6, M⟩ := s0
  unfold b_X1_prepare_77 at h
  replace h := un2_e h
  have F0 : Fr (w_X1_prepare r0) (v_X1_prepare r0) M M := Fr.rf
  by_cases hc1 : (Int32.ofNat (stN 4)) ≤ c6
  · rw [if_pos hc1] at h
    cases h
    exact F0
  · rw [if_neg hc1] at h
    obtain ⟨hb2, h⟩ := chk_elim h
    have q3 := inb_lt hb2
    obtain ⟨v_19, e4, h⟩ := bnd_elim h
    obtain ⟨r_22, hr5, h⟩ := bind_elim h
    obtain ⟨hb6, h⟩ := chk_elim h
    have q7 := inb_lt hb6
    obtain ⟨M_24, e8, h⟩ := bnd_elim h
    have F9 : Fr (w_X1_prepare r0) (v_X1_prepare r0) M M_24 := F0.tr (by rw [e8]; exact Fr.wr (Or.inr (Or.inr (Or.inl (by omega)))))
    by_cases hc10 : s5 = 0
    · rw [if_pos hc10] at h
      exact F9.tr (fr_j_X1_prepare_153i (by simp only [rg]; omega) h)
    · rw [if_neg hc10] at h
      by_cases hc11 : v_19 = 3
      · rw [if_pos hc11] at h
        by_cases hc12 : s4 = 1
        · rw [if_pos hc12] at h
          exact F9.tr (fr_j_X1_prepare_147i (by simp only [rg]; omega) h)
        · rw [if_neg hc12] at h
          exact F9.tr (fr_j_X1_prepare_147i (by simp only [rg]; omega) h)
      · rw [if_neg hc11] at h
        exact F9.tr (fr_j_X1_prepare_153i (by simp only [rg]; omega) h)
set_option maxHeartbeats 1000000 in
theorem fr_b_X1_prepare_27 {fu : Nat} {r0 : Nat} {s0 : Int32 × Mem} {o : (Int32 × Mem) ⊕ (Mem)} (h : b_X1_prepare_27 fu r0 s0 = some o) : Fr (w_X1_prepare r0) (v_X1_prepare r0) ((fun x : Int32 × Mem => x.2) s0) (Sum.elim (fun x : Int32 × Mem => x.2) (fun x : Mem => x) o) := by
  obtain ⟨c3, M⟩ := s0
  unfold b_X1_prepare_27 at h
  replace h := un2_e h
  have F0 : Fr (w_X1_prepare r0) (v_X1_prepare r0) M M := Fr.rf
  by_cases hc1 : (rd M 130 6) < c3
  · rw [if_pos hc1] at h
    cases h
    exact F0
  · rw [if_neg hc1] at h
    obtain ⟨M_8, e2, h⟩ := bnd_elim h
    have F3 : Fr (w_X1_prepare r0) (v_X1_prepare r0) M M_8 := F0.tr (by rw [e2]; exact Fr.wr (Or.inr (Or.inr (Or.inr (Or.inl ⟨by have z0 : ix 0 = 0 := (by decide); have z1 : ix 1 = 1 := (by decide); omega, by decide⟩)))))
    obtain ⟨M_10, e4, h⟩ := bnd_elim h
    have F5 : Fr (w_X1_prepare r0) (v_X1_prepare r0) M M_10 := F3.tr (by rw [e4]; exact Fr.wr (Or.inr (Or.inr (Or.inr (Or.inl ⟨by have z0 : ix 0 = 0 := (by decide); have z1 : ix 1 = 1 := (by decide); omega, by decide⟩)))))
    obtain ⟨⟨r_13, M_14⟩, hr6, h⟩ := bind_elim h
    replace h := un2_e h
    have F7 : Fr (w_X1_prepare r0) (v_X1_prepare r0) M M_14 := F5.tr ((fr_m_X4_does hr6).mono (fun k j h => by
        unfold w_X4_does at h
        exact (Or.inr (Or.inr (Or.inr (Or.inr (by omega)))))) (fun k j h => absurd h id))
    obtain ⟨r_16, hr8, h⟩ := bind_elim h
    obtain ⟨x9, hr10, h⟩ := bind_elim h
    have F11 := F7.tr (lp_fr (w := (w_X1_prepare r0)) (v := (v_X1_prepare r0)) (fun x : Int32 × Mem => x.2) (fun x : Mem => x) (fun s o hq => fr_b_X1_prepare_77 hq) _ _ _ hr10)
    obtain ⟨M_47, rfl⟩ : ∃ z, z = x9 := ⟨_, rfl⟩
    replace h := un1_e h
    have F12 : Fr (w_X1_prepare r0) (v_X1_prepare r0) M M_47 := F11
    obtain ⟨v_48, e13, h⟩ := bnd_elim h
    cases h
    exact F12
set_option maxHeartbeats 1000000 in
theorem fr_m_X1_prepare {fu : Nat} {r0 : Nat} {M : Mem} {a2 : Int32} {M2 : Mem} (h : m_X1_prepare fu r0 M a2 = some M2) : Fr (w_X1_prepare r0) (v_X1_prepare r0) M M2 := by
  unfold m_X1_prepare at h
  have F0 : Fr (w_X1_prepare r0) (v_X1_prepare r0) M M := Fr.rf
  obtain ⟨M_1, e1, h⟩ := bnd_elim h
  have F2 : Fr (w_X1_prepare r0) (v_X1_prepare r0) M M_1 := F0.tr (by rw [e1]; exact Fr.wr (Or.inl ⟨by omega, by decide⟩))
  obtain ⟨M_3, e3, h⟩ := bnd_elim h
  have F4 : Fr (w_X1_prepare r0) (v_X1_prepare r0) M M_3 := F2.tr (by rw [e3]; exact Fr.wr (Or.inr (Or.inl ⟨by omega, by decide⟩)))
  obtain ⟨M_5, e5, h⟩ := bnd_elim h
  have F6 : Fr (w_X1_prepare r0) (v_X1_prepare r0) M M_5 := F4.tr (by rw [e5]; exact Fr.wr (Or.inr (Or.inr (Or.inr (Or.inl ⟨by have z0 : ix 0 = 0 := (by decide); have z1 : ix 1 = 1 := (by decide); omega, by decide⟩)))))
  obtain ⟨x7, hr8, h⟩ := bind_elim h
  have F9 := F6.tr (lp_fr (w := (w_X1_prepare r0)) (v := (v_X1_prepare r0)) (fun x : Int32 × Mem => x.2) (fun x : Mem => x) (fun s o hq => fr_b_X1_prepare_27 hq) _ _ _ hr8)
  obtain ⟨M_52, rfl⟩ : ∃ z, z = x7 := ⟨_, rfl⟩
  replace h := un1_e h
  have F10 : Fr (w_X1_prepare r0) (v_X1_prepare r0) M M_52 := F9
  cases h
  exact F10
set_option maxHeartbeats 1000000 in
theorem fr_b_J7_fill_d0a16_6 {fu : Nat} {k0 : Nat} {n0 : Nat} {s1 : Int64} {s4 : Int32} {s0 : Int32 × Mem} {o : (Int32 × Mem) ⊕ (Mem)} (h : b_J7_fill_d0a16_6 fu k0 n0 s1 s4 s0 = some o) : Fr (w_J7_fill_d0a16 k0) (v_J7_fill_d0a16 k0) ((fun x : Int32 × Mem => x.2) s0) (Sum.elim (fun x : Int32 × Mem => x.2) (fun x : Mem => x) o) := by
  obtain ⟨c3, M⟩ := s0
  unfold b_J7_fill_d0a16_6 at h
  replace h := un2_e h
  have F0 : Fr (w_J7_fill_d0a16 k0) (v_J7_fill_d0a16 k0) M M := Fr.rf
  by_cases hc1 : s4 ≤ c3
  · rw [if_pos hc1] at h
    cases h
    exact F0
  · rw [if_neg hc1] at h
    obtain ⟨hb2, h⟩ := chk_elim h
    have q3 := inb_lt hb2
    obtain ⟨M_5, e4, h⟩ := bnd_elim h
    have F5 : Fr (w_J7_fill_d0a16 k0) (v_J7_fill_d0a16 k0) M M_5 := F0.tr (by rw [e4]; exact Fr.wrl (by unfold v_J7_fill_d0a16; exact (by omega)))
    obtain ⟨v_7, e6, h⟩ := bnd_elim h
    cases h
    exact F5
set_option maxHeartbeats 1000000 in
theorem fr_m_J7_fill_d0a16 {fu : Nat} {k0 : Nat} {n0 : Nat} {M : Mem} {a1 : Int64} {M2 : Mem} (h : m_J7_fill_d0a16 fu k0 n0 M a1 = some M2) : Fr (w_J7_fill_d0a16 k0) (v_J7_fill_d0a16 k0) M M2 := by
  unfold m_J7_fill_d0a16 at h
  have F0 : Fr (w_J7_fill_d0a16 k0) (v_J7_fill_d0a16 k0) M M := Fr.rf
  obtain ⟨v_1, e1, h⟩ := bnd_elim h
  obtain ⟨x2, hr3, h⟩ := bind_elim h
  have F4 := F0.tr (lp_fr (w := (w_J7_fill_d0a16 k0)) (v := (v_J7_fill_d0a16 k0)) (fun x : Int32 × Mem => x.2) (fun x : Mem => x) (fun s o hq => fr_b_J7_fill_d0a16_6 hq) _ _ _ hr3)
  obtain ⟨M_11, rfl⟩ : ∃ z, z = x2 := ⟨_, rfl⟩
  replace h := un1_e h
  have F5 : Fr (w_J7_fill_d0a16 k0) (v_J7_fill_d0a16 k0) M M_11 := F4
  cases h
  exact F5
set_option maxHeartbeats 1000000 in
theorem fr_j_X1_choose_57i {fu : Nat} {M : Mem} {s1 : Int32} {s2 : Int32} {s3 : Int32} {s4 : Int64} {o : (Int32 × Mem) ⊕ (Mem)} (h : j_X1_choose_57i fu M s1 s2 s3 s4 = some o) : Fr (w_X1_choose) (v_X1_choose) M ((Sum.elim (fun x : Int32 × Mem => x.2) (fun x : Mem => x)) o) := by
  unfold j_X1_choose_57i at h
  have F0 : Fr (w_X1_choose) (v_X1_choose) M M := Fr.rf
  obtain ⟨hb1, h⟩ := chk_elim h
  have q2 := inb_lt hb1
  obtain ⟨M_12, e3, h⟩ := bnd_elim h
  have F4 : Fr (w_X1_choose) (v_X1_choose) M M_12 := F0.tr (by rw [e3]; exact Fr.wrl (by unfold v_X1_choose; exact (by omega)))
  obtain ⟨hb5, h⟩ := chk_elim h
  have q6 := inb_lt hb5
  obtain ⟨M_15, e7, h⟩ := bnd_elim h
  have F8 : Fr (w_X1_choose) (v_X1_choose) M M_15 := F4.tr (by rw [e7]; exact Fr.wr (by unfold w_X1_choose; exact (by omega)))
  obtain ⟨v_17, e9, h⟩ := bnd_elim h
  cases h
  exact F8
set_option maxHeartbeats 1000000 in
theorem fr_b_X1_choose_2 {fu : Nat} {s1 : Int32} {s2 : Int32} {s0 : Int32 × Mem} {o : (Int32 × Mem) ⊕ (Mem)} (h : b_X1_choose_2 fu s1 s2 s0 = some o) : Fr (w_X1_choose) (v_X1_choose) ((fun x : Int32 × Mem => x.2) s0) (Sum.elim (fun x : Int32 × Mem => x.2) (fun x : Mem => x) o) := by
  obtain ⟨c3, M⟩ := s0
  unfold b_X1_choose_2 at h
  replace h := un2_e h
  have F0 : Fr (w_X1_choose) (v_X1_choose) M M := Fr.rf
  by_cases hc1 : (Int32.ofNat (stN 4)) ≤ c3
  · rw [if_pos hc1] at h
    cases h
    exact F0
  · rw [if_neg hc1] at h
    obtain ⟨hb2, h⟩ := chk_elim h
    have q3 := inb_lt hb2
    obtain ⟨hb4, h⟩ := chk_elim h
    have q5 := inb_lt hb4
    obtain ⟨r_5, hr6, h⟩ := bind_elim h
    obtain ⟨r_7, hr7, h⟩ := bind_elim h
    obtain ⟨v_8, e8, h⟩ := bnd_elim h
    by_cases hc9 : c3 = 0
    · rw [if_pos hc9] at h
      exact F0.tr (fr_j_X1_choose_57i h)
    · rw [if_neg hc9] at h
      by_cases hc10 : (lg_cmp v_8 (rdl M 133 (ix s1))) ≤ 0
      · rw [if_pos hc10] at h
        obtain ⟨v_20, e11, h⟩ := bnd_elim h
        cases h
        exact F0
      · rw [if_neg hc10] at h
        exact F0.tr (fr_j_X1_choose_57i h)
set_option maxHeartbeats 1000000 in
theorem fr_m_X1_choose {fu : Nat} {M : Mem} {a1 : Int32} {a2 : Int32} {M2 : Mem} (h : m_X1_choose fu M a1 a2 = some M2) : Fr (w_X1_choose) (v_X1_choose) M M2 := by
  unfold m_X1_choose at h
  have F0 : Fr (w_X1_choose) (v_X1_choose) M M := Fr.rf
  obtain ⟨x1, hr2, h⟩ := bind_elim h
  have F3 := F0.tr (lp_fr (w := (w_X1_choose)) (v := (v_X1_choose)) (fun x : Int32 × Mem => x.2) (fun x : Mem => x) (fun s o hq => fr_b_X1_choose_2 hq) _ _ _ hr2)
  obtain ⟨M_24, rfl⟩ : ∃ z, z = x1 := ⟨_, rfl⟩
  replace h := un1_e h
  have F4 : Fr (w_X1_choose) (v_X1_choose) M M_24 := F3
  cases h
  exact F4
set_option maxHeartbeats 1000000 in
theorem fr_b_X1_play_18 {fu : Nat} {s1 : Int32} {s2 : Int32} {s3 : Int32} {s0 : Int32 × Mem} {o : (Int32 × Mem) ⊕ (Mem)} (h : b_X1_play_18 fu s1 s2 s3 s0 = some o) : Fr (w_X1_play) (v_X1_play) ((fun x : Int32 × Mem => x.2) s0) (Sum.elim (fun x : Int32 × Mem => x.2) (fun x : Mem => x) o) := by
  obtain ⟨c4, M⟩ := s0
  unfold b_X1_play_18 at h
  replace h := un2_e h
  have F0 : Fr (w_X1_play) (v_X1_play) M M := Fr.rf
  by_cases hc1 : (rd M 130 6) < c4
  · rw [if_pos hc1] at h
    cases h
    exact F0
  · rw [if_neg hc1] at h
    obtain ⟨M_6, hr2, h⟩ := bind_elim h
    have F3 : Fr (w_X1_play) (v_X1_play) M M_6 := F0.tr ((fr_m_X1_choose hr2).mono (fun k j h => by
        unfold w_X1_choose at h
        exact (by unfold w_X1_play; exact (by omega))) (fun k j h => by
        unfold v_X1_choose at h
        exact (Or.inr (by omega))))
    obtain ⟨v_7, e4, h⟩ := bnd_elim h
    cases h
    exact F3
set_option maxHeartbeats 1000000 in
theorem fr_b_X1_play_10 {fu : Nat} {s1 : Int32} {s2 : Int32} {s0 : Int32 × Mem} {o : (Int32 × Mem) ⊕ (Mem)} (h : b_X1_play_10 fu s1 s2 s0 = some o) : Fr (w_X1_play) (v_X1_play) ((fun x : Int32 × Mem => x.2) s0) (Sum.elim (fun x : Int32 × Mem => x.2) (fun x : Mem => x) o) := by
  obtain ⟨c3, M⟩ := s0
  unfold b_X1_play_10 at h
  replace h := un2_e h
  have F0 : Fr (w_X1_play) (v_X1_play) M M := Fr.rf
  by_cases hc1 : s1 ≤ c3
  · rw [if_pos hc1] at h
    cases h
    exact F0
  · rw [if_neg hc1] at h
    obtain ⟨x2, hr3, h⟩ := bind_elim h
    have F4 := F0.tr (lp_fr (w := (w_X1_play)) (v := (v_X1_play)) (fun x : Int32 × Mem => x.2) (fun x : Mem => x) (fun s o hq => fr_b_X1_play_18 hq) _ _ _ hr3)
    obtain ⟨M_11, rfl⟩ : ∃ z, z = x2 := ⟨_, rfl⟩
    replace h := un1_e h
    have F5 : Fr (w_X1_play) (v_X1_play) M M_11 := F4
    obtain ⟨hb6, h⟩ := chk_elim h
    obtain ⟨M_13, e7, h⟩ := bnd_elim h
    have F8 : Fr (w_X1_play) (v_X1_play) M M_13 := F5.tr (by rw [e7]; exact Fr.cpl (fun j => (Or.inl (by omega))))
    obtain ⟨v_15, e9, h⟩ := bnd_elim h
    cases h
    exact F8
set_option maxHeartbeats 1000000 in
theorem fr_m_X1_play {fu : Nat} {M : Mem} {a1 : Int32} {a2 : Int32} {M2 : Mem} (h : m_X1_play fu M a1 a2 = some M2) : Fr (w_X1_play) (v_X1_play) M M2 := by
  unfold m_X1_play at h
  have F0 : Fr (w_X1_play) (v_X1_play) M M := Fr.rf
  obtain ⟨M_2, hr1, h⟩ := bind_elim h
  have F2 : Fr (w_X1_play) (v_X1_play) M M_2 := F0.tr ((fr_m_J7_fill_d0a16 hr1).mono (fun k j h => absurd h id) (fun k j h => by
      unfold v_J7_fill_d0a16 at h
      exact (Or.inl (by omega))))
  obtain ⟨x3, hr4, h⟩ := bind_elim h
  have F5 := F2.tr (lp_fr (w := (w_X1_play)) (v := (v_X1_play)) (fun x : Int32 × Mem => x.2) (fun x : Mem => x) (fun s o hq => fr_b_X1_play_10 hq) _ _ _ hr4)
  obtain ⟨M_19, rfl⟩ : ∃ z, z = x3 := ⟨_, rfl⟩
  replace h := un1_e h
  have F6 : Fr (w_X1_play) (v_X1_play) M M_19 := F5
  cases h
  exact F6
set_option maxHeartbeats 1000000 in
theorem fr_m_X5_two {fu : Nat} {M : Mem} {a1 : Int32} {a2 : Int32} {a3 : Int32} {a4 : Int32} {rr : Int64} {M2 : Mem} (h : m_X5_two fu M a1 a2 a3 a4 = some (rr, M2)) : Fr (w_X5_two) (v_X5_two) M M2 := by
  unfold m_X5_two at h
  have F0 : Fr (w_X5_two) (v_X5_two) M M := Fr.rf
  obtain ⟨r_2, hr1, h⟩ := bind_elim h
  by_cases hc2 : (rd M 0 0) = 2
  · rw [if_pos hc2] at h
    by_cases hc3 : 60 < r_2
    · rw [if_pos hc3] at h
      cases h
      exact F0
    · rw [if_neg hc3] at h
      by_cases hc4 : a3 < 0
      · rw [if_pos hc4] at h
        cases h
        exact F0
      · rw [if_neg hc4] at h
        by_cases hc5 : a3 ≤ r_2
        · rw [if_pos hc5] at h
          by_cases hc6 : a1 < 1
          · rw [if_pos hc6] at h
            cases h
            exact F0
          · rw [if_neg hc6] at h
            by_cases hc7 : 40 < a1
            · rw [if_pos hc7] at h
              cases h
              exact F0
            · rw [if_neg hc7] at h
              by_cases hc8 : a2 < 0
              · rw [if_pos hc8] at h
                cases h
                exact F0
              · rw [if_neg hc8] at h
                by_cases hc9 : 1000 ≤ a2
                · rw [if_pos hc9] at h
                  cases h
                  exact F0
                · rw [if_neg hc9] at h
                  by_cases hc10 : a4 < 0
                  · rw [if_pos hc10] at h
                    cases h
                    exact F0
                  · rw [if_neg hc10] at h
                    by_cases hc11 : a4 ≤ 1
                    · rw [if_pos hc11] at h
                      obtain ⟨M_14, hr12, h⟩ := bind_elim h
                      have F13 : Fr (w_X5_two) (v_X5_two) M M_14 := F0.tr ((fr_m_X4_copy hr12).mono (fun k j h => by
                          unfold w_X4_copy at h
                          rcases h with h | h | h | h | h | h | h | h
                          · exact (Or.inl ⟨by omega, h.2⟩)
                          · exact (Or.inr (Or.inl ⟨by omega, h.2⟩))
                          · exact (Or.inr (Or.inr (Or.inl ⟨by omega, h.2⟩)))
                          · exact (Or.inr (Or.inr (Or.inr (Or.inl ⟨by omega, h.2⟩))))
                          · exact (Or.inr (Or.inr (Or.inr (Or.inr (Or.inl ⟨by omega, h.2⟩)))))
                          · exact (Or.inr (Or.inr (Or.inr (Or.inr (Or.inr (Or.inr (Or.inr (Or.inl (by omega)))))))))
                          · exact (Or.inr (Or.inr (Or.inr (Or.inr (Or.inr (Or.inr (Or.inr (Or.inr (Or.inl (by omega))))))))))
                          · exact (Or.inr (Or.inr (Or.inr (Or.inr (Or.inr (Or.inr (Or.inr (Or.inr (Or.inr (Or.inl (by omega)))))))))))) (fun k j h => by
                          unfold v_X4_copy at h
                          exact (Or.inl (by omega))))
                      obtain ⟨M_16, hr14, h⟩ := bind_elim h
                      have F15 : Fr (w_X5_two) (v_X5_two) M M_16 := F13.tr ((fr_m_X1_prepare hr14).mono (fun k j h => by
                          unfold w_X1_prepare at h
                          rcases h with h | h | h | h | h
                          · exact (Or.inr (Or.inr (Or.inr (Or.inr (Or.inr (Or.inl ⟨by omega, h.2⟩))))))
                          · exact (Or.inr (Or.inr (Or.inr (Or.inr (Or.inr (Or.inr (Or.inl ⟨by omega, h.2⟩)))))))
                          · exact (Or.inr (Or.inr (Or.inr (Or.inr (Or.inr (Or.inr (Or.inr (Or.inr (Or.inr (Or.inr (Or.inr (by omega))))))))))))
                          · exact (Or.inr (Or.inr (Or.inr (Or.inr (Or.inr (Or.inr (Or.inr (Or.inr (Or.inl (by omega))))))))))
                          · exact (Or.inr (Or.inr (Or.inr (Or.inr (Or.inr (Or.inr (Or.inr (Or.inr (Or.inl (by omega))))))))))) (fun k j h => absurd h id))
                      obtain ⟨M_18, hr16, h⟩ := bind_elim h
                      have F17 : Fr (w_X5_two) (v_X5_two) M M_18 := F15.tr ((fr_m_X1_play hr16).mono (fun k j h => by
                          unfold w_X1_play at h
                          exact (Or.inr (Or.inr (Or.inr (Or.inr (Or.inr (Or.inr (Or.inr (Or.inr (Or.inr (Or.inr (Or.inl (by omega))))))))))))) (fun k j h => by
                          unfold v_X1_play at h
                          rcases h with h | h
                          · exact (Or.inr (Or.inl (by omega)))
                          · exact (Or.inr (Or.inr (by omega)))))
                      by_cases hc18 : a4 = 0
                      · rw [if_pos hc18] at h
                        obtain ⟨hb19, h⟩ := chk_elim h
                        have q20 := inb_lt hb19
                        cases h
                        exact F17
                      · rw [if_neg hc18] at h
                        obtain ⟨hb21, h⟩ := chk_elim h
                        have q22 := inb_lt hb21
                        cases h
                        exact F17
                    · rw [if_neg hc11] at h
                      cases h
                      exact F0
        · rw [if_neg hc5] at h
          cases h
          exact F0
  · rw [if_neg hc2] at h
    cases h
    exact F0
set_option maxHeartbeats 1000000 in
theorem fr_m_X5_was {M : Mem} {a1 : Int32} {a2 : Int32} {rr : Int32} {M2 : Mem} (h : m_X5_was M a1 a2 = some (rr, M2)) : Fr (w_X5_was) (v_X5_was) M M2 := by
  unfold m_X5_was at h
  have F0 : Fr (w_X5_was) (v_X5_was) M M := Fr.rf
  obtain ⟨r_2, hr1, h⟩ := bind_elim h
  by_cases hc2 : r_2 = 0
  · rw [if_pos hc2] at h
    cases h
    exact F0
  · rw [if_neg hc2] at h
    by_cases hc3 : a2 < (-1)
    · rw [if_pos hc3] at h
      cases h
      exact F0
    · rw [if_neg hc3] at h
      by_cases hc4 : a2 ≤ 60
      · rw [if_pos hc4] at h
        obtain ⟨hb5, h⟩ := chk_elim h
        have q6 := inb_lt hb5
        obtain ⟨M_7, e7, h⟩ := bnd_elim h
        have F8 : Fr (w_X5_was) (v_X5_was) M M_7 := F0.tr (by rw [e7]; exact Fr.wr (by unfold w_X5_was; exact ⟨by omega, by decide⟩))
        cases h
        exact F8
      · rw [if_neg hc4] at h
        cases h
        exact F0
set_option maxHeartbeats 1000000 in
theorem fr_b_X5_feet_20 {fu : Nat} {s1 : Int32} {s0 : Int32 × Int64 × Int32 × Mem} {o : (Int32 × Int64 × Int32 × Mem) ⊕ (Int32 × Mem)} (h : b_X5_feet_20 fu s1 s0 = some o) : Fr (w_X5_feet) (v_X5_feet) ((fun x : Int32 × Int64 × Int32 × Mem => x.2.2.2) s0) (Sum.elim (fun x : Int32 × Int64 × Int32 × Mem => x.2.2.2) (fun x : Int32 × Mem => x.2) o) := by
  obtain ⟨c2, c3, c5, M⟩ := s0
  unfold b_X5_feet_20 at h
  replace h := un4_e h
  have F0 : Fr (w_X5_feet) (v_X5_feet) M M := Fr.rf
  by_cases hc1 : (stV 2 (ix 9)) < c5
  · rw [if_pos hc1] at h
    cases h
    exact F0
  · rw [if_neg hc1] at h
    obtain ⟨M_5, hr2, h⟩ := bind_elim h
    have F3 : Fr (w_X5_feet) (v_X5_feet) M M_5 := F0.tr ((fr_m_X4_copy hr2).mono (fun k j h => by
        unfold w_X4_copy at h
        rcases h with h | h | h | h | h | h | h | h
        · exact (Or.inl ⟨by omega, h.2⟩)
        · exact (Or.inr (Or.inl ⟨by omega, h.2⟩))
        · exact (Or.inr (Or.inr (Or.inl ⟨by omega, h.2⟩)))
        · exact (Or.inr (Or.inr (Or.inr (Or.inl ⟨by omega, h.2⟩))))
        · exact (Or.inr (Or.inr (Or.inr (Or.inr (Or.inl ⟨by omega, h.2⟩)))))
        · exact (Or.inr (Or.inr (Or.inr (Or.inr (Or.inr (Or.inl (by omega)))))))
        · exact (Or.inr (Or.inr (Or.inr (Or.inr (Or.inr (Or.inr (Or.inl (by omega))))))))
        · exact (Or.inr (Or.inr (Or.inr (Or.inr (Or.inr (Or.inr (Or.inr (by omega))))))))) (fun k j h => by
        unfold v_X4_copy at h
        exact (by unfold v_X5_feet; exact (by omega))))
    obtain ⟨M_6, e4, h⟩ := bnd_elim h
    have F5 : Fr (w_X5_feet) (v_X5_feet) M M_6 := F3.tr (by rw [e4]; exact Fr.wr (Or.inr (Or.inr (Or.inr (Or.inr (Or.inr (Or.inl (by omega))))))))
    obtain ⟨M_9, hr6, h⟩ := bind_elim h
    have F7 : Fr (w_X5_feet) (v_X5_feet) M M_9 := F5.tr ((fr_m_X4_pass hr6).mono (fun k j h => by
        unfold w_X4_pass at h
        rcases h with h | h | h | h
        · exact (Or.inr (Or.inl ⟨by omega, h.2⟩))
        · exact (Or.inr (Or.inr (Or.inr (Or.inl ⟨by omega, h.2⟩))))
        · exact (Or.inr (Or.inr (Or.inr (Or.inr (Or.inl ⟨by omega, h.2⟩)))))
        · exact (Or.inr (Or.inr (Or.inr (Or.inr (Or.inr (Or.inr (Or.inl (by omega))))))))) (fun k j h => by
        unfold v_X4_pass at h
        exact (by unfold v_X5_feet; exact (by omega))))
    obtain ⟨r_11, hr8, h⟩ := bind_elim h
    by_cases hc9 : c5 = 0
    · rw [if_pos hc9] at h
      obtain ⟨v_13, e10, h⟩ := bnd_elim h
      cases h
      exact F7
    · rw [if_neg hc9] at h
      by_cases hc11 : (lg_cmp r_11 c3) ≤ 0
      · rw [if_pos hc11] at h
        obtain ⟨v_16, e12, h⟩ := bnd_elim h
        cases h
        exact F7
      · rw [if_neg hc11] at h
        obtain ⟨v_18, e13, h⟩ := bnd_elim h
        cases h
        exact F7
set_option maxHeartbeats 1000000 in
theorem fr_m_X5_feet {fu : Nat} {M : Mem} {a1 : Int32} {rr : Int32} {M2 : Mem} (h : m_X5_feet fu M a1 = some (rr, M2)) : Fr (w_X5_feet) (v_X5_feet) M M2 := by
  unfold m_X5_feet at h
  have F0 : Fr (w_X5_feet) (v_X5_feet) M M := Fr.rf
  by_cases hc1 : a1 < 1
  · rw [if_pos hc1] at h
    cases h
    exact F0
  · rw [if_neg hc1] at h
    by_cases hc2 : a1 ≤ 60
    · rw [if_pos hc2] at h
      obtain ⟨x3, hr4, h⟩ := bind_elim h
      have F5 := F0.tr (lp_fr (w := (w_X5_feet)) (v := (v_X5_feet)) (fun x : Int32 × Int64 × Int32 × Mem => x.2.2.2) (fun x : Int32 × Mem => x.2) (fun s o hq => fr_b_X5_feet_20 hq) _ _ _ hr4)
      obtain ⟨v_22, M_23⟩ := x3
      replace h := un2_e h
      have F6 : Fr (w_X5_feet) (v_X5_feet) M M_23 := F5
      cases h
      exact F6
    · rw [if_neg hc2] at h
      cases h
      exact F0
set_option maxHeartbeats 1000000 in
theorem fr_m_X5_thought {fu : Nat} {M : Mem} {a1 : Int32} {a2 : Int32} {rr : Int32} {M2 : Mem} (h : m_X5_thought fu M a1 a2 = some (rr, M2)) : Fr (w_X5_thought) (v_X5_thought) M M2 := by
  unfold m_X5_thought at h
  have F0 : Fr (w_X5_thought) (v_X5_thought) M M := Fr.rf
  by_cases hc1 : a1 < 1
  · rw [if_pos hc1] at h
    cases h
    exact F0
  · rw [if_neg hc1] at h
    by_cases hc2 : 60 < a1
    · rw [if_pos hc2] at h
      cases h
      exact F0
    · rw [if_neg hc2] at h
      by_cases hc3 : a2 < 0
      · rw [if_pos hc3] at h
        cases h
        exact F0
      · rw [if_neg hc3] at h
        by_cases hc4 : a2 ≤ 3
        · rw [if_pos hc4] at h
          obtain ⟨M_6, hr5, h⟩ := bind_elim h
          have F6 : Fr (w_X5_thought) (v_X5_thought) M M_6 := F0.tr ((fr_m_X4_copy hr5).mono (fun k j h => by
              unfold w_X4_copy at h
              rcases h with h | h | h | h | h | h | h | h
              · exact (Or.inl ⟨by omega, h.2⟩)
              · exact (Or.inr (Or.inl ⟨by omega, h.2⟩))
              · exact (Or.inr (Or.inr (Or.inl ⟨by omega, h.2⟩)))
              · exact (Or.inr (Or.inr (Or.inr (Or.inl ⟨by omega, h.2⟩))))
              · exact (Or.inr (Or.inr (Or.inr (Or.inr (Or.inl ⟨by omega, h.2⟩)))))
              · exact (Or.inr (Or.inr (Or.inr (Or.inr (Or.inr (Or.inl (by omega)))))))
              · exact (Or.inr (Or.inr (Or.inr (Or.inr (Or.inr (Or.inr (Or.inl (by omega))))))))
              · exact (Or.inr (Or.inr (Or.inr (Or.inr (Or.inr (Or.inr (Or.inr (by omega))))))))) (fun k j h => by
              unfold v_X4_copy at h
              exact (by unfold v_X5_thought; exact (by omega))))
          obtain ⟨M_8, hr7, h⟩ := bind_elim h
          have F8 : Fr (w_X5_thought) (v_X5_thought) M M_8 := F6.tr ((fr_m_X4_pass hr7).mono (fun k j h => by
              unfold w_X4_pass at h
              rcases h with h | h | h | h
              · exact (Or.inr (Or.inl ⟨by omega, h.2⟩))
              · exact (Or.inr (Or.inr (Or.inr (Or.inl ⟨by omega, h.2⟩))))
              · exact (Or.inr (Or.inr (Or.inr (Or.inr (Or.inl ⟨by omega, h.2⟩)))))
              · exact (Or.inr (Or.inr (Or.inr (Or.inr (Or.inr (Or.inr (Or.inl (by omega))))))))) (fun k j h => by
              unfold v_X4_pass at h
              exact (by unfold v_X5_thought; exact (by omega))))
          by_cases hc9 : a2 = 0
          · rw [if_pos hc9] at h
            obtain ⟨r_11, hr10, h⟩ := bind_elim h
            obtain ⟨r_13, hr11, h⟩ := bind_elim h
            cases h
            exact F8
          · rw [if_neg hc9] at h
            by_cases hc12 : a2 = 1
            · rw [if_pos hc12] at h
              cases h
              exact F8
            · rw [if_neg hc12] at h
              by_cases hc13 : a2 = 2
              · rw [if_pos hc13] at h
                obtain ⟨r_17, hr14, h⟩ := bind_elim h
                obtain ⟨r_19, hr15, h⟩ := bind_elim h
                cases h
                exact F8
              · rw [if_neg hc13] at h
                obtain ⟨r_21, hr16, h⟩ := bind_elim h
                cases h
                exact F8
        · rw [if_neg hc4] at h
          cases h
          exact F0
set_option maxHeartbeats 1000000 in
theorem fr_m_X5_image {fu : Nat} {M : Mem} {a1 : Int32} {rr : Int32} {M2 : Mem} (h : m_X5_image fu M a1 = some (rr, M2)) : Fr (w_X5_image) (v_X5_image) M M2 := by
  unfold m_X5_image at h
  have F0 : Fr (w_X5_image) (v_X5_image) M M := Fr.rf
  by_cases hc1 : a1 = 0
  · rw [if_pos hc1] at h
    by_cases hc2 : (rd M 146 10) = 0
    · rw [if_pos hc2] at h
      obtain ⟨hb3, h⟩ := chk_elim h
      cases h
      exact F0
    · rw [if_neg hc2] at h
      obtain ⟨M_5, hr4, h⟩ := bind_elim h
      have F5 : Fr (w_X5_image) (v_X5_image) M M_5 := F0.tr ((fr_m_X4_copy hr4).mono (fun k j h => by
          unfold w_X4_copy at h
          rcases h with h | h | h | h | h | h | h | h
          · exact (Or.inl ⟨by omega, h.2⟩)
          · exact (Or.inr (Or.inr (Or.inl ⟨by omega, h.2⟩)))
          · exact (Or.inr (Or.inr (Or.inr (Or.inl ⟨by omega, h.2⟩))))
          · exact (Or.inr (Or.inr (Or.inr (Or.inr (Or.inr (Or.inr (Or.inr (Or.inl ⟨by omega, h.2⟩))))))))
          · exact (Or.inr (Or.inr (Or.inr (Or.inr (Or.inr (Or.inr (Or.inr (Or.inr (Or.inr (Or.inl ⟨by omega, h.2⟩))))))))))
          · exact (Or.inr (Or.inr (Or.inr (Or.inr (Or.inr (Or.inr (Or.inr (Or.inr (Or.inr (Or.inr (Or.inr (Or.inl (by omega)))))))))))))
          · exact (Or.inr (Or.inr (Or.inr (Or.inr (Or.inr (Or.inr (Or.inr (Or.inr (Or.inr (Or.inr (Or.inr (Or.inr (Or.inl (by omega))))))))))))))
          · exact (Or.inr (Or.inr (Or.inr (Or.inr (Or.inr (Or.inr (Or.inr (Or.inr (Or.inr (Or.inr (Or.inr (Or.inr (Or.inr (Or.inl (by omega)))))))))))))))) (fun k j h => by
          unfold v_X4_copy at h
          exact (Or.inl (by omega))))
      obtain ⟨hb6, h⟩ := chk_elim h
      cases h
      exact F5
  · rw [if_neg hc1] at h
    obtain ⟨M_8, hr7, h⟩ := bind_elim h
    have F8 : Fr (w_X5_image) (v_X5_image) M M_8 := F0.tr ((fr_m_X4_copy hr7).mono (fun k j h => by
        unfold w_X4_copy at h
        rcases h with h | h | h | h | h | h | h | h
        · exact (Or.inr (Or.inl ⟨by omega, h.2⟩))
        · exact (Or.inr (Or.inr (Or.inr (Or.inr (Or.inl ⟨by omega, h.2⟩)))))
        · exact (Or.inr (Or.inr (Or.inr (Or.inr (Or.inr (Or.inl ⟨by omega, h.2⟩))))))
        · exact (Or.inr (Or.inr (Or.inr (Or.inr (Or.inr (Or.inr (Or.inr (Or.inr (Or.inl ⟨by omega, h.2⟩)))))))))
        · exact (Or.inr (Or.inr (Or.inr (Or.inr (Or.inr (Or.inr (Or.inr (Or.inr (Or.inr (Or.inr (Or.inl ⟨by omega, h.2⟩)))))))))))
        · exact (Or.inr (Or.inr (Or.inr (Or.inr (Or.inr (Or.inr (Or.inr (Or.inr (Or.inr (Or.inr (Or.inr (Or.inr (Or.inr (Or.inr (Or.inl (by omega))))))))))))))))
        · exact (Or.inr (Or.inr (Or.inr (Or.inr (Or.inr (Or.inr (Or.inr (Or.inr (Or.inr (Or.inr (Or.inr (Or.inr (Or.inr (Or.inr (Or.inr (Or.inl (by omega)))))))))))))))))
        · exact (Or.inr (Or.inr (Or.inr (Or.inr (Or.inr (Or.inr (Or.inr (Or.inr (Or.inr (Or.inr (Or.inr (Or.inr (Or.inr (Or.inr (Or.inr (Or.inr (by omega)))))))))))))))))) (fun k j h => by
        unfold v_X4_copy at h
        exact (Or.inr (by omega))))
    obtain ⟨M_9, e9, h⟩ := bnd_elim h
    have F10 : Fr (w_X5_image) (v_X5_image) M M_9 := F8.tr (by rw [e9]; exact Fr.wr (Or.inr (Or.inr (Or.inr (Or.inr (Or.inr (Or.inr (Or.inl ⟨by omega, by decide⟩))))))))
    obtain ⟨hb11, h⟩ := chk_elim h
    cases h
    exact F10
set_option maxHeartbeats 1000000 in
theorem fr_m_X6_state {M : Mem} {a1 : Int32} {rr : Int32} {M2 : Mem} (h : m_X6_state M a1 = some (rr, M2)) : Fr (w_X6_state) (v_X6_state) M M2 := by
  unfold m_X6_state at h
  have F0 : Fr (w_X6_state) (v_X6_state) M M := Fr.rf
  obtain ⟨M_1, e1, h⟩ := bnd_elim h
  have F2 : Fr (w_X6_state) (v_X6_state) M M_1 := F0.tr (by rw [e1]; exact Fr.wr (Or.inl ⟨by omega, by decide⟩))
  obtain ⟨v_3, e3, h⟩ := bnd_elim h
  obtain ⟨M_5, e4, h⟩ := bnd_elim h
  have F5 : Fr (w_X6_state) (v_X6_state) M M_5 := F2.tr (by rw [e4]; exact Fr.wr (Or.inr ⟨by omega, by decide⟩))
  cases h
  exact F5
set_option maxHeartbeats 1000000 in
theorem fr_m_X6_draw {M : Mem} {a1 : Int32} {rr : Int32} {M2 : Mem} (h : m_X6_draw M a1 = some (rr, M2)) : Fr (w_X6_draw) (v_X6_draw) M M2 := by
  unfold m_X6_draw at h
  have F0 : Fr (w_X6_draw) (v_X6_draw) M M := Fr.rf
  obtain ⟨M_1, e1, h⟩ := bnd_elim h
  have F2 : Fr (w_X6_draw) (v_X6_draw) M M_1 := F0.tr (by rw [e1]; exact Fr.wr (by unfold w_X6_draw; exact ⟨by omega, by decide⟩))
  obtain ⟨hb3, h⟩ := chk_elim h
  cases h
  exact F2
set_option maxHeartbeats 1000000 in
theorem fr_b_X6_ring_25 {fu : Nat} {s0 : Int32 × Mem} {o : (Int32 × Mem) ⊕ (Mem)} (h : b_X6_ring_25 fu s0 = some o) : Fr (w_X6_ring) (v_X6_ring) ((fun x : Int32 × Mem => x.2) s0) (Sum.elim (fun x : Int32 × Mem => x.2) (fun x : Mem => x) o) := by
  obtain ⟨c2, M⟩ := s0
  unfold b_X6_ring_25 at h
  replace h := un2_e h
  have F0 : Fr (w_X6_ring) (v_X6_ring) M M := Fr.rf
  by_cases hc1 : 10 ≤ c2
  · rw [if_pos hc1] at h
    cases h
    exact F0
  · rw [if_neg hc1] at h
    obtain ⟨hb2, h⟩ := chk_elim h
    have q3 := inb_lt hb2
    obtain ⟨M_10, e4, h⟩ := bnd_elim h
    have F5 : Fr (w_X6_ring) (v_X6_ring) M M_10 := F0.tr (by rw [e4]; exact Fr.wr (Or.inr (Or.inr (by omega))))
    obtain ⟨M_12, e6, h⟩ := bnd_elim h
    have F7 : Fr (w_X6_ring) (v_X6_ring) M M_12 := F5.tr (by rw [e6]; exact Fr.wr (Or.inr (Or.inr (by omega))))
    obtain ⟨M_14, e8, h⟩ := bnd_elim h
    have F9 : Fr (w_X6_ring) (v_X6_ring) M M_14 := F7.tr (by rw [e8]; exact Fr.wr (Or.inr (Or.inr (by omega))))
    obtain ⟨M_16, e10, h⟩ := bnd_elim h
    have F11 : Fr (w_X6_ring) (v_X6_ring) M M_16 := F9.tr (by rw [e10]; exact Fr.wr (Or.inr (Or.inr (by omega))))
    obtain ⟨M_18, e12, h⟩ := bnd_elim h
    have F13 : Fr (w_X6_ring) (v_X6_ring) M M_18 := F11.tr (by rw [e12]; exact Fr.wr (Or.inr (Or.inr (by omega))))
    obtain ⟨M_20, e14, h⟩ := bnd_elim h
    have F15 : Fr (w_X6_ring) (v_X6_ring) M M_20 := F13.tr (by rw [e14]; exact Fr.wr (Or.inr (Or.inr (by omega))))
    obtain ⟨M_22, e16, h⟩ := bnd_elim h
    have F17 : Fr (w_X6_ring) (v_X6_ring) M M_22 := F15.tr (by rw [e16]; exact Fr.wr (Or.inr (Or.inr (by omega))))
    obtain ⟨M_24, e18, h⟩ := bnd_elim h
    have F19 : Fr (w_X6_ring) (v_X6_ring) M M_24 := F17.tr (by rw [e18]; exact Fr.wr (Or.inr (Or.inr (by omega))))
    obtain ⟨M_26, e20, h⟩ := bnd_elim h
    have F21 : Fr (w_X6_ring) (v_X6_ring) M M_26 := F19.tr (by rw [e20]; exact Fr.wr (Or.inr (Or.inr (by omega))))
    obtain ⟨M_28, e22, h⟩ := bnd_elim h
    have F23 : Fr (w_X6_ring) (v_X6_ring) M M_28 := F21.tr (by rw [e22]; exact Fr.wr (Or.inr (Or.inr (by omega))))
    obtain ⟨M_30, e24, h⟩ := bnd_elim h
    have F25 : Fr (w_X6_ring) (v_X6_ring) M M_30 := F23.tr (by rw [e24]; exact Fr.wr (Or.inr (Or.inr (by omega))))
    obtain ⟨M_32, e26, h⟩ := bnd_elim h
    have F27 : Fr (w_X6_ring) (v_X6_ring) M M_32 := F25.tr (by rw [e26]; exact Fr.wr (Or.inr (Or.inr (by omega))))
    obtain ⟨M_34, e28, h⟩ := bnd_elim h
    have F29 : Fr (w_X6_ring) (v_X6_ring) M M_34 := F27.tr (by rw [e28]; exact Fr.wr (Or.inr (Or.inr (by omega))))
    obtain ⟨v_36, e30, h⟩ := bnd_elim h
    cases h
    exact F29
set_option maxHeartbeats 1000000 in
theorem fr_m_X6_ring {fu : Nat} {M : Mem} {a1 : Int32} {rr : Int32} {M2 : Mem} (h : m_X6_ring fu M a1 = some (rr, M2)) : Fr (w_X6_ring) (v_X6_ring) M M2 := by
  unfold m_X6_ring at h
  have F0 : Fr (w_X6_ring) (v_X6_ring) M M := Fr.rf
  obtain ⟨M_1, e1, h⟩ := bnd_elim h
  have F2 : Fr (w_X6_ring) (v_X6_ring) M M_1 := F0.tr (by rw [e1]; exact Fr.wr (Or.inl ⟨by omega, by decide⟩))
  obtain ⟨r_4, hr3, h⟩ := bind_elim h
  by_cases hc4 : r_4 = 0
  · rw [if_pos hc4] at h
    cases h
    exact F2
  · rw [if_neg hc4] at h
    obtain ⟨M_6, e5, h⟩ := bnd_elim h
    have F6 : Fr (w_X6_ring) (v_X6_ring) M M_6 := F2.tr (by rw [e5]; exact Fr.wr (Or.inr (Or.inl ⟨by omega, by decide⟩)))
    obtain ⟨x7, hr8, h⟩ := bind_elim h
    have F9 := F6.tr (lp_fr (w := (w_X6_ring)) (v := (v_X6_ring)) (fun x : Int32 × Mem => x.2) (fun x : Mem => x) (fun s o hq => fr_b_X6_ring_25 hq) _ _ _ hr8)
    obtain ⟨M_40, rfl⟩ : ∃ z, z = x7 := ⟨_, rfl⟩
    replace h := un1_e h
    have F10 : Fr (w_X6_ring) (v_X6_ring) M M_40 := F9
    cases h
    exact F10
set_option maxHeartbeats 1000000 in
theorem fr_j_X6_farm_102 {M : Mem} {s1 : Int32} {s2 : Int32} {s3 : Int32} {rr : Int32} {M2 : Mem} (h : j_X6_farm_102 M s1 s2 s3 = some (rr, M2)) : Fr (w_X6_farm) (v_X6_farm) M M2 := by
  unfold j_X6_farm_102 at h
  have F0 : Fr (w_X6_farm) (v_X6_farm) M M := Fr.rf
  by_cases hc1 : s2 = 3
  · rw [if_pos hc1] at h
    obtain ⟨hb2, h⟩ := chk_elim h
    have q3 := inb_lt hb2
    obtain ⟨M_20, e4, h⟩ := bnd_elim h
    have F5 : Fr (w_X6_farm) (v_X6_farm) M M_20 := F0.tr (by rw [e4]; exact Fr.wr (Or.inr (by omega)))
    cases h
    exact F5
  · rw [if_neg hc1] at h
    cases h
    exact F0
set_option maxHeartbeats 1000000 in
theorem fr_j_X6_farm_90 {M : Mem} {s1 : Int32} {s2 : Int32} {s3 : Int32} {rr : Int32} {M2 : Mem} (h : j_X6_farm_90 M s1 s2 s3 = some (rr, M2)) : Fr (w_X6_farm) (v_X6_farm) M M2 := by
  unfold j_X6_farm_90 at h
  have F0 : Fr (w_X6_farm) (v_X6_farm) M M := Fr.rf
  by_cases hc1 : s2 = 2
  · rw [if_pos hc1] at h
    obtain ⟨hb2, h⟩ := chk_elim h
    have q3 := inb_lt hb2
    obtain ⟨M_23, e4, h⟩ := bnd_elim h
    have F5 : Fr (w_X6_farm) (v_X6_farm) M M_23 := F0.tr (by rw [e4]; exact Fr.wr (Or.inr (by omega)))
    exact F5.tr (fr_j_X6_farm_102 h)
  · rw [if_neg hc1] at h
    exact F0.tr (fr_j_X6_farm_102 h)
set_option maxHeartbeats 1000000 in
theorem fr_j_X6_farm_78 {M : Mem} {s1 : Int32} {s2 : Int32} {s3 : Int32} {rr : Int32} {M2 : Mem} (h : j_X6_farm_78 M s1 s2 s3 = some (rr, M2)) : Fr (w_X6_farm) (v_X6_farm) M M2 := by
  unfold j_X6_farm_78 at h
  have F0 : Fr (w_X6_farm) (v_X6_farm) M M := Fr.rf
  by_cases hc1 : s2 = 1
  · rw [if_pos hc1] at h
    obtain ⟨hb2, h⟩ := chk_elim h
    have q3 := inb_lt hb2
    obtain ⟨M_26, e4, h⟩ := bnd_elim h
    have F5 : Fr (w_X6_farm) (v_X6_farm) M M_26 := F0.tr (by rw [e4]; exact Fr.wr (Or.inr (by omega)))
    exact F5.tr (fr_j_X6_farm_90 h)
  · rw [if_neg hc1] at h
    exact F0.tr (fr_j_X6_farm_90 h)
set_option maxHeartbeats 1000000 in
theorem fr_j_X6_farm_34 {M : Mem} {s1 : Int32} {s2 : Int32} {s3 : Int32} {t0 : Int32} {rr : Int32} {M2 : Mem} (h : j_X6_farm_34 M s1 s2 s3 t0 = some (rr, M2)) : Fr (w_X6_farm) (v_X6_farm) M M2 := by
  unfold j_X6_farm_34 at h
  have F0 : Fr (w_X6_farm) (v_X6_farm) M M := Fr.rf
  obtain ⟨r_7, hr1, h⟩ := bind_elim h
  by_cases hc2 : r_7 = 0
  · rw [if_pos hc2] at h
    cases h
    exact F0
  · rw [if_neg hc2] at h
    obtain ⟨r_10, hr3, h⟩ := bind_elim h
    by_cases hc4 : r_10 = 0
    · rw [if_pos hc4] at h
      cases h
      exact F0
    · rw [if_neg hc4] at h
      obtain ⟨r_13, hr5, h⟩ := bind_elim h
      by_cases hc6 : r_13 = 0
      · rw [if_pos hc6] at h
        cases h
        exact F0
      · rw [if_neg hc6] at h
        by_cases hc7 : s2 = 0
        · rw [if_pos hc7] at h
          obtain ⟨hb8, h⟩ := chk_elim h
          have q9 := inb_lt hb8
          obtain ⟨M_29, e10, h⟩ := bnd_elim h
          have F11 : Fr (w_X6_farm) (v_X6_farm) M M_29 := F0.tr (by rw [e10]; exact Fr.wr (Or.inr (by omega)))
          exact F11.tr (fr_j_X6_farm_78 h)
        · rw [if_neg hc7] at h
          exact F0.tr (fr_j_X6_farm_78 h)
set_option maxHeartbeats 1000000 in
theorem fr_m_X6_farm {M : Mem} {a1 : Int32} {a2 : Int32} {a3 : Int32} {rr : Int32} {M2 : Mem} (h : m_X6_farm M a1 a2 a3 = some (rr, M2)) : Fr (w_X6_farm) (v_X6_farm) M M2 := by
  unfold m_X6_farm at h
  have F0 : Fr (w_X6_farm) (v_X6_farm) M M := Fr.rf
  obtain ⟨M_1, e1, h⟩ := bnd_elim h
  have F2 : Fr (w_X6_farm) (v_X6_farm) M M_1 := F0.tr (by rw [e1]; exact Fr.wr (Or.inl ⟨by omega, by decide⟩))
  by_cases hc3 : a2 = 0
  · rw [if_pos hc3] at h
    exact F2.tr (fr_j_X6_farm_34 h)
  · rw [if_neg hc3] at h
    by_cases hc4 : a2 = 1
    · rw [if_pos hc4] at h
      exact F2.tr (fr_j_X6_farm_34 h)
    · rw [if_neg hc4] at h
      by_cases hc5 : a2 = 2
      · rw [if_pos hc5] at h
        exact F2.tr (fr_j_X6_farm_34 h)
      · rw [if_neg hc5] at h
        exact F2.tr (fr_j_X6_farm_34 h)
set_option maxHeartbeats 1000000 in
theorem fr_j_X6_border_64 {M : Mem} {s1 : Int32} {rr : Int32} {M2 : Mem} (h : j_X6_border_64 M s1 = some (rr, M2)) : Fr (w_X6_border) (v_X6_border) M M2 := by
  unfold j_X6_border_64 at h
  have F0 : Fr (w_X6_border) (v_X6_border) M M := Fr.rf
  obtain ⟨hb1, h⟩ := chk_elim h
  have q2 := inb_lt hb1
  obtain ⟨M_18, e3, h⟩ := bnd_elim h
  have F4 : Fr (w_X6_border) (v_X6_border) M M_18 := F0.tr (by rw [e3]; exact Fr.wr (Or.inr (by omega)))
  cases h
  exact F4
set_option maxHeartbeats 1000000 in
theorem fr_j_X6_border_35 {M : Mem} {s1 : Int32} {s2 : Int32} {s3 : Int32} {t1 : Int32} {t2 : Int32} {t3 : Int32} {rr : Int32} {M2 : Mem} (h : j_X6_border_35 M s1 s2 s3 t1 t2 t3 = some (rr, M2)) : Fr (w_X6_border) (v_X6_border) M M2 := by
  unfold j_X6_border_35 at h
  have F0 : Fr (w_X6_border) (v_X6_border) M M := Fr.rf
  obtain ⟨r_11, hr1, h⟩ := bind_elim h
  by_cases hc2 : r_11 = 0
  · rw [if_pos hc2] at h
    cases h
    exact F0
  · rw [if_neg hc2] at h
    by_cases hc3 : s2 = 0
    · rw [if_pos hc3] at h
      obtain ⟨hb4, h⟩ := chk_elim h
      have q5 := inb_lt hb4
      obtain ⟨M_21, e6, h⟩ := bnd_elim h
      have F7 : Fr (w_X6_border) (v_X6_border) M M_21 := F0.tr (by rw [e6]; exact Fr.wr (Or.inr (by omega)))
      exact F7.tr (fr_j_X6_border_64 h)
    · rw [if_neg hc3] at h
      obtain ⟨hb8, h⟩ := chk_elim h
      have q9 := inb_lt hb8
      obtain ⟨M_15, e10, h⟩ := bnd_elim h
      have F11 : Fr (w_X6_border) (v_X6_border) M M_15 := F0.tr (by rw [e10]; exact Fr.wr (Or.inr (by omega)))
      exact F11.tr (fr_j_X6_border_64 h)
set_option maxHeartbeats 1000000 in
theorem fr_m_X6_border {M : Mem} {a1 : Int32} {a2 : Int32} {a3 : Int32} {rr : Int32} {M2 : Mem} (h : m_X6_border M a1 a2 a3 = some (rr, M2)) : Fr (w_X6_border) (v_X6_border) M M2 := by
  unfold m_X6_border at h
  have F0 : Fr (w_X6_border) (v_X6_border) M M := Fr.rf
  obtain ⟨M_1, e1, h⟩ := bnd_elim h
  have F2 : Fr (w_X6_border) (v_X6_border) M M_1 := F0.tr (by rw [e1]; exact Fr.wr (Or.inl ⟨by omega, by decide⟩))
  obtain ⟨r_4, hr3, h⟩ := bind_elim h
  by_cases hc4 : r_4 = 0
  · rw [if_pos hc4] at h
    cases h
    exact F2
  · rw [if_neg hc4] at h
    obtain ⟨r_7, hr5, h⟩ := bind_elim h
    by_cases hc6 : r_7 = 0
    · rw [if_pos hc6] at h
      cases h
      exact F2
    · rw [if_neg hc6] at h
      by_cases hc7 : a2 = 0
      · rw [if_pos hc7] at h
        exact F2.tr (fr_j_X6_border_35 h)
      · rw [if_neg hc7] at h
        exact F2.tr (fr_j_X6_border_35 h)
set_option maxHeartbeats 1000000 in
theorem fr_j_X6_set_29 {M : Mem} {s1 : Int32} {s2 : Int32} {t0 : Int32} {rr : Int32} {M2 : Mem} (h : j_X6_set_29 M s1 s2 t0 = some (rr, M2)) : Fr (w_X6_set) (v_X6_set) M M2 := by
  unfold j_X6_set_29 at h
  have F0 : Fr (w_X6_set) (v_X6_set) M M := Fr.rf
  obtain ⟨r_6, hr1, h⟩ := bind_elim h
  by_cases hc2 : r_6 = 0
  · rw [if_pos hc2] at h
    cases h
    exact F0
  · rw [if_neg hc2] at h
    obtain ⟨r_9, hr3, h⟩ := bind_elim h
    by_cases hc4 : r_9 = 0
    · rw [if_pos hc4] at h
      cases h
      exact F0
    · rw [if_neg hc4] at h
      obtain ⟨hb5, h⟩ := chk_elim h
      have q6 := inb_lt hb5
      obtain ⟨M_12, e7, h⟩ := bnd_elim h
      have F8 : Fr (w_X6_set) (v_X6_set) M M_12 := F0.tr (by rw [e7]; exact Fr.wr (Or.inr (by omega)))
      cases h
      exact F8
set_option maxHeartbeats 1000000 in
theorem fr_m_X6_set {M : Mem} {a1 : Int32} {a2 : Int32} {rr : Int32} {M2 : Mem} (h : m_X6_set M a1 a2 = some (rr, M2)) : Fr (w_X6_set) (v_X6_set) M M2 := by
  unfold m_X6_set at h
  have F0 : Fr (w_X6_set) (v_X6_set) M M := Fr.rf
  obtain ⟨M_1, e1, h⟩ := bnd_elim h
  have F2 : Fr (w_X6_set) (v_X6_set) M M_1 := F0.tr (by rw [e1]; exact Fr.wr (Or.inl ⟨by omega, by decide⟩))
  by_cases hc3 : a1 = 9
  · rw [if_pos hc3] at h
    exact F2.tr (fr_j_X6_set_29 h)
  · rw [if_neg hc3] at h
    by_cases hc4 : a1 < 7
    · rw [if_pos hc4] at h
      exact F2.tr (fr_j_X6_set_29 h)
    · rw [if_neg hc4] at h
      exact F2.tr (fr_j_X6_set_29 h)
set_option maxHeartbeats 1000000 in
theorem fr_m_X6_worth {M : Mem} {a1 : Int32} {rr : Int32} {M2 : Mem} (h : m_X6_worth M a1 = some (rr, M2)) : Fr (w_X6_worth) (v_X6_worth) M M2 := by
  unfold m_X6_worth at h
  have F0 : Fr (w_X6_worth) (v_X6_worth) M M := Fr.rf
  obtain ⟨M_1, e1, h⟩ := bnd_elim h
  have F2 : Fr (w_X6_worth) (v_X6_worth) M M_1 := F0.tr (by rw [e1]; exact Fr.wr (by unfold w_X6_worth; exact ⟨by omega, by decide⟩))
  obtain ⟨r_4, hr3, h⟩ := bind_elim h
  by_cases hc4 : r_4 = 0
  · rw [if_pos hc4] at h
    cases h
    exact F2
  · rw [if_neg hc4] at h
    obtain ⟨r_7, hr5, h⟩ := bind_elim h
    cases h
    exact F2
set_option maxHeartbeats 1000000 in
theorem fr_b_X6_puts_3 {fu : Nat} {s1 : Int32} {s0 : Int32 × Mem} {o : (Int32 × Mem) ⊕ (Mem)} (h : b_X6_puts_3 fu s1 s0 = some o) : Fr (w_X6_puts) (v_X6_puts) ((fun x : Int32 × Mem => x.2) s0) (Sum.elim (fun x : Int32 × Mem => x.2) (fun x : Mem => x) o) := by
  obtain ⟨c2, M⟩ := s0
  unfold b_X6_puts_3 at h
  replace h := un2_e h
  have F0 : Fr (w_X6_puts) (v_X6_puts) M M := Fr.rf
  by_cases hc1 : c2 < 0
  · rw [if_pos hc1] at h
    cases h
    exact F0
  · rw [if_neg hc1] at h
    obtain ⟨hb2, h⟩ := chk_elim h
    have q3 := inb_lt hb2
    obtain ⟨M_3, e4, h⟩ := bnd_elim h
    have F5 : Fr (w_X6_puts) (v_X6_puts) M M_3 := F0.tr (by rw [e4]; exact Fr.wr (Or.inr (by omega)))
    obtain ⟨M_5, e6, h⟩ := bnd_elim h
    have F7 : Fr (w_X6_puts) (v_X6_puts) M M_5 := F5.tr (by rw [e6]; exact Fr.wr (Or.inl ⟨by omega, by decide⟩))
    obtain ⟨v_7, e8, h⟩ := bnd_elim h
    cases h
    exact F7
set_option maxHeartbeats 1000000 in
theorem fr_m_X6_puts {fu : Nat} {M : Mem} {a1 : Int32} {M2 : Mem} (h : m_X6_puts fu M a1 = some M2) : Fr (w_X6_puts) (v_X6_puts) M M2 := by
  unfold m_X6_puts at h
  have F0 : Fr (w_X6_puts) (v_X6_puts) M M := Fr.rf
  obtain ⟨x1, hr2, h⟩ := bind_elim h
  have F3 := F0.tr (lp_fr (w := (w_X6_puts)) (v := (v_X6_puts)) (fun x : Int32 × Mem => x.2) (fun x : Mem => x) (fun s o hq => fr_b_X6_puts_3 hq) _ _ _ hr2)
  obtain ⟨M_11, rfl⟩ : ∃ z, z = x1 := ⟨_, rfl⟩
  replace h := un1_e h
  have F4 : Fr (w_X6_puts) (v_X6_puts) M M_11 := F3
  cases h
  exact F4
set_option maxHeartbeats 1000000 in
theorem fr_m_X6_feed {fu : Nat} {M : Mem} {a1 : Int32} {a2 : Int32} {a3 : Int32} {a4 : Int32} {a5 : Int32} {rr : Int32} {M2 : Mem} (h : m_X6_feed fu M a1 a2 a3 a4 a5 = some (rr, M2)) : Fr (w_X6_feed) (v_X6_feed) M M2 := by
  unfold m_X6_feed at h
  have F0 : Fr (w_X6_feed) (v_X6_feed) M M := Fr.rf
  obtain ⟨M_1, e1, h⟩ := bnd_elim h
  have F2 : Fr (w_X6_feed) (v_X6_feed) M M_1 := F0.tr (by rw [e1]; exact Fr.wr (Or.inl ⟨by omega, by decide⟩))
  by_cases hc3 : (rd M_1 148 20) ≤ 380
  · rw [if_pos hc3] at h
    obtain ⟨M_5, hr4, h⟩ := bind_elim h
    have F5 : Fr (w_X6_feed) (v_X6_feed) M M_5 := F2.tr ((fr_m_X6_puts hr4).mono (fun k j h => by
        unfold w_X6_puts at h
        rcases h with h | h
        · exact (Or.inr (Or.inl ⟨by omega, h.2⟩))
        · exact (Or.inr (Or.inr (by omega)))) (fun k j h => absurd h id))
    obtain ⟨M_7, hr6, h⟩ := bind_elim h
    have F7 : Fr (w_X6_feed) (v_X6_feed) M M_7 := F5.tr ((fr_m_X6_puts hr6).mono (fun k j h => by
        unfold w_X6_puts at h
        rcases h with h | h
        · exact (Or.inr (Or.inl ⟨by omega, h.2⟩))
        · exact (Or.inr (Or.inr (by omega)))) (fun k j h => absurd h id))
    obtain ⟨M_9, hr8, h⟩ := bind_elim h
    have F9 : Fr (w_X6_feed) (v_X6_feed) M M_9 := F7.tr ((fr_m_X6_puts hr8).mono (fun k j h => by
        unfold w_X6_puts at h
        rcases h with h | h
        · exact (Or.inr (Or.inl ⟨by omega, h.2⟩))
        · exact (Or.inr (Or.inr (by omega)))) (fun k j h => absurd h id))
    obtain ⟨M_11, hr10, h⟩ := bind_elim h
    have F11 : Fr (w_X6_feed) (v_X6_feed) M M_11 := F9.tr ((fr_m_X6_puts hr10).mono (fun k j h => by
        unfold w_X6_puts at h
        rcases h with h | h
        · exact (Or.inr (Or.inl ⟨by omega, h.2⟩))
        · exact (Or.inr (Or.inr (by omega)))) (fun k j h => absurd h id))
    obtain ⟨M_13, hr12, h⟩ := bind_elim h
    have F13 : Fr (w_X6_feed) (v_X6_feed) M M_13 := F11.tr ((fr_m_X6_puts hr12).mono (fun k j h => by
        unfold w_X6_puts at h
        rcases h with h | h
        · exact (Or.inr (Or.inl ⟨by omega, h.2⟩))
        · exact (Or.inr (Or.inr (by omega)))) (fun k j h => absurd h id))
    cases h
    exact F13
  · rw [if_neg hc3] at h
    cases h
    exact F2
set_option maxHeartbeats 1000000 in
theorem fr_m_X6_end {M : Mem} {a1 : Int32} {rr : Int32} {M2 : Mem} (h : m_X6_end M a1 = some (rr, M2)) : Fr (w_X6_end) (v_X6_end) M M2 := by
  unfold m_X6_end at h
  have F0 : Fr (w_X6_end) (v_X6_end) M M := Fr.rf
  obtain ⟨M_1, e1, h⟩ := bnd_elim h
  have F2 : Fr (w_X6_end) (v_X6_end) M M_1 := F0.tr (by rw [e1]; exact Fr.wr (Or.inl ⟨by omega, by decide⟩))
  obtain ⟨r_4, hr3, h⟩ := bind_elim h
  by_cases hc4 : r_4 = 0
  · rw [if_pos hc4] at h
    cases h
    exact F2
  · rw [if_neg hc4] at h
    obtain ⟨M_6, e5, h⟩ := bnd_elim h
    have F6 : Fr (w_X6_end) (v_X6_end) M M_6 := F2.tr (by rw [e5]; exact Fr.wr (Or.inr ⟨by omega, by decide⟩))
    cases h
    exact F6
set_option maxHeartbeats 1000000 in
theorem fr_j_X6_reads_26i {fu : Nat} {M : Mem} {o : (Mem) ⊕ (Mem)} (h : j_X6_reads_26i fu M = some o) : Fr (w_X6_reads) (v_X6_reads) M ((Sum.elim (fun x : Mem => x) (fun x : Mem => x)) o) := by
  unfold j_X6_reads_26i at h
  have F0 : Fr (w_X6_reads) (v_X6_reads) M M := Fr.rf
  obtain ⟨M_4, e1, h⟩ := bnd_elim h
  have F2 : Fr (w_X6_reads) (v_X6_reads) M M_4 := F0.tr (by rw [e1]; exact Fr.wr (Or.inl ⟨by omega, by decide⟩))
  cases h
  exact F2
set_option maxHeartbeats 1000000 in
theorem fr_b_X6_reads_0 {fu : Nat} {s0 : Mem} {o : (Mem) ⊕ (Mem)} (h : b_X6_reads_0 fu s0 = some o) : Fr (w_X6_reads) (v_X6_reads) ((fun x : Mem => x) s0) (Sum.elim (fun x : Mem => x) (fun x : Mem => x) o) := by
  obtain ⟨M, rfl⟩ : ∃ z, z = s0 := ⟨_, rfl⟩
  unfold b_X6_reads_0 at h
  replace h := un1_e h
  have F0 : Fr (w_X6_reads) (v_X6_reads) M M := Fr.rf
  obtain ⟨r_2, hr1, h⟩ := bind_elim h
  by_cases hc2 : r_2 = 32
  · rw [if_pos hc2] at h
    exact F0.tr (fr_j_X6_reads_26i h)
  · rw [if_neg hc2] at h
    obtain ⟨r_7, hr3, h⟩ := bind_elim h
    by_cases hc4 : r_7 = 10
    · rw [if_pos hc4] at h
      exact F0.tr (fr_j_X6_reads_26i h)
    · rw [if_neg hc4] at h
      cases h
      exact F0
set_option maxHeartbeats 1000000 in
theorem fr_j_X6_reads_223i {fu : Nat} {M : Mem} {t1 : Int32} {o : (Mem) ⊕ (Mem)} (h : j_X6_reads_223i fu M t1 = some o) : Fr (w_X6_reads) (v_X6_reads) M ((Sum.elim (fun x : Mem => x) (fun x : Mem => x)) o) := by
  unfold j_X6_reads_223i at h
  have F0 : Fr (w_X6_reads) (v_X6_reads) M M := Fr.rf
  obtain ⟨M_42, e1, h⟩ := bnd_elim h
  have F2 : Fr (w_X6_reads) (v_X6_reads) M M_42 := F0.tr (by rw [e1]; exact Fr.wr (Or.inr (Or.inr (Or.inr ⟨by omega, by decide⟩))))
  obtain ⟨M_44, e3, h⟩ := bnd_elim h
  have F4 : Fr (w_X6_reads) (v_X6_reads) M M_44 := F2.tr (by rw [e3]; exact Fr.wr (Or.inl ⟨by omega, by decide⟩))
  cases h
  exact F4
set_option maxHeartbeats 1000000 in
theorem fr_b_X6_reads_171 {fu : Nat} {s0 : Mem} {o : (Mem) ⊕ (Mem)} (h : b_X6_reads_171 fu s0 = some o) : Fr (w_X6_reads) (v_X6_reads) ((fun x : Mem => x) s0) (Sum.elim (fun x : Mem => x) (fun x : Mem => x) o) := by
  obtain ⟨M, rfl⟩ : ∃ z, z = s0 := ⟨_, rfl⟩
  unfold b_X6_reads_171 at h
  replace h := un1_e h
  have F0 : Fr (w_X6_reads) (v_X6_reads) M M := Fr.rf
  obtain ⟨r_37, hr1, h⟩ := bind_elim h
  obtain ⟨r_39, hr2, h⟩ := bind_elim h
  by_cases hc3 : r_39 = 0
  · rw [if_pos hc3] at h
    cases h
    exact F0
  · rw [if_neg hc3] at h
    by_cases hc4 : 10000 ≤ (rd M 148 24)
    · rw [if_pos hc4] at h
      exact F0.tr (fr_j_X6_reads_223i h)
    · rw [if_neg hc4] at h
      obtain ⟨r_47, hr5, h⟩ := bind_elim h
      exact F0.tr (fr_j_X6_reads_223i h)
set_option maxHeartbeats 1000000 in
theorem fr_b_X6_reads_95 {fu : Nat} {s0 : Mem} {o : (Mem) ⊕ (Mem)} (h : b_X6_reads_95 fu s0 = some o) : Fr (w_X6_reads) (v_X6_reads) ((fun x : Mem => x) s0) (Sum.elim (fun x : Mem => x) (fun x : Mem => x) o) := by
  obtain ⟨M, rfl⟩ : ∃ z, z = s0 := ⟨_, rfl⟩
  unfold b_X6_reads_95 at h
  replace h := un1_e h
  have F0 : Fr (w_X6_reads) (v_X6_reads) M M := Fr.rf
  obtain ⟨r_55, hr1, h⟩ := bind_elim h
  obtain ⟨r_57, hr2, h⟩ := bind_elim h
  by_cases hc3 : r_57 = 0
  · rw [if_pos hc3] at h
    cases h
    exact F0
  · rw [if_neg hc3] at h
    obtain ⟨M_59, e4, h⟩ := bnd_elim h
    have F5 : Fr (w_X6_reads) (v_X6_reads) M M_59 := F0.tr (by rw [e4]; exact Fr.wr (Or.inl ⟨by omega, by decide⟩))
    cases h
    exact F5
set_option maxHeartbeats 1000000 in
theorem fr_m_X6_reads {fu : Nat} {M : Mem} {M2 : Mem} (h : m_X6_reads fu M = some M2) : Fr (w_X6_reads) (v_X6_reads) M M2 := by
  unfold m_X6_reads at h
  have F0 : Fr (w_X6_reads) (v_X6_reads) M M := Fr.rf
  obtain ⟨x1, hr2, h⟩ := bind_elim h
  have F3 := F0.tr (lp_fr (w := (w_X6_reads)) (v := (v_X6_reads)) (fun x : Mem => x) (fun x : Mem => x) (fun s o hq => fr_b_X6_reads_0 hq) _ _ _ hr2)
  obtain ⟨M_11, rfl⟩ : ∃ z, z = x1 := ⟨_, rfl⟩
  replace h := un1_e h
  have F4 : Fr (w_X6_reads) (v_X6_reads) M M_11 := F3
  obtain ⟨M_12, e5, h⟩ := bnd_elim h
  have F6 : Fr (w_X6_reads) (v_X6_reads) M M_12 := F4.tr (by rw [e5]; exact Fr.wr (Or.inr (Or.inl ⟨by omega, by decide⟩)))
  obtain ⟨M_14, e7, h⟩ := bnd_elim h
  have F8 : Fr (w_X6_reads) (v_X6_reads) M M_14 := F6.tr (by rw [e7]; exact Fr.wr (Or.inr (Or.inr (Or.inl ⟨by omega, by decide⟩))))
  obtain ⟨r_17, hr9, h⟩ := bind_elim h
  by_cases hc10 : r_17 = (-1)
  · rw [if_pos hc10] at h
    obtain ⟨M_71, e11, h⟩ := bnd_elim h
    have F12 : Fr (w_X6_reads) (v_X6_reads) M M_71 := F8.tr (by rw [e11]; exact Fr.wr (Or.inr (Or.inr (Or.inl ⟨by omega, by decide⟩))))
    cases h
    exact F12
  · rw [if_neg hc10] at h
    obtain ⟨M_19, e13, h⟩ := bnd_elim h
    have F14 : Fr (w_X6_reads) (v_X6_reads) M M_19 := F8.tr (by rw [e13]; exact Fr.wr (Or.inl ⟨by omega, by decide⟩))
    obtain ⟨M_21, e15, h⟩ := bnd_elim h
    have F16 : Fr (w_X6_reads) (v_X6_reads) M M_21 := F14.tr (by rw [e15]; exact Fr.wr (Or.inr (Or.inr (Or.inr ⟨by omega, by decide⟩))))
    obtain ⟨r_24, hr17, h⟩ := bind_elim h
    by_cases hc18 : r_24 = 0
    · rw [if_pos hc18] at h
      obtain ⟨r_27, hr19, h⟩ := bind_elim h
      by_cases hc20 : r_27 = 0
      · rw [if_pos hc20] at h
        obtain ⟨r_30, hr21, h⟩ := bind_elim h
        by_cases hc22 : r_30 = 0
        · rw [if_pos hc22] at h
          cases h
          exact F16
        · rw [if_neg hc22] at h
          obtain ⟨M_32, e23, h⟩ := bnd_elim h
          have F24 : Fr (w_X6_reads) (v_X6_reads) M M_32 := F16.tr (by rw [e23]; exact Fr.wr (Or.inr (Or.inr (Or.inl ⟨by omega, by decide⟩))))
          cases h
          exact F24
      · rw [if_neg hc20] at h
        obtain ⟨M_34, e25, h⟩ := bnd_elim h
        have F26 : Fr (w_X6_reads) (v_X6_reads) M M_34 := F16.tr (by rw [e25]; exact Fr.wr (Or.inr (Or.inr (Or.inr ⟨by omega, by decide⟩))))
        obtain ⟨x27, hr28, h⟩ := bind_elim h
        have F29 := F26.tr (lp_fr (w := (w_X6_reads)) (v := (v_X6_reads)) (fun x : Mem => x) (fun x : Mem => x) (fun s o hq => fr_b_X6_reads_171 hq) _ _ _ hr28)
        obtain ⟨M_50, rfl⟩ : ∃ z, z = x27 := ⟨_, rfl⟩
        replace h := un1_e h
        have F30 : Fr (w_X6_reads) (v_X6_reads) M M_50 := F29
        by_cases hc31 : 5 ≤ ((rd M_50 148 21) - (rd M_50 148 22))
        · rw [if_pos hc31] at h
          cases h
          exact F30
        · rw [if_neg hc31] at h
          obtain ⟨M_52, e32, h⟩ := bnd_elim h
          have F33 : Fr (w_X6_reads) (v_X6_reads) M M_52 := F30.tr (by rw [e32]; exact Fr.wr (Or.inr (Or.inr (Or.inl ⟨by omega, by decide⟩))))
          cases h
          exact F33
    · rw [if_neg hc18] at h
      obtain ⟨x34, hr35, h⟩ := bind_elim h
      have F36 := F16.tr (lp_fr (w := (w_X6_reads)) (v := (v_X6_reads)) (fun x : Mem => x) (fun x : Mem => x) (fun s o hq => fr_b_X6_reads_95 hq) _ _ _ hr35)
      obtain ⟨M_63, rfl⟩ : ∃ z, z = x34 := ⟨_, rfl⟩
      replace h := un1_e h
      have F37 : Fr (w_X6_reads) (v_X6_reads) M M_63 := F36
      obtain ⟨r_65, hr38, h⟩ := bind_elim h
      obtain ⟨M_66, e39, h⟩ := bnd_elim h
      have F40 : Fr (w_X6_reads) (v_X6_reads) M M_66 := F37.tr (by rw [e39]; exact Fr.wr (Or.inr (Or.inr (Or.inr ⟨by omega, by decide⟩))))
      by_cases hc41 : (rd M_66 148 24) = (-1)
      · rw [if_pos hc41] at h
        cases h
        exact F40
      · rw [if_neg hc41] at h
        obtain ⟨M_69, e42, h⟩ := bnd_elim h
        have F43 : Fr (w_X6_reads) (v_X6_reads) M M_69 := F40.tr (by rw [e42]; exact Fr.wr (Or.inr (Or.inr (Or.inl ⟨by omega, by decide⟩))))
        cases h
        exact F43
set_option maxHeartbeats 1000000 in
theorem fr_m_X6_errs {M : Mem} {a1 : Int32} {rr : Int32} {M2 : Mem} (h : m_X6_errs M a1 = some (rr, M2)) : Fr (w_X6_errs) (v_X6_errs) M M2 := by
  unfold m_X6_errs at h
  have F0 : Fr (w_X6_errs) (v_X6_errs) M M := Fr.rf
  obtain ⟨M_1, e1, h⟩ := bnd_elim h
  have F2 : Fr (w_X6_errs) (v_X6_errs) M M_1 := F0.tr (by rw [e1]; exact Fr.wr (Or.inl ⟨by omega, by decide⟩))
  obtain ⟨M_3, e3, h⟩ := bnd_elim h
  have F4 : Fr (w_X6_errs) (v_X6_errs) M M_3 := F2.tr (by rw [e3]; exact Fr.wr (Or.inr ⟨by omega, by decide⟩))
  cases h
  exact F4
set_option maxHeartbeats 1000000 in
theorem fr_m_X6_emits {M : Mem} {a1 : Int32} {a2 : Int32} {M2 : Mem} (h : m_X6_emits M a1 a2 = some M2) : Fr (w_X6_emits) (v_X6_emits) M M2 := by
  unfold m_X6_emits at h
  have F0 : Fr (w_X6_emits) (v_X6_emits) M M := Fr.rf
  obtain ⟨hb1, h⟩ := chk_elim h
  have q2 := inb_lt hb1
  obtain ⟨M_2, e3, h⟩ := bnd_elim h
  have F4 : Fr (w_X6_emits) (v_X6_emits) M M_2 := F0.tr (by rw [e3]; exact Fr.wr (Or.inr (by omega)))
  obtain ⟨hb5, h⟩ := chk_elim h
  have q6 := inb_lt hb5
  obtain ⟨M_5, e7, h⟩ := bnd_elim h
  have F8 : Fr (w_X6_emits) (v_X6_emits) M M_5 := F4.tr (by rw [e7]; exact Fr.wr (Or.inr (by omega)))
  obtain ⟨M_7, e9, h⟩ := bnd_elim h
  have F10 : Fr (w_X6_emits) (v_X6_emits) M M_7 := F8.tr (by rw [e9]; exact Fr.wr (Or.inl ⟨by omega, by decide⟩))
  cases h
  exact F10
set_option maxHeartbeats 1000000 in
theorem fr_j_X6_readUnit_67 {fu : Nat} {M : Mem} {t1 : Int32} {t2 : Int32} {rr : Int32} {M2 : Mem} (h : j_X6_readUnit_67 fu M t1 t2 = some (rr, M2)) : Fr (w_X6_readUnit) (v_X6_readUnit) M M2 := by
  unfold j_X6_readUnit_67 at h
  have F0 : Fr (w_X6_readUnit) (v_X6_readUnit) M M := Fr.rf
  obtain ⟨M_6, hr1, h⟩ := bind_elim h
  have F2 : Fr (w_X6_readUnit) (v_X6_readUnit) M M_6 := F0.tr ((fr_m_X6_emits hr1).mono (fun k j h => by
      unfold w_X6_emits at h
      rcases h with h | h
      · exact (Or.inr (Or.inr (Or.inr (Or.inr (Or.inl ⟨by omega, h.2⟩)))))
      · exact (Or.inr (Or.inr (Or.inr (Or.inr (Or.inr (Or.inr (Or.inr (by omega))))))))) (fun k j h => absurd h id))
  obtain ⟨M_8, hr3, h⟩ := bind_elim h
  have F4 : Fr (w_X6_readUnit) (v_X6_readUnit) M M_8 := F2.tr ((fr_m_X6_reads hr3).mono (fun k j h => by
      unfold w_X6_reads at h
      rcases h with h | h | h | h
      · exact (Or.inl ⟨by omega, h.2⟩)
      · exact (Or.inr (Or.inl ⟨by omega, h.2⟩))
      · exact (Or.inr (Or.inr (Or.inl ⟨by omega, h.2⟩)))
      · exact (Or.inr (Or.inr (Or.inr (Or.inl ⟨by omega, h.2⟩))))) (fun k j h => absurd h id))
  cases h
  exact F4
set_option maxHeartbeats 1000000 in
theorem fr_j_X6_readUnit_50 {fu : Nat} {M : Mem} {s1 : Int32} {t1 : Int32} {rr : Int32} {M2 : Mem} (h : j_X6_readUnit_50 fu M s1 t1 = some (rr, M2)) : Fr (w_X6_readUnit) (v_X6_readUnit) M M2 := by
  unfold j_X6_readUnit_50 at h
  have F0 : Fr (w_X6_readUnit) (v_X6_readUnit) M M := Fr.rf
  by_cases hc1 : s1 = 0
  · rw [if_pos hc1] at h
    exact F0.tr (fr_j_X6_readUnit_67 h)
  · rw [if_neg hc1] at h
    exact F0.tr (fr_j_X6_readUnit_67 h)
set_option maxHeartbeats 1000000 in
theorem fr_j_X6_readUnit_40 {fu : Nat} {M : Mem} {s1 : Int32} {rr : Int32} {M2 : Mem} (h : j_X6_readUnit_40 fu M s1 = some (rr, M2)) : Fr (w_X6_readUnit) (v_X6_readUnit) M M2 := by
  unfold j_X6_readUnit_40 at h
  have F0 : Fr (w_X6_readUnit) (v_X6_readUnit) M M := Fr.rf
  by_cases hc1 : s1 = 0
  · rw [if_pos hc1] at h
    exact F0.tr (fr_j_X6_readUnit_50 h)
  · rw [if_neg hc1] at h
    exact F0.tr (fr_j_X6_readUnit_50 h)
set_option maxHeartbeats 1000000 in
theorem fr_j_X6_readUnit_21 {fu : Nat} {M : Mem} {t0 : Int32} {rr : Int32} {M2 : Mem} (h : j_X6_readUnit_21 fu M t0 = some (rr, M2)) : Fr (w_X6_readUnit) (v_X6_readUnit) M M2 := by
  unfold j_X6_readUnit_21 at h
  have F0 : Fr (w_X6_readUnit) (v_X6_readUnit) M M := Fr.rf
  by_cases hc1 : t0 = 0
  · rw [if_pos hc1] at h
    by_cases hc2 : (rd M 148 23) = 3
    · rw [if_pos hc2] at h
      exact F0.tr (fr_j_X6_readUnit_40 h)
    · rw [if_neg hc2] at h
      obtain ⟨⟨r_11, M_12⟩, hr3, h⟩ := bind_elim h
      replace h := un2_e h
      have F4 : Fr (w_X6_readUnit) (v_X6_readUnit) M M_12 := F0.tr ((fr_m_X6_errs hr3).mono (fun k j h => by
          unfold w_X6_errs at h
          rcases h with h | h
          · exact (Or.inr (Or.inr (Or.inr (Or.inr (Or.inr (Or.inl ⟨by omega, h.2⟩))))))
          · exact (Or.inr (Or.inr (Or.inr (Or.inr (Or.inr (Or.inr (Or.inl ⟨by omega, h.2⟩)))))))) (fun k j h => absurd h id))
      cases h
      exact F4
  · rw [if_neg hc1] at h
    exact F0.tr (fr_j_X6_readUnit_40 h)
set_option maxHeartbeats 1000000 in
theorem fr_j_X6_readUnit_20 {fu : Nat} {M : Mem} {rr : Int32} {M2 : Mem} (h : j_X6_readUnit_20 fu M = some (rr, M2)) : Fr (w_X6_readUnit) (v_X6_readUnit) M M2 := by
  unfold j_X6_readUnit_20 at h
  have F0 : Fr (w_X6_readUnit) (v_X6_readUnit) M M := Fr.rf
  exact F0.tr (fr_j_X6_readUnit_21 h)
set_option maxHeartbeats 1000000 in
theorem fr_m_X6_readUnit {fu : Nat} {M : Mem} {rr : Int32} {M2 : Mem} (h : m_X6_readUnit fu M = some (rr, M2)) : Fr (w_X6_readUnit) (v_X6_readUnit) M M2 := by
  unfold m_X6_readUnit at h
  have F0 : Fr (w_X6_readUnit) (v_X6_readUnit) M M := Fr.rf
  by_cases hc1 : (rd M 148 23) = 2
  · rw [if_pos hc1] at h
    by_cases hc2 : (rd M 148 24) < 5
    · rw [if_pos hc2] at h
      exact F0.tr (fr_j_X6_readUnit_20 h)
    · rw [if_neg hc2] at h
      exact F0.tr (fr_j_X6_readUnit_21 h)
  · rw [if_neg hc1] at h
    exact F0.tr (fr_j_X6_readUnit_20 h)
set_option maxHeartbeats 1000000 in
theorem fr_j_X6_readProduct_94i {fu : Nat} {M : Mem} {t1 : Int32} {o : (Mem) ⊕ ((Mem) ⊕ ((Mem) ⊕ ((Mem) ⊕ (Mem))))} (h : j_X6_readProduct_94i fu M t1 = some o) : Fr (w_X6_readProduct) (v_X6_readProduct) M ((Sum.elim (fun x : Mem => x) (Sum.elim (fun x : Mem => x) (Sum.elim (fun x : Mem => x) (Sum.elim (fun x : Mem => x) (fun x : Mem => x))))) o) := by
  unfold j_X6_readProduct_94i at h
  have F0 : Fr (w_X6_readProduct) (v_X6_readProduct) M M := Fr.rf
  obtain ⟨M_20, hr1, h⟩ := bind_elim h
  have F2 : Fr (w_X6_readProduct) (v_X6_readProduct) M M_20 := F0.tr ((fr_m_X6_emits hr1).mono (fun k j h => by
      unfold w_X6_emits at h
      rcases h with h | h
      · exact (Or.inr (Or.inr (Or.inr (Or.inr (Or.inl ⟨by omega, h.2⟩)))))
      · exact (Or.inr (Or.inr (Or.inr (Or.inr (Or.inr (Or.inr (Or.inr (by omega))))))))) (fun k j h => absurd h id))
  cases h
  exact F2
set_option maxHeartbeats 1000000 in
theorem fr_j_X6_readProduct_74i {fu : Nat} {M : Mem} {s1 : Int32} {o : (Mem) ⊕ ((Mem) ⊕ ((Mem) ⊕ ((Mem) ⊕ (Mem))))} (h : j_X6_readProduct_74i fu M s1 = some o) : Fr (w_X6_readProduct) (v_X6_readProduct) M ((Sum.elim (fun x : Mem => x) (Sum.elim (fun x : Mem => x) (Sum.elim (fun x : Mem => x) (Sum.elim (fun x : Mem => x) (fun x : Mem => x))))) o) := by
  unfold j_X6_readProduct_74i at h
  have F0 : Fr (w_X6_readProduct) (v_X6_readProduct) M M := Fr.rf
  obtain ⟨⟨r_15, M_16⟩, hr1, h⟩ := bind_elim h
  replace h := un2_e h
  have F2 : Fr (w_X6_readProduct) (v_X6_readProduct) M M_16 := F0.tr ((fr_m_X6_readUnit hr1).mono (fun k j h => by
      unfold w_X6_readUnit at h
      rcases h with h | h | h | h | h | h | h | h
      · exact (Or.inl ⟨by omega, h.2⟩)
      · exact (Or.inr (Or.inl ⟨by omega, h.2⟩))
      · exact (Or.inr (Or.inr (Or.inl ⟨by omega, h.2⟩)))
      · exact (Or.inr (Or.inr (Or.inr (Or.inl ⟨by omega, h.2⟩))))
      · exact (Or.inr (Or.inr (Or.inr (Or.inr (Or.inl ⟨by omega, h.2⟩)))))
      · exact (Or.inr (Or.inr (Or.inr (Or.inr (Or.inr (Or.inl ⟨by omega, h.2⟩))))))
      · exact (Or.inr (Or.inr (Or.inr (Or.inr (Or.inr (Or.inr (Or.inl ⟨by omega, h.2⟩)))))))
      · exact (Or.inr (Or.inr (Or.inr (Or.inr (Or.inr (Or.inr (Or.inr (by omega))))))))) (fun k j h => absurd h id))
  by_cases hc3 : r_15 = (-1)
  · rw [if_pos hc3] at h
    cases h
    exact F2
  · rw [if_neg hc3] at h
    by_cases hc4 : s1 = 0
    · rw [if_pos hc4] at h
      exact F2.tr (fr_j_X6_readProduct_94i h)
    · rw [if_neg hc4] at h
      exact F2.tr (fr_j_X6_readProduct_94i h)
set_option maxHeartbeats 1000000 in
theorem fr_j_X6_readProduct_57i {fu : Nat} {M : Mem} {s1 : Int32} {o : (Mem) ⊕ ((Mem) ⊕ ((Mem) ⊕ ((Mem) ⊕ (Mem))))} (h : j_X6_readProduct_57i fu M s1 = some o) : Fr (w_X6_readProduct) (v_X6_readProduct) M ((Sum.elim (fun x : Mem => x) (Sum.elim (fun x : Mem => x) (Sum.elim (fun x : Mem => x) (Sum.elim (fun x : Mem => x) (fun x : Mem => x))))) o) := by
  unfold j_X6_readProduct_57i at h
  have F0 : Fr (w_X6_readProduct) (v_X6_readProduct) M M := Fr.rf
  by_cases hc1 : s1 = 0
  · rw [if_pos hc1] at h
    by_cases hc2 : (rd M 148 24) = 0
    · rw [if_pos hc2] at h
      cases h
      exact F0
    · rw [if_neg hc2] at h
      exact F0.tr (fr_j_X6_readProduct_74i h)
  · rw [if_neg hc1] at h
    exact F0.tr (fr_j_X6_readProduct_74i h)
set_option maxHeartbeats 1000000 in
theorem fr_j_X6_readProduct_28i {fu : Nat} {M : Mem} {o : (Mem) ⊕ ((Mem) ⊕ ((Mem) ⊕ ((Mem) ⊕ (Mem))))} (h : j_X6_readProduct_28i fu M = some o) : Fr (w_X6_readProduct) (v_X6_readProduct) M ((Sum.elim (fun x : Mem => x) (Sum.elim (fun x : Mem => x) (Sum.elim (fun x : Mem => x) (Sum.elim (fun x : Mem => x) (fun x : Mem => x))))) o) := by
  unfold j_X6_readProduct_28i at h
  have F0 : Fr (w_X6_readProduct) (v_X6_readProduct) M M := Fr.rf
  obtain ⟨r_9, hr1, h⟩ := bind_elim h
  obtain ⟨M_11, hr2, h⟩ := bind_elim h
  have F3 : Fr (w_X6_readProduct) (v_X6_readProduct) M M_11 := F0.tr ((fr_m_X6_reads hr2).mono (fun k j h => by
      unfold w_X6_reads at h
      rcases h with h | h | h | h
      · exact (Or.inl ⟨by omega, h.2⟩)
      · exact (Or.inr (Or.inl ⟨by omega, h.2⟩))
      · exact (Or.inr (Or.inr (Or.inl ⟨by omega, h.2⟩)))
      · exact (Or.inr (Or.inr (Or.inr (Or.inl ⟨by omega, h.2⟩))))) (fun k j h => absurd h id))
  by_cases hc4 : r_9 = 0
  · rw [if_pos hc4] at h
    by_cases hc5 : (rd M_11 148 23) = 3
    · rw [if_pos hc5] at h
      exact F3.tr (fr_j_X6_readProduct_57i h)
    · rw [if_neg hc5] at h
      cases h
      exact F3
  · rw [if_neg hc4] at h
    exact F3.tr (fr_j_X6_readProduct_57i h)
set_option maxHeartbeats 1000000 in
theorem fr_b_X6_readProduct_10 {fu : Nat} {s0 : Mem} {o : (Mem) ⊕ ((Mem) ⊕ ((Mem) ⊕ ((Mem) ⊕ (Mem))))} (h : b_X6_readProduct_10 fu s0 = some o) : Fr (w_X6_readProduct) (v_X6_readProduct) ((fun x : Mem => x) s0) (Sum.elim (fun x : Mem => x) (Sum.elim (fun x : Mem => x) (Sum.elim (fun x : Mem => x) (Sum.elim (fun x : Mem => x) (fun x : Mem => x)))) o) := by
  obtain ⟨M, rfl⟩ : ∃ z, z = s0 := ⟨_, rfl⟩
  unfold b_X6_readProduct_10 at h
  replace h := un1_e h
  have F0 : Fr (w_X6_readProduct) (v_X6_readProduct) M M := Fr.rf
  obtain ⟨r_6, hr1, h⟩ := bind_elim h
  by_cases hc2 : r_6 = 0
  · rw [if_pos hc2] at h
    obtain ⟨r_24, hr3, h⟩ := bind_elim h
    by_cases hc4 : r_24 = 0
    · rw [if_pos hc4] at h
      cases h
      exact F0
    · rw [if_neg hc4] at h
      exact F0.tr (fr_j_X6_readProduct_28i h)
  · rw [if_neg hc2] at h
    exact F0.tr (fr_j_X6_readProduct_28i h)
set_option maxHeartbeats 1000000 in
theorem fr_m_X6_readProduct {fu : Nat} {M : Mem} {rr : Int32} {M2 : Mem} (h : m_X6_readProduct fu M = some (rr, M2)) : Fr (w_X6_readProduct) (v_X6_readProduct) M M2 := by
  unfold m_X6_readProduct at h
  have F0 : Fr (w_X6_readProduct) (v_X6_readProduct) M M := Fr.rf
  obtain ⟨⟨r_2, M_3⟩, hr1, h⟩ := bind_elim h
  replace h := un2_e h
  have F2 : Fr (w_X6_readProduct) (v_X6_readProduct) M M_3 := F0.tr ((fr_m_X6_readUnit hr1).mono (fun k j h => by
      unfold w_X6_readUnit at h
      rcases h with h | h | h | h | h | h | h | h
      · exact (Or.inl ⟨by omega, h.2⟩)
      · exact (Or.inr (Or.inl ⟨by omega, h.2⟩))
      · exact (Or.inr (Or.inr (Or.inl ⟨by omega, h.2⟩)))
      · exact (Or.inr (Or.inr (Or.inr (Or.inl ⟨by omega, h.2⟩))))
      · exact (Or.inr (Or.inr (Or.inr (Or.inr (Or.inl ⟨by omega, h.2⟩)))))
      · exact (Or.inr (Or.inr (Or.inr (Or.inr (Or.inr (Or.inl ⟨by omega, h.2⟩))))))
      · exact (Or.inr (Or.inr (Or.inr (Or.inr (Or.inr (Or.inr (Or.inl ⟨by omega, h.2⟩)))))))
      · exact (Or.inr (Or.inr (Or.inr (Or.inr (Or.inr (Or.inr (Or.inr (by omega))))))))) (fun k j h => absurd h id))
  by_cases hc3 : r_2 = (-1)
  · rw [if_pos hc3] at h
    cases h
    exact F2
  · rw [if_neg hc3] at h
    obtain ⟨x4, hr5, h⟩ := bind_elim h
    have F6 := F2.tr (lp_fr (w := (w_X6_readProduct)) (v := (v_X6_readProduct)) (fun x : Mem => x) (Sum.elim (fun x : Mem => x) (Sum.elim (fun x : Mem => x) (Sum.elim (fun x : Mem => x) (fun x : Mem => x)))) (fun s o hq => fr_b_X6_readProduct_10 hq) _ _ _ hr5)
    rcases x4 with y7 | y7
    · replace h := unS_l h
      obtain ⟨M_28, rfl⟩ : ∃ z, z = y7 := ⟨_, rfl⟩
      replace h := un1_e h
      have F8 : Fr (w_X6_readProduct) (v_X6_readProduct) M M_28 := F6
      obtain ⟨⟨r_30, M_31⟩, hr9, h⟩ := bind_elim h
      replace h := un2_e h
      have F10 : Fr (w_X6_readProduct) (v_X6_readProduct) M M_31 := F8.tr ((fr_m_X6_errs hr9).mono (fun k j h => by
          unfold w_X6_errs at h
          rcases h with h | h
          · exact (Or.inr (Or.inr (Or.inr (Or.inr (Or.inr (Or.inl ⟨by omega, h.2⟩))))))
          · exact (Or.inr (Or.inr (Or.inr (Or.inr (Or.inr (Or.inr (Or.inl ⟨by omega, h.2⟩)))))))) (fun k j h => absurd h id))
      cases h
      exact F10
    · replace h := unS_r h
      rcases y7 with y11 | y11
      · replace h := unS_l h
        obtain ⟨M_32, rfl⟩ : ∃ z, z = y11 := ⟨_, rfl⟩
        replace h := un1_e h
        have F12 : Fr (w_X6_readProduct) (v_X6_readProduct) M M_32 := F6
        obtain ⟨⟨r_34, M_35⟩, hr13, h⟩ := bind_elim h
        replace h := un2_e h
        have F14 : Fr (w_X6_readProduct) (v_X6_readProduct) M M_35 := F12.tr ((fr_m_X6_errs hr13).mono (fun k j h => by
            unfold w_X6_errs at h
            rcases h with h | h
            · exact (Or.inr (Or.inr (Or.inr (Or.inr (Or.inr (Or.inl ⟨by omega, h.2⟩))))))
            · exact (Or.inr (Or.inr (Or.inr (Or.inr (Or.inr (Or.inr (Or.inl ⟨by omega, h.2⟩)))))))) (fun k j h => absurd h id))
        cases h
        exact F14
      · replace h := unS_r h
        rcases y11 with y15 | y15
        · replace h := unS_l h
          obtain ⟨M_36, rfl⟩ : ∃ z, z = y15 := ⟨_, rfl⟩
          replace h := un1_e h
          have F16 : Fr (w_X6_readProduct) (v_X6_readProduct) M M_36 := F6
          cases h
          exact F16
        · replace h := unS_r h
          obtain ⟨M_37, rfl⟩ : ∃ z, z = y15 := ⟨_, rfl⟩
          replace h := un1_e h
          have F17 : Fr (w_X6_readProduct) (v_X6_readProduct) M M_37 := F6
          cases h
          exact F17
set_option maxHeartbeats 1000000 in
theorem fr_j_X6_readSum_42i {fu : Nat} {M : Mem} {t0 : Int32} {o : (Mem) ⊕ ((Mem) ⊕ (Mem))} (h : j_X6_readSum_42i fu M t0 = some o) : Fr (w_X6_readSum) (v_X6_readSum) M ((Sum.elim (fun x : Mem => x) (Sum.elim (fun x : Mem => x) (fun x : Mem => x))) o) := by
  unfold j_X6_readSum_42i at h
  have F0 : Fr (w_X6_readSum) (v_X6_readSum) M M := Fr.rf
  obtain ⟨M_10, hr1, h⟩ := bind_elim h
  have F2 : Fr (w_X6_readSum) (v_X6_readSum) M M_10 := F0.tr ((fr_m_X6_reads hr1).mono (fun k j h => by
      unfold w_X6_reads at h
      rcases h with h | h | h | h
      · exact (Or.inl ⟨by omega, h.2⟩)
      · exact (Or.inr (Or.inl ⟨by omega, h.2⟩))
      · exact (Or.inr (Or.inr (Or.inl ⟨by omega, h.2⟩)))
      · exact (Or.inr (Or.inr (Or.inr (Or.inl ⟨by omega, h.2⟩))))) (fun k j h => absurd h id))
  obtain ⟨⟨r_12, M_13⟩, hr3, h⟩ := bind_elim h
  replace h := un2_e h
  have F4 : Fr (w_X6_readSum) (v_X6_readSum) M M_13 := F2.tr ((fr_m_X6_readProduct hr3).mono (fun k j h => by
      unfold w_X6_readProduct at h
      rcases h with h | h | h | h | h | h | h | h
      · exact (Or.inl ⟨by omega, h.2⟩)
      · exact (Or.inr (Or.inl ⟨by omega, h.2⟩))
      · exact (Or.inr (Or.inr (Or.inl ⟨by omega, h.2⟩)))
      · exact (Or.inr (Or.inr (Or.inr (Or.inl ⟨by omega, h.2⟩))))
      · exact (Or.inr (Or.inr (Or.inr (Or.inr (Or.inl ⟨by omega, h.2⟩)))))
      · exact (Or.inr (Or.inr (Or.inr (Or.inr (Or.inr (Or.inl ⟨by omega, h.2⟩))))))
      · exact (Or.inr (Or.inr (Or.inr (Or.inr (Or.inr (Or.inr (Or.inl ⟨by omega, h.2⟩)))))))
      · exact (Or.inr (Or.inr (Or.inr (Or.inr (Or.inr (Or.inr (Or.inr (by omega))))))))) (fun k j h => absurd h id))
  by_cases hc5 : r_12 = (-1)
  · rw [if_pos hc5] at h
    cases h
    exact F4
  · rw [if_neg hc5] at h
    obtain ⟨M_16, hr6, h⟩ := bind_elim h
    have F7 : Fr (w_X6_readSum) (v_X6_readSum) M M_16 := F4.tr ((fr_m_X6_emits hr6).mono (fun k j h => by
        unfold w_X6_emits at h
        rcases h with h | h
        · exact (Or.inr (Or.inr (Or.inr (Or.inr (Or.inl ⟨by omega, h.2⟩)))))
        · exact (Or.inr (Or.inr (Or.inr (Or.inr (Or.inr (Or.inr (Or.inr (by omega))))))))) (fun k j h => absurd h id))
    cases h
    exact F7
set_option maxHeartbeats 1000000 in
theorem fr_j_X6_readSum_28i {fu : Nat} {M : Mem} {o : (Mem) ⊕ ((Mem) ⊕ (Mem))} (h : j_X6_readSum_28i fu M = some o) : Fr (w_X6_readSum) (v_X6_readSum) M ((Sum.elim (fun x : Mem => x) (Sum.elim (fun x : Mem => x) (fun x : Mem => x))) o) := by
  unfold j_X6_readSum_28i at h
  have F0 : Fr (w_X6_readSum) (v_X6_readSum) M M := Fr.rf
  by_cases hc1 : (rd M 148 24) = 43
  · rw [if_pos hc1] at h
    exact F0.tr (fr_j_X6_readSum_42i h)
  · rw [if_neg hc1] at h
    exact F0.tr (fr_j_X6_readSum_42i h)
set_option maxHeartbeats 1000000 in
theorem fr_b_X6_readSum_10 {fu : Nat} {s0 : Mem} {o : (Mem) ⊕ ((Mem) ⊕ (Mem))} (h : b_X6_readSum_10 fu s0 = some o) : Fr (w_X6_readSum) (v_X6_readSum) ((fun x : Mem => x) s0) (Sum.elim (fun x : Mem => x) (Sum.elim (fun x : Mem => x) (fun x : Mem => x)) o) := by
  obtain ⟨M, rfl⟩ : ∃ z, z = s0 := ⟨_, rfl⟩
  unfold b_X6_readSum_10 at h
  replace h := un1_e h
  have F0 : Fr (w_X6_readSum) (v_X6_readSum) M M := Fr.rf
  obtain ⟨r_6, hr1, h⟩ := bind_elim h
  by_cases hc2 : r_6 = 0
  · rw [if_pos hc2] at h
    obtain ⟨r_18, hr3, h⟩ := bind_elim h
    by_cases hc4 : r_18 = 0
    · rw [if_pos hc4] at h
      cases h
      exact F0
    · rw [if_neg hc4] at h
      exact F0.tr (fr_j_X6_readSum_28i h)
  · rw [if_neg hc2] at h
    exact F0.tr (fr_j_X6_readSum_28i h)
set_option maxHeartbeats 1000000 in
theorem fr_m_X6_readSum {fu : Nat} {M : Mem} {rr : Int32} {M2 : Mem} (h : m_X6_readSum fu M = some (rr, M2)) : Fr (w_X6_readSum) (v_X6_readSum) M M2 := by
  unfold m_X6_readSum at h
  have F0 : Fr (w_X6_readSum) (v_X6_readSum) M M := Fr.rf
  obtain ⟨⟨r_2, M_3⟩, hr1, h⟩ := bind_elim h
  replace h := un2_e h
  have F2 : Fr (w_X6_readSum) (v_X6_readSum) M M_3 := F0.tr ((fr_m_X6_readProduct hr1).mono (fun k j h => by
      unfold w_X6_readProduct at h
      rcases h with h | h | h | h | h | h | h | h
      · exact (Or.inl ⟨by omega, h.2⟩)
      · exact (Or.inr (Or.inl ⟨by omega, h.2⟩))
      · exact (Or.inr (Or.inr (Or.inl ⟨by omega, h.2⟩)))
      · exact (Or.inr (Or.inr (Or.inr (Or.inl ⟨by omega, h.2⟩))))
      · exact (Or.inr (Or.inr (Or.inr (Or.inr (Or.inl ⟨by omega, h.2⟩)))))
      · exact (Or.inr (Or.inr (Or.inr (Or.inr (Or.inr (Or.inl ⟨by omega, h.2⟩))))))
      · exact (Or.inr (Or.inr (Or.inr (Or.inr (Or.inr (Or.inr (Or.inl ⟨by omega, h.2⟩)))))))
      · exact (Or.inr (Or.inr (Or.inr (Or.inr (Or.inr (Or.inr (Or.inr (by omega))))))))) (fun k j h => absurd h id))
  by_cases hc3 : r_2 = (-1)
  · rw [if_pos hc3] at h
    cases h
    exact F2
  · rw [if_neg hc3] at h
    obtain ⟨x4, hr5, h⟩ := bind_elim h
    have F6 := F2.tr (lp_fr (w := (w_X6_readSum)) (v := (v_X6_readSum)) (fun x : Mem => x) (Sum.elim (fun x : Mem => x) (fun x : Mem => x)) (fun s o hq => fr_b_X6_readSum_10 hq) _ _ _ hr5)
    rcases x4 with y7 | y7
    · replace h := unS_l h
      obtain ⟨M_22, rfl⟩ : ∃ z, z = y7 := ⟨_, rfl⟩
      replace h := un1_e h
      have F8 : Fr (w_X6_readSum) (v_X6_readSum) M M_22 := F6
      cases h
      exact F8
    · replace h := unS_r h
      obtain ⟨M_23, rfl⟩ : ∃ z, z = y7 := ⟨_, rfl⟩
      replace h := un1_e h
      have F9 : Fr (w_X6_readSum) (v_X6_readSum) M M_23 := F6
      cases h
      exact F9
set_option maxHeartbeats 1000000 in
theorem fr_j_X6_readCompared_73 {fu : Nat} {M : Mem} {t0 : Int32} {rr : Int32} {M2 : Mem} (h : j_X6_readCompared_73 fu M t0 = some (rr, M2)) : Fr (w_X6_readCompared) (v_X6_readCompared) M M2 := by
  unfold j_X6_readCompared_73 at h
  have F0 : Fr (w_X6_readCompared) (v_X6_readCompared) M M := Fr.rf
  obtain ⟨M_11, hr1, h⟩ := bind_elim h
  have F2 : Fr (w_X6_readCompared) (v_X6_readCompared) M M_11 := F0.tr ((fr_m_X6_reads hr1).mono (fun k j h => by
      unfold w_X6_reads at h
      rcases h with h | h | h | h
      · exact (Or.inl ⟨by omega, h.2⟩)
      · exact (Or.inr (Or.inl ⟨by omega, h.2⟩))
      · exact (Or.inr (Or.inr (Or.inl ⟨by omega, h.2⟩)))
      · exact (Or.inr (Or.inr (Or.inr (Or.inl ⟨by omega, h.2⟩))))) (fun k j h => absurd h id))
  obtain ⟨⟨r_13, M_14⟩, hr3, h⟩ := bind_elim h
  replace h := un2_e h
  have F4 : Fr (w_X6_readCompared) (v_X6_readCompared) M M_14 := F2.tr ((fr_m_X6_readSum hr3).mono (fun k j h => by
      unfold w_X6_readSum at h
      rcases h with h | h | h | h | h | h | h | h
      · exact (Or.inl ⟨by omega, h.2⟩)
      · exact (Or.inr (Or.inl ⟨by omega, h.2⟩))
      · exact (Or.inr (Or.inr (Or.inl ⟨by omega, h.2⟩)))
      · exact (Or.inr (Or.inr (Or.inr (Or.inl ⟨by omega, h.2⟩))))
      · exact (Or.inr (Or.inr (Or.inr (Or.inr (Or.inl ⟨by omega, h.2⟩)))))
      · exact (Or.inr (Or.inr (Or.inr (Or.inr (Or.inr (Or.inl ⟨by omega, h.2⟩))))))
      · exact (Or.inr (Or.inr (Or.inr (Or.inr (Or.inr (Or.inr (Or.inl ⟨by omega, h.2⟩)))))))
      · exact (Or.inr (Or.inr (Or.inr (Or.inr (Or.inr (Or.inr (Or.inr (by omega))))))))) (fun k j h => absurd h id))
  by_cases hc5 : r_13 = (-1)
  · rw [if_pos hc5] at h
    cases h
    exact F4
  · rw [if_neg hc5] at h
    obtain ⟨M_17, hr6, h⟩ := bind_elim h
    have F7 : Fr (w_X6_readCompared) (v_X6_readCompared) M M_17 := F4.tr ((fr_m_X6_emits hr6).mono (fun k j h => by
        unfold w_X6_emits at h
        rcases h with h | h
        · exact (Or.inr (Or.inr (Or.inr (Or.inr (Or.inl ⟨by omega, h.2⟩)))))
        · exact (Or.inr (Or.inr (Or.inr (Or.inr (Or.inr (Or.inr (Or.inr (by omega))))))))) (fun k j h => absurd h id))
    cases h
    exact F7
set_option maxHeartbeats 1000000 in
theorem fr_j_X6_readCompared_43 {fu : Nat} {M : Mem} {rr : Int32} {M2 : Mem} (h : j_X6_readCompared_43 fu M = some (rr, M2)) : Fr (w_X6_readCompared) (v_X6_readCompared) M M2 := by
  unfold j_X6_readCompared_43 at h
  have F0 : Fr (w_X6_readCompared) (v_X6_readCompared) M M := Fr.rf
  by_cases hc1 : (rd M 148 24) = 60
  · rw [if_pos hc1] at h
    exact F0.tr (fr_j_X6_readCompared_73 h)
  · rw [if_neg hc1] at h
    by_cases hc2 : (rd M 148 24) = 61
    · rw [if_pos hc2] at h
      exact F0.tr (fr_j_X6_readCompared_73 h)
    · rw [if_neg hc2] at h
      exact F0.tr (fr_j_X6_readCompared_73 h)
set_option maxHeartbeats 1000000 in
theorem fr_m_X6_readCompared {fu : Nat} {M : Mem} {rr : Int32} {M2 : Mem} (h : m_X6_readCompared fu M = some (rr, M2)) : Fr (w_X6_readCompared) (v_X6_readCompared) M M2 := by
  unfold m_X6_readCompared at h
  have F0 : Fr (w_X6_readCompared) (v_X6_readCompared) M M := Fr.rf
  obtain ⟨⟨r_2, M_3⟩, hr1, h⟩ := bind_elim h
  replace h := un2_e h
  have F2 : Fr (w_X6_readCompared) (v_X6_readCompared) M M_3 := F0.tr ((fr_m_X6_readSum hr1).mono (fun k j h => by
      unfold w_X6_readSum at h
      rcases h with h | h | h | h | h | h | h | h
      · exact (Or.inl ⟨by omega, h.2⟩)
      · exact (Or.inr (Or.inl ⟨by omega, h.2⟩))
      · exact (Or.inr (Or.inr (Or.inl ⟨by omega, h.2⟩)))
      · exact (Or.inr (Or.inr (Or.inr (Or.inl ⟨by omega, h.2⟩))))
      · exact (Or.inr (Or.inr (Or.inr (Or.inr (Or.inl ⟨by omega, h.2⟩)))))
      · exact (Or.inr (Or.inr (Or.inr (Or.inr (Or.inr (Or.inl ⟨by omega, h.2⟩))))))
      · exact (Or.inr (Or.inr (Or.inr (Or.inr (Or.inr (Or.inr (Or.inl ⟨by omega, h.2⟩)))))))
      · exact (Or.inr (Or.inr (Or.inr (Or.inr (Or.inr (Or.inr (Or.inr (by omega))))))))) (fun k j h => absurd h id))
  by_cases hc3 : r_2 = (-1)
  · rw [if_pos hc3] at h
    cases h
    exact F2
  · rw [if_neg hc3] at h
    obtain ⟨r_6, hr4, h⟩ := bind_elim h
    by_cases hc5 : r_6 = 0
    · rw [if_pos hc5] at h
      obtain ⟨r_19, hr6, h⟩ := bind_elim h
      by_cases hc7 : r_19 = 0
      · rw [if_pos hc7] at h
        obtain ⟨r_22, hr8, h⟩ := bind_elim h
        by_cases hc9 : r_22 = 0
        · rw [if_pos hc9] at h
          obtain ⟨⟨r_25, M_26⟩, hr10, h⟩ := bind_elim h
          replace h := un2_e h
          have F11 : Fr (w_X6_readCompared) (v_X6_readCompared) M M_26 := F2.tr ((fr_m_X6_errs hr10).mono (fun k j h => by
              unfold w_X6_errs at h
              rcases h with h | h
              · exact (Or.inr (Or.inr (Or.inr (Or.inr (Or.inr (Or.inl ⟨by omega, h.2⟩))))))
              · exact (Or.inr (Or.inr (Or.inr (Or.inr (Or.inr (Or.inr (Or.inl ⟨by omega, h.2⟩)))))))) (fun k j h => absurd h id))
          cases h
          exact F11
        · rw [if_neg hc9] at h
          exact F2.tr (fr_j_X6_readCompared_43 h)
      · rw [if_neg hc7] at h
        exact F2.tr (fr_j_X6_readCompared_43 h)
    · rw [if_neg hc5] at h
      exact F2.tr (fr_j_X6_readCompared_43 h)
set_option maxHeartbeats 1000000 in
theorem fr_m_X6_waits {M : Mem} {a1 : Int32} {M2 : Mem} (h : m_X6_waits M a1 = some M2) : Fr (w_X6_waits) (v_X6_waits) M M2 := by
  unfold m_X6_waits at h
  have F0 : Fr (w_X6_waits) (v_X6_waits) M M := Fr.rf
  obtain ⟨hb1, h⟩ := chk_elim h
  have q2 := inb_lt hb1
  obtain ⟨M_2, e3, h⟩ := bnd_elim h
  have F4 : Fr (w_X6_waits) (v_X6_waits) M M_2 := F0.tr (by rw [e3]; exact Fr.wr (Or.inr (by omega)))
  obtain ⟨M_4, e5, h⟩ := bnd_elim h
  have F6 : Fr (w_X6_waits) (v_X6_waits) M M_4 := F4.tr (by rw [e5]; exact Fr.wr (Or.inl ⟨by omega, by decide⟩))
  cases h
  exact F6
set_option maxHeartbeats 1000000 in
theorem fr_b_X6_settles_0 {fu : Nat} {s1 : Int32} {s0 : Mem} {o : (Mem) ⊕ (Mem)} (h : b_X6_settles_0 fu s1 s0 = some o) : Fr (w_X6_settles) (v_X6_settles) ((fun x : Mem => x) s0) (Sum.elim (fun x : Mem => x) (fun x : Mem => x) o) := by
  obtain ⟨M, rfl⟩ : ∃ z, z = s0 := ⟨_, rfl⟩
  unfold b_X6_settles_0 at h
  replace h := un1_e h
  have F0 : Fr (w_X6_settles) (v_X6_settles) M M := Fr.rf
  by_cases hc1 : (rd M 148 35) ≤ 0
  · rw [if_pos hc1] at h
    cases h
    exact F0
  · rw [if_neg hc1] at h
    obtain ⟨hb2, h⟩ := chk_elim h
    have q3 := inb_lt hb2
    by_cases hc4 : (rd M 171 (ix ((rd M 148 35) - 1))) = s1
    · rw [if_pos hc4] at h
      obtain ⟨M_4, e5, h⟩ := bnd_elim h
      have F6 : Fr (w_X6_settles) (v_X6_settles) M M_4 := F0.tr (by rw [e5]; exact Fr.wr (Or.inr (Or.inr (Or.inl ⟨by omega, by decide⟩))))
      obtain ⟨M_7, hr7, h⟩ := bind_elim h
      have F8 : Fr (w_X6_settles) (v_X6_settles) M M_7 := F6.tr ((fr_m_X6_emits hr7).mono (fun k j h => by
          unfold w_X6_emits at h
          rcases h with h | h
          · exact (Or.inl ⟨by omega, h.2⟩)
          · exact (Or.inr (Or.inr (Or.inr (by omega))))) (fun k j h => absurd h id))
      by_cases hc9 : s1 = 9
      · rw [if_pos hc9] at h
        obtain ⟨M_9, e10, h⟩ := bnd_elim h
        have F11 : Fr (w_X6_settles) (v_X6_settles) M M_9 := F8.tr (by rw [e10]; exact Fr.wr (Or.inr (Or.inl ⟨by omega, by decide⟩)))
        cases h
        exact F11
      · rw [if_neg hc9] at h
        cases h
        exact F8
    · rw [if_neg hc4] at h
      cases h
      exact F0
set_option maxHeartbeats 1000000 in
theorem fr_m_X6_settles {fu : Nat} {M : Mem} {a1 : Int32} {M2 : Mem} (h : m_X6_settles fu M a1 = some M2) : Fr (w_X6_settles) (v_X6_settles) M M2 := by
  unfold m_X6_settles at h
  have F0 : Fr (w_X6_settles) (v_X6_settles) M M := Fr.rf
  obtain ⟨x1, hr2, h⟩ := bind_elim h
  have F3 := F0.tr (lp_fr (w := (w_X6_settles)) (v := (v_X6_settles)) (fun x : Mem => x) (fun x : Mem => x) (fun s o hq => fr_b_X6_settles_0 hq) _ _ _ hr2)
  obtain ⟨M_13, rfl⟩ : ∃ z, z = x1 := ⟨_, rfl⟩
  replace h := un1_e h
  have F4 : Fr (w_X6_settles) (v_X6_settles) M M_13 := F3
  cases h
  exact F4
set_option maxHeartbeats 1000000 in
theorem fr_j_X6_readAny_77i {fu : Nat} {M : Mem} {s1 : Int32} {s2 : Int32} {t1 : Int32} {o : (Int32 × Int32 × Mem) ⊕ ((Mem) ⊕ ((Mem) ⊕ ((Mem) ⊕ (Mem))))} (h : j_X6_readAny_77i fu M s1 s2 t1 = some o) : Fr (w_X6_readAny) (v_X6_readAny) M ((Sum.elim (fun x : Int32 × Int32 × Mem => x.2.2) (Sum.elim (fun x : Mem => x) (Sum.elim (fun x : Mem => x) (Sum.elim (fun x : Mem => x) (fun x : Mem => x))))) o) := by
  unfold j_X6_readAny_77i at h
  have F0 : Fr (w_X6_readAny) (v_X6_readAny) M M := Fr.rf
  obtain ⟨M_51, hr1, h⟩ := bind_elim h
  have F2 : Fr (w_X6_readAny) (v_X6_readAny) M M_51 := F0.tr ((fr_m_X6_waits hr1).mono (fun k j h => by
      unfold w_X6_waits at h
      rcases h with h | h
      · exact (Or.inr (Or.inr (Or.inr (Or.inr (Or.inr (Or.inr (Or.inl ⟨by omega, h.2⟩)))))))
      · exact (Or.inr (Or.inr (Or.inr (Or.inr (Or.inr (Or.inr (Or.inr (Or.inr (Or.inr (by omega))))))))))) (fun k j h => absurd h id))
  obtain ⟨M_53, hr3, h⟩ := bind_elim h
  have F4 : Fr (w_X6_readAny) (v_X6_readAny) M M_53 := F2.tr ((fr_m_X6_reads hr3).mono (fun k j h => by
      unfold w_X6_reads at h
      rcases h with h | h | h | h
      · exact (Or.inl ⟨by omega, h.2⟩)
      · exact (Or.inr (Or.inl ⟨by omega, h.2⟩))
      · exact (Or.inr (Or.inr (Or.inl ⟨by omega, h.2⟩)))
      · exact (Or.inr (Or.inr (Or.inr (Or.inl ⟨by omega, h.2⟩))))) (fun k j h => absurd h id))
  cases h
  exact F4
set_option maxHeartbeats 1000000 in
theorem fr_j_X6_readAny_65i {fu : Nat} {M : Mem} {s1 : Int32} {s2 : Int32} {s3 : Int32} {o : (Int32 × Int32 × Mem) ⊕ ((Mem) ⊕ ((Mem) ⊕ ((Mem) ⊕ (Mem))))} (h : j_X6_readAny_65i fu M s1 s2 s3 = some o) : Fr (w_X6_readAny) (v_X6_readAny) M ((Sum.elim (fun x : Int32 × Int32 × Mem => x.2.2) (Sum.elim (fun x : Mem => x) (Sum.elim (fun x : Mem => x) (Sum.elim (fun x : Mem => x) (fun x : Mem => x))))) o) := by
  unfold j_X6_readAny_65i at h
  have F0 : Fr (w_X6_readAny) (v_X6_readAny) M M := Fr.rf
  by_cases hc1 : s3 = 0
  · rw [if_pos hc1] at h
    exact F0.tr (fr_j_X6_readAny_77i h)
  · rw [if_neg hc1] at h
    exact F0.tr (fr_j_X6_readAny_77i h)
set_option maxHeartbeats 1000000 in
theorem fr_j_X6_readAny_32i {fu : Nat} {M : Mem} {s1 : Int32} {s2 : Int32} {s3 : Int32} {o : (Int32 × Int32 × Mem) ⊕ ((Mem) ⊕ ((Mem) ⊕ ((Mem) ⊕ (Mem))))} (h : j_X6_readAny_32i fu M s1 s2 s3 = some o) : Fr (w_X6_readAny) (v_X6_readAny) M ((Sum.elim (fun x : Int32 × Int32 × Mem => x.2.2) (Sum.elim (fun x : Mem => x) (Sum.elim (fun x : Mem => x) (Sum.elim (fun x : Mem => x) (fun x : Mem => x))))) o) := by
  unfold j_X6_readAny_32i at h
  have F0 : Fr (w_X6_readAny) (v_X6_readAny) M M := Fr.rf
  by_cases hc1 : (rd M 148 33) = 8
  · rw [if_pos hc1] at h
    cases h
    exact F0
  · rw [if_neg hc1] at h
    obtain ⟨M_46, e2, h⟩ := bnd_elim h
    have F3 : Fr (w_X6_readAny) (v_X6_readAny) M M_46 := F0.tr (by rw [e2]; exact Fr.wr (Or.inr (Or.inr (Or.inr (Or.inr (Or.inr (Or.inl ⟨by omega, by decide⟩)))))))
    by_cases hc4 : s3 = 0
    · rw [if_pos hc4] at h
      obtain ⟨v_54, e5, h⟩ := bnd_elim h
      exact F3.tr (fr_j_X6_readAny_65i h)
    · rw [if_neg hc4] at h
      exact F3.tr (fr_j_X6_readAny_65i h)
set_option maxHeartbeats 1000000 in
theorem fr_b_X6_readAny_9 {fu : Nat} {s0 : Int32 × Int32 × Mem} {o : (Int32 × Int32 × Mem) ⊕ ((Mem) ⊕ ((Mem) ⊕ ((Mem) ⊕ (Mem))))} (h : b_X6_readAny_9 fu s0 = some o) : Fr (w_X6_readAny) (v_X6_readAny) ((fun x : Int32 × Int32 × Mem => x.2.2) s0) (Sum.elim (fun x : Int32 × Int32 × Mem => x.2.2) (Sum.elim (fun x : Mem => x) (Sum.elim (fun x : Mem => x) (Sum.elim (fun x : Mem => x) (fun x : Mem => x)))) o) := by
  obtain ⟨c1, c2, M⟩ := s0
  unfold b_X6_readAny_9 at h
  replace h := un3_e h
  have F0 : Fr (w_X6_readAny) (v_X6_readAny) M M := Fr.rf
  by_cases hc1 : c2 = 0
  · rw [if_pos hc1] at h
    obtain ⟨r_5, hr2, h⟩ := bind_elim h
    by_cases hc3 : r_5 = 0
    · rw [if_pos hc3] at h
      obtain ⟨r_8, hr4, h⟩ := bind_elim h
      by_cases hc5 : r_8 = 0
      · rw [if_pos hc5] at h
        obtain ⟨M_11, hr6, h⟩ := bind_elim h
        have F7 : Fr (w_X6_readAny) (v_X6_readAny) M M_11 := F0.tr ((fr_m_X6_settles hr6).mono (fun k j h => by
            unfold w_X6_settles at h
            rcases h with h | h | h | h
            · exact (Or.inr (Or.inr (Or.inr (Or.inr (Or.inl ⟨by omega, h.2⟩)))))
            · exact (Or.inr (Or.inr (Or.inr (Or.inr (Or.inr (Or.inl ⟨by omega, h.2⟩))))))
            · exact (Or.inr (Or.inr (Or.inr (Or.inr (Or.inr (Or.inr (Or.inl ⟨by omega, h.2⟩)))))))
            · exact (Or.inr (Or.inr (Or.inr (Or.inr (Or.inr (Or.inr (Or.inr (Or.inr (Or.inr (by omega))))))))))) (fun k j h => absurd h id))
        obtain ⟨M_13, hr8, h⟩ := bind_elim h
        have F9 : Fr (w_X6_readAny) (v_X6_readAny) M M_13 := F7.tr ((fr_m_X6_settles hr8).mono (fun k j h => by
            unfold w_X6_settles at h
            rcases h with h | h | h | h
            · exact (Or.inr (Or.inr (Or.inr (Or.inr (Or.inl ⟨by omega, h.2⟩)))))
            · exact (Or.inr (Or.inr (Or.inr (Or.inr (Or.inr (Or.inl ⟨by omega, h.2⟩))))))
            · exact (Or.inr (Or.inr (Or.inr (Or.inr (Or.inr (Or.inr (Or.inl ⟨by omega, h.2⟩)))))))
            · exact (Or.inr (Or.inr (Or.inr (Or.inr (Or.inr (Or.inr (Or.inr (Or.inr (Or.inr (by omega))))))))))) (fun k j h => absurd h id))
        by_cases hc10 : c1 = 0
        · rw [if_pos hc10] at h
          cases h
          exact F9
        · rw [if_neg hc10] at h
          obtain ⟨r_16, hr11, h⟩ := bind_elim h
          by_cases hc12 : r_16 = 0
          · rw [if_pos hc12] at h
            cases h
            exact F9
          · rw [if_neg hc12] at h
            obtain ⟨M_18, e13, h⟩ := bnd_elim h
            have F14 : Fr (w_X6_readAny) (v_X6_readAny) M M_18 := F9.tr (by rw [e13]; exact Fr.wr (Or.inr (Or.inr (Or.inr (Or.inr (Or.inr (Or.inr (Or.inl ⟨by omega, by decide⟩))))))))
            obtain ⟨v_20, e15, h⟩ := bnd_elim h
            obtain ⟨M_22, e16, h⟩ := bnd_elim h
            have F17 : Fr (w_X6_readAny) (v_X6_readAny) M M_22 := F14.tr (by rw [e16]; exact Fr.wr (Or.inr (Or.inr (Or.inr (Or.inr (Or.inr (Or.inl ⟨by omega, by decide⟩)))))))
            obtain ⟨M_25, hr18, h⟩ := bind_elim h
            have F19 : Fr (w_X6_readAny) (v_X6_readAny) M M_25 := F17.tr ((fr_m_X6_settles hr18).mono (fun k j h => by
                unfold w_X6_settles at h
                rcases h with h | h | h | h
                · exact (Or.inr (Or.inr (Or.inr (Or.inr (Or.inl ⟨by omega, h.2⟩)))))
                · exact (Or.inr (Or.inr (Or.inr (Or.inr (Or.inr (Or.inl ⟨by omega, h.2⟩))))))
                · exact (Or.inr (Or.inr (Or.inr (Or.inr (Or.inr (Or.inr (Or.inl ⟨by omega, h.2⟩)))))))
                · exact (Or.inr (Or.inr (Or.inr (Or.inr (Or.inr (Or.inr (Or.inr (Or.inr (Or.inr (by omega))))))))))) (fun k j h => absurd h id))
            obtain ⟨M_27, hr20, h⟩ := bind_elim h
            have F21 : Fr (w_X6_readAny) (v_X6_readAny) M M_27 := F19.tr ((fr_m_X6_reads hr20).mono (fun k j h => by
                unfold w_X6_reads at h
                rcases h with h | h | h | h
                · exact (Or.inl ⟨by omega, h.2⟩)
                · exact (Or.inr (Or.inl ⟨by omega, h.2⟩))
                · exact (Or.inr (Or.inr (Or.inl ⟨by omega, h.2⟩)))
                · exact (Or.inr (Or.inr (Or.inr (Or.inl ⟨by omega, h.2⟩))))) (fun k j h => absurd h id))
            cases h
            exact F21
      · rw [if_neg hc5] at h
        obtain ⟨M_29, hr22, h⟩ := bind_elim h
        have F23 : Fr (w_X6_readAny) (v_X6_readAny) M M_29 := F0.tr ((fr_m_X6_settles hr22).mono (fun k j h => by
            unfold w_X6_settles at h
            rcases h with h | h | h | h
            · exact (Or.inr (Or.inr (Or.inr (Or.inr (Or.inl ⟨by omega, h.2⟩)))))
            · exact (Or.inr (Or.inr (Or.inr (Or.inr (Or.inr (Or.inl ⟨by omega, h.2⟩))))))
            · exact (Or.inr (Or.inr (Or.inr (Or.inr (Or.inr (Or.inr (Or.inl ⟨by omega, h.2⟩)))))))
            · exact (Or.inr (Or.inr (Or.inr (Or.inr (Or.inr (Or.inr (Or.inr (Or.inr (Or.inr (by omega))))))))))) (fun k j h => absurd h id))
        obtain ⟨M_31, hr24, h⟩ := bind_elim h
        have F25 : Fr (w_X6_readAny) (v_X6_readAny) M M_31 := F23.tr ((fr_m_X6_settles hr24).mono (fun k j h => by
            unfold w_X6_settles at h
            rcases h with h | h | h | h
            · exact (Or.inr (Or.inr (Or.inr (Or.inr (Or.inl ⟨by omega, h.2⟩)))))
            · exact (Or.inr (Or.inr (Or.inr (Or.inr (Or.inr (Or.inl ⟨by omega, h.2⟩))))))
            · exact (Or.inr (Or.inr (Or.inr (Or.inr (Or.inr (Or.inr (Or.inl ⟨by omega, h.2⟩)))))))
            · exact (Or.inr (Or.inr (Or.inr (Or.inr (Or.inr (Or.inr (Or.inr (Or.inr (Or.inr (by omega))))))))))) (fun k j h => absurd h id))
        obtain ⟨M_33, hr26, h⟩ := bind_elim h
        have F27 : Fr (w_X6_readAny) (v_X6_readAny) M M_33 := F25.tr ((fr_m_X6_waits hr26).mono (fun k j h => by
            unfold w_X6_waits at h
            rcases h with h | h
            · exact (Or.inr (Or.inr (Or.inr (Or.inr (Or.inr (Or.inr (Or.inl ⟨by omega, h.2⟩)))))))
            · exact (Or.inr (Or.inr (Or.inr (Or.inr (Or.inr (Or.inr (Or.inr (Or.inr (Or.inr (by omega))))))))))) (fun k j h => absurd h id))
        obtain ⟨M_35, hr28, h⟩ := bind_elim h
        have F29 : Fr (w_X6_readAny) (v_X6_readAny) M M_35 := F27.tr ((fr_m_X6_reads hr28).mono (fun k j h => by
            unfold w_X6_reads at h
            rcases h with h | h | h | h
            · exact (Or.inl ⟨by omega, h.2⟩)
            · exact (Or.inr (Or.inl ⟨by omega, h.2⟩))
            · exact (Or.inr (Or.inr (Or.inl ⟨by omega, h.2⟩)))
            · exact (Or.inr (Or.inr (Or.inr (Or.inl ⟨by omega, h.2⟩))))) (fun k j h => absurd h id))
        cases h
        exact F29
    · rw [if_neg hc3] at h
      obtain ⟨M_37, hr30, h⟩ := bind_elim h
      have F31 : Fr (w_X6_readAny) (v_X6_readAny) M M_37 := F0.tr ((fr_m_X6_settles hr30).mono (fun k j h => by
          unfold w_X6_settles at h
          rcases h with h | h | h | h
          · exact (Or.inr (Or.inr (Or.inr (Or.inr (Or.inl ⟨by omega, h.2⟩)))))
          · exact (Or.inr (Or.inr (Or.inr (Or.inr (Or.inr (Or.inl ⟨by omega, h.2⟩))))))
          · exact (Or.inr (Or.inr (Or.inr (Or.inr (Or.inr (Or.inr (Or.inl ⟨by omega, h.2⟩)))))))
          · exact (Or.inr (Or.inr (Or.inr (Or.inr (Or.inr (Or.inr (Or.inr (Or.inr (Or.inr (by omega))))))))))) (fun k j h => absurd h id))
      obtain ⟨M_39, hr32, h⟩ := bind_elim h
      have F33 : Fr (w_X6_readAny) (v_X6_readAny) M M_39 := F31.tr ((fr_m_X6_waits hr32).mono (fun k j h => by
          unfold w_X6_waits at h
          rcases h with h | h
          · exact (Or.inr (Or.inr (Or.inr (Or.inr (Or.inr (Or.inr (Or.inl ⟨by omega, h.2⟩)))))))
          · exact (Or.inr (Or.inr (Or.inr (Or.inr (Or.inr (Or.inr (Or.inr (Or.inr (Or.inr (by omega))))))))))) (fun k j h => absurd h id))
      obtain ⟨M_41, hr34, h⟩ := bind_elim h
      have F35 : Fr (w_X6_readAny) (v_X6_readAny) M M_41 := F33.tr ((fr_m_X6_reads hr34).mono (fun k j h => by
          unfold w_X6_reads at h
          rcases h with h | h | h | h
          · exact (Or.inl ⟨by omega, h.2⟩)
          · exact (Or.inr (Or.inl ⟨by omega, h.2⟩))
          · exact (Or.inr (Or.inr (Or.inl ⟨by omega, h.2⟩)))
          · exact (Or.inr (Or.inr (Or.inr (Or.inl ⟨by omega, h.2⟩))))) (fun k j h => absurd h id))
      cases h
      exact F35
  · rw [if_neg hc1] at h
    obtain ⟨r_43, hr36, h⟩ := bind_elim h
    by_cases hc37 : r_43 = 0
    · rw [if_pos hc37] at h
      obtain ⟨r_57, hr38, h⟩ := bind_elim h
      by_cases hc39 : r_57 = 0
      · rw [if_pos hc39] at h
        obtain ⟨⟨r_60, M_61⟩, hr40, h⟩ := bind_elim h
        replace h := un2_e h
        have F41 : Fr (w_X6_readAny) (v_X6_readAny) M M_61 := F0.tr ((fr_m_X6_readCompared hr40).mono (fun k j h => by
            unfold w_X6_readCompared at h
            rcases h with h | h | h | h | h | h | h | h
            · exact (Or.inl ⟨by omega, h.2⟩)
            · exact (Or.inr (Or.inl ⟨by omega, h.2⟩))
            · exact (Or.inr (Or.inr (Or.inl ⟨by omega, h.2⟩)))
            · exact (Or.inr (Or.inr (Or.inr (Or.inl ⟨by omega, h.2⟩))))
            · exact (Or.inr (Or.inr (Or.inr (Or.inr (Or.inl ⟨by omega, h.2⟩)))))
            · exact (Or.inr (Or.inr (Or.inr (Or.inr (Or.inr (Or.inr (Or.inr (Or.inl ⟨by omega, h.2⟩))))))))
            · exact (Or.inr (Or.inr (Or.inr (Or.inr (Or.inr (Or.inr (Or.inr (Or.inr (Or.inl ⟨by omega, h.2⟩)))))))))
            · exact (Or.inr (Or.inr (Or.inr (Or.inr (Or.inr (Or.inr (Or.inr (Or.inr (Or.inr (by omega))))))))))) (fun k j h => absurd h id))
        by_cases hc42 : r_60 = (-1)
        · rw [if_pos hc42] at h
          cases h
          exact F41
        · rw [if_neg hc42] at h
          obtain ⟨M_64, hr43, h⟩ := bind_elim h
          have F44 : Fr (w_X6_readAny) (v_X6_readAny) M M_64 := F41.tr ((fr_m_X6_settles hr43).mono (fun k j h => by
              unfold w_X6_settles at h
              rcases h with h | h | h | h
              · exact (Or.inr (Or.inr (Or.inr (Or.inr (Or.inl ⟨by omega, h.2⟩)))))
              · exact (Or.inr (Or.inr (Or.inr (Or.inr (Or.inr (Or.inl ⟨by omega, h.2⟩))))))
              · exact (Or.inr (Or.inr (Or.inr (Or.inr (Or.inr (Or.inr (Or.inl ⟨by omega, h.2⟩)))))))
              · exact (Or.inr (Or.inr (Or.inr (Or.inr (Or.inr (Or.inr (Or.inr (Or.inr (Or.inr (by omega))))))))))) (fun k j h => absurd h id))
          cases h
          exact F44
      · rw [if_neg hc39] at h
        exact F0.tr (fr_j_X6_readAny_32i h)
    · rw [if_neg hc37] at h
      exact F0.tr (fr_j_X6_readAny_32i h)
set_option maxHeartbeats 1000000 in
theorem fr_m_X6_readAny {fu : Nat} {M : Mem} {rr : Int32} {M2 : Mem} (h : m_X6_readAny fu M = some (rr, M2)) : Fr (w_X6_readAny) (v_X6_readAny) M M2 := by
  unfold m_X6_readAny at h
  have F0 : Fr (w_X6_readAny) (v_X6_readAny) M M := Fr.rf
  obtain ⟨M_1, e1, h⟩ := bnd_elim h
  have F2 : Fr (w_X6_readAny) (v_X6_readAny) M M_1 := F0.tr (by rw [e1]; exact Fr.wr (Or.inr (Or.inr (Or.inr (Or.inr (Or.inr (Or.inr (Or.inl ⟨by omega, by decide⟩))))))))
  obtain ⟨x3, hr4, h⟩ := bind_elim h
  have F5 := F2.tr (lp_fr (w := (w_X6_readAny)) (v := (v_X6_readAny)) (fun x : Int32 × Int32 × Mem => x.2.2) (Sum.elim (fun x : Mem => x) (Sum.elim (fun x : Mem => x) (Sum.elim (fun x : Mem => x) (fun x : Mem => x)))) (fun s o hq => fr_b_X6_readAny_9 hq) _ _ _ hr4)
  rcases x3 with y6 | y6
  · replace h := unS_l h
    obtain ⟨M_67, rfl⟩ : ∃ z, z = y6 := ⟨_, rfl⟩
    replace h := un1_e h
    have F7 : Fr (w_X6_readAny) (v_X6_readAny) M M_67 := F5
    obtain ⟨⟨r_69, M_70⟩, hr8, h⟩ := bind_elim h
    replace h := un2_e h
    have F9 : Fr (w_X6_readAny) (v_X6_readAny) M M_70 := F7.tr ((fr_m_X6_errs hr8).mono (fun k j h => by
        unfold w_X6_errs at h
        rcases h with h | h
        · exact (Or.inr (Or.inr (Or.inr (Or.inr (Or.inr (Or.inr (Or.inr (Or.inl ⟨by omega, h.2⟩))))))))
        · exact (Or.inr (Or.inr (Or.inr (Or.inr (Or.inr (Or.inr (Or.inr (Or.inr (Or.inl ⟨by omega, h.2⟩)))))))))) (fun k j h => absurd h id))
    cases h
    exact F9
  · replace h := unS_r h
    rcases y6 with y10 | y10
    · replace h := unS_l h
      obtain ⟨M_71, rfl⟩ : ∃ z, z = y10 := ⟨_, rfl⟩
      replace h := un1_e h
      have F11 : Fr (w_X6_readAny) (v_X6_readAny) M M_71 := F5
      cases h
      exact F11
    · replace h := unS_r h
      rcases y10 with y12 | y12
      · replace h := unS_l h
        obtain ⟨M_72, rfl⟩ : ∃ z, z = y12 := ⟨_, rfl⟩
        replace h := un1_e h
        have F13 : Fr (w_X6_readAny) (v_X6_readAny) M M_72 := F5
        cases h
        exact F13
      · replace h := unS_r h
        obtain ⟨M_73, rfl⟩ : ∃ z, z = y12 := ⟨_, rfl⟩
        replace h := un1_e h
        have F14 : Fr (w_X6_readAny) (v_X6_readAny) M M_73 := F5
        obtain ⟨⟨r_75, M_76⟩, hr15, h⟩ := bind_elim h
        replace h := un2_e h
        have F16 : Fr (w_X6_readAny) (v_X6_readAny) M M_76 := F14.tr ((fr_m_X6_errs hr15).mono (fun k j h => by
            unfold w_X6_errs at h
            rcases h with h | h
            · exact (Or.inr (Or.inr (Or.inr (Or.inr (Or.inr (Or.inr (Or.inr (Or.inl ⟨by omega, h.2⟩))))))))
            · exact (Or.inr (Or.inr (Or.inr (Or.inr (Or.inr (Or.inr (Or.inr (Or.inr (Or.inl ⟨by omega, h.2⟩)))))))))) (fun k j h => absurd h id))
        cases h
        exact F16
set_option maxHeartbeats 1000000 in
theorem fr_j_X6_readLaw_105i {fu : Nat} {M : Mem} {s1 : Int32} {s2 : Int32} {o : (Int32 × Mem) ⊕ ((Mem) ⊕ ((Mem) ⊕ ((Mem) ⊕ ((Mem) ⊕ ((Mem) ⊕ (Int32 × Mem))))))} (h : j_X6_readLaw_105i fu M s1 s2 = some o) : Fr (w_X6_readLaw) (v_X6_readLaw) M ((Sum.elim (fun x : Int32 × Mem => x.2) (Sum.elim (fun x : Mem => x) (Sum.elim (fun x : Mem => x) (Sum.elim (fun x : Mem => x) (Sum.elim (fun x : Mem => x) (Sum.elim (fun x : Mem => x) (fun x : Int32 × Mem => x.2))))))) o) := by
  unfold j_X6_readLaw_105i at h
  have F0 : Fr (w_X6_readLaw) (v_X6_readLaw) M M := Fr.rf
  obtain ⟨hb1, h⟩ := chk_elim h
  have q2 := inb_lt hb1
  obtain ⟨M_22, e3, h⟩ := bnd_elim h
  have F4 : Fr (w_X6_readLaw) (v_X6_readLaw) M M_22 := F0.tr (by rw [e3]; exact Fr.wr (Or.inr (Or.inr (Or.inr (Or.inr (Or.inr (Or.inr (Or.inr (Or.inr (Or.inr (by omega)))))))))))
  obtain ⟨r_25, hr5, h⟩ := bind_elim h
  by_cases hc6 : r_25 = 0
  · rw [if_pos hc6] at h
    cases h
    exact F4
  · rw [if_neg hc6] at h
    obtain ⟨M_28, hr7, h⟩ := bind_elim h
    have F8 : Fr (w_X6_readLaw) (v_X6_readLaw) M M_28 := F4.tr ((fr_m_X6_reads hr7).mono (fun k j h => by
        unfold w_X6_reads at h
        rcases h with h | h | h | h
        · exact (Or.inl ⟨by omega, h.2⟩)
        · exact (Or.inr (Or.inl ⟨by omega, h.2⟩))
        · exact (Or.inr (Or.inr (Or.inl ⟨by omega, h.2⟩)))
        · exact (Or.inr (Or.inr (Or.inr (Or.inl ⟨by omega, h.2⟩))))) (fun k j h => absurd h id))
    obtain ⟨v_29, e9, h⟩ := bnd_elim h
    cases h
    exact F8
set_option maxHeartbeats 1000000 in
theorem fr_b_X6_readLaw_2 {fu : Nat} {s0 : Int32 × Mem} {o : (Int32 × Mem) ⊕ ((Mem) ⊕ ((Mem) ⊕ ((Mem) ⊕ ((Mem) ⊕ ((Mem) ⊕ (Int32 × Mem))))))} (h : b_X6_readLaw_2 fu s0 = some o) : Fr (w_X6_readLaw) (v_X6_readLaw) ((fun x : Int32 × Mem => x.2) s0) (Sum.elim (fun x : Int32 × Mem => x.2) (Sum.elim (fun x : Mem => x) (Sum.elim (fun x : Mem => x) (Sum.elim (fun x : Mem => x) (Sum.elim (fun x : Mem => x) (Sum.elim (fun x : Mem => x) (fun x : Int32 × Mem => x.2)))))) o) := by
  obtain ⟨c1, M⟩ := s0
  unfold b_X6_readLaw_2 at h
  replace h := un2_e h
  have F0 : Fr (w_X6_readLaw) (v_X6_readLaw) M M := Fr.rf
  obtain ⟨r_2, hr1, h⟩ := bind_elim h
  by_cases hc2 : r_2 = 0
  · rw [if_pos hc2] at h
    cases h
    exact F0
  · rw [if_neg hc2] at h
    by_cases hc3 : c1 = 16
    · rw [if_pos hc3] at h
      cases h
      exact F0
    · rw [if_neg hc3] at h
      obtain ⟨v_5, e4, h⟩ := bnd_elim h
      obtain ⟨M_8, hr5, h⟩ := bind_elim h
      have F6 : Fr (w_X6_readLaw) (v_X6_readLaw) M M_8 := F0.tr ((fr_m_X6_reads hr5).mono (fun k j h => by
          unfold w_X6_reads at h
          rcases h with h | h | h | h
          · exact (Or.inl ⟨by omega, h.2⟩)
          · exact (Or.inr (Or.inl ⟨by omega, h.2⟩))
          · exact (Or.inr (Or.inr (Or.inl ⟨by omega, h.2⟩)))
          · exact (Or.inr (Or.inr (Or.inr (Or.inl ⟨by omega, h.2⟩))))) (fun k j h => absurd h id))
      by_cases hc7 : (rd M_8 148 23) = 3
      · rw [if_pos hc7] at h
        by_cases hc8 : (rd M_8 148 24) ≤ 3
        · rw [if_pos hc8] at h
          obtain ⟨hb9, h⟩ := chk_elim h
          have q10 := inb_lt hb9
          obtain ⟨M_12, e11, h⟩ := bnd_elim h
          have F12 : Fr (w_X6_readLaw) (v_X6_readLaw) M M_12 := F6.tr (by rw [e11]; exact Fr.wr (Or.inr (Or.inr (Or.inr (Or.inr (Or.inr (Or.inr (Or.inr (Or.inr (Or.inr (by omega)))))))))))
          obtain ⟨M_15, hr13, h⟩ := bind_elim h
          have F14 : Fr (w_X6_readLaw) (v_X6_readLaw) M M_15 := F12.tr ((fr_m_X6_reads hr13).mono (fun k j h => by
              unfold w_X6_reads at h
              rcases h with h | h | h | h
              · exact (Or.inl ⟨by omega, h.2⟩)
              · exact (Or.inr (Or.inl ⟨by omega, h.2⟩))
              · exact (Or.inr (Or.inr (Or.inl ⟨by omega, h.2⟩)))
              · exact (Or.inr (Or.inr (Or.inr (Or.inl ⟨by omega, h.2⟩))))) (fun k j h => absurd h id))
          obtain ⟨M_16, e15, h⟩ := bnd_elim h
          have F16 : Fr (w_X6_readLaw) (v_X6_readLaw) M M_16 := F14.tr (by rw [e15]; exact Fr.wr (Or.inr (Or.inr (Or.inr (Or.inr (Or.inr (Or.inr (Or.inr (Or.inr (Or.inr (by omega)))))))))))
          obtain ⟨r_19, hr17, h⟩ := bind_elim h
          by_cases hc18 : r_19 = 0
          · rw [if_pos hc18] at h
            exact F16.tr (fr_j_X6_readLaw_105i h)
          · rw [if_neg hc18] at h
            obtain ⟨M_32, hr19, h⟩ := bind_elim h
            have F20 : Fr (w_X6_readLaw) (v_X6_readLaw) M M_32 := F16.tr ((fr_m_X6_reads hr19).mono (fun k j h => by
                unfold w_X6_reads at h
                rcases h with h | h | h | h
                · exact (Or.inl ⟨by omega, h.2⟩)
                · exact (Or.inr (Or.inl ⟨by omega, h.2⟩))
                · exact (Or.inr (Or.inr (Or.inl ⟨by omega, h.2⟩)))
                · exact (Or.inr (Or.inr (Or.inr (Or.inl ⟨by omega, h.2⟩))))) (fun k j h => absurd h id))
            obtain ⟨⟨r_34, M_35⟩, hr21, h⟩ := bind_elim h
            replace h := un2_e h
            have F22 : Fr (w_X6_readLaw) (v_X6_readLaw) M M_35 := F20.tr ((fr_m_X6_readAny hr21).mono (fun k j h => by
                unfold w_X6_readAny at h
                rcases h with h | h | h | h | h | h | h | h | h | h
                · exact (Or.inl ⟨by omega, h.2⟩)
                · exact (Or.inr (Or.inl ⟨by omega, h.2⟩))
                · exact (Or.inr (Or.inr (Or.inl ⟨by omega, h.2⟩)))
                · exact (Or.inr (Or.inr (Or.inr (Or.inl ⟨by omega, h.2⟩))))
                · exact (Or.inr (Or.inr (Or.inr (Or.inr (Or.inl ⟨by omega, h.2⟩)))))
                · exact (Or.inr (Or.inr (Or.inr (Or.inr (Or.inr (Or.inl ⟨by omega, h.2⟩))))))
                · exact (Or.inr (Or.inr (Or.inr (Or.inr (Or.inr (Or.inr (Or.inl ⟨by omega, h.2⟩)))))))
                · exact (Or.inr (Or.inr (Or.inr (Or.inr (Or.inr (Or.inr (Or.inr (Or.inl ⟨by omega, h.2⟩))))))))
                · exact (Or.inr (Or.inr (Or.inr (Or.inr (Or.inr (Or.inr (Or.inr (Or.inr (Or.inl ⟨by omega, h.2⟩)))))))))
                · exact (Or.inr (Or.inr (Or.inr (Or.inr (Or.inr (Or.inr (Or.inr (Or.inr (Or.inr (by omega))))))))))) (fun k j h => absurd h id))
            by_cases hc23 : r_34 = (-1)
            · rw [if_pos hc23] at h
              cases h
              exact F22
            · rw [if_neg hc23] at h
              exact F22.tr (fr_j_X6_readLaw_105i h)
        · rw [if_neg hc8] at h
          cases h
          exact F6
      · rw [if_neg hc7] at h
        cases h
        exact F6
set_option maxHeartbeats 1000000 in
theorem fr_m_X6_readLaw {fu : Nat} {M : Mem} {rr : Int32} {M2 : Mem} (h : m_X6_readLaw fu M = some (rr, M2)) : Fr (w_X6_readLaw) (v_X6_readLaw) M M2 := by
  unfold m_X6_readLaw at h
  have F0 : Fr (w_X6_readLaw) (v_X6_readLaw) M M := Fr.rf
  obtain ⟨x1, hr2, h⟩ := bind_elim h
  have F3 := F0.tr (lp_fr (w := (w_X6_readLaw)) (v := (v_X6_readLaw)) (fun x : Int32 × Mem => x.2) (Sum.elim (fun x : Mem => x) (Sum.elim (fun x : Mem => x) (Sum.elim (fun x : Mem => x) (Sum.elim (fun x : Mem => x) (Sum.elim (fun x : Mem => x) (fun x : Int32 × Mem => x.2)))))) (fun s o hq => fr_b_X6_readLaw_2 hq) _ _ _ hr2)
  rcases x1 with y4 | y4
  · replace h := unS_l h
    obtain ⟨M_39, rfl⟩ : ∃ z, z = y4 := ⟨_, rfl⟩
    replace h := un1_e h
    have F5 : Fr (w_X6_readLaw) (v_X6_readLaw) M M_39 := F3
    obtain ⟨⟨r_41, M_42⟩, hr6, h⟩ := bind_elim h
    replace h := un2_e h
    have F7 : Fr (w_X6_readLaw) (v_X6_readLaw) M M_42 := F5.tr ((fr_m_X6_errs hr6).mono (fun k j h => by
        unfold w_X6_errs at h
        rcases h with h | h
        · exact (Or.inr (Or.inr (Or.inr (Or.inr (Or.inr (Or.inr (Or.inr (Or.inl ⟨by omega, h.2⟩))))))))
        · exact (Or.inr (Or.inr (Or.inr (Or.inr (Or.inr (Or.inr (Or.inr (Or.inr (Or.inl ⟨by omega, h.2⟩)))))))))) (fun k j h => absurd h id))
    cases h
    exact F7
  · replace h := unS_r h
    rcases y4 with y8 | y8
    · replace h := unS_l h
      obtain ⟨M_43, rfl⟩ : ∃ z, z = y8 := ⟨_, rfl⟩
      replace h := un1_e h
      have F9 : Fr (w_X6_readLaw) (v_X6_readLaw) M M_43 := F3
      obtain ⟨⟨r_45, M_46⟩, hr10, h⟩ := bind_elim h
      replace h := un2_e h
      have F11 : Fr (w_X6_readLaw) (v_X6_readLaw) M M_46 := F9.tr ((fr_m_X6_errs hr10).mono (fun k j h => by
          unfold w_X6_errs at h
          rcases h with h | h
          · exact (Or.inr (Or.inr (Or.inr (Or.inr (Or.inr (Or.inr (Or.inr (Or.inl ⟨by omega, h.2⟩))))))))
          · exact (Or.inr (Or.inr (Or.inr (Or.inr (Or.inr (Or.inr (Or.inr (Or.inr (Or.inl ⟨by omega, h.2⟩)))))))))) (fun k j h => absurd h id))
      cases h
      exact F11
    · replace h := unS_r h
      rcases y8 with y12 | y12
      · replace h := unS_l h
        obtain ⟨M_47, rfl⟩ : ∃ z, z = y12 := ⟨_, rfl⟩
        replace h := un1_e h
        have F13 : Fr (w_X6_readLaw) (v_X6_readLaw) M M_47 := F3
        obtain ⟨⟨r_49, M_50⟩, hr14, h⟩ := bind_elim h
        replace h := un2_e h
        have F15 : Fr (w_X6_readLaw) (v_X6_readLaw) M M_50 := F13.tr ((fr_m_X6_errs hr14).mono (fun k j h => by
            unfold w_X6_errs at h
            rcases h with h | h
            · exact (Or.inr (Or.inr (Or.inr (Or.inr (Or.inr (Or.inr (Or.inr (Or.inl ⟨by omega, h.2⟩))))))))
            · exact (Or.inr (Or.inr (Or.inr (Or.inr (Or.inr (Or.inr (Or.inr (Or.inr (Or.inl ⟨by omega, h.2⟩)))))))))) (fun k j h => absurd h id))
        cases h
        exact F15
      · replace h := unS_r h
        rcases y12 with y16 | y16
        · replace h := unS_l h
          obtain ⟨M_51, rfl⟩ : ∃ z, z = y16 := ⟨_, rfl⟩
          replace h := un1_e h
          have F17 : Fr (w_X6_readLaw) (v_X6_readLaw) M M_51 := F3
          cases h
          exact F17
        · replace h := unS_r h
          rcases y16 with y18 | y18
          · replace h := unS_l h
            obtain ⟨M_52, rfl⟩ : ∃ z, z = y18 := ⟨_, rfl⟩
            replace h := un1_e h
            have F19 : Fr (w_X6_readLaw) (v_X6_readLaw) M M_52 := F3
            obtain ⟨⟨r_54, M_55⟩, hr20, h⟩ := bind_elim h
            replace h := un2_e h
            have F21 : Fr (w_X6_readLaw) (v_X6_readLaw) M M_55 := F19.tr ((fr_m_X6_errs hr20).mono (fun k j h => by
                unfold w_X6_errs at h
                rcases h with h | h
                · exact (Or.inr (Or.inr (Or.inr (Or.inr (Or.inr (Or.inr (Or.inr (Or.inl ⟨by omega, h.2⟩))))))))
                · exact (Or.inr (Or.inr (Or.inr (Or.inr (Or.inr (Or.inr (Or.inr (Or.inr (Or.inl ⟨by omega, h.2⟩)))))))))) (fun k j h => absurd h id))
            cases h
            exact F21
          · replace h := unS_r h
            obtain ⟨v_56, M_57⟩ := y18
            replace h := un2_e h
            have F22 : Fr (w_X6_readLaw) (v_X6_readLaw) M M_57 := F3
            by_cases hc23 : (rd M_57 148 23) = 0
            · rw [if_pos hc23] at h
              cases h
              exact F22
            · rw [if_neg hc23] at h
              obtain ⟨⟨r_60, M_61⟩, hr24, h⟩ := bind_elim h
              replace h := un2_e h
              have F25 : Fr (w_X6_readLaw) (v_X6_readLaw) M M_61 := F22.tr ((fr_m_X6_errs hr24).mono (fun k j h => by
                  unfold w_X6_errs at h
                  rcases h with h | h
                  · exact (Or.inr (Or.inr (Or.inr (Or.inr (Or.inr (Or.inr (Or.inr (Or.inl ⟨by omega, h.2⟩))))))))
                  · exact (Or.inr (Or.inr (Or.inr (Or.inr (Or.inr (Or.inr (Or.inr (Or.inr (Or.inl ⟨by omega, h.2⟩)))))))))) (fun k j h => absurd h id))
              cases h
              exact F25
set_option maxHeartbeats 1000000 in
theorem fr_b_X6_text_95 {fu : Nat} {s1 : Int32} {s3 : Int32} {s0 : Int32 × Mem} {o : (Int32 × Mem) ⊕ (Mem)} (h : b_X6_text_95 fu s1 s3 s0 = some o) : Fr (w_X6_text) (v_X6_text) ((fun x : Int32 × Mem => x.2) s0) (Sum.elim (fun x : Int32 × Mem => x.2) (fun x : Mem => x) o) := by
  obtain ⟨c4, M⟩ := s0
  unfold b_X6_text_95 at h
  replace h := un2_e h
  have F0 : Fr (w_X6_text) (v_X6_text) M M := Fr.rf
  by_cases hc1 : s3 ≤ c4
  · rw [if_pos hc1] at h
    cases h
    exact F0
  · rw [if_neg hc1] at h
    obtain ⟨hb2, h⟩ := chk_elim h
    have q3 := inb_lt hb2
    obtain ⟨hb4, h⟩ := chk_elim h
    have q5 := inb_lt hb4
    obtain ⟨M_25, e6, h⟩ := bnd_elim h
    have F7 : Fr (w_X6_text) (v_X6_text) M M_25 := F0.tr (by rw [e6]; exact Fr.wr (Or.inr (Or.inr (Or.inr (Or.inr (Or.inr (Or.inr (Or.inr (Or.inr (Or.inr (Or.inr (Or.inr (Or.inr (Or.inr (by omega)))))))))))))))
    obtain ⟨M_27, e8, h⟩ := bnd_elim h
    have F9 : Fr (w_X6_text) (v_X6_text) M M_27 := F7.tr (by rw [e8]; exact Fr.wr (Or.inr (Or.inr (Or.inr (Or.inr (Or.inr (Or.inr (Or.inr (Or.inr (Or.inr (Or.inr (Or.inr (Or.inr (Or.inr (by omega)))))))))))))))
    obtain ⟨M_29, e10, h⟩ := bnd_elim h
    have F11 : Fr (w_X6_text) (v_X6_text) M M_29 := F9.tr (by rw [e10]; exact Fr.wr (Or.inr (Or.inr (Or.inr (Or.inr (Or.inr (Or.inr (Or.inr (Or.inr (Or.inr (Or.inr (Or.inr (Or.inr (Or.inr (by omega)))))))))))))))
    obtain ⟨v_31, e12, h⟩ := bnd_elim h
    cases h
    exact F11
set_option maxHeartbeats 1000000 in
theorem fr_b_X6_text_176 {fu : Nat} {s1 : Int32} {s3 : Int32} {s0 : Int32 × Mem} {o : (Int32 × Mem) ⊕ (Mem)} (h : b_X6_text_176 fu s1 s3 s0 = some o) : Fr (w_X6_text) (v_X6_text) ((fun x : Int32 × Mem => x.2) s0) (Sum.elim (fun x : Int32 × Mem => x.2) (fun x : Mem => x) o) := by
  obtain ⟨c4, M⟩ := s0
  unfold b_X6_text_176 at h
  replace h := un2_e h
  have F0 : Fr (w_X6_text) (v_X6_text) M M := Fr.rf
  by_cases hc1 : (rd M 148 32) ≤ c4
  · rw [if_pos hc1] at h
    cases h
    exact F0
  · rw [if_neg hc1] at h
    obtain ⟨hb2, h⟩ := chk_elim h
    have q3 := inb_lt hb2
    obtain ⟨hb4, h⟩ := chk_elim h
    have q5 := inb_lt hb4
    obtain ⟨M_39, e6, h⟩ := bnd_elim h
    have F7 : Fr (w_X6_text) (v_X6_text) M M_39 := F0.tr (by rw [e6]; exact Fr.wr (Or.inr (Or.inr (Or.inr (Or.inr (Or.inr (Or.inr (Or.inr (Or.inr (Or.inr (Or.inr (Or.inr (Or.inr (Or.inr (by omega)))))))))))))))
    obtain ⟨M_41, e8, h⟩ := bnd_elim h
    have F9 : Fr (w_X6_text) (v_X6_text) M M_41 := F7.tr (by rw [e8]; exact Fr.wr (Or.inr (Or.inr (Or.inr (Or.inr (Or.inr (Or.inr (Or.inr (Or.inr (Or.inr (Or.inr (Or.inr (Or.inr (Or.inr (by omega)))))))))))))))
    obtain ⟨v_43, e10, h⟩ := bnd_elim h
    cases h
    exact F9
set_option maxHeartbeats 1000000 in
theorem fr_j_X6_text_85 {fu : Nat} {M : Mem} {s1 : Int32} {s3 : Int32} {rr : Int32} {M2 : Mem} (h : j_X6_text_85 fu M s1 s3 = some (rr, M2)) : Fr (w_X6_text) (v_X6_text) M M2 := by
  unfold j_X6_text_85 at h
  have F0 : Fr (w_X6_text) (v_X6_text) M M := Fr.rf
  by_cases hc1 : s3 = (-1)
  · rw [if_pos hc1] at h
    cases h
    exact F0
  · rw [if_neg hc1] at h
    obtain ⟨x2, hr3, h⟩ := bind_elim h
    have F4 := F0.tr (lp_fr (w := (w_X6_text)) (v := (v_X6_text)) (fun x : Int32 × Mem => x.2) (fun x : Mem => x) (fun s o hq => fr_b_X6_text_95 hq) _ _ _ hr3)
    obtain ⟨M_35, rfl⟩ : ∃ z, z = x2 := ⟨_, rfl⟩
    replace h := un1_e h
    have F5 : Fr (w_X6_text) (v_X6_text) M M_35 := F4
    obtain ⟨x6, hr7, h⟩ := bind_elim h
    have F8 := F5.tr (lp_fr (w := (w_X6_text)) (v := (v_X6_text)) (fun x : Int32 × Mem => x.2) (fun x : Mem => x) (fun s o hq => fr_b_X6_text_176 hq) _ _ _ hr7)
    obtain ⟨M_47, rfl⟩ : ∃ z, z = x6 := ⟨_, rfl⟩
    replace h := un1_e h
    have F9 : Fr (w_X6_text) (v_X6_text) M M_47 := F8
    obtain ⟨hb10, h⟩ := chk_elim h
    have q11 := inb_lt hb10
    obtain ⟨M_49, e12, h⟩ := bnd_elim h
    have F13 : Fr (w_X6_text) (v_X6_text) M M_49 := F9.tr (by rw [e12]; exact Fr.wr (Or.inr (Or.inr (Or.inr (Or.inr (Or.inr (Or.inr (Or.inr (Or.inr (Or.inr (Or.inr (Or.inr (Or.inr (Or.inr (by omega)))))))))))))))
    cases h
    exact F13
set_option maxHeartbeats 1000000 in
theorem fr_j_X6_text_54 {fu : Nat} {M : Mem} {s1 : Int32} {s2 : Int32} {t0 : Int32} {rr : Int32} {M2 : Mem} (h : j_X6_text_54 fu M s1 s2 t0 = some (rr, M2)) : Fr (w_X6_text) (v_X6_text) M M2 := by
  unfold j_X6_text_54 at h
  have F0 : Fr (w_X6_text) (v_X6_text) M M := Fr.rf
  obtain ⟨M_18, e1, h⟩ := bnd_elim h
  have F2 : Fr (w_X6_text) (v_X6_text) M M_18 := F0.tr (by rw [e1]; exact Fr.wr (Or.inr (Or.inl ⟨by omega, by decide⟩)))
  by_cases hc3 : s2 = 0
  · rw [if_pos hc3] at h
    exact F2.tr (fr_j_X6_text_85 h)
  · rw [if_neg hc3] at h
    by_cases hc4 : t0 = (-1)
    · rw [if_pos hc4] at h
      obtain ⟨M_52, e5, h⟩ := bnd_elim h
      have F6 : Fr (w_X6_text) (v_X6_text) M M_52 := F2.tr (by rw [e5]; exact Fr.wr (Or.inr (Or.inr (Or.inr (Or.inr (Or.inr (Or.inr (Or.inr (Or.inr (Or.inr (Or.inr (Or.inr (Or.inl ⟨by omega, by decide⟩)))))))))))))
      obtain ⟨M_54, e7, h⟩ := bnd_elim h
      have F8 : Fr (w_X6_text) (v_X6_text) M M_54 := F6.tr (by rw [e7]; exact Fr.wr (Or.inr (Or.inr (Or.inr (Or.inr (Or.inr (Or.inr (Or.inr (Or.inr (Or.inr (Or.inr (Or.inr (Or.inr (Or.inl ⟨by omega, by decide⟩))))))))))))))
      exact F8.tr (fr_j_X6_text_85 h)
    · rw [if_neg hc4] at h
      exact F2.tr (fr_j_X6_text_85 h)
set_option maxHeartbeats 1000000 in
theorem fr_m_X6_text {fu : Nat} {M : Mem} {a1 : Int32} {rr : Int32} {M2 : Mem} (h : m_X6_text fu M a1 = some (rr, M2)) : Fr (w_X6_text) (v_X6_text) M M2 := by
  unfold m_X6_text at h
  have F0 : Fr (w_X6_text) (v_X6_text) M M := Fr.rf
  obtain ⟨M_1, e1, h⟩ := bnd_elim h
  have F2 : Fr (w_X6_text) (v_X6_text) M M_1 := F0.tr (by rw [e1]; exact Fr.wr (Or.inl ⟨by omega, by decide⟩))
  obtain ⟨M_3, e3, h⟩ := bnd_elim h
  have F4 : Fr (w_X6_text) (v_X6_text) M M_3 := F2.tr (by rw [e3]; exact Fr.wr (Or.inr (Or.inr (Or.inr (Or.inr (Or.inr (Or.inr (Or.inr (Or.inr (Or.inr (Or.inr (Or.inr (Or.inl ⟨by omega, by decide⟩)))))))))))))
  obtain ⟨M_5, e5, h⟩ := bnd_elim h
  have F6 : Fr (w_X6_text) (v_X6_text) M M_5 := F4.tr (by rw [e5]; exact Fr.wr (Or.inr (Or.inr (Or.inr (Or.inr (Or.inr (Or.inr (Or.inr (Or.inr (Or.inr (Or.inr (Or.inr (Or.inr (Or.inl ⟨by omega, by decide⟩))))))))))))))
  obtain ⟨r_8, hr7, h⟩ := bind_elim h
  obtain ⟨M_9, e8, h⟩ := bnd_elim h
  have F9 : Fr (w_X6_text) (v_X6_text) M M_9 := F6.tr (by rw [e8]; exact Fr.wr (Or.inr (Or.inr (Or.inl ⟨by omega, by decide⟩))))
  obtain ⟨M_11, e10, h⟩ := bnd_elim h
  have F11 : Fr (w_X6_text) (v_X6_text) M M_11 := F9.tr (by rw [e10]; exact Fr.wr (Or.inr (Or.inr (Or.inr (Or.inr (Or.inr (Or.inr (Or.inl ⟨by omega, by decide⟩))))))))
  obtain ⟨M_13, e12, h⟩ := bnd_elim h
  have F13 : Fr (w_X6_text) (v_X6_text) M M_13 := F11.tr (by rw [e12]; exact Fr.wr (Or.inr (Or.inr (Or.inr (Or.inr (Or.inr (Or.inr (Or.inr (Or.inl ⟨by omega, by decide⟩)))))))))
  obtain ⟨M_16, hr14, h⟩ := bind_elim h
  have F15 : Fr (w_X6_text) (v_X6_text) M M_16 := F13.tr ((fr_m_X6_reads hr14).mono (fun k j h => by
      unfold w_X6_reads at h
      rcases h with h | h | h | h
      · exact (Or.inr (Or.inr (Or.inl ⟨by omega, h.2⟩)))
      · exact (Or.inr (Or.inr (Or.inr (Or.inl ⟨by omega, h.2⟩))))
      · exact (Or.inr (Or.inr (Or.inr (Or.inr (Or.inl ⟨by omega, h.2⟩)))))
      · exact (Or.inr (Or.inr (Or.inr (Or.inr (Or.inr (Or.inl ⟨by omega, h.2⟩))))))) (fun k j h => absurd h id))
  by_cases hc16 : r_8 = 0
  · rw [if_pos hc16] at h
    exact F15.tr (fr_j_X6_text_54 h)
  · rw [if_neg hc16] at h
    obtain ⟨⟨r_57, M_58⟩, hr17, h⟩ := bind_elim h
    replace h := un2_e h
    have F18 : Fr (w_X6_text) (v_X6_text) M M_58 := F15.tr ((fr_m_X6_readLaw hr17).mono (fun k j h => by
        unfold w_X6_readLaw at h
        rcases h with h | h | h | h | h | h | h | h | h | h
        · exact (Or.inr (Or.inr (Or.inl ⟨by omega, h.2⟩)))
        · exact (Or.inr (Or.inr (Or.inr (Or.inl ⟨by omega, h.2⟩))))
        · exact (Or.inr (Or.inr (Or.inr (Or.inr (Or.inl ⟨by omega, h.2⟩)))))
        · exact (Or.inr (Or.inr (Or.inr (Or.inr (Or.inr (Or.inl ⟨by omega, h.2⟩))))))
        · exact (Or.inr (Or.inr (Or.inr (Or.inr (Or.inr (Or.inr (Or.inl ⟨by omega, h.2⟩)))))))
        · exact (Or.inr (Or.inr (Or.inr (Or.inr (Or.inr (Or.inr (Or.inr (Or.inl ⟨by omega, h.2⟩))))))))
        · exact (Or.inr (Or.inr (Or.inr (Or.inr (Or.inr (Or.inr (Or.inr (Or.inr (Or.inl ⟨by omega, h.2⟩)))))))))
        · exact (Or.inr (Or.inr (Or.inr (Or.inr (Or.inr (Or.inr (Or.inr (Or.inr (Or.inr (Or.inl ⟨by omega, h.2⟩))))))))))
        · exact (Or.inr (Or.inr (Or.inr (Or.inr (Or.inr (Or.inr (Or.inr (Or.inr (Or.inr (Or.inr (Or.inl ⟨by omega, h.2⟩)))))))))))
        · exact (Or.inr (Or.inr (Or.inr (Or.inr (Or.inr (Or.inr (Or.inr (Or.inr (Or.inr (Or.inr (Or.inr (Or.inr (Or.inr (by omega))))))))))))))) (fun k j h => absurd h id))
    exact F18.tr (fr_j_X6_text_54 h)
set_option maxHeartbeats 1000000 in
theorem fr_m_X6_fault {M : Mem} {a1 : Int32} {rr : Int32} {M2 : Mem} (h : m_X6_fault M a1 = some (rr, M2)) : Fr (w_X6_fault) (v_X6_fault) M M2 := by
  unfold m_X6_fault at h
  have F0 : Fr (w_X6_fault) (v_X6_fault) M M := Fr.rf
  obtain ⟨M_1, e1, h⟩ := bnd_elim h
  have F2 : Fr (w_X6_fault) (v_X6_fault) M M_1 := F0.tr (by rw [e1]; exact Fr.wr (by unfold w_X6_fault; exact ⟨by omega, by decide⟩))
  by_cases hc3 : a1 = 0
  · rw [if_pos hc3] at h
    cases h
    exact F2
  · rw [if_neg hc3] at h
    by_cases hc4 : a1 = 1
    · rw [if_pos hc4] at h
      cases h
      exact F2
    · rw [if_neg hc4] at h
      cases h
      exact F2
set_option maxHeartbeats 1000000 in
theorem fr_j_X6_worthAt_83i {fu : Nat} {M : Mem} {s1 : Int32} {s3 : Int32} {s4 : Int32} {s5 : Int32} {t1 : Int32} {t2 : Int32} {o : (Int32 × Int32 × Mem) ⊕ (Mem)} (h : j_X6_worthAt_83i fu M s1 s3 s4 s5 t1 t2 = some o) : Fr (w_X6_worthAt) (v_X6_worthAt) M ((Sum.elim (fun x : Int32 × Int32 × Mem => x.2.2) (fun x : Mem => x)) o) := by
  unfold j_X6_worthAt_83i at h
  have F0 : Fr (w_X6_worthAt) (v_X6_worthAt) M M := Fr.rf
  obtain ⟨hb1, h⟩ := chk_elim h
  have q2 := inb_lt hb1
  obtain ⟨M_10, e3, h⟩ := bnd_elim h
  have F4 : Fr (w_X6_worthAt) (v_X6_worthAt) M M_10 := F0.tr (by rw [e3]; exact Fr.wr (by unfold w_X6_worthAt; exact (by omega)))
  obtain ⟨v_12, e5, h⟩ := bnd_elim h
  obtain ⟨v_14, e6, h⟩ := bnd_elim h
  cases h
  exact F4
set_option maxHeartbeats 1000000 in
theorem fr_j_X6_worthAt_45i {fu : Nat} {M : Mem} {s1 : Int32} {s3 : Int32} {s4 : Int32} {s5 : Int32} {o : (Int32 × Int32 × Mem) ⊕ (Mem)} (h : j_X6_worthAt_45i fu M s1 s3 s4 s5 = some o) : Fr (w_X6_worthAt) (v_X6_worthAt) M ((Sum.elim (fun x : Int32 × Int32 × Mem => x.2.2) (fun x : Mem => x)) o) := by
  unfold j_X6_worthAt_45i at h
  have F0 : Fr (w_X6_worthAt) (v_X6_worthAt) M M := Fr.rf
  obtain ⟨hb1, h⟩ := chk_elim h
  have q2 := inb_lt hb1
  by_cases hc3 : (rd M 169 (ix s5)) = 0
  · rw [if_pos hc3] at h
    exact F0.tr (fr_j_X6_worthAt_83i h)
  · rw [if_neg hc3] at h
    obtain ⟨hb4, h⟩ := chk_elim h
    have q5 := inb_lt hb4
    exact F0.tr (fr_j_X6_worthAt_83i h)
set_option maxHeartbeats 1000000 in
theorem fr_b_X6_worthAt_12 {fu : Nat} {s1 : Int32} {s3 : Int32} {s0 : Int32 × Int32 × Mem} {o : (Int32 × Int32 × Mem) ⊕ (Mem)} (h : b_X6_worthAt_12 fu s1 s3 s0 = some o) : Fr (w_X6_worthAt) (v_X6_worthAt) ((fun x : Int32 × Int32 × Mem => x.2.2) s0) (Sum.elim (fun x : Int32 × Int32 × Mem => x.2.2) (fun x : Mem => x) o) := by
  obtain ⟨c4, c5, M⟩ := s0
  unfold b_X6_worthAt_12 at h
  replace h := un3_e h
  have F0 : Fr (w_X6_worthAt) (v_X6_worthAt) M M := Fr.rf
  by_cases hc1 : ((400 * s1) + s3) ≤ c5
  · rw [if_pos hc1] at h
    cases h
    exact F0
  · rw [if_neg hc1] at h
    obtain ⟨hb2, h⟩ := chk_elim h
    have q3 := inb_lt hb2
    by_cases hc4 : (rd M 169 (ix c5)) = 0
    · rw [if_pos hc4] at h
      exact F0.tr (fr_j_X6_worthAt_45i h)
    · rw [if_neg hc4] at h
      by_cases hc5 : (rd M 169 (ix c5)) = 1
      · rw [if_pos hc5] at h
        exact F0.tr (fr_j_X6_worthAt_45i h)
      · rw [if_neg hc5] at h
        by_cases hc6 : (rd M 169 (ix c5)) = 9
        · rw [if_pos hc6] at h
          obtain ⟨hb7, h⟩ := chk_elim h
          have q8 := inb_lt hb7
          obtain ⟨M_29, e9, h⟩ := bnd_elim h
          have F10 : Fr (w_X6_worthAt) (v_X6_worthAt) M M_29 := F0.tr (by rw [e9]; exact Fr.wr (by unfold w_X6_worthAt; exact (by omega)))
          obtain ⟨v_31, e11, h⟩ := bnd_elim h
          cases h
          exact F10
        · rw [if_neg hc6] at h
          obtain ⟨v_18, e12, h⟩ := bnd_elim h
          obtain ⟨hb13, h⟩ := chk_elim h
          have q14 := inb_lt hb13
          obtain ⟨hb15, h⟩ := chk_elim h
          have q16 := inb_lt hb15
          obtain ⟨r_23, hr17, h⟩ := bind_elim h
          obtain ⟨M_24, e18, h⟩ := bnd_elim h
          have F19 : Fr (w_X6_worthAt) (v_X6_worthAt) M M_24 := F0.tr (by rw [e18]; exact Fr.wr (by unfold w_X6_worthAt; exact (by omega)))
          obtain ⟨v_26, e20, h⟩ := bnd_elim h
          cases h
          exact F19
set_option maxHeartbeats 1000000 in
theorem fr_m_X6_worthAt {fu : Nat} {M : Mem} {a1 : Int32} {a2 : Int32} {a3 : Int32} {rr : Int32} {M2 : Mem} (h : m_X6_worthAt fu M a1 a2 a3 = some (rr, M2)) : Fr (w_X6_worthAt) (v_X6_worthAt) M M2 := by
  unfold m_X6_worthAt at h
  have F0 : Fr (w_X6_worthAt) (v_X6_worthAt) M M := Fr.rf
  obtain ⟨v_1, e1, h⟩ := bnd_elim h
  obtain ⟨x2, hr3, h⟩ := bind_elim h
  have F4 := F0.tr (lp_fr (w := (w_X6_worthAt)) (v := (v_X6_worthAt)) (fun x : Int32 × Int32 × Mem => x.2.2) (fun x : Mem => x) (fun s o hq => fr_b_X6_worthAt_12 hq) _ _ _ hr3)
  obtain ⟨M_35, rfl⟩ : ∃ z, z = x2 := ⟨_, rfl⟩
  replace h := un1_e h
  have F5 : Fr (w_X6_worthAt) (v_X6_worthAt) M M_35 := F4
  cases h
  exact F5
set_option maxHeartbeats 1000000 in
theorem fr_b_X6_doingBy_5 {fu : Nat} {s1 : Int32} {s0 : Int32 × Mem} {o : (Int32 × Mem) ⊕ ((Int32 × Mem) ⊕ (Mem))} (h : b_X6_doingBy_5 fu s1 s0 = some o) : Fr (w_X6_doingBy) (v_X6_doingBy) ((fun x : Int32 × Mem => x.2) s0) (Sum.elim (fun x : Int32 × Mem => x.2) (Sum.elim (fun x : Int32 × Mem => x.2) (fun x : Mem => x)) o) := by
  obtain ⟨c2, M⟩ := s0
  unfold b_X6_doingBy_5 at h
  replace h := un2_e h
  have F0 : Fr (w_X6_doingBy) (v_X6_doingBy) M M := Fr.rf
  obtain ⟨hb1, h⟩ := chk_elim h
  have q2 := inb_lt hb1
  by_cases hc3 : ((16 * s1) + (rd M 165 (ix s1))) ≤ c2
  · rw [if_pos hc3] at h
    cases h
    exact F0
  · rw [if_neg hc3] at h
    obtain ⟨hb4, h⟩ := chk_elim h
    have q5 := inb_lt hb4
    by_cases hc6 : (rd M 168 (ix c2)) = (rd M 167 (ix c2))
    · rw [if_pos hc6] at h
      cases h
      exact F0
    · rw [if_neg hc6] at h
      obtain ⟨⟨r_8, M_9⟩, hr7, h⟩ := bind_elim h
      replace h := un2_e h
      have F8 : Fr (w_X6_doingBy) (v_X6_doingBy) M M_9 := F0.tr ((fr_m_X6_worthAt hr7).mono (fun k j h => by
          unfold w_X6_worthAt at h
          exact (by unfold w_X6_doingBy; exact (by omega))) (fun k j h => absurd h id))
      by_cases hc9 : r_8 = 0
      · rw [if_pos hc9] at h
        obtain ⟨v_11, e10, h⟩ := bnd_elim h
        cases h
        exact F8
      · rw [if_neg hc9] at h
        cases h
        exact F8
set_option maxHeartbeats 1000000 in
theorem fr_m_X6_doingBy {fu : Nat} {M : Mem} {a1 : Int32} {rr : Int32} {M2 : Mem} (h : m_X6_doingBy fu M a1 = some (rr, M2)) : Fr (w_X6_doingBy) (v_X6_doingBy) M M2 := by
  unfold m_X6_doingBy at h
  have F0 : Fr (w_X6_doingBy) (v_X6_doingBy) M M := Fr.rf
  obtain ⟨v_1, e1, h⟩ := bnd_elim h
  obtain ⟨x2, hr3, h⟩ := bind_elim h
  have F4 := F0.tr (lp_fr (w := (w_X6_doingBy)) (v := (v_X6_doingBy)) (fun x : Int32 × Mem => x.2) (Sum.elim (fun x : Int32 × Mem => x.2) (fun x : Mem => x)) (fun s o hq => fr_b_X6_doingBy_5 hq) _ _ _ hr3)
  rcases x2 with y5 | y5
  · replace h := unS_l h
    obtain ⟨v_15, M_16⟩ := y5
    replace h := un2_e h
    have F6 : Fr (w_X6_doingBy) (v_X6_doingBy) M M_16 := F4
    obtain ⟨hb7, h⟩ := chk_elim h
    have q8 := inb_lt hb7
    cases h
    exact F6
  · replace h := unS_r h
    obtain ⟨M_18, rfl⟩ : ∃ z, z = y5 := ⟨_, rfl⟩
    replace h := un1_e h
    have F9 : Fr (w_X6_doingBy) (v_X6_doingBy) M M_18 := F4
    cases h
    exact F9
set_option maxHeartbeats 1000000 in
theorem fr_j_X6_doingOf_240 {fu : Nat} {M : Mem} {s1 : Int32} {s3 : Int32} {t1 : Int32} {t2 : Int32} {rr : Int32} {M2 : Mem} (h : j_X6_doingOf_240 fu M s1 s3 t1 t2 = some (rr, M2)) : Fr (w_X6_doingOf) (v_X6_doingOf) M M2 := by
  unfold j_X6_doingOf_240 at h
  have F0 : Fr (w_X6_doingOf) (v_X6_doingOf) M M := Fr.rf
  obtain ⟨hb1, h⟩ := chk_elim h
  have q2 := inb_lt hb1
  obtain ⟨M_52, e3, h⟩ := bnd_elim h
  have F4 : Fr (w_X6_doingOf) (v_X6_doingOf) M M_52 := F0.tr (by rw [e3]; exact Fr.wr (by unfold w_X6_doingOf; exact (by omega)))
  obtain ⟨hb5, h⟩ := chk_elim h
  have q6 := inb_lt hb5
  obtain ⟨M_55, e7, h⟩ := bnd_elim h
  have F8 : Fr (w_X6_doingOf) (v_X6_doingOf) M M_55 := F4.tr (by rw [e7]; exact Fr.wr (by unfold w_X6_doingOf; exact (by omega)))
  obtain ⟨hb9, h⟩ := chk_elim h
  have q10 := inb_lt hb9
  obtain ⟨M_58, e11, h⟩ := bnd_elim h
  have F12 : Fr (w_X6_doingOf) (v_X6_doingOf) M M_58 := F8.tr (by rw [e11]; exact Fr.wr (by unfold w_X6_doingOf; exact (by omega)))
  obtain ⟨M_60, e13, h⟩ := bnd_elim h
  have F14 : Fr (w_X6_doingOf) (v_X6_doingOf) M M_60 := F12.tr (by rw [e13]; exact Fr.wr (by unfold w_X6_doingOf; exact (by omega)))
  obtain ⟨⟨r_63, M_64⟩, hr15, h⟩ := bind_elim h
  replace h := un2_e h
  have F16 : Fr (w_X6_doingOf) (v_X6_doingOf) M M_64 := F14.tr ((fr_m_X6_doingBy hr15).mono (fun k j h => by
      unfold w_X6_doingBy at h
      exact (by unfold w_X6_doingOf; exact (by omega))) (fun k j h => absurd h id))
  cases h
  exact F16
set_option maxHeartbeats 1000000 in
theorem fr_j_X6_doingOf_212 {fu : Nat} {M : Mem} {s1 : Int32} {s3 : Int32} {s4 : Int32} {t1 : Int32} {t2 : Int32} {rr : Int32} {M2 : Mem} (h : j_X6_doingOf_212 fu M s1 s3 s4 t1 t2 = some (rr, M2)) : Fr (w_X6_doingOf) (v_X6_doingOf) M M2 := by
  unfold j_X6_doingOf_212 at h
  have F0 : Fr (w_X6_doingOf) (v_X6_doingOf) M M := Fr.rf
  obtain ⟨hb1, h⟩ := chk_elim h
  have q2 := inb_lt hb1
  obtain ⟨M_46, e3, h⟩ := bnd_elim h
  have F4 : Fr (w_X6_doingOf) (v_X6_doingOf) M M_46 := F0.tr (by rw [e3]; exact Fr.wr (by unfold w_X6_doingOf; exact (by omega)))
  obtain ⟨hb5, h⟩ := chk_elim h
  have q6 := inb_lt hb5
  obtain ⟨hb7, h⟩ := chk_elim h
  have q8 := inb_lt hb7
  by_cases hc9 : (rd M_46 151 (ix s4)) = (rd M_46 151 (ix s1))
  · rw [if_pos hc9] at h
    exact F4.tr (fr_j_X6_doingOf_240 h)
  · rw [if_neg hc9] at h
    exact F4.tr (fr_j_X6_doingOf_240 h)
set_option maxHeartbeats 1000000 in
theorem fr_j_X6_doingOf_118 {fu : Nat} {M : Mem} {s1 : Int32} {s3 : Int32} {s4 : Int32} {t1 : Int32} {t2 : Int32} {t4 : Int32} {rr : Int32} {M2 : Mem} (h : j_X6_doingOf_118 fu M s1 s3 s4 t1 t2 t4 = some (rr, M2)) : Fr (w_X6_doingOf) (v_X6_doingOf) M M2 := by
  unfold j_X6_doingOf_118 at h
  have F0 : Fr (w_X6_doingOf) (v_X6_doingOf) M M := Fr.rf
  obtain ⟨r_27, hr1, h⟩ := bind_elim h
  obtain ⟨hb2, h⟩ := chk_elim h
  have q3 := inb_lt hb2
  obtain ⟨M_29, e4, h⟩ := bnd_elim h
  have F5 : Fr (w_X6_doingOf) (v_X6_doingOf) M M_29 := F0.tr (by rw [e4]; exact Fr.wr (by unfold w_X6_doingOf; exact (by omega)))
  obtain ⟨M_31, e6, h⟩ := bnd_elim h
  have F7 : Fr (w_X6_doingOf) (v_X6_doingOf) M M_31 := F5.tr (by rw [e6]; exact Fr.wr (by unfold w_X6_doingOf; exact (by omega)))
  obtain ⟨hb8, h⟩ := chk_elim h
  have q9 := inb_lt hb8
  obtain ⟨M_34, e10, h⟩ := bnd_elim h
  have F11 : Fr (w_X6_doingOf) (v_X6_doingOf) M M_34 := F7.tr (by rw [e10]; exact Fr.wr (by unfold w_X6_doingOf; exact (by omega)))
  obtain ⟨M_36, e12, h⟩ := bnd_elim h
  have F13 : Fr (w_X6_doingOf) (v_X6_doingOf) M M_36 := F11.tr (by rw [e12]; exact Fr.wr (by unfold w_X6_doingOf; exact (by omega)))
  obtain ⟨hb14, h⟩ := chk_elim h
  have q15 := inb_lt hb14
  obtain ⟨M_39, e16, h⟩ := bnd_elim h
  have F17 : Fr (w_X6_doingOf) (v_X6_doingOf) M M_39 := F13.tr (by rw [e16]; exact Fr.wr (by unfold w_X6_doingOf; exact (by omega)))
  obtain ⟨hb18, h⟩ := chk_elim h
  have q19 := inb_lt hb18
  obtain ⟨M_42, e20, h⟩ := bnd_elim h
  have F21 : Fr (w_X6_doingOf) (v_X6_doingOf) M M_42 := F17.tr (by rw [e20]; exact Fr.wr (by unfold w_X6_doingOf; exact (by omega)))
  by_cases hc22 : (rd M_42 151 (ix s3)) = (rd M_42 151 (ix s1))
  · rw [if_pos hc22] at h
    exact F21.tr (fr_j_X6_doingOf_212 h)
  · rw [if_neg hc22] at h
    exact F21.tr (fr_j_X6_doingOf_212 h)
set_option maxHeartbeats 1000000 in
theorem fr_m_X6_doingOf {fu : Nat} {M : Mem} {a1 : Int32} {rr : Int32} {M2 : Mem} (h : m_X6_doingOf fu M a1 = some (rr, M2)) : Fr (w_X6_doingOf) (v_X6_doingOf) M M2 := by
  unfold m_X6_doingOf at h
  have F0 : Fr (w_X6_doingOf) (v_X6_doingOf) M M := Fr.rf
  obtain ⟨hb1, h⟩ := chk_elim h
  have q2 := inb_lt hb1
  obtain ⟨v_2, e3, h⟩ := bnd_elim h
  by_cases hc4 : v_2 = 0
  · rw [if_pos hc4] at h
    cases h
    exact F0
  · rw [if_neg hc4] at h
    obtain ⟨r_6, hr5, h⟩ := bind_elim h
    obtain ⟨r_8, hr6, h⟩ := bind_elim h
    obtain ⟨M_9, e7, h⟩ := bnd_elim h
    have F8 : Fr (w_X6_doingOf) (v_X6_doingOf) M M_9 := F0.tr (by rw [e7]; exact Fr.wr (by unfold w_X6_doingOf; exact (by omega)))
    obtain ⟨hb9, h⟩ := chk_elim h
    have q10 := inb_lt hb9
    obtain ⟨M_12, e11, h⟩ := bnd_elim h
    have F12 : Fr (w_X6_doingOf) (v_X6_doingOf) M M_12 := F8.tr (by rw [e11]; exact Fr.wr (by unfold w_X6_doingOf; exact (by omega)))
    obtain ⟨hb13, h⟩ := chk_elim h
    have q14 := inb_lt hb13
    obtain ⟨M_15, e15, h⟩ := bnd_elim h
    have F16 : Fr (w_X6_doingOf) (v_X6_doingOf) M M_15 := F12.tr (by rw [e15]; exact Fr.wr (by unfold w_X6_doingOf; exact (by omega)))
    obtain ⟨r_18, hr17, h⟩ := bind_elim h
    obtain ⟨r_20, hr18, h⟩ := bind_elim h
    obtain ⟨M_21, e19, h⟩ := bnd_elim h
    have F20 : Fr (w_X6_doingOf) (v_X6_doingOf) M M_21 := F16.tr (by rw [e19]; exact Fr.wr (by unfold w_X6_doingOf; exact (by omega)))
    obtain ⟨r_24, hr21, h⟩ := bind_elim h
    by_cases hc22 : v_2 ≤ (rd M_21 162 (ix 9))
    · rw [if_pos hc22] at h
      exact F20.tr (fr_j_X6_doingOf_118 h)
    · rw [if_neg hc22] at h
      exact F20.tr (fr_j_X6_doingOf_118 h)
set_option maxHeartbeats 1000000 in
theorem fr_m_X6_isStopped {M : Mem} {a1 : Int32} {rr : Int32} {M2 : Mem} (h : m_X6_isStopped M a1 = some (rr, M2)) : Fr (w_X6_isStopped) (v_X6_isStopped) M M2 := by
  unfold m_X6_isStopped at h
  have F0 : Fr (w_X6_isStopped) (v_X6_isStopped) M M := Fr.rf
  obtain ⟨hb1, h⟩ := chk_elim h
  have q2 := inb_lt hb1
  by_cases hc3 : (rd M 174 (ix a1)) = 1
  · rw [if_pos hc3] at h
    obtain ⟨⟨r_9, M_10⟩, hr4, h⟩ := bind_elim h
    replace h := un2_e h
    have F5 : Fr (w_X6_isStopped) (v_X6_isStopped) M M_10 := F0.tr ((fr_m_X6_draw hr4).mono (fun k j h => by
        unfold w_X6_draw at h
        exact (by unfold w_X6_isStopped; exact ⟨by omega, h.2⟩)) (fun k j h => absurd h id))
    by_cases hc6 : (rd M_10 162 (ix 7)) ≤ r_9
    · rw [if_pos hc6] at h
      cases h
      exact F5
    · rw [if_neg hc6] at h
      cases h
      exact F5
  · rw [if_neg hc3] at h
    by_cases hc7 : (rd M 152 (ix a1)) = 1
    · rw [if_pos hc7] at h
      obtain ⟨⟨r_5, M_6⟩, hr8, h⟩ := bind_elim h
      replace h := un2_e h
      have F9 : Fr (w_X6_isStopped) (v_X6_isStopped) M M_6 := F0.tr ((fr_m_X6_draw hr8).mono (fun k j h => by
          unfold w_X6_draw at h
          exact (by unfold w_X6_isStopped; exact ⟨by omega, h.2⟩)) (fun k j h => absurd h id))
      by_cases hc10 : (rd M_6 162 (ix 8)) ≤ r_5
      · rw [if_pos hc10] at h
        cases h
        exact F9
      · rw [if_neg hc10] at h
        cases h
        exact F9
    · rw [if_neg hc7] at h
      cases h
      exact F0
set_option maxHeartbeats 1000000 in
theorem fr_j_X6_moves_107 {M : Mem} {s1 : Int32} {s2 : Int32} {s3 : Int32} {t1 : Int32} {t2 : Int32} {M2 : Mem} (h : j_X6_moves_107 M s1 s2 s3 t1 t2 = some M2) : Fr (w_X6_moves) (v_X6_moves) M M2 := by
  unfold j_X6_moves_107 at h
  have F0 : Fr (w_X6_moves) (v_X6_moves) M M := Fr.rf
  obtain ⟨hb1, h⟩ := chk_elim h
  have q2 := inb_lt hb1
  obtain ⟨M_12, e3, h⟩ := bnd_elim h
  have F4 : Fr (w_X6_moves) (v_X6_moves) M M_12 := F0.tr (by rw [e3]; exact Fr.wr (Or.inr (Or.inr (Or.inr (Or.inr (Or.inr (Or.inl (by omega))))))))
  obtain ⟨hb5, h⟩ := chk_elim h
  have q6 := inb_lt hb5
  obtain ⟨M_15, e7, h⟩ := bnd_elim h
  have F8 : Fr (w_X6_moves) (v_X6_moves) M M_15 := F4.tr (by rw [e7]; exact Fr.wr (Or.inr (Or.inr (Or.inr (Or.inr (Or.inr (Or.inl (by omega))))))))
  by_cases hc9 : (rd M_15 158 (ix s2)) < (rd M_15 159 (ix s2))
  · rw [if_pos hc9] at h
    obtain ⟨hb10, h⟩ := chk_elim h
    have q11 := inb_lt hb10
    obtain ⟨r_20, hr12, h⟩ := bind_elim h
    obtain ⟨M_21, e13, h⟩ := bnd_elim h
    have F14 : Fr (w_X6_moves) (v_X6_moves) M M_21 := F8.tr (by rw [e13]; exact Fr.wr (Or.inr (Or.inr (Or.inr (Or.inr (Or.inr (Or.inl (by omega))))))))
    obtain ⟨M_23, e15, h⟩ := bnd_elim h
    have F16 : Fr (w_X6_moves) (v_X6_moves) M M_23 := F14.tr (by rw [e15]; exact Fr.wr (Or.inr (Or.inr (Or.inl (by omega)))))
    obtain ⟨hb17, h⟩ := chk_elim h
    have q18 := inb_lt hb17
    obtain ⟨M_26, e19, h⟩ := bnd_elim h
    have F20 : Fr (w_X6_moves) (v_X6_moves) M M_26 := F16.tr (by rw [e19]; exact Fr.wr (Or.inr (Or.inr (Or.inl (by omega)))))
    obtain ⟨M_28, e21, h⟩ := bnd_elim h
    have F22 : Fr (w_X6_moves) (v_X6_moves) M M_28 := F20.tr (by rw [e21]; exact Fr.wr (Or.inr (Or.inr (Or.inr (Or.inr (Or.inr (Or.inr (by omega))))))))
    obtain ⟨M_30, e23, h⟩ := bnd_elim h
    have F24 : Fr (w_X6_moves) (v_X6_moves) M M_30 := F22.tr (by rw [e23]; exact Fr.wr (Or.inr (Or.inl ⟨by omega, by decide⟩)))
    cases h
    exact F24
  · rw [if_neg hc9] at h
    cases h
    exact F8
set_option maxHeartbeats 1000000 in
theorem fr_m_X6_moves {M : Mem} {a1 : Int32} {a2 : Int32} {a3 : Int32} {M2 : Mem} (h : m_X6_moves M a1 a2 a3 = some M2) : Fr (w_X6_moves) (v_X6_moves) M M2 := by
  unfold m_X6_moves at h
  have F0 : Fr (w_X6_moves) (v_X6_moves) M M := Fr.rf
  obtain ⟨hb1, h⟩ := chk_elim h
  have q2 := inb_lt hb1
  by_cases hc3 : (rd M 157 (ix a2)) = 1
  · rw [if_pos hc3] at h
    cases h
    exact F0
  · rw [if_neg hc3] at h
    by_cases hc4 : (rd M 162 (ix 9)) = 0
    · rw [if_pos hc4] at h
      cases h
      exact F0
    · rw [if_neg hc4] at h
      obtain ⟨hb5, h⟩ := chk_elim h
      have q6 := inb_lt hb5
      by_cases hc7 : (rd M 149 (ix a3)) = 0
      · rw [if_pos hc7] at h
        cases h
        exact F0
      · rw [if_neg hc7] at h
        obtain ⟨⟨r_7, M_8⟩, hr8, h⟩ := bind_elim h
        replace h := un2_e h
        have F9 : Fr (w_X6_moves) (v_X6_moves) M M_8 := F0.tr ((fr_m_X6_isStopped hr8).mono (fun k j h => by
            unfold w_X6_isStopped at h
            exact (Or.inl ⟨by omega, h.2⟩)) (fun k j h => absurd h id))
        by_cases hc10 : r_7 = 0
        · rw [if_pos hc10] at h
          by_cases hc11 : (rd M_8 160 (ix a2)) = a1
          · rw [if_pos hc11] at h
            exact F9.tr (fr_j_X6_moves_107 h)
          · rw [if_neg hc11] at h
            exact F9.tr (fr_j_X6_moves_107 h)
        · rw [if_neg hc10] at h
          obtain ⟨hb12, h⟩ := chk_elim h
          have q13 := inb_lt hb12
          obtain ⟨M_33, e14, h⟩ := bnd_elim h
          have F15 : Fr (w_X6_moves) (v_X6_moves) M M_33 := F9.tr (by rw [e14]; exact Fr.wr (Or.inr (Or.inr (Or.inr (Or.inr (Or.inl (by omega)))))))
          obtain ⟨M_35, e16, h⟩ := bnd_elim h
          have F17 : Fr (w_X6_moves) (v_X6_moves) M M_35 := F15.tr (by rw [e16]; exact Fr.wr (Or.inr (Or.inr (Or.inr (Or.inl (by omega))))))
          obtain ⟨M_37, e18, h⟩ := bnd_elim h
          have F19 : Fr (w_X6_moves) (v_X6_moves) M M_37 := F17.tr (by rw [e18]; exact Fr.wr (Or.inr (Or.inr (Or.inr (Or.inr (Or.inr (Or.inl (by omega))))))))
          cases h
          exact F19
set_option maxHeartbeats 1000000 in
theorem fr_b_X6_goesBy_2 {fu : Nat} {s0 : Int32 × Mem} {o : (Int32 × Mem) ⊕ (Mem)} (h : b_X6_goesBy_2 fu s0 = some o) : Fr (w_X6_goesBy) (v_X6_goesBy) ((fun x : Int32 × Mem => x.2) s0) (Sum.elim (fun x : Int32 × Mem => x.2) (fun x : Mem => x) o) := by
  obtain ⟨c1, M⟩ := s0
  unfold b_X6_goesBy_2 at h
  replace h := un2_e h
  have F0 : Fr (w_X6_goesBy) (v_X6_goesBy) M M := Fr.rf
  by_cases hc1 : (rd M 148 2) ≤ c1
  · rw [if_pos hc1] at h
    cases h
    exact F0
  · rw [if_neg hc1] at h
    obtain ⟨⟨r_3, M_4⟩, hr2, h⟩ := bind_elim h
    replace h := un2_e h
    have F3 : Fr (w_X6_goesBy) (v_X6_goesBy) M M_4 := F0.tr ((fr_m_X6_doingOf hr2).mono (fun k j h => by
        unfold w_X6_doingOf at h
        exact (Or.inr (Or.inr (Or.inr (Or.inr (Or.inr (Or.inr (by omega)))))))) (fun k j h => absurd h id))
    obtain ⟨hb4, h⟩ := chk_elim h
    have q5 := inb_lt hb4
    obtain ⟨M_6, e6, h⟩ := bnd_elim h
    have F7 : Fr (w_X6_goesBy) (v_X6_goesBy) M M_6 := F3.tr (by rw [e6]; exact Fr.wr (Or.inr (Or.inr (Or.inr (Or.inr (Or.inr (Or.inr (by omega))))))))
    obtain ⟨M_8, e8, h⟩ := bnd_elim h
    have F9 : Fr (w_X6_goesBy) (v_X6_goesBy) M M_8 := F7.tr (by rw [e8]; exact Fr.wr (Or.inr (Or.inr (Or.inr (Or.inr (Or.inr (Or.inr (by omega))))))))
    obtain ⟨v_10, e10, h⟩ := bnd_elim h
    cases h
    exact F9
set_option maxHeartbeats 1000000 in
theorem fr_j_X6_goesBy_69i {fu : Nat} {M : Mem} {s1 : Int32} {o : (Int32 × Mem) ⊕ (Mem)} (h : j_X6_goesBy_69i fu M s1 = some o) : Fr (w_X6_goesBy) (v_X6_goesBy) M ((Sum.elim (fun x : Int32 × Mem => x.2) (fun x : Mem => x)) o) := by
  unfold j_X6_goesBy_69i at h
  have F0 : Fr (w_X6_goesBy) (v_X6_goesBy) M M := Fr.rf
  obtain ⟨hb1, h⟩ := chk_elim h
  have q2 := inb_lt hb1
  by_cases hc3 : (rd M 174 (ix s1)) = 3
  · rw [if_pos hc3] at h
    obtain ⟨r_23, hr4, h⟩ := bind_elim h
    obtain ⟨M_25, hr5, h⟩ := bind_elim h
    have F6 : Fr (w_X6_goesBy) (v_X6_goesBy) M M_25 := F0.tr ((fr_m_X6_moves hr5).mono (fun k j h => by
        unfold w_X6_moves at h
        rcases h with h | h | h | h | h | h | h
        · exact (Or.inl ⟨by omega, h.2⟩)
        · exact (Or.inr (Or.inr (Or.inl ⟨by omega, h.2⟩)))
        · exact (Or.inr (Or.inr (Or.inr (Or.inl (by omega)))))
        · exact (Or.inr (Or.inr (Or.inr (Or.inr (Or.inl (by omega))))))
        · exact (Or.inr (Or.inr (Or.inr (Or.inr (Or.inl (by omega))))))
        · exact (Or.inr (Or.inr (Or.inr (Or.inr (Or.inr (Or.inl (by omega)))))))
        · exact (Or.inr (Or.inr (Or.inr (Or.inr (Or.inr (Or.inr (by omega)))))))) (fun k j h => absurd h id))
    obtain ⟨v_26, e7, h⟩ := bnd_elim h
    cases h
    exact F6
  · rw [if_neg hc3] at h
    obtain ⟨v_20, e8, h⟩ := bnd_elim h
    cases h
    exact F0
set_option maxHeartbeats 1000000 in
theorem fr_b_X6_goesBy_36 {fu : Nat} {s0 : Int32 × Mem} {o : (Int32 × Mem) ⊕ (Mem)} (h : b_X6_goesBy_36 fu s0 = some o) : Fr (w_X6_goesBy) (v_X6_goesBy) ((fun x : Int32 × Mem => x.2) s0) (Sum.elim (fun x : Int32 × Mem => x.2) (fun x : Mem => x) o) := by
  obtain ⟨c1, M⟩ := s0
  unfold b_X6_goesBy_36 at h
  replace h := un2_e h
  have F0 : Fr (w_X6_goesBy) (v_X6_goesBy) M M := Fr.rf
  by_cases hc1 : (rd M 148 2) ≤ c1
  · rw [if_pos hc1] at h
    cases h
    exact F0
  · rw [if_neg hc1] at h
    obtain ⟨hb2, h⟩ := chk_elim h
    have q3 := inb_lt hb2
    by_cases hc4 : (rd M 174 (ix c1)) = 2
    · rw [if_pos hc4] at h
      obtain ⟨r_29, hr5, h⟩ := bind_elim h
      obtain ⟨r_31, hr6, h⟩ := bind_elim h
      obtain ⟨M_33, hr7, h⟩ := bind_elim h
      have F8 : Fr (w_X6_goesBy) (v_X6_goesBy) M M_33 := F0.tr ((fr_m_X6_moves hr7).mono (fun k j h => by
          unfold w_X6_moves at h
          rcases h with h | h | h | h | h | h | h
          · exact (Or.inl ⟨by omega, h.2⟩)
          · exact (Or.inr (Or.inr (Or.inl ⟨by omega, h.2⟩)))
          · exact (Or.inr (Or.inr (Or.inr (Or.inl (by omega)))))
          · exact (Or.inr (Or.inr (Or.inr (Or.inr (Or.inl (by omega))))))
          · exact (Or.inr (Or.inr (Or.inr (Or.inr (Or.inl (by omega))))))
          · exact (Or.inr (Or.inr (Or.inr (Or.inr (Or.inr (Or.inl (by omega)))))))
          · exact (Or.inr (Or.inr (Or.inr (Or.inr (Or.inr (Or.inr (by omega)))))))) (fun k j h => absurd h id))
      exact F8.tr (fr_j_X6_goesBy_69i h)
    · rw [if_neg hc4] at h
      exact F0.tr (fr_j_X6_goesBy_69i h)
set_option maxHeartbeats 1000000 in
theorem fr_j_X6_goesBy_223i {fu : Nat} {M : Mem} {s1 : Int32} {t1 : Int32} {t2 : Int32} {o : (Int32 × Mem) ⊕ (Mem)} (h : j_X6_goesBy_223i fu M s1 t1 t2 = some o) : Fr (w_X6_goesBy) (v_X6_goesBy) M ((Sum.elim (fun x : Int32 × Mem => x.2) (fun x : Mem => x)) o) := by
  unfold j_X6_goesBy_223i at h
  have F0 : Fr (w_X6_goesBy) (v_X6_goesBy) M M := Fr.rf
  obtain ⟨hb1, h⟩ := chk_elim h
  have q2 := inb_lt hb1
  obtain ⟨M_53, e3, h⟩ := bnd_elim h
  have F4 : Fr (w_X6_goesBy) (v_X6_goesBy) M M_53 := F0.tr (by rw [e3]; exact Fr.wr (Or.inr (Or.inr (Or.inr (Or.inr (Or.inl (by omega)))))))
  obtain ⟨hb5, h⟩ := chk_elim h
  have q6 := inb_lt hb5
  by_cases hc7 : (rd M_53 149 (ix s1)) = 0
  · rw [if_pos hc7] at h
    by_cases hc8 : (rd M_53 156 (ix s1)) = (-1)
    · rw [if_pos hc8] at h
      obtain ⟨M_62, e9, h⟩ := bnd_elim h
      have F10 : Fr (w_X6_goesBy) (v_X6_goesBy) M M_62 := F4.tr (by rw [e9]; exact Fr.wr (Or.inr (Or.inr (Or.inr (Or.inr (Or.inl (by omega)))))))
      obtain ⟨v_64, e11, h⟩ := bnd_elim h
      cases h
      exact F10
    · rw [if_neg hc8] at h
      obtain ⟨v_60, e12, h⟩ := bnd_elim h
      cases h
      exact F4
  · rw [if_neg hc7] at h
    obtain ⟨v_57, e13, h⟩ := bnd_elim h
    cases h
    exact F4
set_option maxHeartbeats 1000000 in
theorem fr_j_X6_goesBy_189i {fu : Nat} {M : Mem} {s1 : Int32} {t1 : Int32} {t2 : Int32} {t3 : Int32} {o : (Int32 × Mem) ⊕ (Mem)} (h : j_X6_goesBy_189i fu M s1 t1 t2 t3 = some o) : Fr (w_X6_goesBy) (v_X6_goesBy) M ((Sum.elim (fun x : Int32 × Mem => x.2) (fun x : Mem => x)) o) := by
  unfold j_X6_goesBy_189i at h
  have F0 : Fr (w_X6_goesBy) (v_X6_goesBy) M M := Fr.rf
  obtain ⟨hb1, h⟩ := chk_elim h
  have q2 := inb_lt hb1
  obtain ⟨M_46, e3, h⟩ := bnd_elim h
  have F4 : Fr (w_X6_goesBy) (v_X6_goesBy) M M_46 := F0.tr (by rw [e3]; exact Fr.wr (Or.inr (Or.inr (Or.inr (Or.inr (Or.inl (by omega)))))))
  obtain ⟨hb5, h⟩ := chk_elim h
  have q6 := inb_lt hb5
  by_cases hc7 : (rd M_46 175 (ix s1)) = 0
  · rw [if_pos hc7] at h
    obtain ⟨r_51, hr8, h⟩ := bind_elim h
    exact F4.tr (fr_j_X6_goesBy_223i h)
  · rw [if_neg hc7] at h
    exact F4.tr (fr_j_X6_goesBy_223i h)
set_option maxHeartbeats 1000000 in
theorem fr_j_X6_goesBy_144i {fu : Nat} {M : Mem} {s1 : Int32} {t0 : Int32} {o : (Int32 × Mem) ⊕ (Mem)} (h : j_X6_goesBy_144i fu M s1 t0 = some o) : Fr (w_X6_goesBy) (v_X6_goesBy) M ((Sum.elim (fun x : Int32 × Mem => x.2) (fun x : Mem => x)) o) := by
  unfold j_X6_goesBy_144i at h
  have F0 : Fr (w_X6_goesBy) (v_X6_goesBy) M M := Fr.rf
  obtain ⟨hb1, h⟩ := chk_elim h
  have q2 := inb_lt hb1
  obtain ⟨r_43, hr3, h⟩ := bind_elim h
  by_cases hc4 : (rd M 152 (ix s1)) = 1
  · rw [if_pos hc4] at h
    exact F0.tr (fr_j_X6_goesBy_189i h)
  · rw [if_neg hc4] at h
    exact F0.tr (fr_j_X6_goesBy_189i h)
set_option maxHeartbeats 1000000 in
theorem fr_b_X6_goesBy_98 {fu : Nat} {s0 : Int32 × Mem} {o : (Int32 × Mem) ⊕ (Mem)} (h : b_X6_goesBy_98 fu s0 = some o) : Fr (w_X6_goesBy) (v_X6_goesBy) ((fun x : Int32 × Mem => x.2) s0) (Sum.elim (fun x : Int32 × Mem => x.2) (fun x : Mem => x) o) := by
  obtain ⟨c1, M⟩ := s0
  unfold b_X6_goesBy_98 at h
  replace h := un2_e h
  have F0 : Fr (w_X6_goesBy) (v_X6_goesBy) M M := Fr.rf
  by_cases hc1 : (rd M 148 2) ≤ c1
  · rw [if_pos hc1] at h
    cases h
    exact F0
  · rw [if_neg hc1] at h
    obtain ⟨hb2, h⟩ := chk_elim h
    have q3 := inb_lt hb2
    by_cases hc4 : (rd M 174 (ix c1)) = 1
    · rw [if_pos hc4] at h
      exact F0.tr (fr_j_X6_goesBy_144i h)
    · rw [if_neg hc4] at h
      by_cases hc5 : (rd M 174 (ix c1)) = 0
      · rw [if_pos hc5] at h
        exact F0.tr (fr_j_X6_goesBy_144i h)
      · rw [if_neg hc5] at h
        exact F0.tr (fr_j_X6_goesBy_144i h)
set_option maxHeartbeats 1000000 in
theorem fr_m_X6_goesBy {fu : Nat} {M : Mem} {M2 : Mem} (h : m_X6_goesBy fu M = some M2) : Fr (w_X6_goesBy) (v_X6_goesBy) M M2 := by
  unfold m_X6_goesBy at h
  have F0 : Fr (w_X6_goesBy) (v_X6_goesBy) M M := Fr.rf
  obtain ⟨x1, hr2, h⟩ := bind_elim h
  have F3 := F0.tr (lp_fr (w := (w_X6_goesBy)) (v := (v_X6_goesBy)) (fun x : Int32 × Mem => x.2) (fun x : Mem => x) (fun s o hq => fr_b_X6_goesBy_2 hq) _ _ _ hr2)
  obtain ⟨M_14, rfl⟩ : ∃ z, z = x1 := ⟨_, rfl⟩
  replace h := un1_e h
  have F4 : Fr (w_X6_goesBy) (v_X6_goesBy) M M_14 := F3
  obtain ⟨x5, hr6, h⟩ := bind_elim h
  have F7 := F4.tr (lp_fr (w := (w_X6_goesBy)) (v := (v_X6_goesBy)) (fun x : Int32 × Mem => x.2) (fun x : Mem => x) (fun s o hq => fr_b_X6_goesBy_36 hq) _ _ _ hr6)
  obtain ⟨M_36, rfl⟩ : ∃ z, z = x5 := ⟨_, rfl⟩
  replace h := un1_e h
  have F8 : Fr (w_X6_goesBy) (v_X6_goesBy) M M_36 := F7
  obtain ⟨x9, hr10, h⟩ := bind_elim h
  have F11 := F8.tr (lp_fr (w := (w_X6_goesBy)) (v := (v_X6_goesBy)) (fun x : Int32 × Mem => x.2) (fun x : Mem => x) (fun s o hq => fr_b_X6_goesBy_98 hq) _ _ _ hr10)
  obtain ⟨M_68, rfl⟩ : ∃ z, z = x9 := ⟨_, rfl⟩
  replace h := un1_e h
  have F12 : Fr (w_X6_goesBy) (v_X6_goesBy) M M_68 := F11
  obtain ⟨M_69, e13, h⟩ := bnd_elim h
  have F14 : Fr (w_X6_goesBy) (v_X6_goesBy) M M_69 := F12.tr (by rw [e13]; exact Fr.wr (Or.inr (Or.inl ⟨by omega, by decide⟩)))
  cases h
  exact F14
set_option maxHeartbeats 1000000 in
theorem fr_b_X6_nights_37 {fu : Nat} {s1 : Int32} {s2 : Int32} {s0 : Int32 × Mem} {o : (Int32 × Mem) ⊕ (Mem)} (h : b_X6_nights_37 fu s1 s2 s0 = some o) : Fr (w_X6_nights) (v_X6_nights) ((fun x : Int32 × Mem => x.2) s0) (Sum.elim (fun x : Int32 × Mem => x.2) (fun x : Mem => x) o) := by
  obtain ⟨c3, M⟩ := s0
  unfold b_X6_nights_37 at h
  replace h := un2_e h
  have F0 : Fr (w_X6_nights) (v_X6_nights) M M := Fr.rf
  by_cases hc1 : s1 ≤ c3
  · rw [if_pos hc1] at h
    cases h
    exact F0
  · rw [if_neg hc1] at h
    obtain ⟨M_11, hr2, h⟩ := bind_elim h
    have F3 : Fr (w_X6_nights) (v_X6_nights) M M_11 := F0.tr ((fr_m_X6_goesBy hr2).mono (fun k j h => by
        unfold w_X6_goesBy at h
        rcases h with h | h | h | h | h | h | h
        · exact (Or.inr (Or.inl ⟨by omega, h.2⟩))
        · exact (Or.inr (Or.inr (Or.inl ⟨by omega, h.2⟩)))
        · exact (Or.inr (Or.inr (Or.inr (Or.inl ⟨by omega, h.2⟩))))
        · exact (Or.inr (Or.inr (Or.inr (Or.inr (Or.inl (by omega))))))
        · exact (Or.inr (Or.inr (Or.inr (Or.inr (Or.inr (Or.inl (by omega)))))))
        · exact (Or.inr (Or.inr (Or.inr (Or.inr (Or.inr (Or.inr (Or.inl (by omega))))))))
        · exact (Or.inr (Or.inr (Or.inr (Or.inr (Or.inr (Or.inr (Or.inr (by omega))))))))) (fun k j h => absurd h id))
    obtain ⟨v_12, e4, h⟩ := bnd_elim h
    cases h
    exact F3
set_option maxHeartbeats 1000000 in
theorem fr_m_X6_nights {fu : Nat} {M : Mem} {a1 : Int32} {rr : Int32} {M2 : Mem} (h : m_X6_nights fu M a1 = some (rr, M2)) : Fr (w_X6_nights) (v_X6_nights) M M2 := by
  unfold m_X6_nights at h
  have F0 : Fr (w_X6_nights) (v_X6_nights) M M := Fr.rf
  obtain ⟨M_1, e1, h⟩ := bnd_elim h
  have F2 : Fr (w_X6_nights) (v_X6_nights) M M_1 := F0.tr (by rw [e1]; exact Fr.wr (Or.inl ⟨by omega, by decide⟩))
  obtain ⟨r_4, hr3, h⟩ := bind_elim h
  by_cases hc4 : r_4 = 0
  · rw [if_pos hc4] at h
    cases h
    exact F2
  · rw [if_neg hc4] at h
    by_cases hc5 : ((rd M_1 148 3) + a1) ≤ 9999
    · rw [if_pos hc5] at h
      obtain ⟨v_7, e6, h⟩ := bnd_elim h
      obtain ⟨x7, hr8, h⟩ := bind_elim h
      have F9 := F2.tr (lp_fr (w := (w_X6_nights)) (v := (v_X6_nights)) (fun x : Int32 × Mem => x.2) (fun x : Mem => x) (fun s o hq => fr_b_X6_nights_37 hq) _ _ _ hr8)
      obtain ⟨M_16, rfl⟩ : ∃ z, z = x7 := ⟨_, rfl⟩
      replace h := un1_e h
      have F10 : Fr (w_X6_nights) (v_X6_nights) M M_16 := F9
      cases h
      exact F10
    · rw [if_neg hc5] at h
      cases h
      exact F2
set_option maxHeartbeats 1000000 in
theorem fr_m_X6_of {fu : Nat} {M : Mem} {a1 : Int32} {a2 : Int32} {rr : Int32} {M2 : Mem} (h : m_X6_of fu M a1 a2 = some (rr, M2)) : Fr (w_X6_of) (v_X6_of) M M2 := by
  unfold m_X6_of at h
  have F0 : Fr (w_X6_of) (v_X6_of) M M := Fr.rf
  obtain ⟨M_1, e1, h⟩ := bnd_elim h
  have F2 : Fr (w_X6_of) (v_X6_of) M M_1 := F0.tr (by rw [e1]; exact Fr.wr (Or.inl ⟨by omega, by decide⟩))
  obtain ⟨r_4, hr3, h⟩ := bind_elim h
  by_cases hc4 : r_4 = 0
  · rw [if_pos hc4] at h
    cases h
    exact F2
  · rw [if_neg hc4] at h
    by_cases hc5 : a2 = 0
    · rw [if_pos hc5] at h
      obtain ⟨hb6, h⟩ := chk_elim h
      have q7 := inb_lt hb6
      cases h
      exact F2
    · rw [if_neg hc5] at h
      by_cases hc8 : a2 = 1
      · rw [if_pos hc8] at h
        obtain ⟨hb9, h⟩ := chk_elim h
        have q10 := inb_lt hb9
        cases h
        exact F2
      · rw [if_neg hc8] at h
        by_cases hc11 : a2 = 2
        · rw [if_pos hc11] at h
          obtain ⟨hb12, h⟩ := chk_elim h
          have q13 := inb_lt hb12
          cases h
          exact F2
        · rw [if_neg hc11] at h
          by_cases hc14 : a2 = 3
          · rw [if_pos hc14] at h
            obtain ⟨hb15, h⟩ := chk_elim h
            have q16 := inb_lt hb15
            cases h
            exact F2
          · rw [if_neg hc14] at h
            by_cases hc17 : a2 = 4
            · rw [if_pos hc17] at h
              obtain ⟨hb18, h⟩ := chk_elim h
              have q19 := inb_lt hb18
              cases h
              exact F2
            · rw [if_neg hc17] at h
              by_cases hc20 : a2 = 5
              · rw [if_pos hc20] at h
                obtain ⟨hb21, h⟩ := chk_elim h
                have q22 := inb_lt hb21
                cases h
                exact F2
              · rw [if_neg hc20] at h
                by_cases hc23 : a2 = 6
                · rw [if_pos hc23] at h
                  obtain ⟨hb24, h⟩ := chk_elim h
                  have q25 := inb_lt hb24
                  cases h
                  exact F2
                · rw [if_neg hc23] at h
                  by_cases hc26 : a2 = 7
                  · rw [if_pos hc26] at h
                    obtain ⟨hb27, h⟩ := chk_elim h
                    have q28 := inb_lt hb27
                    cases h
                    exact F2
                  · rw [if_neg hc26] at h
                    by_cases hc29 : a2 = 8
                    · rw [if_pos hc29] at h
                      obtain ⟨⟨r_16, M_17⟩, hr30, h⟩ := bind_elim h
                      replace h := un2_e h
                      have F31 : Fr (w_X6_of) (v_X6_of) M M_17 := F2.tr ((fr_m_X6_doingOf hr30).mono (fun k j h => by
                          unfold w_X6_doingOf at h
                          exact (Or.inr (by omega))) (fun k j h => absurd h id))
                      cases h
                      exact F31
                    · rw [if_neg hc29] at h
                      cases h
                      exact F2
set_option maxHeartbeats 1000000 in
theorem fr_m_X6_stake {M : Mem} {a1 : Int32} {a2 : Int32} {rr : Int32} {M2 : Mem} (h : m_X6_stake M a1 a2 = some (rr, M2)) : Fr (w_X6_stake) (v_X6_stake) M M2 := by
  unfold m_X6_stake at h
  have F0 : Fr (w_X6_stake) (v_X6_stake) M M := Fr.rf
  obtain ⟨M_1, e1, h⟩ := bnd_elim h
  have F2 : Fr (w_X6_stake) (v_X6_stake) M M_1 := F0.tr (by rw [e1]; exact Fr.wr (by unfold w_X6_stake; exact ⟨by omega, by decide⟩))
  obtain ⟨r_4, hr3, h⟩ := bind_elim h
  by_cases hc4 : r_4 = 0
  · rw [if_pos hc4] at h
    cases h
    exact F2
  · rw [if_neg hc4] at h
    by_cases hc5 : a2 = 0
    · rw [if_pos hc5] at h
      obtain ⟨hb6, h⟩ := chk_elim h
      have q7 := inb_lt hb6
      cases h
      exact F2
    · rw [if_neg hc5] at h
      by_cases hc8 : a2 = 1
      · rw [if_pos hc8] at h
        obtain ⟨hb9, h⟩ := chk_elim h
        have q10 := inb_lt hb9
        cases h
        exact F2
      · rw [if_neg hc8] at h
        by_cases hc11 : a2 = 2
        · rw [if_pos hc11] at h
          obtain ⟨hb12, h⟩ := chk_elim h
          have q13 := inb_lt hb12
          cases h
          exact F2
        · rw [if_neg hc11] at h
          by_cases hc14 : a2 = 3
          · rw [if_pos hc14] at h
            obtain ⟨hb15, h⟩ := chk_elim h
            have q16 := inb_lt hb15
            cases h
            exact F2
          · rw [if_neg hc14] at h
            cases h
            exact F2
set_option maxHeartbeats 1000000 in
theorem fr_b_X6_takesRow_9 {fu : Nat} {s0 : Int32 × Int32 × Mem} {o : (Int32 × Int32 × Mem) ⊕ (Mem)} (h : b_X6_takesRow_9 fu s0 = some o) : Fr (w_X6_takesRow) (v_X6_takesRow) ((fun x : Int32 × Int32 × Mem => x.2.2) s0) (Sum.elim (fun x : Int32 × Int32 × Mem => x.2.2) (fun x : Mem => x) o) := by
  obtain ⟨c2, c3, M⟩ := s0
  unfold b_X6_takesRow_9 at h
  replace h := un3_e h
  have F0 : Fr (w_X6_takesRow) (v_X6_takesRow) M M := Fr.rf
  by_cases hc1 : c3 < 0
  · rw [if_pos hc1] at h
    cases h
    exact F0
  · rw [if_neg hc1] at h
    obtain ⟨hb2, h⟩ := chk_elim h
    have q3 := inb_lt hb2
    obtain ⟨M_5, e4, h⟩ := bnd_elim h
    have F5 : Fr (w_X6_takesRow) (v_X6_takesRow) M M_5 := F0.tr (by rw [e4]; exact Fr.wr (by unfold w_X6_takesRow; exact (by omega)))
    obtain ⟨v_7, e6, h⟩ := bnd_elim h
    obtain ⟨v_9, e7, h⟩ := bnd_elim h
    cases h
    exact F5
set_option maxHeartbeats 1000000 in
theorem fr_m_X6_takesRow {fu : Nat} {M : Mem} {a1 : Int32} {M2 : Mem} (h : m_X6_takesRow fu M a1 = some M2) : Fr (w_X6_takesRow) (v_X6_takesRow) M M2 := by
  unfold m_X6_takesRow at h
  have F0 : Fr (w_X6_takesRow) (v_X6_takesRow) M M := Fr.rf
  obtain ⟨v_1, e1, h⟩ := bnd_elim h
  obtain ⟨x2, hr3, h⟩ := bind_elim h
  have F4 := F0.tr (lp_fr (w := (w_X6_takesRow)) (v := (v_X6_takesRow)) (fun x : Int32 × Int32 × Mem => x.2.2) (fun x : Mem => x) (fun s o hq => fr_b_X6_takesRow_9 hq) _ _ _ hr3)
  obtain ⟨M_13, rfl⟩ : ∃ z, z = x2 := ⟨_, rfl⟩
  replace h := un1_e h
  have F5 : Fr (w_X6_takesRow) (v_X6_takesRow) M M_13 := F4
  cases h
  exact F5
set_option maxHeartbeats 1000000 in
theorem fr_m_X6_value {fu : Nat} {M : Mem} {a1 : Int32} {a2 : Int32} {rr : Int32} {M2 : Mem} (h : m_X6_value fu M a1 a2 = some (rr, M2)) : Fr (w_X6_value) (v_X6_value) M M2 := by
  unfold m_X6_value at h
  have F0 : Fr (w_X6_value) (v_X6_value) M M := Fr.rf
  obtain ⟨M_1, e1, h⟩ := bnd_elim h
  have F2 : Fr (w_X6_value) (v_X6_value) M M_1 := F0.tr (by rw [e1]; exact Fr.wr (Or.inl ⟨by omega, by decide⟩))
  obtain ⟨r_4, hr3, h⟩ := bind_elim h
  by_cases hc4 : r_4 = 0
  · rw [if_pos hc4] at h
    cases h
    exact F2
  · rw [if_neg hc4] at h
    obtain ⟨r_7, hr5, h⟩ := bind_elim h
    by_cases hc6 : r_7 = 0
    · rw [if_pos hc6] at h
      cases h
      exact F2
    · rw [if_neg hc6] at h
      obtain ⟨M_10, hr7, h⟩ := bind_elim h
      have F8 : Fr (w_X6_value) (v_X6_value) M M_10 := F2.tr ((fr_m_X6_takesRow hr7).mono (fun k j h => by
          unfold w_X6_takesRow at h
          exact (Or.inr (by omega))) (fun k j h => absurd h id))
      obtain ⟨r_12, hr9, h⟩ := bind_elim h
      cases h
      exact F8
set_option maxHeartbeats 1000000 in
theorem fr_b_X6_replyOf_15 {fu : Nat} {s1 : Int32} {s2 : Int32} {s0 : Int32 × Int32 × Int32 × Mem} {o : (Int32 × Int32 × Int32 × Mem) ⊕ (Int32 × Mem)} (h : b_X6_replyOf_15 fu s1 s2 s0 = some o) : Fr (w_X6_replyOf) (v_X6_replyOf) ((fun x : Int32 × Int32 × Int32 × Mem => x.2.2.2) s0) (Sum.elim (fun x : Int32 × Int32 × Int32 × Mem => x.2.2.2) (fun x : Int32 × Mem => x.2) o) := by
  obtain ⟨c3, c4, c5, M⟩ := s0
  unfold b_X6_replyOf_15 at h
  replace h := un4_e h
  have F0 : Fr (w_X6_replyOf) (v_X6_replyOf) M M := Fr.rf
  by_cases hc1 : 4 ≤ c5
  · rw [if_pos hc1] at h
    cases h
    exact F0
  · rw [if_neg hc1] at h
    obtain ⟨hb2, h⟩ := chk_elim h
    have q3 := inb_lt hb2
    obtain ⟨M_6, e4, h⟩ := bnd_elim h
    have F5 : Fr (w_X6_replyOf) (v_X6_replyOf) M M_6 := F0.tr (by rw [e4]; exact Fr.wr (by unfold w_X6_replyOf; exact (by omega)))
    obtain ⟨r_9, hr6, h⟩ := bind_elim h
    by_cases hc7 : c5 ≤ 0
    · rw [if_pos hc7] at h
      obtain ⟨v_11, e8, h⟩ := bnd_elim h
      cases h
      exact F5
    · rw [if_neg hc7] at h
      by_cases hc9 : c4 < r_9
      · rw [if_pos hc9] at h
        obtain ⟨v_14, e10, h⟩ := bnd_elim h
        cases h
        exact F5
      · rw [if_neg hc9] at h
        obtain ⟨v_16, e11, h⟩ := bnd_elim h
        cases h
        exact F5
set_option maxHeartbeats 1000000 in
theorem fr_m_X6_replyOf {fu : Nat} {M : Mem} {a1 : Int32} {rr : Int32} {M2 : Mem} (h : m_X6_replyOf fu M a1 = some (rr, M2)) : Fr (w_X6_replyOf) (v_X6_replyOf) M M2 := by
  unfold m_X6_replyOf at h
  have F0 : Fr (w_X6_replyOf) (v_X6_replyOf) M M := Fr.rf
  obtain ⟨hb1, h⟩ := chk_elim h
  have q2 := inb_lt hb1
  obtain ⟨v_2, e3, h⟩ := bnd_elim h
  obtain ⟨x4, hr5, h⟩ := bind_elim h
  have F6 := F0.tr (lp_fr (w := (w_X6_replyOf)) (v := (v_X6_replyOf)) (fun x : Int32 × Int32 × Int32 × Mem => x.2.2.2) (fun x : Int32 × Mem => x.2) (fun s o hq => fr_b_X6_replyOf_15 hq) _ _ _ hr5)
  obtain ⟨v_20, M_21⟩ := x4
  replace h := un2_e h
  have F7 : Fr (w_X6_replyOf) (v_X6_replyOf) M M_21 := F6
  obtain ⟨hb8, h⟩ := chk_elim h
  have q9 := inb_lt hb8
  obtain ⟨M_23, e10, h⟩ := bnd_elim h
  have F11 : Fr (w_X6_replyOf) (v_X6_replyOf) M M_23 := F7.tr (by rw [e10]; exact Fr.wr (by unfold w_X6_replyOf; exact (by omega)))
  cases h
  exact F11
set_option maxHeartbeats 1000000 in
theorem fr_m_X6_reply {fu : Nat} {M : Mem} {a1 : Int32} {a2 : Int32} {rr : Int32} {M2 : Mem} (h : m_X6_reply fu M a1 a2 = some (rr, M2)) : Fr (w_X6_reply) (v_X6_reply) M M2 := by
  unfold m_X6_reply at h
  have F0 : Fr (w_X6_reply) (v_X6_reply) M M := Fr.rf
  obtain ⟨M_1, e1, h⟩ := bnd_elim h
  have F2 : Fr (w_X6_reply) (v_X6_reply) M M_1 := F0.tr (by rw [e1]; exact Fr.wr (Or.inl ⟨by omega, by decide⟩))
  obtain ⟨r_4, hr3, h⟩ := bind_elim h
  by_cases hc4 : r_4 = 0
  · rw [if_pos hc4] at h
    cases h
    exact F2
  · rw [if_neg hc4] at h
    obtain ⟨r_7, hr5, h⟩ := bind_elim h
    by_cases hc6 : r_7 = 0
    · rw [if_pos hc6] at h
      cases h
      exact F2
    · rw [if_neg hc6] at h
      obtain ⟨M_10, hr7, h⟩ := bind_elim h
      have F8 : Fr (w_X6_reply) (v_X6_reply) M M_10 := F2.tr ((fr_m_X6_takesRow hr7).mono (fun k j h => by
          unfold w_X6_takesRow at h
          exact (Or.inr (by omega))) (fun k j h => absurd h id))
      obtain ⟨⟨r_12, M_13⟩, hr9, h⟩ := bind_elim h
      replace h := un2_e h
      have F10 : Fr (w_X6_reply) (v_X6_reply) M M_13 := F8.tr ((fr_m_X6_replyOf hr9).mono (fun k j h => by
          unfold w_X6_replyOf at h
          exact (Or.inr (by omega))) (fun k j h => absurd h id))
      cases h
      exact F10
set_option maxHeartbeats 1000000 in
theorem fr_b_X6_isRest_2 {fu : Nat} {s0 : Int32 × Mem} {o : (Int32 × Mem) ⊕ ((Mem) ⊕ (Mem))} (h : b_X6_isRest_2 fu s0 = some o) : Fr (w_X6_isRest) (v_X6_isRest) ((fun x : Int32 × Mem => x.2) s0) (Sum.elim (fun x : Int32 × Mem => x.2) (Sum.elim (fun x : Mem => x) (fun x : Mem => x)) o) := by
  obtain ⟨c1, M⟩ := s0
  unfold b_X6_isRest_2 at h
  replace h := un2_e h
  have F0 : Fr (w_X6_isRest) (v_X6_isRest) M M := Fr.rf
  by_cases hc1 : (rd M 148 2) ≤ c1
  · rw [if_pos hc1] at h
    cases h
    exact F0
  · rw [if_neg hc1] at h
    obtain ⟨r_3, hr2, h⟩ := bind_elim h
    obtain ⟨hb3, h⟩ := chk_elim h
    have q4 := inb_lt hb3
    obtain ⟨v_5, e5, h⟩ := bnd_elim h
    obtain ⟨⟨r_8, M_9⟩, hr6, h⟩ := bind_elim h
    replace h := un2_e h
    have F7 : Fr (w_X6_isRest) (v_X6_isRest) M M_9 := F0.tr ((fr_m_X6_replyOf hr6).mono (fun k j h => by
        unfold w_X6_replyOf at h
        exact (by unfold w_X6_isRest; exact (by omega))) (fun k j h => absurd h id))
    obtain ⟨M_10, e8, h⟩ := bnd_elim h
    have F9 : Fr (w_X6_isRest) (v_X6_isRest) M M_10 := F7.tr (by rw [e8]; exact Fr.wr (by unfold w_X6_isRest; exact (by omega)))
    obtain ⟨r_13, hr10, h⟩ := bind_elim h
    obtain ⟨M_14, e11, h⟩ := bnd_elim h
    have F12 : Fr (w_X6_isRest) (v_X6_isRest) M M_14 := F9.tr (by rw [e11]; exact Fr.wr (by unfold w_X6_isRest; exact (by omega)))
    by_cases hc13 : r_13 ≤ r_3
    · rw [if_pos hc13] at h
      obtain ⟨v_17, e14, h⟩ := bnd_elim h
      cases h
      exact F12
    · rw [if_neg hc13] at h
      cases h
      exact F12
set_option maxHeartbeats 1000000 in
theorem fr_m_X6_isRest {fu : Nat} {M : Mem} {rr : Int32} {M2 : Mem} (h : m_X6_isRest fu M = some (rr, M2)) : Fr (w_X6_isRest) (v_X6_isRest) M M2 := by
  unfold m_X6_isRest at h
  have F0 : Fr (w_X6_isRest) (v_X6_isRest) M M := Fr.rf
  obtain ⟨x1, hr2, h⟩ := bind_elim h
  have F3 := F0.tr (lp_fr (w := (w_X6_isRest)) (v := (v_X6_isRest)) (fun x : Int32 × Mem => x.2) (Sum.elim (fun x : Mem => x) (fun x : Mem => x)) (fun s o hq => fr_b_X6_isRest_2 hq) _ _ _ hr2)
  rcases x1 with y4 | y4
  · replace h := unS_l h
    obtain ⟨M_21, rfl⟩ : ∃ z, z = y4 := ⟨_, rfl⟩
    replace h := un1_e h
    have F5 : Fr (w_X6_isRest) (v_X6_isRest) M M_21 := F3
    cases h
    exact F5
  · replace h := unS_r h
    obtain ⟨M_22, rfl⟩ : ∃ z, z = y4 := ⟨_, rfl⟩
    replace h := un1_e h
    have F6 : Fr (w_X6_isRest) (v_X6_isRest) M M_22 := F3
    cases h
    exact F6
set_option maxHeartbeats 1000000 in
theorem fr_j_X6_rests_139i {fu : Nat} {M : Mem} {s1 : Int32} {s2 : Int32} {s3 : Int32} {s6 : Int32} {s7 : Int32} {s8 : Int32} {o : (Int32 × Int32 × Int32 × Int32 × Int32 × Int32 × Mem) ⊕ (Int32 × Int32 × Int32 × Int32 × Mem)} (h : j_X6_rests_139i fu M s1 s2 s3 s6 s7 s8 = some o) : Fr (w_X6_rests) (v_X6_rests) M ((Sum.elim (fun x : Int32 × Int32 × Int32 × Int32 × Int32 × Int32 × Mem => x.2.2.2.2.2.2) (fun x : Int32 × Int32 × Int32 × Int32 × Mem => x.2.2.2.2)) o) := by
  unfold j_X6_rests_139i at h
  have F0 : Fr (w_X6_rests) (v_X6_rests) M M := Fr.rf
  obtain ⟨r_23, hr1, h⟩ := bind_elim h
  obtain ⟨v_24, e2, h⟩ := bnd_elim h
  cases h
  exact F0
set_option maxHeartbeats 1000000 in
theorem fr_j_X6_rests_121i {fu : Nat} {M : Mem} {s1 : Int32} {s2 : Int32} {s3 : Int32} {s4 : Int32} {s5 : Int32} {s6 : Int32} {s7 : Int32} {s8 : Int32} {o : (Int32 × Int32 × Int32 × Int32 × Int32 × Int32 × Mem) ⊕ (Int32 × Int32 × Int32 × Int32 × Mem)} (h : j_X6_rests_121i fu M s1 s2 s3 s4 s5 s6 s7 s8 = some o) : Fr (w_X6_rests) (v_X6_rests) M ((Sum.elim (fun x : Int32 × Int32 × Int32 × Int32 × Int32 × Int32 × Mem => x.2.2.2.2.2.2) (fun x : Int32 × Int32 × Int32 × Int32 × Mem => x.2.2.2.2)) o) := by
  unfold j_X6_rests_121i at h
  have F0 : Fr (w_X6_rests) (v_X6_rests) M M := Fr.rf
  by_cases hc1 : s4 = (-1)
  · rw [if_pos hc1] at h
    exact F0.tr (fr_j_X6_rests_139i h)
  · rw [if_neg hc1] at h
    obtain ⟨r_27, hr2, h⟩ := bind_elim h
    by_cases hc3 : s5 < r_27
    · rw [if_pos hc3] at h
      exact F0.tr (fr_j_X6_rests_139i h)
    · rw [if_neg hc3] at h
      obtain ⟨v_29, e4, h⟩ := bnd_elim h
      cases h
      exact F0
set_option maxHeartbeats 1000000 in
theorem fr_j_X6_rests_100i {fu : Nat} {M : Mem} {s1 : Int32} {s2 : Int32} {s4 : Int32} {s5 : Int32} {s6 : Int32} {s7 : Int32} {s8 : Int32} {t0 : Int32} {o : (Int32 × Int32 × Int32 × Int32 × Int32 × Int32 × Mem) ⊕ (Int32 × Int32 × Int32 × Int32 × Mem)} (h : j_X6_rests_100i fu M s1 s2 s4 s5 s6 s7 s8 t0 = some o) : Fr (w_X6_rests) (v_X6_rests) M ((Sum.elim (fun x : Int32 × Int32 × Int32 × Int32 × Int32 × Int32 × Mem => x.2.2.2.2.2.2) (fun x : Int32 × Int32 × Int32 × Int32 × Mem => x.2.2.2.2)) o) := by
  unfold j_X6_rests_100i at h
  have F0 : Fr (w_X6_rests) (v_X6_rests) M M := Fr.rf
  obtain ⟨hb1, h⟩ := chk_elim h
  by_cases hc2 : (irem s8 s7) = 0
  · rw [if_pos hc2] at h
    obtain ⟨hb3, h⟩ := chk_elim h
    obtain ⟨v_32, e4, h⟩ := bnd_elim h
    exact F0.tr (fr_j_X6_rests_121i h)
  · rw [if_neg hc2] at h
    exact F0.tr (fr_j_X6_rests_121i h)
set_option maxHeartbeats 1000000 in
theorem fr_b_X6_rests_56 {fu : Nat} {s1 : Int32} {s7 : Int32} {s0 : Int32 × Int32 × Int32 × Int32 × Int32 × Int32 × Mem} {o : (Int32 × Int32 × Int32 × Int32 × Int32 × Int32 × Mem) ⊕ (Int32 × Int32 × Int32 × Int32 × Mem)} (h : b_X6_rests_56 fu s1 s7 s0 = some o) : Fr (w_X6_rests) (v_X6_rests) ((fun x : Int32 × Int32 × Int32 × Int32 × Int32 × Int32 × Mem => x.2.2.2.2.2.2) s0) (Sum.elim (fun x : Int32 × Int32 × Int32 × Int32 × Int32 × Int32 × Mem => x.2.2.2.2.2.2) (fun x : Int32 × Int32 × Int32 × Int32 × Mem => x.2.2.2.2) o) := by
  obtain ⟨c2, c3, c4, c5, c6, c8, M⟩ := s0
  unfold b_X6_rests_56 at h
  replace h := un7_e h
  have F0 : Fr (w_X6_rests) (v_X6_rests) M M := Fr.rf
  by_cases hc1 : (ishl 1 (2 * (rd M 148 2))) ≤ c8
  · rw [if_pos hc1] at h
    cases h
    exact F0
  · rw [if_neg hc1] at h
    obtain ⟨M_11, hr2, h⟩ := bind_elim h
    have F3 : Fr (w_X6_rests) (v_X6_rests) M M_11 := F0.tr ((fr_m_X6_takesRow hr2).mono (fun k j h => by
        unfold w_X6_takesRow at h
        exact (Or.inr (by omega))) (fun k j h => absurd h id))
    obtain ⟨⟨r_13, M_14⟩, hr4, h⟩ := bind_elim h
    replace h := un2_e h
    have F5 : Fr (w_X6_rests) (v_X6_rests) M M_14 := F3.tr ((fr_m_X6_isRest hr4).mono (fun k j h => by
        unfold w_X6_isRest at h
        exact (Or.inr (by omega))) (fun k j h => absurd h id))
    by_cases hc6 : r_13 = 0
    · rw [if_pos hc6] at h
      obtain ⟨v_34, e7, h⟩ := bnd_elim h
      cases h
      exact F5
    · rw [if_neg hc6] at h
      obtain ⟨v_16, e8, h⟩ := bnd_elim h
      by_cases hc9 : c3 = (-1)
      · rw [if_pos hc9] at h
        exact F5.tr (fr_j_X6_rests_100i h)
      · rw [if_neg hc9] at h
        exact F5.tr (fr_j_X6_rests_100i h)
set_option maxHeartbeats 1000000 in
theorem fr_m_X6_rests {fu : Nat} {M : Mem} {a1 : Int32} {rr : Int32} {M2 : Mem} (h : m_X6_rests fu M a1 = some (rr, M2)) : Fr (w_X6_rests) (v_X6_rests) M M2 := by
  unfold m_X6_rests at h
  have F0 : Fr (w_X6_rests) (v_X6_rests) M M := Fr.rf
  obtain ⟨M_1, e1, h⟩ := bnd_elim h
  have F2 : Fr (w_X6_rests) (v_X6_rests) M M_1 := F0.tr (by rw [e1]; exact Fr.wr (Or.inl ⟨by omega, by decide⟩))
  by_cases hc3 : 6 < (rd M_1 148 2)
  · rw [if_pos hc3] at h
    cases h
    exact F2
  · rw [if_neg hc3] at h
    obtain ⟨r_5, hr4, h⟩ := bind_elim h
    by_cases hc5 : r_5 = 0
    · rw [if_pos hc5] at h
      cases h
      exact F2
    · rw [if_neg hc5] at h
      obtain ⟨v_7, e6, h⟩ := bnd_elim h
      obtain ⟨x7, hr8, h⟩ := bind_elim h
      have F9 := F2.tr (lp_fr (w := (w_X6_rests)) (v := (v_X6_rests)) (fun x : Int32 × Int32 × Int32 × Int32 × Int32 × Int32 × Mem => x.2.2.2.2.2.2) (fun x : Int32 × Int32 × Int32 × Int32 × Mem => x.2.2.2.2) (fun s o hq => fr_b_X6_rests_56 hq) _ _ _ hr8)
      obtain ⟨v_38, v_39, v_40, v_41, M_42⟩ := x7
      replace h := un5_e h
      have F10 : Fr (w_X6_rests) (v_X6_rests) M M_42 := F9
      by_cases hc11 : a1 = 0
      · rw [if_pos hc11] at h
        cases h
        exact F10
      · rw [if_neg hc11] at h
        by_cases hc12 : a1 = 1
        · rw [if_pos hc12] at h
          cases h
          exact F10
        · rw [if_neg hc12] at h
          by_cases hc13 : a1 = 2
          · rw [if_pos hc13] at h
            cases h
            exact F10
          · rw [if_neg hc13] at h
            cases h
            exact F10
set_option maxHeartbeats 1000000 in
theorem fr_b_X6_standsStill_2 {fu : Nat} {s1 : Int32} {s0 : Int32 × Mem} {o : (Int32 × Mem) ⊕ (Mem)} (h : b_X6_standsStill_2 fu s1 s0 = some o) : Fr (w_X6_standsStill) (v_X6_standsStill) ((fun x : Int32 × Mem => x.2) s0) (Sum.elim (fun x : Int32 × Mem => x.2) (fun x : Mem => x) o) := by
  obtain ⟨c2, M⟩ := s0
  unfold b_X6_standsStill_2 at h
  replace h := un2_e h
  have F0 : Fr (w_X6_standsStill) (v_X6_standsStill) M M := Fr.rf
  by_cases hc1 : (rd M 148 2) ≤ c2
  · rw [if_pos hc1] at h
    cases h
    exact F0
  · rw [if_neg hc1] at h
    obtain ⟨hb2, h⟩ := chk_elim h
    have q3 := inb_lt hb2
    obtain ⟨M_3, e4, h⟩ := bnd_elim h
    have F5 : Fr (w_X6_standsStill) (v_X6_standsStill) M M_3 := F0.tr (by rw [e4]; exact Fr.wr (by unfold w_X6_standsStill; exact (by omega)))
    obtain ⟨v_5, e6, h⟩ := bnd_elim h
    cases h
    exact F5
set_option maxHeartbeats 1000000 in
theorem fr_j_X6_standsStill_87i {fu : Nat} {M : Mem} {s2 : Int32} {s3 : Int32} {s4 : Int32} {t0 : Int32} {o : (Int32 × Mem) ⊕ ((Mem) ⊕ (Mem))} (h : j_X6_standsStill_87i fu M s2 s3 s4 t0 = some o) : Fr (w_X6_standsStill) (v_X6_standsStill) M ((Sum.elim (fun x : Int32 × Mem => x.2) (Sum.elim (fun x : Mem => x) (fun x : Mem => x))) o) := by
  unfold j_X6_standsStill_87i at h
  have F0 : Fr (w_X6_standsStill) (v_X6_standsStill) M M := Fr.rf
  obtain ⟨hb1, h⟩ := chk_elim h
  have q2 := inb_lt hb1
  obtain ⟨M_23, e3, h⟩ := bnd_elim h
  have F4 : Fr (w_X6_standsStill) (v_X6_standsStill) M M_23 := F0.tr (by rw [e3]; exact Fr.wr (by unfold w_X6_standsStill; exact (by omega)))
  by_cases hc5 : t0 = 0
  · rw [if_pos hc5] at h
    obtain ⟨v_26, e6, h⟩ := bnd_elim h
    cases h
    exact F4
  · rw [if_neg hc5] at h
    cases h
    exact F4
set_option maxHeartbeats 1000000 in
theorem fr_b_X6_standsStill_59 {fu : Nat} {s2 : Int32} {s3 : Int32} {s0 : Int32 × Mem} {o : (Int32 × Mem) ⊕ ((Mem) ⊕ (Mem))} (h : b_X6_standsStill_59 fu s2 s3 s0 = some o) : Fr (w_X6_standsStill) (v_X6_standsStill) ((fun x : Int32 × Mem => x.2) s0) (Sum.elim (fun x : Int32 × Mem => x.2) (Sum.elim (fun x : Mem => x) (fun x : Mem => x)) o) := by
  obtain ⟨c4, M⟩ := s0
  unfold b_X6_standsStill_59 at h
  replace h := un2_e h
  have F0 : Fr (w_X6_standsStill) (v_X6_standsStill) M M := Fr.rf
  by_cases hc1 : 3 < c4
  · rw [if_pos hc1] at h
    cases h
    exact F0
  · rw [if_neg hc1] at h
    obtain ⟨hb2, h⟩ := chk_elim h
    have q3 := inb_lt hb2
    obtain ⟨M_17, e4, h⟩ := bnd_elim h
    have F5 : Fr (w_X6_standsStill) (v_X6_standsStill) M M_17 := F0.tr (by rw [e4]; exact Fr.wr (by unfold w_X6_standsStill; exact (by omega)))
    obtain ⟨r_20, hr6, h⟩ := bind_elim h
    by_cases hc7 : r_20 ≤ s3
    · rw [if_pos hc7] at h
      exact F5.tr (fr_j_X6_standsStill_87i h)
    · rw [if_neg hc7] at h
      exact F5.tr (fr_j_X6_standsStill_87i h)
set_option maxHeartbeats 1000000 in
theorem fr_b_X6_standsStill_29 {fu : Nat} {s0 : Int32 × Mem} {o : (Int32 × Mem) ⊕ ((Mem) ⊕ (Mem))} (h : b_X6_standsStill_29 fu s0 = some o) : Fr (w_X6_standsStill) (v_X6_standsStill) ((fun x : Int32 × Mem => x.2) s0) (Sum.elim (fun x : Int32 × Mem => x.2) (Sum.elim (fun x : Mem => x) (fun x : Mem => x)) o) := by
  obtain ⟨c2, M⟩ := s0
  unfold b_X6_standsStill_29 at h
  replace h := un2_e h
  have F0 : Fr (w_X6_standsStill) (v_X6_standsStill) M M := Fr.rf
  by_cases hc1 : (rd M 148 2) ≤ c2
  · rw [if_pos hc1] at h
    cases h
    exact F0
  · rw [if_neg hc1] at h
    obtain ⟨hb2, h⟩ := chk_elim h
    have q3 := inb_lt hb2
    by_cases hc4 : (rd M 176 (ix c2)) = 1
    · rw [if_pos hc4] at h
      obtain ⟨v_34, e5, h⟩ := bnd_elim h
      cases h
      exact F0
    · rw [if_neg hc4] at h
      obtain ⟨r_14, hr6, h⟩ := bind_elim h
      obtain ⟨x7, hr8, h⟩ := bind_elim h
      have F9 := F0.tr (lp_fr (w := (w_X6_standsStill)) (v := (v_X6_standsStill)) (fun x : Int32 × Mem => x.2) (Sum.elim (fun x : Mem => x) (fun x : Mem => x)) (fun s o hq => fr_b_X6_standsStill_59 hq) _ _ _ hr8)
      rcases x7 with y10 | y10
      · replace h := unS_l h
        obtain ⟨M_30, rfl⟩ : ∃ z, z = y10 := ⟨_, rfl⟩
        replace h := un1_e h
        have F11 : Fr (w_X6_standsStill) (v_X6_standsStill) M M_30 := F9
        cases h
        exact F11
      · replace h := unS_r h
        obtain ⟨M_31, rfl⟩ : ∃ z, z = y10 := ⟨_, rfl⟩
        replace h := un1_e h
        have F12 : Fr (w_X6_standsStill) (v_X6_standsStill) M M_31 := F9
        obtain ⟨v_32, e13, h⟩ := bnd_elim h
        cases h
        exact F12
set_option maxHeartbeats 1000000 in
theorem fr_m_X6_standsStill {fu : Nat} {M : Mem} {a1 : Int32} {rr : Int32} {M2 : Mem} (h : m_X6_standsStill fu M a1 = some (rr, M2)) : Fr (w_X6_standsStill) (v_X6_standsStill) M M2 := by
  unfold m_X6_standsStill at h
  have F0 : Fr (w_X6_standsStill) (v_X6_standsStill) M M := Fr.rf
  obtain ⟨x1, hr2, h⟩ := bind_elim h
  have F3 := F0.tr (lp_fr (w := (w_X6_standsStill)) (v := (v_X6_standsStill)) (fun x : Int32 × Mem => x.2) (fun x : Mem => x) (fun s o hq => fr_b_X6_standsStill_2 hq) _ _ _ hr2)
  obtain ⟨M_9, rfl⟩ : ∃ z, z = x1 := ⟨_, rfl⟩
  replace h := un1_e h
  have F4 : Fr (w_X6_standsStill) (v_X6_standsStill) M M_9 := F3
  obtain ⟨x5, hr6, h⟩ := bind_elim h
  have F7 := F4.tr (lp_fr (w := (w_X6_standsStill)) (v := (v_X6_standsStill)) (fun x : Int32 × Mem => x.2) (Sum.elim (fun x : Mem => x) (fun x : Mem => x)) (fun s o hq => fr_b_X6_standsStill_29 hq) _ _ _ hr6)
  rcases x5 with y8 | y8
  · replace h := unS_l h
    obtain ⟨M_38, rfl⟩ : ∃ z, z = y8 := ⟨_, rfl⟩
    replace h := un1_e h
    have F9 : Fr (w_X6_standsStill) (v_X6_standsStill) M M_38 := F7
    cases h
    exact F9
  · replace h := unS_r h
    obtain ⟨M_39, rfl⟩ : ∃ z, z = y8 := ⟨_, rfl⟩
    replace h := un1_e h
    have F10 : Fr (w_X6_standsStill) (v_X6_standsStill) M M_39 := F7
    cases h
    exact F10
set_option maxHeartbeats 1000000 in
theorem fr_j_X6_stillSet_32i {fu : Nat} {M : Mem} {s1 : Int32} {s2 : Int32} {o : (Int32 × Int32 × Mem) ⊕ (Int32 × Mem)} (h : j_X6_stillSet_32i fu M s1 s2 = some o) : Fr (w_X6_stillSet) (v_X6_stillSet) M ((Sum.elim (fun x : Int32 × Int32 × Mem => x.2.2) (fun x : Int32 × Mem => x.2)) o) := by
  unfold j_X6_stillSet_32i at h
  have F0 : Fr (w_X6_stillSet) (v_X6_stillSet) M M := Fr.rf
  obtain ⟨⟨r_4, M_5⟩, hr1, h⟩ := bind_elim h
  replace h := un2_e h
  have F2 : Fr (w_X6_stillSet) (v_X6_stillSet) M M_5 := F0.tr ((fr_m_X6_standsStill hr1).mono (fun k j h => by
      unfold w_X6_standsStill at h
      exact (by unfold w_X6_stillSet; exact (by omega))) (fun k j h => absurd h id))
  by_cases hc3 : r_4 = 0
  · rw [if_pos hc3] at h
    obtain ⟨v_7, e4, h⟩ := bnd_elim h
    cases h
    exact F2
  · rw [if_neg hc3] at h
    obtain ⟨v_9, e5, h⟩ := bnd_elim h
    cases h
    exact F2
set_option maxHeartbeats 1000000 in
theorem fr_b_X6_stillSet_4 {fu : Nat} {s0 : Int32 × Int32 × Mem} {o : (Int32 × Int32 × Mem) ⊕ (Int32 × Mem)} (h : b_X6_stillSet_4 fu s0 = some o) : Fr (w_X6_stillSet) (v_X6_stillSet) ((fun x : Int32 × Int32 × Mem => x.2.2) s0) (Sum.elim (fun x : Int32 × Int32 × Mem => x.2.2) (fun x : Int32 × Mem => x.2) o) := by
  obtain ⟨c1, c2, M⟩ := s0
  unfold b_X6_stillSet_4 at h
  replace h := un3_e h
  have F0 : Fr (w_X6_stillSet) (v_X6_stillSet) M M := Fr.rf
  by_cases hc1 : (ishl 1 (rd M 148 2)) ≤ c2
  · rw [if_pos hc1] at h
    cases h
    exact F0
  · rw [if_neg hc1] at h
    by_cases hc2 : c1 = (-1)
    · rw [if_pos hc2] at h
      exact F0.tr (fr_j_X6_stillSet_32i h)
    · rw [if_neg hc2] at h
      obtain ⟨r_12, hr3, h⟩ := bind_elim h
      obtain ⟨r_14, hr4, h⟩ := bind_elim h
      by_cases hc5 : r_14 ≤ r_12
      · rw [if_pos hc5] at h
        obtain ⟨v_16, e6, h⟩ := bnd_elim h
        cases h
        exact F0
      · rw [if_neg hc5] at h
        exact F0.tr (fr_j_X6_stillSet_32i h)
set_option maxHeartbeats 1000000 in
theorem fr_m_X6_stillSet {fu : Nat} {M : Mem} {rr : Int32} {M2 : Mem} (h : m_X6_stillSet fu M = some (rr, M2)) : Fr (w_X6_stillSet) (v_X6_stillSet) M M2 := by
  unfold m_X6_stillSet at h
  have F0 : Fr (w_X6_stillSet) (v_X6_stillSet) M M := Fr.rf
  obtain ⟨x1, hr2, h⟩ := bind_elim h
  have F3 := F0.tr (lp_fr (w := (w_X6_stillSet)) (v := (v_X6_stillSet)) (fun x : Int32 × Int32 × Mem => x.2.2) (fun x : Int32 × Mem => x.2) (fun s o hq => fr_b_X6_stillSet_4 hq) _ _ _ hr2)
  obtain ⟨v_20, M_21⟩ := x1
  replace h := un2_e h
  have F4 : Fr (w_X6_stillSet) (v_X6_stillSet) M M_21 := F3
  cases h
  exact F4
set_option maxHeartbeats 1000000 in
theorem fr_m_X6_still {fu : Nat} {M : Mem} {rr : Int32} {M2 : Mem} (h : m_X6_still fu M = some (rr, M2)) : Fr (w_X6_still) (v_X6_still) M M2 := by
  unfold m_X6_still at h
  have F0 : Fr (w_X6_still) (v_X6_still) M M := Fr.rf
  obtain ⟨M_1, e1, h⟩ := bnd_elim h
  have F2 : Fr (w_X6_still) (v_X6_still) M M_1 := F0.tr (by rw [e1]; exact Fr.wr (Or.inl ⟨by omega, by decide⟩))
  obtain ⟨⟨r_4, M_5⟩, hr3, h⟩ := bind_elim h
  replace h := un2_e h
  have F4 : Fr (w_X6_still) (v_X6_still) M M_5 := F2.tr ((fr_m_X6_stillSet hr3).mono (fun k j h => by
      unfold w_X6_stillSet at h
      exact (Or.inr (by omega))) (fun k j h => absurd h id))
  cases h
  exact F4
set_option maxHeartbeats 1000000 in
theorem fr_b_X6_walls_103 {fu : Nat} {s1 : Int32} {s2 : Int32} {s3 : Int32} {s4 : Int32} {s5 : Int32} {s6 : Int32} {s0 : Int32 × Mem} {o : (Int32 × Mem) ⊕ (Mem)} (h : b_X6_walls_103 fu s1 s2 s3 s4 s5 s6 s0 = some o) : Fr (w_X6_walls) (v_X6_walls) ((fun x : Int32 × Mem => x.2) s0) (Sum.elim (fun x : Int32 × Mem => x.2) (fun x : Mem => x) o) := by
  obtain ⟨c7, M⟩ := s0
  unfold b_X6_walls_103 at h
  replace h := un2_e h
  have F0 : Fr (w_X6_walls) (v_X6_walls) M M := Fr.rf
  by_cases hc1 : (rd M 148 2) ≤ c7
  · rw [if_pos hc1] at h
    cases h
    exact F0
  · rw [if_neg hc1] at h
    obtain ⟨hb2, h⟩ := chk_elim h
    have q3 := inb_lt hb2
    obtain ⟨M_27, e4, h⟩ := bnd_elim h
    have F5 : Fr (w_X6_walls) (v_X6_walls) M M_27 := F0.tr (by rw [e4]; exact Fr.wr (Or.inr (Or.inl (by omega))))
    obtain ⟨v_29, e6, h⟩ := bnd_elim h
    cases h
    exact F5
set_option maxHeartbeats 1000000 in
theorem fr_j_X6_walls_157i {fu : Nat} {M : Mem} {s1 : Int32} {s2 : Int32} {s3 : Int32} {s4 : Int32} {s5 : Int32} {s6 : Int32} {t0 : Int32} {o : (Int32 × Int32 × Int32 × Mem) ⊕ (Int32 × Int32 × Mem)} (h : j_X6_walls_157i fu M s1 s2 s3 s4 s5 s6 t0 = some o) : Fr (w_X6_walls) (v_X6_walls) M ((Sum.elim (fun x : Int32 × Int32 × Int32 × Mem => x.2.2.2) (fun x : Int32 × Int32 × Mem => x.2.2)) o) := by
  unfold j_X6_walls_157i at h
  have F0 : Fr (w_X6_walls) (v_X6_walls) M M := Fr.rf
  by_cases hc1 : s4 = (-1)
  · rw [if_pos hc1] at h
    obtain ⟨v_41, e2, h⟩ := bnd_elim h
    cases h
    exact F0
  · rw [if_neg hc1] at h
    by_cases hc3 : s5 < t0
    · rw [if_pos hc3] at h
      obtain ⟨v_44, e4, h⟩ := bnd_elim h
      cases h
      exact F0
    · rw [if_neg hc3] at h
      by_cases hc5 : t0 = s5
      · rw [if_pos hc5] at h
        obtain ⟨r_50, hr6, h⟩ := bind_elim h
        obtain ⟨r_52, hr7, h⟩ := bind_elim h
        by_cases hc8 : r_50 < r_52
        · rw [if_pos hc8] at h
          obtain ⟨v_54, e9, h⟩ := bnd_elim h
          cases h
          exact F0
        · rw [if_neg hc8] at h
          obtain ⟨v_56, e10, h⟩ := bnd_elim h
          cases h
          exact F0
      · rw [if_neg hc5] at h
        obtain ⟨v_47, e11, h⟩ := bnd_elim h
        cases h
        exact F0
set_option maxHeartbeats 1000000 in
theorem fr_b_X6_walls_69 {fu : Nat} {s1 : Int32} {s2 : Int32} {s3 : Int32} {s0 : Int32 × Int32 × Int32 × Mem} {o : (Int32 × Int32 × Int32 × Mem) ⊕ (Int32 × Int32 × Mem)} (h : b_X6_walls_69 fu s1 s2 s3 s0 = some o) : Fr (w_X6_walls) (v_X6_walls) ((fun x : Int32 × Int32 × Int32 × Mem => x.2.2.2) s0) (Sum.elim (fun x : Int32 × Int32 × Int32 × Mem => x.2.2.2) (fun x : Int32 × Int32 × Mem => x.2.2) o) := by
  obtain ⟨c4, c5, c6, M⟩ := s0
  unfold b_X6_walls_69 at h
  replace h := un4_e h
  have F0 : Fr (w_X6_walls) (v_X6_walls) M M := Fr.rf
  by_cases hc1 : (ishl 1 (rd M 148 2)) ≤ c6
  · rw [if_pos hc1] at h
    cases h
    exact F0
  · rw [if_neg hc1] at h
    obtain ⟨r_20, hr2, h⟩ := bind_elim h
    by_cases hc3 : s1 < r_20
    · rw [if_pos hc3] at h
      obtain ⟨v_22, e4, h⟩ := bnd_elim h
      cases h
      exact F0
    · rw [if_neg hc3] at h
      by_cases hc5 : (c6 &&& s3) = 0
      · rw [if_pos hc5] at h
        obtain ⟨x6, hr7, h⟩ := bind_elim h
        have F8 := F0.tr (lp_fr (w := (w_X6_walls)) (v := (v_X6_walls)) (fun x : Int32 × Mem => x.2) (fun x : Mem => x) (fun s o hq => fr_b_X6_walls_103 hq) _ _ _ hr7)
        obtain ⟨M_33, rfl⟩ : ∃ z, z = x6 := ⟨_, rfl⟩
        replace h := un1_e h
        have F9 : Fr (w_X6_walls) (v_X6_walls) M M_33 := F8
        obtain ⟨⟨r_35, M_36⟩, hr10, h⟩ := bind_elim h
        replace h := un2_e h
        have F11 : Fr (w_X6_walls) (v_X6_walls) M M_36 := F9.tr ((fr_m_X6_stillSet hr10).mono (fun k j h => by
            unfold w_X6_stillSet at h
            exact (Or.inr (Or.inr (by omega)))) (fun k j h => absurd h id))
        by_cases hc12 : r_35 = (-1)
        · rw [if_pos hc12] at h
          exact F11.tr (fr_j_X6_walls_157i h)
        · rw [if_neg hc12] at h
          obtain ⟨r_39, hr13, h⟩ := bind_elim h
          exact F11.tr (fr_j_X6_walls_157i h)
      · rw [if_neg hc5] at h
        obtain ⟨v_58, e14, h⟩ := bnd_elim h
        cases h
        exact F0
set_option maxHeartbeats 1000000 in
theorem fr_b_X6_walls_214 {fu : Nat} {s2 : Int32} {s3 : Int32} {s4 : Int32} {s5 : Int32} {s0 : Int32 × Mem} {o : (Int32 × Mem) ⊕ (Mem)} (h : b_X6_walls_214 fu s2 s3 s4 s5 s0 = some o) : Fr (w_X6_walls) (v_X6_walls) ((fun x : Int32 × Mem => x.2) s0) (Sum.elim (fun x : Int32 × Mem => x.2) (fun x : Mem => x) o) := by
  obtain ⟨c6, M⟩ := s0
  unfold b_X6_walls_214 at h
  replace h := un2_e h
  have F0 : Fr (w_X6_walls) (v_X6_walls) M M := Fr.rf
  by_cases hc1 : (rd M 148 2) ≤ c6
  · rw [if_pos hc1] at h
    cases h
    exact F0
  · rw [if_neg hc1] at h
    obtain ⟨hb2, h⟩ := chk_elim h
    have q3 := inb_lt hb2
    obtain ⟨M_67, e4, h⟩ := bnd_elim h
    have F5 : Fr (w_X6_walls) (v_X6_walls) M M_67 := F0.tr (by rw [e4]; exact Fr.wr (Or.inr (Or.inl (by omega))))
    obtain ⟨v_69, e6, h⟩ := bnd_elim h
    cases h
    exact F5
set_option maxHeartbeats 1000000 in
theorem fr_m_X6_walls {fu : Nat} {M : Mem} {a1 : Int32} {a2 : Int32} {rr : Int32} {M2 : Mem} (h : m_X6_walls fu M a1 a2 = some (rr, M2)) : Fr (w_X6_walls) (v_X6_walls) M M2 := by
  unfold m_X6_walls at h
  have F0 : Fr (w_X6_walls) (v_X6_walls) M M := Fr.rf
  obtain ⟨M_1, e1, h⟩ := bnd_elim h
  have F2 : Fr (w_X6_walls) (v_X6_walls) M M_1 := F0.tr (by rw [e1]; exact Fr.wr (Or.inl ⟨by omega, by decide⟩))
  obtain ⟨r_4, hr3, h⟩ := bind_elim h
  by_cases hc4 : r_4 = 0
  · rw [if_pos hc4] at h
    cases h
    exact F2
  · rw [if_neg hc4] at h
    obtain ⟨r_7, hr5, h⟩ := bind_elim h
    by_cases hc6 : r_7 = 0
    · rw [if_pos hc6] at h
      cases h
      exact F2
    · rw [if_neg hc6] at h
      obtain ⟨x7, hr8, h⟩ := bind_elim h
      obtain ⟨v_17, rfl⟩ : ∃ z, z = x7 := ⟨_, rfl⟩
      replace h := un1_e h
      obtain ⟨x9, hr10, h⟩ := bind_elim h
      have F11 := F2.tr (lp_fr (w := (w_X6_walls)) (v := (v_X6_walls)) (fun x : Int32 × Int32 × Int32 × Mem => x.2.2.2) (fun x : Int32 × Int32 × Mem => x.2.2) (fun s o hq => fr_b_X6_walls_69 hq) _ _ _ hr10)
      obtain ⟨v_62, v_63, M_64⟩ := x9
      replace h := un3_e h
      have F12 : Fr (w_X6_walls) (v_X6_walls) M M_64 := F11
      obtain ⟨x13, hr14, h⟩ := bind_elim h
      have F15 := F12.tr (lp_fr (w := (w_X6_walls)) (v := (v_X6_walls)) (fun x : Int32 × Mem => x.2) (fun x : Mem => x) (fun s o hq => fr_b_X6_walls_214 hq) _ _ _ hr14)
      obtain ⟨M_73, rfl⟩ : ∃ z, z = x13 := ⟨_, rfl⟩
      replace h := un1_e h
      have F16 : Fr (w_X6_walls) (v_X6_walls) M M_73 := F15
      by_cases hc17 : a2 = 0
      · rw [if_pos hc17] at h
        cases h
        exact F16
      · rw [if_neg hc17] at h
        cases h
        exact F16
set_option maxHeartbeats 1000000 in
theorem fr_b_X6_pactValue_3 {fu : Nat} {s1 : Int32} {s2 : Int32} {s3 : Int32} {s0 : Int32 × Mem} {o : (Int32 × Mem) ⊕ (Mem)} (h : b_X6_pactValue_3 fu s1 s2 s3 s0 = some o) : Fr (w_X6_pactValue) (v_X6_pactValue) ((fun x : Int32 × Mem => x.2) s0) (Sum.elim (fun x : Int32 × Mem => x.2) (fun x : Mem => x) o) := by
  obtain ⟨c4, M⟩ := s0
  unfold b_X6_pactValue_3 at h
  replace h := un2_e h
  have F0 : Fr (w_X6_pactValue) (v_X6_pactValue) M M := Fr.rf
  by_cases hc1 : (rd M 148 2) ≤ c4
  · rw [if_pos hc1] at h
    cases h
    exact F0
  · rw [if_neg hc1] at h
    obtain ⟨hb2, h⟩ := chk_elim h
    have q3 := inb_lt hb2
    obtain ⟨M_3, e4, h⟩ := bnd_elim h
    have F5 : Fr (w_X6_pactValue) (v_X6_pactValue) M M_3 := F0.tr (by rw [e4]; exact Fr.wr (by unfold w_X6_pactValue; exact (by omega)))
    obtain ⟨v_5, e6, h⟩ := bnd_elim h
    cases h
    exact F5
set_option maxHeartbeats 1000000 in
theorem fr_m_X6_pactValue {fu : Nat} {M : Mem} {a1 : Int32} {a2 : Int32} {a3 : Int32} {rr : Int32} {M2 : Mem} (h : m_X6_pactValue fu M a1 a2 a3 = some (rr, M2)) : Fr (w_X6_pactValue) (v_X6_pactValue) M M2 := by
  unfold m_X6_pactValue at h
  have F0 : Fr (w_X6_pactValue) (v_X6_pactValue) M M := Fr.rf
  obtain ⟨x1, hr2, h⟩ := bind_elim h
  have F3 := F0.tr (lp_fr (w := (w_X6_pactValue)) (v := (v_X6_pactValue)) (fun x : Int32 × Mem => x.2) (fun x : Mem => x) (fun s o hq => fr_b_X6_pactValue_3 hq) _ _ _ hr2)
  obtain ⟨M_9, rfl⟩ : ∃ z, z = x1 := ⟨_, rfl⟩
  replace h := un1_e h
  have F4 : Fr (w_X6_pactValue) (v_X6_pactValue) M M_9 := F3
  obtain ⟨r_11, hr5, h⟩ := bind_elim h
  obtain ⟨hb6, h⟩ := chk_elim h
  have q7 := inb_lt hb6
  obtain ⟨M_13, e8, h⟩ := bnd_elim h
  have F9 : Fr (w_X6_pactValue) (v_X6_pactValue) M M_13 := F4.tr (by rw [e8]; exact Fr.wr (by unfold w_X6_pactValue; exact (by omega)))
  obtain ⟨hb10, h⟩ := chk_elim h
  have q11 := inb_lt hb10
  obtain ⟨M_16, e12, h⟩ := bnd_elim h
  have F13 : Fr (w_X6_pactValue) (v_X6_pactValue) M M_16 := F9.tr (by rw [e12]; exact Fr.wr (by unfold w_X6_pactValue; exact (by omega)))
  obtain ⟨r_19, hr14, h⟩ := bind_elim h
  cases h
  exact F13
set_option maxHeartbeats 1000000 in
theorem fr_m_X6_holds {fu : Nat} {M : Mem} {a1 : Int32} {a2 : Int32} {rr : Int32} {M2 : Mem} (h : m_X6_holds fu M a1 a2 = some (rr, M2)) : Fr (w_X6_holds) (v_X6_holds) M M2 := by
  unfold m_X6_holds at h
  have F0 : Fr (w_X6_holds) (v_X6_holds) M M := Fr.rf
  obtain ⟨⟨r_2, M_3⟩, hr1, h⟩ := bind_elim h
  replace h := un2_e h
  have F2 : Fr (w_X6_holds) (v_X6_holds) M M_3 := F0.tr ((fr_m_X6_pactValue hr1).mono (fun k j h => by
      unfold w_X6_pactValue at h
      exact (by unfold w_X6_holds; exact (by omega))) (fun k j h => absurd h id))
  obtain ⟨⟨r_5, M_6⟩, hr3, h⟩ := bind_elim h
  replace h := un2_e h
  have F4 : Fr (w_X6_holds) (v_X6_holds) M M_6 := F2.tr ((fr_m_X6_pactValue hr3).mono (fun k j h => by
      unfold w_X6_pactValue at h
      exact (by unfold w_X6_holds; exact (by omega))) (fun k j h => absurd h id))
  obtain ⟨v_7, e5, h⟩ := bnd_elim h
  obtain ⟨⟨r_10, M_11⟩, hr6, h⟩ := bind_elim h
  replace h := un2_e h
  have F7 : Fr (w_X6_holds) (v_X6_holds) M M_11 := F4.tr ((fr_m_X6_pactValue hr6).mono (fun k j h => by
      unfold w_X6_pactValue at h
      exact (by unfold w_X6_holds; exact (by omega))) (fun k j h => absurd h id))
  obtain ⟨v_12, e8, h⟩ := bnd_elim h
  by_cases hc9 : 0 < (lg_cmp (v_7 * ((1000 - a2).toInt64)) (v_12 * a2.toInt64))
  · rw [if_pos hc9] at h
    cases h
    exact F7
  · rw [if_neg hc9] at h
    cases h
    exact F7
set_option maxHeartbeats 1000000 in
theorem fr_b_X6_pact_49 {fu : Nat} {s1 : Int32} {s0 : Int32 × Mem} {o : (Int32 × Mem) ⊕ ((Int32 × Mem) ⊕ (Mem))} (h : b_X6_pact_49 fu s1 s0 = some o) : Fr (w_X6_pact) (v_X6_pact) ((fun x : Int32 × Mem => x.2) s0) (Sum.elim (fun x : Int32 × Mem => x.2) (Sum.elim (fun x : Int32 × Mem => x.2) (fun x : Mem => x)) o) := by
  obtain ⟨c3, M⟩ := s0
  unfold b_X6_pact_49 at h
  replace h := un2_e h
  have F0 : Fr (w_X6_pact) (v_X6_pact) M M := Fr.rf
  by_cases hc1 : 1000 ≤ c3
  · rw [if_pos hc1] at h
    cases h
    exact F0
  · rw [if_neg hc1] at h
    obtain ⟨⟨r_12, M_13⟩, hr2, h⟩ := bind_elim h
    replace h := un2_e h
    have F3 : Fr (w_X6_pact) (v_X6_pact) M M_13 := F0.tr ((fr_m_X6_holds hr2).mono (fun k j h => by
        unfold w_X6_holds at h
        exact (Or.inr (by omega))) (fun k j h => absurd h id))
    by_cases hc4 : r_12 = 0
    · rw [if_pos hc4] at h
      obtain ⟨v_15, e5, h⟩ := bnd_elim h
      cases h
      exact F3
    · rw [if_neg hc4] at h
      cases h
      exact F3
set_option maxHeartbeats 1000000 in
theorem fr_m_X6_pact {fu : Nat} {M : Mem} {a1 : Int32} {a2 : Int32} {rr : Int32} {M2 : Mem} (h : m_X6_pact fu M a1 a2 = some (rr, M2)) : Fr (w_X6_pact) (v_X6_pact) M M2 := by
  unfold m_X6_pact at h
  have F0 : Fr (w_X6_pact) (v_X6_pact) M M := Fr.rf
  obtain ⟨M_1, e1, h⟩ := bnd_elim h
  have F2 : Fr (w_X6_pact) (v_X6_pact) M M_1 := F0.tr (by rw [e1]; exact Fr.wr (Or.inl ⟨by omega, by decide⟩))
  obtain ⟨r_4, hr3, h⟩ := bind_elim h
  by_cases hc4 : r_4 = 0
  · rw [if_pos hc4] at h
    cases h
    exact F2
  · rw [if_neg hc4] at h
    obtain ⟨r_7, hr5, h⟩ := bind_elim h
    by_cases hc6 : r_7 = 0
    · rw [if_pos hc6] at h
      cases h
      exact F2
    · rw [if_neg hc6] at h
      by_cases hc7 : a2 = (-1)
      · rw [if_pos hc7] at h
        obtain ⟨x8, hr9, h⟩ := bind_elim h
        have F10 := F2.tr (lp_fr (w := (w_X6_pact)) (v := (v_X6_pact)) (fun x : Int32 × Mem => x.2) (Sum.elim (fun x : Int32 × Mem => x.2) (fun x : Mem => x)) (fun s o hq => fr_b_X6_pact_49 hq) _ _ _ hr9)
        rcases x8 with y11 | y11
        · replace h := unS_l h
          obtain ⟨v_19, M_20⟩ := y11
          replace h := un2_e h
          have F12 : Fr (w_X6_pact) (v_X6_pact) M M_20 := F10
          cases h
          exact F12
        · replace h := unS_r h
          obtain ⟨M_21, rfl⟩ : ∃ z, z = y11 := ⟨_, rfl⟩
          replace h := un1_e h
          have F13 : Fr (w_X6_pact) (v_X6_pact) M M_21 := F10
          cases h
          exact F13
      · rw [if_neg hc7] at h
        obtain ⟨⟨r_23, M_24⟩, hr14, h⟩ := bind_elim h
        replace h := un2_e h
        have F15 : Fr (w_X6_pact) (v_X6_pact) M M_24 := F2.tr ((fr_m_X6_holds hr14).mono (fun k j h => by
            unfold w_X6_holds at h
            exact (Or.inr (by omega))) (fun k j h => absurd h id))
        by_cases hc16 : r_23 = 0
        · rw [if_pos hc16] at h
          cases h
          exact F15
        · rw [if_neg hc16] at h
          cases h
          exact F15
set_option maxHeartbeats 1000000 in
theorem fr_j_X6_findsTwo_174i {fu : Nat} {M : Mem} {s1 : Int32} {s2 : Int32} {s3 : Int32} {s4 : Int32} {s5 : Int32} {s9 : Int64} {o : (Int32 × Mem) ⊕ (Mem)} (h : j_X6_findsTwo_174i fu M s1 s2 s3 s4 s5 s9 = some o) : Fr (w_X6_findsTwo) (v_X6_findsTwo) M ((Sum.elim (fun x : Int32 × Mem => x.2) (fun x : Mem => x)) o) := by
  unfold j_X6_findsTwo_174i at h
  have F0 : Fr (w_X6_findsTwo) (v_X6_findsTwo) M M := Fr.rf
  obtain ⟨hb1, h⟩ := chk_elim h
  have q2 := inb_lt hb1
  obtain ⟨M_29, e3, h⟩ := bnd_elim h
  have F4 : Fr (w_X6_findsTwo) (v_X6_findsTwo) M M_29 := F0.tr (by rw [e3]; exact Fr.wrl (by unfold v_X6_findsTwo; exact (by omega)))
  obtain ⟨M_31, e5, h⟩ := bnd_elim h
  have F6 : Fr (w_X6_findsTwo) (v_X6_findsTwo) M M_31 := F4.tr (by rw [e5]; exact Fr.wr (Or.inr (Or.inr (Or.inr (Or.inr (Or.inr (by omega)))))))
  obtain ⟨v_33, e7, h⟩ := bnd_elim h
  cases h
  exact F6
set_option maxHeartbeats 1000000 in
theorem fr_j_X6_findsTwo_119i {fu : Nat} {M : Mem} {s1 : Int32} {s2 : Int32} {s3 : Int32} {s4 : Int32} {s5 : Int32} {s7 : Int32} {t0 : Int32} {o : (Int32 × Mem) ⊕ (Mem)} (h : j_X6_findsTwo_119i fu M s1 s2 s3 s4 s5 s7 t0 = some o) : Fr (w_X6_findsTwo) (v_X6_findsTwo) M ((Sum.elim (fun x : Int32 × Mem => x.2) (fun x : Mem => x)) o) := by
  unfold j_X6_findsTwo_119i at h
  have F0 : Fr (w_X6_findsTwo) (v_X6_findsTwo) M M := Fr.rf
  obtain ⟨r_20, hr1, h⟩ := bind_elim h
  obtain ⟨r_22, hr2, h⟩ := bind_elim h
  obtain ⟨r_24, hr3, h⟩ := bind_elim h
  obtain ⟨v_25, e4, h⟩ := bnd_elim h
  by_cases hc5 : s5 ≤ 0
  · rw [if_pos hc5] at h
    exact F0.tr (fr_j_X6_findsTwo_174i h)
  · rw [if_neg hc5] at h
    obtain ⟨hb6, h⟩ := chk_elim h
    have q7 := inb_lt hb6
    by_cases hc8 : 0 < (lg_cmp v_25 (rdl M 178 (ix s3)))
    · rw [if_pos hc8] at h
      exact F0.tr (fr_j_X6_findsTwo_174i h)
    · rw [if_neg hc8] at h
      obtain ⟨v_37, e9, h⟩ := bnd_elim h
      cases h
      exact F0
set_option maxHeartbeats 1000000 in
theorem fr_j_X6_findsTwo_118i {fu : Nat} {M : Mem} {s1 : Int32} {s2 : Int32} {s3 : Int32} {s4 : Int32} {s5 : Int32} {s7 : Int32} {o : (Int32 × Mem) ⊕ (Mem)} (h : j_X6_findsTwo_118i fu M s1 s2 s3 s4 s5 s7 = some o) : Fr (w_X6_findsTwo) (v_X6_findsTwo) M ((Sum.elim (fun x : Int32 × Mem => x.2) (fun x : Mem => x)) o) := by
  unfold j_X6_findsTwo_118i at h
  have F0 : Fr (w_X6_findsTwo) (v_X6_findsTwo) M M := Fr.rf
  exact F0.tr (fr_j_X6_findsTwo_119i h)
set_option maxHeartbeats 1000000 in
theorem fr_j_X6_findsTwo_94i {fu : Nat} {M : Mem} {s1 : Int32} {s2 : Int32} {s3 : Int32} {s4 : Int32} {s5 : Int32} {s6 : Int32} {t0 : Int32} {o : (Int32 × Mem) ⊕ (Mem)} (h : j_X6_findsTwo_94i fu M s1 s2 s3 s4 s5 s6 t0 = some o) : Fr (w_X6_findsTwo) (v_X6_findsTwo) M ((Sum.elim (fun x : Int32 × Mem => x.2) (fun x : Mem => x)) o) := by
  unfold j_X6_findsTwo_94i at h
  have F0 : Fr (w_X6_findsTwo) (v_X6_findsTwo) M M := Fr.rf
  by_cases hc1 : s4 = 2
  · rw [if_pos hc1] at h
    by_cases hc2 : s6 = 0
    · rw [if_pos hc2] at h
      exact F0.tr (fr_j_X6_findsTwo_118i h)
    · rw [if_neg hc2] at h
      obtain ⟨r_41, hr3, h⟩ := bind_elim h
      exact F0.tr (fr_j_X6_findsTwo_119i h)
  · rw [if_neg hc1] at h
    exact F0.tr (fr_j_X6_findsTwo_118i h)
set_option maxHeartbeats 1000000 in
theorem fr_j_X6_findsTwo_93i {fu : Nat} {M : Mem} {s1 : Int32} {s2 : Int32} {s3 : Int32} {s4 : Int32} {s5 : Int32} {s6 : Int32} {o : (Int32 × Mem) ⊕ (Mem)} (h : j_X6_findsTwo_93i fu M s1 s2 s3 s4 s5 s6 = some o) : Fr (w_X6_findsTwo) (v_X6_findsTwo) M ((Sum.elim (fun x : Int32 × Mem => x.2) (fun x : Mem => x)) o) := by
  unfold j_X6_findsTwo_93i at h
  have F0 : Fr (w_X6_findsTwo) (v_X6_findsTwo) M M := Fr.rf
  exact F0.tr (fr_j_X6_findsTwo_94i h)
set_option maxHeartbeats 1000000 in
theorem fr_b_X6_findsTwo_33 {fu : Nat} {s1 : Int32} {s2 : Int32} {s3 : Int32} {s4 : Int32} {s0 : Int32 × Mem} {o : (Int32 × Mem) ⊕ (Mem)} (h : b_X6_findsTwo_33 fu s1 s2 s3 s4 s0 = some o) : Fr (w_X6_findsTwo) (v_X6_findsTwo) ((fun x : Int32 × Mem => x.2) s0) (Sum.elim (fun x : Int32 × Mem => x.2) (fun x : Mem => x) o) := by
  obtain ⟨c5, M⟩ := s0
  unfold b_X6_findsTwo_33 at h
  replace h := un2_e h
  have F0 : Fr (w_X6_findsTwo) (v_X6_findsTwo) M M := Fr.rf
  by_cases hc1 : 4 ≤ c5
  · rw [if_pos hc1] at h
    cases h
    exact F0
  · rw [if_neg hc1] at h
    by_cases hc2 : c5 = 2
    · rw [if_pos hc2] at h
      obtain ⟨v_45, e3, h⟩ := bnd_elim h
      cases h
      exact F0
    · rw [if_neg hc2] at h
      obtain ⟨M_11, e4, h⟩ := bnd_elim h
      have F5 : Fr (w_X6_findsTwo) (v_X6_findsTwo) M M_11 := F0.tr (by rw [e4]; exact Fr.wr (Or.inr (Or.inl ⟨by omega, by decide⟩)))
      obtain ⟨M_13, e6, h⟩ := bnd_elim h
      have F7 : Fr (w_X6_findsTwo) (v_X6_findsTwo) M M_13 := F5.tr (by rw [e6]; exact Fr.wr (Or.inr (Or.inr (Or.inr (Or.inl ⟨by omega, by decide⟩)))))
      obtain ⟨r_16, hr8, h⟩ := bind_elim h
      by_cases hc9 : c5 = 3
      · rw [if_pos hc9] at h
        by_cases hc10 : r_16 = 0
        · rw [if_pos hc10] at h
          exact F7.tr (fr_j_X6_findsTwo_93i h)
        · rw [if_neg hc10] at h
          obtain ⟨r_44, hr11, h⟩ := bind_elim h
          exact F7.tr (fr_j_X6_findsTwo_94i h)
      · rw [if_neg hc9] at h
        exact F7.tr (fr_j_X6_findsTwo_93i h)
set_option maxHeartbeats 1000000 in
theorem fr_b_X6_findsTwo_2 {fu : Nat} {s1 : Int32} {s2 : Int32} {s0 : Int32 × Mem} {o : (Int32 × Mem) ⊕ (Mem)} (h : b_X6_findsTwo_2 fu s1 s2 s0 = some o) : Fr (w_X6_findsTwo) (v_X6_findsTwo) ((fun x : Int32 × Mem => x.2) s0) (Sum.elim (fun x : Int32 × Mem => x.2) (fun x : Mem => x) o) := by
  obtain ⟨c3, M⟩ := s0
  unfold b_X6_findsTwo_2 at h
  replace h := un2_e h
  have F0 : Fr (w_X6_findsTwo) (v_X6_findsTwo) M M := Fr.rf
  by_cases hc1 : s2 < c3
  · rw [if_pos hc1] at h
    cases h
    exact F0
  · rw [if_neg hc1] at h
    obtain ⟨M_2, e2, h⟩ := bnd_elim h
    have F3 : Fr (w_X6_findsTwo) (v_X6_findsTwo) M M_2 := F0.tr (by rw [e2]; exact Fr.wr (Or.inl ⟨by omega, by decide⟩))
    obtain ⟨M_4, e4, h⟩ := bnd_elim h
    have F5 : Fr (w_X6_findsTwo) (v_X6_findsTwo) M M_4 := F3.tr (by rw [e4]; exact Fr.wr (Or.inr (Or.inr (Or.inl ⟨by omega, by decide⟩))))
    obtain ⟨⟨r_7, M_8⟩, hr6, h⟩ := bind_elim h
    replace h := un2_e h
    have F7 : Fr (w_X6_findsTwo) (v_X6_findsTwo) M M_8 := F5.tr ((fr_m_X6_doingOf hr6).mono (fun k j h => by
        unfold w_X6_doingOf at h
        exact (Or.inr (Or.inr (Or.inr (Or.inr (Or.inl (by omega))))))) (fun k j h => absurd h id))
    obtain ⟨x8, hr9, h⟩ := bind_elim h
    have F10 := F7.tr (lp_fr (w := (w_X6_findsTwo)) (v := (v_X6_findsTwo)) (fun x : Int32 × Mem => x.2) (fun x : Mem => x) (fun s o hq => fr_b_X6_findsTwo_33 hq) _ _ _ hr9)
    obtain ⟨M_49, rfl⟩ : ∃ z, z = x8 := ⟨_, rfl⟩
    replace h := un1_e h
    have F11 : Fr (w_X6_findsTwo) (v_X6_findsTwo) M M_49 := F10
    obtain ⟨v_50, e12, h⟩ := bnd_elim h
    cases h
    exact F11
set_option maxHeartbeats 1000000 in
theorem fr_b_X6_findsTwo_204 {fu : Nat} {s2 : Int32} {s0 : Int32 × Mem} {o : (Int32 × Mem) ⊕ (Mem)} (h : b_X6_findsTwo_204 fu s2 s0 = some o) : Fr (w_X6_findsTwo) (v_X6_findsTwo) ((fun x : Int32 × Mem => x.2) s0) (Sum.elim (fun x : Int32 × Mem => x.2) (fun x : Mem => x) o) := by
  obtain ⟨c3, M⟩ := s0
  unfold b_X6_findsTwo_204 at h
  replace h := un2_e h
  have F0 : Fr (w_X6_findsTwo) (v_X6_findsTwo) M M := Fr.rf
  by_cases hc1 : s2 < c3
  · rw [if_pos hc1] at h
    cases h
    exact F0
  · rw [if_neg hc1] at h
    obtain ⟨hb2, h⟩ := chk_elim h
    have q3 := inb_lt hb2
    obtain ⟨M_57, e4, h⟩ := bnd_elim h
    have F5 : Fr (w_X6_findsTwo) (v_X6_findsTwo) M M_57 := F0.tr (by rw [e4]; exact Fr.wrl (by unfold v_X6_findsTwo; exact (by omega)))
    obtain ⟨v_59, e6, h⟩ := bnd_elim h
    cases h
    exact F5
set_option maxHeartbeats 1000000 in
theorem fr_m_X6_findsTwo {fu : Nat} {M : Mem} {a1 : Int32} {a2 : Int32} {M2 : Mem} (h : m_X6_findsTwo fu M a1 a2 = some M2) : Fr (w_X6_findsTwo) (v_X6_findsTwo) M M2 := by
  unfold m_X6_findsTwo at h
  have F0 : Fr (w_X6_findsTwo) (v_X6_findsTwo) M M := Fr.rf
  obtain ⟨x1, hr2, h⟩ := bind_elim h
  have F3 := F0.tr (lp_fr (w := (w_X6_findsTwo)) (v := (v_X6_findsTwo)) (fun x : Int32 × Mem => x.2) (fun x : Mem => x) (fun s o hq => fr_b_X6_findsTwo_2 hq) _ _ _ hr2)
  obtain ⟨M_54, rfl⟩ : ∃ z, z = x1 := ⟨_, rfl⟩
  replace h := un1_e h
  have F4 : Fr (w_X6_findsTwo) (v_X6_findsTwo) M M_54 := F3
  obtain ⟨x5, hr6, h⟩ := bind_elim h
  have F7 := F4.tr (lp_fr (w := (w_X6_findsTwo)) (v := (v_X6_findsTwo)) (fun x : Int32 × Mem => x.2) (fun x : Mem => x) (fun s o hq => fr_b_X6_findsTwo_204 hq) _ _ _ hr6)
  obtain ⟨M_63, rfl⟩ : ∃ z, z = x5 := ⟨_, rfl⟩
  replace h := un1_e h
  have F8 : Fr (w_X6_findsTwo) (v_X6_findsTwo) M M_63 := F7
  cases h
  exact F8
set_option maxHeartbeats 1000000 in
theorem fr_b_X6_two_110 {fu : Nat} {s1 : Int32} {s2 : Int32} {s3 : Int32} {s4 : Int32} {s5 : Int32} {s6 : Int32} {s7 : Int32} {s0 : Int32 × Mem} {o : (Int32 × Mem) ⊕ (Mem)} (h : b_X6_two_110 fu s1 s2 s3 s4 s5 s6 s7 s0 = some o) : Fr (w_X6_two) (v_X6_two) ((fun x : Int32 × Mem => x.2) s0) (Sum.elim (fun x : Int32 × Mem => x.2) (fun x : Mem => x) o) := by
  obtain ⟨c8, M⟩ := s0
  unfold b_X6_two_110 at h
  replace h := un2_e h
  have F0 : Fr (w_X6_two) (v_X6_two) M M := Fr.rf
  by_cases hc1 : s5 < c8
  · rw [if_pos hc1] at h
    cases h
    exact F0
  · rw [if_neg hc1] at h
    obtain ⟨hb2, h⟩ := chk_elim h
    have q3 := inb_lt hb2
    obtain ⟨M_27, e4, h⟩ := bnd_elim h
    have F5 : Fr (w_X6_two) (v_X6_two) M M_27 := F0.tr (by rw [e4]; exact Fr.wrl (by unfold v_X6_two; exact (by omega)))
    obtain ⟨v_29, e6, h⟩ := bnd_elim h
    cases h
    exact F5
set_option maxHeartbeats 1000000 in
theorem fr_b_X6_two_134 {fu : Nat} {s1 : Int32} {s2 : Int32} {s3 : Int32} {s4 : Int32} {s5 : Int32} {s6 : Int32} {s7 : Int32} {s0 : Int32 × Mem} {o : (Int32 × Mem) ⊕ (Mem)} (h : b_X6_two_134 fu s1 s2 s3 s4 s5 s6 s7 s0 = some o) : Fr (w_X6_two) (v_X6_two) ((fun x : Int32 × Mem => x.2) s0) (Sum.elim (fun x : Int32 × Mem => x.2) (fun x : Mem => x) o) := by
  obtain ⟨c8, M⟩ := s0
  unfold b_X6_two_134 at h
  replace h := un2_e h
  have F0 : Fr (w_X6_two) (v_X6_two) M M := Fr.rf
  by_cases hc1 : s1 ≤ c8
  · rw [if_pos hc1] at h
    cases h
    exact F0
  · rw [if_neg hc1] at h
    obtain ⟨M_36, hr2, h⟩ := bind_elim h
    have F3 : Fr (w_X6_two) (v_X6_two) M M_36 := F0.tr ((fr_m_X6_findsTwo hr2).mono (fun k j h => by
        unfold w_X6_findsTwo at h
        rcases h with h | h | h | h | h | h
        · exact (Or.inl ⟨by omega, h.2⟩)
        · exact (Or.inr (Or.inl ⟨by omega, h.2⟩))
        · exact (Or.inr (Or.inr (Or.inl ⟨by omega, h.2⟩)))
        · exact (Or.inr (Or.inr (Or.inr (Or.inr (Or.inl ⟨by omega, h.2⟩)))))
        · exact (Or.inr (Or.inr (Or.inr (Or.inr (Or.inr (Or.inl (by omega)))))))
        · exact (Or.inr (Or.inr (Or.inr (Or.inr (Or.inr (Or.inr (by omega)))))))) (fun k j h => by
        unfold v_X6_findsTwo at h
        exact (by unfold v_X6_two; exact (by omega))))
    obtain ⟨v_37, e4, h⟩ := bnd_elim h
    cases h
    exact F3
set_option maxHeartbeats 1000000 in
theorem fr_m_X6_two {fu : Nat} {M : Mem} {a1 : Int32} {a2 : Int32} {a3 : Int32} {a4 : Int32} {rr : Int64} {M2 : Mem} (h : m_X6_two fu M a1 a2 a3 a4 = some (rr, M2)) : Fr (w_X6_two) (v_X6_two) M M2 := by
  unfold m_X6_two at h
  have F0 : Fr (w_X6_two) (v_X6_two) M M := Fr.rf
  obtain ⟨M_1, e1, h⟩ := bnd_elim h
  have F2 : Fr (w_X6_two) (v_X6_two) M M_1 := F0.tr (by rw [e1]; exact Fr.wr (Or.inl ⟨by omega, by decide⟩))
  obtain ⟨v_3, e3, h⟩ := bnd_elim h
  by_cases hc4 : (rd M_1 148 2) = 2
  · rw [if_pos hc4] at h
    by_cases hc5 : 60 < v_3
    · rw [if_pos hc5] at h
      cases h
      exact F2
    · rw [if_neg hc5] at h
      obtain ⟨r_8, hr6, h⟩ := bind_elim h
      by_cases hc7 : r_8 = 0
      · rw [if_pos hc7] at h
        cases h
        exact F2
      · rw [if_neg hc7] at h
        obtain ⟨r_11, hr8, h⟩ := bind_elim h
        by_cases hc9 : r_11 = 0
        · rw [if_pos hc9] at h
          cases h
          exact F2
        · rw [if_neg hc9] at h
          obtain ⟨r_14, hr10, h⟩ := bind_elim h
          by_cases hc11 : r_14 = 0
          · rw [if_pos hc11] at h
            cases h
            exact F2
          · rw [if_neg hc11] at h
            obtain ⟨r_17, hr12, h⟩ := bind_elim h
            by_cases hc13 : r_17 = 0
            · rw [if_pos hc13] at h
              cases h
              exact F2
            · rw [if_neg hc13] at h
              obtain ⟨v_19, e14, h⟩ := bnd_elim h
              obtain ⟨v_21, e15, h⟩ := bnd_elim h
              obtain ⟨M_23, e16, h⟩ := bnd_elim h
              have F17 : Fr (w_X6_two) (v_X6_two) M M_23 := F2.tr (by rw [e16]; exact Fr.wr (Or.inr (Or.inr (Or.inr (Or.inl ⟨by omega, by decide⟩)))))
              obtain ⟨x18, hr19, h⟩ := bind_elim h
              have F20 := F17.tr (lp_fr (w := (w_X6_two)) (v := (v_X6_two)) (fun x : Int32 × Mem => x.2) (fun x : Mem => x) (fun s o hq => fr_b_X6_two_110 hq) _ _ _ hr19)
              obtain ⟨M_33, rfl⟩ : ∃ z, z = x18 := ⟨_, rfl⟩
              replace h := un1_e h
              have F21 : Fr (w_X6_two) (v_X6_two) M M_33 := F20
              obtain ⟨x22, hr23, h⟩ := bind_elim h
              have F24 := F21.tr (lp_fr (w := (w_X6_two)) (v := (v_X6_two)) (fun x : Int32 × Mem => x.2) (fun x : Mem => x) (fun s o hq => fr_b_X6_two_134 hq) _ _ _ hr23)
              obtain ⟨M_41, rfl⟩ : ∃ z, z = x22 := ⟨_, rfl⟩
              replace h := un1_e h
              have F25 : Fr (w_X6_two) (v_X6_two) M M_41 := F24
              obtain ⟨M_42, e26, h⟩ := bnd_elim h
              have F27 : Fr (w_X6_two) (v_X6_two) M M_42 := F25.tr (by rw [e26]; exact Fr.wr (Or.inr (Or.inr (Or.inr (Or.inl ⟨by omega, by decide⟩)))))
              obtain ⟨M_44, e28, h⟩ := bnd_elim h
              have F29 : Fr (w_X6_two) (v_X6_two) M M_44 := F27.tr (by rw [e28]; exact Fr.wr (Or.inl ⟨by omega, by decide⟩))
              obtain ⟨M_46, e30, h⟩ := bnd_elim h
              have F31 : Fr (w_X6_two) (v_X6_two) M M_46 := F29.tr (by rw [e30]; exact Fr.wr (Or.inr (Or.inr (Or.inl ⟨by omega, by decide⟩))))
              by_cases hc32 : a4 = 0
              · rw [if_pos hc32] at h
                obtain ⟨hb33, h⟩ := chk_elim h
                have q34 := inb_lt hb33
                cases h
                exact F31
              · rw [if_neg hc32] at h
                obtain ⟨hb35, h⟩ := chk_elim h
                have q36 := inb_lt hb35
                cases h
                exact F31
  · rw [if_neg hc4] at h
    cases h
    exact F2
set_option maxHeartbeats 1000000 in
theorem fr_m_X6_was {M : Mem} {a1 : Int32} {a2 : Int32} {rr : Int32} {M2 : Mem} (h : m_X6_was M a1 a2 = some (rr, M2)) : Fr (w_X6_was) (v_X6_was) M M2 := by
  unfold m_X6_was at h
  have F0 : Fr (w_X6_was) (v_X6_was) M M := Fr.rf
  obtain ⟨M_1, e1, h⟩ := bnd_elim h
  have F2 : Fr (w_X6_was) (v_X6_was) M M_1 := F0.tr (by rw [e1]; exact Fr.wr (Or.inl ⟨by omega, by decide⟩))
  obtain ⟨r_4, hr3, h⟩ := bind_elim h
  by_cases hc4 : r_4 = 0
  · rw [if_pos hc4] at h
    cases h
    exact F2
  · rw [if_neg hc4] at h
    obtain ⟨r_7, hr5, h⟩ := bind_elim h
    by_cases hc6 : r_7 = 0
    · rw [if_pos hc6] at h
      cases h
      exact F2
    · rw [if_neg hc6] at h
      obtain ⟨hb7, h⟩ := chk_elim h
      have q8 := inb_lt hb7
      obtain ⟨M_10, e9, h⟩ := bnd_elim h
      have F10 : Fr (w_X6_was) (v_X6_was) M M_10 := F2.tr (by rw [e9]; exact Fr.wr (Or.inr (by omega)))
      cases h
      exact F10
set_option maxHeartbeats 1000000 in
theorem fr_m_X6_judged {fu : Nat} {M : Mem} {rr : Int32} {M2 : Mem} (h : m_X6_judged fu M = some (rr, M2)) : Fr (w_X6_judged) (v_X6_judged) M M2 := by
  unfold m_X6_judged at h
  have F0 : Fr (w_X6_judged) (v_X6_judged) M M := Fr.rf
  obtain ⟨M_1, e1, h⟩ := bnd_elim h
  have F2 : Fr (w_X6_judged) (v_X6_judged) M M_1 := F0.tr (by rw [e1]; exact Fr.wr (by unfold w_X6_judged; exact ⟨by omega, by decide⟩))
  obtain ⟨x3, hr4, h⟩ := bind_elim h
  rcases x3 with y5 | y5
  · replace h := unS_l h
    replace h := un0_e h
    cases h
    exact F2
  · replace h := unS_r h
    replace h := un0_e h
    obtain ⟨v_10, e6, h⟩ := bnd_elim h
    obtain ⟨x7, hr8, h⟩ := bind_elim h
    obtain ⟨v_28, rfl⟩ : ∃ z, z = x7 := ⟨_, rfl⟩
    replace h := un1_e h
    cases h
    exact F2
set_option maxHeartbeats 1000000 in
theorem fr_m_X6_putAside {M : Mem} {a1 : Int32} {rr : Int32} {M2 : Mem} (h : m_X6_putAside M a1 = some (rr, M2)) : Fr (w_X6_putAside) (v_X6_putAside) M M2 := by
  unfold m_X6_putAside at h
  have F0 : Fr (w_X6_putAside) (v_X6_putAside) M M := Fr.rf
  obtain ⟨M_1, e1, h⟩ := bnd_elim h
  have F2 : Fr (w_X6_putAside) (v_X6_putAside) M M_1 := F0.tr (by rw [e1]; exact Fr.wr (Or.inl ⟨by omega, by decide⟩))
  by_cases hc3 : (rd M_1 148 48) = 0
  · rw [if_pos hc3] at h
    obtain ⟨hb4, h⟩ := chk_elim h
    have q5 := inb_lt hb4
    cases h
    exact F2
  · rw [if_neg hc3] at h
    obtain ⟨hb6, h⟩ := chk_elim h
    have q7 := inb_lt hb6
    obtain ⟨M_5, e8, h⟩ := bnd_elim h
    have F9 : Fr (w_X6_putAside) (v_X6_putAside) M M_5 := F2.tr (by rw [e8]; exact Fr.wr (Or.inr (by omega)))
    cases h
    exact F9
set_option maxHeartbeats 1000000 in
theorem fr_b_X6_asides_60 {fu : Nat} {s0 : Int32 × Mem} {o : (Int32 × Mem) ⊕ (Mem)} (h : b_X6_asides_60 fu s0 = some o) : Fr (w_X6_asides) (v_X6_asides) ((fun x : Int32 × Mem => x.2) s0) (Sum.elim (fun x : Int32 × Mem => x.2) (fun x : Mem => x) o) := by
  obtain ⟨c2, M⟩ := s0
  unfold b_X6_asides_60 at h
  replace h := un2_e h
  have F0 : Fr (w_X6_asides) (v_X6_asides) M M := Fr.rf
  by_cases hc1 : 10 ≤ c2
  · rw [if_pos hc1] at h
    cases h
    exact F0
  · rw [if_neg hc1] at h
    obtain ⟨hb2, h⟩ := chk_elim h
    have q3 := inb_lt hb2
    obtain ⟨⟨r_29, M_30⟩, hr4, h⟩ := bind_elim h
    replace h := un2_e h
    have F5 : Fr (w_X6_asides) (v_X6_asides) M M_30 := F0.tr ((fr_m_X6_putAside hr4).mono (fun k j h => by
        unfold w_X6_putAside at h
        rcases h with h | h
        · exact (Or.inr (Or.inr (Or.inr (Or.inr (Or.inr (Or.inl ⟨by omega, h.2⟩))))))
        · exact (Or.inr (Or.inr (Or.inr (Or.inr (Or.inr (Or.inr (Or.inr (by omega))))))))) (fun k j h => absurd h id))
    obtain ⟨M_31, e6, h⟩ := bnd_elim h
    have F7 : Fr (w_X6_asides) (v_X6_asides) M M_31 := F5.tr (by rw [e6]; exact Fr.wr (Or.inr (Or.inr (Or.inr (Or.inr (Or.inr (Or.inr (Or.inl (by omega)))))))))
    obtain ⟨⟨r_34, M_35⟩, hr8, h⟩ := bind_elim h
    replace h := un2_e h
    have F9 : Fr (w_X6_asides) (v_X6_asides) M M_35 := F7.tr ((fr_m_X6_putAside hr8).mono (fun k j h => by
        unfold w_X6_putAside at h
        rcases h with h | h
        · exact (Or.inr (Or.inr (Or.inr (Or.inr (Or.inr (Or.inl ⟨by omega, h.2⟩))))))
        · exact (Or.inr (Or.inr (Or.inr (Or.inr (Or.inr (Or.inr (Or.inr (by omega))))))))) (fun k j h => absurd h id))
    obtain ⟨M_36, e10, h⟩ := bnd_elim h
    have F11 : Fr (w_X6_asides) (v_X6_asides) M M_36 := F9.tr (by rw [e10]; exact Fr.wr (Or.inr (Or.inr (Or.inr (Or.inr (Or.inr (Or.inr (Or.inl (by omega)))))))))
    obtain ⟨⟨r_39, M_40⟩, hr12, h⟩ := bind_elim h
    replace h := un2_e h
    have F13 : Fr (w_X6_asides) (v_X6_asides) M M_40 := F11.tr ((fr_m_X6_putAside hr12).mono (fun k j h => by
        unfold w_X6_putAside at h
        rcases h with h | h
        · exact (Or.inr (Or.inr (Or.inr (Or.inr (Or.inr (Or.inl ⟨by omega, h.2⟩))))))
        · exact (Or.inr (Or.inr (Or.inr (Or.inr (Or.inr (Or.inr (Or.inr (by omega))))))))) (fun k j h => absurd h id))
    obtain ⟨M_41, e14, h⟩ := bnd_elim h
    have F15 : Fr (w_X6_asides) (v_X6_asides) M M_41 := F13.tr (by rw [e14]; exact Fr.wr (Or.inr (Or.inr (Or.inr (Or.inr (Or.inr (Or.inr (Or.inl (by omega)))))))))
    obtain ⟨⟨r_44, M_45⟩, hr16, h⟩ := bind_elim h
    replace h := un2_e h
    have F17 : Fr (w_X6_asides) (v_X6_asides) M M_45 := F15.tr ((fr_m_X6_putAside hr16).mono (fun k j h => by
        unfold w_X6_putAside at h
        rcases h with h | h
        · exact (Or.inr (Or.inr (Or.inr (Or.inr (Or.inr (Or.inl ⟨by omega, h.2⟩))))))
        · exact (Or.inr (Or.inr (Or.inr (Or.inr (Or.inr (Or.inr (Or.inr (by omega))))))))) (fun k j h => absurd h id))
    obtain ⟨M_46, e18, h⟩ := bnd_elim h
    have F19 : Fr (w_X6_asides) (v_X6_asides) M M_46 := F17.tr (by rw [e18]; exact Fr.wr (Or.inr (Or.inr (Or.inr (Or.inr (Or.inr (Or.inr (Or.inl (by omega)))))))))
    obtain ⟨⟨r_49, M_50⟩, hr20, h⟩ := bind_elim h
    replace h := un2_e h
    have F21 : Fr (w_X6_asides) (v_X6_asides) M M_50 := F19.tr ((fr_m_X6_putAside hr20).mono (fun k j h => by
        unfold w_X6_putAside at h
        rcases h with h | h
        · exact (Or.inr (Or.inr (Or.inr (Or.inr (Or.inr (Or.inl ⟨by omega, h.2⟩))))))
        · exact (Or.inr (Or.inr (Or.inr (Or.inr (Or.inr (Or.inr (Or.inr (by omega))))))))) (fun k j h => absurd h id))
    obtain ⟨M_51, e22, h⟩ := bnd_elim h
    have F23 : Fr (w_X6_asides) (v_X6_asides) M M_51 := F21.tr (by rw [e22]; exact Fr.wr (Or.inr (Or.inr (Or.inr (Or.inr (Or.inr (Or.inr (Or.inl (by omega)))))))))
    obtain ⟨⟨r_54, M_55⟩, hr24, h⟩ := bind_elim h
    replace h := un2_e h
    have F25 : Fr (w_X6_asides) (v_X6_asides) M M_55 := F23.tr ((fr_m_X6_putAside hr24).mono (fun k j h => by
        unfold w_X6_putAside at h
        rcases h with h | h
        · exact (Or.inr (Or.inr (Or.inr (Or.inr (Or.inr (Or.inl ⟨by omega, h.2⟩))))))
        · exact (Or.inr (Or.inr (Or.inr (Or.inr (Or.inr (Or.inr (Or.inr (by omega))))))))) (fun k j h => absurd h id))
    obtain ⟨M_56, e26, h⟩ := bnd_elim h
    have F27 : Fr (w_X6_asides) (v_X6_asides) M M_56 := F25.tr (by rw [e26]; exact Fr.wr (Or.inr (Or.inr (Or.inr (Or.inr (Or.inr (Or.inr (Or.inl (by omega)))))))))
    obtain ⟨⟨r_59, M_60⟩, hr28, h⟩ := bind_elim h
    replace h := un2_e h
    have F29 : Fr (w_X6_asides) (v_X6_asides) M M_60 := F27.tr ((fr_m_X6_putAside hr28).mono (fun k j h => by
        unfold w_X6_putAside at h
        rcases h with h | h
        · exact (Or.inr (Or.inr (Or.inr (Or.inr (Or.inr (Or.inl ⟨by omega, h.2⟩))))))
        · exact (Or.inr (Or.inr (Or.inr (Or.inr (Or.inr (Or.inr (Or.inr (by omega))))))))) (fun k j h => absurd h id))
    obtain ⟨M_61, e30, h⟩ := bnd_elim h
    have F31 : Fr (w_X6_asides) (v_X6_asides) M M_61 := F29.tr (by rw [e30]; exact Fr.wr (Or.inr (Or.inr (Or.inr (Or.inr (Or.inr (Or.inr (Or.inl (by omega)))))))))
    obtain ⟨⟨r_64, M_65⟩, hr32, h⟩ := bind_elim h
    replace h := un2_e h
    have F33 : Fr (w_X6_asides) (v_X6_asides) M M_65 := F31.tr ((fr_m_X6_putAside hr32).mono (fun k j h => by
        unfold w_X6_putAside at h
        rcases h with h | h
        · exact (Or.inr (Or.inr (Or.inr (Or.inr (Or.inr (Or.inl ⟨by omega, h.2⟩))))))
        · exact (Or.inr (Or.inr (Or.inr (Or.inr (Or.inr (Or.inr (Or.inr (by omega))))))))) (fun k j h => absurd h id))
    obtain ⟨M_66, e34, h⟩ := bnd_elim h
    have F35 : Fr (w_X6_asides) (v_X6_asides) M M_66 := F33.tr (by rw [e34]; exact Fr.wr (Or.inr (Or.inr (Or.inr (Or.inr (Or.inr (Or.inr (Or.inl (by omega)))))))))
    obtain ⟨⟨r_69, M_70⟩, hr36, h⟩ := bind_elim h
    replace h := un2_e h
    have F37 : Fr (w_X6_asides) (v_X6_asides) M M_70 := F35.tr ((fr_m_X6_putAside hr36).mono (fun k j h => by
        unfold w_X6_putAside at h
        rcases h with h | h
        · exact (Or.inr (Or.inr (Or.inr (Or.inr (Or.inr (Or.inl ⟨by omega, h.2⟩))))))
        · exact (Or.inr (Or.inr (Or.inr (Or.inr (Or.inr (Or.inr (Or.inr (by omega))))))))) (fun k j h => absurd h id))
    obtain ⟨M_71, e38, h⟩ := bnd_elim h
    have F39 : Fr (w_X6_asides) (v_X6_asides) M M_71 := F37.tr (by rw [e38]; exact Fr.wr (Or.inr (Or.inr (Or.inr (Or.inr (Or.inr (Or.inr (Or.inl (by omega)))))))))
    obtain ⟨⟨r_74, M_75⟩, hr40, h⟩ := bind_elim h
    replace h := un2_e h
    have F41 : Fr (w_X6_asides) (v_X6_asides) M M_75 := F39.tr ((fr_m_X6_putAside hr40).mono (fun k j h => by
        unfold w_X6_putAside at h
        rcases h with h | h
        · exact (Or.inr (Or.inr (Or.inr (Or.inr (Or.inr (Or.inl ⟨by omega, h.2⟩))))))
        · exact (Or.inr (Or.inr (Or.inr (Or.inr (Or.inr (Or.inr (Or.inr (by omega))))))))) (fun k j h => absurd h id))
    obtain ⟨M_76, e42, h⟩ := bnd_elim h
    have F43 : Fr (w_X6_asides) (v_X6_asides) M M_76 := F41.tr (by rw [e42]; exact Fr.wr (Or.inr (Or.inr (Or.inr (Or.inr (Or.inr (Or.inr (Or.inl (by omega)))))))))
    obtain ⟨⟨r_79, M_80⟩, hr44, h⟩ := bind_elim h
    replace h := un2_e h
    have F45 : Fr (w_X6_asides) (v_X6_asides) M M_80 := F43.tr ((fr_m_X6_putAside hr44).mono (fun k j h => by
        unfold w_X6_putAside at h
        rcases h with h | h
        · exact (Or.inr (Or.inr (Or.inr (Or.inr (Or.inr (Or.inl ⟨by omega, h.2⟩))))))
        · exact (Or.inr (Or.inr (Or.inr (Or.inr (Or.inr (Or.inr (Or.inr (by omega))))))))) (fun k j h => absurd h id))
    obtain ⟨M_81, e46, h⟩ := bnd_elim h
    have F47 : Fr (w_X6_asides) (v_X6_asides) M M_81 := F45.tr (by rw [e46]; exact Fr.wr (Or.inr (Or.inr (Or.inr (Or.inr (Or.inr (Or.inr (Or.inl (by omega)))))))))
    obtain ⟨⟨r_84, M_85⟩, hr48, h⟩ := bind_elim h
    replace h := un2_e h
    have F49 : Fr (w_X6_asides) (v_X6_asides) M M_85 := F47.tr ((fr_m_X6_putAside hr48).mono (fun k j h => by
        unfold w_X6_putAside at h
        rcases h with h | h
        · exact (Or.inr (Or.inr (Or.inr (Or.inr (Or.inr (Or.inl ⟨by omega, h.2⟩))))))
        · exact (Or.inr (Or.inr (Or.inr (Or.inr (Or.inr (Or.inr (Or.inr (by omega))))))))) (fun k j h => absurd h id))
    obtain ⟨M_86, e50, h⟩ := bnd_elim h
    have F51 : Fr (w_X6_asides) (v_X6_asides) M M_86 := F49.tr (by rw [e50]; exact Fr.wr (Or.inr (Or.inr (Or.inr (Or.inr (Or.inr (Or.inr (Or.inl (by omega)))))))))
    obtain ⟨⟨r_89, M_90⟩, hr52, h⟩ := bind_elim h
    replace h := un2_e h
    have F53 : Fr (w_X6_asides) (v_X6_asides) M M_90 := F51.tr ((fr_m_X6_putAside hr52).mono (fun k j h => by
        unfold w_X6_putAside at h
        rcases h with h | h
        · exact (Or.inr (Or.inr (Or.inr (Or.inr (Or.inr (Or.inl ⟨by omega, h.2⟩))))))
        · exact (Or.inr (Or.inr (Or.inr (Or.inr (Or.inr (Or.inr (Or.inr (by omega))))))))) (fun k j h => absurd h id))
    obtain ⟨M_91, e54, h⟩ := bnd_elim h
    have F55 : Fr (w_X6_asides) (v_X6_asides) M M_91 := F53.tr (by rw [e54]; exact Fr.wr (Or.inr (Or.inr (Or.inr (Or.inr (Or.inr (Or.inr (Or.inl (by omega)))))))))
    obtain ⟨⟨r_94, M_95⟩, hr56, h⟩ := bind_elim h
    replace h := un2_e h
    have F57 : Fr (w_X6_asides) (v_X6_asides) M M_95 := F55.tr ((fr_m_X6_putAside hr56).mono (fun k j h => by
        unfold w_X6_putAside at h
        rcases h with h | h
        · exact (Or.inr (Or.inr (Or.inr (Or.inr (Or.inr (Or.inl ⟨by omega, h.2⟩))))))
        · exact (Or.inr (Or.inr (Or.inr (Or.inr (Or.inr (Or.inr (Or.inr (by omega))))))))) (fun k j h => absurd h id))
    obtain ⟨M_96, e58, h⟩ := bnd_elim h
    have F59 : Fr (w_X6_asides) (v_X6_asides) M M_96 := F57.tr (by rw [e58]; exact Fr.wr (Or.inr (Or.inr (Or.inr (Or.inr (Or.inr (Or.inr (Or.inl (by omega)))))))))
    obtain ⟨v_98, e60, h⟩ := bnd_elim h
    cases h
    exact F59
set_option maxHeartbeats 1000000 in
theorem fr_m_X6_asides {fu : Nat} {M : Mem} {a1 : Int32} {M2 : Mem} (h : m_X6_asides fu M a1 = some M2) : Fr (w_X6_asides) (v_X6_asides) M M2 := by
  unfold m_X6_asides at h
  have F0 : Fr (w_X6_asides) (v_X6_asides) M M := Fr.rf
  obtain ⟨hb1, h⟩ := chk_elim h
  obtain ⟨M_2, e2, h⟩ := bnd_elim h
  have F3 : Fr (w_X6_asides) (v_X6_asides) M M_2 := F0.tr (by rw [e2]; exact Fr.wr (Or.inr (Or.inr (Or.inr (Or.inr (Or.inl ⟨by omega, by decide⟩))))))
  obtain ⟨M_4, e4, h⟩ := bnd_elim h
  have F5 : Fr (w_X6_asides) (v_X6_asides) M M_4 := F3.tr (by rw [e4]; exact Fr.wr (Or.inr (Or.inr (Or.inr (Or.inr (Or.inr (Or.inl ⟨by omega, by decide⟩)))))))
  obtain ⟨⟨r_7, M_8⟩, hr6, h⟩ := bind_elim h
  replace h := un2_e h
  have F7 : Fr (w_X6_asides) (v_X6_asides) M M_8 := F5.tr ((fr_m_X6_putAside hr6).mono (fun k j h => by
      unfold w_X6_putAside at h
      rcases h with h | h
      · exact (Or.inr (Or.inr (Or.inr (Or.inr (Or.inr (Or.inl ⟨by omega, h.2⟩))))))
      · exact (Or.inr (Or.inr (Or.inr (Or.inr (Or.inr (Or.inr (Or.inr (by omega))))))))) (fun k j h => absurd h id))
  obtain ⟨M_9, e8, h⟩ := bnd_elim h
  have F9 : Fr (w_X6_asides) (v_X6_asides) M M_9 := F7.tr (by rw [e8]; exact Fr.wr (Or.inl ⟨by omega, by decide⟩))
  obtain ⟨⟨r_12, M_13⟩, hr10, h⟩ := bind_elim h
  replace h := un2_e h
  have F11 : Fr (w_X6_asides) (v_X6_asides) M M_13 := F9.tr ((fr_m_X6_putAside hr10).mono (fun k j h => by
      unfold w_X6_putAside at h
      rcases h with h | h
      · exact (Or.inr (Or.inr (Or.inr (Or.inr (Or.inr (Or.inl ⟨by omega, h.2⟩))))))
      · exact (Or.inr (Or.inr (Or.inr (Or.inr (Or.inr (Or.inr (Or.inr (by omega))))))))) (fun k j h => absurd h id))
  obtain ⟨M_14, e12, h⟩ := bnd_elim h
  have F13 : Fr (w_X6_asides) (v_X6_asides) M M_14 := F11.tr (by rw [e12]; exact Fr.wr (Or.inr (Or.inl ⟨by omega, by decide⟩)))
  obtain ⟨⟨r_17, M_18⟩, hr14, h⟩ := bind_elim h
  replace h := un2_e h
  have F15 : Fr (w_X6_asides) (v_X6_asides) M M_18 := F13.tr ((fr_m_X6_putAside hr14).mono (fun k j h => by
      unfold w_X6_putAside at h
      rcases h with h | h
      · exact (Or.inr (Or.inr (Or.inr (Or.inr (Or.inr (Or.inl ⟨by omega, h.2⟩))))))
      · exact (Or.inr (Or.inr (Or.inr (Or.inr (Or.inr (Or.inr (Or.inr (by omega))))))))) (fun k j h => absurd h id))
  obtain ⟨M_19, e16, h⟩ := bnd_elim h
  have F17 : Fr (w_X6_asides) (v_X6_asides) M M_19 := F15.tr (by rw [e16]; exact Fr.wr (Or.inr (Or.inr (Or.inl ⟨by omega, by decide⟩))))
  obtain ⟨⟨r_22, M_23⟩, hr18, h⟩ := bind_elim h
  replace h := un2_e h
  have F19 : Fr (w_X6_asides) (v_X6_asides) M M_23 := F17.tr ((fr_m_X6_putAside hr18).mono (fun k j h => by
      unfold w_X6_putAside at h
      rcases h with h | h
      · exact (Or.inr (Or.inr (Or.inr (Or.inr (Or.inr (Or.inl ⟨by omega, h.2⟩))))))
      · exact (Or.inr (Or.inr (Or.inr (Or.inr (Or.inr (Or.inr (Or.inr (by omega))))))))) (fun k j h => absurd h id))
  obtain ⟨M_24, e20, h⟩ := bnd_elim h
  have F21 : Fr (w_X6_asides) (v_X6_asides) M M_24 := F19.tr (by rw [e20]; exact Fr.wr (Or.inr (Or.inr (Or.inr (Or.inl ⟨by omega, by decide⟩)))))
  obtain ⟨x22, hr23, h⟩ := bind_elim h
  have F24 := F21.tr (lp_fr (w := (w_X6_asides)) (v := (v_X6_asides)) (fun x : Int32 × Mem => x.2) (fun x : Mem => x) (fun s o hq => fr_b_X6_asides_60 hq) _ _ _ hr23)
  obtain ⟨M_102, rfl⟩ : ∃ z, z = x22 := ⟨_, rfl⟩
  replace h := un1_e h
  have F25 : Fr (w_X6_asides) (v_X6_asides) M M_102 := F24
  cases h
  exact F25
set_option maxHeartbeats 1000000 in
theorem fr_b_X6_thinks_54 {fu : Nat} {s1 : Int32} {s3 : Int32} {s4 : Int32} {s0 : Int32 × Mem} {o : (Int32 × Mem) ⊕ (Mem)} (h : b_X6_thinks_54 fu s1 s3 s4 s0 = some o) : Fr (w_X6_thinks) (v_X6_thinks) ((fun x : Int32 × Mem => x.2) s0) (Sum.elim (fun x : Int32 × Mem => x.2) (fun x : Mem => x) o) := by
  obtain ⟨c5, M⟩ := s0
  unfold b_X6_thinks_54 at h
  replace h := un2_e h
  have F0 : Fr (w_X6_thinks) (v_X6_thinks) M M := Fr.rf
  by_cases hc1 : s1 ≤ c5
  · rw [if_pos hc1] at h
    cases h
    exact F0
  · rw [if_neg hc1] at h
    obtain ⟨M_10, hr2, h⟩ := bind_elim h
    have F3 : Fr (w_X6_thinks) (v_X6_thinks) M M_10 := F0.tr ((fr_m_X6_goesBy hr2).mono (fun k j h => by
        unfold w_X6_goesBy at h
        rcases h with h | h | h | h | h | h | h
        · exact (Or.inl ⟨by omega, h.2⟩)
        · exact (Or.inr (Or.inr (Or.inl ⟨by omega, h.2⟩)))
        · exact (Or.inr (Or.inr (Or.inr (Or.inl ⟨by omega, h.2⟩))))
        · exact (Or.inr (Or.inr (Or.inr (Or.inr (Or.inr (Or.inr (Or.inl (by omega))))))))
        · exact (Or.inr (Or.inr (Or.inr (Or.inr (Or.inr (Or.inr (Or.inl (by omega))))))))
        · exact (Or.inr (Or.inr (Or.inr (Or.inr (Or.inr (Or.inr (Or.inl (by omega))))))))
        · exact (Or.inr (Or.inr (Or.inr (Or.inr (Or.inr (Or.inr (Or.inr (Or.inl (by omega)))))))))) (fun k j h => absurd h id))
    obtain ⟨v_11, e4, h⟩ := bnd_elim h
    cases h
    exact F3
set_option maxHeartbeats 1000000 in
theorem fr_j_X6_thinks_109 {fu : Nat} {M : Mem} {s4 : Int32} {t0 : Int32} {rr : Int32} {M2 : Mem} (h : j_X6_thinks_109 fu M s4 t0 = some (rr, M2)) : Fr (w_X6_thinks) (v_X6_thinks) M M2 := by
  unfold j_X6_thinks_109 at h
  have F0 : Fr (w_X6_thinks) (v_X6_thinks) M M := Fr.rf
  obtain ⟨M_22, hr1, h⟩ := bind_elim h
  have F2 : Fr (w_X6_thinks) (v_X6_thinks) M M_22 := F0.tr ((fr_m_X6_asides hr1).mono (fun k j h => by
      unfold w_X6_asides at h
      rcases h with h | h | h | h | h | h | h | h
      · exact (Or.inl ⟨by omega, h.2⟩)
      · exact (Or.inr (Or.inl ⟨by omega, h.2⟩))
      · exact (Or.inr (Or.inr (Or.inl ⟨by omega, h.2⟩)))
      · exact (Or.inr (Or.inr (Or.inr (Or.inl ⟨by omega, h.2⟩))))
      · exact (Or.inr (Or.inr (Or.inr (Or.inr (Or.inl ⟨by omega, h.2⟩)))))
      · exact (Or.inr (Or.inr (Or.inr (Or.inr (Or.inr (Or.inl ⟨by omega, h.2⟩))))))
      · exact (Or.inr (Or.inr (Or.inr (Or.inr (Or.inr (Or.inr (Or.inl (by omega))))))))
      · exact (Or.inr (Or.inr (Or.inr (Or.inr (Or.inr (Or.inr (Or.inr (Or.inr (by omega)))))))))) (fun k j h => absurd h id))
  cases h
  exact F2
set_option maxHeartbeats 1000000 in
theorem fr_j_X6_thinks_36 {fu : Nat} {M : Mem} {s1 : Int32} {s2 : Int32} {s3 : Int32} {t0 : Int32} {rr : Int32} {M2 : Mem} (h : j_X6_thinks_36 fu M s1 s2 s3 t0 = some (rr, M2)) : Fr (w_X6_thinks) (v_X6_thinks) M M2 := by
  unfold j_X6_thinks_36 at h
  have F0 : Fr (w_X6_thinks) (v_X6_thinks) M M := Fr.rf
  obtain ⟨M_5, hr1, h⟩ := bind_elim h
  have F2 : Fr (w_X6_thinks) (v_X6_thinks) M M_5 := F0.tr ((fr_m_X6_asides hr1).mono (fun k j h => by
      unfold w_X6_asides at h
      rcases h with h | h | h | h | h | h | h | h
      · exact (Or.inl ⟨by omega, h.2⟩)
      · exact (Or.inr (Or.inl ⟨by omega, h.2⟩))
      · exact (Or.inr (Or.inr (Or.inl ⟨by omega, h.2⟩)))
      · exact (Or.inr (Or.inr (Or.inr (Or.inl ⟨by omega, h.2⟩))))
      · exact (Or.inr (Or.inr (Or.inr (Or.inr (Or.inl ⟨by omega, h.2⟩)))))
      · exact (Or.inr (Or.inr (Or.inr (Or.inr (Or.inr (Or.inl ⟨by omega, h.2⟩))))))
      · exact (Or.inr (Or.inr (Or.inr (Or.inr (Or.inr (Or.inr (Or.inl (by omega))))))))
      · exact (Or.inr (Or.inr (Or.inr (Or.inr (Or.inr (Or.inr (Or.inr (Or.inr (by omega)))))))))) (fun k j h => absurd h id))
  obtain ⟨M_6, e3, h⟩ := bnd_elim h
  have F4 : Fr (w_X6_thinks) (v_X6_thinks) M M_6 := F2.tr (by rw [e3]; exact Fr.wr (Or.inr (Or.inr (Or.inr (Or.inr (Or.inr (Or.inr (Or.inl (by omega)))))))))
  obtain ⟨x5, hr6, h⟩ := bind_elim h
  have F7 := F4.tr (lp_fr (w := (w_X6_thinks)) (v := (v_X6_thinks)) (fun x : Int32 × Mem => x.2) (fun x : Mem => x) (fun s o hq => fr_b_X6_thinks_54 hq) _ _ _ hr6)
  obtain ⟨M_15, rfl⟩ : ∃ z, z = x5 := ⟨_, rfl⟩
  replace h := un1_e h
  have F8 : Fr (w_X6_thinks) (v_X6_thinks) M M_15 := F7
  by_cases hc9 : s3 = 0
  · rw [if_pos hc9] at h
    obtain ⟨r_26, hr10, h⟩ := bind_elim h
    exact F8.tr (fr_j_X6_thinks_109 h)
  · rw [if_neg hc9] at h
    by_cases hc11 : s3 = 1
    · rw [if_pos hc11] at h
      exact F8.tr (fr_j_X6_thinks_109 h)
    · rw [if_neg hc11] at h
      by_cases hc12 : s3 = 2
      · rw [if_pos hc12] at h
        obtain ⟨r_24, hr13, h⟩ := bind_elim h
        exact F8.tr (fr_j_X6_thinks_109 h)
      · rw [if_neg hc12] at h
        obtain ⟨r_20, hr14, h⟩ := bind_elim h
        exact F8.tr (fr_j_X6_thinks_109 h)
set_option maxHeartbeats 1000000 in
theorem fr_m_X6_thinks {fu : Nat} {M : Mem} {a1 : Int32} {a2 : Int32} {a3 : Int32} {rr : Int32} {M2 : Mem} (h : m_X6_thinks fu M a1 a2 a3 = some (rr, M2)) : Fr (w_X6_thinks) (v_X6_thinks) M M2 := by
  unfold m_X6_thinks at h
  have F0 : Fr (w_X6_thinks) (v_X6_thinks) M M := Fr.rf
  by_cases hc1 : a3 = 0
  · rw [if_pos hc1] at h
    obtain ⟨r_30, hr2, h⟩ := bind_elim h
    exact F0.tr (fr_j_X6_thinks_36 h)
  · rw [if_neg hc1] at h
    by_cases hc3 : a3 = 1
    · rw [if_pos hc3] at h
      exact F0.tr (fr_j_X6_thinks_36 h)
    · rw [if_neg hc3] at h
      by_cases hc4 : a3 = 2
      · rw [if_pos hc4] at h
        obtain ⟨r_28, hr5, h⟩ := bind_elim h
        exact F0.tr (fr_j_X6_thinks_36 h)
      · rw [if_neg hc4] at h
        exact F0.tr (fr_j_X6_thinks_36 h)
set_option maxHeartbeats 1000000 in
theorem fr_b_X6_feet_31 {fu : Nat} {s1 : Int32} {s0 : Int32 × Int32 × Int32 × Mem} {o : (Int32 × Int32 × Int32 × Mem) ⊕ (Int32 × Mem)} (h : b_X6_feet_31 fu s1 s0 = some o) : Fr (w_X6_feet) (v_X6_feet) ((fun x : Int32 × Int32 × Int32 × Mem => x.2.2.2) s0) (Sum.elim (fun x : Int32 × Int32 × Int32 × Mem => x.2.2.2) (fun x : Int32 × Mem => x.2) o) := by
  obtain ⟨c2, c3, c4, M⟩ := s0
  unfold b_X6_feet_31 at h
  replace h := un4_e h
  have F0 : Fr (w_X6_feet) (v_X6_feet) M M := Fr.rf
  by_cases hc1 : 5 < c4
  · rw [if_pos hc1] at h
    cases h
    exact F0
  · rw [if_neg hc1] at h
    obtain ⟨⟨r_11, M_12⟩, hr2, h⟩ := bind_elim h
    replace h := un2_e h
    have F3 : Fr (w_X6_feet) (v_X6_feet) M M_12 := F0.tr ((fr_m_X6_thinks hr2).mono (fun k j h => by
        unfold w_X6_thinks at h
        rcases h with h | h | h | h | h | h | h | h | h
        · exact (Or.inr (Or.inl ⟨by omega, h.2⟩))
        · exact (Or.inr (Or.inr (Or.inl ⟨by omega, h.2⟩)))
        · exact (Or.inr (Or.inr (Or.inr (Or.inl ⟨by omega, h.2⟩))))
        · exact (Or.inr (Or.inr (Or.inr (Or.inr (Or.inl ⟨by omega, h.2⟩)))))
        · exact (Or.inr (Or.inr (Or.inr (Or.inr (Or.inr (Or.inl ⟨by omega, h.2⟩))))))
        · exact (Or.inr (Or.inr (Or.inr (Or.inr (Or.inr (Or.inr (Or.inl ⟨by omega, h.2⟩)))))))
        · exact (Or.inr (Or.inr (Or.inr (Or.inr (Or.inr (Or.inr (Or.inr (Or.inl (by omega)))))))))
        · exact (Or.inr (Or.inr (Or.inr (Or.inr (Or.inr (Or.inr (Or.inr (Or.inr (Or.inl (by omega))))))))))
        · exact (Or.inr (Or.inr (Or.inr (Or.inr (Or.inr (Or.inr (Or.inr (Or.inr (Or.inr (by omega))))))))))) (fun k j h => absurd h id))
    by_cases hc4 : c3 < r_11
    · rw [if_pos hc4] at h
      obtain ⟨v_14, e5, h⟩ := bnd_elim h
      cases h
      exact F3
    · rw [if_neg hc4] at h
      obtain ⟨v_16, e6, h⟩ := bnd_elim h
      cases h
      exact F3
set_option maxHeartbeats 1000000 in
theorem fr_m_X6_feet {fu : Nat} {M : Mem} {a1 : Int32} {rr : Int32} {M2 : Mem} (h : m_X6_feet fu M a1 = some (rr, M2)) : Fr (w_X6_feet) (v_X6_feet) M M2 := by
  unfold m_X6_feet at h
  have F0 : Fr (w_X6_feet) (v_X6_feet) M M := Fr.rf
  obtain ⟨M_1, e1, h⟩ := bnd_elim h
  have F2 : Fr (w_X6_feet) (v_X6_feet) M M_1 := F0.tr (by rw [e1]; exact Fr.wr (Or.inl ⟨by omega, by decide⟩))
  obtain ⟨r_4, hr3, h⟩ := bind_elim h
  by_cases hc4 : r_4 = 0
  · rw [if_pos hc4] at h
    cases h
    exact F2
  · rw [if_neg hc4] at h
    obtain ⟨⟨r_7, M_8⟩, hr5, h⟩ := bind_elim h
    replace h := un2_e h
    have F6 : Fr (w_X6_feet) (v_X6_feet) M M_8 := F2.tr ((fr_m_X6_thinks hr5).mono (fun k j h => by
        unfold w_X6_thinks at h
        rcases h with h | h | h | h | h | h | h | h | h
        · exact (Or.inr (Or.inl ⟨by omega, h.2⟩))
        · exact (Or.inr (Or.inr (Or.inl ⟨by omega, h.2⟩)))
        · exact (Or.inr (Or.inr (Or.inr (Or.inl ⟨by omega, h.2⟩))))
        · exact (Or.inr (Or.inr (Or.inr (Or.inr (Or.inl ⟨by omega, h.2⟩)))))
        · exact (Or.inr (Or.inr (Or.inr (Or.inr (Or.inr (Or.inl ⟨by omega, h.2⟩))))))
        · exact (Or.inr (Or.inr (Or.inr (Or.inr (Or.inr (Or.inr (Or.inl ⟨by omega, h.2⟩)))))))
        · exact (Or.inr (Or.inr (Or.inr (Or.inr (Or.inr (Or.inr (Or.inr (Or.inl (by omega)))))))))
        · exact (Or.inr (Or.inr (Or.inr (Or.inr (Or.inr (Or.inr (Or.inr (Or.inr (Or.inl (by omega))))))))))
        · exact (Or.inr (Or.inr (Or.inr (Or.inr (Or.inr (Or.inr (Or.inr (Or.inr (Or.inr (by omega))))))))))) (fun k j h => absurd h id))
    obtain ⟨x7, hr8, h⟩ := bind_elim h
    have F9 := F6.tr (lp_fr (w := (w_X6_feet)) (v := (v_X6_feet)) (fun x : Int32 × Int32 × Int32 × Mem => x.2.2.2) (fun x : Int32 × Mem => x.2) (fun s o hq => fr_b_X6_feet_31 hq) _ _ _ hr8)
    obtain ⟨v_20, M_21⟩ := x7
    replace h := un2_e h
    have F10 : Fr (w_X6_feet) (v_X6_feet) M M_21 := F9
    cases h
    exact F10
set_option maxHeartbeats 1000000 in
theorem fr_m_X6_thought {fu : Nat} {M : Mem} {a1 : Int32} {a2 : Int32} {rr : Int32} {M2 : Mem} (h : m_X6_thought fu M a1 a2 = some (rr, M2)) : Fr (w_X6_thought) (v_X6_thought) M M2 := by
  unfold m_X6_thought at h
  have F0 : Fr (w_X6_thought) (v_X6_thought) M M := Fr.rf
  obtain ⟨M_1, e1, h⟩ := bnd_elim h
  have F2 : Fr (w_X6_thought) (v_X6_thought) M M_1 := F0.tr (by rw [e1]; exact Fr.wr (Or.inl ⟨by omega, by decide⟩))
  obtain ⟨r_4, hr3, h⟩ := bind_elim h
  by_cases hc4 : r_4 = 0
  · rw [if_pos hc4] at h
    cases h
    exact F2
  · rw [if_neg hc4] at h
    obtain ⟨r_7, hr5, h⟩ := bind_elim h
    by_cases hc6 : r_7 = 0
    · rw [if_pos hc6] at h
      cases h
      exact F2
    · rw [if_neg hc6] at h
      obtain ⟨⟨r_10, M_11⟩, hr7, h⟩ := bind_elim h
      replace h := un2_e h
      have F8 : Fr (w_X6_thought) (v_X6_thought) M M_11 := F2.tr ((fr_m_X6_thinks hr7).mono (fun k j h => by
          unfold w_X6_thinks at h
          rcases h with h | h | h | h | h | h | h | h | h
          · exact (Or.inr (Or.inl ⟨by omega, h.2⟩))
          · exact (Or.inr (Or.inr (Or.inl ⟨by omega, h.2⟩)))
          · exact (Or.inr (Or.inr (Or.inr (Or.inl ⟨by omega, h.2⟩))))
          · exact (Or.inr (Or.inr (Or.inr (Or.inr (Or.inl ⟨by omega, h.2⟩)))))
          · exact (Or.inr (Or.inr (Or.inr (Or.inr (Or.inr (Or.inl ⟨by omega, h.2⟩))))))
          · exact (Or.inr (Or.inr (Or.inr (Or.inr (Or.inr (Or.inr (Or.inl ⟨by omega, h.2⟩)))))))
          · exact (Or.inr (Or.inr (Or.inr (Or.inr (Or.inr (Or.inr (Or.inr (Or.inl (by omega)))))))))
          · exact (Or.inr (Or.inr (Or.inr (Or.inr (Or.inr (Or.inr (Or.inr (Or.inr (Or.inl (by omega))))))))))
          · exact (Or.inr (Or.inr (Or.inr (Or.inr (Or.inr (Or.inr (Or.inr (Or.inr (Or.inr (by omega))))))))))) (fun k j h => absurd h id))
      cases h
      exact F8
set_option maxHeartbeats 1000000 in
theorem fr_m_X6_keptText {M : Mem} {a1 : Int32} {rr : Int32} {M2 : Mem} (h : m_X6_keptText M a1 = some (rr, M2)) : Fr (w_X6_keptText) (v_X6_keptText) M M2 := by
  unfold m_X6_keptText at h
  have F0 : Fr (w_X6_keptText) (v_X6_keptText) M M := Fr.rf
  obtain ⟨M_1, e1, h⟩ := bnd_elim h
  have F2 : Fr (w_X6_keptText) (v_X6_keptText) M M_1 := F0.tr (by rw [e1]; exact Fr.wr (Or.inl ⟨by omega, by decide⟩))
  by_cases hc3 : (rd M_1 148 48) = 0
  · rw [if_pos hc3] at h
    obtain ⟨hb4, h⟩ := chk_elim h
    have q5 := inb_lt hb4
    cases h
    exact F2
  · rw [if_neg hc3] at h
    obtain ⟨hb6, h⟩ := chk_elim h
    have q7 := inb_lt hb6
    obtain ⟨M_5, e8, h⟩ := bnd_elim h
    have F9 : Fr (w_X6_keptText) (v_X6_keptText) M M_5 := F2.tr (by rw [e8]; exact Fr.wr (Or.inr (by omega)))
    cases h
    exact F9
set_option maxHeartbeats 1000000 in
theorem fr_b_X6_image_97 {fu : Nat} {s0 : Int32 × Mem} {o : (Int32 × Mem) ⊕ (Mem)} (h : b_X6_image_97 fu s0 = some o) : Fr (w_X6_image) (v_X6_image) ((fun x : Int32 × Mem => x.2) s0) (Sum.elim (fun x : Int32 × Mem => x.2) (fun x : Mem => x) o) := by
  obtain ⟨c2, M⟩ := s0
  unfold b_X6_image_97 at h
  replace h := un2_e h
  have F0 : Fr (w_X6_image) (v_X6_image) M M := Fr.rf
  by_cases hc1 : 4 ≤ c2
  · rw [if_pos hc1] at h
    cases h
    exact F0
  · rw [if_neg hc1] at h
    obtain ⟨hb2, h⟩ := chk_elim h
    have q3 := inb_lt hb2
    obtain ⟨⟨r_15, M_16⟩, hr4, h⟩ := bind_elim h
    replace h := un2_e h
    have F5 : Fr (w_X6_image) (v_X6_image) M M_16 := F0.tr ((fr_m_X6_keptText hr4).mono (fun k j h => by
        unfold w_X6_keptText at h
        rcases h with h | h
        · exact (Or.inr (Or.inr (Or.inr (Or.inr (Or.inr (Or.inr (Or.inr (Or.inr (Or.inl ⟨by omega, h.2⟩)))))))))
        · exact (Or.inr (Or.inr (Or.inr (Or.inr (Or.inr (Or.inr (Or.inr (Or.inr (Or.inr (Or.inr (Or.inr (by omega))))))))))))) (fun k j h => absurd h id))
    obtain ⟨M_17, e6, h⟩ := bnd_elim h
    have F7 : Fr (w_X6_image) (v_X6_image) M M_17 := F5.tr (by rw [e6]; exact Fr.wr (Or.inr (Or.inr (Or.inr (Or.inr (Or.inr (Or.inr (Or.inr (Or.inr (Or.inr (Or.inr (Or.inl (by omega)))))))))))))
    obtain ⟨v_19, e8, h⟩ := bnd_elim h
    cases h
    exact F7
set_option maxHeartbeats 1000000 in
theorem fr_b_X6_image_126 {fu : Nat} {s0 : Int32 × Mem} {o : (Int32 × Mem) ⊕ (Mem)} (h : b_X6_image_126 fu s0 = some o) : Fr (w_X6_image) (v_X6_image) ((fun x : Int32 × Mem => x.2) s0) (Sum.elim (fun x : Int32 × Mem => x.2) (fun x : Mem => x) o) := by
  obtain ⟨c2, M⟩ := s0
  unfold b_X6_image_126 at h
  replace h := un2_e h
  have F0 : Fr (w_X6_image) (v_X6_image) M M := Fr.rf
  by_cases hc1 : 64 ≤ c2
  · rw [if_pos hc1] at h
    cases h
    exact F0
  · rw [if_neg hc1] at h
    obtain ⟨hb2, h⟩ := chk_elim h
    have q3 := inb_lt hb2
    obtain ⟨⟨r_27, M_28⟩, hr4, h⟩ := bind_elim h
    replace h := un2_e h
    have F5 : Fr (w_X6_image) (v_X6_image) M M_28 := F0.tr ((fr_m_X6_keptText hr4).mono (fun k j h => by
        unfold w_X6_keptText at h
        rcases h with h | h
        · exact (Or.inr (Or.inr (Or.inr (Or.inr (Or.inr (Or.inr (Or.inr (Or.inr (Or.inl ⟨by omega, h.2⟩)))))))))
        · exact (Or.inr (Or.inr (Or.inr (Or.inr (Or.inr (Or.inr (Or.inr (Or.inr (Or.inr (Or.inr (Or.inr (by omega))))))))))))) (fun k j h => absurd h id))
    obtain ⟨M_29, e6, h⟩ := bnd_elim h
    have F7 : Fr (w_X6_image) (v_X6_image) M M_29 := F5.tr (by rw [e6]; exact Fr.wr (Or.inr (Or.inr (Or.inr (Or.inr (Or.inr (Or.inr (Or.inr (Or.inr (Or.inr (Or.inr (Or.inl (by omega)))))))))))))
    obtain ⟨⟨r_32, M_33⟩, hr8, h⟩ := bind_elim h
    replace h := un2_e h
    have F9 : Fr (w_X6_image) (v_X6_image) M M_33 := F7.tr ((fr_m_X6_keptText hr8).mono (fun k j h => by
        unfold w_X6_keptText at h
        rcases h with h | h
        · exact (Or.inr (Or.inr (Or.inr (Or.inr (Or.inr (Or.inr (Or.inr (Or.inr (Or.inl ⟨by omega, h.2⟩)))))))))
        · exact (Or.inr (Or.inr (Or.inr (Or.inr (Or.inr (Or.inr (Or.inr (Or.inr (Or.inr (Or.inr (Or.inr (by omega))))))))))))) (fun k j h => absurd h id))
    obtain ⟨M_34, e10, h⟩ := bnd_elim h
    have F11 : Fr (w_X6_image) (v_X6_image) M M_34 := F9.tr (by rw [e10]; exact Fr.wr (Or.inr (Or.inr (Or.inr (Or.inr (Or.inr (Or.inr (Or.inr (Or.inr (Or.inr (Or.inr (Or.inl (by omega)))))))))))))
    obtain ⟨⟨r_37, M_38⟩, hr12, h⟩ := bind_elim h
    replace h := un2_e h
    have F13 : Fr (w_X6_image) (v_X6_image) M M_38 := F11.tr ((fr_m_X6_keptText hr12).mono (fun k j h => by
        unfold w_X6_keptText at h
        rcases h with h | h
        · exact (Or.inr (Or.inr (Or.inr (Or.inr (Or.inr (Or.inr (Or.inr (Or.inr (Or.inl ⟨by omega, h.2⟩)))))))))
        · exact (Or.inr (Or.inr (Or.inr (Or.inr (Or.inr (Or.inr (Or.inr (Or.inr (Or.inr (Or.inr (Or.inr (by omega))))))))))))) (fun k j h => absurd h id))
    obtain ⟨M_39, e14, h⟩ := bnd_elim h
    have F15 : Fr (w_X6_image) (v_X6_image) M M_39 := F13.tr (by rw [e14]; exact Fr.wr (Or.inr (Or.inr (Or.inr (Or.inr (Or.inr (Or.inr (Or.inr (Or.inr (Or.inr (Or.inr (Or.inl (by omega)))))))))))))
    obtain ⟨v_41, e16, h⟩ := bnd_elim h
    cases h
    exact F15
set_option maxHeartbeats 1000000 in
theorem fr_b_X6_image_188 {fu : Nat} {s0 : Int32 × Mem} {o : (Int32 × Mem) ⊕ (Mem)} (h : b_X6_image_188 fu s0 = some o) : Fr (w_X6_image) (v_X6_image) ((fun x : Int32 × Mem => x.2) s0) (Sum.elim (fun x : Int32 × Mem => x.2) (fun x : Mem => x) o) := by
  obtain ⟨c2, M⟩ := s0
  unfold b_X6_image_188 at h
  replace h := un2_e h
  have F0 : Fr (w_X6_image) (v_X6_image) M M := Fr.rf
  by_cases hc1 : 1600 ≤ c2
  · rw [if_pos hc1] at h
    cases h
    exact F0
  · rw [if_neg hc1] at h
    obtain ⟨hb2, h⟩ := chk_elim h
    have q3 := inb_lt hb2
    obtain ⟨⟨r_49, M_50⟩, hr4, h⟩ := bind_elim h
    replace h := un2_e h
    have F5 : Fr (w_X6_image) (v_X6_image) M M_50 := F0.tr ((fr_m_X6_keptText hr4).mono (fun k j h => by
        unfold w_X6_keptText at h
        rcases h with h | h
        · exact (Or.inr (Or.inr (Or.inr (Or.inr (Or.inr (Or.inr (Or.inr (Or.inr (Or.inl ⟨by omega, h.2⟩)))))))))
        · exact (Or.inr (Or.inr (Or.inr (Or.inr (Or.inr (Or.inr (Or.inr (Or.inr (Or.inr (Or.inr (Or.inr (by omega))))))))))))) (fun k j h => absurd h id))
    obtain ⟨M_51, e6, h⟩ := bnd_elim h
    have F7 : Fr (w_X6_image) (v_X6_image) M M_51 := F5.tr (by rw [e6]; exact Fr.wr (Or.inr (Or.inr (Or.inr (Or.inr (Or.inr (Or.inr (Or.inr (Or.inr (Or.inr (Or.inr (Or.inl (by omega)))))))))))))
    obtain ⟨⟨r_54, M_55⟩, hr8, h⟩ := bind_elim h
    replace h := un2_e h
    have F9 : Fr (w_X6_image) (v_X6_image) M M_55 := F7.tr ((fr_m_X6_keptText hr8).mono (fun k j h => by
        unfold w_X6_keptText at h
        rcases h with h | h
        · exact (Or.inr (Or.inr (Or.inr (Or.inr (Or.inr (Or.inr (Or.inr (Or.inr (Or.inl ⟨by omega, h.2⟩)))))))))
        · exact (Or.inr (Or.inr (Or.inr (Or.inr (Or.inr (Or.inr (Or.inr (Or.inr (Or.inr (Or.inr (Or.inr (by omega))))))))))))) (fun k j h => absurd h id))
    obtain ⟨M_56, e10, h⟩ := bnd_elim h
    have F11 : Fr (w_X6_image) (v_X6_image) M M_56 := F9.tr (by rw [e10]; exact Fr.wr (Or.inr (Or.inr (Or.inr (Or.inr (Or.inr (Or.inr (Or.inr (Or.inr (Or.inr (Or.inr (Or.inl (by omega)))))))))))))
    obtain ⟨v_58, e12, h⟩ := bnd_elim h
    cases h
    exact F11
set_option maxHeartbeats 1000000 in
theorem fr_j_X6_image_90 {fu : Nat} {M : Mem} {rr : Int32} {M2 : Mem} (h : j_X6_image_90 fu M = some (rr, M2)) : Fr (w_X6_image) (v_X6_image) M M2 := by
  unfold j_X6_image_90 at h
  have F0 : Fr (w_X6_image) (v_X6_image) M M := Fr.rf
  obtain ⟨M_10, e1, h⟩ := bnd_elim h
  have F2 : Fr (w_X6_image) (v_X6_image) M M_10 := F0.tr (by rw [e1]; exact Fr.wr (Or.inr (Or.inr (Or.inr (Or.inr (Or.inr (Or.inr (Or.inr (Or.inr (Or.inl ⟨by omega, by decide⟩))))))))))
  obtain ⟨x3, hr4, h⟩ := bind_elim h
  have F5 := F2.tr (lp_fr (w := (w_X6_image)) (v := (v_X6_image)) (fun x : Int32 × Mem => x.2) (fun x : Mem => x) (fun s o hq => fr_b_X6_image_97 hq) _ _ _ hr4)
  obtain ⟨M_23, rfl⟩ : ∃ z, z = x3 := ⟨_, rfl⟩
  replace h := un1_e h
  have F6 : Fr (w_X6_image) (v_X6_image) M M_23 := F5
  obtain ⟨x7, hr8, h⟩ := bind_elim h
  have F9 := F6.tr (lp_fr (w := (w_X6_image)) (v := (v_X6_image)) (fun x : Int32 × Mem => x.2) (fun x : Mem => x) (fun s o hq => fr_b_X6_image_126 hq) _ _ _ hr8)
  obtain ⟨M_45, rfl⟩ : ∃ z, z = x7 := ⟨_, rfl⟩
  replace h := un1_e h
  have F10 : Fr (w_X6_image) (v_X6_image) M M_45 := F9
  obtain ⟨x11, hr12, h⟩ := bind_elim h
  have F13 := F10.tr (lp_fr (w := (w_X6_image)) (v := (v_X6_image)) (fun x : Int32 × Mem => x.2) (fun x : Mem => x) (fun s o hq => fr_b_X6_image_188 hq) _ _ _ hr12)
  obtain ⟨M_62, rfl⟩ : ∃ z, z = x11 := ⟨_, rfl⟩
  replace h := un1_e h
  have F14 : Fr (w_X6_image) (v_X6_image) M M_62 := F13
  cases h
  exact F14
set_option maxHeartbeats 1000000 in
theorem fr_b_X6_image_65 {fu : Nat} {s0 : Int32 × Mem} {o : (Int32 × Mem) ⊕ (Mem)} (h : b_X6_image_65 fu s0 = some o) : Fr (w_X6_image) (v_X6_image) ((fun x : Int32 × Mem => x.2) s0) (Sum.elim (fun x : Int32 × Mem => x.2) (fun x : Mem => x) o) := by
  obtain ⟨c2, M⟩ := s0
  unfold b_X6_image_65 at h
  replace h := un2_e h
  have F0 : Fr (w_X6_image) (v_X6_image) M M := Fr.rf
  by_cases hc1 : 160 ≤ c2
  · rw [if_pos hc1] at h
    cases h
    exact F0
  · rw [if_neg hc1] at h
    obtain ⟨hb2, h⟩ := chk_elim h
    have q3 := inb_lt hb2
    obtain ⟨M_65, e4, h⟩ := bnd_elim h
    have F5 : Fr (w_X6_image) (v_X6_image) M M_65 := F0.tr (by rw [e4]; exact Fr.wr (Or.inr (Or.inr (Or.inr (Or.inr (Or.inr (Or.inr (Or.inr (Or.inr (Or.inr (Or.inr (Or.inr (by omega)))))))))))))
    obtain ⟨v_67, e6, h⟩ := bnd_elim h
    cases h
    exact F5
set_option maxHeartbeats 1000000 in
theorem fr_j_X6_image_54 {fu : Nat} {M : Mem} {s1 : Int32} {rr : Int32} {M2 : Mem} (h : j_X6_image_54 fu M s1 = some (rr, M2)) : Fr (w_X6_image) (v_X6_image) M M2 := by
  unfold j_X6_image_54 at h
  have F0 : Fr (w_X6_image) (v_X6_image) M M := Fr.rf
  obtain ⟨M_8, hr1, h⟩ := bind_elim h
  have F2 : Fr (w_X6_image) (v_X6_image) M M_8 := F0.tr ((fr_m_X6_asides hr1).mono (fun k j h => by
      unfold w_X6_asides at h
      rcases h with h | h | h | h | h | h | h | h
      · exact (Or.inr (Or.inl ⟨by omega, h.2⟩))
      · exact (Or.inr (Or.inr (Or.inl ⟨by omega, h.2⟩)))
      · exact (Or.inr (Or.inr (Or.inr (Or.inl ⟨by omega, h.2⟩))))
      · exact (Or.inr (Or.inr (Or.inr (Or.inr (Or.inl ⟨by omega, h.2⟩)))))
      · exact (Or.inr (Or.inr (Or.inr (Or.inr (Or.inr (Or.inl ⟨by omega, h.2⟩))))))
      · exact (Or.inr (Or.inr (Or.inr (Or.inr (Or.inr (Or.inr (Or.inl ⟨by omega, h.2⟩)))))))
      · exact (Or.inr (Or.inr (Or.inr (Or.inr (Or.inr (Or.inr (Or.inr (Or.inr (Or.inr (Or.inl (by omega)))))))))))
      · exact (Or.inr (Or.inr (Or.inr (Or.inr (Or.inr (Or.inr (Or.inr (Or.inr (Or.inr (Or.inr (Or.inr (by omega))))))))))))) (fun k j h => absurd h id))
  by_cases hc3 : s1 = 0
  · rw [if_pos hc3] at h
    exact F2.tr (fr_j_X6_image_90 h)
  · rw [if_neg hc3] at h
    obtain ⟨x4, hr5, h⟩ := bind_elim h
    have F6 := F2.tr (lp_fr (w := (w_X6_image)) (v := (v_X6_image)) (fun x : Int32 × Mem => x.2) (fun x : Mem => x) (fun s o hq => fr_b_X6_image_65 hq) _ _ _ hr5)
    obtain ⟨M_71, rfl⟩ : ∃ z, z = x4 := ⟨_, rfl⟩
    replace h := un1_e h
    have F7 : Fr (w_X6_image) (v_X6_image) M M_71 := F6
    exact F7.tr (fr_j_X6_image_90 h)
set_option maxHeartbeats 1000000 in
theorem fr_b_X6_image_29 {fu : Nat} {s1 : Int32} {s0 : Int32 × Mem} {o : (Int32 × Mem) ⊕ (Mem)} (h : b_X6_image_29 fu s1 s0 = some o) : Fr (w_X6_image) (v_X6_image) ((fun x : Int32 × Mem => x.2) s0) (Sum.elim (fun x : Int32 × Mem => x.2) (fun x : Mem => x) o) := by
  obtain ⟨c2, M⟩ := s0
  unfold b_X6_image_29 at h
  replace h := un2_e h
  have F0 : Fr (w_X6_image) (v_X6_image) M M := Fr.rf
  by_cases hc1 : 160 ≤ c2
  · rw [if_pos hc1] at h
    cases h
    exact F0
  · rw [if_neg hc1] at h
    obtain ⟨hb2, h⟩ := chk_elim h
    have q3 := inb_lt hb2
    obtain ⟨M_74, e4, h⟩ := bnd_elim h
    have F5 : Fr (w_X6_image) (v_X6_image) M M_74 := F0.tr (by rw [e4]; exact Fr.wr (Or.inr (Or.inr (Or.inr (Or.inr (Or.inr (Or.inr (Or.inr (Or.inr (Or.inr (Or.inr (Or.inr (by omega)))))))))))))
    obtain ⟨v_76, e6, h⟩ := bnd_elim h
    cases h
    exact F5
set_option maxHeartbeats 1000000 in
theorem fr_j_X6_image_18 {fu : Nat} {M : Mem} {s1 : Int32} {rr : Int32} {M2 : Mem} (h : j_X6_image_18 fu M s1 = some (rr, M2)) : Fr (w_X6_image) (v_X6_image) M M2 := by
  unfold j_X6_image_18 at h
  have F0 : Fr (w_X6_image) (v_X6_image) M M := Fr.rf
  obtain ⟨M_4, e1, h⟩ := bnd_elim h
  have F2 : Fr (w_X6_image) (v_X6_image) M M_4 := F0.tr (by rw [e1]; exact Fr.wr (Or.inr (Or.inr (Or.inr (Or.inr (Or.inr (Or.inr (Or.inr (Or.inl ⟨by omega, by decide⟩)))))))))
  by_cases hc3 : s1 = 0
  · rw [if_pos hc3] at h
    obtain ⟨x4, hr5, h⟩ := bind_elim h
    have F6 := F2.tr (lp_fr (w := (w_X6_image)) (v := (v_X6_image)) (fun x : Int32 × Mem => x.2) (fun x : Mem => x) (fun s o hq => fr_b_X6_image_29 hq) _ _ _ hr5)
    obtain ⟨M_80, rfl⟩ : ∃ z, z = x4 := ⟨_, rfl⟩
    replace h := un1_e h
    have F7 : Fr (w_X6_image) (v_X6_image) M M_80 := F6
    exact F7.tr (fr_j_X6_image_54 h)
  · rw [if_neg hc3] at h
    exact F2.tr (fr_j_X6_image_54 h)
set_option maxHeartbeats 1000000 in
theorem fr_m_X6_image {fu : Nat} {M : Mem} {a1 : Int32} {rr : Int32} {M2 : Mem} (h : m_X6_image fu M a1 = some (rr, M2)) : Fr (w_X6_image) (v_X6_image) M M2 := by
  unfold m_X6_image at h
  have F0 : Fr (w_X6_image) (v_X6_image) M M := Fr.rf
  obtain ⟨M_1, e1, h⟩ := bnd_elim h
  have F2 : Fr (w_X6_image) (v_X6_image) M M_1 := F0.tr (by rw [e1]; exact Fr.wr (Or.inl ⟨by omega, by decide⟩))
  by_cases hc3 : a1 = 0
  · rw [if_pos hc3] at h
    by_cases hc4 : (rd M_1 148 51) = 0
    · rw [if_pos hc4] at h
      cases h
      exact F2
    · rw [if_neg hc4] at h
      exact F2.tr (fr_j_X6_image_18 h)
  · rw [if_neg hc3] at h
    exact F2.tr (fr_j_X6_image_18 h)
set_option maxHeartbeats 1000000 in
theorem fr_m_X6_look {fu : Nat} {M : Mem} {a1 : Int32} {rr : Int32} {M2 : Mem} (h : m_X6_look fu M a1 = some (rr, M2)) : Fr (w_X6_look) (v_X6_look) M M2 := by
  unfold m_X6_look at h
  have F0 : Fr (w_X6_look) (v_X6_look) M M := Fr.rf
  obtain ⟨M_1, e1, h⟩ := bnd_elim h
  have F2 : Fr (w_X6_look) (v_X6_look) M M_1 := F0.tr (by rw [e1]; exact Fr.wr (by unfold w_X6_look; exact ⟨by omega, by decide⟩))
  by_cases hc3 : a1 = 0
  · rw [if_pos hc3] at h
    cases h
    exact F2
  · rw [if_neg hc3] at h
    by_cases hc4 : a1 = 1
    · rw [if_pos hc4] at h
      cases h
      exact F2
    · rw [if_neg hc4] at h
      by_cases hc5 : a1 = 2
      · rw [if_pos hc5] at h
        cases h
        exact F2
      · rw [if_neg hc5] at h
        by_cases hc6 : a1 = 4
        · rw [if_pos hc6] at h
          obtain ⟨r_22, hr7, h⟩ := bind_elim h
          cases h
          exact F2
        · rw [if_neg hc6] at h
          obtain ⟨r_8, hr8, h⟩ := bind_elim h
          by_cases hc9 : r_8 = 0
          · rw [if_pos hc9] at h
            by_cases hc10 : a1 = 3
            · rw [if_pos hc10] at h
              obtain ⟨x11, hr12, h⟩ := bind_elim h
              obtain ⟨v_19, rfl⟩ : ∃ z, z = x11 := ⟨_, rfl⟩
              replace h := un1_e h
              cases h
              exact F2
            · rw [if_neg hc10] at h
              cases h
              exact F2
          · rw [if_neg hc9] at h
            obtain ⟨hb13, h⟩ := chk_elim h
            have q14 := inb_lt hb13
            cases h
            exact F2
