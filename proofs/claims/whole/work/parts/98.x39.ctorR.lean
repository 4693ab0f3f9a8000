/-! ===== the ring's constructor ===== -/
def gR (g : GT) (b r0 : Nat) : GT := (gD g, ga g, gb g + b, gc g, (List.range 37).map (fun lo => r0 + pmR lo), gs g)
theorem AbG.low {g : GT} {b r0 q : Nat} (h : AbG (gR g b r0) q) : AbG g q := Nat.le_trans (Nat.le_add_right _ _) (show gb g + b ≤ q from h)
theorem SxG.low {g : GT} {b r0 : Nat} {U : State} (h : SxG g U) (hb : gb g + b ≤ U.heap.size) : SxG (gR g b r0) U :=
  ⟨hb, h.2.1, fun i hi => ⟨(h.2.2.1 i hi).1.narrow (fun q hq => AbG.low hq), (h.2.2.1 i hi).2.narrow (fun q hq => AbG.low hq)⟩, ⟨vk_S.narrow h.2.2.2.1.1 (fun q hq => AbG.low hq), h.2.2.2.1.2.1.narrow (fun q hq => AbG.low hq), h.2.2.2.1.2.2.narrow (fun q hq => AbG.low hq)⟩, h.2.2.2.2⟩
theorem pmR_all : (List.range 37).all (fun o => decide (o ∈ (List.range 37).map pmR)) = true := by decide +kernel
theorem pmR_lt : ∀ o, o < 37 → pmR o < 37 := by decide
theorem pmR_land : ∀ j, j < 10 → pmR (3 + j) = 8 + j := by decide
theorem pmR_stake : ∀ j, j < 10 → pmR (15 + j) = 18 + j := by decide
theorem pmR_law : ∀ k, k < 4 → pmR (29 + 2 * k) = 28 + k := by decide
theorem pmR_code : ∀ k, k < 4 → pmR (30 + 2 * k) = 32 + k := by decide
theorem pmR_told : ∀ o, o < 37 → o ≠ 1 → pmR o ≠ 1 := by decide
/-- where a ring lies -/
def RB (g : GT) (b r0 : Nat) : Prop := isRing r0 ∧ (∀ lo, lo < 37 → pmk (b + lo) = r0 + pmR lo) ∧ ∀ lo, lo < 37 → ga g (r0 + pmR lo) = gb g + (b + lo)
theorem RB.of {g : GT} (hG : GG g) {b r0 : Nat} (hb : b + 37 ≤ 183) (hr : isRing r0) (h : ∀ lo, lo < 37 → pmk (b + lo) = r0 + pmR lo) : RB g b r0 := ⟨hr, h, fun lo hlo => hG.at (by omega) (h lo hlo)⟩
theorem RB.wl {g : GT} {b r0 : Nat} (hB : RB g b r0) (M : Mem) : wlG (gR g b r0) M = cwl (gb g + b) (fun lo => encG g M (r0 + pmR lo)) 37 := by
  unfold wlG cwl
  show ((List.range 37).map (fun lo => r0 + pmR lo)).map (fun k => (ga g k, encG (gR g b r0) M k)) = _
  rw [List.map_map]
  apply List.map_congr_left
  intro i hi
  show (ga g (r0 + pmR i), encG g M (r0 + pmR i)) = (gb g + b + i, encG g M (r0 + pmR i))
  rw [hB.2.2 i (List.mem_range.mp hi), Nat.add_assoc]
theorem RB.ax {g : GT} {b r0 : Nat} (hB : RB g b r0) : AxG (gR g b r0) := fun M => by rw [hB.wl M]; exact cwl_D
theorem RB.ok {g : GT} {b r0 : Nat} (hB : RB g b r0) : okRing (gR g b r0) r0 := ⟨hB.1, fun o ho => by
  have := List.all_eq_true.mp pmR_all o (List.mem_range.mpr ho)
  have h2 : o ∈ (List.range 37).map pmR := by simpa using this
  obtain ⟨lo, h3, rfl⟩ := List.mem_map.mp h2
  exact List.mem_map.mpr ⟨lo, h3, rfl⟩⟩
/-- a ring's cells are zero -/
def RZ (M : Mem) (r0 : Nat) : Prop := ∀ o, o < 37 → ∀ j, rd M (r0 + o) j = 0 ∧ rdl M (r0 + o) j = 0
theorem RB.z {g : GT} {b r0 lo o t N : Nat} {M : Mem} (hB : RB g b r0) (hz : RZ M r0) (hlo : lo < 37) (ho : pmR lo = o) (hs : shp (r0 + o) = shA t N) : encG g M (pmk (b + lo)) = .inl (gc g t, zA t N) := by
  rw [hB.2.1 lo hlo, ho]
  have h37 : o < 37 := by rw [← ho]; exact pmR_lt lo hlo
  exact enc_z hs (fun j => (hz o h37 j).1) (fun j => (hz o h37 j).2)
theorem RB.a {g : GT} {b r0 lo t : Nat} (hB : RB g b r0) (hlo : lo < 37) (ho : r0 + pmR lo = t) : ga g t = gb g + (b + lo) := by rw [← ho]; exact hB.2.2 lo hlo
theorem at_refs {D : va_G} {cl : List vw_C} {a N : Nat} {cA : ClassId} {h h' : Nat → Option Nat} {H : Heap} (hq : va_at D cl (a, .inl (cA, N, .inr (.inr (.inr (.inr h))))) H) (e : ∀ j, j < N → h j = h' j) : va_at D cl (a, .inl (cA, N, .inr (.inr (.inr (.inr h'))))) H := by
  have h1 : H[a]? = some (vp_cell cA (N, .inr (.inr (.inr (.inr h))))) := hq
  show H[a]? = some (vp_cell cA (N, .inr (.inr (.inr (.inr h')))))
  rw [h1, vp_cell_q, vp_cell_q]
  refine congrArg some ?_
  unfold arrV
  congr 1
  apply Array.ext
  · simp
  · intro i h2 h3
    have hi : i < N := by simpa using h2
    simp [e i hi]
section RINGROWS
variable {p : Program} {l : Launch} {e : Env} {R : Room} {s : State} {m : MethodId} {args : Array Value} {below : List Frame} {meth : Method} {c : Code} {H : Heap} {locs : List Loc} {cells slots : Nat} {Q : State → Prop}
variable {cc : ByteArray} {pc nL : Nat} {ls : Array Slot} {rest : List Value} {g : GT} {own : String} {Ts : List Cond} {f f' : Nat → va_E} {n n' b x r0 : Nat} {M MM : Mem} {e0 e1 e2 : va_E}
theorem k_begin (X : CxG g p s m args c cc nL own Ts) (hB : RB g b r0) (hb0 : gb g + b ≤ s.heap.size) (hP : va_P (gD g) vwCl (cwl (gb g) (fun i => if i < b then f i else encG g M (pmk i)) (b + 37)) H) (hS : va_S (AbG g) s.heap H locs) {fu index : Nat} (hm : m_X4_begin fu r0 M 4 = some MM) (cw : CallW R s args own RX4 index yX4_begin cX4_begin 4 none wsX4_begin rmX4_begin 0 0 1) (hsz : ls.size = nL) (hdg : decode cc pc = .ok (.invokevirtual index, 3)) (hcs : cells ≤ R.cells ∧ slots ≤ R.slots)
    (kk : ∀ (H1 : Heap) (locs1 : List Loc), va_P (gD g) vwCl (cwl (gb g) (fun i => if i < b then f i else encG g MM (pmk i)) (b + 37)) H1 → va_S (AbG g) s.heap H1 locs1 → W p l e R s m args below meth c H1 locs1 cells slots Q (F0 m (pc + 3) ls [])) : W p l e R s m args below meth c H locs cells slots Q (F0 m pc ls (.int 4 :: .ref (gb g + b) :: [])) := by
  have ea : ga g r0 = gb g + b := hB.a (lo := 0) (by decide) rfl
  have hc := c_X4_begin l hB.ax hB.ok hm
  rw [show ga (gR g b r0) r0 = gb g + b from ea] at hc
  have hP2 : va_P (gD g) vwCl (wlG (gR g b r0) M) H := by
    rw [hB.wl M]
    intro lo q hq
    have hlo : lo < 37 := by have := (List.getElem?_eq_some_iff.mp hq).1; rwa [cwl_len] at this
    rw [cwl_get hlo] at hq
    cases hq
    have h1 := hP (b + lo) _ (cwl_get (by omega))
    rw [if_neg (show ¬ b + lo < b by omega), hB.2.1 lo hlo, ← Nat.add_assoc] at h1
    exact h1
  have hrec : ∃ cell : Cell, H[gb g + b]? = some cell ∧ cell.vm.isStatics = false ∧ s.vm.findClass RX4 = some cell.cls := by
    have hget : (cwl (gb g) (fun i => if i < b then f i else encG g M (pmk i)) (b + 37))[b]? = some (gb g + b, .inr (4, fldsV g M r0 (flRing r0))) := by
      rw [cwl_get (by omega), if_neg (Nat.lt_irrefl b), show pmk b = r0 from hB.2.1 0 (by decide), enc_obj hB.ok.obj.2]
    exact va_recv (q := (RX4, TX4, 12)) X.2.1.2.1 hP rfl hget
  refine va_callv (va_runV (As := [.int 4]) (rest := []) X.1 hc cw ⟨PcG.blind _ _ M, hrec, fun U hU hW => ⟨rfl, (X.2.1.warm hW (by rw [hU]; exact hS)).low (by rw [hU]; exact Nat.le_trans hb0 hS.1), by rw [hU]; exact hP2⟩⟩ rfl rfl hsz rfl (lv_room (Nat.zero_le _)) hdg hcs) hS (fun q _ h => AbG.low h) (fun q h => AbG.low h) (fun u t H1 locs1 ht _ _ hB1 _ hk1 hS1 => ?_)
  have hB2 : va_P (gD g) vwCl (wlG (gR g b r0) MM) H1 := by rw [← ht]; exact hB1
  rw [hB.wl MM] at hB2
  refine kk H1 locs1 (fun i q hq => ?_) hS1
  have hi : i < b + 37 := by have := (List.getElem?_eq_some_iff.mp hq).1; rwa [cwl_len] at this
  rw [cwl_get hi] at hq
  cases hq
  by_cases h1 : i < b
  · have h2 := hP i _ (cwl_get hi)
    rw [if_pos h1] at h2 ⊢
    exact h2.kept (hk1 _ h2.lt (fun z => by have z2 : gb g + b ≤ gb g + i := z; omega))
  · obtain ⟨lo, rfl⟩ : ∃ lo, i = b + lo := ⟨i - b, by omega⟩
    rw [if_neg h1]
    have h2 := hB2 lo _ (cwl_get (by omega))
    rw [Nat.add_assoc] at h2
    rw [hB.2.1 lo (by omega)]
    exact h2
/-- a new array of laws, to be filled -/
def eL (g : GT) (r0 k : Nat) : va_E := .inl (gc g 3, 4, .inr (.inr (.inr (.inr (fun j => if j < k then some (ga g (r0 + 28 + j)) else none)))))
theorem kc_newq (X : CxG g p s m args c cc nL own Ts) (hP : va_P (gD g) vwCl (cwl (gb g) (kW g M b f e0 b e1) n) H) (hS : va_S (AbG g) s.heap H locs) (hz : s.heap.size + cells = gb g + n) (hb : b < n) {index : Nat} (hcl : Cond.classLink own index RX2 ∈ Ts) (hover : va_AO RX2 s) (hcells : cells + 1 ≤ R.cells) (hslots : slots + 4 ≤ R.slots) (hdg : decode cc pc = .ok (.anewarray index, 3))
    (kk : ∀ H1 : Heap, va_P (gD g) vwCl (cwl (gb g) (kW g M b f e0 n (eL g r0 0)) (n + 1)) H1 → va_S (AbG g) s.heap H1 locs → W p l e R s m args below meth c H1 locs (cells + 1) (slots + 4) Q (F0 m (pc + 3) ls (.ref (gb g + n) :: rest))) : W p l e R s m args below meth c H locs cells slots Q (F0 m pc ls (.int 4 :: rest)) :=
  k_newq X hP hS hz (t := 3) (N := 4) hcl hover rfl (by decide) rfl (by decide) hcells hslots hdg (fun H1 hP1 hS1 => kk H1 (cwl_re hP1 (fun i hi => by
    unfold fu1
    by_cases h : i = n
    · rw [if_pos h, h, kW_x hb]
      unfold eL
      congr 6
    · rw [if_neg h]
      unfold kW
      by_cases h1 : i < b
      · rw [if_pos h1, if_pos h1]
      · rw [if_neg h1, if_neg h1]
        by_cases h2 : i = b
        · rw [if_pos h2, if_pos h2]
        · rw [if_neg h2, if_neg h2, if_neg h2, if_neg h])) hS1)
end RINGROWS
