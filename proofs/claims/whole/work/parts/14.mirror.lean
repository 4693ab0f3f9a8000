/-! mirrors: written by wip/whole/gen/gen.py out of the printed names -/
/-! X5_state -/
def m_X5_state (M : Mem) (a1 : Int32) : Option (Int32 × Mem) :=
bnd (rd M 0 1 : Int32) fun v_1 =>
bnd (wr M 0 1 a1) fun M_3 =>
some (v_1, M_3)

/-! J7_fill_53178 -/
def b_J7_fill_53178_5 (fu : Nat) (k0 : Nat) (n0 : Nat) (s1 : Int32) (s3 : Int32)  : (Int32 × Mem) → Option ((Int32 × Mem) ⊕ (Mem)) :=
un2 fun c2 M =>
if s3 ≤ c2 then (
some (.inr M)
) else (
chk (inb c2 n0) <|
bnd (wr M k0 (ix c2) s1) fun M_5 =>
bnd (c2 + 1 : Int32) fun v_7 =>
some (.inl (v_7, M_5))
)
def m_J7_fill_53178 (fu : Nat) (k0 : Nat) (n0 : Nat) (M : Mem) (a1 : Int32) : Option (Mem) :=
bnd (Int32.ofNat n0 : Int32) fun v_1 =>
(lp (b_J7_fill_53178_5 fu k0 n0 a1 v_1) fu (0, M)).bind <| (un1 fun M_11 =>
some M_11)

/-! X4_begin -/
def b_X4_begin_7 (fu : Nat) (r0 : Nat)  : (Int32 × Mem) → Option ((Int32 × Mem) ⊕ (Mem)) :=
un2 fun c2 M =>
if 10 ≤ c2 then (
some (.inr M)
) else (
chk (inb c2 10) <|
(m_J7_fill_53178 fu (r0 + 8 + ix c2) 9 M 0).bind fun M_6 =>
bnd (wr M_6 (r0 + 8 + ix c2) (ix 0) 10) fun M_7 =>
bnd (wr M_7 (r0 + 8 + ix c2) (ix 2) c2) fun M_9 =>
bnd (wr M_9 (r0 + 8 + ix c2) (ix 5) 99) fun M_11 =>
bnd (wr M_11 (r0 + 8 + ix c2) (ix 7) (-1)) fun M_13 =>
bnd (wr M_13 (r0 + 8 + ix c2) (ix 8) (-1)) fun M_15 =>
bnd (wrl M_15 (r0 + 36) (ix c2) 0) fun M_17 =>
(m_J7_fill_53178 fu (r0 + 18 + ix c2) 4 M_17 0).bind fun M_20 =>
bnd (wr M_20 (r0 + 18 + ix c2) (ix 3) (-1)) fun M_21 =>
bnd (c2 + 1 : Int32) fun v_23 =>
some (.inl (v_23, M_21))
)
def m_X4_begin (fu : Nat) (r0 : Nat) (M : Mem) (a1 : Int32) : Option (Mem) :=
bnd (wr M r0 0 a1) fun M_1 =>
(lp (b_X4_begin_7 fu r0) fu (0, M_1)).bind <| (un1 fun M_27 =>
some M_27)

/-! X5_ring -/
def m_X5_ring (fu : Nat) (M : Mem) (a1 : Int32) : Option (Int32 × Mem) :=
if a1 < 2 then (
some (0, M)
) else (
if a1 ≤ 10 then (
(m_X4_begin fu 0 M a1).bind fun M_4 =>
some (1, M_4)
) else (
some (0, M)
)
)

/-! X4_has -/
def m_X4_has (r0 : Nat) (M : Mem) (a1 : Int32) : Option (Int32) :=
if a1 < 0 then (
some 0
) else (
if (rd M r0 0) ≤ a1 then (
some 0
) else (
some 1
)
)

/-! X5_mayBe -/
def m_X5_mayBe (i0 : Nat) (M : Mem) (a1 : Int32) (a2 : Int32) : Option (Int32) :=
if a1 < 0 then (
some 0
) else (
if (Int32.ofNat (stN i0)) ≤ a1 then (
some 0
) else (
if a2 < 0 then (
some 0
) else (
chk (inb a1 (stN i0)) <|
if (stV i0 (ix a1)) < a2 then (
some 0
) else (
some 1
)
)
)
)

/-! X5_farm -/
def m_X5_farm (M : Mem) (a1 : Int32) (a2 : Int32) (a3 : Int32) : Option (Int32 × Mem) :=
(m_X4_has 0 M a1).bind fun r_2 =>
if r_2 = 0 then (
some (0, M)
) else (
(m_X5_mayBe 0 M a2 a3).bind fun r_5 =>
if r_5 = 0 then (
some (0, M)
) else (
chk (inb a1 10) <|
chk (inb a2 9) <|
bnd (wr M (0 + 8 + ix a1) (ix a2) a3) fun M_9 =>
some (1, M_9)
)
)

/-! X5_border -/
def m_X5_border (M : Mem) (a1 : Int32) (a2 : Int32) (a3 : Int32) : Option (Int32 × Mem) :=
(m_X4_has 0 M a1).bind fun r_2 =>
if r_2 = 0 then (
some (0, M)
) else (
(m_X5_mayBe 1 M a2 a3).bind fun r_5 =>
if r_5 = 0 then (
some (0, M)
) else (
chk (inb a1 10) <|
chk (inb a2 4) <|
bnd (wr M (0 + 18 + ix a1) (ix a2) a3) fun M_9 =>
bnd (wr M_9 (0 + 18 + ix a1) (ix 2) 0) fun M_11 =>
some (1, M_11)
)
)

/-! X5_set -/
def m_X5_set (M : Mem) (a1 : Int32) (a2 : Int32) : Option (Int32 × Mem) :=
(m_X5_mayBe 2 M a1 a2).bind fun r_2 =>
if r_2 = 0 then (
some (0, M)
) else (
chk (inb a1 10) <|
bnd (wr M (0 + 1) (ix a1) a2) fun M_5 =>
some (1, M_5)
)

/-! X4_worthOf -/
def m_X4_worthOf (r0 : Nat) (M : Mem) (a1 : Int32) : Option (Int32) :=
some ((((rd M (r0 + 1) (ix 0)) * (if 10 < a1 then 10 else a1)) + ((rd M (r0 + 1) (ix 1)) * (if 0 < ((if 30 < a1 then 30 else a1) - 10) then (if 30 < a1 then 30 else a1) - 10 else 0))) + ((rd M (r0 + 1) (ix 2)) * (if 0 < (a1 - 30) then a1 - 30 else 0)))

/-! X5_worth -/
def j_X5_worth_11 (M : Mem) : Option (Int32) :=
some (-1)
def m_X5_worth (M : Mem) (a1 : Int32) : Option (Int32) :=
if a1 < 0 then (
j_X5_worth_11 M
) else (
if a1 ≤ 600 then (
(m_X4_worthOf 0 M a1).bind fun r_4 =>
some r_4
) else (
j_X5_worth_11 M
)
)

/-! X5_putBytes -/
def b_X5_putBytes_3 (fu : Nat) (s1 : Int32)  : (Int32 × Mem) → Option ((Int32 × Mem) ⊕ (Mem)) :=
un2 fun c2 M =>
if c2 < 0 then (
some (.inr M)
) else (
if 400 ≤ (rd M 146 7) then (
some (.inr M)
) else (
chk (inb (rd M 146 7) 400) <|
bnd (wr M 147 (ix (rd M 146 7)) ((ushr s1 c2) &&& 255)) fun M_4 =>
bnd (wr M_4 146 7 ((rd M_4 146 7) + 1)) fun M_6 =>
bnd (c2 + (-8) : Int32) fun v_8 =>
some (.inl (v_8, M_6))
)
)
def m_X5_putBytes (fu : Nat) (M : Mem) (a1 : Int32) : Option (Mem) :=
(lp (b_X5_putBytes_3 fu a1) fu (24, M)).bind <| (un1 fun M_12 =>
some M_12)

/-! X5_feed -/
def m_X5_feed (fu : Nat) (M : Mem) (a1 : Int32) (a2 : Int32) (a3 : Int32) (a4 : Int32) (a5 : Int32) : Option (Int32 × Mem) :=
if ((rd M 146 7) + 20) ≤ 400 then (
(m_X5_putBytes fu M a1).bind fun M_3 =>
(m_X5_putBytes fu M_3 a2).bind fun M_5 =>
(m_X5_putBytes fu M_5 a3).bind fun M_7 =>
(m_X5_putBytes fu M_7 a4).bind fun M_9 =>
(m_X5_putBytes fu M_9 a5).bind fun M_11 =>
some (rd M_11 146 7, M_11)
) else (
some ((-1), M)
)

/-! X5_end -/
def m_X5_end (M : Mem) (a1 : Int32) : Option (Int32 × Mem) :=
if a1 < 0 then (
some (0, M)
) else (
if a1 ≤ (rd M 146 7) then (
bnd (wr M 146 7 a1) fun M_3 =>
some (1, M_3)
) else (
some (0, M)
)
)

/-! X3_isLetter -/
def j_X3_isLetter_24 (M : Mem) : Option (Int32) :=
some 1
def j_X3_isLetter_12 (M : Mem) (s0 : Int32) : Option (Int32) :=
if s0 < 65 then (
some 0
) else (
if 90 < s0 then (
some 0
) else (
j_X3_isLetter_24 M
)
)
def m_X3_isLetter (M : Mem) (a0 : Int32) : Option (Int32) :=
if a0 < 97 then (
j_X3_isLetter_12 M a0
) else (
if a0 ≤ 122 then (
j_X3_isLetter_24 M
) else (
j_X3_isLetter_12 M a0
)
)

/-! X3_standsAtHand -/
def b_X3_standsAtHand_5 (fu : Nat) (M : Mem) (s1 : Int32)  : (Int32) → Option ((Int32) ⊕ ((Unit) ⊕ (Unit))) :=
un1 fun c2 =>
if (rd M 111 8) ≤ c2 then (
some (.inr (.inr ()))
) else (
chk (inb ((s1 + c2) - (rd M 111 7)) kwN) <|
chk (inb c2 400) <|
if (kwC (ix ((s1 + c2) - (rd M 111 7)))) = (rd M 113 (ix c2)) then (
bnd (c2 + 1 : Int32) fun v_7 =>
some (.inl v_7)
) else (
some (.inr (.inl ()))
)
)
def m_X3_standsAtHand (fu : Nat) (M : Mem) (a1 : Int32) : Option (Int32) :=
bnd (rd M 111 7 : Int32) fun v_1 =>
(lp (b_X3_standsAtHand_5 fu M a1) fu v_1).bind <| (unS (un0 <|
some 0)
(un0 <|
some 1))

/-! X3_keywordAtHand -/
def j_X3_keywordAtHand_51i (fu : Nat) (M : Mem) (s1 : Int32) (s3 : Int32) : Option ((Int32 × Int32 × Int32) ⊕ ((Int32) ⊕ (Unit))) :=
bnd (s1 + 1 : Int32) fun v_7 =>
bnd (s3 + 1 : Int32) fun v_9 =>
bnd (s3 + 1 : Int32) fun v_11 =>
some (.inl (v_7, v_9, v_11))
def b_X3_keywordAtHand_6 (fu : Nat) (M : Mem)  : (Int32 × Int32 × Int32) → Option ((Int32 × Int32 × Int32) ⊕ ((Int32) ⊕ (Unit))) :=
un3 fun c1 c2 c3 =>
if (Int32.ofNat kwN) ≤ c3 then (
some (.inr (.inr ()))
) else (
chk (inb c3 kwN) <|
if (kwC (ix c3)) = 32 then (
if (c3 - c2) = ((rd M 111 8) - (rd M 111 7)) then (
(m_X3_standsAtHand fu M c2).bind fun r_14 =>
if r_14 = 0 then (
j_X3_keywordAtHand_51i fu M c1 c3
) else (
some (.inr (.inl c1))
)
) else (
j_X3_keywordAtHand_51i fu M c1 c3
)
) else (
bnd (c3 + 1 : Int32) fun v_4 =>
some (.inl (c1, c2, v_4))
)
)
def m_X3_keywordAtHand (fu : Nat) (M : Mem) : Option (Int32) :=
(lp (b_X3_keywordAtHand_6 fu M) fu (0, 0, 0)).bind <| (unS (un1 fun v_18 =>
some v_18)
(un0 <|
some (-1)))

/-! X3_advanceWord -/
def b_X3_advanceWord_0 (fu : Nat)  : (Mem) → Option ((Mem) ⊕ (Mem)) :=
un1 fun M =>
if (rd M 111 6) ≤ (rd M 111 8) then (
some (.inr M)
) else (
chk (inb (rd M 111 8) 400) <|
(m_X3_isLetter M (rd M 113 (ix (rd M 111 8)))).bind fun r_4 =>
if r_4 = 0 then (
some (.inr M)
) else (
bnd (wr M 111 8 ((rd M 111 8) + 1)) fun M_6 =>
some (.inl M_6)
)
)
def j_X3_advanceWord_59 (fu : Nat) (M : Mem) (t1 : Int32) : Option (Mem) :=
bnd (wr M 111 9 t1) fun M_14 =>
some M_14
def m_X3_advanceWord (fu : Nat) (M : Mem) : Option (Mem) :=
(lp (b_X3_advanceWord_0 fu) fu M).bind <| (un1 fun M_10 =>
(m_X3_keywordAtHand fu M_10).bind fun r_12 =>
if r_12 = (-1) then (
j_X3_advanceWord_59 fu M_10 2
) else (
j_X3_advanceWord_59 fu M_10 (200 + r_12)
))

/-! X3_isDigit -/
def m_X3_isDigit (M : Mem) (a0 : Int32) : Option (Int32) :=
if a0 < 48 then (
some 0
) else (
if 57 < a0 then (
some 0
) else (
some 1
)
)

/-! X3_advanceNumber -/
def b_X3_advanceNumber_5 (fu : Nat)  : (Mem) → Option ((Mem) ⊕ (Mem)) :=
un1 fun M =>
if (rd M 111 6) ≤ (rd M 111 8) then (
some (.inr M)
) else (
chk (inb (rd M 111 8) 400) <|
(m_X3_isDigit M (rd M 113 (ix (rd M 111 8)))).bind fun r_6 =>
if r_6 = 0 then (
some (.inr M)
) else (
bnd (wr M 111 10 (((10 * (rd M 111 10)) + (rd M 113 (ix (rd M 111 8)))) - 48)) fun M_8 =>
bnd (wr M_8 111 8 ((rd M_8 111 8) + 1)) fun M_10 =>
some (.inl M_10)
)
)
def j_X3_advanceNumber_87 (fu : Nat) (M : Mem) (t1 : Int32) : Option (Mem) :=
bnd (wr M 111 9 t1) fun M_16 =>
some M_16
def m_X3_advanceNumber (fu : Nat) (M : Mem) : Option (Mem) :=
bnd (wr M 111 10 0) fun M_1 =>
(lp (b_X3_advanceNumber_5 fu) fu M_1).bind <| (un1 fun M_14 =>
if ((rd M_14 111 8) - (rd M_14 111 7)) ≤ 4 then (
j_X3_advanceNumber_87 fu M_14 1
) else (
j_X3_advanceNumber_87 fu M_14 2
))

/-! X3_isSign -/
def j_X3_isSign_36 (M : Mem) : Option (Int32) :=
some 1
def j_X3_isSign_12 (M : Mem) (s0 : Int32) : Option (Int32) :=
if s0 = 45 then (
j_X3_isSign_36 M
) else (
if s0 = 47 then (
j_X3_isSign_36 M
) else (
if s0 < 59 then (
some 0
) else (
if 62 < s0 then (
some 0
) else (
j_X3_isSign_36 M
)
)
)
)
def m_X3_isSign (M : Mem) (a0 : Int32) : Option (Int32) :=
if a0 < 40 then (
j_X3_isSign_12 M a0
) else (
if a0 ≤ 43 then (
j_X3_isSign_36 M
) else (
j_X3_isSign_12 M a0
)
)

/-! X3_advance -/
def j_X3_advance_47i (fu : Nat) (M : Mem) : Option ((Mem) ⊕ (Mem)) :=
bnd (wr M 111 7 ((rd M 111 7) + 1)) fun M_6 =>
some (.inl M_6)
def b_X3_advance_8 (fu : Nat)  : (Mem) → Option ((Mem) ⊕ (Mem)) :=
un1 fun M =>
if (rd M 111 6) ≤ (rd M 111 7) then (
some (.inr M)
) else (
chk (inb (rd M 111 7) 400) <|
if (rd M 113 (ix (rd M 111 7))) = 32 then (
j_X3_advance_47i fu M
) else (
if (rd M 113 (ix (rd M 111 7))) = 10 then (
j_X3_advance_47i fu M
) else (
some (.inr M)
)
)
)
def j_X3_advance_170 (fu : Nat) (M : Mem) (t1 : Int32) : Option (Mem) :=
bnd (wr M 111 9 t1) fun M_28 =>
some M_28
def m_X3_advance (fu : Nat) (M : Mem) : Option (Mem) :=
bnd (wr M 111 7 (rd M 111 8)) fun M_1 =>
(lp (b_X3_advance_8 fu) fu M_1).bind <| (un1 fun M_11 =>
bnd (wr M_11 111 8 (rd M_11 111 7)) fun M_12 =>
if (rd M_12 111 7) < (rd M_12 111 6) then (
chk (inb (rd M_12 111 7) 400) <|
(m_X3_isLetter M_12 (rd M_12 113 (ix (rd M_12 111 7)))).bind fun r_17 =>
if r_17 = 0 then (
(m_X3_isDigit M_12 (rd M_12 113 (ix (rd M_12 111 7)))).bind fun r_20 =>
if r_20 = 0 then (
bnd (wr M_12 111 8 ((rd M_12 111 7) + 1)) fun M_22 =>
chk (inb (rd M_22 111 7) 400) <|
(m_X3_isSign M_22 (rd M_22 113 (ix (rd M_22 111 7)))).bind fun r_26 =>
if r_26 = 0 then (
j_X3_advance_170 fu M_22 2
) else (
j_X3_advance_170 fu M_22 (rd M_22 113 (ix (rd M_22 111 7)))
)
) else (
(m_X3_advanceNumber fu M_12).bind fun M_31 =>
some M_31
)
) else (
(m_X3_advanceWord fu M_12).bind fun M_33 =>
some M_33
)
) else (
bnd (wr M_12 111 9 0) fun M_34 =>
some M_34
))

/-! X3_refuse -/
def m_X3_refuse (M : Mem) (a1 : Int32) : Option (Int32 × Mem) :=
bnd (wr M 111 3 a1) fun M_1 =>
bnd (wr M_1 111 4 (rd M_1 111 7)) fun M_3 =>
some (0, M_3)

/-! X3_expect -/
def m_X3_expect (M : Mem) (a1 : Int32) : Option (Int32 × Mem) :=
bnd (wr M 111 11 a1) fun M_1 =>
some (1, M_1)

/-! X3_readsDo -/
def m_X3_readsDo (M : Mem) : Option (Int32 × Mem) :=
if (rd M 111 9) = 200 then (
if (rd M 111 2) < 16 then (
bnd (wr M 111 2 ((rd M 111 2) + 1)) fun M_3 =>
(m_X3_expect M_3 1).bind <| un2 fun r_6 M_7 =>
chk (isB r_6) <|
some (r_6, M_7)
) else (
(m_X3_refuse M 3).bind <| un2 fun r_10 M_11 =>
chk (isB r_10) <|
some (r_10, M_11)
)
) else (
(m_X3_refuse M 1).bind <| un2 fun r_14 M_15 =>
chk (isB r_14) <|
some (r_14, M_15)
)

/-! X3_readsDoing -/
def m_X3_readsDoing (M : Mem) : Option (Int32 × Mem) :=
if (rd M 111 9) = 1 then (
if (rd M 111 10) < 4 then (
bnd (wr M 111 12 (rd M 111 10)) fun M_3 =>
(m_X3_expect M_3 2).bind <| un2 fun r_6 M_7 =>
chk (isB r_6) <|
some (r_6, M_7)
) else (
(m_X3_refuse M 2).bind <| un2 fun r_10 M_11 =>
chk (isB r_10) <|
some (r_10, M_11)
)
) else (
(m_X3_refuse M 1).bind <| un2 fun r_14 M_15 =>
chk (isB r_14) <|
some (r_14, M_15)
)

/-! X3_emit -/
def m_X3_emit (M : Mem) (a1 : Int32) : Option (Mem) :=
if (Int32.ofNat 400) ≤ (rd M 111 1) then (
some M
) else (
chk (inb (rd M 111 1) 400) <|
bnd (wr M 112 (ix (rd M 111 1)) a1) fun M_3 =>
bnd (wr M_3 111 1 ((rd M_3 111 1) + 1)) fun M_5 =>
some M_5
)

/-! X3_readsWhen -/
def m_X3_readsWhen (M : Mem) : Option (Int32 × Mem) :=
if (rd M 111 9) = 201 then (
(m_X3_expect M 3).bind <| un2 fun r_16 M_17 =>
chk (isB r_16) <|
some (r_16, M_17)
) else (
if (rd M 111 9) = 59 then (
(m_X3_emit M 1).bind fun M_4 =>
(m_X3_emit M_4 (10400 + (rd M_4 111 12))).bind fun M_6 =>
(m_X3_expect M_6 0).bind <| un2 fun r_8 M_9 =>
chk (isB r_8) <|
some (r_8, M_9)
) else (
(m_X3_refuse M 1).bind <| un2 fun r_12 M_13 =>
chk (isB r_12) <|
some (r_12, M_13)
)
)

/-! X3_readsUnit -/
def j_X3_readsUnit_54 (M : Mem) : Option (Int32 × Mem) :=
(m_X3_expect M 6).bind <| un2 fun r_10 M_11 =>
chk (isB r_10) <|
some (r_10, M_11)
def m_X3_readsUnit (M : Mem) : Option (Int32 × Mem) :=
if (rd M 111 9) = 1 then (
(m_X3_emit M (rd M 111 10)).bind fun M_14 =>
j_X3_readsUnit_54 M_14
) else (
if (rd M 111 9) < 205 then (
(m_X3_refuse M 1).bind <| un2 fun r_4 M_5 =>
chk (isB r_4) <|
some (r_4, M_5)
) else (
(m_X3_emit M ((10000 + (rd M 111 9)) - 205)).bind fun M_8 =>
j_X3_readsUnit_54 M_8
)
)

/-! X3_putSign -/
def j_X3_putSign_35 (M : Mem) (s1 : Int32) : Option (Int32 × Mem) :=
(m_X3_expect M s1).bind <| un2 fun r_3 M_4 =>
chk (isB r_3) <|
some (r_3, M_4)
def m_X3_putSign (M : Mem) (a1 : Int32) : Option (Int32 × Mem) :=
if (Int32.ofNat 400) ≤ (rd M 111 15) then (
j_X3_putSign_35 M a1
) else (
chk (inb (rd M 111 15) 400) <|
bnd (wr M 114 (ix (rd M 111 15)) (rd M 111 9)) fun M_7 =>
bnd (wr M_7 111 15 ((rd M_7 111 15) + 1)) fun M_9 =>
j_X3_putSign_35 M_9 a1
)

/-! X3_readsCondition -/
def j_X3_readsCondition_29 (M : Mem) : Option (Int32 × Mem) :=
if (rd M 111 16) < 8 then (
bnd (wr M 111 16 ((rd M 111 16) + 1)) fun M_3 =>
(m_X3_putSign M_3 3).bind <| un2 fun r_6 M_7 =>
chk (isB r_6) <|
some (r_6, M_7)
) else (
(m_X3_refuse M 3).bind <| un2 fun r_10 M_11 =>
chk (isB r_10) <|
some (r_10, M_11)
)
def m_X3_readsCondition (M : Mem) : Option (Int32 × Mem) :=
if (rd M 111 9) = 204 then (
j_X3_readsCondition_29 M
) else (
if (rd M 111 9) = 40 then (
j_X3_readsCondition_29 M
) else (
bnd (wr M 111 13 0) fun M_14 =>
(m_X3_readsUnit M_14).bind <| un2 fun r_17 M_18 =>
chk (isB r_17) <|
some (r_17, M_18)
)
)

/-! X3_readsPart -/
def m_X3_readsPart (M : Mem) : Option (Int32 × Mem) :=
if (rd M 111 9) = 1 then (
if (rd M 111 10) = 0 then (
(m_X3_refuse M 2).bind <| un2 fun r_8 M_9 =>
chk (isB r_8) <|
some (r_8, M_9)
) else (
(m_X3_readsUnit M).bind <| un2 fun r_4 M_5 =>
chk (isB r_4) <|
some (r_4, M_5)
)
) else (
(m_X3_refuse M 1).bind <| un2 fun r_12 M_13 =>
chk (isB r_12) <|
some (r_12, M_13)
)

/-! X3_rankOf -/
def m_X3_rankOf (M : Mem) (a0 : Int32) : Option (Int32) :=
if a0 = 42 then (
some 6
) else (
if a0 = 43 then (
some 5
) else (
if a0 = 45 then (
some 5
) else (
if a0 = 47 then (
some 6
) else (
if a0 = 60 then (
some 4
) else (
if a0 = 61 then (
some 4
) else (
if a0 = 62 then (
some 4
) else (
if a0 = 202 then (
some 1
) else (
if a0 = 203 then (
some 2
) else (
if a0 = 204 then (
some 3
) else (
some 0
))))))))))

/-! X3_settleSigns -/
def b_X3_settleSigns_0 (fu : Nat) (s1 : Int32)  : (Mem) → Option ((Mem) ⊕ (Mem)) :=
un1 fun M =>
if (rd M 111 15) ≤ 0 then (
some (.inr M)
) else (
chk (inb ((rd M 111 15) - 1) 400) <|
(m_X3_rankOf M (rd M 114 (ix ((rd M 111 15) - 1)))).bind fun r_4 =>
if r_4 < s1 then (
some (.inr M)
) else (
bnd (wr M 111 15 ((rd M 111 15) - 1)) fun M_6 =>
chk (inb (rd M_6 111 15) 400) <|
(m_X3_emit M_6 (10100 + (rd M_6 114 (ix (rd M_6 111 15))))).bind fun M_10 =>
chk (inb (rd M_10 111 15) 400) <|
if (rd M_10 114 (ix (rd M_10 111 15))) = 204 then (
bnd (wr M_10 111 16 ((rd M_10 111 16) - 1)) fun M_13 =>
some (.inl M_13)
) else (
some (.inl M_10)
)
)
)
def m_X3_settleSigns (fu : Nat) (M : Mem) (a1 : Int32) : Option (Mem) :=
(lp (b_X3_settleSigns_0 fu a1) fu M).bind <| (un1 fun M_17 =>
some M_17)

/-! X3_readsBehindCondition -/
def j_X3_readsBehindCondition_20 (fu : Nat) (M : Mem) : Option (Int32 × Mem) :=
(m_X3_rankOf M (rd M 111 9)).bind fun r_3 =>
(m_X3_settleSigns fu M r_3).bind fun M_5 =>
(m_X3_putSign M_5 3).bind <| un2 fun r_7 M_8 =>
chk (isB r_7) <|
some (r_7, M_8)
def j_X3_readsBehindCondition_98 (fu : Nat) (M : Mem) (s1 : Int32) (t0 : Int32) : Option (Int32 × Mem) :=
if s1 = t0 then (
if t0 = 0 then (
(m_X3_emit M (10400 + (rd M 111 12))).bind fun M_21 =>
(m_X3_expect M_21 0).bind <| un2 fun r_23 M_24 =>
chk (isB r_23) <|
some (r_23, M_24)
) else (
bnd (wr M 111 15 ((rd M 111 15) - 1)) fun M_26 =>
bnd (wr M_26 111 16 ((rd M_26 111 16) - 1)) fun M_28 =>
(m_X3_expect M_28 7).bind <| un2 fun r_31 M_32 =>
chk (isB r_31) <|
some (r_31, M_32)
)
) else (
(m_X3_refuse M 1).bind <| un2 fun r_35 M_36 =>
chk (isB r_35) <|
some (r_35, M_36)
)
def j_X3_readsBehindCondition_83 (fu : Nat) (M : Mem) (t0 : Int32) : Option (Int32 × Mem) :=
if (rd M 111 9) = 41 then (
j_X3_readsBehindCondition_98 fu M t0 1
) else (
j_X3_readsBehindCondition_98 fu M t0 0
)
def j_X3_readsBehindCondition_61 (fu : Nat) (M : Mem) : Option (Int32 × Mem) :=
(m_X3_rankOf M 202).bind fun r_13 =>
(m_X3_settleSigns fu M r_13).bind fun M_15 =>
if (rd M_15 111 15) ≤ 0 then (
j_X3_readsBehindCondition_83 fu M_15 0
) else (
j_X3_readsBehindCondition_83 fu M_15 1
)
def m_X3_readsBehindCondition (fu : Nat) (M : Mem) : Option (Int32 × Mem) :=
if (rd M 111 9) = 203 then (
j_X3_readsBehindCondition_20 fu M
) else (
if (rd M 111 9) = 202 then (
j_X3_readsBehindCondition_20 fu M
) else (
if (rd M 111 9) = 41 then (
j_X3_readsBehindCondition_61 fu M
) else (
if (rd M 111 9) = 59 then (
j_X3_readsBehindCondition_61 fu M
) else (
(m_X3_refuse M 1).bind <| un2 fun r_40 M_41 =>
chk (isB r_40) <|
some (r_40, M_41)
)
)
)
)

/-! X3_readsBehindUnit -/
def j_X3_readsBehindUnit_41 (fu : Nat) (M : Mem) (t1 : Int32) : Option (Int32 × Mem) :=
(m_X3_putSign M t1).bind <| un2 fun r_36 M_37 =>
chk (isB r_36) <|
some (r_36, M_37)
def m_X3_readsBehindUnit (fu : Nat) (M : Mem) : Option (Int32 × Mem) :=
(m_X3_rankOf M (rd M 111 9)).bind fun r_2 =>
(m_X3_rankOf M 60).bind fun r_4 =>
if r_2 ≤ r_4 then (
if (rd M 111 13) = 0 then (
(m_X3_rankOf M (rd M 111 9)).bind fun r_8 =>
(m_X3_rankOf M 60).bind fun r_10 =>
if r_10 ≤ r_8 then (
bnd (wr M 111 13 1) fun M_12 =>
(m_X3_rankOf M_12 (rd M_12 111 9)).bind fun r_15 =>
(m_X3_settleSigns fu M_12 r_15).bind fun M_17 =>
(m_X3_putSign M_17 4).bind <| un2 fun r_19 M_20 =>
chk (isB r_19) <|
some (r_19, M_20)
) else (
(m_X3_refuse M 1).bind <| un2 fun r_23 M_24 =>
chk (isB r_23) <|
some (r_23, M_24)
)
) else (
(m_X3_readsBehindCondition fu M).bind <| un2 fun r_27 M_28 =>
chk (isB r_27) <|
some (r_27, M_28)
)
) else (
(m_X3_rankOf M (rd M 111 9)).bind fun r_31 =>
(m_X3_settleSigns fu M r_31).bind fun M_33 =>
if (rd M_33 111 9) = 47 then (
j_X3_readsBehindUnit_41 fu M_33 5
) else (
j_X3_readsBehindUnit_41 fu M_33 4
)
)

/-! X3_readsToken -/
def m_X3_readsToken (fu : Nat) (M : Mem) : Option (Int32 × Mem) :=
bnd (rd M 111 11 : Int32) fun v_1 =>
if v_1 = 0 then (
(m_X3_readsDo M).bind <| un2 fun r_5 M_6 =>
chk (isB r_5) <|
some (r_5, M_6)
) else (
if v_1 = 1 then (
(m_X3_readsDoing M).bind <| un2 fun r_10 M_11 =>
chk (isB r_10) <|
some (r_10, M_11)
) else (
if v_1 = 2 then (
(m_X3_readsWhen M).bind <| un2 fun r_15 M_16 =>
chk (isB r_15) <|
some (r_15, M_16)
) else (
if v_1 = 3 then (
(m_X3_readsCondition M).bind <| un2 fun r_20 M_21 =>
chk (isB r_20) <|
some (r_20, M_21)
) else (
if v_1 = 4 then (
(m_X3_readsUnit M).bind <| un2 fun r_25 M_26 =>
chk (isB r_25) <|
some (r_25, M_26)
) else (
if v_1 = 5 then (
(m_X3_readsPart M).bind <| un2 fun r_30 M_31 =>
chk (isB r_30) <|
some (r_30, M_31)
) else (
if v_1 = 6 then (
(m_X3_readsBehindUnit fu M).bind <| un2 fun r_35 M_36 =>
chk (isB r_35) <|
some (r_35, M_36)
) else (
(m_X3_readsBehindCondition fu M).bind <| un2 fun r_39 M_40 =>
chk (isB r_39) <|
some (r_39, M_40)
)))))))

/-! X3_accepts -/
def b_X3_accepts_62 (fu : Nat) (k1 : Nat)  : (Int32 × Mem) → Option ((Int32 × Mem) ⊕ ((Mem) ⊕ (Mem))) :=
un2 fun c3 M =>
if (rd M 111 6) ≤ c3 then (
some (.inr (.inr M))
) else (
if (rd M 111 9) = 0 then (
some (.inr (.inr M))
) else (
(m_X3_readsToken fu M).bind <| un2 fun r_27 M_28 =>
if r_27 = 0 then (
some (.inr (.inl M_28))
) else (
(m_X3_advance fu M_28).bind fun M_31 =>
bnd (c3 + 1 : Int32) fun v_32 =>
some (.inl (v_32, M_31))
)
)
)
def j_X3_accepts_111 (fu : Nat) (k1 : Nat) (M : Mem) : Option (Int32 × Mem) :=
some (1, M)
def m_X3_accepts (fu : Nat) (k1 : Nat) (M : Mem) (a2 : Int32) : Option (Int32 × Mem) :=
chk (cpOk 0 0 a2 400 400) <|
bnd (cpM M k1 0 113 0 a2) fun M_2 =>
bnd (wr M_2 111 6 a2) fun M_4 =>
bnd (wr M_4 111 8 0) fun M_6 =>
bnd (wr M_6 111 1 0) fun M_8 =>
bnd (wr M_8 111 2 0) fun M_10 =>
bnd (wr M_10 111 3 0) fun M_12 =>
bnd (wr M_12 111 4 (-1)) fun M_14 =>
bnd (wr M_14 111 11 0) fun M_16 =>
bnd (wr M_16 111 15 0) fun M_18 =>
bnd (wr M_18 111 16 0) fun M_20 =>
(m_X3_advance fu M_20).bind fun M_23 =>
(lp (b_X3_accepts_62 fu k1) fu (0, M_23)).bind <| (unS (un1 fun M_36 =>
some (0, M_36))
(un1 fun M_37 =>
if (rd M_37 111 11) = 0 then (
j_X3_accepts_111 fu k1 M_37
) else (
(m_X3_refuse M_37 1).bind <| un2 fun r_40 M_41 =>
if r_40 = 0 then (
some (0, M_41)
) else (
j_X3_accepts_111 fu k1 M_41
)
)))

/-! X2_take -/
def m_X2_take (l0 : Nat) (k1 : Nat) (M : Mem) (a2 : Int32) : Option (Mem) :=
chk (cpOk 0 0 a2 400 400) <|
bnd (cpM M k1 0 (l0 + 4) 0 a2) fun M_2 =>
bnd (wr M_2 l0 1 a2) fun M_4 =>
some M_4

/-! X5_text -/
def m_X5_text (fu : Nat) (M : Mem) (a1 : Int32) : Option (Int32 × Mem) :=
bnd (rd M 146 7 : Int32) fun v_1 =>
bnd (wr M 146 7 0) fun M_3 =>
bnd (wr M_3 146 8 0) fun M_5 =>
bnd (wr M_5 146 9 (-1)) fun M_7 =>
if a1 < 0 then (
some ((-1), M_7)
) else (
if a1 < 4 then (
(m_X3_accepts fu 147 M_7 v_1).bind <| un2 fun r_12 M_13 =>
if r_12 = 0 then (
bnd (wr M_13 146 8 (rd M_13 111 3)) fun M_18 =>
bnd (wr M_18 146 9 (rd M_18 111 4)) fun M_20 =>
some ((-1), M_20)
) else (
chk (inb a1 4) <|
(m_X2_take (0 + 28 + ix a1) 112 M_13 (rd M_13 111 1)).bind fun M_17 =>
some (rd M_17 111 2, M_17)
)
) else (
some ((-1), M_7)
)
)

/-! X5_fault -/
def m_X5_fault (M : Mem) (a1 : Int32) : Option (Int32) :=
if a1 = 0 then (
some (rd M 146 8)
) else (
if a1 = 1 then (
some (rd M 146 9)
) else (
some (-1)
)
)

/-! X4_purseAsInt -/
def m_X4_purseAsInt (r0 : Nat) (M : Mem) (a1 : Int32) : Option (Int32) :=
chk (inb a1 10) <|
some ((rdl M (r0 + 36) (ix a1)).toInt32)

/-! X4_negate -/
def j_X4_negate_27 (r0 : Nat) (M : Mem) (t1 : Int32) (t2 : Int32) : Option (Mem) :=
chk (inb t1 400) <|
bnd (wr M (r0 + 7) (ix t1) t2) fun M_5 =>
some M_5
def m_X4_negate (r0 : Nat) (M : Mem) (a1 : Int32) : Option (Mem) :=
if a1 ≤ 0 then (
some M
) else (
chk (inb (a1 - 1) 400) <|
if (rd M (r0 + 7) (ix (a1 - 1))) = 0 then (
j_X4_negate_27 r0 M (a1 - 1) 1
) else (
j_X4_negate_27 r0 M (a1 - 1) 0
)
)

/-! X2_joined -/
def m_X2_joined (M : Mem) (a0 : Int32) (a1 : Int32) (a2 : Int32) : Option (Int32) :=
if a0 = 42 then (
some (a1 * a2)
) else (
if a0 = 43 then (
some (a1 + a2)
) else (
if a0 = 45 then (
some (a1 - a2)
) else (
if a0 = 47 then (
if a2 = 0 then (
some 0
) else (
chk (!decide (a2 = 0)) <|
some (a1 / a2)
)
) else (
if a0 = 60 then (
if a2 ≤ a1 then (
some 0
) else (
some 1
)
) else (
if a0 = 61 then (
if a1 = a2 then (
some 1
) else (
some 0
)
) else (
if a0 = 62 then (
if a1 ≤ a2 then (
some 0
) else (
some 1
)
) else (
if a0 = 203 then (
some (a1 &&& a2)
) else (
some (a1 ||| a2)
))))))))

/-! X4_join -/
def m_X4_join (r0 : Nat) (M : Mem) (a1 : Int32) (a2 : Int32) : Option (Int32 × Mem) :=
if 2 ≤ a2 then (
chk (inb (a2 - 2) 400) <|
chk (inb (a2 - 1) 400) <|
(m_X2_joined M a1 (rd M (r0 + 7) (ix (a2 - 2))) (rd M (r0 + 7) (ix (a2 - 1)))).bind fun r_5 =>
bnd (wr M (r0 + 7) (ix (a2 - 2)) r_5) fun M_6 =>
some (a2 - 1, M_6)
) else (
some (a2, M)
)

/-! X4_leftOf -/
def m_X4_leftOf (r0 : Nat) (M : Mem) (a1 : Int32) : Option (Int32) :=
if a1 = 0 then (
some ((rd M r0 0) - 1)
) else (
some (a1 - 1)
)

/-! X4_rightOf -/
def m_X4_rightOf (r0 : Nat) (M : Mem) (a1 : Int32) : Option (Int32) :=
if a1 = ((rd M r0 0) - 1) then (
some 0
) else (
some (a1 + 1)
)

/-! X4_seen -/
def m_X4_seen (r0 : Nat) (M : Mem) (a1 : Int32) (a2 : Int32) : Option (Int32) :=
chk (inb a1 10) <|
(m_X4_leftOf r0 M a1).bind fun r_3 =>
(m_X4_rightOf r0 M a1).bind fun r_5 =>
bnd (rd M (r0 + 8 + ix a1) (ix 0) : Int32) fun v_6 =>
if a2 = 0 then (
some v_6
) else (
if a2 = 1 then (
chk (inb r_3 10) <|
some (rd M (r0 + 8 + ix r_3) (ix 0))
) else (
if a2 = 2 then (
chk (inb r_5 10) <|
some (rd M (r0 + 8 + ix r_5) (ix 0))
) else (
if a2 = 3 then (
(m_X4_worthOf r0 M (v_6 + (rd M (r0 + 1) (ix 9)))).bind fun r_15 =>
(m_X4_worthOf r0 M v_6).bind fun r_17 =>
some (r_15 - r_17)
) else (
if a2 = 4 then (
(m_X4_worthOf r0 M v_6).bind fun r_20 =>
(m_X4_worthOf r0 M (if 0 < (v_6 - (rd M (r0 + 1) (ix 9))) then v_6 - (rd M (r0 + 1) (ix 9)) else 0)).bind fun r_22 =>
some (r_20 - r_22)
) else (
if a2 = 5 then (
some (rd M r0 2)
) else (
if a2 = 6 then (
some (rd M (r0 + 8 + ix a1) (ix 5))
) else (
if a2 = 7 then (
some (rd M (r0 + 8 + ix a1) (ix 3))
) else (
if a2 = 8 then (
chk (inb r_3 10) <|
some (rd M (r0 + 8 + ix r_3) (ix 3))
) else (
if a2 = 9 then (
chk (inb r_5 10) <|
some (rd M (r0 + 8 + ix r_5) (ix 3))
) else (
if a2 = 10 then (
chk (inb r_3 10) <|
if (rd M (r0 + 8 + ix r_3) (ix 2)) = (rd M (r0 + 8 + ix a1) (ix 2)) then (
some 1
) else (
some 0
)
) else (
if a2 = 11 then (
chk (inb r_5 10) <|
if (rd M (r0 + 8 + ix r_5) (ix 2)) = (rd M (r0 + 8 + ix a1) (ix 2)) then (
some 1
) else (
some 0
)
) else (
if a2 = 12 then (
chk (inb r_3 10) <|
some (rd M (r0 + 18 + ix r_3) (ix 0))
) else (
if a2 = 13 then (
some (rd M (r0 + 18 + ix a1) (ix 0))
) else (
(m_X4_purseAsInt r0 M a1).bind fun r_40 =>
some r_40
))))))))))))))

/-! X4_does -/
def j_X4_does_162i (fu : Nat) (r0 : Nat) (M : Mem) (s1 : Int32) (s2 : Nat) (s3 : Int32) (s4 : Int32) (t1 : Int32) (t2 : Int32) : Option ((Int32 × Int32 × Mem) ⊕ ((Int32 × Mem) ⊕ (Mem))) :=
chk (inb t1 400) <|
bnd (wr M (r0 + 7) (ix t1) t2) fun M_16 =>
bnd (s3 + 1 : Int32) fun v_18 =>
bnd (s4 + 1 : Int32) fun v_20 =>
some (.inl (v_18, v_20, M_16))
def j_X4_does_80i (fu : Nat) (r0 : Nat) (M : Mem) (s1 : Int32) (s2 : Nat) (s4 : Int32) : Option ((Int32 × Int32 × Mem) ⊕ ((Int32 × Mem) ⊕ (Mem))) :=
bnd (s4 + 1 : Int32) fun v_34 =>
some (.inl (0, v_34, M))
def b_X4_does_32 (fu : Nat) (r0 : Nat) (s1 : Int32) (s2 : Nat)  : (Int32 × Int32 × Mem) → Option ((Int32 × Int32 × Mem) ⊕ ((Int32 × Mem) ⊕ (Mem))) :=
un3 fun c3 c4 M =>
if (rd M s2 1) ≤ c4 then (
some (.inr (.inr M))
) else (
chk (inb c4 400) <|
bnd (rd M (s2 + 4) (ix c4) : Int32) fun v_6 =>
if v_6 < 10400 then (
if v_6 = 10304 then (
(m_X4_negate r0 M c3).bind fun M_30 =>
bnd (c4 + 1 : Int32) fun v_31 =>
some (.inl (c3, v_31, M_30))
) else (
if v_6 < 10100 then (
if (Int32.ofNat 400) ≤ c3 then (
bnd (c4 + 1 : Int32) fun v_12 =>
some (.inl (c3, v_12, M))
) else (
if v_6 < 10000 then (
j_X4_does_162i fu r0 M s1 s2 c3 c4 c3 v_6
) else (
(m_X4_seen r0 M s1 (v_6 - 10000)).bind fun r_23 =>
j_X4_does_162i fu r0 M s1 s2 c3 c4 c3 r_23
)
)
) else (
(m_X4_join r0 M (v_6 - 10100) c3).bind <| un2 fun r_25 M_26 =>
bnd (c4 + 1 : Int32) fun v_27 =>
some (.inl (r_25, v_27, M_26))
)
)
) else (
if c3 ≤ 0 then (
j_X4_does_80i fu r0 M s1 s2 c4
) else (
chk (inb (c3 - 1) 400) <|
if (rd M (r0 + 7) (ix (c3 - 1))) = 0 then (
j_X4_does_80i fu r0 M s1 s2 c4
) else (
some (.inr (.inl (v_6, M)))
)
)
)
)
def m_X4_does (fu : Nat) (r0 : Nat) (M : Mem) (a1 : Int32) : Option (Int32 × Mem) :=
chk (inb a1 10) <|
if (rd M (r0 + 8 + ix a1) (ix 0)) = 0 then (
some (0, M)
) else (
chk (inb (rd M (r0 + 8 + ix a1) (ix 1)) 4) <|
(lp (b_X4_does_32 fu r0 a1 (r0 + 28 + ix (rd M (r0 + 8 + ix a1) (ix 1)))) fu (0, 0, M)).bind <| (unS (un2 fun v_40 M_41 =>
some (v_40 - 10400, M_41))
(un1 fun M_42 =>
some (0, M_42)))
)

/-! X5_of -/
def m_X5_of (fu : Nat) (M : Mem) (a1 : Int32) (a2 : Int32) : Option (Int32 × Mem) :=
(m_X4_has 0 M a1).bind fun r_2 =>
if r_2 = 0 then (
some ((-100000000), M)
) else (
if a2 < 0 then (
some ((-100000000), M)
) else (
if a2 ≤ 8 then (
if a2 = 4 then (
(m_X4_purseAsInt 0 M a1).bind fun r_8 =>
some (r_8, M)
) else (
if a2 = 8 then (
(m_X4_does fu 0 M a1).bind <| un2 fun r_11 M_12 =>
some (r_11, M_12)
) else (
chk (inb a1 10) <|
chk (inb a2 9) <|
some (rd M (0 + 8 + ix a1) (ix a2), M)
))
) else (
some ((-100000000), M)
)
)
)

/-! X5_stake -/
def m_X5_stake (M : Mem) (a1 : Int32) (a2 : Int32) : Option (Int32) :=
(m_X4_has 0 M a1).bind fun r_2 =>
if r_2 = 0 then (
some (-2)
) else (
if a2 < 0 then (
some (-2)
) else (
if a2 < 4 then (
chk (inb a1 10) <|
chk (inb a2 4) <|
some (rd M (0 + 18 + ix a1) (ix a2))
) else (
some (-2)
)
)
)

/-! X4_draw -/
def m_X4_draw (r0 : Nat) (M : Mem) : Option (Int32 × Mem) :=
bnd (wr M r0 1 ((1664525 * (rd M r0 1)) + 1013904223)) fun M_1 =>
some (irem (ushr (rd M_1 r0 1) 8) 1000, M_1)

/-! X4_stopsOne -/
def m_X4_stopsOne (r0 : Nat) (M : Mem) (a1 : Int32) : Option (Int32 × Mem) :=
chk (inb a1 10) <|
if (rd M (r0 + 5) (ix a1)) = 1 then (
(m_X4_draw r0 M).bind <| un2 fun r_9 M_10 =>
if (rd M_10 (r0 + 1) (ix 7)) ≤ r_9 then (
some (0, M_10)
) else (
some (1, M_10)
)
) else (
if (rd M (r0 + 8 + ix a1) (ix 3)) = 0 then (
some (0, M)
) else (
(m_X4_draw r0 M).bind <| un2 fun r_5 M_6 =>
if (rd M_6 (r0 + 1) (ix 8)) ≤ r_5 then (
some (0, M_6)
) else (
some (1, M_6)
)
)
)

/-! X4_creep -/
def j_X4_creep_138 (r0 : Nat) (M : Mem) (s1 : Int32) (s2 : Int32) (s3 : Nat) (s4 : Nat) (t0 : Nat) (t1 : Int32) (t2 : Int32) : Option (Mem) :=
chk (inb t1 4) <|
bnd (wr M t0 (ix t1) t2) fun M_19 =>
bnd (wr M_19 s3 (ix 3) s1) fun M_21 =>
if (rd M_21 s3 (ix 2)) ≤ (rd M_21 s3 (ix 1)) then (
some M_21
) else (
bnd (wr M_21 s3 (ix 2) 0) fun M_24 =>
chk (inb s2 10) <|
bnd ((if (rd M_24 (r0 + 8 + ix s2) (ix 0)) < (rd M_24 (r0 + 1) (ix 9)) then rd M_24 (r0 + 8 + ix s2) (ix 0) else rd M_24 (r0 + 1) (ix 9)) : Int32) fun v_27 =>
bnd (wr M_24 (r0 + 8 + ix s2) (ix 0) ((rd M_24 (r0 + 8 + ix s2) (ix 0)) - v_27)) fun M_29 =>
bnd (wr M_29 s4 (ix 0) ((rd M_29 s4 (ix 0)) + v_27)) fun M_31 =>
bnd (wr M_31 r0 3 ((rd M_31 r0 3) + v_27)) fun M_33 =>
bnd (wr M_33 (r0 + 6) (ix s2) 1) fun M_35 =>
some M_35
)
def j_X4_creep_43 (r0 : Nat) (M : Mem) (s1 : Int32) (s2 : Int32) (t1 : Int32) : Option (Mem) :=
chk (inb t1 10) <|
chk (inb s1 10) <|
if (rd M (r0 + 18 + ix t1) (ix 0)) = 0 then (
if (rd M (r0 + 1) (ix 9)) = 0 then (
some M
) else (
chk (inb s2 10) <|
if (rd M (r0 + 8 + ix s2) (ix 0)) = 0 then (
some M
) else (
(m_X4_stopsOne r0 M s2).bind <| un2 fun r_14 M_15 =>
if r_14 = 0 then (
if (rd M_15 (r0 + 18 + ix t1) (ix 3)) = s1 then (
j_X4_creep_138 r0 M_15 s1 s2 (r0 + 18 + ix t1) (r0 + 8 + ix s1) (r0 + 18 + ix t1) 2 ((rd M_15 (r0 + 18 + ix t1) (ix 2)) + 1)
) else (
j_X4_creep_138 r0 M_15 s1 s2 (r0 + 18 + ix t1) (r0 + 8 + ix s1) (r0 + 18 + ix t1) 2 1
)
) else (
bnd (wr M_15 (r0 + 8 + ix s1) (ix 6) ((rd M_15 (r0 + 8 + ix s1) (ix 6)) + 1)) fun M_37 =>
bnd (wrl M_37 (r0 + 36) (ix s1) ((rdl M_37 (r0 + 36) (ix s1)) - ((rd M_37 (r0 + 1) (ix 6)).toInt64))) fun M_39 =>
bnd (wr M_39 (r0 + 18 + ix t1) (ix 2) 0) fun M_41 =>
some M_41
)
)
)
) else (
some M
)
def j_X4_creep_23 (r0 : Nat) (M : Mem) (s1 : Int32) (t0 : Int32) : Option (Mem) :=
chk (inb s1 10) <|
if (rd M (r0 + 5) (ix s1)) = 2 then (
j_X4_creep_43 r0 M s1 t0 t0
) else (
j_X4_creep_43 r0 M s1 t0 s1
)
def m_X4_creep (r0 : Nat) (M : Mem) (a1 : Int32) : Option (Mem) :=
chk (inb a1 10) <|
if (rd M (r0 + 5) (ix a1)) = 2 then (
(m_X4_leftOf r0 M a1).bind fun r_44 =>
j_X4_creep_23 r0 M a1 r_44
) else (
(m_X4_rightOf r0 M a1).bind fun r_4 =>
j_X4_creep_23 r0 M a1 r_4
)

/-! X4_costOf -/
def j_X4_costOf_21 (r0 : Nat) (M : Mem) (s2 : Int32) (t0 : Int32) : Option (Int32) :=
if s2 = 1 then (
bnd (t0 + (rd M (r0 + 1) (ix 4)) : Int32) fun v_7 =>
some v_7
) else (
if s2 = 0 then (
some t0
) else (
bnd (t0 + (rd M (r0 + 1) (ix 3)) : Int32) fun v_5 =>
some v_5
)
)
def m_X4_costOf (r0 : Nat) (M : Mem) (a1 : Int32) (a2 : Int32) : Option (Int32) :=
chk (inb a1 10) <|
if (rd M (r0 + 8 + ix a1) (ix 3)) = 0 then (
j_X4_costOf_21 r0 M a2 0
) else (
j_X4_costOf_21 r0 M a2 (rd M (r0 + 1) (ix 5))
)

/-! X4_settle -/
def j_X4_settle_61 (r0 : Nat) (M : Mem) (s2 : Nat) (t0 : Nat) (t1 : Int32) (t2 : Int32) : Option (Mem) :=
chk (inb t1 9) <|
bnd (wr M t0 (ix t1) t2) fun M_10 =>
if (rd M_10 s2 (ix 0)) = 0 then (
if (rd M_10 s2 (ix 7)) = (-1) then (
bnd (wr M_10 s2 (ix 7) (rd M_10 r0 2)) fun M_14 =>
some M_14
) else (
some M_10
)
) else (
some M_10
)
def m_X4_settle (r0 : Nat) (M : Mem) (a1 : Int32) : Option (Mem) :=
chk (inb a1 10) <|
(m_X4_worthOf r0 M (rd M (r0 + 8 + ix a1) (ix 0))).bind fun r_3 =>
(m_X4_costOf r0 M a1 (rd M (r0 + 5) (ix a1))).bind fun r_5 =>
bnd (wrl M (r0 + 36) (ix a1) ((rdl M (r0 + 36) (ix a1)) + ((r_3 - r_5).toInt64))) fun M_6 =>
if (rd M_6 (r0 + 6) (ix a1)) = 0 then (
j_X4_settle_61 r0 M_6 (r0 + 8 + ix a1) (r0 + 8 + ix a1) 5 (if ((rd M_6 (r0 + 8 + ix a1) (ix 5)) + 1) < 99 then (rd M_6 (r0 + 8 + ix a1) (ix 5)) + 1 else 99)
) else (
j_X4_settle_61 r0 M_6 (r0 + 8 + ix a1) (r0 + 8 + ix a1) 5 0
)

/-! X4_pass -/
def b_X4_pass_9 (fu : Nat) (r0 : Nat) (s1 : Int32) (s2 : Int32)  : (Int32 × Mem) → Option ((Int32 × Mem) ⊕ (Mem)) :=
un2 fun c3 M =>
if (rd M r0 0) ≤ c3 then (
some (.inr M)
) else (
(m_X4_does fu r0 M c3).bind <| un2 fun r_4 M_5 =>
chk (inb c3 10) <|
bnd (wr M_5 (r0 + 5) (ix c3) r_4) fun M_7 =>
bnd (wr M_7 (r0 + 6) (ix c3) 0) fun M_9 =>
bnd (c3 + 1 : Int32) fun v_11 =>
some (.inl (v_11, M_9))
)
def j_X4_pass_71i (fu : Nat) (r0 : Nat) (M : Mem) (s1 : Int32) (s2 : Int32) (s3 : Int32) : Option ((Int32 × Mem) ⊕ (Mem)) :=
(m_X4_creep r0 M s3).bind fun M_20 =>
bnd (s3 + 1 : Int32) fun v_21 =>
some (.inl (v_21, M_20))
def b_X4_pass_43 (fu : Nat) (r0 : Nat) (s1 : Int32) (s2 : Int32)  : (Int32 × Mem) → Option ((Int32 × Mem) ⊕ (Mem)) :=
un2 fun c3 M =>
if (rd M r0 0) ≤ c3 then (
some (.inr M)
) else (
chk (inb c3 10) <|
if (rd M (r0 + 5) (ix c3)) = 2 then (
j_X4_pass_71i fu r0 M s1 s2 c3
) else (
if (rd M (r0 + 5) (ix c3)) = 3 then (
j_X4_pass_71i fu r0 M s1 s2 c3
) else (
bnd (c3 + 1 : Int32) fun v_24 =>
some (.inl (v_24, M))
)
)
)
def b_X4_pass_84 (fu : Nat) (r0 : Nat) (s1 : Int32) (s2 : Int32)  : (Int32 × Mem) → Option ((Int32 × Mem) ⊕ (Mem)) :=
un2 fun c3 M =>
if (rd M r0 0) ≤ c3 then (
some (.inr M)
) else (
(m_X4_settle r0 M c3).bind fun M_31 =>
bnd (c3 + 1 : Int32) fun v_32 =>
some (.inl (v_32, M_31))
)
def b_X4_pass_2 (fu : Nat) (r0 : Nat) (s1 : Int32)  : (Int32 × Mem) → Option ((Int32 × Mem) ⊕ (Mem)) :=
un2 fun c2 M =>
if s1 ≤ c2 then (
some (.inr M)
) else (
(lp (b_X4_pass_9 fu r0 s1 c2) fu (0, M)).bind <| (un1 fun M_15 =>
(lp (b_X4_pass_43 fu r0 s1 c2) fu (0, M_15)).bind <| (un1 fun M_28 =>
(lp (b_X4_pass_84 fu r0 s1 c2) fu (0, M_28)).bind <| (un1 fun M_36 =>
bnd (wr M_36 r0 2 ((rd M_36 r0 2) + 1)) fun M_37 =>
bnd (c2 + 1 : Int32) fun v_39 =>
some (.inl (v_39, M_37)))))
)
def m_X4_pass (fu : Nat) (r0 : Nat) (M : Mem) (a1 : Int32) : Option (Mem) :=
(lp (b_X4_pass_2 fu r0 a1) fu (0, M)).bind <| (un1 fun M_43 =>
some M_43)

/-! X5_nights -/
def m_X5_nights (fu : Nat) (M : Mem) (a1 : Int32) : Option (Int32 × Mem) :=
if a1 < 1 then (
some ((-1), M)
) else (
if 99 < a1 then (
some ((-1), M)
) else (
if ((rd M 0 2) + a1) ≤ 9999 then (
bnd (rd M 0 3 : Int32) fun v_4 =>
(m_X4_pass fu 0 M a1).bind fun M_7 =>
some ((rd M_7 0 3) - v_4, M_7)
) else (
some ((-1), M)
)
)
)

/-! X4_hasRow -/
def m_X4_hasRow (r0 : Nat) (M : Mem) (a1 : Int32) : Option (Int32) :=
if a1 < 0 then (
some 0
) else (
if (ishl 1 (2 * (rd M r0 0))) ≤ a1 then (
some 0
) else (
some 1
)
)

/-! X0_digit -/
def m_X0_digit (r0 : Nat) (M : Mem) (a1 : Int32) (a2 : Int32) : Option (Int32) :=
some ((ishr a1 (2 * (((rd M r0 0) - 1) - a2))) &&& 3)

/-! X0_canMove -/
def m_X0_canMove (r0 : Nat) (M : Mem) (a1 : Int32) (a2 : Int32) (a3 : Int32) : Option (Int32) :=
chk (inb a1 10) <|
if (rd M (r0 + 18 + ix a1) (ix 0)) = 0 then (
if (rd M (r0 + 1) (ix 9)) ≤ 0 then (
some 0
) else (
chk (inb a2 10) <|
if (rd M (r0 + 8 + ix a2) (ix 0)) ≤ 0 then (
some 0
) else (
chk (inb a3 10) <|
if (rd M (r0 + 8 + ix a3) (ix 0)) ≤ 0 then (
some 0
) else (
some 1
)
)
)
) else (
some 0
)

/-! X0_chance -/
def j_X0_chance_47 (r0 : Nat) (M : Mem) (s1 : Int32) (s4 : Int32) : Option (Int32) :=
chk (inb s1 10) <|
bnd (1 + (rd M (r0 + 18 + ix s1) (ix 1)) : Int32) fun v_5 =>
if v_5 ≤ 1 then (
some s4
) else (
chk (!decide (v_5 = 0)) <|
some (s4 / v_5)
)
def m_X0_chance (r0 : Nat) (M : Mem) (a1 : Int32) (a2 : Int32) (a3 : Int32) : Option (Int32) :=
if a3 = 0 then (
chk (inb a2 10) <|
if (rd M (r0 + 8 + ix a2) (ix 3)) = 0 then (
j_X0_chance_47 r0 M a1 1000
) else (
bnd (1000 - (rd M (r0 + 1) (ix 8)) : Int32) fun v_9 =>
j_X0_chance_47 r0 M a1 v_9
)
) else (
bnd (1000 - (rd M (r0 + 1) (ix 7)) : Int32) fun v_11 =>
j_X0_chance_47 r0 M a1 v_11
)

/-! X0_gain -/
def m_X0_gain (r0 : Nat) (M : Mem) (a1 : Int32) (a2 : Int32) (a3 : Int32) (a4 : Int32) : Option (Int32) :=
(m_X0_canMove r0 M a1 a2 a3).bind fun r_2 =>
if r_2 = 0 then (
some 0
) else (
chk (inb a2 10) <|
bnd (rd M (r0 + 8 + ix a2) (ix 0) : Int32) fun v_5 =>
chk (inb a3 10) <|
bnd ((if (rd M (r0 + 8 + ix a3) (ix 0)) < (rd M (r0 + 1) (ix 9)) then rd M (r0 + 8 + ix a3) (ix 0) else rd M (r0 + 1) (ix 9)) : Int32) fun v_8 =>
(m_X0_chance r0 M a1 a3 a4).bind fun r_11 =>
(m_X4_worthOf r0 M (v_5 + v_8)).bind fun r_13 =>
(m_X4_worthOf r0 M v_5).bind fun r_15 =>
some ((r_11 * (r_13 - r_15)) - ((1000 - r_11) * (rd M (r0 + 1) (ix 6))))
)

/-! X0_loss -/
def m_X0_loss (r0 : Nat) (M : Mem) (a1 : Int32) (a2 : Int32) (a3 : Int32) (a4 : Int32) : Option (Int32) :=
(m_X0_canMove r0 M a1 a2 a3).bind fun r_2 =>
if r_2 = 0 then (
some 0
) else (
chk (inb a2 10) <|
bnd (rd M (r0 + 8 + ix a2) (ix 0) : Int32) fun v_5 =>
bnd ((if v_5 < (rd M (r0 + 1) (ix 9)) then v_5 else rd M (r0 + 1) (ix 9)) : Int32) fun v_7 =>
(m_X0_chance r0 M a1 a2 a4).bind fun r_10 =>
(m_X4_worthOf r0 M v_5).bind fun r_12 =>
(m_X4_worthOf r0 M (v_5 - v_7)).bind fun r_14 =>
some (r_10 * (r_12 - r_14))
)

/-! X0_mean -/
def j_X0_mean_138 (r0 : Nat) (M : Mem) (t0 : Int32) (t2 : Int32) (t3 : Int32) (t4 : Int32) (t5 : Int32) : Option (Int32) :=
(m_X0_loss r0 M t2 t3 t4 t5).bind fun r_15 =>
bnd (t0 - r_15 : Int32) fun v_16 =>
some v_16
def j_X0_mean_112 (r0 : Nat) (M : Mem) (s1 : Int32) (s3 : Int32) (s4 : Int32) (s5 : Int32) : Option (Int32) :=
if s4 = 2 then (
(m_X4_rightOf r0 M s1).bind fun r_12 =>
if s3 = 1 then (
j_X0_mean_138 r0 M s5 s1 s1 r_12 1
) else (
j_X0_mean_138 r0 M s5 s1 s1 r_12 0
)
) else (
some s5
)
def j_X0_mean_106 (r0 : Nat) (M : Mem) (s1 : Int32) (s3 : Int32) (s4 : Int32) (t0 : Int32) (t2 : Int32) (t3 : Int32) (t4 : Int32) (t5 : Int32) : Option (Int32) :=
(m_X0_loss r0 M t2 t3 t4 t5).bind fun r_20 =>
bnd (t0 - r_20 : Int32) fun v_21 =>
j_X0_mean_112 r0 M s1 s3 s4 v_21
def j_X0_mean_83 (r0 : Nat) (M : Mem) (s1 : Int32) (s2 : Int32) (s3 : Int32) (s4 : Int32) (s5 : Int32) (s6 : Int32) : Option (Int32) :=
if s2 = 3 then (
if s3 = 1 then (
j_X0_mean_106 r0 M s1 s3 s4 s5 s6 s1 s6 1
) else (
j_X0_mean_106 r0 M s1 s3 s4 s5 s6 s1 s6 0
)
) else (
j_X0_mean_112 r0 M s1 s3 s4 s5
)
def j_X0_mean_77 (r0 : Nat) (M : Mem) (s1 : Int32) (s2 : Int32) (s3 : Int32) (s4 : Int32) (s6 : Int32) (t0 : Int32) (t2 : Int32) (t3 : Int32) (t4 : Int32) (t5 : Int32) : Option (Int32) :=
(m_X0_gain r0 M t2 t3 t4 t5).bind fun r_27 =>
bnd (t0 + r_27 : Int32) fun v_28 =>
j_X0_mean_83 r0 M s1 s2 s3 s4 v_28 s6
def j_X0_mean_42 (r0 : Nat) (M : Mem) (s1 : Int32) (s2 : Int32) (s3 : Int32) (s4 : Int32) (s6 : Int32) (t0 : Int32) (t2 : Int32) (t3 : Int32) (t4 : Int32) (t5 : Int32) : Option (Int32) :=
(m_X0_gain r0 M t2 t3 t4 t5).bind fun r_32 =>
bnd (t0 + r_32 : Int32) fun v_33 =>
j_X0_mean_83 r0 M s1 s2 s3 s4 v_33 s6
def m_X0_mean (r0 : Nat) (M : Mem) (a1 : Int32) (a2 : Int32) (a3 : Int32) (a4 : Int32) : Option (Int32) :=
(m_X4_costOf r0 M a1 a3).bind fun r_2 =>
bnd ((-1000) * r_2 : Int32) fun v_3 =>
(m_X4_leftOf r0 M a1).bind fun r_6 =>
if a3 = 2 then (
if a2 = 1 then (
j_X0_mean_42 r0 M a1 a2 a3 a4 r_6 v_3 r_6 a1 r_6 1
) else (
j_X0_mean_42 r0 M a1 a2 a3 a4 r_6 v_3 r_6 a1 r_6 0
)
) else (
if a3 = 3 then (
(m_X4_rightOf r0 M a1).bind fun r_24 =>
if a4 = 1 then (
j_X0_mean_77 r0 M a1 a2 a3 a4 r_6 v_3 a1 a1 r_24 1
) else (
j_X0_mean_77 r0 M a1 a2 a3 a4 r_6 v_3 a1 a1 r_24 0
)
) else (
j_X0_mean_83 r0 M a1 a2 a3 a4 v_3 r_6
)
)

/-! X0_meanInRow -/
def m_X0_meanInRow (r0 : Nat) (M : Mem) (a1 : Int32) (a2 : Int32) : Option (Int32) :=
(m_X4_leftOf r0 M a2).bind fun r_2 =>
(m_X0_digit r0 M a1 r_2).bind fun r_4 =>
(m_X0_digit r0 M a1 a2).bind fun r_6 =>
(m_X4_rightOf r0 M a2).bind fun r_8 =>
(m_X0_digit r0 M a1 r_8).bind fun r_10 =>
(m_X0_mean r0 M a2 r_4 r_6 r_10).bind fun r_12 =>
some r_12

/-! X5_value -/
def m_X5_value (M : Mem) (a1 : Int32) (a2 : Int32) : Option (Int32) :=
(m_X4_has 0 M a2).bind fun r_2 =>
if r_2 = 0 then (
some (-100000000)
) else (
(m_X4_hasRow 0 M a1).bind fun r_5 =>
if r_5 = 0 then (
some (-100000000)
) else (
(m_X0_meanInRow 0 M a1 a2).bind fun r_8 =>
some r_8
)
)

/-! X0_bestDoing -/
def b_X0_bestDoing_40 (fu : Nat) (r0 : Nat) (M : Mem) (s2 : Int32) (s3 : Int32) (s4 : Int32)  : (Int32 × Int32 × Int32) → Option ((Int32 × Int32 × Int32) ⊕ (Int32)) :=
un3 fun c5 c6 c7 =>
if 4 ≤ c7 then (
some (.inr c5)
) else (
(m_X0_mean r0 M s2 s3 c7 s4).bind fun r_13 =>
if r_13 ≤ c6 then (
bnd (c7 + 1 : Int32) fun v_15 =>
some (.inl (c5, c6, v_15))
) else (
bnd (c7 + 1 : Int32) fun v_17 =>
some (.inl (c7, r_13, v_17))
)
)
def m_X0_bestDoing (fu : Nat) (r0 : Nat) (M : Mem) (a1 : Int32) (a2 : Int32) : Option (Int32) :=
(m_X4_leftOf r0 M a2).bind fun r_2 =>
(m_X0_digit r0 M a1 r_2).bind fun r_4 =>
(m_X4_rightOf r0 M a2).bind fun r_6 =>
(m_X0_digit r0 M a1 r_6).bind fun r_8 =>
(m_X0_mean r0 M a2 r_4 0 r_8).bind fun r_10 =>
(lp (b_X0_bestDoing_40 fu r0 M a2 r_4 r_8) fu (0, r_10, 1)).bind <| (un1 fun v_21 =>
some v_21)

/-! X5_reply -/
def m_X5_reply (fu : Nat) (M : Mem) (a1 : Int32) (a2 : Int32) : Option (Int32) :=
(m_X4_has 0 M a2).bind fun r_2 =>
if r_2 = 0 then (
some (-1)
) else (
(m_X4_hasRow 0 M a1).bind fun r_5 =>
if r_5 = 0 then (
some (-1)
) else (
(m_X0_bestDoing fu 0 M a1 a2).bind fun r_8 =>
some r_8
)
)

/-! X0_fillMeans -/
def b_X0_fillMeans_24 (fu : Nat) (r0 : Nat) (s2 : Int32) (s3 : Int32)  : (Int32 × Int32 × Mem) → Option ((Int32 × Int32 × Mem) ⊕ (Int32 × Mem)) :=
un3 fun c4 c5 M =>
if 4 ≤ c5 then (
some (.inr (c4, M))
) else (
(m_X0_mean r0 M s2 (s3 / 4) c5 (irem s3 4)).bind fun r_5 =>
chk (inb s2 6) <|
chk (inb ((4 * s3) + c5) 64) <|
bnd (wr M (118 + ix s2) (ix ((4 * s3) + c5)) r_5) fun M_8 =>
if c5 = 0 then (
bnd (c5 + 1 : Int32) fun v_15 =>
some (.inl (r_5, v_15, M_8))
) else (
bnd ((if c4 < r_5 then r_5 else c4) : Int32) fun v_11 =>
bnd (c5 + 1 : Int32) fun v_13 =>
some (.inl (v_11, v_13, M_8))
)
)
def b_X0_fillMeans_12 (fu : Nat) (r0 : Nat) (s2 : Int32)  : (Int32 × Mem) → Option ((Int32 × Mem) ⊕ (Mem)) :=
un2 fun c3 M =>
if 16 ≤ c3 then (
some (.inr M)
) else (
(lp (b_X0_fillMeans_24 fu r0 s2 c3) fu (0, 0, M)).bind <| (un2 fun v_19 M_20 =>
chk (inb s2 6) <|
chk (inb c3 16) <|
bnd (wr M_20 (124 + ix s2) (ix c3) v_19) fun M_23 =>
bnd (c3 + 1 : Int32) fun v_25 =>
some (.inl (v_25, M_23)))
)
def b_X0_fillMeans_2 (fu : Nat) (r0 : Nat)  : (Int32 × Mem) → Option ((Int32 × Mem) ⊕ (Mem)) :=
un2 fun c2 M =>
if (rd M r0 0) ≤ c2 then (
some (.inr M)
) else (
(lp (b_X0_fillMeans_12 fu r0 c2) fu (0, M)).bind <| (un1 fun M_29 =>
bnd (c2 + 1 : Int32) fun v_30 =>
some (.inl (v_30, M_29)))
)
def m_X0_fillMeans (fu : Nat) (r0 : Nat) (M : Mem) : Option (Mem) :=
(lp (b_X0_fillMeans_2 fu r0) fu (0, M)).bind <| (un1 fun M_34 =>
some M_34)

/-! X0_around -/
def m_X0_around (r0 : Nat) (M : Mem) (a1 : Int32) (a2 : Int32) : Option (Int32) :=
(m_X4_leftOf r0 M a2).bind fun r_2 =>
(m_X0_digit r0 M a1 r_2).bind fun r_4 =>
(m_X4_rightOf r0 M a2).bind fun r_6 =>
(m_X0_digit r0 M a1 r_6).bind fun r_8 =>
some ((4 * r_4) + r_8)

/-! X0_nobodyWouldRather -/
def b_X0_nobodyWouldRather_2 (fu : Nat) (r0 : Nat) (M : Mem) (s2 : Int32)  : (Int32) → Option ((Int32) ⊕ ((Unit) ⊕ (Unit))) :=
un1 fun c3 =>
if (rd M r0 0) ≤ c3 then (
some (.inr (.inr ()))
) else (
(m_X0_around r0 M s2 c3).bind fun r_3 =>
chk (inb c3 6) <|
(m_X0_digit r0 M s2 c3).bind fun r_6 =>
chk (inb ((4 * r_3) + r_6) 64) <|
chk (inb r_3 16) <|
if (rd M (124 + ix c3) (ix r_3)) ≤ (rd M (118 + ix c3) (ix ((4 * r_3) + r_6))) then (
bnd (c3 + 1 : Int32) fun v_10 =>
some (.inl v_10)
) else (
some (.inr (.inl ()))
)
)
def m_X0_nobodyWouldRather (fu : Nat) (r0 : Nat) (M : Mem) (a2 : Int32) : Option (Int32) :=
(lp (b_X0_nobodyWouldRather_2 fu r0 M a2) fu 0).bind <| (unS (un0 <|
some 0)
(un0 <|
some 1))

/-! X0_meansAdded -/
def b_X0_meansAdded_5 (fu : Nat) (r0 : Nat) (M : Mem) (s2 : Int32)  : (Int32 × Int32) → Option ((Int32 × Int32) ⊕ (Int32)) :=
un2 fun c3 c4 =>
if (rd M r0 0) ≤ c4 then (
some (.inr c3)
) else (
chk (inb c4 6) <|
(m_X0_around r0 M s2 c4).bind fun r_4 =>
(m_X0_digit r0 M s2 c4).bind fun r_6 =>
chk (inb ((4 * r_4) + r_6) 64) <|
bnd (c3 + (rd M (118 + ix c4) (ix ((4 * r_4) + r_6))) : Int32) fun v_8 =>
bnd (c4 + 1 : Int32) fun v_10 =>
some (.inl (v_8, v_10))
)
def m_X0_meansAdded (fu : Nat) (r0 : Nat) (M : Mem) (a2 : Int32) : Option (Int32) :=
(lp (b_X0_meansAdded_5 fu r0 M a2) fu (0, 0)).bind <| (un1 fun v_14 =>
some v_14)

/-! X0_findRests -/
def j_X0_findRests_142i (fu : Nat) (r0 : Nat) (M : Mem) (s2 : Int32) (s3 : Int32) (s4 : Int32) (s5 : Int32) : Option ((Int32 × Int32 × Mem) ⊕ (Mem)) :=
bnd (wr M 115 0 ((rd M 115 0) + 1)) fun M_28 =>
bnd (s5 + 1 : Int32) fun v_30 =>
some (.inl (s4, v_30, M_28))
def j_X0_findRests_111i (fu : Nat) (r0 : Nat) (M : Mem) (s2 : Int32) (s3 : Int32) (s4 : Int32) (s5 : Int32) : Option ((Int32 × Int32 × Mem) ⊕ (Mem)) :=
(m_X0_digit r0 M s5 0).bind fun r_26 =>
if s5 = (r_26 * s3) then (
bnd (wr M 115 3 ((rd M 115 3) ||| (ishl 1 r_26))) fun M_32 =>
j_X0_findRests_142i fu r0 M_32 s2 s3 s4 s5
) else (
j_X0_findRests_142i fu r0 M s2 s3 s4 s5
)
def j_X0_findRests_101i (fu : Nat) (r0 : Nat) (M : Mem) (s2 : Int32) (s3 : Int32) (s5 : Int32) (s6 : Int32) : Option ((Int32 × Int32 × Mem) ⊕ (Mem)) :=
bnd (wr M 115 2 s5) fun M_23 =>
j_X0_findRests_111i fu r0 M_23 s2 s3 s6 s5
def j_X0_findRests_87i (fu : Nat) (r0 : Nat) (M : Mem) (s2 : Int32) (s3 : Int32) (s4 : Int32) (s5 : Int32) (s6 : Int32) : Option ((Int32 × Int32 × Mem) ⊕ (Mem)) :=
if (rd M 115 0) = 0 then (
j_X0_findRests_101i fu r0 M s2 s3 s5 s6
) else (
if s6 ≤ s4 then (
j_X0_findRests_111i fu r0 M s2 s3 s4 s5
) else (
j_X0_findRests_101i fu r0 M s2 s3 s5 s6
)
)
def b_X0_findRests_46 (fu : Nat) (r0 : Nat) (s2 : Int32) (s3 : Int32)  : (Int32 × Int32 × Mem) → Option ((Int32 × Int32 × Mem) ⊕ (Mem)) :=
un3 fun c4 c5 M =>
if s2 ≤ c5 then (
some (.inr M)
) else (
(m_X0_nobodyWouldRather fu r0 M c5).bind fun r_17 =>
if r_17 = 0 then (
bnd (c5 + 1 : Int32) fun v_37 =>
some (.inl (c4, v_37, M))
) else (
(m_X0_meansAdded fu r0 M c5).bind fun r_20 =>
if (rd M 115 0) = 0 then (
bnd (wr M 115 1 c5) fun M_35 =>
j_X0_findRests_87i fu r0 M_35 s2 s3 c4 c5 r_20
) else (
j_X0_findRests_87i fu r0 M s2 s3 c4 c5 r_20
)
)
)
def m_X0_findRests (fu : Nat) (r0 : Nat) (M : Mem) : Option (Mem) :=
(m_X0_fillMeans fu r0 M).bind fun M_2 =>
bnd (wr M_2 115 0 0) fun M_3 =>
bnd (wr M_3 115 1 (-1)) fun M_5 =>
bnd (wr M_5 115 2 (-1)) fun M_7 =>
bnd (wr M_7 115 3 0) fun M_9 =>
bnd (ishl 1 (2 * (rd M_9 r0 0)) : Int32) fun v_11 =>
bnd ((v_11 - 1) / 3 : Int32) fun v_13 =>
(lp (b_X0_findRests_46 fu r0 v_11 v_13) fu (0, 0, M_9)).bind <| (un1 fun M_41 =>
some M_41)

/-! X5_rests -/
def m_X5_rests (fu : Nat) (M : Mem) (a1 : Int32) : Option (Int32 × Mem) :=
if 6 < (rd M 0 0) then (
some ((-1), M)
) else (
if a1 < 0 then (
some ((-1), M)
) else (
if a1 ≤ 3 then (
(m_X0_findRests fu 0 M).bind fun M_5 =>
if a1 = 0 then (
some (rd M_5 115 0, M_5)
) else (
if a1 = 1 then (
some (rd M_5 115 1, M_5)
) else (
if a1 = 2 then (
some (rd M_5 115 2, M_5)
) else (
some (rd M_5 115 3, M_5)
)))
) else (
some ((-1), M)
)
)
)

/-! X0_fillTempted -/
def j_X0_fillTempted_147i (fu : Nat) (r0 : Nat) (M : Mem) (s2 : Int32) (t1 : Int32) (t2 : Int32) : Option ((Int32 × Mem) ⊕ (Mem)) :=
bnd (wr M 115 11 (t1 ||| t2)) fun M_30 =>
bnd (s2 + 1 : Int32) fun v_32 =>
some (.inl (v_32, M_30))
def j_X0_fillTempted_119i (fu : Nat) (r0 : Nat) (M : Mem) (s2 : Int32) (s3 : Int32) (t1 : Int32) (t2 : Int32) : Option ((Int32 × Mem) ⊕ (Mem)) :=
bnd (wr M 115 10 (t1 ||| t2)) fun M_25 =>
(m_X0_mean r0 M_25 s2 1 3 1).bind fun r_28 =>
if r_28 ≤ s3 then (
j_X0_fillTempted_147i fu r0 M_25 s2 (rd M_25 115 11) 0
) else (
j_X0_fillTempted_147i fu r0 M_25 s2 (rd M_25 115 11) (ishl 1 s2)
)
def j_X0_fillTempted_91i (fu : Nat) (r0 : Nat) (M : Mem) (s2 : Int32) (s3 : Int32) (t1 : Int32) (t2 : Int32) : Option ((Int32 × Mem) ⊕ (Mem)) :=
bnd (wr M 115 9 (t1 ||| t2)) fun M_20 =>
(m_X0_mean r0 M_20 s2 0 3 0).bind fun r_23 =>
if r_23 ≤ s3 then (
j_X0_fillTempted_119i fu r0 M_20 s2 s3 (rd M_20 115 10) 0
) else (
j_X0_fillTempted_119i fu r0 M_20 s2 s3 (rd M_20 115 10) (ishl 1 s2)
)
def j_X0_fillTempted_63i (fu : Nat) (r0 : Nat) (M : Mem) (s2 : Int32) (s3 : Int32) (t1 : Int32) (t2 : Int32) : Option ((Int32 × Mem) ⊕ (Mem)) :=
bnd (wr M 115 8 (t1 ||| t2)) fun M_15 =>
(m_X0_mean r0 M_15 s2 1 2 1).bind fun r_18 =>
if r_18 ≤ s3 then (
j_X0_fillTempted_91i fu r0 M_15 s2 s3 (rd M_15 115 9) 0
) else (
j_X0_fillTempted_91i fu r0 M_15 s2 s3 (rd M_15 115 9) (ishl 1 s2)
)
def b_X0_fillTempted_22 (fu : Nat) (r0 : Nat)  : (Int32 × Mem) → Option ((Int32 × Mem) ⊕ (Mem)) :=
un2 fun c2 M =>
if (rd M r0 0) ≤ c2 then (
some (.inr M)
) else (
(m_X0_mean r0 M c2 0 0 0).bind fun r_11 =>
(m_X0_mean r0 M c2 0 2 0).bind fun r_13 =>
if r_13 ≤ r_11 then (
j_X0_fillTempted_63i fu r0 M c2 r_11 (rd M 115 8) 0
) else (
j_X0_fillTempted_63i fu r0 M c2 r_11 (rd M 115 8) (ishl 1 c2)
)
)
def m_X0_fillTempted (fu : Nat) (r0 : Nat) (M : Mem) : Option (Mem) :=
bnd (wr M 115 8 0) fun M_1 =>
bnd (wr M_1 115 9 0) fun M_3 =>
bnd (wr M_3 115 10 0) fun M_5 =>
bnd (wr M_5 115 11 0) fun M_7 =>
(lp (b_X0_fillTempted_22 fu r0) fu (0, M_7)).bind <| (un1 fun M_36 =>
some M_36)

/-! J6_bitCount_0f7a4 -/
def m_J6_bitCount_0f7a4 (M : Mem) (a0 : Int32) : Option (Int32) :=
bnd (a0 - ((ushr a0 1) &&& 1431655765) : Int32) fun v_1 =>
bnd ((v_1 &&& 858993459) + ((ushr v_1 2) &&& 858993459) : Int32) fun v_3 =>
bnd ((v_3 + (ushr v_3 4)) &&& 252645135 : Int32) fun v_5 =>
bnd (v_5 + (ushr v_5 8) : Int32) fun v_7 =>
bnd (v_7 + (ushr v_7 16) : Int32) fun v_9 =>
some (v_9 &&& 63)

/-! X0_standsStill -/
def m_X0_standsStill (M : Mem) (a1 : Int32) (a2 : Int32) : Option (Int32) :=
bnd ((ishl a2 1) ||| (ishr a2 (a1 - 1)) : Int32) fun v_1 =>
bnd ((ishr a2 1) ||| (ishl a2 (a1 - 1)) : Int32) fun v_3 =>
bnd (((((rd M 115 8) &&& (v_1 ^^^ (-1))) ||| ((rd M 115 9) &&& v_1)) ||| ((rd M 115 10) &&& (v_3 ^^^ (-1)))) ||| ((rd M 115 11) &&& v_3) : Int32) fun v_5 =>
if (v_5 &&& (a2 ^^^ (-1))) = 0 then (
some 1
) else (
some 0
)

/-! X0_fewestOf -/
def j_X0_fewestOf_27i (fu : Nat) (M : Mem) (s1 : Int32) (s2 : Int32) (s3 : Int32) : Option ((Int32 × Int32) ⊕ (Int32)) :=
(m_X0_standsStill M s1 s3).bind fun r_4 =>
if r_4 = 0 then (
bnd (s3 + 1 : Int32) fun v_6 =>
some (.inl (s2, v_6))
) else (
bnd (s3 + 1 : Int32) fun v_8 =>
some (.inl (s3, v_8))
)
def b_X0_fewestOf_4 (fu : Nat) (M : Mem) (s1 : Int32)  : (Int32 × Int32) → Option ((Int32 × Int32) ⊕ (Int32)) :=
un2 fun c2 c3 =>
if (ishl 1 s1) ≤ c3 then (
some (.inr c2)
) else (
if c2 = (-1) then (
j_X0_fewestOf_27i fu M s1 c2 c3
) else (
(m_J6_bitCount_0f7a4 M c3).bind fun r_11 =>
(m_J6_bitCount_0f7a4 M c2).bind fun r_13 =>
if r_13 ≤ r_11 then (
bnd (c3 + 1 : Int32) fun v_15 =>
some (.inl (c2, v_15))
) else (
j_X0_fewestOf_27i fu M s1 c2 c3
)
)
)
def m_X0_fewestOf (fu : Nat) (M : Mem) (a1 : Int32) : Option (Int32) :=
(lp (b_X0_fewestOf_4 fu M a1) fu ((-1), 0)).bind <| (un1 fun v_19 =>
some v_19)

/-! X0_fewestWatchers -/
def m_X0_fewestWatchers (fu : Nat) (r0 : Nat) (M : Mem) : Option (Int32 × Mem) :=
(m_X0_fillTempted fu r0 M).bind fun M_2 =>
(m_X0_fewestOf fu M_2 (rd M_2 r0 0)).bind fun r_4 =>
some (r_4, M_2)

/-! X5_still -/
def m_X5_still (fu : Nat) (M : Mem) : Option (Int32 × Mem) :=
(m_X0_fewestWatchers fu 0 M).bind <| un2 fun r_2 M_3 =>
some (r_2, M_3)

/-! X4_copy -/
def b_X4_copy_64 (fu : Nat) (r0 : Nat) (r1 : Nat)  : (Int32 × Mem) → Option ((Int32 × Mem) ⊕ (Mem)) :=
un2 fun c2 M =>
if 10 ≤ c2 then (
some (.inr M)
) else (
chk (inb c2 10) <|
chk (cpOk 0 0 9 9 9) <|
bnd (cpM M (r1 + 8 + ix c2) 0 (r0 + 8 + ix c2) 0 9) fun M_18 =>
chk (cpOk 0 0 4 4 4) <|
bnd (cpM M_18 (r1 + 18 + ix c2) 0 (r0 + 18 + ix c2) 0 4) fun M_21 =>
bnd (c2 + 1 : Int32) fun v_23 =>
some (.inl (v_23, M_21))
)
def b_X4_copy_115 (fu : Nat) (r0 : Nat) (r1 : Nat)  : (Int32 × Mem) → Option ((Int32 × Mem) ⊕ (Mem)) :=
un2 fun c2 M =>
if 4 ≤ c2 then (
some (.inr M)
) else (
chk (inb c2 4) <|
(m_X2_take (r0 + 28 + ix c2) (r1 + 28 + ix c2 + 4) M (rd M (r1 + 28 + ix c2) 1)).bind fun M_31 =>
bnd (c2 + 1 : Int32) fun v_32 =>
some (.inl (v_32, M_31))
)
def m_X4_copy (fu : Nat) (r0 : Nat) (r1 : Nat) (M : Mem) : Option (Mem) :=
bnd (wr M r0 0 (rd M r1 0)) fun M_1 =>
bnd (wr M_1 r0 1 (rd M_1 r1 1)) fun M_3 =>
bnd (wr M_3 r0 2 (rd M_3 r1 2)) fun M_5 =>
bnd (wr M_5 r0 3 (rd M_5 r1 3)) fun M_7 =>
chk (cpOk 0 0 10 10 10) <|
bnd (cpM M_7 (r1 + 1) 0 (r0 + 1) 0 10) fun M_10 =>
chk (cpOk 0 0 10 10 10) <|
bnd (cpML M_10 (r1 + 36) 0 (r0 + 36) 0 10) fun M_13 =>
(lp (b_X4_copy_64 fu r0 r1) fu (0, M_13)).bind <| (un1 fun M_27 =>
(lp (b_X4_copy_115 fu r0 r1) fu (0, M_27)).bind <| (un1 fun M_36 =>
some M_36))

/-! X0_build -/
def b_X0_build_2 (fu : Nat) (r0 : Nat) (s1 : Int32)  : (Int32 × Mem) → Option ((Int32 × Mem) ⊕ (Mem)) :=
un2 fun c2 M =>
if (rd M r0 0) ≤ c2 then (
some (.inr M)
) else (
chk (inb c2 10) <|
bnd (wr M (r0 + 18 + ix c2) (ix 0) ((ishr s1 c2) &&& 1)) fun M_3 =>
bnd (c2 + 1 : Int32) fun v_5 =>
some (.inl (v_5, M_3))
)
def m_X0_build (fu : Nat) (r0 : Nat) (M : Mem) (a1 : Int32) : Option (Mem) :=
(lp (b_X0_build_2 fu r0 a1) fu (0, M)).bind <| (un1 fun M_9 =>
some M_9)

/-! X0_findWalls -/
def b_X0_findWalls_5 (fu : Nat) (r0 : Nat) (M : Mem) (s2 : Int32)  : (Int32 × Int32) → Option ((Int32 × Int32) ⊕ (Int32)) :=
un2 fun c3 c4 =>
if (rd M r0 0) ≤ c4 then (
some (.inr c3)
) else (
chk (inb c4 10) <|
bnd (c3 ||| (ishl (rd M (r0 + 18 + ix c4) (ix 0)) c4) : Int32) fun v_3 =>
bnd (c4 + 1 : Int32) fun v_5 =>
some (.inl (v_3, v_5))
)
def j_X0_findWalls_151i (fu : Nat) (r0 : Nat) (M : Mem) (s2 : Int32) (s3 : Int32) (s5 : Int32) (s8 : Int32) : Option ((Int32 × Int32 × Mem) ⊕ (Mem)) :=
bnd (wr M 115 4 s5) fun M_27 =>
bnd (wr M_27 115 5 s8) fun M_29 =>
bnd (s5 + 1 : Int32) fun v_31 =>
some (.inl (1, v_31, M_29))
def j_X0_findWalls_114i (fu : Nat) (r0 : Nat) (M : Mem) (s2 : Int32) (s3 : Int32) (s4 : Int32) (s5 : Int32) (s6 : Int32) (t0 : Int32) : Option ((Int32 × Int32 × Mem) ⊕ (Mem)) :=
if s4 = 0 then (
j_X0_findWalls_151i fu r0 M s2 s3 s5 t0
) else (
if t0 < (rd M 115 5) then (
j_X0_findWalls_151i fu r0 M s2 s3 s5 t0
) else (
if t0 = (rd M 115 5) then (
(m_J6_bitCount_0f7a4 M (rd M 115 4)).bind fun r_38 =>
if r_38 ≤ s6 then (
bnd (s5 + 1 : Int32) fun v_40 =>
some (.inl (s4, v_40, M))
) else (
j_X0_findWalls_151i fu r0 M s2 s3 s5 t0
)
) else (
bnd (s5 + 1 : Int32) fun v_35 =>
some (.inl (s4, v_35, M))
)
)
)
def b_X0_findWalls_41 (fu : Nat) (r0 : Nat) (s2 : Int32) (s3 : Int32)  : (Int32 × Int32 × Mem) → Option ((Int32 × Int32 × Mem) ⊕ (Mem)) :=
un3 fun c4 c5 M =>
if (ishl 1 (rd M r0 0)) ≤ c5 then (
some (.inr M)
) else (
(m_J6_bitCount_0f7a4 M c5).bind fun r_12 =>
if s2 < r_12 then (
bnd (c5 + 1 : Int32) fun v_14 =>
some (.inl (c4, v_14, M))
) else (
if (c5 &&& s3) = 0 then (
(m_X0_build fu r0 M (s3 ||| c5)).bind fun M_18 =>
(m_X0_fillTempted fu r0 M_18).bind fun M_20 =>
(m_X0_fewestOf fu M_20 (rd M_20 r0 0)).bind fun r_22 =>
if r_22 = (-1) then (
j_X0_findWalls_114i fu r0 M_20 s2 s3 c4 c5 r_12 99
) else (
(m_J6_bitCount_0f7a4 M_20 r_22).bind fun r_25 =>
j_X0_findWalls_114i fu r0 M_20 s2 s3 c4 c5 r_12 r_25
)
) else (
bnd (c5 + 1 : Int32) fun v_42 =>
some (.inl (c4, v_42, M))
)
)
)
def m_X0_findWalls (fu : Nat) (r0 : Nat) (M : Mem) (a2 : Int32) : Option (Mem) :=
(lp (b_X0_findWalls_5 fu r0 M a2) fu (0, 0)).bind <| (un1 fun v_9 =>
(lp (b_X0_findWalls_41 fu r0 a2 v_9) fu (0, 0, M)).bind <| (un1 fun M_46 =>
some M_46))

/-! X5_walls -/
def m_X5_walls (fu : Nat) (M : Mem) (a1 : Int32) (a2 : Int32) : Option (Int32 × Mem) :=
if a1 < 0 then (
some ((-1), M)
) else (
if 2 < a1 then (
some ((-1), M)
) else (
if a2 < 0 then (
some ((-1), M)
) else (
if a2 ≤ 1 then (
(m_X4_copy fu 74 0 M).bind fun M_6 =>
(m_X0_findWalls fu 74 M_6 a1).bind fun M_8 =>
if a2 = 0 then (
some (rd M_8 115 4, M_8)
) else (
some (rd M_8 115 5, M_8)
)
) else (
some ((-1), M)
)
)
)
)

/-! X0_pactHolds -/
def m_X0_pactHolds (r0 : Nat) (M : Mem) (a1 : Int32) (a2 : Int32) : Option (Int32) :=
(m_X0_mean r0 M a1 0 0 0).bind fun r_2 =>
(m_X0_mean r0 M a1 0 3 0).bind fun r_4 =>
bnd (r_4 - r_2 : Int32) fun v_5 =>
(m_X0_mean r0 M a1 0 3 2).bind fun r_8 =>
bnd (r_2 - r_8 : Int32) fun v_9 =>
if 0 < (lg_cmp (v_5.toInt64 * ((1000 - a2).toInt64)) (a2.toInt64 * v_9.toInt64)) then (
some 0
) else (
some 1
)

/-! X0_leastPatience -/
def b_X0_leastPatience_2 (fu : Nat) (r0 : Nat) (M : Mem) (s1 : Int32)  : (Int32) → Option ((Int32) ⊕ ((Int32) ⊕ (Unit))) :=
un1 fun c2 =>
if 1000 ≤ c2 then (
some (.inr (.inr ()))
) else (
(m_X0_pactHolds r0 M s1 c2).bind fun r_3 =>
if r_3 = 0 then (
bnd (c2 + 1 : Int32) fun v_5 =>
some (.inl v_5)
) else (
some (.inr (.inl c2))
)
)
def m_X0_leastPatience (fu : Nat) (r0 : Nat) (M : Mem) (a1 : Int32) : Option (Int32) :=
(lp (b_X0_leastPatience_2 fu r0 M a1) fu 0).bind <| (unS (un1 fun v_9 =>
some v_9)
(un0 <|
some (-1)))

/-! X5_pact -/
def m_X5_pact (fu : Nat) (M : Mem) (a1 : Int32) (a2 : Int32) : Option (Int32) :=
(m_X4_has 0 M a1).bind fun r_2 =>
if r_2 = 0 then (
some (-1)
) else (
if a2 < (-1) then (
some (-1)
) else (
if a2 < 1000 then (
if a2 = (-1) then (
(m_X0_leastPatience fu 0 M a1).bind fun r_11 =>
some r_11
) else (
(m_X0_pactHolds 0 M a1 a2).bind fun r_8 =>
if r_8 = 0 then (
some 0
) else (
some 1
)
)
) else (
some (-1)
)
)
)

/-! X4_added -/
def b_X4_added_4 (fu : Nat) (r0 : Nat) (M : Mem) (s1 : Int32)  : (Int32 × Int32) → Option ((Int32 × Int32) ⊕ (Int32)) :=
un2 fun c2 c3 =>
if (rd M r0 0) ≤ c3 then (
some (.inr c2)
) else (
chk (inb c3 10) <|
chk (inb s1 9) <|
bnd (c2 + (rd M (r0 + 8 + ix c3) (ix s1)) : Int32) fun v_4 =>
bnd (c3 + 1 : Int32) fun v_6 =>
some (.inl (v_4, v_6))
)
def m_X4_added (fu : Nat) (r0 : Nat) (M : Mem) (a1 : Int32) : Option (Int32) :=
(lp (b_X4_added_4 fu r0 M a1) fu (0, 0)).bind <| (un1 fun v_10 =>
some v_10)

/-! X4_allWidths -/
def m_X4_allWidths (fu : Nat) (r0 : Nat) (M : Mem) : Option (Int32) :=
(m_X4_added fu r0 M 0).bind fun r_2 =>
some r_2

/-! X1_prepare -/
def j_X1_prepare_195i (fu : Nat) (r0 : Nat) (M : Mem) (s3 : Int32) (s4 : Int32) (s5 : Int32) (s6 : Int32) (t0 : Nat) (t1 : Int32) (t2 : Int32) : Option ((Int32 × Mem) ⊕ (Mem)) :=
chk (inb t1 61) <|
bnd (wr M t0 (ix t1) t2) fun M_33 =>
bnd (s6 + 1 : Int32) fun v_35 =>
some (.inl (v_35, M_33))
def j_X1_prepare_194i (fu : Nat) (r0 : Nat) (M : Mem) (s3 : Int32) (s4 : Int32) (s5 : Int32) (s6 : Int32) (t0 : Nat) (t1 : Int32) : Option ((Int32 × Mem) ⊕ (Mem)) :=
j_X1_prepare_195i fu r0 M s3 s4 s5 s6 t0 t1 0
def j_X1_prepare_188i (fu : Nat) (r0 : Nat) (M : Mem) (s3 : Int32) (s4 : Int32) (s5 : Int32) (s6 : Int32) (t0 : Nat) (t1 : Int32) (t3 : Int32) (t4 : Int32) (t5 : Int32) : Option ((Int32 × Mem) ⊕ (Mem)) :=
(m_X0_chance r0 M t3 t4 t5).bind fun r_40 =>
j_X1_prepare_195i fu r0 M s3 s4 s5 s6 t0 t1 r_40
def j_X1_prepare_154i (fu : Nat) (r0 : Nat) (M : Mem) (s3 : Int32) (s4 : Int32) (s5 : Int32) (s6 : Int32) (s7 : Int32) (t0 : Nat) (t1 : Int32) (t2 : Int32) : Option ((Int32 × Mem) ⊕ (Mem)) :=
chk (inb t1 61) <|
bnd (wr M t0 (ix t1) t2) fun M_28 =>
chk (inb s6 3) <|
if s5 = 0 then (
j_X1_prepare_194i fu r0 M_28 s3 s4 s5 s6 (143 + ix s6) s3
) else (
if s4 = 2 then (
if s7 = 1 then (
j_X1_prepare_188i fu r0 M_28 s3 s4 s5 s6 (143 + ix s6) s3 0 0 1
) else (
j_X1_prepare_188i fu r0 M_28 s3 s4 s5 s6 (143 + ix s6) s3 0 0 0
)
) else (
j_X1_prepare_194i fu r0 M_28 s3 s4 s5 s6 (143 + ix s6) s3
)
)
def j_X1_prepare_153i (fu : Nat) (r0 : Nat) (M : Mem) (s3 : Int32) (s4 : Int32) (s5 : Int32) (s6 : Int32) (s7 : Int32) (t0 : Nat) (t1 : Int32) : Option ((Int32 × Mem) ⊕ (Mem)) :=
j_X1_prepare_154i fu r0 M s3 s4 s5 s6 s7 t0 t1 0
def j_X1_prepare_147i (fu : Nat) (r0 : Nat) (M : Mem) (s3 : Int32) (s4 : Int32) (s5 : Int32) (s6 : Int32) (s7 : Int32) (t0 : Nat) (t1 : Int32) (t3 : Int32) (t4 : Int32) (t5 : Int32) : Option ((Int32 × Mem) ⊕ (Mem)) :=
(m_X0_chance r0 M t3 t4 t5).bind fun r_44 =>
j_X1_prepare_154i fu r0 M s3 s4 s5 s6 s7 t0 t1 r_44
def b_X1_prepare_77 (fu : Nat) (r0 : Nat) (s3 : Int32) (s4 : Int32) (s5 : Int32)  : (Int32 × Mem) → Option ((Int32 × Mem) ⊕ (Mem)) :=
un2 fun c6 M =>
if (Int32.ofNat (stN 4)) ≤ c6 then (
some (.inr M)
) else (
chk (inb c6 3) <|
bnd (stV 4 (ix c6) : Int32) fun v_19 =>
(m_X0_mean r0 M 0 s4 v_19 s4).bind fun r_22 =>
chk (inb s3 61) <|
bnd (wr M (137 + ix c6) (ix s3) r_22) fun M_24 =>
if s5 = 0 then (
j_X1_prepare_153i fu r0 M_24 s3 s4 s5 c6 v_19 (140 + ix c6) s3
) else (
if v_19 = 3 then (
if s4 = 1 then (
j_X1_prepare_147i fu r0 M_24 s3 s4 s5 c6 v_19 (140 + ix c6) s3 0 1 1
) else (
j_X1_prepare_147i fu r0 M_24 s3 s4 s5 c6 v_19 (140 + ix c6) s3 0 1 0
)
) else (
j_X1_prepare_153i fu r0 M_24 s3 s4 s5 c6 v_19 (140 + ix c6) s3
)
)
)
def b_X1_prepare_27 (fu : Nat) (r0 : Nat)  : (Int32 × Mem) → Option ((Int32 × Mem) ⊕ (Mem)) :=
un2 fun c3 M =>
if (rd M 130 6) < c3 then (
some (.inr M)
) else (
bnd (wr M (r0 + 8 + ix 0) (ix 0) c3) fun M_8 =>
bnd (wr M_8 (r0 + 8 + ix 1) (ix 0) ((rd M_8 130 6) - c3)) fun M_10 =>
(m_X4_does fu r0 M_10 1).bind <| un2 fun r_13 M_14 =>
(m_X0_canMove r0 M_14 0 0 1).bind fun r_16 =>
(lp (b_X1_prepare_77 fu r0 c3 r_13 r_16) fu (0, M_14)).bind <| (un1 fun M_47 =>
bnd (c3 + 1 : Int32) fun v_48 =>
some (.inl (v_48, M_47)))
)
def m_X1_prepare (fu : Nat) (r0 : Nat) (M : Mem) (a2 : Int32) : Option (Mem) :=
bnd (wr M 130 6 a2) fun M_1 =>
bnd (wr M_1 130 7 (rd M_1 (r0 + 1) (ix 9))) fun M_3 =>
bnd (wr M_3 (r0 + 18 + ix 1) (ix 0) 1) fun M_5 =>
(lp (b_X1_prepare_27 fu r0) fu (0, M_5)).bind <| (un1 fun M_52 =>
some M_52)

/-! J7_fill_d0a16 -/
def b_J7_fill_d0a16_6 (fu : Nat) (k0 : Nat) (n0 : Nat) (s1 : Int64) (s4 : Int32)  : (Int32 × Mem) → Option ((Int32 × Mem) ⊕ (Mem)) :=
un2 fun c3 M =>
if s4 ≤ c3 then (
some (.inr M)
) else (
chk (inb c3 n0) <|
bnd (wrl M k0 (ix c3) s1) fun M_5 =>
bnd (c3 + 1 : Int32) fun v_7 =>
some (.inl (v_7, M_5))
)
def m_J7_fill_d0a16 (fu : Nat) (k0 : Nat) (n0 : Nat) (M : Mem) (a1 : Int64) : Option (Mem) :=
bnd (Int32.ofNat n0 : Int32) fun v_1 =>
(lp (b_J7_fill_d0a16_6 fu k0 n0 a1 v_1) fu (0, M)).bind <| (un1 fun M_11 =>
some M_11)

/-! J9_floorDiv_f86c9 -/
def m_J9_floorDiv_f86c9 (M : Mem) (a0 : Int64) (a2 : Int64) : Option (Int64) :=
chk (!decide (a2 = 0)) <|
bnd (a0 / a2 : Int64) fun v_2 =>
if 0 ≤ (lg_cmp (a0 ^^^ a2) 0) then (
some v_2
) else (
if (lg_cmp (v_2 * a2) a0) = 0 then (
some v_2
) else (
some (v_2 - 1)
)
)

/-! X1_comesNext -/
def m_X1_comesNext (M : Mem) (a1 : Int32) (a2 : Int32) : Option (Int64) :=
chk (inb a1 3) <|
chk (inb a2 61) <|
bnd ((rd M (140 + ix a1) (ix a2)).toInt64 : Int64) fun v_3 =>
bnd ((rd M (143 + ix a1) (ix a2)).toInt64 : Int64) fun v_5 =>
bnd ((if ((rd M 130 6) - a2) < (rd M 130 7) then (rd M 130 6) - a2 else rd M 130 7) : Int32) fun v_7 =>
bnd ((if a2 < (rd M 130 7) then a2 else rd M 130 7) : Int32) fun v_9 =>
chk (inb ((a2 + v_7) - v_9) 61) <|
chk (inb (a2 + v_7) 61) <|
chk (inb (a2 - v_9) 61) <|
bnd (((((v_3 * v_5) * (rdl M 131 (ix ((a2 + v_7) - v_9)))) + ((v_3 * (1000 - v_5)) * (rdl M 131 (ix (a2 + v_7))))) + (((1000 - v_3) * v_5) * (rdl M 131 (ix (a2 - v_9))))) + (((1000 - v_3) * (1000 - v_5)) * (rdl M 131 (ix a2))) : Int64) fun v_14 =>
(m_J9_floorDiv_f86c9 M v_14 1000000).bind fun r_17 =>
some r_17

/-! X1_choose -/
def j_X1_choose_57i (fu : Nat) (M : Mem) (s1 : Int32) (s2 : Int32) (s3 : Int32) (s4 : Int64) : Option ((Int32 × Mem) ⊕ (Mem)) :=
chk (inb s1 61) <|
bnd (wrl M 133 (ix s1) s4) fun M_12 =>
chk (inb s3 3) <|
bnd (wr M_12 132 (ix s1) (stV 4 (ix s3))) fun M_15 =>
bnd (s3 + 1 : Int32) fun v_17 =>
some (.inl (v_17, M_15))
def b_X1_choose_2 (fu : Nat) (s1 : Int32) (s2 : Int32)  : (Int32 × Mem) → Option ((Int32 × Mem) ⊕ (Mem)) :=
un2 fun c3 M =>
if (Int32.ofNat (stN 4)) ≤ c3 then (
some (.inr M)
) else (
chk (inb c3 3) <|
chk (inb s1 61) <|
(m_X1_comesNext M c3 s1).bind fun r_5 =>
(m_J9_floorDiv_f86c9 M (s2.toInt64 * r_5) 1000).bind fun r_7 =>
bnd ((1000 * ((rd M (137 + ix c3) (ix s1)).toInt64)) + r_7 : Int64) fun v_8 =>
if c3 = 0 then (
j_X1_choose_57i fu M s1 s2 c3 v_8
) else (
if (lg_cmp v_8 (rdl M 133 (ix s1))) ≤ 0 then (
bnd (c3 + 1 : Int32) fun v_20 =>
some (.inl (v_20, M))
) else (
j_X1_choose_57i fu M s1 s2 c3 v_8
)
)
)
def m_X1_choose (fu : Nat) (M : Mem) (a1 : Int32) (a2 : Int32) : Option (Mem) :=
(lp (b_X1_choose_2 fu a1 a2) fu (0, M)).bind <| (un1 fun M_24 =>
some M_24)

/-! X1_play -/
def b_X1_play_18 (fu : Nat) (s1 : Int32) (s2 : Int32) (s3 : Int32)  : (Int32 × Mem) → Option ((Int32 × Mem) ⊕ (Mem)) :=
un2 fun c4 M =>
if (rd M 130 6) < c4 then (
some (.inr M)
) else (
(m_X1_choose fu M c4 s2).bind fun M_6 =>
bnd (c4 + 1 : Int32) fun v_7 =>
some (.inl (v_7, M_6))
)
def b_X1_play_10 (fu : Nat) (s1 : Int32) (s2 : Int32)  : (Int32 × Mem) → Option ((Int32 × Mem) ⊕ (Mem)) :=
un2 fun c3 M =>
if s1 ≤ c3 then (
some (.inr M)
) else (
(lp (b_X1_play_18 fu s1 s2 c3) fu (0, M)).bind <| (un1 fun M_11 =>
chk (cpOk 0 0 ((rd M_11 130 6) + 1) 61 61) <|
bnd (cpML M_11 133 0 131 0 ((rd M_11 130 6) + 1)) fun M_13 =>
bnd (c3 + 1 : Int32) fun v_15 =>
some (.inl (v_15, M_13)))
)
def m_X1_play (fu : Nat) (M : Mem) (a1 : Int32) (a2 : Int32) : Option (Mem) :=
(m_J7_fill_d0a16 fu 131 61 M 0).bind fun M_2 =>
(lp (b_X1_play_10 fu a1 a2) fu (0, M_2)).bind <| (un1 fun M_19 =>
some M_19)

/-! X5_two -/
def m_X5_two (fu : Nat) (M : Mem) (a1 : Int32) (a2 : Int32) (a3 : Int32) (a4 : Int32) : Option (Int64 × Mem) :=
(m_X4_allWidths fu 0 M).bind fun r_2 =>
if (rd M 0 0) = 2 then (
if 60 < r_2 then (
some ((-1), M)
) else (
if a3 < 0 then (
some ((-1), M)
) else (
if a3 ≤ r_2 then (
if a1 < 1 then (
some ((-1), M)
) else (
if 40 < a1 then (
some ((-1), M)
) else (
if a2 < 0 then (
some ((-1), M)
) else (
if 1000 ≤ a2 then (
some ((-1), M)
) else (
if a4 < 0 then (
some ((-1), M)
) else (
if a4 ≤ 1 then (
(m_X4_copy fu 74 0 M).bind fun M_14 =>
(m_X1_prepare fu 74 M_14 r_2).bind fun M_16 =>
(m_X1_play fu M_16 a1 a2).bind fun M_18 =>
if a4 = 0 then (
chk (inb a3 61) <|
some (rdl M_18 131 (ix a3), M_18)
) else (
chk (inb a3 61) <|
some ((rd M_18 132 (ix a3)).toInt64, M_18)
)
) else (
some ((-1), M)
)
)
)
)
)
)
) else (
some ((-1), M)
)
)
)
) else (
some ((-1), M)
)

/-! X5_was -/
def m_X5_was (M : Mem) (a1 : Int32) (a2 : Int32) : Option (Int32 × Mem) :=
(m_X4_has 0 M a1).bind fun r_2 =>
if r_2 = 0 then (
some (0, M)
) else (
if a2 < (-1) then (
some (0, M)
) else (
if a2 ≤ 60 then (
chk (inb a1 10) <|
bnd (wr M (0 + 8 + ix a1) (ix 8) a2) fun M_7 =>
some (1, M_7)
) else (
some (0, M)
)
)
)

/-! X4_allWereTold -/
def b_X4_allWereTold_2 (fu : Nat) (r0 : Nat) (M : Mem)  : (Int32) → Option ((Int32) ⊕ ((Unit) ⊕ (Unit))) :=
un1 fun c1 =>
if (rd M r0 0) ≤ c1 then (
some (.inr (.inr ()))
) else (
chk (inb c1 10) <|
if (rd M (r0 + 8 + ix c1) (ix 8)) = (-1) then (
some (.inr (.inl ()))
) else (
bnd (c1 + 1 : Int32) fun v_4 =>
some (.inl v_4)
)
)
def m_X4_allWereTold (fu : Nat) (r0 : Nat) (M : Mem) : Option (Int32) :=
(lp (b_X4_allWereTold_2 fu r0 M) fu 0).bind <| (unS (un0 <|
some 0)
(un0 <|
some 1))

/-! X4_feetIfFirstMoved -/
def j_X4_feetIfFirstMoved_44i (fu : Nat) (r0 : Nat) (M : Mem) (s1 : Int32) (s2 : Int32) (s3 : Int32) (s4 : Int32) : Option ((Int32 × Int32 × Int32) ⊕ ((Unit) ⊕ (Int32 × Int32))) :=
bnd ((if 0 ≤ s3 then s3 else 0 - s3) : Int32) fun v_3 =>
if (rd M (r0 + 1) (ix 9)) < v_3 then (
some (.inr (.inl ()))
) else (
if v_3 ≤ 0 then (
bnd (s2 + v_3 : Int32) fun v_7 =>
bnd (s4 + 1 : Int32) fun v_9 =>
some (.inl (v_7, s3, v_9))
) else (
chk (inb s4 10) <|
if (rd M (r0 + 18 + ix s4) (ix 0)) = 0 then (
bnd (s2 + v_3 : Int32) fun v_13 =>
bnd (s4 + 1 : Int32) fun v_15 =>
some (.inl (v_13, s3, v_15))
) else (
some (.inr (.inl ()))
)
)
)
def b_X4_feetIfFirstMoved_7 (fu : Nat) (r0 : Nat) (M : Mem) (s1 : Int32)  : (Int32 × Int32 × Int32) → Option ((Int32 × Int32 × Int32) ⊕ ((Unit) ⊕ (Int32 × Int32))) :=
un3 fun c2 c3 c4 =>
if (rd M r0 0) ≤ c4 then (
some (.inr (.inr (c2, c3)))
) else (
if c4 ≤ 0 then (
j_X4_feetIfFirstMoved_44i fu r0 M s1 c2 c3 c4
) else (
chk (inb c4 10) <|
bnd (c3 + ((rd M (r0 + 8 + ix c4) (ix 0)) - (rd M (r0 + 8 + ix c4) (ix 8))) : Int32) fun v_18 =>
j_X4_feetIfFirstMoved_44i fu r0 M s1 c2 v_18 c4
)
)
def m_X4_feetIfFirstMoved (fu : Nat) (r0 : Nat) (M : Mem) (a1 : Int32) : Option (Int32) :=
(lp (b_X4_feetIfFirstMoved_7 fu r0 M a1) fu (0, a1, 0)).bind <| (unS (un0 <|
some (-1))
(un2 fun v_22 v_23 =>
if (a1 - v_23) = ((rd M (r0 + 8 + ix 0) (ix 0)) - (rd M (r0 + 8 + ix 0) (ix 8))) then (
some v_22
) else (
some (-1)
)))

/-! X5_judged -/
def b_X5_judged_26 (fu : Nat) (M : Mem)  : (Int32 × Int32) → Option ((Int32 × Int32) ⊕ (Int32)) :=
un2 fun c1 c2 =>
if (rd M (0 + 1) (ix 9)) < c2 then (
some (.inr c1)
) else (
(m_X4_feetIfFirstMoved fu 0 M c2).bind fun r_8 =>
if r_8 = (-1) then (
bnd (c2 + 1 : Int32) fun v_10 =>
some (.inl (c1, v_10))
) else (
if c1 = (-1) then (
bnd (c2 + 1 : Int32) fun v_13 =>
some (.inl (r_8, v_13))
) else (
if c1 ≤ r_8 then (
bnd (c2 + 1 : Int32) fun v_16 =>
some (.inl (c1, v_16))
) else (
bnd (c2 + 1 : Int32) fun v_18 =>
some (.inl (r_8, v_18))
)
)
)
)
def m_X5_judged (fu : Nat) (M : Mem) : Option (Int32) :=
(m_X4_allWereTold fu 0 M).bind fun r_2 =>
if r_2 = 0 then (
some (-1)
) else (
bnd (-(rd M (0 + 1) (ix 9)) : Int32) fun v_4 =>
(lp (b_X5_judged_26 fu M) fu ((-1), v_4)).bind <| (un1 fun v_22 =>
some v_22)
)

/-! X4_allPurses -/
def b_X4_allPurses_4 (fu : Nat) (r0 : Nat) (M : Mem)  : (Int64 × Int32) → Option ((Int64 × Int32) ⊕ (Int64)) :=
un2 fun c1 c3 =>
if (rd M r0 0) ≤ c3 then (
some (.inr c1)
) else (
chk (inb c3 10) <|
bnd (c1 + (rdl M (r0 + 36) (ix c3)) : Int64) fun v_3 =>
bnd (c3 + 1 : Int32) fun v_5 =>
some (.inl (v_3, v_5))
)
def m_X4_allPurses (fu : Nat) (r0 : Nat) (M : Mem) : Option (Int64) :=
(lp (b_X4_allPurses_4 fu r0 M) fu (0, 0)).bind <| (un1 fun v_9 =>
some v_9)

/-! X5_feet -/
def b_X5_feet_20 (fu : Nat) (s1 : Int32)  : (Int32 × Int64 × Int32 × Mem) → Option ((Int32 × Int64 × Int32 × Mem) ⊕ (Int32 × Mem)) :=
un4 fun c2 c3 c5 M =>
if (stV 2 (ix 9)) < c5 then (
some (.inr (c2, M))
) else (
(m_X4_copy fu 74 0 M).bind fun M_5 =>
bnd (wr M_5 (74 + 1) (ix 9) c5) fun M_6 =>
(m_X4_pass fu 74 M_6 s1).bind fun M_9 =>
(m_X4_allPurses fu 74 M_9).bind fun r_11 =>
if c5 = 0 then (
bnd (c5 + 1 : Int32) fun v_13 =>
some (.inl (c5, r_11, v_13, M_9))
) else (
if (lg_cmp r_11 c3) ≤ 0 then (
bnd (c5 + 1 : Int32) fun v_16 =>
some (.inl (c2, c3, v_16, M_9))
) else (
bnd (c5 + 1 : Int32) fun v_18 =>
some (.inl (c5, r_11, v_18, M_9))
)
)
)
def m_X5_feet (fu : Nat) (M : Mem) (a1 : Int32) : Option (Int32 × Mem) :=
if a1 < 1 then (
some ((-1), M)
) else (
if a1 ≤ 60 then (
(lp (b_X5_feet_20 fu a1) fu (0, 0, 0, M)).bind <| (un2 fun v_22 M_23 =>
some (v_22, M_23))
) else (
some ((-1), M)
)
)

/-! X4_countEaten -/
def b_X4_countEaten_4 (fu : Nat) (r0 : Nat) (M : Mem)  : (Int32 × Int32) → Option ((Int32 × Int32) ⊕ (Int32)) :=
un2 fun c1 c2 =>
if (rd M r0 0) ≤ c2 then (
some (.inr c1)
) else (
chk (inb c2 10) <|
if (rd M (r0 + 8 + ix c2) (ix 7)) = (-1) then (
bnd (c2 + 1 : Int32) fun v_4 =>
some (.inl (c1, v_4))
) else (
bnd (c1 + 1 : Int32) fun v_6 =>
bnd (c2 + 1 : Int32) fun v_8 =>
some (.inl (v_6, v_8))
)
)
def m_X4_countEaten (fu : Nat) (r0 : Nat) (M : Mem) : Option (Int32) :=
(lp (b_X4_countEaten_4 fu r0 M) fu (0, 0)).bind <| (un1 fun v_12 =>
some v_12)

/-! X5_thought -/
def m_X5_thought (fu : Nat) (M : Mem) (a1 : Int32) (a2 : Int32) : Option (Int32 × Mem) :=
if a1 < 1 then (
some ((-100000000), M)
) else (
if 60 < a1 then (
some ((-100000000), M)
) else (
if a2 < 0 then (
some ((-100000000), M)
) else (
if a2 ≤ 3 then (
(m_X4_copy fu 74 0 M).bind fun M_6 =>
(m_X4_pass fu 74 M_6 a1).bind fun M_8 =>
if a2 = 0 then (
(m_X4_allPurses fu 74 M_8).bind fun r_11 =>
(m_X4_allPurses fu 0 M_8).bind fun r_13 =>
some ((r_11 - r_13).toInt32, M_8)
) else (
if a2 = 1 then (
some ((rd M_8 74 3) - (rd M_8 0 3), M_8)
) else (
if a2 = 2 then (
(m_X4_added fu 74 M_8 6).bind fun r_17 =>
(m_X4_added fu 0 M_8 6).bind fun r_19 =>
some (r_17 - r_19, M_8)
) else (
(m_X4_countEaten fu 74 M_8).bind fun r_21 =>
some (r_21, M_8)
)))
) else (
some ((-100000000), M)
)
)
)
)

/-! X5_image -/
def m_X5_image (fu : Nat) (M : Mem) (a1 : Int32) : Option (Int32 × Mem) :=
if a1 = 0 then (
if (rd M 146 10) = 0 then (
chk (isB (rd M 146 10)) <|
some (rd M 146 10, M)
) else (
(m_X4_copy fu 0 37 M).bind fun M_5 =>
chk (isB (rd M_5 146 10)) <|
some (rd M_5 146 10, M_5)
)
) else (
(m_X4_copy fu 37 0 M).bind fun M_8 =>
bnd (wr M_8 146 10 1) fun M_9 =>
chk (isB (rd M_9 146 10)) <|
some (rd M_9 146 10, M_9)
)

/-! X5_look -/
def j_X5_look_25 (fu : Nat) (M : Mem) (s1 : Int32) : Option (Int32) :=
if s1 = 0 then (
some (rd M 0 0)
) else (
if s1 = 1 then (
some (rd M 0 2)
) else (
if s1 = 2 then (
some (rd M 0 3)
) else (
if s1 = 3 then (
(m_X4_allWidths fu 0 M).bind fun r_7 =>
some r_7
) else (
if s1 = 4 then (
(m_X4_countEaten fu 0 M).bind fun r_10 =>
some r_10
) else (
some (-1)
)))))
def m_X5_look (fu : Nat) (M : Mem) (a1 : Int32) : Option (Int32) :=
if a1 < 10 then (
j_X5_look_25 fu M a1
) else (
if 20 ≤ a1 then (
j_X5_look_25 fu M a1
) else (
chk (inb (a1 - 10) 10) <|
some (rd M (0 + 1) (ix (a1 - 10)))
)
)

/-! X6_isIn -/
def m_X6_isIn (M : Mem) (a1 : Int32) (a2 : Int32) (a3 : Int32) : Option (Int32) :=
if a1 < a2 then (
some 0
) else (
if a3 < a1 then (
some 0
) else (
some 1
)
)

/-! X6_less -/
def m_X6_less (M : Mem) (a1 : Int32) (a2 : Int32) : Option (Int32) :=
if a2 ≤ a1 then (
some a2
) else (
some a1
)

/-! X6_size -/
def m_X6_size (M : Mem) (a1 : Int32) : Option (Int32) :=
if 0 ≤ a1 then (
some a1
) else (
some (-a1)
)

/-! X6_ones -/
def b_X6_ones_4 (fu : Nat) (M : Mem)  : (Int32 × Int32) → Option ((Int32 × Int32) ⊕ (Int32)) :=
un2 fun c2 c3 =>
if c3 = 0 then (
some (.inr c2)
) else (
bnd (c2 + 1 : Int32) fun v_2 =>
bnd (c3 &&& (c3 - 1) : Int32) fun v_4 =>
some (.inl (v_2, v_4))
)
def m_X6_ones (fu : Nat) (M : Mem) (a1 : Int32) : Option (Int32) :=
(lp (b_X6_ones_4 fu M) fu (0, a1)).bind <| (un1 fun v_8 =>
some v_8)

/-! X6_state -/
def m_X6_state (M : Mem) (a1 : Int32) : Option (Int32 × Mem) :=
bnd (wr M 148 0 0) fun M_1 =>
bnd (rd M_1 148 1 : Int32) fun v_3 =>
bnd (wr M_1 148 1 a1) fun M_5 =>
some (v_3, M_5)

/-! X6_draw -/
def m_X6_draw (M : Mem) (a1 : Int32) : Option (Int32 × Mem) :=
bnd (wr M 148 1 ((1664525 * (rd M 148 1)) + 1013904223)) fun M_1 =>
chk (!decide (a1 = 0)) <|
some (irem (ushr (rd M_1 148 1) 8) a1, M_1)

/-! X6_isFarm -/
def m_X6_isFarm (M : Mem) (a1 : Int32) : Option (Int32) :=
if a1 < 0 then (
some 0
) else (
if (rd M 148 2) ≤ a1 then (
some 0
) else (
some 1
)
)

/-! X6_ring -/
def b_X6_ring_25 (fu : Nat)  : (Int32 × Mem) → Option ((Int32 × Mem) ⊕ (Mem)) :=
un2 fun c2 M =>
if 10 ≤ c2 then (
some (.inr M)
) else (
chk (inb c2 10) <|
bnd (wr M 149 (ix c2) 10) fun M_10 =>
bnd (wr M_10 150 (ix c2) 0) fun M_12 =>
bnd (wr M_12 151 (ix c2) c2) fun M_14 =>
bnd (wr M_14 152 (ix c2) 0) fun M_16 =>
bnd (wr M_16 153 (ix c2) 0) fun M_18 =>
bnd (wr M_18 154 (ix c2) 99) fun M_20 =>
bnd (wr M_20 155 (ix c2) 0) fun M_22 =>
bnd (wr M_22 156 (ix c2) (-1)) fun M_24 =>
bnd (wr M_24 157 (ix c2) 0) fun M_26 =>
bnd (wr M_26 158 (ix c2) 0) fun M_28 =>
bnd (wr M_28 159 (ix c2) 0) fun M_30 =>
bnd (wr M_30 160 (ix c2) (-1)) fun M_32 =>
bnd (wr M_32 161 (ix c2) (-1)) fun M_34 =>
bnd (c2 + 1 : Int32) fun v_36 =>
some (.inl (v_36, M_34))
)
def m_X6_ring (fu : Nat) (M : Mem) (a1 : Int32) : Option (Int32 × Mem) :=
bnd (wr M 148 0 0) fun M_1 =>
(m_X6_isIn M_1 a1 2 10).bind fun r_4 =>
if r_4 = 0 then (
some (0, M_1)
) else (
bnd (wr M_1 148 2 a1) fun M_6 =>
(lp (b_X6_ring_25 fu) fu (0, M_6)).bind <| (un1 fun M_40 =>
some (1, M_40))
)

/-! X6_farm -/
def j_X6_farm_102 (M : Mem) (s1 : Int32) (s2 : Int32) (s3 : Int32) : Option (Int32 × Mem) :=
if s2 = 3 then (
chk (inb s1 10) <|
bnd (wr M 152 (ix s1) s3) fun M_20 =>
some (1, M_20)
) else (
some (1, M)
)
def j_X6_farm_90 (M : Mem) (s1 : Int32) (s2 : Int32) (s3 : Int32) : Option (Int32 × Mem) :=
if s2 = 2 then (
chk (inb s1 10) <|
bnd (wr M 151 (ix s1) s3) fun M_23 =>
j_X6_farm_102 M_23 s1 s2 s3
) else (
j_X6_farm_102 M s1 s2 s3
)
def j_X6_farm_78 (M : Mem) (s1 : Int32) (s2 : Int32) (s3 : Int32) : Option (Int32 × Mem) :=
if s2 = 1 then (
chk (inb s1 10) <|
bnd (wr M 150 (ix s1) s3) fun M_26 =>
j_X6_farm_90 M_26 s1 s2 s3
) else (
j_X6_farm_90 M s1 s2 s3
)
def j_X6_farm_34 (M : Mem) (s1 : Int32) (s2 : Int32) (s3 : Int32) (t0 : Int32) : Option (Int32 × Mem) :=
(m_X6_isFarm M s1).bind fun r_7 =>
if r_7 = 0 then (
some (0, M)
) else (
(m_X6_isIn M s2 0 3).bind fun r_10 =>
if r_10 = 0 then (
some (0, M)
) else (
(m_X6_isIn M s3 0 t0).bind fun r_13 =>
if r_13 = 0 then (
some (0, M)
) else (
if s2 = 0 then (
chk (inb s1 10) <|
bnd (wr M 149 (ix s1) s3) fun M_29 =>
j_X6_farm_78 M_29 s1 s2 s3
) else (
j_X6_farm_78 M s1 s2 s3
)
)
)
)
def m_X6_farm (M : Mem) (a1 : Int32) (a2 : Int32) (a3 : Int32) : Option (Int32 × Mem) :=
bnd (wr M 148 0 0) fun M_1 =>
if a2 = 0 then (
j_X6_farm_34 M_1 a1 a2 a3 60
) else (
if a2 = 1 then (
j_X6_farm_34 M_1 a1 a2 a3 3
) else (
if a2 = 2 then (
j_X6_farm_34 M_1 a1 a2 a3 9
) else (
j_X6_farm_34 M_1 a1 a2 a3 1
)
)
)

/-! X6_border -/
def j_X6_border_64 (M : Mem) (s1 : Int32) : Option (Int32 × Mem) :=
chk (inb s1 10) <|
bnd (wr M 159 (ix s1) 0) fun M_18 =>
some (1, M_18)
def j_X6_border_35 (M : Mem) (s1 : Int32) (s2 : Int32) (s3 : Int32) (t1 : Int32) (t2 : Int32) (t3 : Int32) : Option (Int32 × Mem) :=
(m_X6_isIn M t1 t2 t3).bind fun r_11 =>
if r_11 = 0 then (
some (0, M)
) else (
if s2 = 0 then (
chk (inb s1 10) <|
bnd (wr M 157 (ix s1) s3) fun M_21 =>
j_X6_border_64 M_21 s1
) else (
chk (inb s1 10) <|
bnd (wr M 158 (ix s1) s3) fun M_15 =>
j_X6_border_64 M_15 s1
)
)
def m_X6_border (M : Mem) (a1 : Int32) (a2 : Int32) (a3 : Int32) : Option (Int32 × Mem) :=
bnd (wr M 148 0 0) fun M_1 =>
(m_X6_isFarm M_1 a1).bind fun r_4 =>
if r_4 = 0 then (
some (0, M_1)
) else (
(m_X6_isIn M_1 a2 0 1).bind fun r_7 =>
if r_7 = 0 then (
some (0, M_1)
) else (
if a2 = 0 then (
j_X6_border_35 M_1 a1 a2 a3 a3 0 1
) else (
j_X6_border_35 M_1 a1 a2 a3 a3 0 3
)
)
)

/-! X6_set -/
def j_X6_set_29 (M : Mem) (s1 : Int32) (s2 : Int32) (t0 : Int32) : Option (Int32 × Mem) :=
(m_X6_isIn M s1 0 9).bind fun r_6 =>
if r_6 = 0 then (
some (0, M)
) else (
(m_X6_isIn M s2 0 t0).bind fun r_9 =>
if r_9 = 0 then (
some (0, M)
) else (
chk (inb s1 10) <|
bnd (wr M 162 (ix s1) s2) fun M_12 =>
some (1, M_12)
)
)
def m_X6_set (M : Mem) (a1 : Int32) (a2 : Int32) : Option (Int32 × Mem) :=
bnd (wr M 148 0 0) fun M_1 =>
if a1 = 9 then (
j_X6_set_29 M_1 a1 a2 5
) else (
if a1 < 7 then (
j_X6_set_29 M_1 a1 a2 99
) else (
j_X6_set_29 M_1 a1 a2 1000
)
)

/-! X6_worthOf -/
def m_X6_worthOf (M : Mem) (a1 : Int32) : Option (Int32) :=
(m_X6_less M a1 10).bind fun r_2 =>
(m_X6_less M a1 30).bind fun r_4 =>
bnd (r_4 - r_2 : Int32) fun v_5 =>
some ((((rd M 162 (ix 0)) * r_2) + ((rd M 162 (ix 1)) * v_5)) + ((rd M 162 (ix 2)) * ((a1 - r_2) - v_5)))

/-! X6_worth -/
def m_X6_worth (M : Mem) (a1 : Int32) : Option (Int32 × Mem) :=
bnd (wr M 148 0 0) fun M_1 =>
(m_X6_isIn M_1 a1 0 600).bind fun r_4 =>
if r_4 = 0 then (
some ((-1), M_1)
) else (
(m_X6_worthOf M_1 a1).bind fun r_7 =>
some (r_7, M_1)
)

/-! X6_rightOf -/
def m_X6_rightOf (M : Mem) (a1 : Int32) : Option (Int32) :=
chk (!decide (rd M 148 2 = 0)) <|
some (irem (a1 + 1) (rd M 148 2))

/-! X6_leftOf -/
def m_X6_leftOf (M : Mem) (a1 : Int32) : Option (Int32) :=
chk (!decide (rd M 148 2 = 0)) <|
some (irem ((a1 + (rd M 148 2)) - 1) (rd M 148 2))

/-! X6_puts -/
def b_X6_puts_3 (fu : Nat) (s1 : Int32)  : (Int32 × Mem) → Option ((Int32 × Mem) ⊕ (Mem)) :=
un2 fun c2 M =>
if c2 < 0 then (
some (.inr M)
) else (
chk (inb (rd M 148 20) 400) <|
bnd (wr M 163 (ix (rd M 148 20)) ((ishr s1 c2) &&& 255)) fun M_3 =>
bnd (wr M_3 148 20 ((rd M_3 148 20) + 1)) fun M_5 =>
bnd (c2 + (-8) : Int32) fun v_7 =>
some (.inl (v_7, M_5))
)
def m_X6_puts (fu : Nat) (M : Mem) (a1 : Int32) : Option (Mem) :=
(lp (b_X6_puts_3 fu a1) fu (24, M)).bind <| (un1 fun M_11 =>
some M_11)

/-! X6_feed -/
def m_X6_feed (fu : Nat) (M : Mem) (a1 : Int32) (a2 : Int32) (a3 : Int32) (a4 : Int32) (a5 : Int32) : Option (Int32 × Mem) :=
bnd (wr M 148 0 0) fun M_1 =>
if (rd M_1 148 20) ≤ 380 then (
(m_X6_puts fu M_1 a1).bind fun M_5 =>
(m_X6_puts fu M_5 a2).bind fun M_7 =>
(m_X6_puts fu M_7 a3).bind fun M_9 =>
(m_X6_puts fu M_9 a4).bind fun M_11 =>
(m_X6_puts fu M_11 a5).bind fun M_13 =>
some (rd M_13 148 20, M_13)
) else (
some ((-1), M_1)
)

/-! X6_end -/
def m_X6_end (M : Mem) (a1 : Int32) : Option (Int32 × Mem) :=
bnd (wr M 148 0 0) fun M_1 =>
(m_X6_isIn M_1 a1 0 (rd M_1 148 20)).bind fun r_4 =>
if r_4 = 0 then (
some (0, M_1)
) else (
bnd (wr M_1 148 20 a1) fun M_6 =>
some (1, M_6)
)

/-! X6_raw -/
def m_X6_raw (M : Mem) (a1 : Int32) : Option (Int32) :=
if (rd M 148 20) ≤ a1 then (
some (-1)
) else (
chk (inb a1 400) <|
some (rd M 163 (ix a1))
)

/-! X6_isLetter -/
def j_X6_isLetter_24 (M : Mem) : Option (Int32) :=
some 1
def m_X6_isLetter (M : Mem) (a1 : Int32) : Option (Int32) :=
(m_X6_isIn M a1 97 122).bind fun r_2 =>
if r_2 = 0 then (
(m_X6_isIn M a1 65 90).bind fun r_5 =>
if r_5 = 0 then (
some 0
) else (
j_X6_isLetter_24 M
)
) else (
j_X6_isLetter_24 M
)

/-! X6_isDigit -/
def m_X6_isDigit (M : Mem) (a1 : Int32) : Option (Int32) :=
(m_X6_isIn M a1 48 57).bind fun r_2 =>
chk (isB r_2) <|
some r_2

/-! X6_isMarkSign -/
def j_X6_isMarkSign_60 (M : Mem) : Option (Int32) :=
some 1
def m_X6_isMarkSign (M : Mem) (a1 : Int32) : Option (Int32) :=
if a1 = 59 then (
j_X6_isMarkSign_60 M
) else (
if a1 = 43 then (
j_X6_isMarkSign_60 M
) else (
if a1 = 45 then (
j_X6_isMarkSign_60 M
) else (
if a1 = 42 then (
j_X6_isMarkSign_60 M
) else (
if a1 = 47 then (
j_X6_isMarkSign_60 M
) else (
if a1 = 40 then (
j_X6_isMarkSign_60 M
) else (
if a1 = 41 then (
j_X6_isMarkSign_60 M
) else (
if a1 = 60 then (
j_X6_isMarkSign_60 M
) else (
if a1 = 61 then (
j_X6_isMarkSign_60 M
) else (
if a1 = 62 then (
j_X6_isMarkSign_60 M
) else (
some 0
)
)
)
)
)
)
)
)
)
)

/-! X6_wordAt -/
def b_X6_wordAt_19 (fu : Nat) (M : Mem) (s1 : Int32) (s2 : Int32) (s3 : Int32) (s4 : Int32)  : (Int32) → Option ((Int32) ⊕ (Int32)) :=
un1 fun c5 =>
if s2 ≤ (s1 + c5) then (
some (.inr c5)
) else (
chk (inb ((s4 + 1) + c5) 99) <|
chk (inb (s1 + c5) 400) <|
if (rd M 164 (ix ((s4 + 1) + c5))) = (rd M 163 (ix (s1 + c5))) then (
bnd (c5 + 1 : Int32) fun v_8 =>
some (.inl v_8)
) else (
some (.inr c5)
)
)
def b_X6_wordAt_93 (fu : Nat) (M : Mem) (s1 : Int32) (s2 : Int32) (s3 : Int32)  : (Int32) → Option ((Int32) ⊕ (Int32)) :=
un1 fun c4 =>
chk (inb c4 99) <|
if (rd M 164 (ix c4)) = 32 then (
some (.inr c4)
) else (
bnd (c4 + 1 : Int32) fun v_18 =>
some (.inl v_18)
)
def j_X6_wordAt_87i (fu : Nat) (M : Mem) (s1 : Int32) (s2 : Int32) (s3 : Int32) (s4 : Int32) : Option ((Int32 × Int32) ⊕ ((Int32) ⊕ (Unit))) :=
bnd (s4 + 1 : Int32) fun v_14 =>
(lp (b_X6_wordAt_93 fu M s1 s2 s3) fu v_14).bind <| (un1 fun v_22 =>
some (.inl (s3, v_22)))
def b_X6_wordAt_5 (fu : Nat) (M : Mem) (s1 : Int32) (s2 : Int32)  : (Int32 × Int32) → Option ((Int32 × Int32) ⊕ ((Int32) ⊕ (Unit))) :=
un2 fun c3 c4 =>
if 98 ≤ c4 then (
some (.inr (.inr ()))
) else (
bnd (c3 + 1 : Int32) fun v_2 =>
(lp (b_X6_wordAt_19 fu M s1 s2 v_2 c4) fu 0).bind <| (un1 fun v_12 =>
if (s1 + v_12) = s2 then (
chk (inb ((c4 + 1) + v_12) 99) <|
if (rd M 164 (ix ((c4 + 1) + v_12))) = 32 then (
some (.inr (.inl v_2))
) else (
j_X6_wordAt_87i fu M s1 s2 v_2 c4
)
) else (
j_X6_wordAt_87i fu M s1 s2 v_2 c4
))
)
def m_X6_wordAt (fu : Nat) (M : Mem) (a1 : Int32) (a2 : Int32) : Option (Int32) :=
(lp (b_X6_wordAt_5 fu M a1 a2) fu ((-1), 0)).bind <| (unS (un1 fun v_27 =>
some v_27)
(un0 <|
some (-1)))

/-! X6_reads -/
def j_X6_reads_26i (fu : Nat) (M : Mem) : Option ((Mem) ⊕ (Mem)) :=
bnd (wr M 148 21 ((rd M 148 21) + 1)) fun M_4 =>
some (.inl M_4)
def b_X6_reads_0 (fu : Nat)  : (Mem) → Option ((Mem) ⊕ (Mem)) :=
un1 fun M =>
(m_X6_raw M (rd M 148 21)).bind fun r_2 =>
if r_2 = 32 then (
j_X6_reads_26i fu M
) else (
(m_X6_raw M (rd M 148 21)).bind fun r_7 =>
if r_7 = 10 then (
j_X6_reads_26i fu M
) else (
some (.inr M)
)
)
def j_X6_reads_223i (fu : Nat) (M : Mem) (t1 : Int32) : Option ((Mem) ⊕ (Mem)) :=
bnd (wr M 148 24 t1) fun M_42 =>
bnd (wr M_42 148 21 ((rd M_42 148 21) + 1)) fun M_44 =>
some (.inl M_44)
def b_X6_reads_171 (fu : Nat)  : (Mem) → Option ((Mem) ⊕ (Mem)) :=
un1 fun M =>
(m_X6_raw M (rd M 148 21)).bind fun r_37 =>
(m_X6_isDigit M r_37).bind fun r_39 =>
if r_39 = 0 then (
some (.inr M)
) else (
if 10000 ≤ (rd M 148 24) then (
j_X6_reads_223i fu M (rd M 148 24)
) else (
(m_X6_raw M (rd M 148 21)).bind fun r_47 =>
j_X6_reads_223i fu M (((10 * (rd M 148 24)) + r_47) - 48)
)
)
def b_X6_reads_95 (fu : Nat)  : (Mem) → Option ((Mem) ⊕ (Mem)) :=
un1 fun M =>
(m_X6_raw M (rd M 148 21)).bind fun r_55 =>
(m_X6_isLetter M r_55).bind fun r_57 =>
if r_57 = 0 then (
some (.inr M)
) else (
bnd (wr M 148 21 ((rd M 148 21) + 1)) fun M_59 =>
some (.inl M_59)
)
def m_X6_reads (fu : Nat) (M : Mem) : Option (Mem) :=
(lp (b_X6_reads_0 fu) fu M).bind <| (un1 fun M_11 =>
bnd (wr M_11 148 22 (rd M_11 148 21)) fun M_12 =>
bnd (wr M_12 148 23 1) fun M_14 =>
(m_X6_raw M_14 (rd M_14 148 21)).bind fun r_17 =>
if r_17 = (-1) then (
bnd (wr M_14 148 23 0) fun M_71 =>
some M_71
) else (
bnd (wr M_14 148 21 ((rd M_14 148 21) + 1)) fun M_19 =>
bnd (wr M_19 148 24 r_17) fun M_21 =>
(m_X6_isLetter M_21 r_17).bind fun r_24 =>
if r_24 = 0 then (
(m_X6_isDigit M_21 r_17).bind fun r_27 =>
if r_27 = 0 then (
(m_X6_isMarkSign M_21 r_17).bind fun r_30 =>
if r_30 = 0 then (
some M_21
) else (
bnd (wr M_21 148 23 4) fun M_32 =>
some M_32
)
) else (
bnd (wr M_21 148 24 (r_17 - 48)) fun M_34 =>
(lp (b_X6_reads_171 fu) fu M_34).bind <| (un1 fun M_50 =>
if 5 ≤ ((rd M_50 148 21) - (rd M_50 148 22)) then (
some M_50
) else (
bnd (wr M_50 148 23 3) fun M_52 =>
some M_52
))
)
) else (
(lp (b_X6_reads_95 fu) fu M_21).bind <| (un1 fun M_63 =>
(m_X6_wordAt fu M_63 (rd M_63 148 22) (rd M_63 148 21)).bind fun r_65 =>
bnd (wr M_63 148 24 r_65) fun M_66 =>
if (rd M_66 148 24) = (-1) then (
some M_66
) else (
bnd (wr M_66 148 23 2) fun M_69 =>
some M_69
))
)
))

/-! X6_errs -/
def m_X6_errs (M : Mem) (a1 : Int32) : Option (Int32 × Mem) :=
bnd (wr M 148 36 a1) fun M_1 =>
bnd (wr M_1 148 37 (rd M_1 148 22)) fun M_3 =>
some ((-1), M_3)

/-! X6_isWord -/
def m_X6_isWord (M : Mem) (a1 : Int32) : Option (Int32) :=
if (rd M 148 23) = 2 then (
if (rd M 148 24) = a1 then (
some 1
) else (
some 0
)
) else (
some 0
)

/-! X6_isSign -/
def m_X6_isSign (M : Mem) (a1 : Int32) : Option (Int32) :=
if (rd M 148 23) = 4 then (
if (rd M 148 24) = a1 then (
some 1
) else (
some 0
)
) else (
some 0
)

/-! X6_emits -/
def m_X6_emits (M : Mem) (a1 : Int32) (a2 : Int32) : Option (Mem) :=
chk (inb (1600 + (rd M 148 32)) 2000) <|
bnd (wr M 169 (ix (1600 + (rd M 148 32))) a1) fun M_2 =>
chk (inb (1600 + (rd M_2 148 32)) 2000) <|
bnd (wr M_2 170 (ix (1600 + (rd M_2 148 32))) a2) fun M_5 =>
bnd (wr M_5 148 32 ((rd M_5 148 32) + 1)) fun M_7 =>
some M_7

/-! X6_readUnit -/
def j_X6_readUnit_67 (fu : Nat) (M : Mem) (t1 : Int32) (t2 : Int32) : Option (Int32 × Mem) :=
(m_X6_emits M t1 t2).bind fun M_6 =>
(m_X6_reads fu M_6).bind fun M_8 =>
some (0, M_8)
def j_X6_readUnit_50 (fu : Nat) (M : Mem) (s1 : Int32) (t1 : Int32) : Option (Int32 × Mem) :=
if s1 = 0 then (
j_X6_readUnit_67 fu M t1 (rd M 148 24)
) else (
j_X6_readUnit_67 fu M t1 ((rd M 148 24) - 5)
)
def j_X6_readUnit_40 (fu : Nat) (M : Mem) (s1 : Int32) : Option (Int32 × Mem) :=
if s1 = 0 then (
j_X6_readUnit_50 fu M s1 0
) else (
j_X6_readUnit_50 fu M s1 1
)
def j_X6_readUnit_21 (fu : Nat) (M : Mem) (t0 : Int32) : Option (Int32 × Mem) :=
if t0 = 0 then (
if (rd M 148 23) = 3 then (
j_X6_readUnit_40 fu M t0
) else (
(m_X6_errs M 1).bind <| un2 fun r_11 M_12 =>
some (r_11, M_12)
)
) else (
j_X6_readUnit_40 fu M t0
)
def j_X6_readUnit_20 (fu : Nat) (M : Mem) : Option (Int32 × Mem) :=
j_X6_readUnit_21 fu M 0
def m_X6_readUnit (fu : Nat) (M : Mem) : Option (Int32 × Mem) :=
if (rd M 148 23) = 2 then (
if (rd M 148 24) < 5 then (
j_X6_readUnit_20 fu M
) else (
j_X6_readUnit_21 fu M 1
)
) else (
j_X6_readUnit_20 fu M
)

/-! X6_readProduct -/
def j_X6_readProduct_94i (fu : Nat) (M : Mem) (t1 : Int32) : Option ((Mem) ⊕ ((Mem) ⊕ ((Mem) ⊕ ((Mem) ⊕ (Mem))))) :=
(m_X6_emits M t1 0).bind fun M_20 =>
some (.inl M_20)
def j_X6_readProduct_74i (fu : Nat) (M : Mem) (s1 : Int32) : Option ((Mem) ⊕ ((Mem) ⊕ ((Mem) ⊕ ((Mem) ⊕ (Mem))))) :=
(m_X6_readUnit fu M).bind <| un2 fun r_15 M_16 =>
if r_15 = (-1) then (
some (.inr (.inr (.inr (.inl M_16))))
) else (
if s1 = 0 then (
j_X6_readProduct_94i fu M_16 5
) else (
j_X6_readProduct_94i fu M_16 4
)
)
def j_X6_readProduct_57i (fu : Nat) (M : Mem) (s1 : Int32) : Option ((Mem) ⊕ ((Mem) ⊕ ((Mem) ⊕ ((Mem) ⊕ (Mem))))) :=
if s1 = 0 then (
if (rd M 148 24) = 0 then (
some (.inr (.inr (.inl M)))
) else (
j_X6_readProduct_74i fu M s1
)
) else (
j_X6_readProduct_74i fu M s1
)
def j_X6_readProduct_28i (fu : Nat) (M : Mem) : Option ((Mem) ⊕ ((Mem) ⊕ ((Mem) ⊕ ((Mem) ⊕ (Mem))))) :=
(m_X6_isSign M 42).bind fun r_9 =>
(m_X6_reads fu M).bind fun M_11 =>
if r_9 = 0 then (
if (rd M_11 148 23) = 3 then (
j_X6_readProduct_57i fu M_11 r_9
) else (
some (.inr (.inl M_11))
)
) else (
j_X6_readProduct_57i fu M_11 r_9
)
def b_X6_readProduct_10 (fu : Nat)  : (Mem) → Option ((Mem) ⊕ ((Mem) ⊕ ((Mem) ⊕ ((Mem) ⊕ (Mem))))) :=
un1 fun M =>
(m_X6_isSign M 42).bind fun r_6 =>
if r_6 = 0 then (
(m_X6_isSign M 47).bind fun r_24 =>
if r_24 = 0 then (
some (.inr (.inr (.inr (.inr M))))
) else (
j_X6_readProduct_28i fu M
)
) else (
j_X6_readProduct_28i fu M
)
def m_X6_readProduct (fu : Nat) (M : Mem) : Option (Int32 × Mem) :=
(m_X6_readUnit fu M).bind <| un2 fun r_2 M_3 =>
if r_2 = (-1) then (
some ((-1), M_3)
) else (
(lp (b_X6_readProduct_10 fu) fu M_3).bind <| (unS (un1 fun M_28 =>
(m_X6_errs M_28 1).bind <| un2 fun r_30 M_31 =>
some (r_30, M_31))
(unS (un1 fun M_32 =>
(m_X6_errs M_32 2).bind <| un2 fun r_34 M_35 =>
some (r_34, M_35))
(unS (un1 fun M_36 =>
some ((-1), M_36))
(un1 fun M_37 =>
some (0, M_37)))))
)

/-! X6_readSum -/
def j_X6_readSum_42i (fu : Nat) (M : Mem) (t0 : Int32) : Option ((Mem) ⊕ ((Mem) ⊕ (Mem))) :=
(m_X6_reads fu M).bind fun M_10 =>
(m_X6_readProduct fu M_10).bind <| un2 fun r_12 M_13 =>
if r_12 = (-1) then (
some (.inr (.inl M_13))
) else (
(m_X6_emits M_13 t0 0).bind fun M_16 =>
some (.inl M_16)
)
def j_X6_readSum_28i (fu : Nat) (M : Mem) : Option ((Mem) ⊕ ((Mem) ⊕ (Mem))) :=
if (rd M 148 24) = 43 then (
j_X6_readSum_42i fu M 2
) else (
j_X6_readSum_42i fu M 3
)
def b_X6_readSum_10 (fu : Nat)  : (Mem) → Option ((Mem) ⊕ ((Mem) ⊕ (Mem))) :=
un1 fun M =>
(m_X6_isSign M 43).bind fun r_6 =>
if r_6 = 0 then (
(m_X6_isSign M 45).bind fun r_18 =>
if r_18 = 0 then (
some (.inr (.inr M))
) else (
j_X6_readSum_28i fu M
)
) else (
j_X6_readSum_28i fu M
)
def m_X6_readSum (fu : Nat) (M : Mem) : Option (Int32 × Mem) :=
(m_X6_readProduct fu M).bind <| un2 fun r_2 M_3 =>
if r_2 = (-1) then (
some ((-1), M_3)
) else (
(lp (b_X6_readSum_10 fu) fu M_3).bind <| (unS (un1 fun M_22 =>
some ((-1), M_22))
(un1 fun M_23 =>
some (0, M_23)))
)

/-! X6_readCompared -/
def j_X6_readCompared_73 (fu : Nat) (M : Mem) (t0 : Int32) : Option (Int32 × Mem) :=
(m_X6_reads fu M).bind fun M_11 =>
(m_X6_readSum fu M_11).bind <| un2 fun r_13 M_14 =>
if r_13 = (-1) then (
some ((-1), M_14)
) else (
(m_X6_emits M_14 t0 0).bind fun M_17 =>
some (0, M_17)
)
def j_X6_readCompared_43 (fu : Nat) (M : Mem) : Option (Int32 × Mem) :=
if (rd M 148 24) = 60 then (
j_X6_readCompared_73 fu M 6
) else (
if (rd M 148 24) = 61 then (
j_X6_readCompared_73 fu M 7
) else (
j_X6_readCompared_73 fu M 8
)
)
def m_X6_readCompared (fu : Nat) (M : Mem) : Option (Int32 × Mem) :=
(m_X6_readSum fu M).bind <| un2 fun r_2 M_3 =>
if r_2 = (-1) then (
some ((-1), M_3)
) else (
(m_X6_isSign M_3 60).bind fun r_6 =>
if r_6 = 0 then (
(m_X6_isSign M_3 61).bind fun r_19 =>
if r_19 = 0 then (
(m_X6_isSign M_3 62).bind fun r_22 =>
if r_22 = 0 then (
(m_X6_errs M_3 1).bind <| un2 fun r_25 M_26 =>
some (r_25, M_26)
) else (
j_X6_readCompared_43 fu M_3
)
) else (
j_X6_readCompared_43 fu M_3
)
) else (
j_X6_readCompared_43 fu M_3
)
)

/-! X6_waits -/
def m_X6_waits (M : Mem) (a1 : Int32) : Option (Mem) :=
chk (inb (rd M 148 35) 40) <|
bnd (wr M 171 (ix (rd M 148 35)) a1) fun M_2 =>
bnd (wr M_2 148 35 ((rd M_2 148 35) + 1)) fun M_4 =>
some M_4

/-! X6_settles -/
def b_X6_settles_0 (fu : Nat) (s1 : Int32)  : (Mem) → Option ((Mem) ⊕ (Mem)) :=
un1 fun M =>
if (rd M 148 35) ≤ 0 then (
some (.inr M)
) else (
chk (inb ((rd M 148 35) - 1) 40) <|
if (rd M 171 (ix ((rd M 148 35) - 1))) = s1 then (
bnd (wr M 148 35 ((rd M 148 35) - 1)) fun M_4 =>
(m_X6_emits M_4 s1 0).bind fun M_7 =>
if s1 = 9 then (
bnd (wr M_7 148 33 ((rd M_7 148 33) - 1)) fun M_9 =>
some (.inl M_9)
) else (
some (.inl M_7)
)
) else (
some (.inr M)
)
)
def m_X6_settles (fu : Nat) (M : Mem) (a1 : Int32) : Option (Mem) :=
(lp (b_X6_settles_0 fu a1) fu M).bind <| (un1 fun M_13 =>
some M_13)

/-! X6_readAny -/
def j_X6_readAny_77i (fu : Nat) (M : Mem) (s1 : Int32) (s2 : Int32) (t1 : Int32) : Option ((Int32 × Int32 × Mem) ⊕ ((Mem) ⊕ ((Mem) ⊕ ((Mem) ⊕ (Mem))))) :=
(m_X6_waits M t1).bind fun M_51 =>
(m_X6_reads fu M_51).bind fun M_53 =>
some (.inl (s1, s2, M_53))
def j_X6_readAny_65i (fu : Nat) (M : Mem) (s1 : Int32) (s2 : Int32) (s3 : Int32) : Option ((Int32 × Int32 × Mem) ⊕ ((Mem) ⊕ ((Mem) ⊕ ((Mem) ⊕ (Mem))))) :=
if s3 = 0 then (
j_X6_readAny_77i fu M s1 s2 12
) else (
j_X6_readAny_77i fu M s1 s2 9
)
def j_X6_readAny_32i (fu : Nat) (M : Mem) (s1 : Int32) (s2 : Int32) (s3 : Int32) : Option ((Int32 × Int32 × Mem) ⊕ ((Mem) ⊕ ((Mem) ⊕ ((Mem) ⊕ (Mem))))) :=
if (rd M 148 33) = 8 then (
some (.inr (.inl M))
) else (
bnd (wr M 148 33 ((rd M 148 33) + 1)) fun M_46 =>
if s3 = 0 then (
bnd (s1 + 1 : Int32) fun v_54 =>
j_X6_readAny_65i fu M_46 v_54 s2 s3
) else (
j_X6_readAny_65i fu M_46 s1 s2 s3
)
)
def b_X6_readAny_9 (fu : Nat)  : (Int32 × Int32 × Mem) → Option ((Int32 × Int32 × Mem) ⊕ ((Mem) ⊕ ((Mem) ⊕ ((Mem) ⊕ (Mem))))) :=
un3 fun c1 c2 M =>
if c2 = 0 then (
(m_X6_isWord M 3).bind fun r_5 =>
if r_5 = 0 then (
(m_X6_isWord M 2).bind fun r_8 =>
if r_8 = 0 then (
(m_X6_settles fu M 10).bind fun M_11 =>
(m_X6_settles fu M_11 11).bind fun M_13 =>
if c1 = 0 then (
some (.inr (.inr (.inr (.inl M_13))))
) else (
(m_X6_isSign M_13 41).bind fun r_16 =>
if r_16 = 0 then (
some (.inr (.inr (.inr (.inr M_13))))
) else (
bnd (wr M_13 148 35 ((rd M_13 148 35) - 1)) fun M_18 =>
bnd (c1 - 1 : Int32) fun v_20 =>
bnd (wr M_18 148 33 ((rd M_18 148 33) - 1)) fun M_22 =>
(m_X6_settles fu M_22 9).bind fun M_25 =>
(m_X6_reads fu M_25).bind fun M_27 =>
some (.inl (v_20, c2, M_27))
)
)
) else (
(m_X6_settles fu M 10).bind fun M_29 =>
(m_X6_settles fu M_29 11).bind fun M_31 =>
(m_X6_waits M_31 11).bind fun M_33 =>
(m_X6_reads fu M_33).bind fun M_35 =>
some (.inl (c1, 1, M_35))
)
) else (
(m_X6_settles fu M 10).bind fun M_37 =>
(m_X6_waits M_37 10).bind fun M_39 =>
(m_X6_reads fu M_39).bind fun M_41 =>
some (.inl (c1, 1, M_41))
)
) else (
(m_X6_isWord M 4).bind fun r_43 =>
if r_43 = 0 then (
(m_X6_isSign M 40).bind fun r_57 =>
if r_57 = 0 then (
(m_X6_readCompared fu M).bind <| un2 fun r_60 M_61 =>
if r_60 = (-1) then (
some (.inr (.inr (.inl M_61)))
) else (
(m_X6_settles fu M_61 9).bind fun M_64 =>
some (.inl (c1, 0, M_64))
)
) else (
j_X6_readAny_32i fu M c1 c2 r_43
)
) else (
j_X6_readAny_32i fu M c1 c2 r_43
)
)
def m_X6_readAny (fu : Nat) (M : Mem) : Option (Int32 × Mem) :=
bnd (wr M 148 35 0) fun M_1 =>
(lp (b_X6_readAny_9 fu) fu (0, 1, M_1)).bind <| (unS (un1 fun M_67 =>
(m_X6_errs M_67 3).bind <| un2 fun r_69 M_70 =>
some (r_69, M_70))
(unS (un1 fun M_71 =>
some ((-1), M_71))
(unS (un1 fun M_72 =>
some (0, M_72))
(un1 fun M_73 =>
(m_X6_errs M_73 1).bind <| un2 fun r_75 M_76 =>
some (r_75, M_76)))))

/-! X6_readLaw -/
def j_X6_readLaw_105i (fu : Nat) (M : Mem) (s1 : Int32) (s2 : Int32) : Option ((Int32 × Mem) ⊕ ((Mem) ⊕ ((Mem) ⊕ ((Mem) ⊕ ((Mem) ⊕ ((Mem) ⊕ (Int32 × Mem))))))) :=
chk (inb s2 80) <|
bnd (wr M 168 (ix s2) (rd M 148 32)) fun M_22 =>
(m_X6_isSign M_22 59).bind fun r_25 =>
if r_25 = 0 then (
some (.inr (.inr (.inr (.inr (.inr (.inl M_22))))))
) else (
(m_X6_reads fu M_22).bind fun M_28 =>
bnd (s1 + 1 : Int32) fun v_29 =>
some (.inl (v_29, M_28))
)
def b_X6_readLaw_2 (fu : Nat)  : (Int32 × Mem) → Option ((Int32 × Mem) ⊕ ((Mem) ⊕ ((Mem) ⊕ ((Mem) ⊕ ((Mem) ⊕ ((Mem) ⊕ (Int32 × Mem))))))) :=
un2 fun c1 M =>
(m_X6_isWord M 0).bind fun r_2 =>
if r_2 = 0 then (
some (.inr (.inr (.inr (.inr (.inr (.inr (c1, M)))))))
) else (
if c1 = 16 then (
some (.inr (.inl M))
) else (
bnd (64 + c1 : Int32) fun v_5 =>
(m_X6_reads fu M).bind fun M_8 =>
if (rd M_8 148 23) = 3 then (
if (rd M_8 148 24) ≤ 3 then (
chk (inb v_5 80) <|
bnd (wr M_8 166 (ix v_5) (rd M_8 148 24)) fun M_12 =>
(m_X6_reads fu M_12).bind fun M_15 =>
bnd (wr M_15 167 (ix v_5) (rd M_15 148 32)) fun M_16 =>
(m_X6_isWord M_16 1).bind fun r_19 =>
if r_19 = 0 then (
j_X6_readLaw_105i fu M_16 c1 v_5
) else (
(m_X6_reads fu M_16).bind fun M_32 =>
(m_X6_readAny fu M_32).bind <| un2 fun r_34 M_35 =>
if r_34 = (-1) then (
some (.inr (.inr (.inr (.inr (.inl M_35)))))
) else (
j_X6_readLaw_105i fu M_35 c1 v_5
)
)
) else (
some (.inr (.inr (.inr (.inl M_8))))
)
) else (
some (.inr (.inr (.inl M_8)))
)
)
)
def m_X6_readLaw (fu : Nat) (M : Mem) : Option (Int32 × Mem) :=
(lp (b_X6_readLaw_2 fu) fu (0, M)).bind <| (unS (un1 fun M_39 =>
(m_X6_errs M_39 3).bind <| un2 fun r_41 M_42 =>
some (r_41, M_42))
(unS (un1 fun M_43 =>
(m_X6_errs M_43 1).bind <| un2 fun r_45 M_46 =>
some (r_45, M_46))
(unS (un1 fun M_47 =>
(m_X6_errs M_47 2).bind <| un2 fun r_49 M_50 =>
some (r_49, M_50))
(unS (un1 fun M_51 =>
some ((-1), M_51))
(unS (un1 fun M_52 =>
(m_X6_errs M_52 1).bind <| un2 fun r_54 M_55 =>
some (r_54, M_55))
(un2 fun v_56 M_57 =>
if (rd M_57 148 23) = 0 then (
some (v_56, M_57)
) else (
(m_X6_errs M_57 1).bind <| un2 fun r_60 M_61 =>
some (r_60, M_61)
)))))))

/-! X6_text -/
def b_X6_text_95 (fu : Nat) (s1 : Int32) (s3 : Int32)  : (Int32 × Mem) → Option ((Int32 × Mem) ⊕ (Mem)) :=
un2 fun c4 M =>
if s3 ≤ c4 then (
some (.inr M)
) else (
chk (inb (64 + c4) 80) <|
chk (inb ((16 * s1) + c4) 80) <|
bnd (wr M 166 (ix ((16 * s1) + c4)) (rd M 166 (ix (64 + c4)))) fun M_25 =>
bnd (wr M_25 167 (ix ((16 * s1) + c4)) (rd M_25 167 (ix (64 + c4)))) fun M_27 =>
bnd (wr M_27 168 (ix ((16 * s1) + c4)) (rd M_27 168 (ix (64 + c4)))) fun M_29 =>
bnd (c4 + 1 : Int32) fun v_31 =>
some (.inl (v_31, M_29))
)
def b_X6_text_176 (fu : Nat) (s1 : Int32) (s3 : Int32)  : (Int32 × Mem) → Option ((Int32 × Mem) ⊕ (Mem)) :=
un2 fun c4 M =>
if (rd M 148 32) ≤ c4 then (
some (.inr M)
) else (
chk (inb (1600 + c4) 2000) <|
chk (inb ((400 * s1) + c4) 2000) <|
bnd (wr M 169 (ix ((400 * s1) + c4)) (rd M 169 (ix (1600 + c4)))) fun M_39 =>
bnd (wr M_39 170 (ix ((400 * s1) + c4)) (rd M_39 170 (ix (1600 + c4)))) fun M_41 =>
bnd (c4 + 1 : Int32) fun v_43 =>
some (.inl (v_43, M_41))
)
def j_X6_text_85 (fu : Nat) (M : Mem) (s1 : Int32) (s3 : Int32) : Option (Int32 × Mem) :=
if s3 = (-1) then (
some ((-1), M)
) else (
(lp (b_X6_text_95 fu s1 s3) fu (0, M)).bind <| (un1 fun M_35 =>
(lp (b_X6_text_176 fu s1 s3) fu (0, M_35)).bind <| (un1 fun M_47 =>
chk (inb s1 5) <|
bnd (wr M_47 165 (ix s1) s3) fun M_49 =>
some (s3, M_49)))
)
def j_X6_text_54 (fu : Nat) (M : Mem) (s1 : Int32) (s2 : Int32) (t0 : Int32) : Option (Int32 × Mem) :=
bnd (wr M 148 20 0) fun M_18 =>
if s2 = 0 then (
j_X6_text_85 fu M_18 s1 t0
) else (
if t0 = (-1) then (
bnd (wr M_18 148 38 (rd M_18 148 36)) fun M_52 =>
bnd (wr M_52 148 39 (rd M_52 148 37)) fun M_54 =>
j_X6_text_85 fu M_54 s1 t0
) else (
j_X6_text_85 fu M_18 s1 t0
)
)
def m_X6_text (fu : Nat) (M : Mem) (a1 : Int32) : Option (Int32 × Mem) :=
bnd (wr M 148 0 0) fun M_1 =>
bnd (wr M_1 148 38 0) fun M_3 =>
bnd (wr M_3 148 39 (-1)) fun M_5 =>
(m_X6_isIn M_5 a1 0 3).bind fun r_8 =>
bnd (wr M_5 148 21 0) fun M_9 =>
bnd (wr M_9 148 32 0) fun M_11 =>
bnd (wr M_11 148 33 0) fun M_13 =>
(m_X6_reads fu M_13).bind fun M_16 =>
if r_8 = 0 then (
j_X6_text_54 fu M_16 a1 r_8 (-1)
) else (
(m_X6_readLaw fu M_16).bind <| un2 fun r_57 M_58 =>
j_X6_text_54 fu M_58 a1 r_8 r_57
)

/-! X6_fault -/
def m_X6_fault (M : Mem) (a1 : Int32) : Option (Int32 × Mem) :=
bnd (wr M 148 0 0) fun M_1 =>
if a1 = 0 then (
some (rd M_1 148 38, M_1)
) else (
if a1 = 1 then (
some (rd M_1 148 39, M_1)
) else (
some ((-1), M_1)
)
)

/-! X6_twoOf -/
def m_X6_twoOf (M : Mem) (a1 : Int32) (a2 : Int32) (a3 : Int32) : Option (Int32) :=
if a1 = 2 then (
some (a2 + a3)
) else (
if a1 = 3 then (
some (a2 - a3)
) else (
if a1 = 4 then (
some (a2 * a3)
) else (
if a1 = 5 then (
chk (!decide (a3 = 0)) <|
some (a2 / a3)
) else (
if a1 = 6 then (
if a3 ≤ a2 then (
some 0
) else (
some 1
)
) else (
if a1 = 7 then (
if a2 = a3 then (
some 1
) else (
some 0
)
) else (
if a1 = 8 then (
if a2 ≤ a3 then (
some 0
) else (
some 1
)
) else (
if a1 = 10 then (
some (a2 * a3)
) else (
if (a2 + a3) ≤ 0 then (
some 0
) else (
some 1
)
)
)
)
)
)
)
)
)

/-! X6_worthAt -/
def j_X6_worthAt_83i (fu : Nat) (M : Mem) (s1 : Int32) (s3 : Int32) (s4 : Int32) (s5 : Int32) (t1 : Int32) (t2 : Int32) : Option ((Int32 × Int32 × Mem) ⊕ (Mem)) :=
chk (inb t1 420) <|
bnd (wr M 173 (ix t1) t2) fun M_10 =>
bnd (s4 + 1 : Int32) fun v_12 =>
bnd (s5 + 1 : Int32) fun v_14 =>
some (.inl (v_12, v_14, M_10))
def j_X6_worthAt_45i (fu : Nat) (M : Mem) (s1 : Int32) (s3 : Int32) (s4 : Int32) (s5 : Int32) : Option ((Int32 × Int32 × Mem) ⊕ (Mem)) :=
chk (inb s5 2000) <|
if (rd M 169 (ix s5)) = 0 then (
j_X6_worthAt_83i fu M s1 s3 s4 s5 s4 (rd M 170 (ix s5))
) else (
chk (inb (rd M 170 (ix s5)) 15) <|
j_X6_worthAt_83i fu M s1 s3 s4 s5 s4 (rd M 172 (ix (rd M 170 (ix s5))))
)
def b_X6_worthAt_12 (fu : Nat) (s1 : Int32) (s3 : Int32)  : (Int32 × Int32 × Mem) → Option ((Int32 × Int32 × Mem) ⊕ (Mem)) :=
un3 fun c4 c5 M =>
if ((400 * s1) + s3) ≤ c5 then (
some (.inr M)
) else (
chk (inb c5 2000) <|
if (rd M 169 (ix c5)) = 0 then (
j_X6_worthAt_45i fu M s1 s3 c4 c5
) else (
if (rd M 169 (ix c5)) = 1 then (
j_X6_worthAt_45i fu M s1 s3 c4 c5
) else (
if (rd M 169 (ix c5)) = 9 then (
chk (inb (c4 - 1) 420) <|
bnd (wr M 173 (ix (c4 - 1)) (1 - (rd M 173 (ix (c4 - 1))))) fun M_29 =>
bnd (c5 + 1 : Int32) fun v_31 =>
some (.inl (c4, v_31, M_29))
) else (
bnd (c4 - 1 : Int32) fun v_18 =>
chk (inb (v_18 - 1) 420) <|
chk (inb v_18 420) <|
(m_X6_twoOf M (rd M 169 (ix c5)) (rd M 173 (ix (v_18 - 1))) (rd M 173 (ix v_18))).bind fun r_23 =>
bnd (wr M 173 (ix (v_18 - 1)) r_23) fun M_24 =>
bnd (c5 + 1 : Int32) fun v_26 =>
some (.inl (v_18, v_26, M_24))
)
)
)
)
def m_X6_worthAt (fu : Nat) (M : Mem) (a1 : Int32) (a2 : Int32) (a3 : Int32) : Option (Int32 × Mem) :=
bnd ((400 * a1) + a2 : Int32) fun v_1 =>
(lp (b_X6_worthAt_12 fu a1 a3) fu (0, v_1, M)).bind <| (un1 fun M_35 =>
some (rd M_35 173 (ix 0), M_35))

/-! X6_doingBy -/
def b_X6_doingBy_5 (fu : Nat) (s1 : Int32)  : (Int32 × Mem) → Option ((Int32 × Mem) ⊕ ((Int32 × Mem) ⊕ (Mem))) :=
un2 fun c2 M =>
chk (inb s1 5) <|
if ((16 * s1) + (rd M 165 (ix s1))) ≤ c2 then (
some (.inr (.inr M))
) else (
chk (inb c2 80) <|
if (rd M 168 (ix c2)) = (rd M 167 (ix c2)) then (
some (.inr (.inl (c2, M)))
) else (
(m_X6_worthAt fu M s1 (rd M 167 (ix c2)) (rd M 168 (ix c2))).bind <| un2 fun r_8 M_9 =>
if r_8 = 0 then (
bnd (c2 + 1 : Int32) fun v_11 =>
some (.inl (v_11, M_9))
) else (
some (.inr (.inl (c2, M_9)))
)
)
)
def m_X6_doingBy (fu : Nat) (M : Mem) (a1 : Int32) : Option (Int32 × Mem) :=
bnd (16 * a1 : Int32) fun v_1 =>
(lp (b_X6_doingBy_5 fu a1) fu (v_1, M)).bind <| (unS (un2 fun v_15 M_16 =>
chk (inb v_15 80) <|
some (rd M_16 166 (ix v_15), M_16))
(un1 fun M_18 =>
some (0, M_18)))

/-! X6_doingOf -/
def j_X6_doingOf_240 (fu : Nat) (M : Mem) (s1 : Int32) (s3 : Int32) (t1 : Int32) (t2 : Int32) : Option (Int32 × Mem) :=
chk (inb t1 15) <|
bnd (wr M 172 (ix t1) t2) fun M_52 =>
chk (inb s3 10) <|
bnd (wr M_52 172 (ix 12) (rd M_52 157 (ix s3))) fun M_55 =>
chk (inb s1 10) <|
bnd (wr M_55 172 (ix 13) (rd M_55 157 (ix s1))) fun M_58 =>
bnd (wr M_58 172 (ix 14) (rd M_58 153 (ix s1))) fun M_60 =>
(m_X6_doingBy fu M_60 (rd M_60 150 (ix s1))).bind <| un2 fun r_63 M_64 =>
some (r_63, M_64)
def j_X6_doingOf_212 (fu : Nat) (M : Mem) (s1 : Int32) (s3 : Int32) (s4 : Int32) (t1 : Int32) (t2 : Int32) : Option (Int32 × Mem) :=
chk (inb t1 15) <|
bnd (wr M 172 (ix t1) t2) fun M_46 =>
chk (inb s4 10) <|
chk (inb s1 10) <|
if (rd M_46 151 (ix s4)) = (rd M_46 151 (ix s1)) then (
j_X6_doingOf_240 fu M_46 s1 s3 11 1
) else (
j_X6_doingOf_240 fu M_46 s1 s3 11 0
)
def j_X6_doingOf_118 (fu : Nat) (M : Mem) (s1 : Int32) (s3 : Int32) (s4 : Int32) (t1 : Int32) (t2 : Int32) (t4 : Int32) : Option (Int32 × Mem) :=
(m_X6_worthOf M t4).bind fun r_27 =>
chk (inb t1 15) <|
bnd (wr M 172 (ix t1) (t2 - r_27)) fun M_29 =>
bnd (wr M_29 172 (ix 5) (rd M_29 148 3)) fun M_31 =>
chk (inb s1 10) <|
bnd (wr M_31 172 (ix 6) (rd M_31 154 (ix s1))) fun M_34 =>
bnd (wr M_34 172 (ix 7) (rd M_34 152 (ix s1))) fun M_36 =>
chk (inb s3 10) <|
bnd (wr M_36 172 (ix 8) (rd M_36 152 (ix s3))) fun M_39 =>
chk (inb s4 10) <|
bnd (wr M_39 172 (ix 9) (rd M_39 152 (ix s4))) fun M_42 =>
if (rd M_42 151 (ix s3)) = (rd M_42 151 (ix s1)) then (
j_X6_doingOf_212 fu M_42 s1 s3 s4 10 1
) else (
j_X6_doingOf_212 fu M_42 s1 s3 s4 10 0
)
def m_X6_doingOf (fu : Nat) (M : Mem) (a1 : Int32) : Option (Int32 × Mem) :=
chk (inb a1 10) <|
bnd (rd M 149 (ix a1) : Int32) fun v_2 =>
if v_2 = 0 then (
some (0, M)
) else (
(m_X6_leftOf M a1).bind fun r_6 =>
(m_X6_rightOf M a1).bind fun r_8 =>
bnd (wr M 172 (ix 0) v_2) fun M_9 =>
chk (inb r_6 10) <|
bnd (wr M_9 172 (ix 1) (rd M_9 149 (ix r_6))) fun M_12 =>
chk (inb r_8 10) <|
bnd (wr M_12 172 (ix 2) (rd M_12 149 (ix r_8))) fun M_15 =>
(m_X6_worthOf M_15 (v_2 + (rd M_15 162 (ix 9)))).bind fun r_18 =>
(m_X6_worthOf M_15 v_2).bind fun r_20 =>
bnd (wr M_15 172 (ix 3) (r_18 - r_20)) fun M_21 =>
(m_X6_worthOf M_21 v_2).bind fun r_24 =>
if v_2 ≤ (rd M_21 162 (ix 9)) then (
j_X6_doingOf_118 fu M_21 a1 r_6 r_8 4 r_24 0
) else (
j_X6_doingOf_118 fu M_21 a1 r_6 r_8 4 r_24 (v_2 - (rd M_21 162 (ix 9)))
)
)

/-! X6_isStopped -/
def m_X6_isStopped (M : Mem) (a1 : Int32) : Option (Int32 × Mem) :=
chk (inb a1 10) <|
if (rd M 174 (ix a1)) = 1 then (
(m_X6_draw M 1000).bind <| un2 fun r_9 M_10 =>
if (rd M_10 162 (ix 7)) ≤ r_9 then (
some (0, M_10)
) else (
some (1, M_10)
)
) else (
if (rd M 152 (ix a1)) = 1 then (
(m_X6_draw M 1000).bind <| un2 fun r_5 M_6 =>
if (rd M_6 162 (ix 8)) ≤ r_5 then (
some (0, M_6)
) else (
some (1, M_6)
)
) else (
some (0, M)
)
)

/-! X6_moves -/
def j_X6_moves_107 (M : Mem) (s1 : Int32) (s2 : Int32) (s3 : Int32) (t1 : Int32) (t2 : Int32) : Option (Mem) :=
chk (inb t1 10) <|
bnd (wr M 159 (ix t1) t2) fun M_12 =>
chk (inb s2 10) <|
bnd (wr M_12 160 (ix s2) s1) fun M_15 =>
if (rd M_15 158 (ix s2)) < (rd M_15 159 (ix s2)) then (
chk (inb s3 10) <|
(m_X6_less M_15 (rd M_15 162 (ix 9)) (rd M_15 149 (ix s3))).bind fun r_20 =>
bnd (wr M_15 159 (ix s2) 0) fun M_21 =>
bnd (wr M_21 149 (ix s3) ((rd M_21 149 (ix s3)) - r_20)) fun M_23 =>
chk (inb s1 10) <|
bnd (wr M_23 149 (ix s1) ((rd M_23 149 (ix s1)) + r_20)) fun M_26 =>
bnd (wr M_26 175 (ix s3) 1) fun M_28 =>
bnd (wr M_28 148 4 ((rd M_28 148 4) + r_20)) fun M_30 =>
some M_30
) else (
some M_15
)
def m_X6_moves (M : Mem) (a1 : Int32) (a2 : Int32) (a3 : Int32) : Option (Mem) :=
chk (inb a2 10) <|
if (rd M 157 (ix a2)) = 1 then (
some M
) else (
if (rd M 162 (ix 9)) = 0 then (
some M
) else (
chk (inb a3 10) <|
if (rd M 149 (ix a3)) = 0 then (
some M
) else (
(m_X6_isStopped M a3).bind <| un2 fun r_7 M_8 =>
if r_7 = 0 then (
if (rd M_8 160 (ix a2)) = a1 then (
j_X6_moves_107 M_8 a1 a2 a3 a2 ((rd M_8 159 (ix a2)) + 1)
) else (
j_X6_moves_107 M_8 a1 a2 a3 a2 1
)
) else (
chk (inb a1 10) <|
bnd (wr M_8 155 (ix a1) ((rd M_8 155 (ix a1)) + 1)) fun M_33 =>
bnd (wr M_33 153 (ix a1) ((rd M_33 153 (ix a1)) - (rd M_33 162 (ix 6)))) fun M_35 =>
bnd (wr M_35 159 (ix a2) 0) fun M_37 =>
some M_37
)
)
)
)

/-! X6_goesBy -/
def b_X6_goesBy_2 (fu : Nat)  : (Int32 × Mem) → Option ((Int32 × Mem) ⊕ (Mem)) :=
un2 fun c1 M =>
if (rd M 148 2) ≤ c1 then (
some (.inr M)
) else (
(m_X6_doingOf fu M c1).bind <| un2 fun r_3 M_4 =>
chk (inb c1 10) <|
bnd (wr M_4 174 (ix c1) r_3) fun M_6 =>
bnd (wr M_6 175 (ix c1) 0) fun M_8 =>
bnd (c1 + 1 : Int32) fun v_10 =>
some (.inl (v_10, M_8))
)
def j_X6_goesBy_69i (fu : Nat) (M : Mem) (s1 : Int32) : Option ((Int32 × Mem) ⊕ (Mem)) :=
chk (inb s1 10) <|
if (rd M 174 (ix s1)) = 3 then (
(m_X6_rightOf M s1).bind fun r_23 =>
(m_X6_moves M s1 s1 r_23).bind fun M_25 =>
bnd (s1 + 1 : Int32) fun v_26 =>
some (.inl (v_26, M_25))
) else (
bnd (s1 + 1 : Int32) fun v_20 =>
some (.inl (v_20, M))
)
def b_X6_goesBy_36 (fu : Nat)  : (Int32 × Mem) → Option ((Int32 × Mem) ⊕ (Mem)) :=
un2 fun c1 M =>
if (rd M 148 2) ≤ c1 then (
some (.inr M)
) else (
chk (inb c1 10) <|
if (rd M 174 (ix c1)) = 2 then (
(m_X6_leftOf M c1).bind fun r_29 =>
(m_X6_leftOf M c1).bind fun r_31 =>
(m_X6_moves M c1 r_29 r_31).bind fun M_33 =>
j_X6_goesBy_69i fu M_33 c1
) else (
j_X6_goesBy_69i fu M c1
)
)
def j_X6_goesBy_223i (fu : Nat) (M : Mem) (s1 : Int32) (t1 : Int32) (t2 : Int32) : Option ((Int32 × Mem) ⊕ (Mem)) :=
chk (inb t1 10) <|
bnd (wr M 154 (ix t1) t2) fun M_53 =>
chk (inb s1 10) <|
if (rd M_53 149 (ix s1)) = 0 then (
if (rd M_53 156 (ix s1)) = (-1) then (
bnd (wr M_53 156 (ix s1) (rd M_53 148 3)) fun M_62 =>
bnd (s1 + 1 : Int32) fun v_64 =>
some (.inl (v_64, M_62))
) else (
bnd (s1 + 1 : Int32) fun v_60 =>
some (.inl (v_60, M_53))
)
) else (
bnd (s1 + 1 : Int32) fun v_57 =>
some (.inl (v_57, M_53))
)
def j_X6_goesBy_189i (fu : Nat) (M : Mem) (s1 : Int32) (t1 : Int32) (t2 : Int32) (t3 : Int32) : Option ((Int32 × Mem) ⊕ (Mem)) :=
chk (inb t1 10) <|
bnd (wr M 153 (ix t1) (t2 - t3)) fun M_46 =>
chk (inb s1 10) <|
if (rd M_46 175 (ix s1)) = 0 then (
(m_X6_less M_46 99 ((rd M_46 154 (ix s1)) + 1)).bind fun r_51 =>
j_X6_goesBy_223i fu M_46 s1 s1 r_51
) else (
j_X6_goesBy_223i fu M_46 s1 s1 0
)
def j_X6_goesBy_144i (fu : Nat) (M : Mem) (s1 : Int32) (t0 : Int32) : Option ((Int32 × Mem) ⊕ (Mem)) :=
chk (inb s1 10) <|
(m_X6_worthOf M (rd M 149 (ix s1))).bind fun r_43 =>
if (rd M 152 (ix s1)) = 1 then (
j_X6_goesBy_189i fu M s1 s1 (((rd M 153 (ix s1)) + r_43) - t0) (rd M 162 (ix 5))
) else (
j_X6_goesBy_189i fu M s1 s1 (((rd M 153 (ix s1)) + r_43) - t0) 0
)
def b_X6_goesBy_98 (fu : Nat)  : (Int32 × Mem) → Option ((Int32 × Mem) ⊕ (Mem)) :=
un2 fun c1 M =>
if (rd M 148 2) ≤ c1 then (
some (.inr M)
) else (
chk (inb c1 10) <|
if (rd M 174 (ix c1)) = 1 then (
j_X6_goesBy_144i fu M c1 (rd M 162 (ix 4))
) else (
if (rd M 174 (ix c1)) = 0 then (
j_X6_goesBy_144i fu M c1 0
) else (
j_X6_goesBy_144i fu M c1 (rd M 162 (ix 3))
)
)
)
def m_X6_goesBy (fu : Nat) (M : Mem) : Option (Mem) :=
(lp (b_X6_goesBy_2 fu) fu (0, M)).bind <| (un1 fun M_14 =>
(lp (b_X6_goesBy_36 fu) fu (0, M_14)).bind <| (un1 fun M_36 =>
(lp (b_X6_goesBy_98 fu) fu (0, M_36)).bind <| (un1 fun M_68 =>
bnd (wr M_68 148 3 ((rd M_68 148 3) + 1)) fun M_69 =>
some M_69)))

/-! X6_nights -/
def b_X6_nights_37 (fu : Nat) (s1 : Int32) (s2 : Int32)  : (Int32 × Mem) → Option ((Int32 × Mem) ⊕ (Mem)) :=
un2 fun c3 M =>
if s1 ≤ c3 then (
some (.inr M)
) else (
(m_X6_goesBy fu M).bind fun M_11 =>
bnd (c3 + 1 : Int32) fun v_12 =>
some (.inl (v_12, M_11))
)
def m_X6_nights (fu : Nat) (M : Mem) (a1 : Int32) : Option (Int32 × Mem) :=
bnd (wr M 148 0 0) fun M_1 =>
(m_X6_isIn M_1 a1 1 99).bind fun r_4 =>
if r_4 = 0 then (
some ((-1), M_1)
) else (
if ((rd M_1 148 3) + a1) ≤ 9999 then (
bnd (rd M_1 148 4 : Int32) fun v_7 =>
(lp (b_X6_nights_37 fu a1 v_7) fu (0, M_1)).bind <| (un1 fun M_16 =>
some ((rd M_16 148 4) - v_7, M_16))
) else (
some ((-1), M_1)
)
)

/-! X6_of -/
def m_X6_of (fu : Nat) (M : Mem) (a1 : Int32) (a2 : Int32) : Option (Int32 × Mem) :=
bnd (wr M 148 0 0) fun M_1 =>
(m_X6_isFarm M_1 a1).bind fun r_4 =>
if r_4 = 0 then (
some ((-100000000), M_1)
) else (
if a2 = 0 then (
chk (inb a1 10) <|
some (rd M_1 149 (ix a1), M_1)
) else (
if a2 = 1 then (
chk (inb a1 10) <|
some (rd M_1 150 (ix a1), M_1)
) else (
if a2 = 2 then (
chk (inb a1 10) <|
some (rd M_1 151 (ix a1), M_1)
) else (
if a2 = 3 then (
chk (inb a1 10) <|
some (rd M_1 152 (ix a1), M_1)
) else (
if a2 = 4 then (
chk (inb a1 10) <|
some (rd M_1 153 (ix a1), M_1)
) else (
if a2 = 5 then (
chk (inb a1 10) <|
some (rd M_1 154 (ix a1), M_1)
) else (
if a2 = 6 then (
chk (inb a1 10) <|
some (rd M_1 155 (ix a1), M_1)
) else (
if a2 = 7 then (
chk (inb a1 10) <|
some (rd M_1 156 (ix a1), M_1)
) else (
if a2 = 8 then (
(m_X6_doingOf fu M_1 a1).bind <| un2 fun r_16 M_17 =>
some (r_16, M_17)
) else (
some ((-100000000), M_1)
)
)
)
)
)
)
)
)
)
)

/-! X6_stake -/
def m_X6_stake (M : Mem) (a1 : Int32) (a2 : Int32) : Option (Int32 × Mem) :=
bnd (wr M 148 0 0) fun M_1 =>
(m_X6_isFarm M_1 a1).bind fun r_4 =>
if r_4 = 0 then (
some ((-2), M_1)
) else (
if a2 = 0 then (
chk (inb a1 10) <|
some (rd M_1 157 (ix a1), M_1)
) else (
if a2 = 1 then (
chk (inb a1 10) <|
some (rd M_1 158 (ix a1), M_1)
) else (
if a2 = 2 then (
chk (inb a1 10) <|
some (rd M_1 159 (ix a1), M_1)
) else (
if a2 = 3 then (
chk (inb a1 10) <|
some (rd M_1 160 (ix a1), M_1)
) else (
some ((-2), M_1)
)
)
)
)
)

/-! X6_takesRow -/
def b_X6_takesRow_9 (fu : Nat)  : (Int32 × Int32 × Mem) → Option ((Int32 × Int32 × Mem) ⊕ (Mem)) :=
un3 fun c2 c3 M =>
if c3 < 0 then (
some (.inr M)
) else (
chk (inb c3 10) <|
bnd (wr M 176 (ix c3) (irem c2 4)) fun M_5 =>
bnd (c2 / 4 : Int32) fun v_7 =>
bnd (c3 + (-1) : Int32) fun v_9 =>
some (.inl (v_7, v_9, M_5))
)
def m_X6_takesRow (fu : Nat) (M : Mem) (a1 : Int32) : Option (Mem) :=
bnd ((rd M 148 2) - 1 : Int32) fun v_1 =>
(lp (b_X6_takesRow_9 fu) fu (a1, v_1, M)).bind <| (un1 fun M_13 =>
some M_13)

/-! X6_canMove -/
def m_X6_canMove (M : Mem) (a1 : Int32) : Option (Int32) :=
chk (inb a1 10) <|
if (rd M 157 (ix a1)) = 0 then (
if (rd M 162 (ix 9)) ≤ 0 then (
some 0
) else (
if (rd M 149 (ix a1)) ≤ 0 then (
some 0
) else (
(m_X6_rightOf M a1).bind fun r_6 =>
chk (inb r_6 10) <|
if (rd M 149 (ix r_6)) ≤ 0 then (
some 0
) else (
some 1
)
)
)
) else (
some 0
)

/-! X6_chanceOf -/
def j_X6_chanceOf_46 (M : Mem) (s1 : Int32) (t0 : Int32) : Option (Int32) :=
chk (inb s1 10) <|
chk (!decide ((rd M 158 (ix s1)) + 1 = 0)) <|
some (t0 / ((rd M 158 (ix s1)) + 1))
def m_X6_chanceOf (M : Mem) (a1 : Int32) (a2 : Int32) (a3 : Int32) : Option (Int32) :=
if a3 = 1 then (
j_X6_chanceOf_46 M a1 (1000 - (rd M 162 (ix 7)))
) else (
chk (inb a2 10) <|
if (rd M 152 (ix a2)) = 1 then (
j_X6_chanceOf_46 M a1 (1000 - (rd M 162 (ix 8)))
) else (
j_X6_chanceOf_46 M a1 1000
)
)

/-! X6_lossBy -/
def m_X6_lossBy (M : Mem) (a1 : Int32) (a2 : Int32) : Option (Int32) :=
chk (inb a1 10) <|
(m_X6_less M (rd M 162 (ix 9)) (rd M 149 (ix a1))).bind fun r_3 =>
(m_X6_canMove M a2).bind fun r_5 =>
if r_5 = 0 then (
some 0
) else (
(m_X6_chanceOf M a2 a1 (rd M 176 (ix a1))).bind fun r_8 =>
(m_X6_worthOf M (rd M 149 (ix a1))).bind fun r_10 =>
(m_X6_worthOf M ((rd M 149 (ix a1)) - r_3)).bind fun r_12 =>
some (r_8 * (r_10 - r_12))
)

/-! X6_valueOf -/
def j_X6_valueOf_239 (M : Mem) (s1 : Int32) (s2 : Int32) (s4 : Int32) : Option (Int32) :=
chk (inb s4 10) <|
if (rd M 176 (ix s4)) = 2 then (
(m_X6_lossBy M s1 s1).bind fun r_18 =>
bnd (s2 - r_18 : Int32) fun v_19 =>
some v_19
) else (
some s2
)
def j_X6_valueOf_220 (M : Mem) (s1 : Int32) (s2 : Int32) (s3 : Int32) (s4 : Int32) : Option (Int32) :=
chk (inb s3 10) <|
if (rd M 176 (ix s3)) = 3 then (
(m_X6_lossBy M s1 s3).bind fun r_22 =>
bnd (s2 - r_22 : Int32) fun v_23 =>
j_X6_valueOf_239 M s1 v_23 s4
) else (
j_X6_valueOf_239 M s1 s2 s4
)
def j_X6_valueOf_127 (M : Mem) (s1 : Int32) (s2 : Int32) (s3 : Int32) (s4 : Int32) (s5 : Int32) (t0 : Int32) : Option (Int32) :=
(m_X6_canMove M s5).bind fun r_29 =>
if r_29 = 0 then (
j_X6_valueOf_220 M s1 s2 s3 s4
) else (
chk (inb t0 10) <|
(m_X6_chanceOf M s5 t0 (rd M 176 (ix t0))).bind fun r_33 =>
(m_X6_less M (rd M 162 (ix 9)) (rd M 149 (ix t0))).bind fun r_35 =>
chk (inb s1 10) <|
(m_X6_worthOf M ((rd M 149 (ix s1)) + r_35)).bind fun r_38 =>
(m_X6_worthOf M (rd M 149 (ix s1))).bind fun r_40 =>
bnd ((s2 + (r_33 * (r_38 - r_40))) - ((1000 - r_33) * (rd M 162 (ix 6))) : Int32) fun v_41 =>
j_X6_valueOf_220 M s1 v_41 s3 s4
)
def j_X6_valueOf_109 (M : Mem) (s1 : Int32) (s2 : Int32) (s3 : Int32) (s4 : Int32) (t0 : Int32) : Option (Int32) :=
chk (inb s1 10) <|
if (rd M 176 (ix s1)) = 2 then (
j_X6_valueOf_127 M s1 s2 s3 s4 t0 s3
) else (
j_X6_valueOf_127 M s1 s2 s3 s4 t0 s4
)
def j_X6_valueOf_71 (M : Mem) (s1 : Int32) (s2 : Int32) : Option (Int32) :=
(m_X6_leftOf M s1).bind fun r_8 =>
(m_X6_rightOf M s1).bind fun r_10 =>
chk (inb s1 10) <|
if (rd M 176 (ix s1)) ≤ 1 then (
j_X6_valueOf_220 M s1 s2 r_8 r_10
) else (
if (rd M 176 (ix s1)) = 2 then (
j_X6_valueOf_109 M s1 s2 r_8 r_10 r_8
) else (
j_X6_valueOf_109 M s1 s2 r_8 r_10 s1
)
)
def j_X6_valueOf_48 (M : Mem) (s1 : Int32) (s2 : Int32) : Option (Int32) :=
chk (inb s1 10) <|
if (rd M 176 (ix s1)) ≤ 1 then (
j_X6_valueOf_71 M s1 s2
) else (
bnd (s2 - (1000 * (rd M 162 (ix 3))) : Int32) fun v_43 =>
j_X6_valueOf_71 M s1 v_43
)
def j_X6_valueOf_24 (M : Mem) (s1 : Int32) (t0 : Int32) : Option (Int32) :=
chk (inb s1 10) <|
if (rd M 176 (ix s1)) = 1 then (
bnd (t0 - (1000 * (rd M 162 (ix 4))) : Int32) fun v_45 =>
j_X6_valueOf_48 M s1 v_45
) else (
j_X6_valueOf_48 M s1 t0
)
def m_X6_valueOf (M : Mem) (a1 : Int32) : Option (Int32) :=
chk (inb a1 10) <|
if (rd M 152 (ix a1)) = 1 then (
j_X6_valueOf_24 M a1 ((-1000) * (rd M 162 (ix 5)))
) else (
j_X6_valueOf_24 M a1 0
)

/-! X6_isRow -/
def m_X6_isRow (M : Mem) (a1 : Int32) : Option (Int32) :=
if a1 < 0 then (
some 0
) else (
if (ishl 1 (2 * (rd M 148 2))) ≤ a1 then (
some 0
) else (
some 1
)
)

/-! X6_value -/
def m_X6_value (fu : Nat) (M : Mem) (a1 : Int32) (a2 : Int32) : Option (Int32 × Mem) :=
bnd (wr M 148 0 0) fun M_1 =>
(m_X6_isRow M_1 a1).bind fun r_4 =>
if r_4 = 0 then (
some ((-100000000), M_1)
) else (
(m_X6_isFarm M_1 a2).bind fun r_7 =>
if r_7 = 0 then (
some ((-100000000), M_1)
) else (
(m_X6_takesRow fu M_1 a1).bind fun M_10 =>
(m_X6_valueOf M_10 a2).bind fun r_12 =>
some (r_12, M_10)
)
)

/-! X6_replyOf -/
def b_X6_replyOf_15 (fu : Nat) (s1 : Int32) (s2 : Int32)  : (Int32 × Int32 × Int32 × Mem) → Option ((Int32 × Int32 × Int32 × Mem) ⊕ (Int32 × Mem)) :=
un4 fun c3 c4 c5 M =>
if 4 ≤ c5 then (
some (.inr (c3, M))
) else (
chk (inb s1 10) <|
bnd (wr M 176 (ix s1) c5) fun M_6 =>
(m_X6_valueOf M_6 s1).bind fun r_9 =>
if c5 ≤ 0 then (
bnd (c5 + 1 : Int32) fun v_11 =>
some (.inl (c5, r_9, v_11, M_6))
) else (
if c4 < r_9 then (
bnd (c5 + 1 : Int32) fun v_14 =>
some (.inl (c5, r_9, v_14, M_6))
) else (
bnd (c5 + 1 : Int32) fun v_16 =>
some (.inl (c3, c4, v_16, M_6))
)
)
)
def m_X6_replyOf (fu : Nat) (M : Mem) (a1 : Int32) : Option (Int32 × Mem) :=
chk (inb a1 10) <|
bnd (rd M 176 (ix a1) : Int32) fun v_2 =>
(lp (b_X6_replyOf_15 fu a1 v_2) fu (0, 0, 0, M)).bind <| (un2 fun v_20 M_21 =>
chk (inb a1 10) <|
bnd (wr M_21 176 (ix a1) v_2) fun M_23 =>
some (v_20, M_23))

/-! X6_reply -/
def m_X6_reply (fu : Nat) (M : Mem) (a1 : Int32) (a2 : Int32) : Option (Int32 × Mem) :=
bnd (wr M 148 0 0) fun M_1 =>
(m_X6_isRow M_1 a1).bind fun r_4 =>
if r_4 = 0 then (
some ((-1), M_1)
) else (
(m_X6_isFarm M_1 a2).bind fun r_7 =>
if r_7 = 0 then (
some ((-1), M_1)
) else (
(m_X6_takesRow fu M_1 a1).bind fun M_10 =>
(m_X6_replyOf fu M_10 a2).bind <| un2 fun r_12 M_13 =>
some (r_12, M_13)
)
)

/-! X6_isRest -/
def b_X6_isRest_2 (fu : Nat)  : (Int32 × Mem) → Option ((Int32 × Mem) ⊕ ((Mem) ⊕ (Mem))) :=
un2 fun c1 M =>
if (rd M 148 2) ≤ c1 then (
some (.inr (.inr M))
) else (
(m_X6_valueOf M c1).bind fun r_3 =>
chk (inb c1 10) <|
bnd (rd M 176 (ix c1) : Int32) fun v_5 =>
(m_X6_replyOf fu M c1).bind <| un2 fun r_8 M_9 =>
bnd (wr M_9 176 (ix c1) r_8) fun M_10 =>
(m_X6_valueOf M_10 c1).bind fun r_13 =>
bnd (wr M_10 176 (ix c1) v_5) fun M_14 =>
if r_13 ≤ r_3 then (
bnd (c1 + 1 : Int32) fun v_17 =>
some (.inl (v_17, M_14))
) else (
some (.inr (.inl M_14))
)
)
def m_X6_isRest (fu : Nat) (M : Mem) : Option (Int32 × Mem) :=
(lp (b_X6_isRest_2 fu) fu (0, M)).bind <| (unS (un1 fun M_21 =>
some (0, M_21))
(un1 fun M_22 =>
some (1, M_22)))

/-! X6_sumOf -/
def b_X6_sumOf_4 (fu : Nat) (M : Mem)  : (Int32 × Int32) → Option ((Int32 × Int32) ⊕ (Int32)) :=
un2 fun c1 c2 =>
if (rd M 148 2) ≤ c2 then (
some (.inr c1)
) else (
(m_X6_valueOf M c2).bind fun r_3 =>
bnd (c1 + r_3 : Int32) fun v_4 =>
bnd (c2 + 1 : Int32) fun v_6 =>
some (.inl (v_4, v_6))
)
def m_X6_sumOf (fu : Nat) (M : Mem) : Option (Int32) :=
(lp (b_X6_sumOf_4 fu M) fu (0, 0)).bind <| (un1 fun v_10 =>
some v_10)

/-! X6_rests -/
def j_X6_rests_139i (fu : Nat) (M : Mem) (s1 : Int32) (s2 : Int32) (s3 : Int32) (s6 : Int32) (s7 : Int32) (s8 : Int32) : Option ((Int32 × Int32 × Int32 × Int32 × Int32 × Int32 × Mem) ⊕ (Int32 × Int32 × Int32 × Int32 × Mem)) :=
(m_X6_sumOf fu M).bind fun r_23 =>
bnd (s8 + 1 : Int32) fun v_24 =>
some (.inl (s2, s3, s8, r_23, s6, v_24, M))
def j_X6_rests_121i (fu : Nat) (M : Mem) (s1 : Int32) (s2 : Int32) (s3 : Int32) (s4 : Int32) (s5 : Int32) (s6 : Int32) (s7 : Int32) (s8 : Int32) : Option ((Int32 × Int32 × Int32 × Int32 × Int32 × Int32 × Mem) ⊕ (Int32 × Int32 × Int32 × Int32 × Mem)) :=
if s4 = (-1) then (
j_X6_rests_139i fu M s1 s2 s3 s6 s7 s8
) else (
(m_X6_sumOf fu M).bind fun r_27 =>
if s5 < r_27 then (
j_X6_rests_139i fu M s1 s2 s3 s6 s7 s8
) else (
bnd (s8 + 1 : Int32) fun v_29 =>
some (.inl (s2, s3, s4, s5, s6, v_29, M))
)
)
def j_X6_rests_100i (fu : Nat) (M : Mem) (s1 : Int32) (s2 : Int32) (s4 : Int32) (s5 : Int32) (s6 : Int32) (s7 : Int32) (s8 : Int32) (t0 : Int32) : Option ((Int32 × Int32 × Int32 × Int32 × Int32 × Int32 × Mem) ⊕ (Int32 × Int32 × Int32 × Int32 × Mem)) :=
chk (!decide (s7 = 0)) <|
if (irem s8 s7) = 0 then (
chk (!decide (s7 = 0)) <|
bnd (s6 ||| (ishl 1 (s8 / s7)) : Int32) fun v_32 =>
j_X6_rests_121i fu M s1 s2 t0 s4 s5 v_32 s7 s8
) else (
j_X6_rests_121i fu M s1 s2 t0 s4 s5 s6 s7 s8
)
def b_X6_rests_56 (fu : Nat) (s1 : Int32) (s7 : Int32)  : (Int32 × Int32 × Int32 × Int32 × Int32 × Int32 × Mem) → Option ((Int32 × Int32 × Int32 × Int32 × Int32 × Int32 × Mem) ⊕ (Int32 × Int32 × Int32 × Int32 × Mem)) :=
un7 fun c2 c3 c4 c5 c6 c8 M =>
if (ishl 1 (2 * (rd M 148 2))) ≤ c8 then (
some (.inr (c2, c3, c4, c6, M))
) else (
(m_X6_takesRow fu M c8).bind fun M_11 =>
(m_X6_isRest fu M_11).bind <| un2 fun r_13 M_14 =>
if r_13 = 0 then (
bnd (c8 + 1 : Int32) fun v_34 =>
some (.inl (c2, c3, c4, c5, c6, v_34, M_14))
) else (
bnd (c2 + 1 : Int32) fun v_16 =>
if c3 = (-1) then (
j_X6_rests_100i fu M_14 s1 v_16 c4 c5 c6 s7 c8 c8
) else (
j_X6_rests_100i fu M_14 s1 v_16 c4 c5 c6 s7 c8 c3
)
)
)
def m_X6_rests (fu : Nat) (M : Mem) (a1 : Int32) : Option (Int32 × Mem) :=
bnd (wr M 148 0 0) fun M_1 =>
if 6 < (rd M_1 148 2) then (
some ((-1), M_1)
) else (
(m_X6_isIn M_1 a1 0 3).bind fun r_5 =>
if r_5 = 0 then (
some ((-1), M_1)
) else (
bnd (((ishl 1 (2 * (rd M_1 148 2))) - 1) / 3 : Int32) fun v_7 =>
(lp (b_X6_rests_56 fu a1 v_7) fu (0, (-1), (-1), 0, 0, 0, M_1)).bind <| (un5 fun v_38 v_39 v_40 v_41 M_42 =>
if a1 = 0 then (
some (v_38, M_42)
) else (
if a1 = 1 then (
some (v_39, M_42)
) else (
if a1 = 2 then (
some (v_40, M_42)
) else (
some (v_41, M_42)
)
)
))
)
)

/-! X6_standsStill -/
def b_X6_standsStill_2 (fu : Nat) (s1 : Int32)  : (Int32 × Mem) → Option ((Int32 × Mem) ⊕ (Mem)) :=
un2 fun c2 M =>
if (rd M 148 2) ≤ c2 then (
some (.inr M)
) else (
chk (inb c2 10) <|
bnd (wr M 176 (ix c2) ((ishr s1 c2) &&& 1)) fun M_3 =>
bnd (c2 + 1 : Int32) fun v_5 =>
some (.inl (v_5, M_3))
)
def j_X6_standsStill_87i (fu : Nat) (M : Mem) (s2 : Int32) (s3 : Int32) (s4 : Int32) (t0 : Int32) : Option ((Int32 × Mem) ⊕ ((Mem) ⊕ (Mem))) :=
chk (inb s2 10) <|
bnd (wr M 176 (ix s2) 0) fun M_23 =>
if t0 = 0 then (
bnd (s4 + 1 : Int32) fun v_26 =>
some (.inl (v_26, M_23))
) else (
some (.inr (.inl M_23))
)
def b_X6_standsStill_59 (fu : Nat) (s2 : Int32) (s3 : Int32)  : (Int32 × Mem) → Option ((Int32 × Mem) ⊕ ((Mem) ⊕ (Mem))) :=
un2 fun c4 M =>
if 3 < c4 then (
some (.inr (.inr M))
) else (
chk (inb s2 10) <|
bnd (wr M 176 (ix s2) c4) fun M_17 =>
(m_X6_valueOf M_17 s2).bind fun r_20 =>
if r_20 ≤ s3 then (
j_X6_standsStill_87i fu M_17 s2 s3 c4 0
) else (
j_X6_standsStill_87i fu M_17 s2 s3 c4 1
)
)
def b_X6_standsStill_29 (fu : Nat)  : (Int32 × Mem) → Option ((Int32 × Mem) ⊕ ((Mem) ⊕ (Mem))) :=
un2 fun c2 M =>
if (rd M 148 2) ≤ c2 then (
some (.inr (.inr M))
) else (
chk (inb c2 10) <|
if (rd M 176 (ix c2)) = 1 then (
bnd (c2 + 1 : Int32) fun v_34 =>
some (.inl (v_34, M))
) else (
(m_X6_valueOf M c2).bind fun r_14 =>
(lp (b_X6_standsStill_59 fu c2 r_14) fu (2, M)).bind <| (unS (un1 fun M_30 =>
some (.inr (.inl M_30)))
(un1 fun M_31 =>
bnd (c2 + 1 : Int32) fun v_32 =>
some (.inl (v_32, M_31))))
)
)
def m_X6_standsStill (fu : Nat) (M : Mem) (a1 : Int32) : Option (Int32 × Mem) :=
(lp (b_X6_standsStill_2 fu a1) fu (0, M)).bind <| (un1 fun M_9 =>
(lp (b_X6_standsStill_29 fu) fu (0, M_9)).bind <| (unS (un1 fun M_38 =>
some (0, M_38))
(un1 fun M_39 =>
some (1, M_39))))

/-! X6_stillSet -/
def j_X6_stillSet_32i (fu : Nat) (M : Mem) (s1 : Int32) (s2 : Int32) : Option ((Int32 × Int32 × Mem) ⊕ (Int32 × Mem)) :=
(m_X6_standsStill fu M s2).bind <| un2 fun r_4 M_5 =>
if r_4 = 0 then (
bnd (s2 + 1 : Int32) fun v_7 =>
some (.inl (s1, v_7, M_5))
) else (
bnd (s2 + 1 : Int32) fun v_9 =>
some (.inl (s2, v_9, M_5))
)
def b_X6_stillSet_4 (fu : Nat)  : (Int32 × Int32 × Mem) → Option ((Int32 × Int32 × Mem) ⊕ (Int32 × Mem)) :=
un3 fun c1 c2 M =>
if (ishl 1 (rd M 148 2)) ≤ c2 then (
some (.inr (c1, M))
) else (
if c1 = (-1) then (
j_X6_stillSet_32i fu M c1 c2
) else (
(m_X6_ones fu M c2).bind fun r_12 =>
(m_X6_ones fu M c1).bind fun r_14 =>
if r_14 ≤ r_12 then (
bnd (c2 + 1 : Int32) fun v_16 =>
some (.inl (c1, v_16, M))
) else (
j_X6_stillSet_32i fu M c1 c2
)
)
)
def m_X6_stillSet (fu : Nat) (M : Mem) : Option (Int32 × Mem) :=
(lp (b_X6_stillSet_4 fu) fu ((-1), 0, M)).bind <| (un2 fun v_20 M_21 =>
some (v_20, M_21))

/-! X6_still -/
def m_X6_still (fu : Nat) (M : Mem) : Option (Int32 × Mem) :=
bnd (wr M 148 0 0) fun M_1 =>
(m_X6_stillSet fu M_1).bind <| un2 fun r_4 M_5 =>
some (r_4, M_5)

/-! X6_walls -/
def b_X6_walls_32 (fu : Nat) (M : Mem) (s1 : Int32) (s2 : Int32)  : (Int32 × Int32) → Option ((Int32 × Int32) ⊕ (Int32)) :=
un2 fun c3 c4 =>
if (rd M 148 2) ≤ c4 then (
some (.inr c3)
) else (
chk (inb c4 10) <|
bnd (c3 ||| (ishl (rd M 157 (ix c4)) c4) : Int32) fun v_11 =>
bnd (c4 + 1 : Int32) fun v_13 =>
some (.inl (v_11, v_13))
)
def b_X6_walls_103 (fu : Nat) (s1 : Int32) (s2 : Int32) (s3 : Int32) (s4 : Int32) (s5 : Int32) (s6 : Int32)  : (Int32 × Mem) → Option ((Int32 × Mem) ⊕ (Mem)) :=
un2 fun c7 M =>
if (rd M 148 2) ≤ c7 then (
some (.inr M)
) else (
chk (inb c7 10) <|
bnd (wr M 157 (ix c7) ((ishr (s6 ||| s3) c7) &&& 1)) fun M_27 =>
bnd (c7 + 1 : Int32) fun v_29 =>
some (.inl (v_29, M_27))
)
def j_X6_walls_157i (fu : Nat) (M : Mem) (s1 : Int32) (s2 : Int32) (s3 : Int32) (s4 : Int32) (s5 : Int32) (s6 : Int32) (t0 : Int32) : Option ((Int32 × Int32 × Int32 × Mem) ⊕ (Int32 × Int32 × Mem)) :=
if s4 = (-1) then (
bnd (s6 + 1 : Int32) fun v_41 =>
some (.inl (s6, t0, v_41, M))
) else (
if s5 < t0 then (
bnd (s6 + 1 : Int32) fun v_44 =>
some (.inl (s4, s5, v_44, M))
) else (
if t0 = s5 then (
(m_X6_ones fu M s6).bind fun r_50 =>
(m_X6_ones fu M s4).bind fun r_52 =>
if r_50 < r_52 then (
bnd (s6 + 1 : Int32) fun v_54 =>
some (.inl (s6, t0, v_54, M))
) else (
bnd (s6 + 1 : Int32) fun v_56 =>
some (.inl (s4, s5, v_56, M))
)
) else (
bnd (s6 + 1 : Int32) fun v_47 =>
some (.inl (s6, t0, v_47, M))
)
)
)
def b_X6_walls_69 (fu : Nat) (s1 : Int32) (s2 : Int32) (s3 : Int32)  : (Int32 × Int32 × Int32 × Mem) → Option ((Int32 × Int32 × Int32 × Mem) ⊕ (Int32 × Int32 × Mem)) :=
un4 fun c4 c5 c6 M =>
if (ishl 1 (rd M 148 2)) ≤ c6 then (
some (.inr (c4, c5, M))
) else (
(m_X6_ones fu M c6).bind fun r_20 =>
if s1 < r_20 then (
bnd (c6 + 1 : Int32) fun v_22 =>
some (.inl (c4, c5, v_22, M))
) else (
if (c6 &&& s3) = 0 then (
(lp (b_X6_walls_103 fu s1 s2 s3 c4 c5 c6) fu (0, M)).bind <| (un1 fun M_33 =>
(m_X6_stillSet fu M_33).bind <| un2 fun r_35 M_36 =>
if r_35 = (-1) then (
j_X6_walls_157i fu M_36 s1 s2 s3 c4 c5 c6 99
) else (
(m_X6_ones fu M_36 r_35).bind fun r_39 =>
j_X6_walls_157i fu M_36 s1 s2 s3 c4 c5 c6 r_39
))
) else (
bnd (c6 + 1 : Int32) fun v_58 =>
some (.inl (c4, c5, v_58, M))
)
)
)
def b_X6_walls_214 (fu : Nat) (s2 : Int32) (s3 : Int32) (s4 : Int32) (s5 : Int32)  : (Int32 × Mem) → Option ((Int32 × Mem) ⊕ (Mem)) :=
un2 fun c6 M =>
if (rd M 148 2) ≤ c6 then (
some (.inr M)
) else (
chk (inb c6 10) <|
bnd (wr M 157 (ix c6) ((ishr s3 c6) &&& 1)) fun M_67 =>
bnd (c6 + 1 : Int32) fun v_69 =>
some (.inl (v_69, M_67))
)
def m_X6_walls (fu : Nat) (M : Mem) (a1 : Int32) (a2 : Int32) : Option (Int32 × Mem) :=
bnd (wr M 148 0 0) fun M_1 =>
(m_X6_isIn M_1 a1 0 2).bind fun r_4 =>
if r_4 = 0 then (
some ((-1), M_1)
) else (
(m_X6_isIn M_1 a2 0 1).bind fun r_7 =>
if r_7 = 0 then (
some ((-1), M_1)
) else (
(lp (b_X6_walls_32 fu M_1 a1 a2) fu (0, 0)).bind <| (un1 fun v_17 =>
(lp (b_X6_walls_69 fu a1 a2 v_17) fu ((-1), 0, 0, M_1)).bind <| (un3 fun v_62 v_63 M_64 =>
(lp (b_X6_walls_214 fu a2 v_17 v_62 v_63) fu (0, M_64)).bind <| (un1 fun M_73 =>
if a2 = 0 then (
some (v_62, M_73)
) else (
some (v_63, M_73)
))))
)
)

/-! X6_pactValue -/
def b_X6_pactValue_3 (fu : Nat) (s1 : Int32) (s2 : Int32) (s3 : Int32)  : (Int32 × Mem) → Option ((Int32 × Mem) ⊕ (Mem)) :=
un2 fun c4 M =>
if (rd M 148 2) ≤ c4 then (
some (.inr M)
) else (
chk (inb c4 10) <|
bnd (wr M 176 (ix c4) 0) fun M_3 =>
bnd (c4 + 1 : Int32) fun v_5 =>
some (.inl (v_5, M_3))
)
def m_X6_pactValue (fu : Nat) (M : Mem) (a1 : Int32) (a2 : Int32) (a3 : Int32) : Option (Int32 × Mem) :=
(lp (b_X6_pactValue_3 fu a1 a2 a3) fu (0, M)).bind <| (un1 fun M_9 =>
(m_X6_rightOf M_9 a1).bind fun r_11 =>
chk (inb r_11 10) <|
bnd (wr M_9 176 (ix r_11) a3) fun M_13 =>
chk (inb a1 10) <|
bnd (wr M_13 176 (ix a1) a2) fun M_16 =>
(m_X6_valueOf M_16 a1).bind fun r_19 =>
some (r_19, M_16))

/-! X6_holds -/
def m_X6_holds (fu : Nat) (M : Mem) (a1 : Int32) (a2 : Int32) : Option (Int32 × Mem) :=
(m_X6_pactValue fu M a1 0 0).bind <| un2 fun r_2 M_3 =>
(m_X6_pactValue fu M_3 a1 3 0).bind <| un2 fun r_5 M_6 =>
bnd ((r_5 - r_2).toInt64 : Int64) fun v_7 =>
(m_X6_pactValue fu M_6 a1 3 2).bind <| un2 fun r_10 M_11 =>
bnd ((r_2 - r_10).toInt64 : Int64) fun v_12 =>
if 0 < (lg_cmp (v_7 * ((1000 - a2).toInt64)) (v_12 * a2.toInt64)) then (
some (0, M_11)
) else (
some (1, M_11)
)

/-! X6_pact -/
def b_X6_pact_49 (fu : Nat) (s1 : Int32)  : (Int32 × Mem) → Option ((Int32 × Mem) ⊕ ((Int32 × Mem) ⊕ (Mem))) :=
un2 fun c3 M =>
if 1000 ≤ c3 then (
some (.inr (.inr M))
) else (
(m_X6_holds fu M s1 c3).bind <| un2 fun r_12 M_13 =>
if r_12 = 0 then (
bnd (c3 + 1 : Int32) fun v_15 =>
some (.inl (v_15, M_13))
) else (
some (.inr (.inl (c3, M_13)))
)
)
def m_X6_pact (fu : Nat) (M : Mem) (a1 : Int32) (a2 : Int32) : Option (Int32 × Mem) :=
bnd (wr M 148 0 0) fun M_1 =>
(m_X6_isFarm M_1 a1).bind fun r_4 =>
if r_4 = 0 then (
some ((-1), M_1)
) else (
(m_X6_isIn M_1 a2 (-1) 999).bind fun r_7 =>
if r_7 = 0 then (
some ((-1), M_1)
) else (
if a2 = (-1) then (
(lp (b_X6_pact_49 fu a1) fu (0, M_1)).bind <| (unS (un2 fun v_19 M_20 =>
some (v_19, M_20))
(un1 fun M_21 =>
some ((-1), M_21)))
) else (
(m_X6_holds fu M_1 a1 a2).bind <| un2 fun r_23 M_24 =>
if r_23 = 0 then (
some (0, M_24)
) else (
some (1, M_24)
)
)
)
)

/-! X6_nextOf -/
def j_X6_nextOf_126 (M : Mem) (s1 : Int32) (s3 : Int32) (s4 : Int32) (t0 : Int64) (t1 : Int64) (t3 : Int32) : Option (Int64) :=
chk (inb t3 61) <|
bnd (t0 + (t1 * (rdl M 177 (ix t3))) : Int64) fun v_15 =>
chk (inb s1 61) <|
bnd (v_15 + ((((1000 - s3).toInt64) * ((1000 - s4).toInt64)) * (rdl M 177 (ix s1))) : Int64) fun v_18 =>
bnd (v_18 / 1000000 : Int64) fun v_20 =>
if (lg_cmp (lrem v_18 1000000) 0) = 0 then (
some v_20
) else (
if 0 ≤ (lg_cmp v_18 0) then (
some v_20
) else (
some (v_20 - 1)
)
)
def j_X6_nextOf_92 (M : Mem) (s1 : Int32) (s3 : Int32) (s4 : Int32) (s6 : Int32) (t0 : Int64) (t1 : Int64) (t3 : Int32) : Option (Int64) :=
chk (inb t3 61) <|
bnd (t0 + (t1 * (rdl M 177 (ix t3))) : Int64) fun v_11 =>
if s4 ≤ 0 then (
j_X6_nextOf_126 M s1 s3 s4 v_11 (((1000 - s3).toInt64) * s4.toInt64) s1
) else (
j_X6_nextOf_126 M s1 s3 s4 v_11 (((1000 - s3).toInt64) * s4.toInt64) (s1 - s6)
)
def j_X6_nextOf_60 (M : Mem) (s1 : Int32) (s3 : Int32) (s4 : Int32) (s5 : Int32) (s6 : Int32) (t0 : Int64) (t2 : Int32) : Option (Int64) :=
chk (inb t2 61) <|
bnd (t0 * (rdl M 177 (ix t2)) : Int64) fun v_7 =>
if s3 ≤ 0 then (
j_X6_nextOf_92 M s1 s3 s4 s6 v_7 (s3.toInt64 * ((1000 - s4).toInt64)) s1
) else (
j_X6_nextOf_92 M s1 s3 s4 s6 v_7 (s3.toInt64 * ((1000 - s4).toInt64)) (s1 + s5)
)
def j_X6_nextOf_59 (M : Mem) (s1 : Int32) (s3 : Int32) (s4 : Int32) (s5 : Int32) (s6 : Int32) (t0 : Int64) : Option (Int64) :=
j_X6_nextOf_60 M s1 s3 s4 s5 s6 t0 s1
def m_X6_nextOf (M : Mem) (a1 : Int32) (a2 : Int32) (a3 : Int32) (a4 : Int32) : Option (Int64) :=
(m_X6_less M (rd M 162 (ix 9)) (a2 - a1)).bind fun r_2 =>
(m_X6_less M (rd M 162 (ix 9)) a1).bind fun r_4 =>
if a3 ≤ 0 then (
j_X6_nextOf_59 M a1 a3 a4 r_2 r_4 (a3.toInt64 * a4.toInt64)
) else (
if a4 ≤ 0 then (
j_X6_nextOf_59 M a1 a3 a4 r_2 r_4 (a3.toInt64 * a4.toInt64)
) else (
j_X6_nextOf_60 M a1 a3 a4 r_2 r_4 (a3.toInt64 * a4.toInt64) ((a1 + r_2) - r_4)
)
)

/-! X6_lowered -/
def m_X6_lowered (M : Mem) (a1 : Int64) (a3 : Int64) : Option (Int64) :=
chk (!decide (a3 = 0)) <|
bnd (a1 / a3 : Int64) fun v_2 =>
chk (!decide (a3 = 0)) <|
if (lg_cmp (lrem a1 a3) 0) = 0 then (
some v_2
) else (
if 0 ≤ (lg_cmp a1 0) then (
some v_2
) else (
some (v_2 - 1)
)
)

/-! X6_findsTwo -/
def j_X6_findsTwo_174i (fu : Nat) (M : Mem) (s1 : Int32) (s2 : Int32) (s3 : Int32) (s4 : Int32) (s5 : Int32) (s9 : Int64) : Option ((Int32 × Mem) ⊕ (Mem)) :=
chk (inb s3 61) <|
bnd (wrl M 178 (ix s3) s9) fun M_29 =>
bnd (wr M_29 179 (ix s3) s5) fun M_31 =>
bnd (s5 + 1 : Int32) fun v_33 =>
some (.inl (v_33, M_31))
def j_X6_findsTwo_119i (fu : Nat) (M : Mem) (s1 : Int32) (s2 : Int32) (s3 : Int32) (s4 : Int32) (s5 : Int32) (s7 : Int32) (t0 : Int32) : Option ((Int32 × Mem) ⊕ (Mem)) :=
(m_X6_valueOf M 0).bind fun r_20 =>
(m_X6_nextOf M s3 s2 s7 t0).bind fun r_22 =>
(m_X6_lowered M (s1.toInt64 * r_22) 1000).bind fun r_24 =>
bnd ((1000 * r_20.toInt64) + r_24 : Int64) fun v_25 =>
if s5 ≤ 0 then (
j_X6_findsTwo_174i fu M s1 s2 s3 s4 s5 v_25
) else (
chk (inb s3 61) <|
if 0 < (lg_cmp v_25 (rdl M 178 (ix s3))) then (
j_X6_findsTwo_174i fu M s1 s2 s3 s4 s5 v_25
) else (
bnd (s5 + 1 : Int32) fun v_37 =>
some (.inl (v_37, M))
)
)
def j_X6_findsTwo_118i (fu : Nat) (M : Mem) (s1 : Int32) (s2 : Int32) (s3 : Int32) (s4 : Int32) (s5 : Int32) (s7 : Int32) : Option ((Int32 × Mem) ⊕ (Mem)) :=
j_X6_findsTwo_119i fu M s1 s2 s3 s4 s5 s7 0
def j_X6_findsTwo_94i (fu : Nat) (M : Mem) (s1 : Int32) (s2 : Int32) (s3 : Int32) (s4 : Int32) (s5 : Int32) (s6 : Int32) (t0 : Int32) : Option ((Int32 × Mem) ⊕ (Mem)) :=
if s4 = 2 then (
if s6 = 0 then (
j_X6_findsTwo_118i fu M s1 s2 s3 s4 s5 t0
) else (
(m_X6_chanceOf M 0 0 s5).bind fun r_41 =>
j_X6_findsTwo_119i fu M s1 s2 s3 s4 s5 t0 r_41
)
) else (
j_X6_findsTwo_118i fu M s1 s2 s3 s4 s5 t0
)
def j_X6_findsTwo_93i (fu : Nat) (M : Mem) (s1 : Int32) (s2 : Int32) (s3 : Int32) (s4 : Int32) (s5 : Int32) (s6 : Int32) : Option ((Int32 × Mem) ⊕ (Mem)) :=
j_X6_findsTwo_94i fu M s1 s2 s3 s4 s5 s6 0
def b_X6_findsTwo_33 (fu : Nat) (s1 : Int32) (s2 : Int32) (s3 : Int32) (s4 : Int32)  : (Int32 × Mem) → Option ((Int32 × Mem) ⊕ (Mem)) :=
un2 fun c5 M =>
if 4 ≤ c5 then (
some (.inr M)
) else (
if c5 = 2 then (
bnd (c5 + 1 : Int32) fun v_45 =>
some (.inl (v_45, M))
) else (
bnd (wr M 176 (ix 0) c5) fun M_11 =>
bnd (wr M_11 176 (ix 1) s4) fun M_13 =>
(m_X6_canMove M_13 0).bind fun r_16 =>
if c5 = 3 then (
if r_16 = 0 then (
j_X6_findsTwo_93i fu M_13 s1 s2 s3 s4 c5 r_16
) else (
(m_X6_chanceOf M_13 0 1 s4).bind fun r_44 =>
j_X6_findsTwo_94i fu M_13 s1 s2 s3 s4 c5 r_16 r_44
)
) else (
j_X6_findsTwo_93i fu M_13 s1 s2 s3 s4 c5 r_16
)
)
)
def b_X6_findsTwo_2 (fu : Nat) (s1 : Int32) (s2 : Int32)  : (Int32 × Mem) → Option ((Int32 × Mem) ⊕ (Mem)) :=
un2 fun c3 M =>
if s2 < c3 then (
some (.inr M)
) else (
bnd (wr M 149 (ix 0) c3) fun M_2 =>
bnd (wr M_2 149 (ix 1) (s2 - c3)) fun M_4 =>
(m_X6_doingOf fu M_4 1).bind <| un2 fun r_7 M_8 =>
(lp (b_X6_findsTwo_33 fu s1 s2 c3 r_7) fu (0, M_8)).bind <| (un1 fun M_49 =>
bnd (c3 + 1 : Int32) fun v_50 =>
some (.inl (v_50, M_49)))
)
def b_X6_findsTwo_204 (fu : Nat) (s2 : Int32)  : (Int32 × Mem) → Option ((Int32 × Mem) ⊕ (Mem)) :=
un2 fun c3 M =>
if s2 < c3 then (
some (.inr M)
) else (
chk (inb c3 61) <|
bnd (wrl M 177 (ix c3) (rdl M 178 (ix c3))) fun M_57 =>
bnd (c3 + 1 : Int32) fun v_59 =>
some (.inl (v_59, M_57))
)
def m_X6_findsTwo (fu : Nat) (M : Mem) (a1 : Int32) (a2 : Int32) : Option (Mem) :=
(lp (b_X6_findsTwo_2 fu a1 a2) fu (0, M)).bind <| (un1 fun M_54 =>
(lp (b_X6_findsTwo_204 fu a2) fu (0, M_54)).bind <| (un1 fun M_63 =>
some M_63))

/-! X6_two -/
def b_X6_two_110 (fu : Nat) (s1 : Int32) (s2 : Int32) (s3 : Int32) (s4 : Int32) (s5 : Int32) (s6 : Int32) (s7 : Int32)  : (Int32 × Mem) → Option ((Int32 × Mem) ⊕ (Mem)) :=
un2 fun c8 M =>
if s5 < c8 then (
some (.inr M)
) else (
chk (inb c8 61) <|
bnd (wrl M 177 (ix c8) 0) fun M_27 =>
bnd (c8 + 1 : Int32) fun v_29 =>
some (.inl (v_29, M_27))
)
def b_X6_two_134 (fu : Nat) (s1 : Int32) (s2 : Int32) (s3 : Int32) (s4 : Int32) (s5 : Int32) (s6 : Int32) (s7 : Int32)  : (Int32 × Mem) → Option ((Int32 × Mem) ⊕ (Mem)) :=
un2 fun c8 M =>
if s1 ≤ c8 then (
some (.inr M)
) else (
(m_X6_findsTwo fu M s2 s5).bind fun M_36 =>
bnd (c8 + 1 : Int32) fun v_37 =>
some (.inl (v_37, M_36))
)
def m_X6_two (fu : Nat) (M : Mem) (a1 : Int32) (a2 : Int32) (a3 : Int32) (a4 : Int32) : Option (Int64 × Mem) :=
bnd (wr M 148 0 0) fun M_1 =>
bnd ((rd M_1 149 (ix 0)) + (rd M_1 149 (ix 1)) : Int32) fun v_3 =>
if (rd M_1 148 2) = 2 then (
if 60 < v_3 then (
some ((-1), M_1)
) else (
(m_X6_isIn M_1 a1 1 40).bind fun r_8 =>
if r_8 = 0 then (
some ((-1), M_1)
) else (
(m_X6_isIn M_1 a2 0 999).bind fun r_11 =>
if r_11 = 0 then (
some ((-1), M_1)
) else (
(m_X6_isIn M_1 a3 0 v_3).bind fun r_14 =>
if r_14 = 0 then (
some ((-1), M_1)
) else (
(m_X6_isIn M_1 a4 0 1).bind fun r_17 =>
if r_17 = 0 then (
some ((-1), M_1)
) else (
bnd (rd M_1 149 (ix 0) : Int32) fun v_19 =>
bnd (rd M_1 157 (ix 1) : Int32) fun v_21 =>
bnd (wr M_1 157 (ix 1) 1) fun M_23 =>
(lp (b_X6_two_110 fu a1 a2 a3 a4 v_3 v_19 v_21) fu (0, M_23)).bind <| (un1 fun M_33 =>
(lp (b_X6_two_134 fu a1 a2 a3 a4 v_3 v_19 v_21) fu (0, M_33)).bind <| (un1 fun M_41 =>
bnd (wr M_41 157 (ix 1) v_21) fun M_42 =>
bnd (wr M_42 149 (ix 0) v_19) fun M_44 =>
bnd (wr M_44 149 (ix 1) (v_3 - v_19)) fun M_46 =>
if a4 = 0 then (
chk (inb a3 61) <|
some (rdl M_46 177 (ix a3), M_46)
) else (
chk (inb a3 61) <|
some ((rd M_46 179 (ix a3)).toInt64, M_46)
)))
)
)
)
)
)
) else (
some ((-1), M_1)
)

/-! X6_was -/
def m_X6_was (M : Mem) (a1 : Int32) (a2 : Int32) : Option (Int32 × Mem) :=
bnd (wr M 148 0 0) fun M_1 =>
(m_X6_isFarm M_1 a1).bind fun r_4 =>
if r_4 = 0 then (
some (0, M_1)
) else (
(m_X6_isIn M_1 a2 (-1) 60).bind fun r_7 =>
if r_7 = 0 then (
some (0, M_1)
) else (
chk (inb a1 10) <|
bnd (wr M_1 161 (ix a1) a2) fun M_10 =>
some (1, M_10)
)
)

/-! X6_feetBy -/
def j_X6_feetBy_61i (fu : Nat) (M : Mem) (s1 : Int32) (s2 : Int32) (s3 : Int32) (s4 : Int32) (t0 : Int32) (t1 : Int32) : Option ((Int32 × Int32 × Int32) ⊕ ((Unit) ⊕ (Int32 × Int32))) :=
if t0 ≤ t1 then (
(m_X6_size M s2).bind fun r_10 =>
bnd (s3 + r_10 : Int32) fun v_11 =>
bnd (s4 + 1 : Int32) fun v_13 =>
some (.inl (s2, v_11, v_13))
) else (
some (.inr (.inl ()))
)
def b_X6_feetBy_7 (fu : Nat) (M : Mem) (s1 : Int32)  : (Int32 × Int32 × Int32) → Option ((Int32 × Int32 × Int32) ⊕ ((Unit) ⊕ (Int32 × Int32))) :=
un3 fun c2 c3 c4 =>
if (rd M 148 2) ≤ c4 then (
some (.inr (.inr (c2, c3)))
) else (
chk (inb c4 10) <|
bnd ((c2 + (rd M 149 (ix c4))) - (rd M 161 (ix c4)) : Int32) fun v_3 =>
(m_X6_size M v_3).bind fun r_6 =>
if (rd M 157 (ix c4)) = 1 then (
j_X6_feetBy_61i fu M s1 v_3 c3 c4 r_6 0
) else (
j_X6_feetBy_61i fu M s1 v_3 c3 c4 r_6 (rd M 162 (ix 9))
)
)
def m_X6_feetBy (fu : Nat) (M : Mem) (a1 : Int32) : Option (Int32) :=
(lp (b_X6_feetBy_7 fu M a1) fu (a1, 0, 0)).bind <| (unS (un0 <|
some (-1))
(un2 fun v_17 v_18 =>
if v_17 = a1 then (
some v_18
) else (
some (-1)
)))

/-! X6_judged -/
def b_X6_judged_7 (fu : Nat) (M : Mem)  : (Int32) → Option ((Int32) ⊕ ((Unit) ⊕ (Unit))) :=
un1 fun c1 =>
if (rd M 148 2) ≤ c1 then (
some (.inr (.inr ()))
) else (
chk (inb c1 10) <|
if (rd M 161 (ix c1)) = (-1) then (
some (.inr (.inl ()))
) else (
bnd (c1 + 1 : Int32) fun v_6 =>
some (.inl v_6)
)
)
def b_X6_judged_44 (fu : Nat) (M : Mem)  : (Int32 × Int32) → Option ((Int32 × Int32) ⊕ (Int32)) :=
un2 fun c1 c2 =>
if (rd M 162 (ix 9)) < c2 then (
some (.inr c1)
) else (
(m_X6_feetBy fu M c2).bind fun r_14 =>
if r_14 = (-1) then (
bnd (c2 + 1 : Int32) fun v_16 =>
some (.inl (c1, v_16))
) else (
if c1 = (-1) then (
bnd (c2 + 1 : Int32) fun v_19 =>
some (.inl (r_14, v_19))
) else (
if c1 ≤ r_14 then (
bnd (c2 + 1 : Int32) fun v_22 =>
some (.inl (c1, v_22))
) else (
bnd (c2 + 1 : Int32) fun v_24 =>
some (.inl (r_14, v_24))
)
)
)
)
def m_X6_judged (fu : Nat) (M : Mem) : Option (Int32 × Mem) :=
bnd (wr M 148 0 0) fun M_1 =>
(lp (b_X6_judged_7 fu M_1) fu 0).bind <| (unS (un0 <|
some ((-1), M_1))
(un0 <|
bnd (-(rd M_1 162 (ix 9)) : Int32) fun v_10 =>
(lp (b_X6_judged_44 fu M_1) fu ((-1), v_10)).bind <| (un1 fun v_28 =>
some (v_28, M_1))))

/-! X6_putAside -/
def m_X6_putAside (M : Mem) (a1 : Int32) : Option (Int32 × Mem) :=
bnd (wr M 148 49 ((rd M 148 49) + 1)) fun M_1 =>
if (rd M_1 148 48) = 0 then (
chk (inb ((rd M_1 148 49) - 1) 160) <|
some (rd M_1 180 (ix ((rd M_1 148 49) - 1)), M_1)
) else (
chk (inb ((rd M_1 148 49) - 1) 160) <|
bnd (wr M_1 180 (ix ((rd M_1 148 49) - 1)) a1) fun M_5 =>
some (a1, M_5)
)

/-! X6_asides -/
def b_X6_asides_60 (fu : Nat)  : (Int32 × Mem) → Option ((Int32 × Mem) ⊕ (Mem)) :=
un2 fun c2 M =>
if 10 ≤ c2 then (
some (.inr M)
) else (
chk (inb c2 10) <|
(m_X6_putAside M (rd M 162 (ix c2))).bind <| un2 fun r_29 M_30 =>
bnd (wr M_30 162 (ix c2) r_29) fun M_31 =>
(m_X6_putAside M_31 (rd M_31 149 (ix c2))).bind <| un2 fun r_34 M_35 =>
bnd (wr M_35 149 (ix c2) r_34) fun M_36 =>
(m_X6_putAside M_36 (rd M_36 150 (ix c2))).bind <| un2 fun r_39 M_40 =>
bnd (wr M_40 150 (ix c2) r_39) fun M_41 =>
(m_X6_putAside M_41 (rd M_41 151 (ix c2))).bind <| un2 fun r_44 M_45 =>
bnd (wr M_45 151 (ix c2) r_44) fun M_46 =>
(m_X6_putAside M_46 (rd M_46 152 (ix c2))).bind <| un2 fun r_49 M_50 =>
bnd (wr M_50 152 (ix c2) r_49) fun M_51 =>
(m_X6_putAside M_51 (rd M_51 153 (ix c2))).bind <| un2 fun r_54 M_55 =>
bnd (wr M_55 153 (ix c2) r_54) fun M_56 =>
(m_X6_putAside M_56 (rd M_56 154 (ix c2))).bind <| un2 fun r_59 M_60 =>
bnd (wr M_60 154 (ix c2) r_59) fun M_61 =>
(m_X6_putAside M_61 (rd M_61 155 (ix c2))).bind <| un2 fun r_64 M_65 =>
bnd (wr M_65 155 (ix c2) r_64) fun M_66 =>
(m_X6_putAside M_66 (rd M_66 156 (ix c2))).bind <| un2 fun r_69 M_70 =>
bnd (wr M_70 156 (ix c2) r_69) fun M_71 =>
(m_X6_putAside M_71 (rd M_71 157 (ix c2))).bind <| un2 fun r_74 M_75 =>
bnd (wr M_75 157 (ix c2) r_74) fun M_76 =>
(m_X6_putAside M_76 (rd M_76 158 (ix c2))).bind <| un2 fun r_79 M_80 =>
bnd (wr M_80 158 (ix c2) r_79) fun M_81 =>
(m_X6_putAside M_81 (rd M_81 159 (ix c2))).bind <| un2 fun r_84 M_85 =>
bnd (wr M_85 159 (ix c2) r_84) fun M_86 =>
(m_X6_putAside M_86 (rd M_86 160 (ix c2))).bind <| un2 fun r_89 M_90 =>
bnd (wr M_90 160 (ix c2) r_89) fun M_91 =>
(m_X6_putAside M_91 (rd M_91 161 (ix c2))).bind <| un2 fun r_94 M_95 =>
bnd (wr M_95 161 (ix c2) r_94) fun M_96 =>
bnd (c2 + 1 : Int32) fun v_98 =>
some (.inl (v_98, M_96))
)
def m_X6_asides (fu : Nat) (M : Mem) (a1 : Int32) : Option (Mem) :=
chk (isB a1) <|
bnd (wr M 148 48 a1) fun M_2 =>
bnd (wr M_2 148 49 0) fun M_4 =>
(m_X6_putAside M_4 (rd M_4 148 1)).bind <| un2 fun r_7 M_8 =>
bnd (wr M_8 148 1 r_7) fun M_9 =>
(m_X6_putAside M_9 (rd M_9 148 2)).bind <| un2 fun r_12 M_13 =>
bnd (wr M_13 148 2 r_12) fun M_14 =>
(m_X6_putAside M_14 (rd M_14 148 3)).bind <| un2 fun r_17 M_18 =>
bnd (wr M_18 148 3 r_17) fun M_19 =>
(m_X6_putAside M_19 (rd M_19 148 4)).bind <| un2 fun r_22 M_23 =>
bnd (wr M_23 148 4 r_22) fun M_24 =>
(lp (b_X6_asides_60 fu) fu (0, M_24)).bind <| (un1 fun M_102 =>
some M_102)

/-! X6_purses -/
def b_X6_purses_4 (fu : Nat) (M : Mem)  : (Int32 × Int32) → Option ((Int32 × Int32) ⊕ (Int32)) :=
un2 fun c1 c2 =>
if (rd M 148 2) ≤ c2 then (
some (.inr c1)
) else (
chk (inb c2 10) <|
bnd (c1 + (rd M 153 (ix c2)) : Int32) fun v_3 =>
bnd (c2 + 1 : Int32) fun v_5 =>
some (.inl (v_3, v_5))
)
def m_X6_purses (fu : Nat) (M : Mem) : Option (Int32) :=
(lp (b_X6_purses_4 fu M) fu (0, 0)).bind <| (un1 fun v_9 =>
some v_9)

/-! X6_caughtAll -/
def b_X6_caughtAll_4 (fu : Nat) (M : Mem)  : (Int32 × Int32) → Option ((Int32 × Int32) ⊕ (Int32)) :=
un2 fun c1 c2 =>
if (rd M 148 2) ≤ c2 then (
some (.inr c1)
) else (
chk (inb c2 10) <|
bnd (c1 + (rd M 155 (ix c2)) : Int32) fun v_3 =>
bnd (c2 + 1 : Int32) fun v_5 =>
some (.inl (v_3, v_5))
)
def m_X6_caughtAll (fu : Nat) (M : Mem) : Option (Int32) :=
(lp (b_X6_caughtAll_4 fu M) fu (0, 0)).bind <| (un1 fun v_9 =>
some v_9)

/-! X6_eatenAll -/
def b_X6_eatenAll_4 (fu : Nat) (M : Mem)  : (Int32 × Int32) → Option ((Int32 × Int32) ⊕ (Int32)) :=
un2 fun c1 c2 =>
if (rd M 148 2) ≤ c2 then (
some (.inr c1)
) else (
chk (inb c2 10) <|
if (rd M 156 (ix c2)) = (-1) then (
bnd (c2 + 1 : Int32) fun v_4 =>
some (.inl (c1, v_4))
) else (
bnd (c1 + 1 : Int32) fun v_6 =>
bnd (c2 + 1 : Int32) fun v_8 =>
some (.inl (v_6, v_8))
)
)
def m_X6_eatenAll (fu : Nat) (M : Mem) : Option (Int32) :=
(lp (b_X6_eatenAll_4 fu M) fu (0, 0)).bind <| (un1 fun v_12 =>
some v_12)

/-! X6_thinks -/
def b_X6_thinks_54 (fu : Nat) (s1 : Int32) (s3 : Int32) (s4 : Int32)  : (Int32 × Mem) → Option ((Int32 × Mem) ⊕ (Mem)) :=
un2 fun c5 M =>
if s1 ≤ c5 then (
some (.inr M)
) else (
(m_X6_goesBy fu M).bind fun M_10 =>
bnd (c5 + 1 : Int32) fun v_11 =>
some (.inl (v_11, M_10))
)
def j_X6_thinks_109 (fu : Nat) (M : Mem) (s4 : Int32) (t0 : Int32) : Option (Int32 × Mem) :=
(m_X6_asides fu M 0).bind fun M_22 =>
some (t0 - s4, M_22)
def j_X6_thinks_36 (fu : Nat) (M : Mem) (s1 : Int32) (s2 : Int32) (s3 : Int32) (t0 : Int32) : Option (Int32 × Mem) :=
(m_X6_asides fu M 1).bind fun M_5 =>
bnd (wr M_5 162 (ix 9) s2) fun M_6 =>
(lp (b_X6_thinks_54 fu s1 s3 t0) fu (0, M_6)).bind <| (un1 fun M_15 =>
if s3 = 0 then (
(m_X6_purses fu M_15).bind fun r_26 =>
j_X6_thinks_109 fu M_15 t0 r_26
) else (
if s3 = 1 then (
j_X6_thinks_109 fu M_15 t0 (rd M_15 148 4)
) else (
if s3 = 2 then (
(m_X6_caughtAll fu M_15).bind fun r_24 =>
j_X6_thinks_109 fu M_15 t0 r_24
) else (
(m_X6_eatenAll fu M_15).bind fun r_20 =>
j_X6_thinks_109 fu M_15 t0 r_20
)
)
))
def m_X6_thinks (fu : Nat) (M : Mem) (a1 : Int32) (a2 : Int32) (a3 : Int32) : Option (Int32 × Mem) :=
if a3 = 0 then (
(m_X6_purses fu M).bind fun r_30 =>
j_X6_thinks_36 fu M a1 a2 a3 r_30
) else (
if a3 = 1 then (
j_X6_thinks_36 fu M a1 a2 a3 (rd M 148 4)
) else (
if a3 = 2 then (
(m_X6_caughtAll fu M).bind fun r_28 =>
j_X6_thinks_36 fu M a1 a2 a3 r_28
) else (
j_X6_thinks_36 fu M a1 a2 a3 0
)
)
)

/-! X6_feet -/
def b_X6_feet_31 (fu : Nat) (s1 : Int32)  : (Int32 × Int32 × Int32 × Mem) → Option ((Int32 × Int32 × Int32 × Mem) ⊕ (Int32 × Mem)) :=
un4 fun c2 c3 c4 M =>
if 5 < c4 then (
some (.inr (c2, M))
) else (
(m_X6_thinks fu M s1 c4 0).bind <| un2 fun r_11 M_12 =>
if c3 < r_11 then (
bnd (c4 + 1 : Int32) fun v_14 =>
some (.inl (c4, r_11, v_14, M_12))
) else (
bnd (c4 + 1 : Int32) fun v_16 =>
some (.inl (c2, c3, v_16, M_12))
)
)
def m_X6_feet (fu : Nat) (M : Mem) (a1 : Int32) : Option (Int32 × Mem) :=
bnd (wr M 148 0 0) fun M_1 =>
(m_X6_isIn M_1 a1 1 60).bind fun r_4 =>
if r_4 = 0 then (
some ((-1), M_1)
) else (
(m_X6_thinks fu M_1 a1 0 0).bind <| un2 fun r_7 M_8 =>
(lp (b_X6_feet_31 fu a1) fu (0, r_7, 1, M_8)).bind <| (un2 fun v_20 M_21 =>
some (v_20, M_21))
)

/-! X6_thought -/
def m_X6_thought (fu : Nat) (M : Mem) (a1 : Int32) (a2 : Int32) : Option (Int32 × Mem) :=
bnd (wr M 148 0 0) fun M_1 =>
(m_X6_isIn M_1 a1 1 60).bind fun r_4 =>
if r_4 = 0 then (
some ((-100000000), M_1)
) else (
(m_X6_isIn M_1 a2 0 3).bind fun r_7 =>
if r_7 = 0 then (
some ((-100000000), M_1)
) else (
(m_X6_thinks fu M_1 a1 (rd M_1 162 (ix 9)) a2).bind <| un2 fun r_10 M_11 =>
some (r_10, M_11)
)
)

/-! X6_keptText -/
def m_X6_keptText (M : Mem) (a1 : Int32) : Option (Int32 × Mem) :=
bnd (wr M 148 54 ((rd M 148 54) + 1)) fun M_1 =>
if (rd M_1 148 48) = 0 then (
chk (inb ((rd M_1 148 54) - 1) 3400) <|
some (rd M_1 182 (ix ((rd M_1 148 54) - 1)), M_1)
) else (
chk (inb ((rd M_1 148 54) - 1) 3400) <|
bnd (wr M_1 182 (ix ((rd M_1 148 54) - 1)) a1) fun M_5 =>
some (a1, M_5)
)

/-! X6_image -/
def b_X6_image_97 (fu : Nat)  : (Int32 × Mem) → Option ((Int32 × Mem) ⊕ (Mem)) :=
un2 fun c2 M =>
if 4 ≤ c2 then (
some (.inr M)
) else (
chk (inb c2 5) <|
(m_X6_keptText M (rd M 165 (ix c2))).bind <| un2 fun r_15 M_16 =>
bnd (wr M_16 165 (ix c2) r_15) fun M_17 =>
bnd (c2 + 1 : Int32) fun v_19 =>
some (.inl (v_19, M_17))
)
def b_X6_image_126 (fu : Nat)  : (Int32 × Mem) → Option ((Int32 × Mem) ⊕ (Mem)) :=
un2 fun c2 M =>
if 64 ≤ c2 then (
some (.inr M)
) else (
chk (inb c2 80) <|
(m_X6_keptText M (rd M 166 (ix c2))).bind <| un2 fun r_27 M_28 =>
bnd (wr M_28 166 (ix c2) r_27) fun M_29 =>
(m_X6_keptText M_29 (rd M_29 167 (ix c2))).bind <| un2 fun r_32 M_33 =>
bnd (wr M_33 167 (ix c2) r_32) fun M_34 =>
(m_X6_keptText M_34 (rd M_34 168 (ix c2))).bind <| un2 fun r_37 M_38 =>
bnd (wr M_38 168 (ix c2) r_37) fun M_39 =>
bnd (c2 + 1 : Int32) fun v_41 =>
some (.inl (v_41, M_39))
)
def b_X6_image_188 (fu : Nat)  : (Int32 × Mem) → Option ((Int32 × Mem) ⊕ (Mem)) :=
un2 fun c2 M =>
if 1600 ≤ c2 then (
some (.inr M)
) else (
chk (inb c2 2000) <|
(m_X6_keptText M (rd M 169 (ix c2))).bind <| un2 fun r_49 M_50 =>
bnd (wr M_50 169 (ix c2) r_49) fun M_51 =>
(m_X6_keptText M_51 (rd M_51 170 (ix c2))).bind <| un2 fun r_54 M_55 =>
bnd (wr M_55 170 (ix c2) r_54) fun M_56 =>
bnd (c2 + 1 : Int32) fun v_58 =>
some (.inl (v_58, M_56))
)
def j_X6_image_90 (fu : Nat) (M : Mem) : Option (Int32 × Mem) :=
bnd (wr M 148 54 0) fun M_10 =>
(lp (b_X6_image_97 fu) fu (0, M_10)).bind <| (un1 fun M_23 =>
(lp (b_X6_image_126 fu) fu (0, M_23)).bind <| (un1 fun M_45 =>
(lp (b_X6_image_188 fu) fu (0, M_45)).bind <| (un1 fun M_62 =>
some (1, M_62))))
def b_X6_image_65 (fu : Nat)  : (Int32 × Mem) → Option ((Int32 × Mem) ⊕ (Mem)) :=
un2 fun c2 M =>
if 160 ≤ c2 then (
some (.inr M)
) else (
chk (inb c2 160) <|
bnd (wr M 181 (ix c2) (rd M 180 (ix c2))) fun M_65 =>
bnd (c2 + 1 : Int32) fun v_67 =>
some (.inl (v_67, M_65))
)
def j_X6_image_54 (fu : Nat) (M : Mem) (s1 : Int32) : Option (Int32 × Mem) :=
(m_X6_asides fu M s1).bind fun M_8 =>
if s1 = 0 then (
j_X6_image_90 fu M_8
) else (
(lp (b_X6_image_65 fu) fu (0, M_8)).bind <| (un1 fun M_71 =>
j_X6_image_90 fu M_71)
)
def b_X6_image_29 (fu : Nat) (s1 : Int32)  : (Int32 × Mem) → Option ((Int32 × Mem) ⊕ (Mem)) :=
un2 fun c2 M =>
if 160 ≤ c2 then (
some (.inr M)
) else (
chk (inb c2 160) <|
bnd (wr M 180 (ix c2) (rd M 181 (ix c2))) fun M_74 =>
bnd (c2 + 1 : Int32) fun v_76 =>
some (.inl (v_76, M_74))
)
def j_X6_image_18 (fu : Nat) (M : Mem) (s1 : Int32) : Option (Int32 × Mem) :=
bnd (wr M 148 51 1) fun M_4 =>
if s1 = 0 then (
(lp (b_X6_image_29 fu s1) fu (0, M_4)).bind <| (un1 fun M_80 =>
j_X6_image_54 fu M_80 s1)
) else (
j_X6_image_54 fu M_4 s1
)
def m_X6_image (fu : Nat) (M : Mem) (a1 : Int32) : Option (Int32 × Mem) :=
bnd (wr M 148 0 0) fun M_1 =>
if a1 = 0 then (
if (rd M_1 148 51) = 0 then (
some (0, M_1)
) else (
j_X6_image_18 fu M_1 a1
)
) else (
j_X6_image_18 fu M_1 a1
)

/-! X6_look -/
def b_X6_look_77 (fu : Nat) (M : Mem)  : (Int32 × Int32) → Option ((Int32 × Int32) ⊕ (Int32)) :=
un2 fun c2 c3 =>
if (rd M 148 2) ≤ c3 then (
some (.inr c2)
) else (
chk (inb c3 10) <|
bnd (c2 + (rd M 149 (ix c3)) : Int32) fun v_13 =>
bnd (c3 + 1 : Int32) fun v_15 =>
some (.inl (v_13, v_15))
)
def m_X6_look (fu : Nat) (M : Mem) (a1 : Int32) : Option (Int32 × Mem) :=
bnd (wr M 148 0 0) fun M_1 =>
if a1 = 0 then (
some (rd M_1 148 2, M_1)
) else (
if a1 = 1 then (
some (rd M_1 148 3, M_1)
) else (
if a1 = 2 then (
some (rd M_1 148 4, M_1)
) else (
if a1 = 4 then (
(m_X6_eatenAll fu M_1).bind fun r_22 =>
some (r_22, M_1)
) else (
(m_X6_isIn M_1 a1 10 19).bind fun r_8 =>
if r_8 = 0 then (
if a1 = 3 then (
(lp (b_X6_look_77 fu M_1) fu (0, 0)).bind <| (un1 fun v_19 =>
some (v_19, M_1))
) else (
some ((-1), M_1)
)
) else (
chk (inb (a1 - 10) 10) <|
some (rd M_1 162 (ix (a1 - 10)), M_1)
)
)
)
)
)
