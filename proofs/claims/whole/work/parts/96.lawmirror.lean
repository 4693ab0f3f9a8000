/-! the law's loop: written by wip/whole/gen/law.py -/
def j_L_law_916i (fu : Nat) (L : Nat) (xs : Nat → Int32) (M : Mem) (s3 : Int32) (t0 : Int32) (t2 : Int32) : Option ((Int32 × Mem) ⊕ (Mem)) :=
(m_X6_image fu M t2).bind <| un2 fun r_289 M_290 =>
if t0 = r_289 then (
bnd (s3 + 6 : Int32) fun v_292 =>
some (.inl (v_292, M_290))
) else (
none
)
def j_L_law_899i (fu : Nat) (L : Nat) (xs : Nat → Int32) (M : Mem) (s3 : Int32) (t1 : Int32) : Option ((Int32 × Mem) ⊕ (Mem)) :=
(m_X5_image fu M t1).bind <| un2 fun r_284 M_285 =>
chk (inb (s3 + 1) L) <|
if (xs (ix (s3 + 1))) = 0 then (
j_L_law_916i fu L xs M_285 s3 r_284 0
) else (
j_L_law_916i fu L xs M_285 s3 r_284 1
)
def b_L_law_18 (fu : Nat) (L : Nat) (xs : Nat → Int32)  : (Int32 × Mem) → Option ((Int32 × Mem) ⊕ (Mem)) :=
un2 fun c3 M =>
if ((Int32.ofNat L) - 6) < c3 then (
some (.inr M)
) else (
chk (inb c3 L) <|
bnd ((xs (ix c3)) &&& 31 : Int32) fun v_3 =>
if v_3 = 0 then (
chk (inb (c3 + 1) L) <|
(m_X5_state M (xs (ix (c3 + 1)))).bind <| un2 fun r_8 M_9 =>
(m_X6_state M_9 (xs (ix (c3 + 1)))).bind <| un2 fun r_11 M_12 =>
if r_8 = r_11 then (
bnd (c3 + 6 : Int32) fun v_14 =>
some (.inl (v_14, M_12))
) else (
none
)
) else (
if v_3 = 1 then (
chk (inb (c3 + 1) L) <|
(m_X5_ring fu M (xs (ix (c3 + 1)))).bind <| un2 fun r_19 M_20 =>
(m_X6_ring fu M_20 (xs (ix (c3 + 1)))).bind <| un2 fun r_22 M_23 =>
if r_19 = r_22 then (
bnd (c3 + 6 : Int32) fun v_25 =>
some (.inl (v_25, M_23))
) else (
none
)
) else (
if v_3 = 2 then (
chk (inb (c3 + 1) L) <|
chk (inb (c3 + 2) L) <|
chk (inb (c3 + 3) L) <|
(m_X5_farm M (xs (ix (c3 + 1))) (xs (ix (c3 + 2))) (xs (ix (c3 + 3)))).bind <| un2 fun r_32 M_33 =>
(m_X6_farm M_33 (xs (ix (c3 + 1))) (xs (ix (c3 + 2))) (xs (ix (c3 + 3)))).bind <| un2 fun r_35 M_36 =>
if r_32 = r_35 then (
bnd (c3 + 6 : Int32) fun v_38 =>
some (.inl (v_38, M_36))
) else (
none
)
) else (
if v_3 = 3 then (
chk (inb (c3 + 1) L) <|
chk (inb (c3 + 2) L) <|
chk (inb (c3 + 3) L) <|
(m_X5_border M (xs (ix (c3 + 1))) (xs (ix (c3 + 2))) (xs (ix (c3 + 3)))).bind <| un2 fun r_45 M_46 =>
(m_X6_border M_46 (xs (ix (c3 + 1))) (xs (ix (c3 + 2))) (xs (ix (c3 + 3)))).bind <| un2 fun r_48 M_49 =>
if r_45 = r_48 then (
bnd (c3 + 6 : Int32) fun v_51 =>
some (.inl (v_51, M_49))
) else (
none
)
) else (
if v_3 = 4 then (
chk (inb (c3 + 1) L) <|
chk (inb (c3 + 2) L) <|
(m_X5_set M (xs (ix (c3 + 1))) (xs (ix (c3 + 2)))).bind <| un2 fun r_57 M_58 =>
(m_X6_set M_58 (xs (ix (c3 + 1))) (xs (ix (c3 + 2)))).bind <| un2 fun r_60 M_61 =>
if r_57 = r_60 then (
bnd (c3 + 6 : Int32) fun v_63 =>
some (.inl (v_63, M_61))
) else (
none
)
) else (
if v_3 = 5 then (
chk (inb (c3 + 1) L) <|
(m_X5_worth M (xs (ix (c3 + 1)))).bind fun r_68 =>
(m_X6_worth M (xs (ix (c3 + 1)))).bind <| un2 fun r_70 M_71 =>
if r_68 = r_70 then (
bnd (c3 + 6 : Int32) fun v_73 =>
some (.inl (v_73, M_71))
) else (
none
)
) else (
if v_3 = 6 then (
chk (inb (c3 + 1) L) <|
chk (inb (c3 + 2) L) <|
chk (inb (c3 + 3) L) <|
chk (inb (c3 + 4) L) <|
chk (inb (c3 + 5) L) <|
(m_X5_feed fu M (xs (ix (c3 + 1))) (xs (ix (c3 + 2))) (xs (ix (c3 + 3))) (xs (ix (c3 + 4))) (xs (ix (c3 + 5)))).bind <| un2 fun r_82 M_83 =>
(m_X6_feed fu M_83 (xs (ix (c3 + 1))) (xs (ix (c3 + 2))) (xs (ix (c3 + 3))) (xs (ix (c3 + 4))) (xs (ix (c3 + 5)))).bind <| un2 fun r_85 M_86 =>
if r_82 = r_85 then (
bnd (c3 + 6 : Int32) fun v_88 =>
some (.inl (v_88, M_86))
) else (
none
)
) else (
if v_3 = 7 then (
chk (inb (c3 + 1) L) <|
(m_X5_end M (xs (ix (c3 + 1)))).bind <| un2 fun r_93 M_94 =>
(m_X6_end M_94 (xs (ix (c3 + 1)))).bind <| un2 fun r_96 M_97 =>
if r_93 = r_96 then (
bnd (c3 + 6 : Int32) fun v_99 =>
some (.inl (v_99, M_97))
) else (
none
)
) else (
if v_3 = 8 then (
chk (inb (c3 + 1) L) <|
(m_X5_text fu M (xs (ix (c3 + 1)))).bind <| un2 fun r_104 M_105 =>
(m_X6_text fu M_105 (xs (ix (c3 + 1)))).bind <| un2 fun r_107 M_108 =>
if r_104 = r_107 then (
bnd (c3 + 6 : Int32) fun v_110 =>
some (.inl (v_110, M_108))
) else (
none
)
) else (
if v_3 = 9 then (
chk (inb (c3 + 1) L) <|
(m_X5_fault M (xs (ix (c3 + 1)))).bind fun r_115 =>
(m_X6_fault M (xs (ix (c3 + 1)))).bind <| un2 fun r_117 M_118 =>
if r_115 = r_117 then (
bnd (c3 + 6 : Int32) fun v_120 =>
some (.inl (v_120, M_118))
) else (
none
)
) else (
if v_3 = 10 then (
chk (inb (c3 + 1) L) <|
chk (inb (c3 + 2) L) <|
(m_X5_of fu M (xs (ix (c3 + 1))) (xs (ix (c3 + 2)))).bind <| un2 fun r_126 M_127 =>
(m_X6_of fu M_127 (xs (ix (c3 + 1))) (xs (ix (c3 + 2)))).bind <| un2 fun r_129 M_130 =>
if r_126 = r_129 then (
bnd (c3 + 6 : Int32) fun v_132 =>
some (.inl (v_132, M_130))
) else (
none
)
) else (
if v_3 = 11 then (
chk (inb (c3 + 1) L) <|
chk (inb (c3 + 2) L) <|
(m_X5_stake M (xs (ix (c3 + 1))) (xs (ix (c3 + 2)))).bind fun r_138 =>
(m_X6_stake M (xs (ix (c3 + 1))) (xs (ix (c3 + 2)))).bind <| un2 fun r_140 M_141 =>
if r_138 = r_140 then (
bnd (c3 + 6 : Int32) fun v_143 =>
some (.inl (v_143, M_141))
) else (
none
)
) else (
if v_3 = 12 then (
chk (inb (c3 + 1) L) <|
(m_X5_nights fu M (xs (ix (c3 + 1)))).bind <| un2 fun r_148 M_149 =>
(m_X6_nights fu M_149 (xs (ix (c3 + 1)))).bind <| un2 fun r_151 M_152 =>
if r_148 = r_151 then (
bnd (c3 + 6 : Int32) fun v_154 =>
some (.inl (v_154, M_152))
) else (
none
)
) else (
if v_3 = 13 then (
chk (inb (c3 + 1) L) <|
chk (inb (c3 + 2) L) <|
(m_X5_value M (xs (ix (c3 + 1))) (xs (ix (c3 + 2)))).bind fun r_160 =>
(m_X6_value fu M (xs (ix (c3 + 1))) (xs (ix (c3 + 2)))).bind <| un2 fun r_162 M_163 =>
if r_160 = r_162 then (
bnd (c3 + 6 : Int32) fun v_165 =>
some (.inl (v_165, M_163))
) else (
none
)
) else (
if v_3 = 14 then (
chk (inb (c3 + 1) L) <|
chk (inb (c3 + 2) L) <|
(m_X5_reply fu M (xs (ix (c3 + 1))) (xs (ix (c3 + 2)))).bind fun r_171 =>
(m_X6_reply fu M (xs (ix (c3 + 1))) (xs (ix (c3 + 2)))).bind <| un2 fun r_173 M_174 =>
if r_171 = r_173 then (
bnd (c3 + 6 : Int32) fun v_176 =>
some (.inl (v_176, M_174))
) else (
none
)
) else (
if v_3 = 15 then (
chk (inb (c3 + 1) L) <|
(m_X5_rests fu M (xs (ix (c3 + 1)))).bind <| un2 fun r_181 M_182 =>
(m_X6_rests fu M_182 (xs (ix (c3 + 1)))).bind <| un2 fun r_184 M_185 =>
if r_181 = r_184 then (
bnd (c3 + 6 : Int32) fun v_187 =>
some (.inl (v_187, M_185))
) else (
none
)
) else (
if v_3 = 16 then (
(m_X5_still fu M).bind <| un2 fun r_191 M_192 =>
(m_X6_still fu M_192).bind <| un2 fun r_194 M_195 =>
if r_191 = r_194 then (
bnd (c3 + 6 : Int32) fun v_197 =>
some (.inl (v_197, M_195))
) else (
none
)
) else (
if v_3 = 17 then (
chk (inb (c3 + 1) L) <|
chk (inb (c3 + 2) L) <|
(m_X5_walls fu M (xs (ix (c3 + 1))) (xs (ix (c3 + 2)))).bind <| un2 fun r_203 M_204 =>
(m_X6_walls fu M_204 (xs (ix (c3 + 1))) (xs (ix (c3 + 2)))).bind <| un2 fun r_206 M_207 =>
if r_203 = r_206 then (
bnd (c3 + 6 : Int32) fun v_209 =>
some (.inl (v_209, M_207))
) else (
none
)
) else (
if v_3 = 18 then (
chk (inb (c3 + 1) L) <|
chk (inb (c3 + 2) L) <|
(m_X5_pact fu M (xs (ix (c3 + 1))) (xs (ix (c3 + 2)))).bind fun r_215 =>
(m_X6_pact fu M (xs (ix (c3 + 1))) (xs (ix (c3 + 2)))).bind <| un2 fun r_217 M_218 =>
if r_215 = r_217 then (
bnd (c3 + 6 : Int32) fun v_220 =>
some (.inl (v_220, M_218))
) else (
none
)
) else (
if v_3 = 19 then (
chk (inb (c3 + 1) L) <|
chk (inb (c3 + 2) L) <|
chk (inb (c3 + 3) L) <|
chk (inb (c3 + 4) L) <|
(m_X5_two fu M (xs (ix (c3 + 1))) (xs (ix (c3 + 2))) (xs (ix (c3 + 3))) (xs (ix (c3 + 4)))).bind <| un2 fun r_228 M_229 =>
(m_X6_two fu M_229 (xs (ix (c3 + 1))) (xs (ix (c3 + 2))) (xs (ix (c3 + 3))) (xs (ix (c3 + 4)))).bind <| un2 fun r_231 M_232 =>
if (lg_cmp r_228 r_231) = 0 then (
bnd (c3 + 6 : Int32) fun v_234 =>
some (.inl (v_234, M_232))
) else (
none
)
) else (
if v_3 = 20 then (
chk (inb (c3 + 1) L) <|
chk (inb (c3 + 2) L) <|
(m_X5_was M (xs (ix (c3 + 1))) (xs (ix (c3 + 2)))).bind <| un2 fun r_240 M_241 =>
(m_X6_was M_241 (xs (ix (c3 + 1))) (xs (ix (c3 + 2)))).bind <| un2 fun r_243 M_244 =>
if r_240 = r_243 then (
bnd (c3 + 6 : Int32) fun v_246 =>
some (.inl (v_246, M_244))
) else (
none
)
) else (
if v_3 = 21 then (
(m_X5_judged fu M).bind fun r_250 =>
(m_X6_judged fu M).bind <| un2 fun r_252 M_253 =>
if r_250 = r_252 then (
bnd (c3 + 6 : Int32) fun v_255 =>
some (.inl (v_255, M_253))
) else (
none
)
) else (
if v_3 = 22 then (
chk (inb (c3 + 1) L) <|
(m_X5_feet fu M (xs (ix (c3 + 1)))).bind <| un2 fun r_260 M_261 =>
(m_X6_feet fu M_261 (xs (ix (c3 + 1)))).bind <| un2 fun r_263 M_264 =>
if r_260 = r_263 then (
bnd (c3 + 6 : Int32) fun v_266 =>
some (.inl (v_266, M_264))
) else (
none
)
) else (
if v_3 = 23 then (
chk (inb (c3 + 1) L) <|
chk (inb (c3 + 2) L) <|
(m_X5_thought fu M (xs (ix (c3 + 1))) (xs (ix (c3 + 2)))).bind <| un2 fun r_272 M_273 =>
(m_X6_thought fu M_273 (xs (ix (c3 + 1))) (xs (ix (c3 + 2)))).bind <| un2 fun r_275 M_276 =>
if r_272 = r_275 then (
bnd (c3 + 6 : Int32) fun v_278 =>
some (.inl (v_278, M_276))
) else (
none
)
) else (
if v_3 = 24 then (
chk (inb (c3 + 1) L) <|
if (xs (ix (c3 + 1))) = 0 then (
j_L_law_899i fu L xs M c3 0
) else (
j_L_law_899i fu L xs M c3 1
)
) else (
if v_3 = 25 then (
chk (inb (c3 + 1) L) <|
(m_X5_look fu M (xs (ix (c3 + 1)))).bind fun r_297 =>
(m_X6_look fu M (xs (ix (c3 + 1)))).bind <| un2 fun r_299 M_300 =>
if r_297 = r_299 then (
bnd (c3 + 6 : Int32) fun v_302 =>
some (.inl (v_302, M_300))
) else (
none
)
) else (
bnd (c3 + 6 : Int32) fun v_304 =>
some (.inl (v_304, M))
))))))))))))))))))))))))))
)
