noncomputable def lawF_L18s (xs : Nat → Int32) (len : Nat) (rec : Int32 → MI → ML → MR → MS → Option ((MI × ML × MR × MS) ⊕ (Int32 × MI × ML × MR × MS))) (w3 : Int32) (I : MI) (L : ML) (R : MR) (S : MS) : Option ((MI × ML × MR × MS) ⊕ (Int32 × MI × ML × MR × MS)) :=
if ((Int32.ofNat len) - 6) < w3 then (
some (.inl (I, L, R, S))) else
ck (vp_in w3 len) <|
if ((xs (ix w3)) &&& 63) = 0 then (
ck (vp_in (w3 + 1) len) <|
ck (vp_in (w3 + 2) len) <|
ck (vp_in (w3 + 3) len) <|
ck (vp_in (w3 + 4) len) <|
ck (vp_in (w3 + 5) len) <|
ck (okr R S) <|
b2 (x10_feed (xs (ix (w3 + 1))) (xs (ix (w3 + 2))) (xs (ix (w3 + 3))) (xs (ix (w3 + 4))) (xs (ix (w3 + 5))) I) fun r30 I31 =>
ck (vp_in (w3 + 1) len) <|
ck (vp_in (w3 + 2) len) <|
ck (vp_in (w3 + 3) len) <|
ck (vp_in (w3 + 4) len) <|
ck (vp_in (w3 + 5) len) <|
ck (okm R S) <|
b2 (x11_feed (xs (ix (w3 + 1))) (xs (ix (w3 + 2))) (xs (ix (w3 + 3))) (xs (ix (w3 + 4))) (xs (ix (w3 + 5))) I31) fun r38 I39 =>
if r30 = r38 then (
lt (w3 + 6) fun v40 =>
rec v40 I39 L R S) else
some (.inr ((0 : Int32), I39, L, R, S))) else
if ((xs (ix w3)) &&& 63) = 1 then (
ck (vp_in (w3 + 1) len) <|
ck (okr R S) <|
b2 (x10_end (xs (ix (w3 + 1))) I) fun r44 I45 =>
ck (vp_in (w3 + 1) len) <|
ck (okm R S) <|
b2 (x11_end (xs (ix (w3 + 1))) I45) fun r48 I49 =>
if r44 = r48 then (
lt (w3 + 6) fun v50 =>
rec v50 I49 L R S) else
some (.inr ((0 : Int32), I49, L, R, S))) else
if ((xs (ix w3)) &&& 63) = 2 then (
ck (okr R S) <|
b5 (x10_tub I L R S) fun r53 I54 L55 R56 S57 =>
ck (okm R56 S57) <|
b3 (x11_tub I54 L55) fun r59 I60 L61 =>
if r53 = r59 then (
lt (w3 + 6) fun v62 =>
rec v62 I60 L61 R56 S57) else
some (.inr ((0 : Int32), I60, L61, R56, S57))) else
if ((xs (ix w3)) &&& 63) = 3 then (
ck (vp_in (w3 + 1) len) <|
ck (okr R S) <|
b1 (x10_fault (xs (ix (w3 + 1))) I) fun r66 =>
ck (vp_in (w3 + 1) len) <|
ck (okm R S) <|
b1 (x11_fault (xs (ix (w3 + 1))) I) fun r69 =>
if r66 = r69 then (
lt (w3 + 6) fun v70 =>
rec v70 I L R S) else
some (.inr ((0 : Int32), I, L, R, S))) else
if ((xs (ix w3)) &&& 63) = 4 then (
ck (vp_in (w3 + 1) len) <|
ck (vp_in (w3 + 2) len) <|
ck (okr R S) <|
b1 (R 27 0) fun t_74 =>
ck (isT t_74) <|
b1 (x10_apple t_74 (xs (ix (w3 + 1))) (xs (ix (w3 + 2))) I) fun r78 =>
ck (vp_in (w3 + 1) len) <|
ck (vp_in (w3 + 2) len) <|
ck (okm R S) <|
b1 (x11_apple (xs (ix (w3 + 1))) (xs (ix (w3 + 2))) I) fun r82 =>
if r78 = r82 then (
lt (w3 + 6) fun v83 =>
rec v83 I L R S) else
some (.inr ((0 : Int32), I, L, R, S))) else
if ((xs (ix w3)) &&& 63) = 5 then (
ck (vp_in (w3 + 1) len) <|
ck (vp_in (w3 + 2) len) <|
ck (okr R S) <|
b1 (R 27 0) fun t_87 =>
ck (isT t_87) <|
b1 (x10_bobber t_87 (xs (ix (w3 + 1))) (xs (ix (w3 + 2))) I) fun r91 =>
ck (vp_in (w3 + 1) len) <|
ck (vp_in (w3 + 2) len) <|
ck (okm R S) <|
b1 (x11_bobber (xs (ix (w3 + 1))) (xs (ix (w3 + 2))) I) fun r95 =>
if r91 = r95 then (
lt (w3 + 6) fun v96 =>
rec v96 I L R S) else
some (.inr ((0 : Int32), I, L, R, S))) else
if ((xs (ix w3)) &&& 63) = 6 then (
ck (vp_in (w3 + 1) len) <|
ck (vp_in (w3 + 2) len) <|
ck (vp_in (w3 + 3) len) <|
ck (okr R S) <|
b1 (R 27 0) fun t_101 =>
ck (isT t_101) <|
b2 (x10_odds t_101 (xs (ix (w3 + 1))) (xs (ix (w3 + 2))) (xs (ix (w3 + 3))) I) fun r105 I106 =>
ck (vp_in (w3 + 1) len) <|
ck (vp_in (w3 + 2) len) <|
ck (vp_in (w3 + 3) len) <|
ck (okm R S) <|
b2 (x11_odds (xs (ix (w3 + 1))) (xs (ix (w3 + 2))) (xs (ix (w3 + 3))) I106) fun r111 I112 =>
if r105 = r111 then (
lt (w3 + 6) fun v113 =>
rec v113 I112 L R S) else
some (.inr ((0 : Int32), I112, L, R, S))) else
if ((xs (ix w3)) &&& 63) = 7 then (
ck (vp_in (w3 + 1) len) <|
ck (okr R S) <|
b1 (R 27 0) fun t_116 =>
ck (isT t_116) <|
b2 (x10_chooses t_116 (xs (ix (w3 + 1))) I) fun r120 I121 =>
ck (vp_in (w3 + 1) len) <|
ck (okm R S) <|
b2 (x11_chooses (xs (ix (w3 + 1))) I121) fun r124 I125 =>
if r120 = r124 then (
lt (w3 + 6) fun v126 =>
rec v126 I125 L R S) else
some (.inr ((0 : Int32), I125, L, R, S))) else
if ((xs (ix w3)) &&& 63) = 8 then (
ck (vp_in (w3 + 1) len) <|
ck (vp_in (w3 + 2) len) <|
ck (vp_in (w3 + 3) len) <|
ck (okr R S) <|
b5 (x10_go (xs (ix (w3 + 1))) (xs (ix (w3 + 2))) (xs (ix (w3 + 3))) I L R S) fun r132 I133 L134 R135 S136 =>
ck (vp_in (w3 + 1) len) <|
ck (vp_in (w3 + 2) len) <|
ck (vp_in (w3 + 3) len) <|
ck (okm R135 S136) <|
b2 (x11_go (xs (ix (w3 + 1))) (xs (ix (w3 + 2))) (xs (ix (w3 + 3))) I133) fun r141 I142 =>
if r132 = r141 then (
lt (w3 + 6) fun v143 =>
rec v143 I142 L134 R135 S136) else
some (.inr ((0 : Int32), I142, L134, R135, S136))) else
if ((xs (ix w3)) &&& 63) = 9 then (
ck (vp_in (w3 + 1) len) <|
ck (okr R S) <|
b5 (x10_breathe (xs (ix (w3 + 1))) I L R S) fun r147 I148 L149 R150 S151 =>
ck (vp_in (w3 + 1) len) <|
ck (okm R150 S151) <|
b2 (x11_breathe (xs (ix (w3 + 1))) I148) fun r154 I155 =>
if r147 = r154 then (
lt (w3 + 6) fun v156 =>
rec v156 I155 L149 R150 S151) else
some (.inr ((0 : Int32), I155, L149, R150, S151))) else
if ((xs (ix w3)) &&& 63) = 10 then (
ck (vp_in (w3 + 1) len) <|
ck (okr R S) <|
b5 (x10_wave (xs (ix (w3 + 1))) I L R S) fun r160 I161 L162 R163 S164 =>
ck (vp_in (w3 + 1) len) <|
ck (okm R163 S164) <|
b2 (x11_wave (xs (ix (w3 + 1))) I161) fun r167 I168 =>
if r160 = r167 then (
lt (w3 + 6) fun v169 =>
rec v169 I168 L162 R163 S164) else
some (.inr ((0 : Int32), I168, L162, R163, S164))) else
if ((xs (ix w3)) &&& 63) = 11 then (
ck (vp_in (w3 + 1) len) <|
ck (okr R S) <|
b5 (x10_party (xs (ix (w3 + 1))) I L R S) fun r173 I174 L175 R176 S177 =>
ck (vp_in (w3 + 1) len) <|
ck (okm R176 S177) <|
b2 (x11_party (xs (ix (w3 + 1))) I174) fun r180 I181 =>
if r173 = r180 then (
lt (w3 + 6) fun v182 =>
rec v182 I181 L175 R176 S177) else
some (.inr ((0 : Int32), I181, L175, R176, S177))) else
if ((xs (ix w3)) &&& 63) = 12 then (
ck (okr R S) <|
b5 (x10_undo I L R S) fun r185 I186 L187 R188 S189 =>
ck (okm R188 S189) <|
b2 (x11_undo I186) fun r191 I192 =>
if r185 = r191 then (
lt (w3 + 6) fun v193 =>
rec v193 I192 L187 R188 S189) else
some (.inr ((0 : Int32), I192, L187, R188, S189))) else
if ((xs (ix w3)) &&& 63) = 13 then (
ck (okr R S) <|
b5 (x10_redo I L R S) fun r196 I197 L198 R199 S200 =>
ck (okm R199 S200) <|
b2 (x11_redo I197) fun r202 I203 =>
if r196 = r202 then (
lt (w3 + 6) fun v204 =>
rec v204 I203 L198 R199 S200) else
some (.inr ((0 : Int32), I203, L198, R199, S200))) else
if ((xs (ix w3)) &&& 63) = 14 then (
ck (vp_in (w3 + 1) len) <|
ck (vp_in (w3 + 2) len) <|
ck (vp_in (w3 + 3) len) <|
ck (okr R S) <|
b5 (x10_best (xs (ix (w3 + 1))) (xs (ix (w3 + 2))) (xs (ix (w3 + 3))) I L R S) fun r210 I211 L212 R213 S214 =>
ck (vp_in (w3 + 1) len) <|
ck (vp_in (w3 + 2) len) <|
ck (vp_in (w3 + 3) len) <|
ck (okm R213 S214) <|
b2 (x11_best (xs (ix (w3 + 1))) (xs (ix (w3 + 2))) (xs (ix (w3 + 3))) I211) fun r219 I220 =>
if r210 = r219 then (
lt (w3 + 6) fun v221 =>
rec v221 I220 L212 R213 S214) else
some (.inr ((0 : Int32), I220, L212, R213, S214))) else
if ((xs (ix w3)) &&& 63) = 15 then (
ck (vp_in (w3 + 1) len) <|
ck (vp_in (w3 + 2) len) <|
ck (okr R S) <|
b1 (R 27 0) fun t_225 =>
ck (isT t_225) <|
b2 (x10_match t_225 (xs (ix (w3 + 1))) (xs (ix (w3 + 2))) I) fun r229 I230 =>
ck (vp_in (w3 + 1) len) <|
ck (vp_in (w3 + 2) len) <|
ck (okm R S) <|
b2 (x11_match (xs (ix (w3 + 1))) (xs (ix (w3 + 2))) I230) fun r234 I235 =>
if r229 = r234 then (
lt (w3 + 6) fun v236 =>
rec v236 I235 L R S) else
some (.inr ((0 : Int32), I235, L, R, S))) else
if ((xs (ix w3)) &&& 63) = 16 then (
ck (vp_in (w3 + 1) len) <|
ck (okr R S) <|
b1 (R 27 0) fun t_239 =>
ck (isT t_239) <|
b2 (x10_reply t_239 (xs (ix (w3 + 1))) I) fun r243 I244 =>
ck (vp_in (w3 + 1) len) <|
ck (okm R S) <|
b2 (x11_reply (xs (ix (w3 + 1))) I244) fun r247 I248 =>
if r243 = r247 then (
lt (w3 + 6) fun v249 =>
rec v249 I248 L R S) else
some (.inr ((0 : Int32), I248, L, R, S))) else
if ((xs (ix w3)) &&& 63) = 17 then (
ck (okr R S) <|
b1 (R 27 0) fun t_251 =>
ck (isT t_251) <|
b2 (x10_rests t_251 I) fun r255 I256 =>
ck (okm R S) <|
b2 (x11_rests I256) fun r258 I259 =>
if r255 = r258 then (
lt (w3 + 6) fun v260 =>
rec v260 I259 L R S) else
some (.inr ((0 : Int32), I259, L, R, S))) else
if ((xs (ix w3)) &&& 63) = 18 then (
ck (vp_in (w3 + 1) len) <|
ck (vp_in (w3 + 2) len) <|
ck (vp_in (w3 + 3) len) <|
ck (okr R S) <|
b1 (R 27 0) fun t_265 =>
ck (isT t_265) <|
b1 (x10_record t_265 (xs (ix (w3 + 1))) (xs (ix (w3 + 2))) (xs (ix (w3 + 3))) I) fun r269 =>
ck (vp_in (w3 + 1) len) <|
ck (vp_in (w3 + 2) len) <|
ck (vp_in (w3 + 3) len) <|
ck (okm R S) <|
b1 (x11_record (xs (ix (w3 + 1))) (xs (ix (w3 + 2))) (xs (ix (w3 + 3))) I) fun r274 =>
if r269 = r274 then (
lt (w3 + 6) fun v275 =>
rec v275 I L R S) else
some (.inr ((0 : Int32), I, L, R, S))) else
if ((xs (ix w3)) &&& 63) = 19 then (
ck (vp_in (w3 + 1) len) <|
ck (vp_in (w3 + 2) len) <|
ck (okr R S) <|
b1 (R 27 0) fun t_279 =>
ck (isT t_279) <|
b2 (x10_easier t_279 (xs (ix (w3 + 1))) (xs (ix (w3 + 2))) I) fun r283 I284 =>
ck (vp_in (w3 + 1) len) <|
ck (vp_in (w3 + 2) len) <|
ck (okm R S) <|
b2 (x11_easier (xs (ix (w3 + 1))) (xs (ix (w3 + 2))) I284) fun r288 I289 =>
if r283 = r288 then (
lt (w3 + 6) fun v290 =>
rec v290 I289 L R S) else
some (.inr ((0 : Int32), I289, L, R, S))) else
if ((xs (ix w3)) &&& 63) = 20 then (
ck (vp_in (w3 + 1) len) <|
ck (vp_in (w3 + 2) len) <|
ck (vp_in (w3 + 3) len) <|
ck (okr R S) <|
b1 (R 27 0) fun t_295 =>
ck (isT t_295) <|
b2 (x10_seat t_295 (xs (ix (w3 + 1))) (xs (ix (w3 + 2))) (xs (ix (w3 + 3))) I) fun r299 I300 =>
ck (vp_in (w3 + 1) len) <|
ck (vp_in (w3 + 2) len) <|
ck (vp_in (w3 + 3) len) <|
ck (okm R S) <|
b2 (x11_seat (xs (ix (w3 + 1))) (xs (ix (w3 + 2))) (xs (ix (w3 + 3))) I300) fun r305 I306 =>
if r299 = r305 then (
lt (w3 + 6) fun v307 =>
rec v307 I306 L R S) else
some (.inr ((0 : Int32), I306, L, R, S))) else
if ((xs (ix w3)) &&& 63) = 21 then (
ck (vp_in (w3 + 1) len) <|
ck (okr R S) <|
b1 (R 27 0) fun t_310 =>
ck (isT t_310) <|
b2 (x10_order t_310 (xs (ix (w3 + 1))) I) fun r314 I315 =>
ck (vp_in (w3 + 1) len) <|
ck (okm R S) <|
b2 (x11_order (xs (ix (w3 + 1))) I315) fun r318 I319 =>
if r314 = r318 then (
lt (w3 + 6) fun v320 =>
rec v320 I319 L R S) else
some (.inr ((0 : Int32), I319, L, R, S))) else
if ((xs (ix w3)) &&& 63) = 22 then (
ck (vp_in (w3 + 1) len) <|
ck (vp_in (w3 + 2) len) <|
ck (vp_in (w3 + 3) len) <|
ck (okr R S) <|
b5 (x10_drives (xs (ix (w3 + 1))) (xs (ix (w3 + 2))) (xs (ix (w3 + 3))) I L R S) fun r326 I327 L328 R329 S330 =>
ck (vp_in (w3 + 1) len) <|
ck (vp_in (w3 + 2) len) <|
ck (vp_in (w3 + 3) len) <|
ck (okm R329 S330) <|
b2 (x11_drives (xs (ix (w3 + 1))) (xs (ix (w3 + 2))) (xs (ix (w3 + 3))) I327) fun r335 I336 =>
if r326 = r335 then (
lt (w3 + 6) fun v337 =>
rec v337 I336 L328 R329 S330) else
some (.inr ((0 : Int32), I336, L328, R329, S330))) else
if ((xs (ix w3)) &&& 63) = 23 then (
ck (vp_in (w3 + 1) len) <|
ck (okr R S) <|
b1 (R 27 0) fun t_340 =>
ck (isT t_340) <|
b2 (x10_gone t_340 (xs (ix (w3 + 1))) I) fun r344 I345 =>
ck (vp_in (w3 + 1) len) <|
ck (okm R S) <|
b2 (x11_gone (xs (ix (w3 + 1))) I345) fun r348 I349 =>
if r344 = r348 then (
lt (w3 + 6) fun v350 =>
rec v350 I349 L R S) else
some (.inr ((0 : Int32), I349, L, R, S))) else
if ((xs (ix w3)) &&& 63) = 24 then (
ck (vp_in (w3 + 1) len) <|
ck (vp_in (w3 + 2) len) <|
ck (okr R S) <|
b1 (R 27 0) fun t_354 =>
ck (isT t_354) <|
b2 (x10_provide t_354 (xs (ix (w3 + 1))) (xs (ix (w3 + 2))) I) fun r358 I359 =>
ck (vp_in (w3 + 1) len) <|
ck (vp_in (w3 + 2) len) <|
ck (okm R S) <|
b2 (x11_provide (xs (ix (w3 + 1))) (xs (ix (w3 + 2))) I359) fun r363 I364 =>
if r358 = r363 then (
lt (w3 + 6) fun v365 =>
rec v365 I364 L R S) else
some (.inr ((0 : Int32), I364, L, R, S))) else
if ((xs (ix w3)) &&& 63) = 25 then (
ck (vp_in (w3 + 1) len) <|
ck (vp_in (w3 + 2) len) <|
ck (okr R S) <|
b1 (R 27 0) fun t_369 =>
ck (isT t_369) <|
b2 (x10_nearest t_369 (xs (ix (w3 + 1))) (xs (ix (w3 + 2))) I) fun r373 I374 =>
ck (vp_in (w3 + 1) len) <|
ck (vp_in (w3 + 2) len) <|
ck (okm R S) <|
b2 (x11_nearest (xs (ix (w3 + 1))) (xs (ix (w3 + 2))) I374) fun r378 I379 =>
if r373 = r378 then (
lt (w3 + 6) fun v380 =>
rec v380 I379 L R S) else
some (.inr ((0 : Int32), I379, L, R, S))) else
if ((xs (ix w3)) &&& 63) = 26 then (
ck (vp_in (w3 + 1) len) <|
ck (vp_in (w3 + 2) len) <|
ck (vp_in (w3 + 3) len) <|
ck (okr R S) <|
b5 (x10_waves (xs (ix (w3 + 1))) (xs (ix (w3 + 2))) (xs (ix (w3 + 3))) I L R S) fun r386 I387 L388 R389 S390 =>
ck (vp_in (w3 + 1) len) <|
ck (vp_in (w3 + 2) len) <|
ck (vp_in (w3 + 3) len) <|
ck (okm R389 S390) <|
b2 (x11_waves (xs (ix (w3 + 1))) (xs (ix (w3 + 2))) (xs (ix (w3 + 3))) I387) fun r395 I396 =>
if r386 = r395 then (
lt (w3 + 6) fun v397 =>
rec v397 I396 L388 R389 S390) else
some (.inr ((0 : Int32), I396, L388, R389, S390))) else
if ((xs (ix w3)) &&& 63) = 27 then (
ck (vp_in (w3 + 1) len) <|
ck (vp_in (w3 + 2) len) <|
ck (vp_in (w3 + 3) len) <|
ck (okr R S) <|
b1 (R 27 0) fun t_402 =>
ck (isT t_402) <|
b2 (x10_fill t_402 (xs (ix (w3 + 1))) (xs (ix (w3 + 2))) (xs (ix (w3 + 3))) I) fun r406 I407 =>
ck (vp_in (w3 + 1) len) <|
ck (vp_in (w3 + 2) len) <|
ck (vp_in (w3 + 3) len) <|
ck (okm R S) <|
b2 (x11_fill (xs (ix (w3 + 1))) (xs (ix (w3 + 2))) (xs (ix (w3 + 3))) I407) fun r412 I413 =>
if r406 = r412 then (
lt (w3 + 6) fun v414 =>
rec v414 I413 L R S) else
some (.inr ((0 : Int32), I413, L, R, S))) else
if ((xs (ix w3)) &&& 63) = 28 then (
ck (vp_in (w3 + 1) len) <|
ck (vp_in (w3 + 2) len) <|
ck (okr R S) <|
b1 (R 27 0) fun t_418 =>
ck (isT t_418) <|
b1 (x10_coin t_418 (xs (ix (w3 + 1))) (xs (ix (w3 + 2))) I) fun r422 =>
ck (vp_in (w3 + 1) len) <|
ck (vp_in (w3 + 2) len) <|
ck (okm R S) <|
b2 (x11_coin (xs (ix (w3 + 1))) (xs (ix (w3 + 2))) I) fun r426 I427 =>
if r422 = r426 then (
lt (w3 + 6) fun v428 =>
rec v428 I427 L R S) else
some (.inr ((0 : Int32), I427, L, R, S))) else
if ((xs (ix w3)) &&& 63) = 29 then (
ck (vp_in (w3 + 1) len) <|
ck (okr R S) <|
b1 (x10_lies (xs (ix (w3 + 1))) I) fun r432 =>
ck (vp_in (w3 + 1) len) <|
ck (okm R S) <|
b1 (x11_lies (xs (ix (w3 + 1))) I) fun r435 =>
if r432 = r435 then (
lt (w3 + 6) fun v436 =>
rec v436 I L R S) else
some (.inr ((0 : Int32), I, L, R, S))) else
if ((xs (ix w3)) &&& 63) = 30 then (
ck (vp_in (w3 + 1) len) <|
ck (vp_in (w3 + 2) len) <|
ck (vp_in (w3 + 3) len) <|
ck (okr R S) <|
b1 (R 27 0) fun t_441 =>
ck (isT t_441) <|
b2 (x10_pick t_441 (xs (ix (w3 + 1))) (xs (ix (w3 + 2))) (xs (ix (w3 + 3))) I) fun r445 I446 =>
ck (vp_in (w3 + 1) len) <|
ck (vp_in (w3 + 2) len) <|
ck (vp_in (w3 + 3) len) <|
ck (okm R S) <|
b2 (x11_pick (xs (ix (w3 + 1))) (xs (ix (w3 + 2))) (xs (ix (w3 + 3))) I446) fun r451 I452 =>
if r445 = r451 then (
lt (w3 + 6) fun v453 =>
rec v453 I452 L R S) else
some (.inr ((0 : Int32), I452, L, R, S))) else
if ((xs (ix w3)) &&& 63) = 31 then (
ck (vp_in (w3 + 1) len) <|
ck (okr R S) <|
b2 (x10_untell (xs (ix (w3 + 1))) I) fun r457 I458 =>
ck (vp_in (w3 + 1) len) <|
ck (okm R S) <|
b2 (x11_untell (xs (ix (w3 + 1))) I458) fun r461 I462 =>
if r457 = r461 then (
lt (w3 + 6) fun v463 =>
rec v463 I462 L R S) else
some (.inr ((0 : Int32), I462, L, R, S))) else
if ((xs (ix w3)) &&& 63) = 32 then (
ck (vp_in (w3 + 1) len) <|
ck (okr R S) <|
b2 (x10_later (xs (ix (w3 + 1))) I) fun r467 I468 =>
ck (vp_in (w3 + 1) len) <|
ck (okm R S) <|
b2 (x11_later (xs (ix (w3 + 1))) I468) fun r471 I472 =>
if r467 = r471 then (
lt (w3 + 6) fun v473 =>
rec v473 I472 L R S) else
some (.inr ((0 : Int32), I472, L, R, S))) else
if ((xs (ix w3)) &&& 63) = 33 then (
ck (vp_in (w3 + 1) len) <|
ck (okr R S) <|
b1 (R 27 0) fun t_476 =>
ck (isT t_476) <|
b2 (x10_fits t_476 (xs (ix (w3 + 1))) I) fun r480 I481 =>
ck (vp_in (w3 + 1) len) <|
ck (okm R S) <|
b2 (x11_fits (xs (ix (w3 + 1))) I481) fun r484 I485 =>
if r480 = r484 then (
lt (w3 + 6) fun v486 =>
rec v486 I485 L R S) else
some (.inr ((0 : Int32), I485, L, R, S))) else
if ((xs (ix w3)) &&& 63) = 34 then (
ck (vp_in (w3 + 1) len) <|
ck (okr R S) <|
b1 (x10_chance (xs (ix (w3 + 1))) I) fun r490 =>
ck (vp_in (w3 + 1) len) <|
ck (okm R S) <|
b1 (x11_chance (xs (ix (w3 + 1))) I) fun r493 =>
if (lg_cmp r490 r493) = 0 then (
lt (w3 + 6) fun v494 =>
rec v494 I L R S) else
some (.inr ((0 : Int32), I, L, R, S))) else
if ((xs (ix w3)) &&& 63) = 35 then (
ck (vp_in (w3 + 1) len) <|
ck (okr R S) <|
b5 (x10_image (xs (ix (w3 + 1))) I L R S) fun r498 I499 L500 R501 S502 =>
ck (vp_in (w3 + 1) len) <|
ck (okm R501 S502) <|
b2 (x11_image (xs (ix (w3 + 1))) I499) fun r505 I506 =>
if r498 = r505 then (
lt (w3 + 6) fun v507 =>
rec v507 I506 L500 R501 S502) else
some (.inr ((0 : Int32), I506, L500, R501, S502))) else
if ((xs (ix w3)) &&& 63) = 36 then (
ck (vp_in (w3 + 1) len) <|
ck (okr R S) <|
b5 (x10_back (xs (ix (w3 + 1))) I L R S) fun r511 I512 L513 R514 S515 =>
ck (vp_in (w3 + 1) len) <|
ck (okm R514 S515) <|
b2 (x11_back (xs (ix (w3 + 1))) I512) fun r518 I519 =>
if r511 = r518 then (
lt (w3 + 6) fun v520 =>
rec v520 I519 L513 R514 S515) else
some (.inr ((0 : Int32), I519, L513, R514, S515))) else
if ((xs (ix w3)) &&& 63) = 37 then (
ck (vp_in (w3 + 1) len) <|
ck (okr R S) <|
b1 (R 27 0) fun t_523 =>
ck (isT t_523) <|
b1 (x10_about t_523 (xs (ix (w3 + 1))) I) fun r527 =>
ck (vp_in (w3 + 1) len) <|
ck (okm R S) <|
b2 (x11_about (xs (ix (w3 + 1))) I) fun r530 I531 =>
if r527 = r530 then (
lt (w3 + 6) fun v532 =>
rec v532 I531 L R S) else
some (.inr ((0 : Int32), I531, L, R, S))) else
lt (w3 + 6) fun v533 =>
rec v533 I L R S
noncomputable def lawF_L18 (xs : Nat → Int32) (len : Nat) : Nat → Int32 → MI → ML → MR → MS → Option ((MI × ML × MR × MS) ⊕ (Int32 × MI × ML × MR × MS))
  | 0 => fun _ _ _ _ _ => none
  | n + 1 => lawF_L18s xs len (lawF_L18 xs len n)
noncomputable def lawF (xs : Nat → Int32) (len : Nat) (I : MI) (L : ML) (R : MR) (S : MS) : Option (Int32 × MI × ML × MR × MS) :=
al (10, 15) I L R S fun o_1 I2 L3 R4 S5 =>
b4 (x10_init o_1 I2 L3 R4 S5) fun I6 L7 R8 S9 =>
ck (o_1 = 0) <|
al (11, 95) I6 L7 R8 S9 fun o_11 I12 L13 R14 S15 =>
b4 (x11_init o_11 I12 L13 R14 S15) fun I16 L17 R18 S19 =>
ck (o_11 = 102) <|
lt (0 : Int32) fun v21 =>
bE (lawF_L18 xs len FU v21 I16 L17 R18 S19) fun e534 =>
some ((1 : Int32), e534.1, e534.2.1, e534.2.2.1, e534.2.2.2)
theorem lawF_L18_ok {X : WX} {n0 s0 : Nat} {xs : Nat → Int32} {len : Nat} (hxs : xs = X.2.2.2.2.2.2.2) (hlen : len = X.2.2.2.2.2.2.1) : ∀ (n : Nat) (w3 : Int32) (I : MI) (L : ML) (R : MR) (S : MS), Sim X yL_law cL_law 4 (some .boolean) 2048 84000 n0 s0 18 [(0, .ref X.2.2.2.2.2.1), (1, .ref (X.1 + 0)), (2, .ref (X.1 + 102)), (3, .int w3)] [] (I, L, R, S) (lawF_L18 xs len n w3 I L R S) (SE (fun b f => Ex X yL_law cL_law 4 (some .boolean) 2048 84000 n0 s0 1331 [] [] (b.1, b.2.1, b.2.2.1, b.2.2.2) f) (fun a f => f = (fun r => (some (.int r.1), (r.2.1, r.2.2.1, r.2.2.2.1, r.2.2.2.2))) a)) := by
  subst hxs hlen
  intro n
  induction n with
  | zero =>
    intro w3 I L R S
    exact sm_none
  | succ n ih =>
    intro w3 I L R S
    change Sim _ _ _ _ _ _ _ _ _ _ _ _ _ (lawF_L18s X.2.2.2.2.2.2.2 X.2.2.2.2.2.2.1 (lawF_L18 X.2.2.2.2.2.2.2 X.2.2.2.2.2.2.1 n) w3 I L R S) _
    unfold lawF_L18s
    refine s_iload_n 3 dL_law_18 rfl rfl ?_
    refine s_aload_n 0 dL_law_19 rfl rfl ?_
    refine s_slen dL_law_20 rfl ?_
    refine s_bipush (v := 6) dL_law_21 rfl cB_6 ?_
    refine s_isub dL_law_23 rfl ?_
    refine s_icmp_gt (tgt := 1331) dL_law_24 rfl rfl (fun _ => ?_) (fun _ => ?_)
    · skip
      refine s_pick [] rfl ?_
      exact sm_exit (fun f h => h)
    · skip
      refine s_aload_n 0 dL_law_27 rfl rfl ?_
      refine s_iload_n 3 dL_law_28 rfl rfl ?_
      refine sm_ck (fun g22 => ?_)
      refine s_sld dL_law_29 rfl g22 ?_
      refine s_bipush (v := 63) dL_law_30 rfl cB_63 ?_
      refine s_iand dL_law_32 rfl ?_
      refine sm_ite (fun h23 => ?_) (fun h23 => ?_)
      · skip
        refine s_tin (tgt := 200) dL_law_33 (by rw [h23]; try decide) (by rw [h23]; try decide) (by rw [h23]; try rfl) rfl ?_
        refine s_aload_n 1 dL_law_200 rfl rfl ?_
        refine s_aload_n 0 dL_law_201 rfl rfl ?_
        refine s_iload_n 3 dL_law_202 rfl rfl ?_
        refine s_iconst (v := 1) dL_law_203 rfl cI_1 ?_
        refine s_iadd dL_law_204 rfl ?_
        refine sm_ck (fun g24 => ?_)
        refine s_sld dL_law_205 rfl g24 ?_
        refine s_aload_n 0 dL_law_206 rfl rfl ?_
        refine s_iload_n 3 dL_law_207 rfl rfl ?_
        refine s_iconst (v := 2) dL_law_208 rfl cI_2 ?_
        refine s_iadd dL_law_209 rfl ?_
        refine sm_ck (fun g25 => ?_)
        refine s_sld dL_law_210 rfl g25 ?_
        refine s_aload_n 0 dL_law_211 rfl rfl ?_
        refine s_iload_n 3 dL_law_212 rfl rfl ?_
        refine s_iconst (v := 3) dL_law_213 rfl cI_3 ?_
        refine s_iadd dL_law_214 rfl ?_
        refine sm_ck (fun g26 => ?_)
        refine s_sld dL_law_215 rfl g26 ?_
        refine s_aload_n 0 dL_law_216 rfl rfl ?_
        refine s_iload_n 3 dL_law_217 rfl rfl ?_
        refine s_iconst (v := 4) dL_law_218 rfl cI_4 ?_
        refine s_iadd dL_law_219 rfl ?_
        refine sm_ck (fun g27 => ?_)
        refine s_sld dL_law_220 rfl g27 ?_
        refine s_aload_n 0 dL_law_221 rfl rfl ?_
        refine s_iload_n 3 dL_law_222 rfl rfl ?_
        refine s_iconst (v := 5) dL_law_223 rfl cI_5 ?_
        refine s_iadd dL_law_224 rfl ?_
        refine sm_ck (fun g28 => ?_)
        refine s_sld dL_law_225 rfl g28 ?_
        refine sm_ck (fun g29 => ?_)
        refine s_callV5_i1 dL_law_226 rfl lkV_RL_13 (S_0 g29) (Nat.le_of_ble_eq_true rfl) (Nat.le_of_ble_eq_true rfl) (Nat.le_of_ble_eq_true rfl) (ct_x10_feed g29) (fun r30 I31 => ?_)
        refine s_aload_n 2 dL_law_229 rfl rfl ?_
        refine s_aload_n 0 dL_law_230 rfl rfl ?_
        refine s_iload_n 3 dL_law_231 rfl rfl ?_
        refine s_iconst (v := 1) dL_law_232 rfl cI_1 ?_
        refine s_iadd dL_law_233 rfl ?_
        refine sm_ck (fun g32 => ?_)
        refine s_sld dL_law_234 rfl g32 ?_
        refine s_aload_n 0 dL_law_235 rfl rfl ?_
        refine s_iload_n 3 dL_law_236 rfl rfl ?_
        refine s_iconst (v := 2) dL_law_237 rfl cI_2 ?_
        refine s_iadd dL_law_238 rfl ?_
        refine sm_ck (fun g33 => ?_)
        refine s_sld dL_law_239 rfl g33 ?_
        refine s_aload_n 0 dL_law_240 rfl rfl ?_
        refine s_iload_n 3 dL_law_241 rfl rfl ?_
        refine s_iconst (v := 3) dL_law_242 rfl cI_3 ?_
        refine s_iadd dL_law_243 rfl ?_
        refine sm_ck (fun g34 => ?_)
        refine s_sld dL_law_244 rfl g34 ?_
        refine s_aload_n 0 dL_law_245 rfl rfl ?_
        refine s_iload_n 3 dL_law_246 rfl rfl ?_
        refine s_iconst (v := 4) dL_law_247 rfl cI_4 ?_
        refine s_iadd dL_law_248 rfl ?_
        refine sm_ck (fun g35 => ?_)
        refine s_sld dL_law_249 rfl g35 ?_
        refine s_aload_n 0 dL_law_250 rfl rfl ?_
        refine s_iload_n 3 dL_law_251 rfl rfl ?_
        refine s_iconst (v := 5) dL_law_252 rfl cI_5 ?_
        refine s_iadd dL_law_253 rfl ?_
        refine sm_ck (fun g36 => ?_)
        refine s_sld dL_law_254 rfl g36 ?_
        refine sm_ck (fun g37 => ?_)
        refine s_callV5_i1 dL_law_255 rfl lkV_RL_17 (S_102 g37) (Nat.le_of_ble_eq_true rfl) (Nat.le_of_ble_eq_true rfl) (Nat.le_of_ble_eq_true rfl) (ct_x11_feed g37) (fun r38 I39 => ?_)
        refine s_icmp_eq (tgt := 1325) dL_law_258 rfl rfl (fun _ => ?_) (fun _ => ?_)
        · skip
          refine s_iincL 3 (c := 6) (fun v40 => [(3, .int v40), (0, .ref X.2.2.2.2.2.1), (1, .ref (X.1 + 0)), (2, .ref (X.1 + 102))]) dL_law_1325 rfl rfl cI_6 (by decide) (fun _ => rfl) (fun v40 => ?_)
          refine s_goto (tgt := 18) dL_law_1328 rfl ?_
          refine s_pick [1, 2, 3, 0] rfl ?_
          exact ih v40 I39 L R S
        · skip
          refine s_iconst (v := 0) dL_law_261 rfl cI_0 ?_
          exact s_zret dL_law_262 rfl (Or.inl rfl) (fun f h => h)
      refine sm_ite (fun h41 => ?_) (fun h41 => ?_)
      · skip
        refine s_tin (tgt := 263) dL_law_33 (by rw [h41]; try decide) (by rw [h41]; try decide) (by rw [h41]; try rfl) rfl ?_
        refine s_aload_n 1 dL_law_263 rfl rfl ?_
        refine s_aload_n 0 dL_law_264 rfl rfl ?_
        refine s_iload_n 3 dL_law_265 rfl rfl ?_
        refine s_iconst (v := 1) dL_law_266 rfl cI_1 ?_
        refine s_iadd dL_law_267 rfl ?_
        refine sm_ck (fun g42 => ?_)
        refine s_sld dL_law_268 rfl g42 ?_
        refine sm_ck (fun g43 => ?_)
        refine s_callV1_i1 dL_law_269 rfl lkV_RL_18 (S_0 g43) (Nat.le_of_ble_eq_true rfl) (Nat.le_of_ble_eq_true rfl) (Nat.le_of_ble_eq_true rfl) (ct_x10_end g43) (fun r44 I45 => ?_)
        refine s_aload_n 2 dL_law_272 rfl rfl ?_
        refine s_aload_n 0 dL_law_273 rfl rfl ?_
        refine s_iload_n 3 dL_law_274 rfl rfl ?_
        refine s_iconst (v := 1) dL_law_275 rfl cI_1 ?_
        refine s_iadd dL_law_276 rfl ?_
        refine sm_ck (fun g46 => ?_)
        refine s_sld dL_law_277 rfl g46 ?_
        refine sm_ck (fun g47 => ?_)
        refine s_callV1_i1 dL_law_278 rfl lkV_RL_22 (S_102 g47) (Nat.le_of_ble_eq_true rfl) (Nat.le_of_ble_eq_true rfl) (Nat.le_of_ble_eq_true rfl) (ct_x11_end g47) (fun r48 I49 => ?_)
        refine s_icmp_eq (tgt := 1325) dL_law_281 rfl rfl (fun _ => ?_) (fun _ => ?_)
        · skip
          refine s_iincL 3 (c := 6) (fun v50 => [(3, .int v50), (0, .ref X.2.2.2.2.2.1), (1, .ref (X.1 + 0)), (2, .ref (X.1 + 102))]) dL_law_1325 rfl rfl cI_6 (by decide) (fun _ => rfl) (fun v50 => ?_)
          refine s_goto (tgt := 18) dL_law_1328 rfl ?_
          refine s_pick [1, 2, 3, 0] rfl ?_
          exact ih v50 I49 L R S
        · skip
          refine s_iconst (v := 0) dL_law_284 rfl cI_0 ?_
          exact s_zret dL_law_285 rfl (Or.inl rfl) (fun f h => h)
      refine sm_ite (fun h51 => ?_) (fun h51 => ?_)
      · skip
        refine s_tin (tgt := 286) dL_law_33 (by rw [h51]; try decide) (by rw [h51]; try decide) (by rw [h51]; try rfl) rfl ?_
        refine s_aload_n 1 dL_law_286 rfl rfl ?_
        refine sm_ck (fun g52 => ?_)
        refine s_callV0_i3 dL_law_287 rfl lkV_RL_23 (S_0 g52) (Nat.le_of_ble_eq_true rfl) (Nat.le_of_ble_eq_true rfl) (Nat.le_of_ble_eq_true rfl) ct_x10_tub (fun r53 I54 L55 R56 S57 => ?_)
        refine s_aload_n 2 dL_law_290 rfl rfl ?_
        refine sm_ck (fun g58 => ?_)
        refine s_callV0_i2 dL_law_291 rfl lkV_RL_27 (S_102 g58) (Nat.le_of_ble_eq_true rfl) (Nat.le_of_ble_eq_true rfl) (Nat.le_of_ble_eq_true rfl) (ct_x11_tub g58) (fun r59 I60 L61 => ?_)
        refine s_icmp_eq (tgt := 1325) dL_law_294 rfl rfl (fun _ => ?_) (fun _ => ?_)
        · skip
          refine s_iincL 3 (c := 6) (fun v62 => [(3, .int v62), (0, .ref X.2.2.2.2.2.1), (1, .ref (X.1 + 0)), (2, .ref (X.1 + 102))]) dL_law_1325 rfl rfl cI_6 (by decide) (fun _ => rfl) (fun v62 => ?_)
          refine s_goto (tgt := 18) dL_law_1328 rfl ?_
          refine s_pick [1, 2, 3, 0] rfl ?_
          exact ih v62 I60 L61 R56 S57
        · skip
          refine s_iconst (v := 0) dL_law_297 rfl cI_0 ?_
          exact s_zret dL_law_298 rfl (Or.inl rfl) (fun f h => h)
      refine sm_ite (fun h63 => ?_) (fun h63 => ?_)
      · skip
        refine s_tin (tgt := 299) dL_law_33 (by rw [h63]; try decide) (by rw [h63]; try decide) (by rw [h63]; try rfl) rfl ?_
        refine s_aload_n 1 dL_law_299 rfl rfl ?_
        refine s_aload_n 0 dL_law_300 rfl rfl ?_
        refine s_iload_n 3 dL_law_301 rfl rfl ?_
        refine s_iconst (v := 1) dL_law_302 rfl cI_1 ?_
        refine s_iadd dL_law_303 rfl ?_
        refine sm_ck (fun g64 => ?_)
        refine s_sld dL_law_304 rfl g64 ?_
        refine sm_ck (fun g65 => ?_)
        refine s_callV1_i0 dL_law_305 rfl lkV_RL_28 (S_0 g65) (Nat.le_of_ble_eq_true rfl) (Nat.le_of_ble_eq_true rfl) (Nat.le_of_ble_eq_true rfl) (ct_x10_fault g65) (fun r66 => ?_)
        refine s_aload_n 2 dL_law_308 rfl rfl ?_
        refine s_aload_n 0 dL_law_309 rfl rfl ?_
        refine s_iload_n 3 dL_law_310 rfl rfl ?_
        refine s_iconst (v := 1) dL_law_311 rfl cI_1 ?_
        refine s_iadd dL_law_312 rfl ?_
        refine sm_ck (fun g67 => ?_)
        refine s_sld dL_law_313 rfl g67 ?_
        refine sm_ck (fun g68 => ?_)
        refine s_callV1_i0 dL_law_314 rfl lkV_RL_31 (S_102 g68) (Nat.le_of_ble_eq_true rfl) (Nat.le_of_ble_eq_true rfl) (Nat.le_of_ble_eq_true rfl) (ct_x11_fault g68) (fun r69 => ?_)
        refine s_icmp_eq (tgt := 1325) dL_law_317 rfl rfl (fun _ => ?_) (fun _ => ?_)
        · skip
          refine s_iincL 3 (c := 6) (fun v70 => [(3, .int v70), (0, .ref X.2.2.2.2.2.1), (1, .ref (X.1 + 0)), (2, .ref (X.1 + 102))]) dL_law_1325 rfl rfl cI_6 (by decide) (fun _ => rfl) (fun v70 => ?_)
          refine s_goto (tgt := 18) dL_law_1328 rfl ?_
          refine s_pick [1, 2, 3, 0] rfl ?_
          exact ih v70 I L R S
        · skip
          refine s_iconst (v := 0) dL_law_320 rfl cI_0 ?_
          exact s_zret dL_law_321 rfl (Or.inl rfl) (fun f h => h)
      refine sm_ite (fun h71 => ?_) (fun h71 => ?_)
      · skip
        refine s_tin (tgt := 322) dL_law_33 (by rw [h71]; try decide) (by rw [h71]; try decide) (by rw [h71]; try rfl) rfl ?_
        refine s_aload_n 1 dL_law_322 rfl rfl ?_
        refine s_aload_n 0 dL_law_323 rfl rfl ?_
        refine s_iload_n 3 dL_law_324 rfl rfl ?_
        refine s_iconst (v := 1) dL_law_325 rfl cI_1 ?_
        refine s_iadd dL_law_326 rfl ?_
        refine sm_ck (fun g72 => ?_)
        refine s_sld dL_law_327 rfl g72 ?_
        refine s_aload_n 0 dL_law_328 rfl rfl ?_
        refine s_iload_n 3 dL_law_329 rfl rfl ?_
        refine s_iconst (v := 2) dL_law_330 rfl cI_2 ?_
        refine s_iadd dL_law_331 rfl ?_
        refine sm_ck (fun g73 => ?_)
        refine s_sld dL_law_332 rfl g73 ?_
        refine sm_ck (fun g76 => ?_)
        refine sm_b1 (fun t_74 h75 => ?_)
        refine sm_ck (fun g77 => ?_)
        refine s_callV2_i0 dL_law_333 rfl lkV_RL_32 (S_0 g76) (Nat.le_of_ble_eq_true rfl) (Nat.le_of_ble_eq_true rfl) (Nat.le_of_ble_eq_true rfl) (ct_x10_apple g76 (⟨h75, g77⟩)) (fun r78 => ?_)
        refine s_aload_n 2 dL_law_336 rfl rfl ?_
        refine s_aload_n 0 dL_law_337 rfl rfl ?_
        refine s_iload_n 3 dL_law_338 rfl rfl ?_
        refine s_iconst (v := 1) dL_law_339 rfl cI_1 ?_
        refine s_iadd dL_law_340 rfl ?_
        refine sm_ck (fun g79 => ?_)
        refine s_sld dL_law_341 rfl g79 ?_
        refine s_aload_n 0 dL_law_342 rfl rfl ?_
        refine s_iload_n 3 dL_law_343 rfl rfl ?_
        refine s_iconst (v := 2) dL_law_344 rfl cI_2 ?_
        refine s_iadd dL_law_345 rfl ?_
        refine sm_ck (fun g80 => ?_)
        refine s_sld dL_law_346 rfl g80 ?_
        refine sm_ck (fun g81 => ?_)
        refine s_callV2_i0 dL_law_347 rfl lkV_RL_36 (S_102 g81) (Nat.le_of_ble_eq_true rfl) (Nat.le_of_ble_eq_true rfl) (Nat.le_of_ble_eq_true rfl) (ct_x11_apple g81) (fun r82 => ?_)
        refine s_icmp_eq (tgt := 1325) dL_law_350 rfl rfl (fun _ => ?_) (fun _ => ?_)
        · skip
          refine s_iincL 3 (c := 6) (fun v83 => [(3, .int v83), (0, .ref X.2.2.2.2.2.1), (1, .ref (X.1 + 0)), (2, .ref (X.1 + 102))]) dL_law_1325 rfl rfl cI_6 (by decide) (fun _ => rfl) (fun v83 => ?_)
          refine s_goto (tgt := 18) dL_law_1328 rfl ?_
          refine s_pick [1, 2, 3, 0] rfl ?_
          exact ih v83 I L R S
        · skip
          refine s_iconst (v := 0) dL_law_353 rfl cI_0 ?_
          exact s_zret dL_law_354 rfl (Or.inl rfl) (fun f h => h)
      refine sm_ite (fun h84 => ?_) (fun h84 => ?_)
      · skip
        refine s_tin (tgt := 355) dL_law_33 (by rw [h84]; try decide) (by rw [h84]; try decide) (by rw [h84]; try rfl) rfl ?_
        refine s_aload_n 1 dL_law_355 rfl rfl ?_
        refine s_aload_n 0 dL_law_356 rfl rfl ?_
        refine s_iload_n 3 dL_law_357 rfl rfl ?_
        refine s_iconst (v := 1) dL_law_358 rfl cI_1 ?_
        refine s_iadd dL_law_359 rfl ?_
        refine sm_ck (fun g85 => ?_)
        refine s_sld dL_law_360 rfl g85 ?_
        refine s_aload_n 0 dL_law_361 rfl rfl ?_
        refine s_iload_n 3 dL_law_362 rfl rfl ?_
        refine s_iconst (v := 2) dL_law_363 rfl cI_2 ?_
        refine s_iadd dL_law_364 rfl ?_
        refine sm_ck (fun g86 => ?_)
        refine s_sld dL_law_365 rfl g86 ?_
        refine sm_ck (fun g89 => ?_)
        refine sm_b1 (fun t_87 h88 => ?_)
        refine sm_ck (fun g90 => ?_)
        refine s_callV2_i0 dL_law_366 rfl lkV_RL_37 (S_0 g89) (Nat.le_of_ble_eq_true rfl) (Nat.le_of_ble_eq_true rfl) (Nat.le_of_ble_eq_true rfl) (ct_x10_bobber g89 (⟨h88, g90⟩)) (fun r91 => ?_)
        refine s_aload_n 2 dL_law_369 rfl rfl ?_
        refine s_aload_n 0 dL_law_370 rfl rfl ?_
        refine s_iload_n 3 dL_law_371 rfl rfl ?_
        refine s_iconst (v := 1) dL_law_372 rfl cI_1 ?_
        refine s_iadd dL_law_373 rfl ?_
        refine sm_ck (fun g92 => ?_)
        refine s_sld dL_law_374 rfl g92 ?_
        refine s_aload_n 0 dL_law_375 rfl rfl ?_
        refine s_iload_n 3 dL_law_376 rfl rfl ?_
        refine s_iconst (v := 2) dL_law_377 rfl cI_2 ?_
        refine s_iadd dL_law_378 rfl ?_
        refine sm_ck (fun g93 => ?_)
        refine s_sld dL_law_379 rfl g93 ?_
        refine sm_ck (fun g94 => ?_)
        refine s_callV2_i0 dL_law_380 rfl lkV_RL_40 (S_102 g94) (Nat.le_of_ble_eq_true rfl) (Nat.le_of_ble_eq_true rfl) (Nat.le_of_ble_eq_true rfl) (ct_x11_bobber g94) (fun r95 => ?_)
        refine s_icmp_eq (tgt := 1325) dL_law_383 rfl rfl (fun _ => ?_) (fun _ => ?_)
        · skip
          refine s_iincL 3 (c := 6) (fun v96 => [(3, .int v96), (0, .ref X.2.2.2.2.2.1), (1, .ref (X.1 + 0)), (2, .ref (X.1 + 102))]) dL_law_1325 rfl rfl cI_6 (by decide) (fun _ => rfl) (fun v96 => ?_)
          refine s_goto (tgt := 18) dL_law_1328 rfl ?_
          refine s_pick [1, 2, 3, 0] rfl ?_
          exact ih v96 I L R S
        · skip
          refine s_iconst (v := 0) dL_law_386 rfl cI_0 ?_
          exact s_zret dL_law_387 rfl (Or.inl rfl) (fun f h => h)
      refine sm_ite (fun h97 => ?_) (fun h97 => ?_)
      · skip
        refine s_tin (tgt := 388) dL_law_33 (by rw [h97]; try decide) (by rw [h97]; try decide) (by rw [h97]; try rfl) rfl ?_
        refine s_aload_n 1 dL_law_388 rfl rfl ?_
        refine s_aload_n 0 dL_law_389 rfl rfl ?_
        refine s_iload_n 3 dL_law_390 rfl rfl ?_
        refine s_iconst (v := 1) dL_law_391 rfl cI_1 ?_
        refine s_iadd dL_law_392 rfl ?_
        refine sm_ck (fun g98 => ?_)
        refine s_sld dL_law_393 rfl g98 ?_
        refine s_aload_n 0 dL_law_394 rfl rfl ?_
        refine s_iload_n 3 dL_law_395 rfl rfl ?_
        refine s_iconst (v := 2) dL_law_396 rfl cI_2 ?_
        refine s_iadd dL_law_397 rfl ?_
        refine sm_ck (fun g99 => ?_)
        refine s_sld dL_law_398 rfl g99 ?_
        refine s_aload_n 0 dL_law_399 rfl rfl ?_
        refine s_iload_n 3 dL_law_400 rfl rfl ?_
        refine s_iconst (v := 3) dL_law_401 rfl cI_3 ?_
        refine s_iadd dL_law_402 rfl ?_
        refine sm_ck (fun g100 => ?_)
        refine s_sld dL_law_403 rfl g100 ?_
        refine sm_ck (fun g103 => ?_)
        refine sm_b1 (fun t_101 h102 => ?_)
        refine sm_ck (fun g104 => ?_)
        refine s_callV3_i1 dL_law_404 rfl lkV_RL_41 (S_0 g103) (Nat.le_of_ble_eq_true rfl) (Nat.le_of_ble_eq_true rfl) (Nat.le_of_ble_eq_true rfl) (ct_x10_odds g103 (⟨h102, g104⟩)) (fun r105 I106 => ?_)
        refine s_aload_n 2 dL_law_407 rfl rfl ?_
        refine s_aload_n 0 dL_law_408 rfl rfl ?_
        refine s_iload_n 3 dL_law_409 rfl rfl ?_
        refine s_iconst (v := 1) dL_law_410 rfl cI_1 ?_
        refine s_iadd dL_law_411 rfl ?_
        refine sm_ck (fun g107 => ?_)
        refine s_sld dL_law_412 rfl g107 ?_
        refine s_aload_n 0 dL_law_413 rfl rfl ?_
        refine s_iload_n 3 dL_law_414 rfl rfl ?_
        refine s_iconst (v := 2) dL_law_415 rfl cI_2 ?_
        refine s_iadd dL_law_416 rfl ?_
        refine sm_ck (fun g108 => ?_)
        refine s_sld dL_law_417 rfl g108 ?_
        refine s_aload_n 0 dL_law_418 rfl rfl ?_
        refine s_iload_n 3 dL_law_419 rfl rfl ?_
        refine s_iconst (v := 3) dL_law_420 rfl cI_3 ?_
        refine s_iadd dL_law_421 rfl ?_
        refine sm_ck (fun g109 => ?_)
        refine s_sld dL_law_422 rfl g109 ?_
        refine sm_ck (fun g110 => ?_)
        refine s_callV3_i1 dL_law_423 rfl lkV_RL_45 (S_102 g110) (Nat.le_of_ble_eq_true rfl) (Nat.le_of_ble_eq_true rfl) (Nat.le_of_ble_eq_true rfl) (ct_x11_odds g110) (fun r111 I112 => ?_)
        refine s_icmp_eq (tgt := 1325) dL_law_426 rfl rfl (fun _ => ?_) (fun _ => ?_)
        · skip
          refine s_iincL 3 (c := 6) (fun v113 => [(3, .int v113), (0, .ref X.2.2.2.2.2.1), (1, .ref (X.1 + 0)), (2, .ref (X.1 + 102))]) dL_law_1325 rfl rfl cI_6 (by decide) (fun _ => rfl) (fun v113 => ?_)
          refine s_goto (tgt := 18) dL_law_1328 rfl ?_
          refine s_pick [1, 2, 3, 0] rfl ?_
          exact ih v113 I112 L R S
        · skip
          refine s_iconst (v := 0) dL_law_429 rfl cI_0 ?_
          exact s_zret dL_law_430 rfl (Or.inl rfl) (fun f h => h)
      refine sm_ite (fun h114 => ?_) (fun h114 => ?_)
      · skip
        refine s_tin (tgt := 431) dL_law_33 (by rw [h114]; try decide) (by rw [h114]; try decide) (by rw [h114]; try rfl) rfl ?_
        refine s_aload_n 1 dL_law_431 rfl rfl ?_
        refine s_aload_n 0 dL_law_432 rfl rfl ?_
        refine s_iload_n 3 dL_law_433 rfl rfl ?_
        refine s_iconst (v := 1) dL_law_434 rfl cI_1 ?_
        refine s_iadd dL_law_435 rfl ?_
        refine sm_ck (fun g115 => ?_)
        refine s_sld dL_law_436 rfl g115 ?_
        refine sm_ck (fun g118 => ?_)
        refine sm_b1 (fun t_116 h117 => ?_)
        refine sm_ck (fun g119 => ?_)
        refine s_callV1_i1 dL_law_437 rfl lkV_RL_46 (S_0 g118) (Nat.le_of_ble_eq_true rfl) (Nat.le_of_ble_eq_true rfl) (Nat.le_of_ble_eq_true rfl) (ct_x10_chooses g118 (⟨h117, g119⟩)) (fun r120 I121 => ?_)
        refine s_aload_n 2 dL_law_440 rfl rfl ?_
        refine s_aload_n 0 dL_law_441 rfl rfl ?_
        refine s_iload_n 3 dL_law_442 rfl rfl ?_
        refine s_iconst (v := 1) dL_law_443 rfl cI_1 ?_
        refine s_iadd dL_law_444 rfl ?_
        refine sm_ck (fun g122 => ?_)
        refine s_sld dL_law_445 rfl g122 ?_
        refine sm_ck (fun g123 => ?_)
        refine s_callV1_i1 dL_law_446 rfl lkV_RL_49 (S_102 g123) (Nat.le_of_ble_eq_true rfl) (Nat.le_of_ble_eq_true rfl) (Nat.le_of_ble_eq_true rfl) (ct_x11_chooses g123) (fun r124 I125 => ?_)
        refine s_icmp_eq (tgt := 1325) dL_law_449 rfl rfl (fun _ => ?_) (fun _ => ?_)
        · skip
          refine s_iincL 3 (c := 6) (fun v126 => [(3, .int v126), (0, .ref X.2.2.2.2.2.1), (1, .ref (X.1 + 0)), (2, .ref (X.1 + 102))]) dL_law_1325 rfl rfl cI_6 (by decide) (fun _ => rfl) (fun v126 => ?_)
          refine s_goto (tgt := 18) dL_law_1328 rfl ?_
          refine s_pick [1, 2, 3, 0] rfl ?_
          exact ih v126 I125 L R S
        · skip
          refine s_iconst (v := 0) dL_law_452 rfl cI_0 ?_
          exact s_zret dL_law_453 rfl (Or.inl rfl) (fun f h => h)
      refine sm_ite (fun h127 => ?_) (fun h127 => ?_)
      · skip
        refine s_tin (tgt := 454) dL_law_33 (by rw [h127]; try decide) (by rw [h127]; try decide) (by rw [h127]; try rfl) rfl ?_
        refine s_aload_n 1 dL_law_454 rfl rfl ?_
        refine s_aload_n 0 dL_law_455 rfl rfl ?_
        refine s_iload_n 3 dL_law_456 rfl rfl ?_
        refine s_iconst (v := 1) dL_law_457 rfl cI_1 ?_
        refine s_iadd dL_law_458 rfl ?_
        refine sm_ck (fun g128 => ?_)
        refine s_sld dL_law_459 rfl g128 ?_
        refine s_aload_n 0 dL_law_460 rfl rfl ?_
        refine s_iload_n 3 dL_law_461 rfl rfl ?_
        refine s_iconst (v := 2) dL_law_462 rfl cI_2 ?_
        refine s_iadd dL_law_463 rfl ?_
        refine sm_ck (fun g129 => ?_)
        refine s_sld dL_law_464 rfl g129 ?_
        refine s_aload_n 0 dL_law_465 rfl rfl ?_
        refine s_iload_n 3 dL_law_466 rfl rfl ?_
        refine s_iconst (v := 3) dL_law_467 rfl cI_3 ?_
        refine s_iadd dL_law_468 rfl ?_
        refine sm_ck (fun g130 => ?_)
        refine s_sld dL_law_469 rfl g130 ?_
        refine sm_ck (fun g131 => ?_)
        refine s_callV3_i3 dL_law_470 rfl lkV_RL_50 (S_0 g131) (Nat.le_of_ble_eq_true rfl) (Nat.le_of_ble_eq_true rfl) (Nat.le_of_ble_eq_true rfl) ct_x10_go (fun r132 I133 L134 R135 S136 => ?_)
        refine s_aload_n 2 dL_law_473 rfl rfl ?_
        refine s_aload_n 0 dL_law_474 rfl rfl ?_
        refine s_iload_n 3 dL_law_475 rfl rfl ?_
        refine s_iconst (v := 1) dL_law_476 rfl cI_1 ?_
        refine s_iadd dL_law_477 rfl ?_
        refine sm_ck (fun g137 => ?_)
        refine s_sld dL_law_478 rfl g137 ?_
        refine s_aload_n 0 dL_law_479 rfl rfl ?_
        refine s_iload_n 3 dL_law_480 rfl rfl ?_
        refine s_iconst (v := 2) dL_law_481 rfl cI_2 ?_
        refine s_iadd dL_law_482 rfl ?_
        refine sm_ck (fun g138 => ?_)
        refine s_sld dL_law_483 rfl g138 ?_
        refine s_aload_n 0 dL_law_484 rfl rfl ?_
        refine s_iload_n 3 dL_law_485 rfl rfl ?_
        refine s_iconst (v := 3) dL_law_486 rfl cI_3 ?_
        refine s_iadd dL_law_487 rfl ?_
        refine sm_ck (fun g139 => ?_)
        refine s_sld dL_law_488 rfl g139 ?_
        refine sm_ck (fun g140 => ?_)
        refine s_callV3_i1 dL_law_489 rfl lkV_RL_53 (S_102 g140) (Nat.le_of_ble_eq_true rfl) (Nat.le_of_ble_eq_true rfl) (Nat.le_of_ble_eq_true rfl) (ct_x11_go g140) (fun r141 I142 => ?_)
        refine s_icmp_eq (tgt := 1325) dL_law_492 rfl rfl (fun _ => ?_) (fun _ => ?_)
        · skip
          refine s_iincL 3 (c := 6) (fun v143 => [(3, .int v143), (0, .ref X.2.2.2.2.2.1), (1, .ref (X.1 + 0)), (2, .ref (X.1 + 102))]) dL_law_1325 rfl rfl cI_6 (by decide) (fun _ => rfl) (fun v143 => ?_)
          refine s_goto (tgt := 18) dL_law_1328 rfl ?_
          refine s_pick [1, 2, 3, 0] rfl ?_
          exact ih v143 I142 L134 R135 S136
        · skip
          refine s_iconst (v := 0) dL_law_495 rfl cI_0 ?_
          exact s_zret dL_law_496 rfl (Or.inl rfl) (fun f h => h)
      refine sm_ite (fun h144 => ?_) (fun h144 => ?_)
      · skip
        refine s_tin (tgt := 497) dL_law_33 (by rw [h144]; try decide) (by rw [h144]; try decide) (by rw [h144]; try rfl) rfl ?_
        refine s_aload_n 1 dL_law_497 rfl rfl ?_
        refine s_aload_n 0 dL_law_498 rfl rfl ?_
        refine s_iload_n 3 dL_law_499 rfl rfl ?_
        refine s_iconst (v := 1) dL_law_500 rfl cI_1 ?_
        refine s_iadd dL_law_501 rfl ?_
        refine sm_ck (fun g145 => ?_)
        refine s_sld dL_law_502 rfl g145 ?_
        refine sm_ck (fun g146 => ?_)
        refine s_callV1_i3 dL_law_503 rfl lkV_RL_54 (S_0 g146) (Nat.le_of_ble_eq_true rfl) (Nat.le_of_ble_eq_true rfl) (Nat.le_of_ble_eq_true rfl) ct_x10_breathe (fun r147 I148 L149 R150 S151 => ?_)
        refine s_aload_n 2 dL_law_506 rfl rfl ?_
        refine s_aload_n 0 dL_law_507 rfl rfl ?_
        refine s_iload_n 3 dL_law_508 rfl rfl ?_
        refine s_iconst (v := 1) dL_law_509 rfl cI_1 ?_
        refine s_iadd dL_law_510 rfl ?_
        refine sm_ck (fun g152 => ?_)
        refine s_sld dL_law_511 rfl g152 ?_
        refine sm_ck (fun g153 => ?_)
        refine s_callV1_i1 dL_law_512 rfl lkV_RL_57 (S_102 g153) (Nat.le_of_ble_eq_true rfl) (Nat.le_of_ble_eq_true rfl) (Nat.le_of_ble_eq_true rfl) (ct_x11_breathe g153) (fun r154 I155 => ?_)
        refine s_icmp_eq (tgt := 1325) dL_law_515 rfl rfl (fun _ => ?_) (fun _ => ?_)
        · skip
          refine s_iincL 3 (c := 6) (fun v156 => [(3, .int v156), (0, .ref X.2.2.2.2.2.1), (1, .ref (X.1 + 0)), (2, .ref (X.1 + 102))]) dL_law_1325 rfl rfl cI_6 (by decide) (fun _ => rfl) (fun v156 => ?_)
          refine s_goto (tgt := 18) dL_law_1328 rfl ?_
          refine s_pick [1, 2, 3, 0] rfl ?_
          exact ih v156 I155 L149 R150 S151
        · skip
          refine s_iconst (v := 0) dL_law_518 rfl cI_0 ?_
          exact s_zret dL_law_519 rfl (Or.inl rfl) (fun f h => h)
      refine sm_ite (fun h157 => ?_) (fun h157 => ?_)
      · skip
        refine s_tin (tgt := 520) dL_law_33 (by rw [h157]; try decide) (by rw [h157]; try decide) (by rw [h157]; try rfl) rfl ?_
        refine s_aload_n 1 dL_law_520 rfl rfl ?_
        refine s_aload_n 0 dL_law_521 rfl rfl ?_
        refine s_iload_n 3 dL_law_522 rfl rfl ?_
        refine s_iconst (v := 1) dL_law_523 rfl cI_1 ?_
        refine s_iadd dL_law_524 rfl ?_
        refine sm_ck (fun g158 => ?_)
        refine s_sld dL_law_525 rfl g158 ?_
        refine sm_ck (fun g159 => ?_)
        refine s_callV1_i3 dL_law_526 rfl lkV_RL_58 (S_0 g159) (Nat.le_of_ble_eq_true rfl) (Nat.le_of_ble_eq_true rfl) (Nat.le_of_ble_eq_true rfl) ct_x10_wave (fun r160 I161 L162 R163 S164 => ?_)
        refine s_aload_n 2 dL_law_529 rfl rfl ?_
        refine s_aload_n 0 dL_law_530 rfl rfl ?_
        refine s_iload_n 3 dL_law_531 rfl rfl ?_
        refine s_iconst (v := 1) dL_law_532 rfl cI_1 ?_
        refine s_iadd dL_law_533 rfl ?_
        refine sm_ck (fun g165 => ?_)
        refine s_sld dL_law_534 rfl g165 ?_
        refine sm_ck (fun g166 => ?_)
        refine s_callV1_i1 dL_law_535 rfl lkV_RL_61 (S_102 g166) (Nat.le_of_ble_eq_true rfl) (Nat.le_of_ble_eq_true rfl) (Nat.le_of_ble_eq_true rfl) (ct_x11_wave g166) (fun r167 I168 => ?_)
        refine s_icmp_eq (tgt := 1325) dL_law_538 rfl rfl (fun _ => ?_) (fun _ => ?_)
        · skip
          refine s_iincL 3 (c := 6) (fun v169 => [(3, .int v169), (0, .ref X.2.2.2.2.2.1), (1, .ref (X.1 + 0)), (2, .ref (X.1 + 102))]) dL_law_1325 rfl rfl cI_6 (by decide) (fun _ => rfl) (fun v169 => ?_)
          refine s_goto (tgt := 18) dL_law_1328 rfl ?_
          refine s_pick [1, 2, 3, 0] rfl ?_
          exact ih v169 I168 L162 R163 S164
        · skip
          refine s_iconst (v := 0) dL_law_541 rfl cI_0 ?_
          exact s_zret dL_law_542 rfl (Or.inl rfl) (fun f h => h)
      refine sm_ite (fun h170 => ?_) (fun h170 => ?_)
      · skip
        refine s_tin (tgt := 543) dL_law_33 (by rw [h170]; try decide) (by rw [h170]; try decide) (by rw [h170]; try rfl) rfl ?_
        refine s_aload_n 1 dL_law_543 rfl rfl ?_
        refine s_aload_n 0 dL_law_544 rfl rfl ?_
        refine s_iload_n 3 dL_law_545 rfl rfl ?_
        refine s_iconst (v := 1) dL_law_546 rfl cI_1 ?_
        refine s_iadd dL_law_547 rfl ?_
        refine sm_ck (fun g171 => ?_)
        refine s_sld dL_law_548 rfl g171 ?_
        refine sm_ck (fun g172 => ?_)
        refine s_callV1_i3 dL_law_549 rfl lkV_RL_62 (S_0 g172) (Nat.le_of_ble_eq_true rfl) (Nat.le_of_ble_eq_true rfl) (Nat.le_of_ble_eq_true rfl) ct_x10_party (fun r173 I174 L175 R176 S177 => ?_)
        refine s_aload_n 2 dL_law_552 rfl rfl ?_
        refine s_aload_n 0 dL_law_553 rfl rfl ?_
        refine s_iload_n 3 dL_law_554 rfl rfl ?_
        refine s_iconst (v := 1) dL_law_555 rfl cI_1 ?_
        refine s_iadd dL_law_556 rfl ?_
        refine sm_ck (fun g178 => ?_)
        refine s_sld dL_law_557 rfl g178 ?_
        refine sm_ck (fun g179 => ?_)
        refine s_callV1_i1 dL_law_558 rfl lkV_RL_65 (S_102 g179) (Nat.le_of_ble_eq_true rfl) (Nat.le_of_ble_eq_true rfl) (Nat.le_of_ble_eq_true rfl) (ct_x11_party g179) (fun r180 I181 => ?_)
        refine s_icmp_eq (tgt := 1325) dL_law_561 rfl rfl (fun _ => ?_) (fun _ => ?_)
        · skip
          refine s_iincL 3 (c := 6) (fun v182 => [(3, .int v182), (0, .ref X.2.2.2.2.2.1), (1, .ref (X.1 + 0)), (2, .ref (X.1 + 102))]) dL_law_1325 rfl rfl cI_6 (by decide) (fun _ => rfl) (fun v182 => ?_)
          refine s_goto (tgt := 18) dL_law_1328 rfl ?_
          refine s_pick [1, 2, 3, 0] rfl ?_
          exact ih v182 I181 L175 R176 S177
        · skip
          refine s_iconst (v := 0) dL_law_564 rfl cI_0 ?_
          exact s_zret dL_law_565 rfl (Or.inl rfl) (fun f h => h)
      refine sm_ite (fun h183 => ?_) (fun h183 => ?_)
      · skip
        refine s_tin (tgt := 566) dL_law_33 (by rw [h183]; try decide) (by rw [h183]; try decide) (by rw [h183]; try rfl) rfl ?_
        refine s_aload_n 1 dL_law_566 rfl rfl ?_
        refine sm_ck (fun g184 => ?_)
        refine s_callV0_i3 dL_law_567 rfl lkV_RL_66 (S_0 g184) (Nat.le_of_ble_eq_true rfl) (Nat.le_of_ble_eq_true rfl) (Nat.le_of_ble_eq_true rfl) ct_x10_undo (fun r185 I186 L187 R188 S189 => ?_)
        refine s_aload_n 2 dL_law_570 rfl rfl ?_
        refine sm_ck (fun g190 => ?_)
        refine s_callV0_i1 dL_law_571 rfl lkV_RL_70 (S_102 g190) (Nat.le_of_ble_eq_true rfl) (Nat.le_of_ble_eq_true rfl) (Nat.le_of_ble_eq_true rfl) (ct_x11_undo g190) (fun r191 I192 => ?_)
        refine s_icmp_eq (tgt := 1325) dL_law_574 rfl rfl (fun _ => ?_) (fun _ => ?_)
        · skip
          refine s_iincL 3 (c := 6) (fun v193 => [(3, .int v193), (0, .ref X.2.2.2.2.2.1), (1, .ref (X.1 + 0)), (2, .ref (X.1 + 102))]) dL_law_1325 rfl rfl cI_6 (by decide) (fun _ => rfl) (fun v193 => ?_)
          refine s_goto (tgt := 18) dL_law_1328 rfl ?_
          refine s_pick [1, 2, 3, 0] rfl ?_
          exact ih v193 I192 L187 R188 S189
        · skip
          refine s_iconst (v := 0) dL_law_577 rfl cI_0 ?_
          exact s_zret dL_law_578 rfl (Or.inl rfl) (fun f h => h)
      refine sm_ite (fun h194 => ?_) (fun h194 => ?_)
      · skip
        refine s_tin (tgt := 579) dL_law_33 (by rw [h194]; try decide) (by rw [h194]; try decide) (by rw [h194]; try rfl) rfl ?_
        refine s_aload_n 1 dL_law_579 rfl rfl ?_
        refine sm_ck (fun g195 => ?_)
        refine s_callV0_i3 dL_law_580 rfl lkV_RL_71 (S_0 g195) (Nat.le_of_ble_eq_true rfl) (Nat.le_of_ble_eq_true rfl) (Nat.le_of_ble_eq_true rfl) ct_x10_redo (fun r196 I197 L198 R199 S200 => ?_)
        refine s_aload_n 2 dL_law_583 rfl rfl ?_
        refine sm_ck (fun g201 => ?_)
        refine s_callV0_i1 dL_law_584 rfl lkV_RL_74 (S_102 g201) (Nat.le_of_ble_eq_true rfl) (Nat.le_of_ble_eq_true rfl) (Nat.le_of_ble_eq_true rfl) (ct_x11_redo g201) (fun r202 I203 => ?_)
        refine s_icmp_eq (tgt := 1325) dL_law_587 rfl rfl (fun _ => ?_) (fun _ => ?_)
        · skip
          refine s_iincL 3 (c := 6) (fun v204 => [(3, .int v204), (0, .ref X.2.2.2.2.2.1), (1, .ref (X.1 + 0)), (2, .ref (X.1 + 102))]) dL_law_1325 rfl rfl cI_6 (by decide) (fun _ => rfl) (fun v204 => ?_)
          refine s_goto (tgt := 18) dL_law_1328 rfl ?_
          refine s_pick [1, 2, 3, 0] rfl ?_
          exact ih v204 I203 L198 R199 S200
        · skip
          refine s_iconst (v := 0) dL_law_590 rfl cI_0 ?_
          exact s_zret dL_law_591 rfl (Or.inl rfl) (fun f h => h)
      refine sm_ite (fun h205 => ?_) (fun h205 => ?_)
      · skip
        refine s_tin (tgt := 592) dL_law_33 (by rw [h205]; try decide) (by rw [h205]; try decide) (by rw [h205]; try rfl) rfl ?_
        refine s_aload_n 1 dL_law_592 rfl rfl ?_
        refine s_aload_n 0 dL_law_593 rfl rfl ?_
        refine s_iload_n 3 dL_law_594 rfl rfl ?_
        refine s_iconst (v := 1) dL_law_595 rfl cI_1 ?_
        refine s_iadd dL_law_596 rfl ?_
        refine sm_ck (fun g206 => ?_)
        refine s_sld dL_law_597 rfl g206 ?_
        refine s_aload_n 0 dL_law_598 rfl rfl ?_
        refine s_iload_n 3 dL_law_599 rfl rfl ?_
        refine s_iconst (v := 2) dL_law_600 rfl cI_2 ?_
        refine s_iadd dL_law_601 rfl ?_
        refine sm_ck (fun g207 => ?_)
        refine s_sld dL_law_602 rfl g207 ?_
        refine s_aload_n 0 dL_law_603 rfl rfl ?_
        refine s_iload_n 3 dL_law_604 rfl rfl ?_
        refine s_iconst (v := 3) dL_law_605 rfl cI_3 ?_
        refine s_iadd dL_law_606 rfl ?_
        refine sm_ck (fun g208 => ?_)
        refine s_sld dL_law_607 rfl g208 ?_
        refine sm_ck (fun g209 => ?_)
        refine s_callV3_i3 dL_law_608 rfl lkV_RL_75 (S_0 g209) (Nat.le_of_ble_eq_true rfl) (Nat.le_of_ble_eq_true rfl) (Nat.le_of_ble_eq_true rfl) ct_x10_best (fun r210 I211 L212 R213 S214 => ?_)
        refine s_aload_n 2 dL_law_611 rfl rfl ?_
        refine s_aload_n 0 dL_law_612 rfl rfl ?_
        refine s_iload_n 3 dL_law_613 rfl rfl ?_
        refine s_iconst (v := 1) dL_law_614 rfl cI_1 ?_
        refine s_iadd dL_law_615 rfl ?_
        refine sm_ck (fun g215 => ?_)
        refine s_sld dL_law_616 rfl g215 ?_
        refine s_aload_n 0 dL_law_617 rfl rfl ?_
        refine s_iload_n 3 dL_law_618 rfl rfl ?_
        refine s_iconst (v := 2) dL_law_619 rfl cI_2 ?_
        refine s_iadd dL_law_620 rfl ?_
        refine sm_ck (fun g216 => ?_)
        refine s_sld dL_law_621 rfl g216 ?_
        refine s_aload_n 0 dL_law_622 rfl rfl ?_
        refine s_iload_n 3 dL_law_623 rfl rfl ?_
        refine s_iconst (v := 3) dL_law_624 rfl cI_3 ?_
        refine s_iadd dL_law_625 rfl ?_
        refine sm_ck (fun g217 => ?_)
        refine s_sld dL_law_626 rfl g217 ?_
        refine sm_ck (fun g218 => ?_)
        refine s_callV3_i1 dL_law_627 rfl lkV_RL_78 (S_102 g218) (Nat.le_of_ble_eq_true rfl) (Nat.le_of_ble_eq_true rfl) (Nat.le_of_ble_eq_true rfl) (ct_x11_best g218) (fun r219 I220 => ?_)
        refine s_icmp_eq (tgt := 1325) dL_law_630 rfl rfl (fun _ => ?_) (fun _ => ?_)
        · skip
          refine s_iincL 3 (c := 6) (fun v221 => [(3, .int v221), (0, .ref X.2.2.2.2.2.1), (1, .ref (X.1 + 0)), (2, .ref (X.1 + 102))]) dL_law_1325 rfl rfl cI_6 (by decide) (fun _ => rfl) (fun v221 => ?_)
          refine s_goto (tgt := 18) dL_law_1328 rfl ?_
          refine s_pick [1, 2, 3, 0] rfl ?_
          exact ih v221 I220 L212 R213 S214
        · skip
          refine s_iconst (v := 0) dL_law_633 rfl cI_0 ?_
          exact s_zret dL_law_634 rfl (Or.inl rfl) (fun f h => h)
      refine sm_ite (fun h222 => ?_) (fun h222 => ?_)
      · skip
        refine s_tin (tgt := 635) dL_law_33 (by rw [h222]; try decide) (by rw [h222]; try decide) (by rw [h222]; try rfl) rfl ?_
        refine s_aload_n 1 dL_law_635 rfl rfl ?_
        refine s_aload_n 0 dL_law_636 rfl rfl ?_
        refine s_iload_n 3 dL_law_637 rfl rfl ?_
        refine s_iconst (v := 1) dL_law_638 rfl cI_1 ?_
        refine s_iadd dL_law_639 rfl ?_
        refine sm_ck (fun g223 => ?_)
        refine s_sld dL_law_640 rfl g223 ?_
        refine s_aload_n 0 dL_law_641 rfl rfl ?_
        refine s_iload_n 3 dL_law_642 rfl rfl ?_
        refine s_iconst (v := 2) dL_law_643 rfl cI_2 ?_
        refine s_iadd dL_law_644 rfl ?_
        refine sm_ck (fun g224 => ?_)
        refine s_sld dL_law_645 rfl g224 ?_
        refine sm_ck (fun g227 => ?_)
        refine sm_b1 (fun t_225 h226 => ?_)
        refine sm_ck (fun g228 => ?_)
        refine s_callV2_i1 dL_law_646 rfl lkV_RL_79 (S_0 g227) (Nat.le_of_ble_eq_true rfl) (Nat.le_of_ble_eq_true rfl) (Nat.le_of_ble_eq_true rfl) (ct_x10_match g227 (⟨h226, g228⟩)) (fun r229 I230 => ?_)
        refine s_aload_n 2 dL_law_649 rfl rfl ?_
        refine s_aload_n 0 dL_law_650 rfl rfl ?_
        refine s_iload_n 3 dL_law_651 rfl rfl ?_
        refine s_iconst (v := 1) dL_law_652 rfl cI_1 ?_
        refine s_iadd dL_law_653 rfl ?_
        refine sm_ck (fun g231 => ?_)
        refine s_sld dL_law_654 rfl g231 ?_
        refine s_aload_n 0 dL_law_655 rfl rfl ?_
        refine s_iload_n 3 dL_law_656 rfl rfl ?_
        refine s_iconst (v := 2) dL_law_657 rfl cI_2 ?_
        refine s_iadd dL_law_658 rfl ?_
        refine sm_ck (fun g232 => ?_)
        refine s_sld dL_law_659 rfl g232 ?_
        refine sm_ck (fun g233 => ?_)
        refine s_callV2_i1 dL_law_660 rfl lkV_RL_82 (S_102 g233) (Nat.le_of_ble_eq_true rfl) (Nat.le_of_ble_eq_true rfl) (Nat.le_of_ble_eq_true rfl) (ct_x11_match g233) (fun r234 I235 => ?_)
        refine s_icmp_eq (tgt := 1325) dL_law_663 rfl rfl (fun _ => ?_) (fun _ => ?_)
        · skip
          refine s_iincL 3 (c := 6) (fun v236 => [(3, .int v236), (0, .ref X.2.2.2.2.2.1), (1, .ref (X.1 + 0)), (2, .ref (X.1 + 102))]) dL_law_1325 rfl rfl cI_6 (by decide) (fun _ => rfl) (fun v236 => ?_)
          refine s_goto (tgt := 18) dL_law_1328 rfl ?_
          refine s_pick [1, 2, 3, 0] rfl ?_
          exact ih v236 I235 L R S
        · skip
          refine s_iconst (v := 0) dL_law_666 rfl cI_0 ?_
          exact s_zret dL_law_667 rfl (Or.inl rfl) (fun f h => h)
      refine sm_ite (fun h237 => ?_) (fun h237 => ?_)
      · skip
        refine s_tin (tgt := 668) dL_law_33 (by rw [h237]; try decide) (by rw [h237]; try decide) (by rw [h237]; try rfl) rfl ?_
        refine s_aload_n 1 dL_law_668 rfl rfl ?_
        refine s_aload_n 0 dL_law_669 rfl rfl ?_
        refine s_iload_n 3 dL_law_670 rfl rfl ?_
        refine s_iconst (v := 1) dL_law_671 rfl cI_1 ?_
        refine s_iadd dL_law_672 rfl ?_
        refine sm_ck (fun g238 => ?_)
        refine s_sld dL_law_673 rfl g238 ?_
        refine sm_ck (fun g241 => ?_)
        refine sm_b1 (fun t_239 h240 => ?_)
        refine sm_ck (fun g242 => ?_)
        refine s_callV1_i1 dL_law_674 rfl lkV_RL_83 (S_0 g241) (Nat.le_of_ble_eq_true rfl) (Nat.le_of_ble_eq_true rfl) (Nat.le_of_ble_eq_true rfl) (ct_x10_reply g241 (⟨h240, g242⟩)) (fun r243 I244 => ?_)
        refine s_aload_n 2 dL_law_677 rfl rfl ?_
        refine s_aload_n 0 dL_law_678 rfl rfl ?_
        refine s_iload_n 3 dL_law_679 rfl rfl ?_
        refine s_iconst (v := 1) dL_law_680 rfl cI_1 ?_
        refine s_iadd dL_law_681 rfl ?_
        refine sm_ck (fun g245 => ?_)
        refine s_sld dL_law_682 rfl g245 ?_
        refine sm_ck (fun g246 => ?_)
        refine s_callV1_i1 dL_law_683 rfl lkV_RL_86 (S_102 g246) (Nat.le_of_ble_eq_true rfl) (Nat.le_of_ble_eq_true rfl) (Nat.le_of_ble_eq_true rfl) (ct_x11_reply g246) (fun r247 I248 => ?_)
        refine s_icmp_eq (tgt := 1325) dL_law_686 rfl rfl (fun _ => ?_) (fun _ => ?_)
        · skip
          refine s_iincL 3 (c := 6) (fun v249 => [(3, .int v249), (0, .ref X.2.2.2.2.2.1), (1, .ref (X.1 + 0)), (2, .ref (X.1 + 102))]) dL_law_1325 rfl rfl cI_6 (by decide) (fun _ => rfl) (fun v249 => ?_)
          refine s_goto (tgt := 18) dL_law_1328 rfl ?_
          refine s_pick [1, 2, 3, 0] rfl ?_
          exact ih v249 I248 L R S
        · skip
          refine s_iconst (v := 0) dL_law_689 rfl cI_0 ?_
          exact s_zret dL_law_690 rfl (Or.inl rfl) (fun f h => h)
      refine sm_ite (fun h250 => ?_) (fun h250 => ?_)
      · skip
        refine s_tin (tgt := 691) dL_law_33 (by rw [h250]; try decide) (by rw [h250]; try decide) (by rw [h250]; try rfl) rfl ?_
        refine s_aload_n 1 dL_law_691 rfl rfl ?_
        refine sm_ck (fun g253 => ?_)
        refine sm_b1 (fun t_251 h252 => ?_)
        refine sm_ck (fun g254 => ?_)
        refine s_callV0_i1 dL_law_692 rfl lkV_RL_87 (S_0 g253) (Nat.le_of_ble_eq_true rfl) (Nat.le_of_ble_eq_true rfl) (Nat.le_of_ble_eq_true rfl) (ct_x10_rests g253 (⟨h252, g254⟩)) (fun r255 I256 => ?_)
        refine s_aload_n 2 dL_law_695 rfl rfl ?_
        refine sm_ck (fun g257 => ?_)
        refine s_callV0_i1 dL_law_696 rfl lkV_RL_90 (S_102 g257) (Nat.le_of_ble_eq_true rfl) (Nat.le_of_ble_eq_true rfl) (Nat.le_of_ble_eq_true rfl) (ct_x11_rests g257) (fun r258 I259 => ?_)
        refine s_icmp_eq (tgt := 1325) dL_law_699 rfl rfl (fun _ => ?_) (fun _ => ?_)
        · skip
          refine s_iincL 3 (c := 6) (fun v260 => [(3, .int v260), (0, .ref X.2.2.2.2.2.1), (1, .ref (X.1 + 0)), (2, .ref (X.1 + 102))]) dL_law_1325 rfl rfl cI_6 (by decide) (fun _ => rfl) (fun v260 => ?_)
          refine s_goto (tgt := 18) dL_law_1328 rfl ?_
          refine s_pick [1, 2, 3, 0] rfl ?_
          exact ih v260 I259 L R S
        · skip
          refine s_iconst (v := 0) dL_law_702 rfl cI_0 ?_
          exact s_zret dL_law_703 rfl (Or.inl rfl) (fun f h => h)
      refine sm_ite (fun h261 => ?_) (fun h261 => ?_)
      · skip
        refine s_tin (tgt := 704) dL_law_33 (by rw [h261]; try decide) (by rw [h261]; try decide) (by rw [h261]; try rfl) rfl ?_
        refine s_aload_n 1 dL_law_704 rfl rfl ?_
        refine s_aload_n 0 dL_law_705 rfl rfl ?_
        refine s_iload_n 3 dL_law_706 rfl rfl ?_
        refine s_iconst (v := 1) dL_law_707 rfl cI_1 ?_
        refine s_iadd dL_law_708 rfl ?_
        refine sm_ck (fun g262 => ?_)
        refine s_sld dL_law_709 rfl g262 ?_
        refine s_aload_n 0 dL_law_710 rfl rfl ?_
        refine s_iload_n 3 dL_law_711 rfl rfl ?_
        refine s_iconst (v := 2) dL_law_712 rfl cI_2 ?_
        refine s_iadd dL_law_713 rfl ?_
        refine sm_ck (fun g263 => ?_)
        refine s_sld dL_law_714 rfl g263 ?_
        refine s_aload_n 0 dL_law_715 rfl rfl ?_
        refine s_iload_n 3 dL_law_716 rfl rfl ?_
        refine s_iconst (v := 3) dL_law_717 rfl cI_3 ?_
        refine s_iadd dL_law_718 rfl ?_
        refine sm_ck (fun g264 => ?_)
        refine s_sld dL_law_719 rfl g264 ?_
        refine sm_ck (fun g267 => ?_)
        refine sm_b1 (fun t_265 h266 => ?_)
        refine sm_ck (fun g268 => ?_)
        refine s_callV3_i0 dL_law_720 rfl lkV_RL_91 (S_0 g267) (Nat.le_of_ble_eq_true rfl) (Nat.le_of_ble_eq_true rfl) (Nat.le_of_ble_eq_true rfl) (ct_x10_record g267 (⟨h266, g268⟩)) (fun r269 => ?_)
        refine s_aload_n 2 dL_law_723 rfl rfl ?_
        refine s_aload_n 0 dL_law_724 rfl rfl ?_
        refine s_iload_n 3 dL_law_725 rfl rfl ?_
        refine s_iconst (v := 1) dL_law_726 rfl cI_1 ?_
        refine s_iadd dL_law_727 rfl ?_
        refine sm_ck (fun g270 => ?_)
        refine s_sld dL_law_728 rfl g270 ?_
        refine s_aload_n 0 dL_law_729 rfl rfl ?_
        refine s_iload_n 3 dL_law_730 rfl rfl ?_
        refine s_iconst (v := 2) dL_law_731 rfl cI_2 ?_
        refine s_iadd dL_law_732 rfl ?_
        refine sm_ck (fun g271 => ?_)
        refine s_sld dL_law_733 rfl g271 ?_
        refine s_aload_n 0 dL_law_734 rfl rfl ?_
        refine s_iload_n 3 dL_law_735 rfl rfl ?_
        refine s_iconst (v := 3) dL_law_736 rfl cI_3 ?_
        refine s_iadd dL_law_737 rfl ?_
        refine sm_ck (fun g272 => ?_)
        refine s_sld dL_law_738 rfl g272 ?_
        refine sm_ck (fun g273 => ?_)
        refine s_callV3_i0 dL_law_739 rfl lkV_RL_94 (S_102 g273) (Nat.le_of_ble_eq_true rfl) (Nat.le_of_ble_eq_true rfl) (Nat.le_of_ble_eq_true rfl) (ct_x11_record g273) (fun r274 => ?_)
        refine s_icmp_eq (tgt := 1325) dL_law_742 rfl rfl (fun _ => ?_) (fun _ => ?_)
        · skip
          refine s_iincL 3 (c := 6) (fun v275 => [(3, .int v275), (0, .ref X.2.2.2.2.2.1), (1, .ref (X.1 + 0)), (2, .ref (X.1 + 102))]) dL_law_1325 rfl rfl cI_6 (by decide) (fun _ => rfl) (fun v275 => ?_)
          refine s_goto (tgt := 18) dL_law_1328 rfl ?_
          refine s_pick [1, 2, 3, 0] rfl ?_
          exact ih v275 I L R S
        · skip
          refine s_iconst (v := 0) dL_law_745 rfl cI_0 ?_
          exact s_zret dL_law_746 rfl (Or.inl rfl) (fun f h => h)
      refine sm_ite (fun h276 => ?_) (fun h276 => ?_)
      · skip
        refine s_tin (tgt := 747) dL_law_33 (by rw [h276]; try decide) (by rw [h276]; try decide) (by rw [h276]; try rfl) rfl ?_
        refine s_aload_n 1 dL_law_747 rfl rfl ?_
        refine s_aload_n 0 dL_law_748 rfl rfl ?_
        refine s_iload_n 3 dL_law_749 rfl rfl ?_
        refine s_iconst (v := 1) dL_law_750 rfl cI_1 ?_
        refine s_iadd dL_law_751 rfl ?_
        refine sm_ck (fun g277 => ?_)
        refine s_sld dL_law_752 rfl g277 ?_
        refine s_aload_n 0 dL_law_753 rfl rfl ?_
        refine s_iload_n 3 dL_law_754 rfl rfl ?_
        refine s_iconst (v := 2) dL_law_755 rfl cI_2 ?_
        refine s_iadd dL_law_756 rfl ?_
        refine sm_ck (fun g278 => ?_)
        refine s_sld dL_law_757 rfl g278 ?_
        refine sm_ck (fun g281 => ?_)
        refine sm_b1 (fun t_279 h280 => ?_)
        refine sm_ck (fun g282 => ?_)
        refine s_callV2_i1 dL_law_758 rfl lkV_RL_95 (S_0 g281) (Nat.le_of_ble_eq_true rfl) (Nat.le_of_ble_eq_true rfl) (Nat.le_of_ble_eq_true rfl) (ct_x10_easier g281 (⟨h280, g282⟩)) (fun r283 I284 => ?_)
        refine s_aload_n 2 dL_law_761 rfl rfl ?_
        refine s_aload_n 0 dL_law_762 rfl rfl ?_
        refine s_iload_n 3 dL_law_763 rfl rfl ?_
        refine s_iconst (v := 1) dL_law_764 rfl cI_1 ?_
        refine s_iadd dL_law_765 rfl ?_
        refine sm_ck (fun g285 => ?_)
        refine s_sld dL_law_766 rfl g285 ?_
        refine s_aload_n 0 dL_law_767 rfl rfl ?_
        refine s_iload_n 3 dL_law_768 rfl rfl ?_
        refine s_iconst (v := 2) dL_law_769 rfl cI_2 ?_
        refine s_iadd dL_law_770 rfl ?_
        refine sm_ck (fun g286 => ?_)
        refine s_sld dL_law_771 rfl g286 ?_
        refine sm_ck (fun g287 => ?_)
        refine s_callV2_i1 dL_law_772 rfl lkV_RL_98 (S_102 g287) (Nat.le_of_ble_eq_true rfl) (Nat.le_of_ble_eq_true rfl) (Nat.le_of_ble_eq_true rfl) (ct_x11_easier g287) (fun r288 I289 => ?_)
        refine s_icmp_eq (tgt := 1325) dL_law_775 rfl rfl (fun _ => ?_) (fun _ => ?_)
        · skip
          refine s_iincL 3 (c := 6) (fun v290 => [(3, .int v290), (0, .ref X.2.2.2.2.2.1), (1, .ref (X.1 + 0)), (2, .ref (X.1 + 102))]) dL_law_1325 rfl rfl cI_6 (by decide) (fun _ => rfl) (fun v290 => ?_)
          refine s_goto (tgt := 18) dL_law_1328 rfl ?_
          refine s_pick [1, 2, 3, 0] rfl ?_
          exact ih v290 I289 L R S
        · skip
          refine s_iconst (v := 0) dL_law_778 rfl cI_0 ?_
          exact s_zret dL_law_779 rfl (Or.inl rfl) (fun f h => h)
      refine sm_ite (fun h291 => ?_) (fun h291 => ?_)
      · skip
        refine s_tin (tgt := 780) dL_law_33 (by rw [h291]; try decide) (by rw [h291]; try decide) (by rw [h291]; try rfl) rfl ?_
        refine s_aload_n 1 dL_law_780 rfl rfl ?_
        refine s_aload_n 0 dL_law_781 rfl rfl ?_
        refine s_iload_n 3 dL_law_782 rfl rfl ?_
        refine s_iconst (v := 1) dL_law_783 rfl cI_1 ?_
        refine s_iadd dL_law_784 rfl ?_
        refine sm_ck (fun g292 => ?_)
        refine s_sld dL_law_785 rfl g292 ?_
        refine s_aload_n 0 dL_law_786 rfl rfl ?_
        refine s_iload_n 3 dL_law_787 rfl rfl ?_
        refine s_iconst (v := 2) dL_law_788 rfl cI_2 ?_
        refine s_iadd dL_law_789 rfl ?_
        refine sm_ck (fun g293 => ?_)
        refine s_sld dL_law_790 rfl g293 ?_
        refine s_aload_n 0 dL_law_791 rfl rfl ?_
        refine s_iload_n 3 dL_law_792 rfl rfl ?_
        refine s_iconst (v := 3) dL_law_793 rfl cI_3 ?_
        refine s_iadd dL_law_794 rfl ?_
        refine sm_ck (fun g294 => ?_)
        refine s_sld dL_law_795 rfl g294 ?_
        refine sm_ck (fun g297 => ?_)
        refine sm_b1 (fun t_295 h296 => ?_)
        refine sm_ck (fun g298 => ?_)
        refine s_callV3_i1 dL_law_796 rfl lkV_RL_99 (S_0 g297) (Nat.le_of_ble_eq_true rfl) (Nat.le_of_ble_eq_true rfl) (Nat.le_of_ble_eq_true rfl) (ct_x10_seat g297 (⟨h296, g298⟩)) (fun r299 I300 => ?_)
        refine s_aload_n 2 dL_law_799 rfl rfl ?_
        refine s_aload_n 0 dL_law_800 rfl rfl ?_
        refine s_iload_n 3 dL_law_801 rfl rfl ?_
        refine s_iconst (v := 1) dL_law_802 rfl cI_1 ?_
        refine s_iadd dL_law_803 rfl ?_
        refine sm_ck (fun g301 => ?_)
        refine s_sld dL_law_804 rfl g301 ?_
        refine s_aload_n 0 dL_law_805 rfl rfl ?_
        refine s_iload_n 3 dL_law_806 rfl rfl ?_
        refine s_iconst (v := 2) dL_law_807 rfl cI_2 ?_
        refine s_iadd dL_law_808 rfl ?_
        refine sm_ck (fun g302 => ?_)
        refine s_sld dL_law_809 rfl g302 ?_
        refine s_aload_n 0 dL_law_810 rfl rfl ?_
        refine s_iload_n 3 dL_law_811 rfl rfl ?_
        refine s_iconst (v := 3) dL_law_812 rfl cI_3 ?_
        refine s_iadd dL_law_813 rfl ?_
        refine sm_ck (fun g303 => ?_)
        refine s_sld dL_law_814 rfl g303 ?_
        refine sm_ck (fun g304 => ?_)
        refine s_callV3_i1 dL_law_815 rfl lkV_RL_102 (S_102 g304) (Nat.le_of_ble_eq_true rfl) (Nat.le_of_ble_eq_true rfl) (Nat.le_of_ble_eq_true rfl) (ct_x11_seat g304) (fun r305 I306 => ?_)
        refine s_icmp_eq (tgt := 1325) dL_law_818 rfl rfl (fun _ => ?_) (fun _ => ?_)
        · skip
          refine s_iincL 3 (c := 6) (fun v307 => [(3, .int v307), (0, .ref X.2.2.2.2.2.1), (1, .ref (X.1 + 0)), (2, .ref (X.1 + 102))]) dL_law_1325 rfl rfl cI_6 (by decide) (fun _ => rfl) (fun v307 => ?_)
          refine s_goto (tgt := 18) dL_law_1328 rfl ?_
          refine s_pick [1, 2, 3, 0] rfl ?_
          exact ih v307 I306 L R S
        · skip
          refine s_iconst (v := 0) dL_law_821 rfl cI_0 ?_
          exact s_zret dL_law_822 rfl (Or.inl rfl) (fun f h => h)
      refine sm_ite (fun h308 => ?_) (fun h308 => ?_)
      · skip
        refine s_tin (tgt := 823) dL_law_33 (by rw [h308]; try decide) (by rw [h308]; try decide) (by rw [h308]; try rfl) rfl ?_
        refine s_aload_n 1 dL_law_823 rfl rfl ?_
        refine s_aload_n 0 dL_law_824 rfl rfl ?_
        refine s_iload_n 3 dL_law_825 rfl rfl ?_
        refine s_iconst (v := 1) dL_law_826 rfl cI_1 ?_
        refine s_iadd dL_law_827 rfl ?_
        refine sm_ck (fun g309 => ?_)
        refine s_sld dL_law_828 rfl g309 ?_
        refine sm_ck (fun g312 => ?_)
        refine sm_b1 (fun t_310 h311 => ?_)
        refine sm_ck (fun g313 => ?_)
        refine s_callV1_i1 dL_law_829 rfl lkV_RL_103 (S_0 g312) (Nat.le_of_ble_eq_true rfl) (Nat.le_of_ble_eq_true rfl) (Nat.le_of_ble_eq_true rfl) (ct_x10_order g312 (⟨h311, g313⟩)) (fun r314 I315 => ?_)
        refine s_aload_n 2 dL_law_832 rfl rfl ?_
        refine s_aload_n 0 dL_law_833 rfl rfl ?_
        refine s_iload_n 3 dL_law_834 rfl rfl ?_
        refine s_iconst (v := 1) dL_law_835 rfl cI_1 ?_
        refine s_iadd dL_law_836 rfl ?_
        refine sm_ck (fun g316 => ?_)
        refine s_sld dL_law_837 rfl g316 ?_
        refine sm_ck (fun g317 => ?_)
        refine s_callV1_i1 dL_law_838 rfl lkV_RL_106 (S_102 g317) (Nat.le_of_ble_eq_true rfl) (Nat.le_of_ble_eq_true rfl) (Nat.le_of_ble_eq_true rfl) (ct_x11_order g317) (fun r318 I319 => ?_)
        refine s_icmp_eq (tgt := 1325) dL_law_841 rfl rfl (fun _ => ?_) (fun _ => ?_)
        · skip
          refine s_iincL 3 (c := 6) (fun v320 => [(3, .int v320), (0, .ref X.2.2.2.2.2.1), (1, .ref (X.1 + 0)), (2, .ref (X.1 + 102))]) dL_law_1325 rfl rfl cI_6 (by decide) (fun _ => rfl) (fun v320 => ?_)
          refine s_goto (tgt := 18) dL_law_1328 rfl ?_
          refine s_pick [1, 2, 3, 0] rfl ?_
          exact ih v320 I319 L R S
        · skip
          refine s_iconst (v := 0) dL_law_844 rfl cI_0 ?_
          exact s_zret dL_law_845 rfl (Or.inl rfl) (fun f h => h)
      refine sm_ite (fun h321 => ?_) (fun h321 => ?_)
      · skip
        refine s_tin (tgt := 846) dL_law_33 (by rw [h321]; try decide) (by rw [h321]; try decide) (by rw [h321]; try rfl) rfl ?_
        refine s_aload_n 1 dL_law_846 rfl rfl ?_
        refine s_aload_n 0 dL_law_847 rfl rfl ?_
        refine s_iload_n 3 dL_law_848 rfl rfl ?_
        refine s_iconst (v := 1) dL_law_849 rfl cI_1 ?_
        refine s_iadd dL_law_850 rfl ?_
        refine sm_ck (fun g322 => ?_)
        refine s_sld dL_law_851 rfl g322 ?_
        refine s_aload_n 0 dL_law_852 rfl rfl ?_
        refine s_iload_n 3 dL_law_853 rfl rfl ?_
        refine s_iconst (v := 2) dL_law_854 rfl cI_2 ?_
        refine s_iadd dL_law_855 rfl ?_
        refine sm_ck (fun g323 => ?_)
        refine s_sld dL_law_856 rfl g323 ?_
        refine s_aload_n 0 dL_law_857 rfl rfl ?_
        refine s_iload_n 3 dL_law_858 rfl rfl ?_
        refine s_iconst (v := 3) dL_law_859 rfl cI_3 ?_
        refine s_iadd dL_law_860 rfl ?_
        refine sm_ck (fun g324 => ?_)
        refine s_sld dL_law_861 rfl g324 ?_
        refine sm_ck (fun g325 => ?_)
        refine s_callV3_i3 dL_law_862 rfl lkV_RL_107 (S_0 g325) (Nat.le_of_ble_eq_true rfl) (Nat.le_of_ble_eq_true rfl) (Nat.le_of_ble_eq_true rfl) ct_x10_drives (fun r326 I327 L328 R329 S330 => ?_)
        refine s_aload_n 2 dL_law_865 rfl rfl ?_
        refine s_aload_n 0 dL_law_866 rfl rfl ?_
        refine s_iload_n 3 dL_law_867 rfl rfl ?_
        refine s_iconst (v := 1) dL_law_868 rfl cI_1 ?_
        refine s_iadd dL_law_869 rfl ?_
        refine sm_ck (fun g331 => ?_)
        refine s_sld dL_law_870 rfl g331 ?_
        refine s_aload_n 0 dL_law_871 rfl rfl ?_
        refine s_iload_n 3 dL_law_872 rfl rfl ?_
        refine s_iconst (v := 2) dL_law_873 rfl cI_2 ?_
        refine s_iadd dL_law_874 rfl ?_
        refine sm_ck (fun g332 => ?_)
        refine s_sld dL_law_875 rfl g332 ?_
        refine s_aload_n 0 dL_law_876 rfl rfl ?_
        refine s_iload_n 3 dL_law_877 rfl rfl ?_
        refine s_iconst (v := 3) dL_law_878 rfl cI_3 ?_
        refine s_iadd dL_law_879 rfl ?_
        refine sm_ck (fun g333 => ?_)
        refine s_sld dL_law_880 rfl g333 ?_
        refine sm_ck (fun g334 => ?_)
        refine s_callV3_i1 dL_law_881 rfl lkV_RL_110 (S_102 g334) (Nat.le_of_ble_eq_true rfl) (Nat.le_of_ble_eq_true rfl) (Nat.le_of_ble_eq_true rfl) (ct_x11_drives g334) (fun r335 I336 => ?_)
        refine s_icmp_eq (tgt := 1325) dL_law_884 rfl rfl (fun _ => ?_) (fun _ => ?_)
        · skip
          refine s_iincL 3 (c := 6) (fun v337 => [(3, .int v337), (0, .ref X.2.2.2.2.2.1), (1, .ref (X.1 + 0)), (2, .ref (X.1 + 102))]) dL_law_1325 rfl rfl cI_6 (by decide) (fun _ => rfl) (fun v337 => ?_)
          refine s_goto (tgt := 18) dL_law_1328 rfl ?_
          refine s_pick [1, 2, 3, 0] rfl ?_
          exact ih v337 I336 L328 R329 S330
        · skip
          refine s_iconst (v := 0) dL_law_887 rfl cI_0 ?_
          exact s_zret dL_law_888 rfl (Or.inl rfl) (fun f h => h)
      refine sm_ite (fun h338 => ?_) (fun h338 => ?_)
      · skip
        refine s_tin (tgt := 889) dL_law_33 (by rw [h338]; try decide) (by rw [h338]; try decide) (by rw [h338]; try rfl) rfl ?_
        refine s_aload_n 1 dL_law_889 rfl rfl ?_
        refine s_aload_n 0 dL_law_890 rfl rfl ?_
        refine s_iload_n 3 dL_law_891 rfl rfl ?_
        refine s_iconst (v := 1) dL_law_892 rfl cI_1 ?_
        refine s_iadd dL_law_893 rfl ?_
        refine sm_ck (fun g339 => ?_)
        refine s_sld dL_law_894 rfl g339 ?_
        refine sm_ck (fun g342 => ?_)
        refine sm_b1 (fun t_340 h341 => ?_)
        refine sm_ck (fun g343 => ?_)
        refine s_callV1_i1 dL_law_895 rfl lkV_RL_111 (S_0 g342) (Nat.le_of_ble_eq_true rfl) (Nat.le_of_ble_eq_true rfl) (Nat.le_of_ble_eq_true rfl) (ct_x10_gone g342 (⟨h341, g343⟩)) (fun r344 I345 => ?_)
        refine s_aload_n 2 dL_law_898 rfl rfl ?_
        refine s_aload_n 0 dL_law_899 rfl rfl ?_
        refine s_iload_n 3 dL_law_900 rfl rfl ?_
        refine s_iconst (v := 1) dL_law_901 rfl cI_1 ?_
        refine s_iadd dL_law_902 rfl ?_
        refine sm_ck (fun g346 => ?_)
        refine s_sld dL_law_903 rfl g346 ?_
        refine sm_ck (fun g347 => ?_)
        refine s_callV1_i1 dL_law_904 rfl lkV_RL_114 (S_102 g347) (Nat.le_of_ble_eq_true rfl) (Nat.le_of_ble_eq_true rfl) (Nat.le_of_ble_eq_true rfl) (ct_x11_gone g347) (fun r348 I349 => ?_)
        refine s_icmp_eq (tgt := 1325) dL_law_907 rfl rfl (fun _ => ?_) (fun _ => ?_)
        · skip
          refine s_iincL 3 (c := 6) (fun v350 => [(3, .int v350), (0, .ref X.2.2.2.2.2.1), (1, .ref (X.1 + 0)), (2, .ref (X.1 + 102))]) dL_law_1325 rfl rfl cI_6 (by decide) (fun _ => rfl) (fun v350 => ?_)
          refine s_goto (tgt := 18) dL_law_1328 rfl ?_
          refine s_pick [1, 2, 3, 0] rfl ?_
          exact ih v350 I349 L R S
        · skip
          refine s_iconst (v := 0) dL_law_910 rfl cI_0 ?_
          exact s_zret dL_law_911 rfl (Or.inl rfl) (fun f h => h)
      refine sm_ite (fun h351 => ?_) (fun h351 => ?_)
      · skip
        refine s_tin (tgt := 912) dL_law_33 (by rw [h351]; try decide) (by rw [h351]; try decide) (by rw [h351]; try rfl) rfl ?_
        refine s_aload_n 1 dL_law_912 rfl rfl ?_
        refine s_aload_n 0 dL_law_913 rfl rfl ?_
        refine s_iload_n 3 dL_law_914 rfl rfl ?_
        refine s_iconst (v := 1) dL_law_915 rfl cI_1 ?_
        refine s_iadd dL_law_916 rfl ?_
        refine sm_ck (fun g352 => ?_)
        refine s_sld dL_law_917 rfl g352 ?_
        refine s_aload_n 0 dL_law_918 rfl rfl ?_
        refine s_iload_n 3 dL_law_919 rfl rfl ?_
        refine s_iconst (v := 2) dL_law_920 rfl cI_2 ?_
        refine s_iadd dL_law_921 rfl ?_
        refine sm_ck (fun g353 => ?_)
        refine s_sld dL_law_922 rfl g353 ?_
        refine sm_ck (fun g356 => ?_)
        refine sm_b1 (fun t_354 h355 => ?_)
        refine sm_ck (fun g357 => ?_)
        refine s_callV2_i1 dL_law_923 rfl lkV_RL_115 (S_0 g356) (Nat.le_of_ble_eq_true rfl) (Nat.le_of_ble_eq_true rfl) (Nat.le_of_ble_eq_true rfl) (ct_x10_provide g356 (⟨h355, g357⟩)) (fun r358 I359 => ?_)
        refine s_aload_n 2 dL_law_926 rfl rfl ?_
        refine s_aload_n 0 dL_law_927 rfl rfl ?_
        refine s_iload_n 3 dL_law_928 rfl rfl ?_
        refine s_iconst (v := 1) dL_law_929 rfl cI_1 ?_
        refine s_iadd dL_law_930 rfl ?_
        refine sm_ck (fun g360 => ?_)
        refine s_sld dL_law_931 rfl g360 ?_
        refine s_aload_n 0 dL_law_932 rfl rfl ?_
        refine s_iload_n 3 dL_law_933 rfl rfl ?_
        refine s_iconst (v := 2) dL_law_934 rfl cI_2 ?_
        refine s_iadd dL_law_935 rfl ?_
        refine sm_ck (fun g361 => ?_)
        refine s_sld dL_law_936 rfl g361 ?_
        refine sm_ck (fun g362 => ?_)
        refine s_callV2_i1 dL_law_937 rfl lkV_RL_118 (S_102 g362) (Nat.le_of_ble_eq_true rfl) (Nat.le_of_ble_eq_true rfl) (Nat.le_of_ble_eq_true rfl) (ct_x11_provide g362) (fun r363 I364 => ?_)
        refine s_icmp_eq (tgt := 1325) dL_law_940 rfl rfl (fun _ => ?_) (fun _ => ?_)
        · skip
          refine s_iincL 3 (c := 6) (fun v365 => [(3, .int v365), (0, .ref X.2.2.2.2.2.1), (1, .ref (X.1 + 0)), (2, .ref (X.1 + 102))]) dL_law_1325 rfl rfl cI_6 (by decide) (fun _ => rfl) (fun v365 => ?_)
          refine s_goto (tgt := 18) dL_law_1328 rfl ?_
          refine s_pick [1, 2, 3, 0] rfl ?_
          exact ih v365 I364 L R S
        · skip
          refine s_iconst (v := 0) dL_law_943 rfl cI_0 ?_
          exact s_zret dL_law_944 rfl (Or.inl rfl) (fun f h => h)
      refine sm_ite (fun h366 => ?_) (fun h366 => ?_)
      · skip
        refine s_tin (tgt := 945) dL_law_33 (by rw [h366]; try decide) (by rw [h366]; try decide) (by rw [h366]; try rfl) rfl ?_
        refine s_aload_n 1 dL_law_945 rfl rfl ?_
        refine s_aload_n 0 dL_law_946 rfl rfl ?_
        refine s_iload_n 3 dL_law_947 rfl rfl ?_
        refine s_iconst (v := 1) dL_law_948 rfl cI_1 ?_
        refine s_iadd dL_law_949 rfl ?_
        refine sm_ck (fun g367 => ?_)
        refine s_sld dL_law_950 rfl g367 ?_
        refine s_aload_n 0 dL_law_951 rfl rfl ?_
        refine s_iload_n 3 dL_law_952 rfl rfl ?_
        refine s_iconst (v := 2) dL_law_953 rfl cI_2 ?_
        refine s_iadd dL_law_954 rfl ?_
        refine sm_ck (fun g368 => ?_)
        refine s_sld dL_law_955 rfl g368 ?_
        refine sm_ck (fun g371 => ?_)
        refine sm_b1 (fun t_369 h370 => ?_)
        refine sm_ck (fun g372 => ?_)
        refine s_callV2_i1 dL_law_956 rfl lkV_RL_119 (S_0 g371) (Nat.le_of_ble_eq_true rfl) (Nat.le_of_ble_eq_true rfl) (Nat.le_of_ble_eq_true rfl) (ct_x10_nearest g371 (⟨h370, g372⟩)) (fun r373 I374 => ?_)
        refine s_aload_n 2 dL_law_959 rfl rfl ?_
        refine s_aload_n 0 dL_law_960 rfl rfl ?_
        refine s_iload_n 3 dL_law_961 rfl rfl ?_
        refine s_iconst (v := 1) dL_law_962 rfl cI_1 ?_
        refine s_iadd dL_law_963 rfl ?_
        refine sm_ck (fun g375 => ?_)
        refine s_sld dL_law_964 rfl g375 ?_
        refine s_aload_n 0 dL_law_965 rfl rfl ?_
        refine s_iload_n 3 dL_law_966 rfl rfl ?_
        refine s_iconst (v := 2) dL_law_967 rfl cI_2 ?_
        refine s_iadd dL_law_968 rfl ?_
        refine sm_ck (fun g376 => ?_)
        refine s_sld dL_law_969 rfl g376 ?_
        refine sm_ck (fun g377 => ?_)
        refine s_callV2_i1 dL_law_970 rfl lkV_RL_122 (S_102 g377) (Nat.le_of_ble_eq_true rfl) (Nat.le_of_ble_eq_true rfl) (Nat.le_of_ble_eq_true rfl) (ct_x11_nearest g377) (fun r378 I379 => ?_)
        refine s_icmp_eq (tgt := 1325) dL_law_973 rfl rfl (fun _ => ?_) (fun _ => ?_)
        · skip
          refine s_iincL 3 (c := 6) (fun v380 => [(3, .int v380), (0, .ref X.2.2.2.2.2.1), (1, .ref (X.1 + 0)), (2, .ref (X.1 + 102))]) dL_law_1325 rfl rfl cI_6 (by decide) (fun _ => rfl) (fun v380 => ?_)
          refine s_goto (tgt := 18) dL_law_1328 rfl ?_
          refine s_pick [1, 2, 3, 0] rfl ?_
          exact ih v380 I379 L R S
        · skip
          refine s_iconst (v := 0) dL_law_976 rfl cI_0 ?_
          exact s_zret dL_law_977 rfl (Or.inl rfl) (fun f h => h)
      refine sm_ite (fun h381 => ?_) (fun h381 => ?_)
      · skip
        refine s_tin (tgt := 978) dL_law_33 (by rw [h381]; try decide) (by rw [h381]; try decide) (by rw [h381]; try rfl) rfl ?_
        refine s_aload_n 1 dL_law_978 rfl rfl ?_
        refine s_aload_n 0 dL_law_979 rfl rfl ?_
        refine s_iload_n 3 dL_law_980 rfl rfl ?_
        refine s_iconst (v := 1) dL_law_981 rfl cI_1 ?_
        refine s_iadd dL_law_982 rfl ?_
        refine sm_ck (fun g382 => ?_)
        refine s_sld dL_law_983 rfl g382 ?_
        refine s_aload_n 0 dL_law_984 rfl rfl ?_
        refine s_iload_n 3 dL_law_985 rfl rfl ?_
        refine s_iconst (v := 2) dL_law_986 rfl cI_2 ?_
        refine s_iadd dL_law_987 rfl ?_
        refine sm_ck (fun g383 => ?_)
        refine s_sld dL_law_988 rfl g383 ?_
        refine s_aload_n 0 dL_law_989 rfl rfl ?_
        refine s_iload_n 3 dL_law_990 rfl rfl ?_
        refine s_iconst (v := 3) dL_law_991 rfl cI_3 ?_
        refine s_iadd dL_law_992 rfl ?_
        refine sm_ck (fun g384 => ?_)
        refine s_sld dL_law_993 rfl g384 ?_
        refine sm_ck (fun g385 => ?_)
        refine s_callV3_i3 dL_law_994 rfl lkV_RL_123 (S_0 g385) (Nat.le_of_ble_eq_true rfl) (Nat.le_of_ble_eq_true rfl) (Nat.le_of_ble_eq_true rfl) ct_x10_waves (fun r386 I387 L388 R389 S390 => ?_)
        refine s_aload_n 2 dL_law_997 rfl rfl ?_
        refine s_aload_n 0 dL_law_998 rfl rfl ?_
        refine s_iload_n 3 dL_law_999 rfl rfl ?_
        refine s_iconst (v := 1) dL_law_1000 rfl cI_1 ?_
        refine s_iadd dL_law_1001 rfl ?_
        refine sm_ck (fun g391 => ?_)
        refine s_sld dL_law_1002 rfl g391 ?_
        refine s_aload_n 0 dL_law_1003 rfl rfl ?_
        refine s_iload_n 3 dL_law_1004 rfl rfl ?_
        refine s_iconst (v := 2) dL_law_1005 rfl cI_2 ?_
        refine s_iadd dL_law_1006 rfl ?_
        refine sm_ck (fun g392 => ?_)
        refine s_sld dL_law_1007 rfl g392 ?_
        refine s_aload_n 0 dL_law_1008 rfl rfl ?_
        refine s_iload_n 3 dL_law_1009 rfl rfl ?_
        refine s_iconst (v := 3) dL_law_1010 rfl cI_3 ?_
        refine s_iadd dL_law_1011 rfl ?_
        refine sm_ck (fun g393 => ?_)
        refine s_sld dL_law_1012 rfl g393 ?_
        refine sm_ck (fun g394 => ?_)
        refine s_callV3_i1 dL_law_1013 rfl lkV_RL_126 (S_102 g394) (Nat.le_of_ble_eq_true rfl) (Nat.le_of_ble_eq_true rfl) (Nat.le_of_ble_eq_true rfl) (ct_x11_waves g394) (fun r395 I396 => ?_)
        refine s_icmp_eq (tgt := 1325) dL_law_1016 rfl rfl (fun _ => ?_) (fun _ => ?_)
        · skip
          refine s_iincL 3 (c := 6) (fun v397 => [(3, .int v397), (0, .ref X.2.2.2.2.2.1), (1, .ref (X.1 + 0)), (2, .ref (X.1 + 102))]) dL_law_1325 rfl rfl cI_6 (by decide) (fun _ => rfl) (fun v397 => ?_)
          refine s_goto (tgt := 18) dL_law_1328 rfl ?_
          refine s_pick [1, 2, 3, 0] rfl ?_
          exact ih v397 I396 L388 R389 S390
        · skip
          refine s_iconst (v := 0) dL_law_1019 rfl cI_0 ?_
          exact s_zret dL_law_1020 rfl (Or.inl rfl) (fun f h => h)
      refine sm_ite (fun h398 => ?_) (fun h398 => ?_)
      · skip
        refine s_tin (tgt := 1021) dL_law_33 (by rw [h398]; try decide) (by rw [h398]; try decide) (by rw [h398]; try rfl) rfl ?_
        refine s_aload_n 1 dL_law_1021 rfl rfl ?_
        refine s_aload_n 0 dL_law_1022 rfl rfl ?_
        refine s_iload_n 3 dL_law_1023 rfl rfl ?_
        refine s_iconst (v := 1) dL_law_1024 rfl cI_1 ?_
        refine s_iadd dL_law_1025 rfl ?_
        refine sm_ck (fun g399 => ?_)
        refine s_sld dL_law_1026 rfl g399 ?_
        refine s_aload_n 0 dL_law_1027 rfl rfl ?_
        refine s_iload_n 3 dL_law_1028 rfl rfl ?_
        refine s_iconst (v := 2) dL_law_1029 rfl cI_2 ?_
        refine s_iadd dL_law_1030 rfl ?_
        refine sm_ck (fun g400 => ?_)
        refine s_sld dL_law_1031 rfl g400 ?_
        refine s_aload_n 0 dL_law_1032 rfl rfl ?_
        refine s_iload_n 3 dL_law_1033 rfl rfl ?_
        refine s_iconst (v := 3) dL_law_1034 rfl cI_3 ?_
        refine s_iadd dL_law_1035 rfl ?_
        refine sm_ck (fun g401 => ?_)
        refine s_sld dL_law_1036 rfl g401 ?_
        refine sm_ck (fun g404 => ?_)
        refine sm_b1 (fun t_402 h403 => ?_)
        refine sm_ck (fun g405 => ?_)
        refine s_callV3_i1 dL_law_1037 rfl lkV_RL_127 (S_0 g404) (Nat.le_of_ble_eq_true rfl) (Nat.le_of_ble_eq_true rfl) (Nat.le_of_ble_eq_true rfl) (ct_x10_fill g404 (⟨h403, g405⟩)) (fun r406 I407 => ?_)
        refine s_aload_n 2 dL_law_1040 rfl rfl ?_
        refine s_aload_n 0 dL_law_1041 rfl rfl ?_
        refine s_iload_n 3 dL_law_1042 rfl rfl ?_
        refine s_iconst (v := 1) dL_law_1043 rfl cI_1 ?_
        refine s_iadd dL_law_1044 rfl ?_
        refine sm_ck (fun g408 => ?_)
        refine s_sld dL_law_1045 rfl g408 ?_
        refine s_aload_n 0 dL_law_1046 rfl rfl ?_
        refine s_iload_n 3 dL_law_1047 rfl rfl ?_
        refine s_iconst (v := 2) dL_law_1048 rfl cI_2 ?_
        refine s_iadd dL_law_1049 rfl ?_
        refine sm_ck (fun g409 => ?_)
        refine s_sld dL_law_1050 rfl g409 ?_
        refine s_aload_n 0 dL_law_1051 rfl rfl ?_
        refine s_iload_n 3 dL_law_1052 rfl rfl ?_
        refine s_iconst (v := 3) dL_law_1053 rfl cI_3 ?_
        refine s_iadd dL_law_1054 rfl ?_
        refine sm_ck (fun g410 => ?_)
        refine s_sld dL_law_1055 rfl g410 ?_
        refine sm_ck (fun g411 => ?_)
        refine s_callV3_i1 dL_law_1056 rfl lkV_RL_130 (S_102 g411) (Nat.le_of_ble_eq_true rfl) (Nat.le_of_ble_eq_true rfl) (Nat.le_of_ble_eq_true rfl) (ct_x11_fill g411) (fun r412 I413 => ?_)
        refine s_icmp_eq (tgt := 1325) dL_law_1059 rfl rfl (fun _ => ?_) (fun _ => ?_)
        · skip
          refine s_iincL 3 (c := 6) (fun v414 => [(3, .int v414), (0, .ref X.2.2.2.2.2.1), (1, .ref (X.1 + 0)), (2, .ref (X.1 + 102))]) dL_law_1325 rfl rfl cI_6 (by decide) (fun _ => rfl) (fun v414 => ?_)
          refine s_goto (tgt := 18) dL_law_1328 rfl ?_
          refine s_pick [1, 2, 3, 0] rfl ?_
          exact ih v414 I413 L R S
        · skip
          refine s_iconst (v := 0) dL_law_1062 rfl cI_0 ?_
          exact s_zret dL_law_1063 rfl (Or.inl rfl) (fun f h => h)
      refine sm_ite (fun h415 => ?_) (fun h415 => ?_)
      · skip
        refine s_tin (tgt := 1064) dL_law_33 (by rw [h415]; try decide) (by rw [h415]; try decide) (by rw [h415]; try rfl) rfl ?_
        refine s_aload_n 1 dL_law_1064 rfl rfl ?_
        refine s_aload_n 0 dL_law_1065 rfl rfl ?_
        refine s_iload_n 3 dL_law_1066 rfl rfl ?_
        refine s_iconst (v := 1) dL_law_1067 rfl cI_1 ?_
        refine s_iadd dL_law_1068 rfl ?_
        refine sm_ck (fun g416 => ?_)
        refine s_sld dL_law_1069 rfl g416 ?_
        refine s_aload_n 0 dL_law_1070 rfl rfl ?_
        refine s_iload_n 3 dL_law_1071 rfl rfl ?_
        refine s_iconst (v := 2) dL_law_1072 rfl cI_2 ?_
        refine s_iadd dL_law_1073 rfl ?_
        refine sm_ck (fun g417 => ?_)
        refine s_sld dL_law_1074 rfl g417 ?_
        refine sm_ck (fun g420 => ?_)
        refine sm_b1 (fun t_418 h419 => ?_)
        refine sm_ck (fun g421 => ?_)
        refine s_callV2_i0 dL_law_1075 rfl lkV_RL_131 (S_0 g420) (Nat.le_of_ble_eq_true rfl) (Nat.le_of_ble_eq_true rfl) (Nat.le_of_ble_eq_true rfl) (ct_x10_coin g420 (⟨h419, g421⟩)) (fun r422 => ?_)
        refine s_aload_n 2 dL_law_1078 rfl rfl ?_
        refine s_aload_n 0 dL_law_1079 rfl rfl ?_
        refine s_iload_n 3 dL_law_1080 rfl rfl ?_
        refine s_iconst (v := 1) dL_law_1081 rfl cI_1 ?_
        refine s_iadd dL_law_1082 rfl ?_
        refine sm_ck (fun g423 => ?_)
        refine s_sld dL_law_1083 rfl g423 ?_
        refine s_aload_n 0 dL_law_1084 rfl rfl ?_
        refine s_iload_n 3 dL_law_1085 rfl rfl ?_
        refine s_iconst (v := 2) dL_law_1086 rfl cI_2 ?_
        refine s_iadd dL_law_1087 rfl ?_
        refine sm_ck (fun g424 => ?_)
        refine s_sld dL_law_1088 rfl g424 ?_
        refine sm_ck (fun g425 => ?_)
        refine s_callV2_i1 dL_law_1089 rfl lkV_RL_134 (S_102 g425) (Nat.le_of_ble_eq_true rfl) (Nat.le_of_ble_eq_true rfl) (Nat.le_of_ble_eq_true rfl) (ct_x11_coin g425) (fun r426 I427 => ?_)
        refine s_icmp_eq (tgt := 1325) dL_law_1092 rfl rfl (fun _ => ?_) (fun _ => ?_)
        · skip
          refine s_iincL 3 (c := 6) (fun v428 => [(3, .int v428), (0, .ref X.2.2.2.2.2.1), (1, .ref (X.1 + 0)), (2, .ref (X.1 + 102))]) dL_law_1325 rfl rfl cI_6 (by decide) (fun _ => rfl) (fun v428 => ?_)
          refine s_goto (tgt := 18) dL_law_1328 rfl ?_
          refine s_pick [1, 2, 3, 0] rfl ?_
          exact ih v428 I427 L R S
        · skip
          refine s_iconst (v := 0) dL_law_1095 rfl cI_0 ?_
          exact s_zret dL_law_1096 rfl (Or.inl rfl) (fun f h => h)
      refine sm_ite (fun h429 => ?_) (fun h429 => ?_)
      · skip
        refine s_tin (tgt := 1097) dL_law_33 (by rw [h429]; try decide) (by rw [h429]; try decide) (by rw [h429]; try rfl) rfl ?_
        refine s_aload_n 1 dL_law_1097 rfl rfl ?_
        refine s_aload_n 0 dL_law_1098 rfl rfl ?_
        refine s_iload_n 3 dL_law_1099 rfl rfl ?_
        refine s_iconst (v := 1) dL_law_1100 rfl cI_1 ?_
        refine s_iadd dL_law_1101 rfl ?_
        refine sm_ck (fun g430 => ?_)
        refine s_sld dL_law_1102 rfl g430 ?_
        refine sm_ck (fun g431 => ?_)
        refine s_callV1_i0 dL_law_1103 rfl lkV_RL_135 (S_0 g431) (Nat.le_of_ble_eq_true rfl) (Nat.le_of_ble_eq_true rfl) (Nat.le_of_ble_eq_true rfl) (ct_x10_lies g431) (fun r432 => ?_)
        refine s_aload_n 2 dL_law_1106 rfl rfl ?_
        refine s_aload_n 0 dL_law_1107 rfl rfl ?_
        refine s_iload_n 3 dL_law_1108 rfl rfl ?_
        refine s_iconst (v := 1) dL_law_1109 rfl cI_1 ?_
        refine s_iadd dL_law_1110 rfl ?_
        refine sm_ck (fun g433 => ?_)
        refine s_sld dL_law_1111 rfl g433 ?_
        refine sm_ck (fun g434 => ?_)
        refine s_callV1_i0 dL_law_1112 rfl lkV_RL_138 (S_102 g434) (Nat.le_of_ble_eq_true rfl) (Nat.le_of_ble_eq_true rfl) (Nat.le_of_ble_eq_true rfl) (ct_x11_lies g434) (fun r435 => ?_)
        refine s_icmp_eq (tgt := 1325) dL_law_1115 rfl rfl (fun _ => ?_) (fun _ => ?_)
        · skip
          refine s_iincL 3 (c := 6) (fun v436 => [(3, .int v436), (0, .ref X.2.2.2.2.2.1), (1, .ref (X.1 + 0)), (2, .ref (X.1 + 102))]) dL_law_1325 rfl rfl cI_6 (by decide) (fun _ => rfl) (fun v436 => ?_)
          refine s_goto (tgt := 18) dL_law_1328 rfl ?_
          refine s_pick [1, 2, 3, 0] rfl ?_
          exact ih v436 I L R S
        · skip
          refine s_iconst (v := 0) dL_law_1118 rfl cI_0 ?_
          exact s_zret dL_law_1119 rfl (Or.inl rfl) (fun f h => h)
      refine sm_ite (fun h437 => ?_) (fun h437 => ?_)
      · skip
        refine s_tin (tgt := 1120) dL_law_33 (by rw [h437]; try decide) (by rw [h437]; try decide) (by rw [h437]; try rfl) rfl ?_
        refine s_aload_n 1 dL_law_1120 rfl rfl ?_
        refine s_aload_n 0 dL_law_1121 rfl rfl ?_
        refine s_iload_n 3 dL_law_1122 rfl rfl ?_
        refine s_iconst (v := 1) dL_law_1123 rfl cI_1 ?_
        refine s_iadd dL_law_1124 rfl ?_
        refine sm_ck (fun g438 => ?_)
        refine s_sld dL_law_1125 rfl g438 ?_
        refine s_aload_n 0 dL_law_1126 rfl rfl ?_
        refine s_iload_n 3 dL_law_1127 rfl rfl ?_
        refine s_iconst (v := 2) dL_law_1128 rfl cI_2 ?_
        refine s_iadd dL_law_1129 rfl ?_
        refine sm_ck (fun g439 => ?_)
        refine s_sld dL_law_1130 rfl g439 ?_
        refine s_aload_n 0 dL_law_1131 rfl rfl ?_
        refine s_iload_n 3 dL_law_1132 rfl rfl ?_
        refine s_iconst (v := 3) dL_law_1133 rfl cI_3 ?_
        refine s_iadd dL_law_1134 rfl ?_
        refine sm_ck (fun g440 => ?_)
        refine s_sld dL_law_1135 rfl g440 ?_
        refine sm_ck (fun g443 => ?_)
        refine sm_b1 (fun t_441 h442 => ?_)
        refine sm_ck (fun g444 => ?_)
        refine s_callV3_i1 dL_law_1136 rfl lkV_RL_139 (S_0 g443) (Nat.le_of_ble_eq_true rfl) (Nat.le_of_ble_eq_true rfl) (Nat.le_of_ble_eq_true rfl) (ct_x10_pick g443 (⟨h442, g444⟩)) (fun r445 I446 => ?_)
        refine s_aload_n 2 dL_law_1139 rfl rfl ?_
        refine s_aload_n 0 dL_law_1140 rfl rfl ?_
        refine s_iload_n 3 dL_law_1141 rfl rfl ?_
        refine s_iconst (v := 1) dL_law_1142 rfl cI_1 ?_
        refine s_iadd dL_law_1143 rfl ?_
        refine sm_ck (fun g447 => ?_)
        refine s_sld dL_law_1144 rfl g447 ?_
        refine s_aload_n 0 dL_law_1145 rfl rfl ?_
        refine s_iload_n 3 dL_law_1146 rfl rfl ?_
        refine s_iconst (v := 2) dL_law_1147 rfl cI_2 ?_
        refine s_iadd dL_law_1148 rfl ?_
        refine sm_ck (fun g448 => ?_)
        refine s_sld dL_law_1149 rfl g448 ?_
        refine s_aload_n 0 dL_law_1150 rfl rfl ?_
        refine s_iload_n 3 dL_law_1151 rfl rfl ?_
        refine s_iconst (v := 3) dL_law_1152 rfl cI_3 ?_
        refine s_iadd dL_law_1153 rfl ?_
        refine sm_ck (fun g449 => ?_)
        refine s_sld dL_law_1154 rfl g449 ?_
        refine sm_ck (fun g450 => ?_)
        refine s_callV3_i1 dL_law_1155 rfl lkV_RL_142 (S_102 g450) (Nat.le_of_ble_eq_true rfl) (Nat.le_of_ble_eq_true rfl) (Nat.le_of_ble_eq_true rfl) (ct_x11_pick g450) (fun r451 I452 => ?_)
        refine s_icmp_eq (tgt := 1325) dL_law_1158 rfl rfl (fun _ => ?_) (fun _ => ?_)
        · skip
          refine s_iincL 3 (c := 6) (fun v453 => [(3, .int v453), (0, .ref X.2.2.2.2.2.1), (1, .ref (X.1 + 0)), (2, .ref (X.1 + 102))]) dL_law_1325 rfl rfl cI_6 (by decide) (fun _ => rfl) (fun v453 => ?_)
          refine s_goto (tgt := 18) dL_law_1328 rfl ?_
          refine s_pick [1, 2, 3, 0] rfl ?_
          exact ih v453 I452 L R S
        · skip
          refine s_iconst (v := 0) dL_law_1161 rfl cI_0 ?_
          exact s_zret dL_law_1162 rfl (Or.inl rfl) (fun f h => h)
      refine sm_ite (fun h454 => ?_) (fun h454 => ?_)
      · skip
        refine s_tin (tgt := 1163) dL_law_33 (by rw [h454]; try decide) (by rw [h454]; try decide) (by rw [h454]; try rfl) rfl ?_
        refine s_aload_n 1 dL_law_1163 rfl rfl ?_
        refine s_aload_n 0 dL_law_1164 rfl rfl ?_
        refine s_iload_n 3 dL_law_1165 rfl rfl ?_
        refine s_iconst (v := 1) dL_law_1166 rfl cI_1 ?_
        refine s_iadd dL_law_1167 rfl ?_
        refine sm_ck (fun g455 => ?_)
        refine s_sld dL_law_1168 rfl g455 ?_
        refine sm_ck (fun g456 => ?_)
        refine s_callV1_i1 dL_law_1169 rfl lkV_RL_143 (S_0 g456) (Nat.le_of_ble_eq_true rfl) (Nat.le_of_ble_eq_true rfl) (Nat.le_of_ble_eq_true rfl) (ct_x10_untell g456) (fun r457 I458 => ?_)
        refine s_aload_n 2 dL_law_1172 rfl rfl ?_
        refine s_aload_n 0 dL_law_1173 rfl rfl ?_
        refine s_iload_n 3 dL_law_1174 rfl rfl ?_
        refine s_iconst (v := 1) dL_law_1175 rfl cI_1 ?_
        refine s_iadd dL_law_1176 rfl ?_
        refine sm_ck (fun g459 => ?_)
        refine s_sld dL_law_1177 rfl g459 ?_
        refine sm_ck (fun g460 => ?_)
        refine s_callV1_i1 dL_law_1178 rfl lkV_RL_147 (S_102 g460) (Nat.le_of_ble_eq_true rfl) (Nat.le_of_ble_eq_true rfl) (Nat.le_of_ble_eq_true rfl) (ct_x11_untell g460) (fun r461 I462 => ?_)
        refine s_icmp_eq (tgt := 1325) dL_law_1181 rfl rfl (fun _ => ?_) (fun _ => ?_)
        · skip
          refine s_iincL 3 (c := 6) (fun v463 => [(3, .int v463), (0, .ref X.2.2.2.2.2.1), (1, .ref (X.1 + 0)), (2, .ref (X.1 + 102))]) dL_law_1325 rfl rfl cI_6 (by decide) (fun _ => rfl) (fun v463 => ?_)
          refine s_goto (tgt := 18) dL_law_1328 rfl ?_
          refine s_pick [1, 2, 3, 0] rfl ?_
          exact ih v463 I462 L R S
        · skip
          refine s_iconst (v := 0) dL_law_1184 rfl cI_0 ?_
          exact s_zret dL_law_1185 rfl (Or.inl rfl) (fun f h => h)
      refine sm_ite (fun h464 => ?_) (fun h464 => ?_)
      · skip
        refine s_tin (tgt := 1186) dL_law_33 (by rw [h464]; try decide) (by rw [h464]; try decide) (by rw [h464]; try rfl) rfl ?_
        refine s_aload_n 1 dL_law_1186 rfl rfl ?_
        refine s_aload_n 0 dL_law_1187 rfl rfl ?_
        refine s_iload_n 3 dL_law_1188 rfl rfl ?_
        refine s_iconst (v := 1) dL_law_1189 rfl cI_1 ?_
        refine s_iadd dL_law_1190 rfl ?_
        refine sm_ck (fun g465 => ?_)
        refine s_sld dL_law_1191 rfl g465 ?_
        refine sm_ck (fun g466 => ?_)
        refine s_callV1_i1 dL_law_1192 rfl lkV_RL_148 (S_0 g466) (Nat.le_of_ble_eq_true rfl) (Nat.le_of_ble_eq_true rfl) (Nat.le_of_ble_eq_true rfl) (ct_x10_later g466) (fun r467 I468 => ?_)
        refine s_aload_n 2 dL_law_1195 rfl rfl ?_
        refine s_aload_n 0 dL_law_1196 rfl rfl ?_
        refine s_iload_n 3 dL_law_1197 rfl rfl ?_
        refine s_iconst (v := 1) dL_law_1198 rfl cI_1 ?_
        refine s_iadd dL_law_1199 rfl ?_
        refine sm_ck (fun g469 => ?_)
        refine s_sld dL_law_1200 rfl g469 ?_
        refine sm_ck (fun g470 => ?_)
        refine s_callV1_i1 dL_law_1201 rfl lkV_RL_151 (S_102 g470) (Nat.le_of_ble_eq_true rfl) (Nat.le_of_ble_eq_true rfl) (Nat.le_of_ble_eq_true rfl) (ct_x11_later g470) (fun r471 I472 => ?_)
        refine s_icmp_eq (tgt := 1325) dL_law_1204 rfl rfl (fun _ => ?_) (fun _ => ?_)
        · skip
          refine s_iincL 3 (c := 6) (fun v473 => [(3, .int v473), (0, .ref X.2.2.2.2.2.1), (1, .ref (X.1 + 0)), (2, .ref (X.1 + 102))]) dL_law_1325 rfl rfl cI_6 (by decide) (fun _ => rfl) (fun v473 => ?_)
          refine s_goto (tgt := 18) dL_law_1328 rfl ?_
          refine s_pick [1, 2, 3, 0] rfl ?_
          exact ih v473 I472 L R S
        · skip
          refine s_iconst (v := 0) dL_law_1207 rfl cI_0 ?_
          exact s_zret dL_law_1208 rfl (Or.inl rfl) (fun f h => h)
      refine sm_ite (fun h474 => ?_) (fun h474 => ?_)
      · skip
        refine s_tin (tgt := 1209) dL_law_33 (by rw [h474]; try decide) (by rw [h474]; try decide) (by rw [h474]; try rfl) rfl ?_
        refine s_aload_n 1 dL_law_1209 rfl rfl ?_
        refine s_aload_n 0 dL_law_1210 rfl rfl ?_
        refine s_iload_n 3 dL_law_1211 rfl rfl ?_
        refine s_iconst (v := 1) dL_law_1212 rfl cI_1 ?_
        refine s_iadd dL_law_1213 rfl ?_
        refine sm_ck (fun g475 => ?_)
        refine s_sld dL_law_1214 rfl g475 ?_
        refine sm_ck (fun g478 => ?_)
        refine sm_b1 (fun t_476 h477 => ?_)
        refine sm_ck (fun g479 => ?_)
        refine s_callV1_i1 dL_law_1215 rfl lkV_RL_152 (S_0 g478) (Nat.le_of_ble_eq_true rfl) (Nat.le_of_ble_eq_true rfl) (Nat.le_of_ble_eq_true rfl) (ct_x10_fits g478 (⟨h477, g479⟩)) (fun r480 I481 => ?_)
        refine s_aload_n 2 dL_law_1218 rfl rfl ?_
        refine s_aload_n 0 dL_law_1219 rfl rfl ?_
        refine s_iload_n 3 dL_law_1220 rfl rfl ?_
        refine s_iconst (v := 1) dL_law_1221 rfl cI_1 ?_
        refine s_iadd dL_law_1222 rfl ?_
        refine sm_ck (fun g482 => ?_)
        refine s_sld dL_law_1223 rfl g482 ?_
        refine sm_ck (fun g483 => ?_)
        refine s_callV1_i1 dL_law_1224 rfl lkV_RL_155 (S_102 g483) (Nat.le_of_ble_eq_true rfl) (Nat.le_of_ble_eq_true rfl) (Nat.le_of_ble_eq_true rfl) (ct_x11_fits g483) (fun r484 I485 => ?_)
        refine s_icmp_eq (tgt := 1325) dL_law_1227 rfl rfl (fun _ => ?_) (fun _ => ?_)
        · skip
          refine s_iincL 3 (c := 6) (fun v486 => [(3, .int v486), (0, .ref X.2.2.2.2.2.1), (1, .ref (X.1 + 0)), (2, .ref (X.1 + 102))]) dL_law_1325 rfl rfl cI_6 (by decide) (fun _ => rfl) (fun v486 => ?_)
          refine s_goto (tgt := 18) dL_law_1328 rfl ?_
          refine s_pick [1, 2, 3, 0] rfl ?_
          exact ih v486 I485 L R S
        · skip
          refine s_iconst (v := 0) dL_law_1230 rfl cI_0 ?_
          exact s_zret dL_law_1231 rfl (Or.inl rfl) (fun f h => h)
      refine sm_ite (fun h487 => ?_) (fun h487 => ?_)
      · skip
        refine s_tin (tgt := 1232) dL_law_33 (by rw [h487]; try decide) (by rw [h487]; try decide) (by rw [h487]; try rfl) rfl ?_
        refine s_aload_n 1 dL_law_1232 rfl rfl ?_
        refine s_aload_n 0 dL_law_1233 rfl rfl ?_
        refine s_iload_n 3 dL_law_1234 rfl rfl ?_
        refine s_iconst (v := 1) dL_law_1235 rfl cI_1 ?_
        refine s_iadd dL_law_1236 rfl ?_
        refine sm_ck (fun g488 => ?_)
        refine s_sld dL_law_1237 rfl g488 ?_
        refine sm_ck (fun g489 => ?_)
        refine s_callV1_l0 dL_law_1238 rfl lkV_RL_156 (S_0 g489) (Nat.le_of_ble_eq_true rfl) (Nat.le_of_ble_eq_true rfl) (Nat.le_of_ble_eq_true rfl) (ct_x10_chance g489) (fun r490 => ?_)
        refine s_aload_n 2 dL_law_1241 rfl rfl ?_
        refine s_aload_n 0 dL_law_1242 rfl rfl ?_
        refine s_iload_n 3 dL_law_1243 rfl rfl ?_
        refine s_iconst (v := 1) dL_law_1244 rfl cI_1 ?_
        refine s_iadd dL_law_1245 rfl ?_
        refine sm_ck (fun g491 => ?_)
        refine s_sld dL_law_1246 rfl g491 ?_
        refine sm_ck (fun g492 => ?_)
        refine s_callV1_l0 dL_law_1247 rfl lkV_RL_160 (S_102 g492) (Nat.le_of_ble_eq_true rfl) (Nat.le_of_ble_eq_true rfl) (Nat.le_of_ble_eq_true rfl) (ct_x11_chance g492) (fun r493 => ?_)
        refine s_lcmp dL_law_1250 rfl ?_
        refine s_if_eq (tgt := 1325) dL_law_1251 rfl rfl (fun _ => ?_) (fun _ => ?_)
        · skip
          refine s_iincL 3 (c := 6) (fun v494 => [(3, .int v494), (0, .ref X.2.2.2.2.2.1), (1, .ref (X.1 + 0)), (2, .ref (X.1 + 102))]) dL_law_1325 rfl rfl cI_6 (by decide) (fun _ => rfl) (fun v494 => ?_)
          refine s_goto (tgt := 18) dL_law_1328 rfl ?_
          refine s_pick [1, 2, 3, 0] rfl ?_
          exact ih v494 I L R S
        · skip
          refine s_iconst (v := 0) dL_law_1254 rfl cI_0 ?_
          exact s_zret dL_law_1255 rfl (Or.inl rfl) (fun f h => h)
      refine sm_ite (fun h495 => ?_) (fun h495 => ?_)
      · skip
        refine s_tin (tgt := 1256) dL_law_33 (by rw [h495]; try decide) (by rw [h495]; try decide) (by rw [h495]; try rfl) rfl ?_
        refine s_aload_n 1 dL_law_1256 rfl rfl ?_
        refine s_aload_n 0 dL_law_1257 rfl rfl ?_
        refine s_iload_n 3 dL_law_1258 rfl rfl ?_
        refine s_iconst (v := 1) dL_law_1259 rfl cI_1 ?_
        refine s_iadd dL_law_1260 rfl ?_
        refine sm_ck (fun g496 => ?_)
        refine s_sld dL_law_1261 rfl g496 ?_
        refine sm_ck (fun g497 => ?_)
        refine s_callV1_i3 dL_law_1262 rfl lkV_RL_161 (S_0 g497) (Nat.le_of_ble_eq_true rfl) (Nat.le_of_ble_eq_true rfl) (Nat.le_of_ble_eq_true rfl) ct_x10_image (fun r498 I499 L500 R501 S502 => ?_)
        refine s_aload_n 2 dL_law_1265 rfl rfl ?_
        refine s_aload_n 0 dL_law_1266 rfl rfl ?_
        refine s_iload_n 3 dL_law_1267 rfl rfl ?_
        refine s_iconst (v := 1) dL_law_1268 rfl cI_1 ?_
        refine s_iadd dL_law_1269 rfl ?_
        refine sm_ck (fun g503 => ?_)
        refine s_sld dL_law_1270 rfl g503 ?_
        refine sm_ck (fun g504 => ?_)
        refine s_callV1_i1 dL_law_1271 rfl lkV_RL_164 (S_102 g504) (Nat.le_of_ble_eq_true rfl) (Nat.le_of_ble_eq_true rfl) (Nat.le_of_ble_eq_true rfl) (ct_x11_image g504) (fun r505 I506 => ?_)
        refine s_icmp_eq (tgt := 1325) dL_law_1274 rfl rfl (fun _ => ?_) (fun _ => ?_)
        · skip
          refine s_iincL 3 (c := 6) (fun v507 => [(3, .int v507), (0, .ref X.2.2.2.2.2.1), (1, .ref (X.1 + 0)), (2, .ref (X.1 + 102))]) dL_law_1325 rfl rfl cI_6 (by decide) (fun _ => rfl) (fun v507 => ?_)
          refine s_goto (tgt := 18) dL_law_1328 rfl ?_
          refine s_pick [1, 2, 3, 0] rfl ?_
          exact ih v507 I506 L500 R501 S502
        · skip
          refine s_iconst (v := 0) dL_law_1277 rfl cI_0 ?_
          exact s_zret dL_law_1278 rfl (Or.inl rfl) (fun f h => h)
      refine sm_ite (fun h508 => ?_) (fun h508 => ?_)
      · skip
        refine s_tin (tgt := 1279) dL_law_33 (by rw [h508]; try decide) (by rw [h508]; try decide) (by rw [h508]; try rfl) rfl ?_
        refine s_aload_n 1 dL_law_1279 rfl rfl ?_
        refine s_aload_n 0 dL_law_1280 rfl rfl ?_
        refine s_iload_n 3 dL_law_1281 rfl rfl ?_
        refine s_iconst (v := 1) dL_law_1282 rfl cI_1 ?_
        refine s_iadd dL_law_1283 rfl ?_
        refine sm_ck (fun g509 => ?_)
        refine s_sld dL_law_1284 rfl g509 ?_
        refine sm_ck (fun g510 => ?_)
        refine s_callV1_i3 dL_law_1285 rfl lkV_RL_165 (S_0 g510) (Nat.le_of_ble_eq_true rfl) (Nat.le_of_ble_eq_true rfl) (Nat.le_of_ble_eq_true rfl) ct_x10_back (fun r511 I512 L513 R514 S515 => ?_)
        refine s_aload_n 2 dL_law_1288 rfl rfl ?_
        refine s_aload_n 0 dL_law_1289 rfl rfl ?_
        refine s_iload_n 3 dL_law_1290 rfl rfl ?_
        refine s_iconst (v := 1) dL_law_1291 rfl cI_1 ?_
        refine s_iadd dL_law_1292 rfl ?_
        refine sm_ck (fun g516 => ?_)
        refine s_sld dL_law_1293 rfl g516 ?_
        refine sm_ck (fun g517 => ?_)
        refine s_callV1_i1 dL_law_1294 rfl lkV_RL_168 (S_102 g517) (Nat.le_of_ble_eq_true rfl) (Nat.le_of_ble_eq_true rfl) (Nat.le_of_ble_eq_true rfl) (ct_x11_back g517) (fun r518 I519 => ?_)
        refine s_icmp_eq (tgt := 1325) dL_law_1297 rfl rfl (fun _ => ?_) (fun _ => ?_)
        · skip
          refine s_iincL 3 (c := 6) (fun v520 => [(3, .int v520), (0, .ref X.2.2.2.2.2.1), (1, .ref (X.1 + 0)), (2, .ref (X.1 + 102))]) dL_law_1325 rfl rfl cI_6 (by decide) (fun _ => rfl) (fun v520 => ?_)
          refine s_goto (tgt := 18) dL_law_1328 rfl ?_
          refine s_pick [1, 2, 3, 0] rfl ?_
          exact ih v520 I519 L513 R514 S515
        · skip
          refine s_iconst (v := 0) dL_law_1300 rfl cI_0 ?_
          exact s_zret dL_law_1301 rfl (Or.inl rfl) (fun f h => h)
      refine sm_ite (fun h521 => ?_) (fun h521 => ?_)
      · skip
        refine s_tin (tgt := 1302) dL_law_33 (by rw [h521]; try decide) (by rw [h521]; try decide) (by rw [h521]; try rfl) rfl ?_
        refine s_aload_n 1 dL_law_1302 rfl rfl ?_
        refine s_aload_n 0 dL_law_1303 rfl rfl ?_
        refine s_iload_n 3 dL_law_1304 rfl rfl ?_
        refine s_iconst (v := 1) dL_law_1305 rfl cI_1 ?_
        refine s_iadd dL_law_1306 rfl ?_
        refine sm_ck (fun g522 => ?_)
        refine s_sld dL_law_1307 rfl g522 ?_
        refine sm_ck (fun g525 => ?_)
        refine sm_b1 (fun t_523 h524 => ?_)
        refine sm_ck (fun g526 => ?_)
        refine s_callV1_i0 dL_law_1308 rfl lkV_RL_169 (S_0 g525) (Nat.le_of_ble_eq_true rfl) (Nat.le_of_ble_eq_true rfl) (Nat.le_of_ble_eq_true rfl) (ct_x10_about g525 (⟨h524, g526⟩)) (fun r527 => ?_)
        refine s_aload_n 2 dL_law_1311 rfl rfl ?_
        refine s_aload_n 0 dL_law_1312 rfl rfl ?_
        refine s_iload_n 3 dL_law_1313 rfl rfl ?_
        refine s_iconst (v := 1) dL_law_1314 rfl cI_1 ?_
        refine s_iadd dL_law_1315 rfl ?_
        refine sm_ck (fun g528 => ?_)
        refine s_sld dL_law_1316 rfl g528 ?_
        refine sm_ck (fun g529 => ?_)
        refine s_callV1_i1 dL_law_1317 rfl lkV_RL_172 (S_102 g529) (Nat.le_of_ble_eq_true rfl) (Nat.le_of_ble_eq_true rfl) (Nat.le_of_ble_eq_true rfl) (ct_x11_about g529) (fun r530 I531 => ?_)
        refine s_icmp_eq (tgt := 1325) dL_law_1320 rfl rfl (fun _ => ?_) (fun _ => ?_)
        · skip
          refine s_iincL 3 (c := 6) (fun v532 => [(3, .int v532), (0, .ref X.2.2.2.2.2.1), (1, .ref (X.1 + 0)), (2, .ref (X.1 + 102))]) dL_law_1325 rfl rfl cI_6 (by decide) (fun _ => rfl) (fun v532 => ?_)
          refine s_goto (tgt := 18) dL_law_1328 rfl ?_
          refine s_pick [1, 2, 3, 0] rfl ?_
          exact ih v532 I531 L R S
        · skip
          refine s_iconst (v := 0) dL_law_1323 rfl cI_0 ?_
          exact s_zret dL_law_1324 rfl (Or.inl rfl) (fun f h => h)
      have hsw : ¬ (((X.2.2.2.2.2.2.2 (ix w3)) &&& 63)).toInt = 0 ∧ ¬ (((X.2.2.2.2.2.2.2 (ix w3)) &&& 63)).toInt = 1 ∧ ¬ (((X.2.2.2.2.2.2.2 (ix w3)) &&& 63)).toInt = 2 ∧ ¬ (((X.2.2.2.2.2.2.2 (ix w3)) &&& 63)).toInt = 3 ∧ ¬ (((X.2.2.2.2.2.2.2 (ix w3)) &&& 63)).toInt = 4 ∧ ¬ (((X.2.2.2.2.2.2.2 (ix w3)) &&& 63)).toInt = 5 ∧ ¬ (((X.2.2.2.2.2.2.2 (ix w3)) &&& 63)).toInt = 6 ∧ ¬ (((X.2.2.2.2.2.2.2 (ix w3)) &&& 63)).toInt = 7 ∧ ¬ (((X.2.2.2.2.2.2.2 (ix w3)) &&& 63)).toInt = 8 ∧ ¬ (((X.2.2.2.2.2.2.2 (ix w3)) &&& 63)).toInt = 9 ∧ ¬ (((X.2.2.2.2.2.2.2 (ix w3)) &&& 63)).toInt = 10 ∧ ¬ (((X.2.2.2.2.2.2.2 (ix w3)) &&& 63)).toInt = 11 ∧ ¬ (((X.2.2.2.2.2.2.2 (ix w3)) &&& 63)).toInt = 12 ∧ ¬ (((X.2.2.2.2.2.2.2 (ix w3)) &&& 63)).toInt = 13 ∧ ¬ (((X.2.2.2.2.2.2.2 (ix w3)) &&& 63)).toInt = 14 ∧ ¬ (((X.2.2.2.2.2.2.2 (ix w3)) &&& 63)).toInt = 15 ∧ ¬ (((X.2.2.2.2.2.2.2 (ix w3)) &&& 63)).toInt = 16 ∧ ¬ (((X.2.2.2.2.2.2.2 (ix w3)) &&& 63)).toInt = 17 ∧ ¬ (((X.2.2.2.2.2.2.2 (ix w3)) &&& 63)).toInt = 18 ∧ ¬ (((X.2.2.2.2.2.2.2 (ix w3)) &&& 63)).toInt = 19 ∧ ¬ (((X.2.2.2.2.2.2.2 (ix w3)) &&& 63)).toInt = 20 ∧ ¬ (((X.2.2.2.2.2.2.2 (ix w3)) &&& 63)).toInt = 21 ∧ ¬ (((X.2.2.2.2.2.2.2 (ix w3)) &&& 63)).toInt = 22 ∧ ¬ (((X.2.2.2.2.2.2.2 (ix w3)) &&& 63)).toInt = 23 ∧ ¬ (((X.2.2.2.2.2.2.2 (ix w3)) &&& 63)).toInt = 24 ∧ ¬ (((X.2.2.2.2.2.2.2 (ix w3)) &&& 63)).toInt = 25 ∧ ¬ (((X.2.2.2.2.2.2.2 (ix w3)) &&& 63)).toInt = 26 ∧ ¬ (((X.2.2.2.2.2.2.2 (ix w3)) &&& 63)).toInt = 27 ∧ ¬ (((X.2.2.2.2.2.2.2 (ix w3)) &&& 63)).toInt = 28 ∧ ¬ (((X.2.2.2.2.2.2.2 (ix w3)) &&& 63)).toInt = 29 ∧ ¬ (((X.2.2.2.2.2.2.2 (ix w3)) &&& 63)).toInt = 30 ∧ ¬ (((X.2.2.2.2.2.2.2 (ix w3)) &&& 63)).toInt = 31 ∧ ¬ (((X.2.2.2.2.2.2.2 (ix w3)) &&& 63)).toInt = 32 ∧ ¬ (((X.2.2.2.2.2.2.2 (ix w3)) &&& 63)).toInt = 33 ∧ ¬ (((X.2.2.2.2.2.2.2 (ix w3)) &&& 63)).toInt = 34 ∧ ¬ (((X.2.2.2.2.2.2.2 (ix w3)) &&& 63)).toInt = 35 ∧ ¬ (((X.2.2.2.2.2.2.2 (ix w3)) &&& 63)).toInt = 36 ∧ ¬ (((X.2.2.2.2.2.2.2 (ix w3)) &&& 63)).toInt = 37 := ⟨lv_neT h23 (a := 0) rfl, lv_neT h41 (a := 1) rfl, lv_neT h51 (a := 2) rfl, lv_neT h63 (a := 3) rfl, lv_neT h71 (a := 4) rfl, lv_neT h84 (a := 5) rfl, lv_neT h97 (a := 6) rfl, lv_neT h114 (a := 7) rfl, lv_neT h127 (a := 8) rfl, lv_neT h144 (a := 9) rfl, lv_neT h157 (a := 10) rfl, lv_neT h170 (a := 11) rfl, lv_neT h183 (a := 12) rfl, lv_neT h194 (a := 13) rfl, lv_neT h205 (a := 14) rfl, lv_neT h222 (a := 15) rfl, lv_neT h237 (a := 16) rfl, lv_neT h250 (a := 17) rfl, lv_neT h261 (a := 18) rfl, lv_neT h276 (a := 19) rfl, lv_neT h291 (a := 20) rfl, lv_neT h308 (a := 21) rfl, lv_neT h321 (a := 22) rfl, lv_neT h338 (a := 23) rfl, lv_neT h351 (a := 24) rfl, lv_neT h366 (a := 25) rfl, lv_neT h381 (a := 26) rfl, lv_neT h398 (a := 27) rfl, lv_neT h415 (a := 28) rfl, lv_neT h429 (a := 29) rfl, lv_neT h437 (a := 30) rfl, lv_neT h454 (a := 31) rfl, lv_neT h464 (a := 32) rfl, lv_neT h474 (a := 33) rfl, lv_neT h487 (a := 34) rfl, lv_neT h495 (a := 35) rfl, lv_neT h508 (a := 36) rfl, lv_neT h521 (a := 37) rfl⟩
      refine s_tout (tgt := 1325) dL_law_33 (by omega) rfl ?_
      refine s_iincL 3 (c := 6) (fun v533 => [(3, .int v533), (0, .ref X.2.2.2.2.2.1), (1, .ref (X.1 + 0)), (2, .ref (X.1 + 102))]) dL_law_1325 rfl rfl cI_6 (by decide) (fun _ => rfl) (fun v533 => ?_)
      refine s_goto (tgt := 18) dL_law_1328 rfl ?_
      refine s_pick [1, 2, 3, 0] rfl ?_
      exact ih v533 I L R S
theorem sim_law {X : WX} {xs : Nat → Int32} {len : Nat} {I : MI} {L : ML} {R : MR} {S : MS} {n0 s0 : Nat} (hxs : xs = X.2.2.2.2.2.2.2) (hlen : len = X.2.2.2.2.2.2.1) : Sim X yL_law cL_law 4 (some .boolean) 2048 84000 n0 s0 0 [(0, .ref X.2.2.2.2.2.1)] [] (I, L, R, S) (lawF xs len I L R S) (fun a f => f = (fun r => (some (.int r.1), (r.2.1, r.2.2.1, r.2.2.2.1, r.2.2.2.2))) a) := by
  subst hxs hlen
  unfold lawF
  refine s_newL dL_law_0 rfl nl_L_7 (fun o_1 I2 L3 R4 S5 => ?_)
  refine s_dup dL_law_3 rfl rfl ?_
  refine s_callI0_v3 dL_law_4 rfl lkI_RL_9 (Nat.le_of_ble_eq_true rfl) (Nat.le_of_ble_eq_true rfl) (Nat.le_of_ble_eq_true rfl) ct_x10_init (fun I6 L7 R8 S9 => ?_)
  refine sm_ck (fun h10 => ?_)
  subst h10
  refine s_astore_n [(1, .ref (X.1 + 0)), (0, .ref X.2.2.2.2.2.1)] dL_law_7 rfl (by decide) rfl ?_
  refine s_newL dL_law_8 rfl nl_L_10 (fun o_11 I12 L13 R14 S15 => ?_)
  refine s_dup dL_law_11 rfl rfl ?_
  refine s_callI0_v3 dL_law_12 rfl lkI_RL_12 (Nat.le_of_ble_eq_true rfl) (Nat.le_of_ble_eq_true rfl) (Nat.le_of_ble_eq_true rfl) ct_x11_init (fun I16 L17 R18 S19 => ?_)
  refine sm_ck (fun h20 => ?_)
  subst h20
  refine s_astore_n [(2, .ref (X.1 + 102)), (1, .ref (X.1 + 0)), (0, .ref X.2.2.2.2.2.1)] dL_law_15 rfl (by decide) rfl ?_
  refine s_iconst (v := 0) dL_law_16 rfl cI_0 ?_
  refine s_istore_nL (fun v21 => [(3, .int v21), (2, .ref (X.1 + 102)), (1, .ref (X.1 + 0)), (0, .ref X.2.2.2.2.2.1)]) dL_law_17 rfl (by decide) (fun _ => rfl) (fun v21 => ?_)
  refine s_pick [3, 2, 1, 0] rfl ?_
  refine sm_regE (lawF_L18_ok rfl rfl FU v21 I16 L17 R18 S19) (fun e534 => ?_)
  refine s_iconst (v := 1) dL_law_1331 rfl cI_1 ?_
  exact s_zret dL_law_1332 rfl (Or.inr rfl) (fun f h => h)
