noncomputable def lawF_L18s (xs : Nat → Int32) (len : Nat) (rec : Int32 → MI → ML → MR → MS → Option ((MI × ML × MR × MS) ⊕ (Int32 × MI × ML × MR × MS))) (w3 : Int32) (I : MI) (L : ML) (R : MR) (S : MS) : Option ((MI × ML × MR × MS) ⊕ (Int32 × MI × ML × MR × MS)) :=
if ((Int32.ofNat len) - 6) < w3 then (
some (.inl (I, L, R, S))) else
ck (vp_in w3 len) <|
if ((xs (ix w3)) &&& 63) = 0 then (
ck (vp_in (w3 + 1) len) <|
ck (vp_in (w3 + 2) len) <|
ck (vp_in (w3 + 3) len) <|
ck (vp_in (w3 + 4) len) <|
ck (vp_in (w3 + 5) len) <|
ck (okr R S) <|
b2 (x10_feed (xs (ix (w3 + 1))) (xs (ix (w3 + 2))) (xs (ix (w3 + 3))) (xs (ix (w3 + 4))) (xs (ix (w3 + 5))) I) fun r30 I31 =>
ck (vp_in (w3 + 1) len) <|
ck (vp_in (w3 + 2) len) <|
ck (vp_in (w3 + 3) len) <|
ck (vp_in (w3 + 4) len) <|
ck (vp_in (w3 + 5) len) <|
b2 (x11_feed (xs (ix (w3 + 1))) (xs (ix (w3 + 2))) (xs (ix (w3 + 3))) (xs (ix (w3 + 4))) (xs (ix (w3 + 5))) I31) fun r37 I38 =>
if r30 = r37 then (
lt (w3 + 6) fun v39 =>
rec v39 I38 L R S) else
some (.inr ((0 : Int32), I38, L, R, S))) else
if ((xs (ix w3)) &&& 63) = 1 then (
ck (vp_in (w3 + 1) len) <|
ck (okr R S) <|
b2 (x10_end (xs (ix (w3 + 1))) I) fun r43 I44 =>
ck (vp_in (w3 + 1) len) <|
b2 (x11_end (xs (ix (w3 + 1))) I44) fun r46 I47 =>
if r43 = r46 then (
lt (w3 + 6) fun v48 =>
rec v48 I47 L R S) else
some (.inr ((0 : Int32), I47, L, R, S))) else
if ((xs (ix w3)) &&& 63) = 2 then (
ck (okr R S) <|
b5 (x10_tub I L R S) fun r51 I52 L53 R54 S55 =>
ck (okr R54 S55) <|
b3 (x11_tub I52 L53) fun r57 I58 L59 =>
if r51 = r57 then (
lt (w3 + 6) fun v60 =>
rec v60 I58 L59 R54 S55) else
some (.inr ((0 : Int32), I58, L59, R54, S55))) else
if ((xs (ix w3)) &&& 63) = 3 then (
ck (vp_in (w3 + 1) len) <|
ck (okr R S) <|
b1 (x10_fault (xs (ix (w3 + 1))) I) fun r64 =>
ck (vp_in (w3 + 1) len) <|
b1 (x11_fault (xs (ix (w3 + 1))) I) fun r66 =>
if r64 = r66 then (
lt (w3 + 6) fun v67 =>
rec v67 I L R S) else
some (.inr ((0 : Int32), I, L, R, S))) else
if ((xs (ix w3)) &&& 63) = 4 then (
ck (vp_in (w3 + 1) len) <|
ck (vp_in (w3 + 2) len) <|
ck (okr R S) <|
b1 (R 27 0) fun t_71 =>
ck (isT t_71) <|
b1 (x10_apple t_71 (xs (ix (w3 + 1))) (xs (ix (w3 + 2))) I) fun r75 =>
ck (vp_in (w3 + 1) len) <|
ck (vp_in (w3 + 2) len) <|
b1 (x11_apple (xs (ix (w3 + 1))) (xs (ix (w3 + 2))) I) fun r78 =>
if r75 = r78 then (
lt (w3 + 6) fun v79 =>
rec v79 I L R S) else
some (.inr ((0 : Int32), I, L, R, S))) else
if ((xs (ix w3)) &&& 63) = 5 then (
ck (vp_in (w3 + 1) len) <|
ck (vp_in (w3 + 2) len) <|
ck (okr R S) <|
b1 (R 27 0) fun t_83 =>
ck (isT t_83) <|
b1 (x10_bobber t_83 (xs (ix (w3 + 1))) (xs (ix (w3 + 2))) I) fun r87 =>
ck (vp_in (w3 + 1) len) <|
ck (vp_in (w3 + 2) len) <|
b1 (x11_bobber (xs (ix (w3 + 1))) (xs (ix (w3 + 2))) I) fun r90 =>
if r87 = r90 then (
lt (w3 + 6) fun v91 =>
rec v91 I L R S) else
some (.inr ((0 : Int32), I, L, R, S))) else
if ((xs (ix w3)) &&& 63) = 6 then (
ck (vp_in (w3 + 1) len) <|
ck (vp_in (w3 + 2) len) <|
ck (vp_in (w3 + 3) len) <|
ck (okr R S) <|
b1 (R 27 0) fun t_96 =>
ck (isT t_96) <|
b2 (x10_odds t_96 (xs (ix (w3 + 1))) (xs (ix (w3 + 2))) (xs (ix (w3 + 3))) I) fun r100 I101 =>
ck (vp_in (w3 + 1) len) <|
ck (vp_in (w3 + 2) len) <|
ck (vp_in (w3 + 3) len) <|
b2 (x11_odds (xs (ix (w3 + 1))) (xs (ix (w3 + 2))) (xs (ix (w3 + 3))) I101) fun r105 I106 =>
if r100 = r105 then (
lt (w3 + 6) fun v107 =>
rec v107 I106 L R S) else
some (.inr ((0 : Int32), I106, L, R, S))) else
if ((xs (ix w3)) &&& 63) = 7 then (
ck (vp_in (w3 + 1) len) <|
ck (okr R S) <|
b1 (R 27 0) fun t_110 =>
ck (isT t_110) <|
b2 (x10_chooses t_110 (xs (ix (w3 + 1))) I) fun r114 I115 =>
ck (vp_in (w3 + 1) len) <|
b2 (x11_chooses (xs (ix (w3 + 1))) I115) fun r117 I118 =>
if r114 = r117 then (
lt (w3 + 6) fun v119 =>
rec v119 I118 L R S) else
some (.inr ((0 : Int32), I118, L, R, S))) else
if ((xs (ix w3)) &&& 63) = 8 then (
ck (vp_in (w3 + 1) len) <|
ck (vp_in (w3 + 2) len) <|
ck (vp_in (w3 + 3) len) <|
ck (okr R S) <|
b5 (x10_go (xs (ix (w3 + 1))) (xs (ix (w3 + 2))) (xs (ix (w3 + 3))) I L R S) fun r125 I126 L127 R128 S129 =>
ck (vp_in (w3 + 1) len) <|
ck (vp_in (w3 + 2) len) <|
ck (vp_in (w3 + 3) len) <|
ck (okr R128 S129) <|
b2 (x11_go (xs (ix (w3 + 1))) (xs (ix (w3 + 2))) (xs (ix (w3 + 3))) I126) fun r134 I135 =>
if r125 = r134 then (
lt (w3 + 6) fun v136 =>
rec v136 I135 L127 R128 S129) else
some (.inr ((0 : Int32), I135, L127, R128, S129))) else
if ((xs (ix w3)) &&& 63) = 9 then (
ck (vp_in (w3 + 1) len) <|
ck (okr R S) <|
b5 (x10_breathe (xs (ix (w3 + 1))) I L R S) fun r140 I141 L142 R143 S144 =>
ck (vp_in (w3 + 1) len) <|
ck (okr R143 S144) <|
b2 (x11_breathe (xs (ix (w3 + 1))) I141) fun r147 I148 =>
if r140 = r147 then (
lt (w3 + 6) fun v149 =>
rec v149 I148 L142 R143 S144) else
some (.inr ((0 : Int32), I148, L142, R143, S144))) else
if ((xs (ix w3)) &&& 63) = 10 then (
ck (vp_in (w3 + 1) len) <|
ck (okr R S) <|
b5 (x10_wave (xs (ix (w3 + 1))) I L R S) fun r153 I154 L155 R156 S157 =>
ck (vp_in (w3 + 1) len) <|
ck (okr R156 S157) <|
b2 (x11_wave (xs (ix (w3 + 1))) I154) fun r160 I161 =>
if r153 = r160 then (
lt (w3 + 6) fun v162 =>
rec v162 I161 L155 R156 S157) else
some (.inr ((0 : Int32), I161, L155, R156, S157))) else
if ((xs (ix w3)) &&& 63) = 11 then (
ck (vp_in (w3 + 1) len) <|
ck (okr R S) <|
b5 (x10_party (xs (ix (w3 + 1))) I L R S) fun r166 I167 L168 R169 S170 =>
ck (vp_in (w3 + 1) len) <|
ck (okr R169 S170) <|
b2 (x11_party (xs (ix (w3 + 1))) I167) fun r173 I174 =>
if r166 = r173 then (
lt (w3 + 6) fun v175 =>
rec v175 I174 L168 R169 S170) else
some (.inr ((0 : Int32), I174, L168, R169, S170))) else
if ((xs (ix w3)) &&& 63) = 12 then (
ck (okr R S) <|
b5 (x10_undo I L R S) fun r178 I179 L180 R181 S182 =>
ck (okr R181 S182) <|
b2 (x11_undo I179) fun r184 I185 =>
if r178 = r184 then (
lt (w3 + 6) fun v186 =>
rec v186 I185 L180 R181 S182) else
some (.inr ((0 : Int32), I185, L180, R181, S182))) else
if ((xs (ix w3)) &&& 63) = 13 then (
ck (okr R S) <|
b5 (x10_redo I L R S) fun r189 I190 L191 R192 S193 =>
ck (okr R192 S193) <|
b2 (x11_redo I190) fun r195 I196 =>
if r189 = r195 then (
lt (w3 + 6) fun v197 =>
rec v197 I196 L191 R192 S193) else
some (.inr ((0 : Int32), I196, L191, R192, S193))) else
if ((xs (ix w3)) &&& 63) = 14 then (
ck (vp_in (w3 + 1) len) <|
ck (vp_in (w3 + 2) len) <|
ck (vp_in (w3 + 3) len) <|
ck (okr R S) <|
b5 (x10_best (xs (ix (w3 + 1))) (xs (ix (w3 + 2))) (xs (ix (w3 + 3))) I L R S) fun r203 I204 L205 R206 S207 =>
ck (vp_in (w3 + 1) len) <|
ck (vp_in (w3 + 2) len) <|
ck (vp_in (w3 + 3) len) <|
ck (okr R206 S207) <|
b2 (x11_best (xs (ix (w3 + 1))) (xs (ix (w3 + 2))) (xs (ix (w3 + 3))) I204) fun r212 I213 =>
if r203 = r212 then (
lt (w3 + 6) fun v214 =>
rec v214 I213 L205 R206 S207) else
some (.inr ((0 : Int32), I213, L205, R206, S207))) else
if ((xs (ix w3)) &&& 63) = 15 then (
ck (vp_in (w3 + 1) len) <|
ck (vp_in (w3 + 2) len) <|
ck (okr R S) <|
b1 (R 27 0) fun t_218 =>
ck (isT t_218) <|
b2 (x10_match t_218 (xs (ix (w3 + 1))) (xs (ix (w3 + 2))) I) fun r222 I223 =>
ck (vp_in (w3 + 1) len) <|
ck (vp_in (w3 + 2) len) <|
b2 (x11_match (xs (ix (w3 + 1))) (xs (ix (w3 + 2))) I223) fun r226 I227 =>
if r222 = r226 then (
lt (w3 + 6) fun v228 =>
rec v228 I227 L R S) else
some (.inr ((0 : Int32), I227, L, R, S))) else
if ((xs (ix w3)) &&& 63) = 16 then (
ck (vp_in (w3 + 1) len) <|
ck (okr R S) <|
b1 (R 27 0) fun t_231 =>
ck (isT t_231) <|
b2 (x10_reply t_231 (xs (ix (w3 + 1))) I) fun r235 I236 =>
ck (vp_in (w3 + 1) len) <|
b2 (x11_reply (xs (ix (w3 + 1))) I236) fun r238 I239 =>
if r235 = r238 then (
lt (w3 + 6) fun v240 =>
rec v240 I239 L R S) else
some (.inr ((0 : Int32), I239, L, R, S))) else
if ((xs (ix w3)) &&& 63) = 17 then (
ck (okr R S) <|
b1 (R 27 0) fun t_242 =>
ck (isT t_242) <|
b2 (x10_rests t_242 I) fun r246 I247 =>
b2 (x11_rests I247) fun r248 I249 =>
if r246 = r248 then (
lt (w3 + 6) fun v250 =>
rec v250 I249 L R S) else
some (.inr ((0 : Int32), I249, L, R, S))) else
if ((xs (ix w3)) &&& 63) = 18 then (
ck (vp_in (w3 + 1) len) <|
ck (vp_in (w3 + 2) len) <|
ck (vp_in (w3 + 3) len) <|
ck (okr R S) <|
b1 (R 27 0) fun t_255 =>
ck (isT t_255) <|
b1 (x10_record t_255 (xs (ix (w3 + 1))) (xs (ix (w3 + 2))) (xs (ix (w3 + 3))) I) fun r259 =>
ck (vp_in (w3 + 1) len) <|
ck (vp_in (w3 + 2) len) <|
ck (vp_in (w3 + 3) len) <|
b1 (x11_record (xs (ix (w3 + 1))) (xs (ix (w3 + 2))) (xs (ix (w3 + 3))) I) fun r263 =>
if r259 = r263 then (
lt (w3 + 6) fun v264 =>
rec v264 I L R S) else
some (.inr ((0 : Int32), I, L, R, S))) else
if ((xs (ix w3)) &&& 63) = 19 then (
ck (vp_in (w3 + 1) len) <|
ck (vp_in (w3 + 2) len) <|
ck (okr R S) <|
b1 (R 27 0) fun t_268 =>
ck (isT t_268) <|
b2 (x10_easier t_268 (xs (ix (w3 + 1))) (xs (ix (w3 + 2))) I) fun r272 I273 =>
ck (vp_in (w3 + 1) len) <|
ck (vp_in (w3 + 2) len) <|
b2 (x11_easier (xs (ix (w3 + 1))) (xs (ix (w3 + 2))) I273) fun r276 I277 =>
if r272 = r276 then (
lt (w3 + 6) fun v278 =>
rec v278 I277 L R S) else
some (.inr ((0 : Int32), I277, L, R, S))) else
if ((xs (ix w3)) &&& 63) = 20 then (
ck (vp_in (w3 + 1) len) <|
ck (vp_in (w3 + 2) len) <|
ck (vp_in (w3 + 3) len) <|
ck (okr R S) <|
b1 (R 27 0) fun t_283 =>
ck (isT t_283) <|
b2 (x10_seat t_283 (xs (ix (w3 + 1))) (xs (ix (w3 + 2))) (xs (ix (w3 + 3))) I) fun r287 I288 =>
ck (vp_in (w3 + 1) len) <|
ck (vp_in (w3 + 2) len) <|
ck (vp_in (w3 + 3) len) <|
b2 (x11_seat (xs (ix (w3 + 1))) (xs (ix (w3 + 2))) (xs (ix (w3 + 3))) I288) fun r292 I293 =>
if r287 = r292 then (
lt (w3 + 6) fun v294 =>
rec v294 I293 L R S) else
some (.inr ((0 : Int32), I293, L, R, S))) else
if ((xs (ix w3)) &&& 63) = 21 then (
ck (vp_in (w3 + 1) len) <|
ck (okr R S) <|
b1 (R 27 0) fun t_297 =>
ck (isT t_297) <|
b2 (x10_order t_297 (xs (ix (w3 + 1))) I) fun r301 I302 =>
ck (vp_in (w3 + 1) len) <|
b2 (x11_order (xs (ix (w3 + 1))) I302) fun r304 I305 =>
if r301 = r304 then (
lt (w3 + 6) fun v306 =>
rec v306 I305 L R S) else
some (.inr ((0 : Int32), I305, L, R, S))) else
if ((xs (ix w3)) &&& 63) = 22 then (
ck (vp_in (w3 + 1) len) <|
ck (vp_in (w3 + 2) len) <|
ck (vp_in (w3 + 3) len) <|
ck (okr R S) <|
b5 (x10_drives (xs (ix (w3 + 1))) (xs (ix (w3 + 2))) (xs (ix (w3 + 3))) I L R S) fun r312 I313 L314 R315 S316 =>
ck (vp_in (w3 + 1) len) <|
ck (vp_in (w3 + 2) len) <|
ck (vp_in (w3 + 3) len) <|
ck (okr R315 S316) <|
b2 (x11_drives (xs (ix (w3 + 1))) (xs (ix (w3 + 2))) (xs (ix (w3 + 3))) I313) fun r321 I322 =>
if r312 = r321 then (
lt (w3 + 6) fun v323 =>
rec v323 I322 L314 R315 S316) else
some (.inr ((0 : Int32), I322, L314, R315, S316))) else
if ((xs (ix w3)) &&& 63) = 23 then (
ck (vp_in (w3 + 1) len) <|
ck (okr R S) <|
b1 (R 27 0) fun t_326 =>
ck (isT t_326) <|
b2 (x10_gone t_326 (xs (ix (w3 + 1))) I) fun r330 I331 =>
ck (vp_in (w3 + 1) len) <|
b2 (x11_gone (xs (ix (w3 + 1))) I331) fun r333 I334 =>
if r330 = r333 then (
lt (w3 + 6) fun v335 =>
rec v335 I334 L R S) else
some (.inr ((0 : Int32), I334, L, R, S))) else
if ((xs (ix w3)) &&& 63) = 24 then (
ck (vp_in (w3 + 1) len) <|
ck (vp_in (w3 + 2) len) <|
ck (okr R S) <|
b1 (R 27 0) fun t_339 =>
ck (isT t_339) <|
b2 (x10_provide t_339 (xs (ix (w3 + 1))) (xs (ix (w3 + 2))) I) fun r343 I344 =>
ck (vp_in (w3 + 1) len) <|
ck (vp_in (w3 + 2) len) <|
b2 (x11_provide (xs (ix (w3 + 1))) (xs (ix (w3 + 2))) I344) fun r347 I348 =>
if r343 = r347 then (
lt (w3 + 6) fun v349 =>
rec v349 I348 L R S) else
some (.inr ((0 : Int32), I348, L, R, S))) else
if ((xs (ix w3)) &&& 63) = 25 then (
ck (vp_in (w3 + 1) len) <|
ck (vp_in (w3 + 2) len) <|
ck (okr R S) <|
b1 (R 27 0) fun t_353 =>
ck (isT t_353) <|
b2 (x10_nearest t_353 (xs (ix (w3 + 1))) (xs (ix (w3 + 2))) I) fun r357 I358 =>
ck (vp_in (w3 + 1) len) <|
ck (vp_in (w3 + 2) len) <|
b2 (x11_nearest (xs (ix (w3 + 1))) (xs (ix (w3 + 2))) I358) fun r361 I362 =>
if r357 = r361 then (
lt (w3 + 6) fun v363 =>
rec v363 I362 L R S) else
some (.inr ((0 : Int32), I362, L, R, S))) else
if ((xs (ix w3)) &&& 63) = 26 then (
ck (vp_in (w3 + 1) len) <|
ck (vp_in (w3 + 2) len) <|
ck (vp_in (w3 + 3) len) <|
ck (okr R S) <|
b5 (x10_waves (xs (ix (w3 + 1))) (xs (ix (w3 + 2))) (xs (ix (w3 + 3))) I L R S) fun r369 I370 L371 R372 S373 =>
ck (vp_in (w3 + 1) len) <|
ck (vp_in (w3 + 2) len) <|
ck (vp_in (w3 + 3) len) <|
ck (okr R372 S373) <|
b2 (x11_waves (xs (ix (w3 + 1))) (xs (ix (w3 + 2))) (xs (ix (w3 + 3))) I370) fun r378 I379 =>
if r369 = r378 then (
lt (w3 + 6) fun v380 =>
rec v380 I379 L371 R372 S373) else
some (.inr ((0 : Int32), I379, L371, R372, S373))) else
if ((xs (ix w3)) &&& 63) = 27 then (
ck (vp_in (w3 + 1) len) <|
ck (vp_in (w3 + 2) len) <|
ck (vp_in (w3 + 3) len) <|
ck (okr R S) <|
b1 (R 27 0) fun t_385 =>
ck (isT t_385) <|
b2 (x10_fill t_385 (xs (ix (w3 + 1))) (xs (ix (w3 + 2))) (xs (ix (w3 + 3))) I) fun r389 I390 =>
ck (vp_in (w3 + 1) len) <|
ck (vp_in (w3 + 2) len) <|
ck (vp_in (w3 + 3) len) <|
b2 (x11_fill (xs (ix (w3 + 1))) (xs (ix (w3 + 2))) (xs (ix (w3 + 3))) I390) fun r394 I395 =>
if r389 = r394 then (
lt (w3 + 6) fun v396 =>
rec v396 I395 L R S) else
some (.inr ((0 : Int32), I395, L, R, S))) else
if ((xs (ix w3)) &&& 63) = 28 then (
ck (vp_in (w3 + 1) len) <|
ck (vp_in (w3 + 2) len) <|
ck (okr R S) <|
b1 (R 27 0) fun t_400 =>
ck (isT t_400) <|
b1 (x10_coin t_400 (xs (ix (w3 + 1))) (xs (ix (w3 + 2))) I) fun r404 =>
ck (vp_in (w3 + 1) len) <|
ck (vp_in (w3 + 2) len) <|
b2 (x11_coin (xs (ix (w3 + 1))) (xs (ix (w3 + 2))) I) fun r407 I408 =>
if r404 = r407 then (
lt (w3 + 6) fun v409 =>
rec v409 I408 L R S) else
some (.inr ((0 : Int32), I408, L, R, S))) else
if ((xs (ix w3)) &&& 63) = 29 then (
ck (vp_in (w3 + 1) len) <|
ck (okr R S) <|
b1 (x10_lies (xs (ix (w3 + 1))) I) fun r413 =>
ck (vp_in (w3 + 1) len) <|
b1 (x11_lies (xs (ix (w3 + 1))) I) fun r415 =>
if r413 = r415 then (
lt (w3 + 6) fun v416 =>
rec v416 I L R S) else
some (.inr ((0 : Int32), I, L, R, S))) else
if ((xs (ix w3)) &&& 63) = 30 then (
ck (vp_in (w3 + 1) len) <|
ck (vp_in (w3 + 2) len) <|
ck (vp_in (w3 + 3) len) <|
ck (okr R S) <|
b1 (R 27 0) fun t_421 =>
ck (isT t_421) <|
b2 (x10_pick t_421 (xs (ix (w3 + 1))) (xs (ix (w3 + 2))) (xs (ix (w3 + 3))) I) fun r425 I426 =>
ck (vp_in (w3 + 1) len) <|
ck (vp_in (w3 + 2) len) <|
ck (vp_in (w3 + 3) len) <|
b2 (x11_pick (xs (ix (w3 + 1))) (xs (ix (w3 + 2))) (xs (ix (w3 + 3))) I426) fun r430 I431 =>
if r425 = r430 then (
lt (w3 + 6) fun v432 =>
rec v432 I431 L R S) else
some (.inr ((0 : Int32), I431, L, R, S))) else
if ((xs (ix w3)) &&& 63) = 31 then (
ck (vp_in (w3 + 1) len) <|
ck (okr R S) <|
b2 (x10_untell (xs (ix (w3 + 1))) I) fun r436 I437 =>
ck (vp_in (w3 + 1) len) <|
b2 (x11_untell (xs (ix (w3 + 1))) I437) fun r439 I440 =>
if r436 = r439 then (
lt (w3 + 6) fun v441 =>
rec v441 I440 L R S) else
some (.inr ((0 : Int32), I440, L, R, S))) else
if ((xs (ix w3)) &&& 63) = 32 then (
ck (vp_in (w3 + 1) len) <|
ck (okr R S) <|
b2 (x10_later (xs (ix (w3 + 1))) I) fun r445 I446 =>
ck (vp_in (w3 + 1) len) <|
b2 (x11_later (xs (ix (w3 + 1))) I446) fun r448 I449 =>
if r445 = r448 then (
lt (w3 + 6) fun v450 =>
rec v450 I449 L R S) else
some (.inr ((0 : Int32), I449, L, R, S))) else
if ((xs (ix w3)) &&& 63) = 33 then (
ck (vp_in (w3 + 1) len) <|
ck (okr R S) <|
b1 (R 27 0) fun t_453 =>
ck (isT t_453) <|
b2 (x10_fits t_453 (xs (ix (w3 + 1))) I) fun r457 I458 =>
ck (vp_in (w3 + 1) len) <|
b2 (x11_fits (xs (ix (w3 + 1))) I458) fun r460 I461 =>
if r457 = r460 then (
lt (w3 + 6) fun v462 =>
rec v462 I461 L R S) else
some (.inr ((0 : Int32), I461, L, R, S))) else
if ((xs (ix w3)) &&& 63) = 34 then (
ck (vp_in (w3 + 1) len) <|
ck (okr R S) <|
b1 (x10_chance (xs (ix (w3 + 1))) I) fun r466 =>
ck (vp_in (w3 + 1) len) <|
b1 (x11_chance (xs (ix (w3 + 1))) I) fun r468 =>
if (lg_cmp r466 r468) = 0 then (
lt (w3 + 6) fun v469 =>
rec v469 I L R S) else
some (.inr ((0 : Int32), I, L, R, S))) else
if ((xs (ix w3)) &&& 63) = 35 then (
ck (vp_in (w3 + 1) len) <|
ck (okr R S) <|
b5 (x10_image (xs (ix (w3 + 1))) I L R S) fun r473 I474 L475 R476 S477 =>
ck (vp_in (w3 + 1) len) <|
ck (okr R476 S477) <|
b2 (x11_image (xs (ix (w3 + 1))) I474) fun r480 I481 =>
if r473 = r480 then (
lt (w3 + 6) fun v482 =>
rec v482 I481 L475 R476 S477) else
some (.inr ((0 : Int32), I481, L475, R476, S477))) else
if ((xs (ix w3)) &&& 63) = 36 then (
ck (vp_in (w3 + 1) len) <|
ck (okr R S) <|
b5 (x10_back (xs (ix (w3 + 1))) I L R S) fun r486 I487 L488 R489 S490 =>
ck (vp_in (w3 + 1) len) <|
ck (okr R489 S490) <|
b2 (x11_back (xs (ix (w3 + 1))) I487) fun r493 I494 =>
if r486 = r493 then (
lt (w3 + 6) fun v495 =>
rec v495 I494 L488 R489 S490) else
some (.inr ((0 : Int32), I494, L488, R489, S490))) else
if ((xs (ix w3)) &&& 63) = 37 then (
ck (vp_in (w3 + 1) len) <|
ck (okr R S) <|
b1 (R 27 0) fun t_498 =>
ck (isT t_498) <|
b1 (x10_about t_498 (xs (ix (w3 + 1))) I) fun r502 =>
ck (vp_in (w3 + 1) len) <|
b2 (x11_about (xs (ix (w3 + 1))) I) fun r504 I505 =>
if r502 = r504 then (
lt (w3 + 6) fun v506 =>
rec v506 I505 L R S) else
some (.inr ((0 : Int32), I505, L, R, S))) else
lt (w3 + 6) fun v507 =>
rec v507 I L R S
noncomputable def lawF_L18 (xs : Nat → Int32) (len : Nat) : Nat → Int32 → MI → ML → MR → MS → Option ((MI × ML × MR × MS) ⊕ (Int32 × MI × ML × MR × MS))
  | 0 => fun _ _ _ _ _ => none
  | n + 1 => lawF_L18s xs len (lawF_L18 xs len n)
noncomputable def lawF (xs : Nat → Int32) (len : Nat) (I : MI) (L : ML) (R : MR) (S : MS) : Option (Int32 × MI × ML × MR × MS) :=
al (10, 15) I L R S fun o_1 I2 L3 R4 S5 =>
b4 (x10_init o_1 I2 L3 R4 S5) fun I6 L7 R8 S9 =>
ck (o_1 = 0) <|
al (11, 95) I6 L7 R8 S9 fun o_11 I12 L13 R14 S15 =>
b4 (x11_init o_11 I12 L13 R14 S15) fun I16 L17 R18 S19 =>
ck (o_11 = 102) <|
lt (0 : Int32) fun v21 =>
bE (lawF_L18 xs len FU v21 I16 L17 R18 S19) fun e508 =>
some ((1 : Int32), e508.1, e508.2.1, e508.2.2.1, e508.2.2.2)
theorem lawF_L18_ok {X : WX} {n0 s0 : Nat} {xs : Nat → Int32} {len : Nat} (hxs : xs = X.2.2.2.2.2.2.2) (hlen : len = X.2.2.2.2.2.2.1) : ∀ (n : Nat) (w3 : Int32) (I : MI) (L : ML) (R : MR) (S : MS), Sim X yL_law cL_law 4 (some .boolean) 2048 84000 n0 s0 18 [(0, .ref X.2.2.2.2.2.1), (1, .ref (X.1 + 0)), (2, .ref (X.1 + 102)), (3, .int w3)] [] (I, L, R, S) (lawF_L18 xs len n w3 I L R S) (SE (fun b f => Ex X yL_law cL_law 4 (some .boolean) 2048 84000 n0 s0 1331 [] [] (b.1, b.2.1, b.2.2.1, b.2.2.2) f) (fun a f => f = (fun r => (some (.int r.1), (r.2.1, r.2.2.1, r.2.2.2.1, r.2.2.2.2))) a)) := by
  subst hxs hlen
  intro n
  induction n with
  | zero =>
    intro w3 I L R S
    exact sm_none
  | succ n ih =>
    intro w3 I L R S
    change Sim _ _ _ _ _ _ _ _ _ _ _ _ _ (lawF_L18s xs len (lawF_L18 xs len n) w3 I L R S) _
    unfold lawF_L18s
    refine s_iload_n 3 dL_law_18 rfl rfl ?_
    refine s_aload_n 0 dL_law_19 rfl rfl ?_
    refine s_slen dL_law_20 rfl ?_
    refine s_bipush (v := 6) dL_law_21 rfl cB_6 ?_
    refine s_isub dL_law_23 rfl ?_
    refine s_icmp_gt (tgt := 1331) dL_law_24 rfl rfl (fun _ => ?_) (fun _ => ?_)
    · skip
      refine s_pick [] rfl ?_
      exact sm_exit (fun f h => h)
    · skip
      refine s_aload_n 0 dL_law_27 rfl rfl ?_
      refine s_iload_n 3 dL_law_28 rfl rfl ?_
      refine sm_ck (fun g22 => ?_)
      refine s_sld dL_law_29 rfl g22 ?_
      refine s_bipush (v := 63) dL_law_30 rfl cB_63 ?_
      refine s_iand dL_law_32 rfl ?_
      refine sm_ite (fun h23 => ?_) (fun h23 => ?_)
      · skip
        refine s_tin (tgt := 200) dL_law_33 (by rw [h23]; try decide) (by rw [h23]; try decide) (by rw [h23]; try rfl) rfl ?_
        refine s_aload_n 1 dL_law_200 rfl rfl ?_
        refine s_aload_n 0 dL_law_201 rfl rfl ?_
        refine s_iload_n 3 dL_law_202 rfl rfl ?_
        refine s_iconst (v := 1) dL_law_203 rfl cI_1 ?_
        refine s_iadd dL_law_204 rfl ?_
        refine sm_ck (fun g24 => ?_)
        refine s_sld dL_law_205 rfl g24 ?_
        refine s_aload_n 0 dL_law_206 rfl rfl ?_
        refine s_iload_n 3 dL_law_207 rfl rfl ?_
        refine s_iconst (v := 2) dL_law_208 rfl cI_2 ?_
        refine s_iadd dL_law_209 rfl ?_
        refine sm_ck (fun g25 => ?_)
        refine s_sld dL_law_210 rfl g25 ?_
        refine s_aload_n 0 dL_law_211 rfl rfl ?_
        refine s_iload_n 3 dL_law_212 rfl rfl ?_
        refine s_iconst (v := 3) dL_law_213 rfl cI_3 ?_
        refine s_iadd dL_law_214 rfl ?_
        refine sm_ck (fun g26 => ?_)
        refine s_sld dL_law_215 rfl g26 ?_
        refine s_aload_n 0 dL_law_216 rfl rfl ?_
        refine s_iload_n 3 dL_law_217 rfl rfl ?_
        refine s_iconst (v := 4) dL_law_218 rfl cI_4 ?_
        refine s_iadd dL_law_219 rfl ?_
        refine sm_ck (fun g27 => ?_)
        refine s_sld dL_law_220 rfl g27 ?_
        refine s_aload_n 0 dL_law_221 rfl rfl ?_
        refine s_iload_n 3 dL_law_222 rfl rfl ?_
        refine s_iconst (v := 5) dL_law_223 rfl cI_5 ?_
        refine s_iadd dL_law_224 rfl ?_
        refine sm_ck (fun g28 => ?_)
        refine s_sld dL_law_225 rfl g28 ?_
        refine sm_ck (fun g29 => ?_)
        refine s_callV5_i1 dL_law_226 rfl lkV_RL_13 (S_0 g29) (Nat.le_of_ble_eq_true rfl) (Nat.le_of_ble_eq_true rfl) (Nat.le_of_ble_eq_true rfl) (ct_x10_feed g29) (fun r30 I31 => ?_)
        refine s_aload_n 2 dL_law_229 rfl rfl ?_
        refine s_aload_n 0 dL_law_230 rfl rfl ?_
        refine s_iload_n 3 dL_law_231 rfl rfl ?_
        refine s_iconst (v := 1) dL_law_232 rfl cI_1 ?_
        refine s_iadd dL_law_233 rfl ?_
        refine sm_ck (fun g32 => ?_)
        refine s_sld dL_law_234 rfl g32 ?_
        refine s_aload_n 0 dL_law_235 rfl rfl ?_
        refine s_iload_n 3 dL_law_236 rfl rfl ?_
        refine s_iconst (v := 2) dL_law_237 rfl cI_2 ?_
        refine s_iadd dL_law_238 rfl ?_
        refine sm_ck (fun g33 => ?_)
        refine s_sld dL_law_239 rfl g33 ?_
        refine s_aload_n 0 dL_law_240 rfl rfl ?_
        refine s_iload_n 3 dL_law_241 rfl rfl ?_
        refine s_iconst (v := 3) dL_law_242 rfl cI_3 ?_
        refine s_iadd dL_law_243 rfl ?_
        refine sm_ck (fun g34 => ?_)
        refine s_sld dL_law_244 rfl g34 ?_
        refine s_aload_n 0 dL_law_245 rfl rfl ?_
        refine s_iload_n 3 dL_law_246 rfl rfl ?_
        refine s_iconst (v := 4) dL_law_247 rfl cI_4 ?_
        refine s_iadd dL_law_248 rfl ?_
        refine sm_ck (fun g35 => ?_)
        refine s_sld dL_law_249 rfl g35 ?_
        refine s_aload_n 0 dL_law_250 rfl rfl ?_
        refine s_iload_n 3 dL_law_251 rfl rfl ?_
        refine s_iconst (v := 5) dL_law_252 rfl cI_5 ?_
        refine s_iadd dL_law_253 rfl ?_
        refine sm_ck (fun g36 => ?_)
        refine s_sld dL_law_254 rfl g36 ?_
        refine s_callV5_i1 dL_law_255 rfl lkV_RL_17 (S_102 g29) (Nat.le_of_ble_eq_true rfl) (Nat.le_of_ble_eq_true rfl) (Nat.le_of_ble_eq_true rfl) (ct_x11_feed g29) (fun r37 I38 => ?_)
        refine s_icmp_eq (tgt := 1325) dL_law_258 rfl rfl (fun _ => ?_) (fun _ => ?_)
        · skip
          refine s_iincL 3 (c := 6) (fun v39 => [(3, .int v39), (0, .ref X.2.2.2.2.2.1), (1, .ref (X.1 + 0)), (2, .ref (X.1 + 102))]) dL_law_1325 rfl rfl cI_6 (by decide) (fun _ => rfl) (fun v39 => ?_)
          refine s_goto (tgt := 18) dL_law_1328 rfl ?_
          refine s_pick [1, 2, 3, 0] rfl ?_
          exact ih v39 I38 L R S
        · skip
          refine s_iconst (v := 0) dL_law_261 rfl cI_0 ?_
          exact s_zret dL_law_262 rfl (Or.inl rfl) (fun f h => h)
      refine sm_ite (fun h40 => ?_) (fun h40 => ?_)
      · skip
        refine s_tin (tgt := 263) dL_law_33 (by rw [h40]; try decide) (by rw [h40]; try decide) (by rw [h40]; try rfl) rfl ?_
        refine s_aload_n 1 dL_law_263 rfl rfl ?_
        refine s_aload_n 0 dL_law_264 rfl rfl ?_
        refine s_iload_n 3 dL_law_265 rfl rfl ?_
        refine s_iconst (v := 1) dL_law_266 rfl cI_1 ?_
        refine s_iadd dL_law_267 rfl ?_
        refine sm_ck (fun g41 => ?_)
        refine s_sld dL_law_268 rfl g41 ?_
        refine sm_ck (fun g42 => ?_)
        refine s_callV1_i1 dL_law_269 rfl lkV_RL_18 (S_0 g42) (Nat.le_of_ble_eq_true rfl) (Nat.le_of_ble_eq_true rfl) (Nat.le_of_ble_eq_true rfl) (ct_x10_end g42) (fun r43 I44 => ?_)
        refine s_aload_n 2 dL_law_272 rfl rfl ?_
        refine s_aload_n 0 dL_law_273 rfl rfl ?_
        refine s_iload_n 3 dL_law_274 rfl rfl ?_
        refine s_iconst (v := 1) dL_law_275 rfl cI_1 ?_
        refine s_iadd dL_law_276 rfl ?_
        refine sm_ck (fun g45 => ?_)
        refine s_sld dL_law_277 rfl g45 ?_
        refine s_callV1_i1 dL_law_278 rfl lkV_RL_22 (S_102 g42) (Nat.le_of_ble_eq_true rfl) (Nat.le_of_ble_eq_true rfl) (Nat.le_of_ble_eq_true rfl) (ct_x11_end g42) (fun r46 I47 => ?_)
        refine s_icmp_eq (tgt := 1325) dL_law_281 rfl rfl (fun _ => ?_) (fun _ => ?_)
        · skip
          refine s_iincL 3 (c := 6) (fun v48 => [(3, .int v48), (0, .ref X.2.2.2.2.2.1), (1, .ref (X.1 + 0)), (2, .ref (X.1 + 102))]) dL_law_1325 rfl rfl cI_6 (by decide) (fun _ => rfl) (fun v48 => ?_)
          refine s_goto (tgt := 18) dL_law_1328 rfl ?_
          refine s_pick [1, 2, 3, 0] rfl ?_
          exact ih v48 I47 L R S
        · skip
          refine s_iconst (v := 0) dL_law_284 rfl cI_0 ?_
          exact s_zret dL_law_285 rfl (Or.inl rfl) (fun f h => h)
      refine sm_ite (fun h49 => ?_) (fun h49 => ?_)
      · skip
        refine s_tin (tgt := 286) dL_law_33 (by rw [h49]; try decide) (by rw [h49]; try decide) (by rw [h49]; try rfl) rfl ?_
        refine s_aload_n 1 dL_law_286 rfl rfl ?_
        refine sm_ck (fun g50 => ?_)
        refine s_callV0_i3 dL_law_287 rfl lkV_RL_23 (S_0 g50) (Nat.le_of_ble_eq_true rfl) (Nat.le_of_ble_eq_true rfl) (Nat.le_of_ble_eq_true rfl) ct_x10_tub (fun r51 I52 L53 R54 S55 => ?_)
        refine s_aload_n 2 dL_law_290 rfl rfl ?_
        refine sm_ck (fun g56 => ?_)
        refine s_callV0_i2 dL_law_291 rfl lkV_RL_27 (S_102 g56) (Nat.le_of_ble_eq_true rfl) (Nat.le_of_ble_eq_true rfl) (Nat.le_of_ble_eq_true rfl) (ct_x11_tub g56) (fun r57 I58 L59 => ?_)
        refine s_icmp_eq (tgt := 1325) dL_law_294 rfl rfl (fun _ => ?_) (fun _ => ?_)
        · skip
          refine s_iincL 3 (c := 6) (fun v60 => [(3, .int v60), (0, .ref X.2.2.2.2.2.1), (1, .ref (X.1 + 0)), (2, .ref (X.1 + 102))]) dL_law_1325 rfl rfl cI_6 (by decide) (fun _ => rfl) (fun v60 => ?_)
          refine s_goto (tgt := 18) dL_law_1328 rfl ?_
          refine s_pick [1, 2, 3, 0] rfl ?_
          exact ih v60 I58 L59 R54 S55
        · skip
          refine s_iconst (v := 0) dL_law_297 rfl cI_0 ?_
          exact s_zret dL_law_298 rfl (Or.inl rfl) (fun f h => h)
      refine sm_ite (fun h61 => ?_) (fun h61 => ?_)
      · skip
        refine s_tin (tgt := 299) dL_law_33 (by rw [h61]; try decide) (by rw [h61]; try decide) (by rw [h61]; try rfl) rfl ?_
        refine s_aload_n 1 dL_law_299 rfl rfl ?_
        refine s_aload_n 0 dL_law_300 rfl rfl ?_
        refine s_iload_n 3 dL_law_301 rfl rfl ?_
        refine s_iconst (v := 1) dL_law_302 rfl cI_1 ?_
        refine s_iadd dL_law_303 rfl ?_
        refine sm_ck (fun g62 => ?_)
        refine s_sld dL_law_304 rfl g62 ?_
        refine sm_ck (fun g63 => ?_)
        refine s_callV1_i0 dL_law_305 rfl lkV_RL_28 (S_0 g63) (Nat.le_of_ble_eq_true rfl) (Nat.le_of_ble_eq_true rfl) (Nat.le_of_ble_eq_true rfl) (ct_x10_fault g63) (fun r64 => ?_)
        refine s_aload_n 2 dL_law_308 rfl rfl ?_
        refine s_aload_n 0 dL_law_309 rfl rfl ?_
        refine s_iload_n 3 dL_law_310 rfl rfl ?_
        refine s_iconst (v := 1) dL_law_311 rfl cI_1 ?_
        refine s_iadd dL_law_312 rfl ?_
        refine sm_ck (fun g65 => ?_)
        refine s_sld dL_law_313 rfl g65 ?_
        refine s_callV1_i0 dL_law_314 rfl lkV_RL_31 (S_102 g63) (Nat.le_of_ble_eq_true rfl) (Nat.le_of_ble_eq_true rfl) (Nat.le_of_ble_eq_true rfl) (ct_x11_fault g63) (fun r66 => ?_)
        refine s_icmp_eq (tgt := 1325) dL_law_317 rfl rfl (fun _ => ?_) (fun _ => ?_)
        · skip
          refine s_iincL 3 (c := 6) (fun v67 => [(3, .int v67), (0, .ref X.2.2.2.2.2.1), (1, .ref (X.1 + 0)), (2, .ref (X.1 + 102))]) dL_law_1325 rfl rfl cI_6 (by decide) (fun _ => rfl) (fun v67 => ?_)
          refine s_goto (tgt := 18) dL_law_1328 rfl ?_
          refine s_pick [1, 2, 3, 0] rfl ?_
          exact ih v67 I L R S
        · skip
          refine s_iconst (v := 0) dL_law_320 rfl cI_0 ?_
          exact s_zret dL_law_321 rfl (Or.inl rfl) (fun f h => h)
      refine sm_ite (fun h68 => ?_) (fun h68 => ?_)
      · skip
        refine s_tin (tgt := 322) dL_law_33 (by rw [h68]; try decide) (by rw [h68]; try decide) (by rw [h68]; try rfl) rfl ?_
        refine s_aload_n 1 dL_law_322 rfl rfl ?_
        refine s_aload_n 0 dL_law_323 rfl rfl ?_
        refine s_iload_n 3 dL_law_324 rfl rfl ?_
        refine s_iconst (v := 1) dL_law_325 rfl cI_1 ?_
        refine s_iadd dL_law_326 rfl ?_
        refine sm_ck (fun g69 => ?_)
        refine s_sld dL_law_327 rfl g69 ?_
        refine s_aload_n 0 dL_law_328 rfl rfl ?_
        refine s_iload_n 3 dL_law_329 rfl rfl ?_
        refine s_iconst (v := 2) dL_law_330 rfl cI_2 ?_
        refine s_iadd dL_law_331 rfl ?_
        refine sm_ck (fun g70 => ?_)
        refine s_sld dL_law_332 rfl g70 ?_
        refine sm_ck (fun g73 => ?_)
        refine sm_b1 (fun t_71 h72 => ?_)
        refine sm_ck (fun g74 => ?_)
        refine s_callV2_i0 dL_law_333 rfl lkV_RL_32 (S_0 g73) (Nat.le_of_ble_eq_true rfl) (Nat.le_of_ble_eq_true rfl) (Nat.le_of_ble_eq_true rfl) (ct_x10_apple g73 (⟨h72, g74⟩)) (fun r75 => ?_)
        refine s_aload_n 2 dL_law_336 rfl rfl ?_
        refine s_aload_n 0 dL_law_337 rfl rfl ?_
        refine s_iload_n 3 dL_law_338 rfl rfl ?_
        refine s_iconst (v := 1) dL_law_339 rfl cI_1 ?_
        refine s_iadd dL_law_340 rfl ?_
        refine sm_ck (fun g76 => ?_)
        refine s_sld dL_law_341 rfl g76 ?_
        refine s_aload_n 0 dL_law_342 rfl rfl ?_
        refine s_iload_n 3 dL_law_343 rfl rfl ?_
        refine s_iconst (v := 2) dL_law_344 rfl cI_2 ?_
        refine s_iadd dL_law_345 rfl ?_
        refine sm_ck (fun g77 => ?_)
        refine s_sld dL_law_346 rfl g77 ?_
        refine s_callV2_i0 dL_law_347 rfl lkV_RL_36 (S_102 g73) (Nat.le_of_ble_eq_true rfl) (Nat.le_of_ble_eq_true rfl) (Nat.le_of_ble_eq_true rfl) (ct_x11_apple g73) (fun r78 => ?_)
        refine s_icmp_eq (tgt := 1325) dL_law_350 rfl rfl (fun _ => ?_) (fun _ => ?_)
        · skip
          refine s_iincL 3 (c := 6) (fun v79 => [(3, .int v79), (0, .ref X.2.2.2.2.2.1), (1, .ref (X.1 + 0)), (2, .ref (X.1 + 102))]) dL_law_1325 rfl rfl cI_6 (by decide) (fun _ => rfl) (fun v79 => ?_)
          refine s_goto (tgt := 18) dL_law_1328 rfl ?_
          refine s_pick [1, 2, 3, 0] rfl ?_
          exact ih v79 I L R S
        · skip
          refine s_iconst (v := 0) dL_law_353 rfl cI_0 ?_
          exact s_zret dL_law_354 rfl (Or.inl rfl) (fun f h => h)
      refine sm_ite (fun h80 => ?_) (fun h80 => ?_)
      · skip
        refine s_tin (tgt := 355) dL_law_33 (by rw [h80]; try decide) (by rw [h80]; try decide) (by rw [h80]; try rfl) rfl ?_
        refine s_aload_n 1 dL_law_355 rfl rfl ?_
        refine s_aload_n 0 dL_law_356 rfl rfl ?_
        refine s_iload_n 3 dL_law_357 rfl rfl ?_
        refine s_iconst (v := 1) dL_law_358 rfl cI_1 ?_
        refine s_iadd dL_law_359 rfl ?_
        refine sm_ck (fun g81 => ?_)
        refine s_sld dL_law_360 rfl g81 ?_
        refine s_aload_n 0 dL_law_361 rfl rfl ?_
        refine s_iload_n 3 dL_law_362 rfl rfl ?_
        refine s_iconst (v := 2) dL_law_363 rfl cI_2 ?_
        refine s_iadd dL_law_364 rfl ?_
        refine sm_ck (fun g82 => ?_)
        refine s_sld dL_law_365 rfl g82 ?_
        refine sm_ck (fun g85 => ?_)
        refine sm_b1 (fun t_83 h84 => ?_)
        refine sm_ck (fun g86 => ?_)
        refine s_callV2_i0 dL_law_366 rfl lkV_RL_37 (S_0 g85) (Nat.le_of_ble_eq_true rfl) (Nat.le_of_ble_eq_true rfl) (Nat.le_of_ble_eq_true rfl) (ct_x10_bobber g85 (⟨h84, g86⟩)) (fun r87 => ?_)
        refine s_aload_n 2 dL_law_369 rfl rfl ?_
        refine s_aload_n 0 dL_law_370 rfl rfl ?_
        refine s_iload_n 3 dL_law_371 rfl rfl ?_
        refine s_iconst (v := 1) dL_law_372 rfl cI_1 ?_
        refine s_iadd dL_law_373 rfl ?_
        refine sm_ck (fun g88 => ?_)
        refine s_sld dL_law_374 rfl g88 ?_
        refine s_aload_n 0 dL_law_375 rfl rfl ?_
        refine s_iload_n 3 dL_law_376 rfl rfl ?_
        refine s_iconst (v := 2) dL_law_377 rfl cI_2 ?_
        refine s_iadd dL_law_378 rfl ?_
        refine sm_ck (fun g89 => ?_)
        refine s_sld dL_law_379 rfl g89 ?_
        refine s_callV2_i0 dL_law_380 rfl lkV_RL_40 (S_102 g85) (Nat.le_of_ble_eq_true rfl) (Nat.le_of_ble_eq_true rfl) (Nat.le_of_ble_eq_true rfl) (ct_x11_bobber g85) (fun r90 => ?_)
        refine s_icmp_eq (tgt := 1325) dL_law_383 rfl rfl (fun _ => ?_) (fun _ => ?_)
        · skip
          refine s_iincL 3 (c := 6) (fun v91 => [(3, .int v91), (0, .ref X.2.2.2.2.2.1), (1, .ref (X.1 + 0)), (2, .ref (X.1 + 102))]) dL_law_1325 rfl rfl cI_6 (by decide) (fun _ => rfl) (fun v91 => ?_)
          refine s_goto (tgt := 18) dL_law_1328 rfl ?_
          refine s_pick [1, 2, 3, 0] rfl ?_
          exact ih v91 I L R S
        · skip
          refine s_iconst (v := 0) dL_law_386 rfl cI_0 ?_
          exact s_zret dL_law_387 rfl (Or.inl rfl) (fun f h => h)
      refine sm_ite (fun h92 => ?_) (fun h92 => ?_)
      · skip
        refine s_tin (tgt := 388) dL_law_33 (by rw [h92]; try decide) (by rw [h92]; try decide) (by rw [h92]; try rfl) rfl ?_
        refine s_aload_n 1 dL_law_388 rfl rfl ?_
        refine s_aload_n 0 dL_law_389 rfl rfl ?_
        refine s_iload_n 3 dL_law_390 rfl rfl ?_
        refine s_iconst (v := 1) dL_law_391 rfl cI_1 ?_
        refine s_iadd dL_law_392 rfl ?_
        refine sm_ck (fun g93 => ?_)
        refine s_sld dL_law_393 rfl g93 ?_
        refine s_aload_n 0 dL_law_394 rfl rfl ?_
        refine s_iload_n 3 dL_law_395 rfl rfl ?_
        refine s_iconst (v := 2) dL_law_396 rfl cI_2 ?_
        refine s_iadd dL_law_397 rfl ?_
        refine sm_ck (fun g94 => ?_)
        refine s_sld dL_law_398 rfl g94 ?_
        refine s_aload_n 0 dL_law_399 rfl rfl ?_
        refine s_iload_n 3 dL_law_400 rfl rfl ?_
        refine s_iconst (v := 3) dL_law_401 rfl cI_3 ?_
        refine s_iadd dL_law_402 rfl ?_
        refine sm_ck (fun g95 => ?_)
        refine s_sld dL_law_403 rfl g95 ?_
        refine sm_ck (fun g98 => ?_)
        refine sm_b1 (fun t_96 h97 => ?_)
        refine sm_ck (fun g99 => ?_)
        refine s_callV3_i1 dL_law_404 rfl lkV_RL_41 (S_0 g98) (Nat.le_of_ble_eq_true rfl) (Nat.le_of_ble_eq_true rfl) (Nat.le_of_ble_eq_true rfl) (ct_x10_odds g98 (⟨h97, g99⟩)) (fun r100 I101 => ?_)
        refine s_aload_n 2 dL_law_407 rfl rfl ?_
        refine s_aload_n 0 dL_law_408 rfl rfl ?_
        refine s_iload_n 3 dL_law_409 rfl rfl ?_
        refine s_iconst (v := 1) dL_law_410 rfl cI_1 ?_
        refine s_iadd dL_law_411 rfl ?_
        refine sm_ck (fun g102 => ?_)
        refine s_sld dL_law_412 rfl g102 ?_
        refine s_aload_n 0 dL_law_413 rfl rfl ?_
        refine s_iload_n 3 dL_law_414 rfl rfl ?_
        refine s_iconst (v := 2) dL_law_415 rfl cI_2 ?_
        refine s_iadd dL_law_416 rfl ?_
        refine sm_ck (fun g103 => ?_)
        refine s_sld dL_law_417 rfl g103 ?_
        refine s_aload_n 0 dL_law_418 rfl rfl ?_
        refine s_iload_n 3 dL_law_419 rfl rfl ?_
        refine s_iconst (v := 3) dL_law_420 rfl cI_3 ?_
        refine s_iadd dL_law_421 rfl ?_
        refine sm_ck (fun g104 => ?_)
        refine s_sld dL_law_422 rfl g104 ?_
        refine s_callV3_i1 dL_law_423 rfl lkV_RL_45 (S_102 g98) (Nat.le_of_ble_eq_true rfl) (Nat.le_of_ble_eq_true rfl) (Nat.le_of_ble_eq_true rfl) (ct_x11_odds g98) (fun r105 I106 => ?_)
        refine s_icmp_eq (tgt := 1325) dL_law_426 rfl rfl (fun _ => ?_) (fun _ => ?_)
        · skip
          refine s_iincL 3 (c := 6) (fun v107 => [(3, .int v107), (0, .ref X.2.2.2.2.2.1), (1, .ref (X.1 + 0)), (2, .ref (X.1 + 102))]) dL_law_1325 rfl rfl cI_6 (by decide) (fun _ => rfl) (fun v107 => ?_)
          refine s_goto (tgt := 18) dL_law_1328 rfl ?_
          refine s_pick [1, 2, 3, 0] rfl ?_
          exact ih v107 I106 L R S
        · skip
          refine s_iconst (v := 0) dL_law_429 rfl cI_0 ?_
          exact s_zret dL_law_430 rfl (Or.inl rfl) (fun f h => h)
      refine sm_ite (fun h108 => ?_) (fun h108 => ?_)
      · skip
        refine s_tin (tgt := 431) dL_law_33 (by rw [h108]; try decide) (by rw [h108]; try decide) (by rw [h108]; try rfl) rfl ?_
        refine s_aload_n 1 dL_law_431 rfl rfl ?_
        refine s_aload_n 0 dL_law_432 rfl rfl ?_
        refine s_iload_n 3 dL_law_433 rfl rfl ?_
        refine s_iconst (v := 1) dL_law_434 rfl cI_1 ?_
        refine s_iadd dL_law_435 rfl ?_
        refine sm_ck (fun g109 => ?_)
        refine s_sld dL_law_436 rfl g109 ?_
        refine sm_ck (fun g112 => ?_)
        refine sm_b1 (fun t_110 h111 => ?_)
        refine sm_ck (fun g113 => ?_)
        refine s_callV1_i1 dL_law_437 rfl lkV_RL_46 (S_0 g112) (Nat.le_of_ble_eq_true rfl) (Nat.le_of_ble_eq_true rfl) (Nat.le_of_ble_eq_true rfl) (ct_x10_chooses g112 (⟨h111, g113⟩)) (fun r114 I115 => ?_)
        refine s_aload_n 2 dL_law_440 rfl rfl ?_
        refine s_aload_n 0 dL_law_441 rfl rfl ?_
        refine s_iload_n 3 dL_law_442 rfl rfl ?_
        refine s_iconst (v := 1) dL_law_443 rfl cI_1 ?_
        refine s_iadd dL_law_444 rfl ?_
        refine sm_ck (fun g116 => ?_)
        refine s_sld dL_law_445 rfl g116 ?_
        refine s_callV1_i1 dL_law_446 rfl lkV_RL_49 (S_102 g112) (Nat.le_of_ble_eq_true rfl) (Nat.le_of_ble_eq_true rfl) (Nat.le_of_ble_eq_true rfl) (ct_x11_chooses g112) (fun r117 I118 => ?_)
        refine s_icmp_eq (tgt := 1325) dL_law_449 rfl rfl (fun _ => ?_) (fun _ => ?_)
        · skip
          refine s_iincL 3 (c := 6) (fun v119 => [(3, .int v119), (0, .ref X.2.2.2.2.2.1), (1, .ref (X.1 + 0)), (2, .ref (X.1 + 102))]) dL_law_1325 rfl rfl cI_6 (by decide) (fun _ => rfl) (fun v119 => ?_)
          refine s_goto (tgt := 18) dL_law_1328 rfl ?_
          refine s_pick [1, 2, 3, 0] rfl ?_
          exact ih v119 I118 L R S
        · skip
          refine s_iconst (v := 0) dL_law_452 rfl cI_0 ?_
          exact s_zret dL_law_453 rfl (Or.inl rfl) (fun f h => h)
      refine sm_ite (fun h120 => ?_) (fun h120 => ?_)
      · skip
        refine s_tin (tgt := 454) dL_law_33 (by rw [h120]; try decide) (by rw [h120]; try decide) (by rw [h120]; try rfl) rfl ?_
        refine s_aload_n 1 dL_law_454 rfl rfl ?_
        refine s_aload_n 0 dL_law_455 rfl rfl ?_
        refine s_iload_n 3 dL_law_456 rfl rfl ?_
        refine s_iconst (v := 1) dL_law_457 rfl cI_1 ?_
        refine s_iadd dL_law_458 rfl ?_
        refine sm_ck (fun g121 => ?_)
        refine s_sld dL_law_459 rfl g121 ?_
        refine s_aload_n 0 dL_law_460 rfl rfl ?_
        refine s_iload_n 3 dL_law_461 rfl rfl ?_
        refine s_iconst (v := 2) dL_law_462 rfl cI_2 ?_
        refine s_iadd dL_law_463 rfl ?_
        refine sm_ck (fun g122 => ?_)
        refine s_sld dL_law_464 rfl g122 ?_
        refine s_aload_n 0 dL_law_465 rfl rfl ?_
        refine s_iload_n 3 dL_law_466 rfl rfl ?_
        refine s_iconst (v := 3) dL_law_467 rfl cI_3 ?_
        refine s_iadd dL_law_468 rfl ?_
        refine sm_ck (fun g123 => ?_)
        refine s_sld dL_law_469 rfl g123 ?_
        refine sm_ck (fun g124 => ?_)
        refine s_callV3_i3 dL_law_470 rfl lkV_RL_50 (S_0 g124) (Nat.le_of_ble_eq_true rfl) (Nat.le_of_ble_eq_true rfl) (Nat.le_of_ble_eq_true rfl) ct_x10_go (fun r125 I126 L127 R128 S129 => ?_)
        refine s_aload_n 2 dL_law_473 rfl rfl ?_
        refine s_aload_n 0 dL_law_474 rfl rfl ?_
        refine s_iload_n 3 dL_law_475 rfl rfl ?_
        refine s_iconst (v := 1) dL_law_476 rfl cI_1 ?_
        refine s_iadd dL_law_477 rfl ?_
        refine sm_ck (fun g130 => ?_)
        refine s_sld dL_law_478 rfl g130 ?_
        refine s_aload_n 0 dL_law_479 rfl rfl ?_
        refine s_iload_n 3 dL_law_480 rfl rfl ?_
        refine s_iconst (v := 2) dL_law_481 rfl cI_2 ?_
        refine s_iadd dL_law_482 rfl ?_
        refine sm_ck (fun g131 => ?_)
        refine s_sld dL_law_483 rfl g131 ?_
        refine s_aload_n 0 dL_law_484 rfl rfl ?_
        refine s_iload_n 3 dL_law_485 rfl rfl ?_
        refine s_iconst (v := 3) dL_law_486 rfl cI_3 ?_
        refine s_iadd dL_law_487 rfl ?_
        refine sm_ck (fun g132 => ?_)
        refine s_sld dL_law_488 rfl g132 ?_
        refine sm_ck (fun g133 => ?_)
        refine s_callV3_i1 dL_law_489 rfl lkV_RL_53 (S_102 g133) (Nat.le_of_ble_eq_true rfl) (Nat.le_of_ble_eq_true rfl) (Nat.le_of_ble_eq_true rfl) (ct_x11_go g133) (fun r134 I135 => ?_)
        refine s_icmp_eq (tgt := 1325) dL_law_492 rfl rfl (fun _ => ?_) (fun _ => ?_)
        · skip
          refine s_iincL 3 (c := 6) (fun v136 => [(3, .int v136), (0, .ref X.2.2.2.2.2.1), (1, .ref (X.1 + 0)), (2, .ref (X.1 + 102))]) dL_law_1325 rfl rfl cI_6 (by decide) (fun _ => rfl) (fun v136 => ?_)
          refine s_goto (tgt := 18) dL_law_1328 rfl ?_
          refine s_pick [1, 2, 3, 0] rfl ?_
          exact ih v136 I135 L127 R128 S129
        · skip
          refine s_iconst (v := 0) dL_law_495 rfl cI_0 ?_
          exact s_zret dL_law_496 rfl (Or.inl rfl) (fun f h => h)
      refine sm_ite (fun h137 => ?_) (fun h137 => ?_)
      · skip
        refine s_tin (tgt := 497) dL_law_33 (by rw [h137]; try decide) (by rw [h137]; try decide) (by rw [h137]; try rfl) rfl ?_
        refine s_aload_n 1 dL_law_497 rfl rfl ?_
        refine s_aload_n 0 dL_law_498 rfl rfl ?_
        refine s_iload_n 3 dL_law_499 rfl rfl ?_
        refine s_iconst (v := 1) dL_law_500 rfl cI_1 ?_
        refine s_iadd dL_law_501 rfl ?_
        refine sm_ck (fun g138 => ?_)
        refine s_sld dL_law_502 rfl g138 ?_
        refine sm_ck (fun g139 => ?_)
        refine s_callV1_i3 dL_law_503 rfl lkV_RL_54 (S_0 g139) (Nat.le_of_ble_eq_true rfl) (Nat.le_of_ble_eq_true rfl) (Nat.le_of_ble_eq_true rfl) ct_x10_breathe (fun r140 I141 L142 R143 S144 => ?_)
        refine s_aload_n 2 dL_law_506 rfl rfl ?_
        refine s_aload_n 0 dL_law_507 rfl rfl ?_
        refine s_iload_n 3 dL_law_508 rfl rfl ?_
        refine s_iconst (v := 1) dL_law_509 rfl cI_1 ?_
        refine s_iadd dL_law_510 rfl ?_
        refine sm_ck (fun g145 => ?_)
        refine s_sld dL_law_511 rfl g145 ?_
        refine sm_ck (fun g146 => ?_)
        refine s_callV1_i1 dL_law_512 rfl lkV_RL_57 (S_102 g146) (Nat.le_of_ble_eq_true rfl) (Nat.le_of_ble_eq_true rfl) (Nat.le_of_ble_eq_true rfl) (ct_x11_breathe g146) (fun r147 I148 => ?_)
        refine s_icmp_eq (tgt := 1325) dL_law_515 rfl rfl (fun _ => ?_) (fun _ => ?_)
        · skip
          refine s_iincL 3 (c := 6) (fun v149 => [(3, .int v149), (0, .ref X.2.2.2.2.2.1), (1, .ref (X.1 + 0)), (2, .ref (X.1 + 102))]) dL_law_1325 rfl rfl cI_6 (by decide) (fun _ => rfl) (fun v149 => ?_)
          refine s_goto (tgt := 18) dL_law_1328 rfl ?_
          refine s_pick [1, 2, 3, 0] rfl ?_
          exact ih v149 I148 L142 R143 S144
        · skip
          refine s_iconst (v := 0) dL_law_518 rfl cI_0 ?_
          exact s_zret dL_law_519 rfl (Or.inl rfl) (fun f h => h)
      refine sm_ite (fun h150 => ?_) (fun h150 => ?_)
      · skip
        refine s_tin (tgt := 520) dL_law_33 (by rw [h150]; try decide) (by rw [h150]; try decide) (by rw [h150]; try rfl) rfl ?_
        refine s_aload_n 1 dL_law_520 rfl rfl ?_
        refine s_aload_n 0 dL_law_521 rfl rfl ?_
        refine s_iload_n 3 dL_law_522 rfl rfl ?_
        refine s_iconst (v := 1) dL_law_523 rfl cI_1 ?_
        refine s_iadd dL_law_524 rfl ?_
        refine sm_ck (fun g151 => ?_)
        refine s_sld dL_law_525 rfl g151 ?_
        refine sm_ck (fun g152 => ?_)
        refine s_callV1_i3 dL_law_526 rfl lkV_RL_58 (S_0 g152) (Nat.le_of_ble_eq_true rfl) (Nat.le_of_ble_eq_true rfl) (Nat.le_of_ble_eq_true rfl) ct_x10_wave (fun r153 I154 L155 R156 S157 => ?_)
        refine s_aload_n 2 dL_law_529 rfl rfl ?_
        refine s_aload_n 0 dL_law_530 rfl rfl ?_
        refine s_iload_n 3 dL_law_531 rfl rfl ?_
        refine s_iconst (v := 1) dL_law_532 rfl cI_1 ?_
        refine s_iadd dL_law_533 rfl ?_
        refine sm_ck (fun g158 => ?_)
        refine s_sld dL_law_534 rfl g158 ?_
        refine sm_ck (fun g159 => ?_)
        refine s_callV1_i1 dL_law_535 rfl lkV_RL_61 (S_102 g159) (Nat.le_of_ble_eq_true rfl) (Nat.le_of_ble_eq_true rfl) (Nat.le_of_ble_eq_true rfl) (ct_x11_wave g159) (fun r160 I161 => ?_)
        refine s_icmp_eq (tgt := 1325) dL_law_538 rfl rfl (fun _ => ?_) (fun _ => ?_)
        · skip
          refine s_iincL 3 (c := 6) (fun v162 => [(3, .int v162), (0, .ref X.2.2.2.2.2.1), (1, .ref (X.1 + 0)), (2, .ref (X.1 + 102))]) dL_law_1325 rfl rfl cI_6 (by decide) (fun _ => rfl) (fun v162 => ?_)
          refine s_goto (tgt := 18) dL_law_1328 rfl ?_
          refine s_pick [1, 2, 3, 0] rfl ?_
          exact ih v162 I161 L155 R156 S157
        · skip
          refine s_iconst (v := 0) dL_law_541 rfl cI_0 ?_
          exact s_zret dL_law_542 rfl (Or.inl rfl) (fun f h => h)
      refine sm_ite (fun h163 => ?_) (fun h163 => ?_)
      · skip
        refine s_tin (tgt := 543) dL_law_33 (by rw [h163]; try decide) (by rw [h163]; try decide) (by rw [h163]; try rfl) rfl ?_
        refine s_aload_n 1 dL_law_543 rfl rfl ?_
        refine s_aload_n 0 dL_law_544 rfl rfl ?_
        refine s_iload_n 3 dL_law_545 rfl rfl ?_
        refine s_iconst (v := 1) dL_law_546 rfl cI_1 ?_
        refine s_iadd dL_law_547 rfl ?_
        refine sm_ck (fun g164 => ?_)
        refine s_sld dL_law_548 rfl g164 ?_
        refine sm_ck (fun g165 => ?_)
        refine s_callV1_i3 dL_law_549 rfl lkV_RL_62 (S_0 g165) (Nat.le_of_ble_eq_true rfl) (Nat.le_of_ble_eq_true rfl) (Nat.le_of_ble_eq_true rfl) ct_x10_party (fun r166 I167 L168 R169 S170 => ?_)
        refine s_aload_n 2 dL_law_552 rfl rfl ?_
        refine s_aload_n 0 dL_law_553 rfl rfl ?_
        refine s_iload_n 3 dL_law_554 rfl rfl ?_
        refine s_iconst (v := 1) dL_law_555 rfl cI_1 ?_
        refine s_iadd dL_law_556 rfl ?_
        refine sm_ck (fun g171 => ?_)
        refine s_sld dL_law_557 rfl g171 ?_
        refine sm_ck (fun g172 => ?_)
        refine s_callV1_i1 dL_law_558 rfl lkV_RL_65 (S_102 g172) (Nat.le_of_ble_eq_true rfl) (Nat.le_of_ble_eq_true rfl) (Nat.le_of_ble_eq_true rfl) (ct_x11_party g172) (fun r173 I174 => ?_)
        refine s_icmp_eq (tgt := 1325) dL_law_561 rfl rfl (fun _ => ?_) (fun _ => ?_)
        · skip
          refine s_iincL 3 (c := 6) (fun v175 => [(3, .int v175), (0, .ref X.2.2.2.2.2.1), (1, .ref (X.1 + 0)), (2, .ref (X.1 + 102))]) dL_law_1325 rfl rfl cI_6 (by decide) (fun _ => rfl) (fun v175 => ?_)
          refine s_goto (tgt := 18) dL_law_1328 rfl ?_
          refine s_pick [1, 2, 3, 0] rfl ?_
          exact ih v175 I174 L168 R169 S170
        · skip
          refine s_iconst (v := 0) dL_law_564 rfl cI_0 ?_
          exact s_zret dL_law_565 rfl (Or.inl rfl) (fun f h => h)
      refine sm_ite (fun h176 => ?_) (fun h176 => ?_)
      · skip
        refine s_tin (tgt := 566) dL_law_33 (by rw [h176]; try decide) (by rw [h176]; try decide) (by rw [h176]; try rfl) rfl ?_
        refine s_aload_n 1 dL_law_566 rfl rfl ?_
        refine sm_ck (fun g177 => ?_)
        refine s_callV0_i3 dL_law_567 rfl lkV_RL_66 (S_0 g177) (Nat.le_of_ble_eq_true rfl) (Nat.le_of_ble_eq_true rfl) (Nat.le_of_ble_eq_true rfl) ct_x10_undo (fun r178 I179 L180 R181 S182 => ?_)
        refine s_aload_n 2 dL_law_570 rfl rfl ?_
        refine sm_ck (fun g183 => ?_)
        refine s_callV0_i1 dL_law_571 rfl lkV_RL_70 (S_102 g183) (Nat.le_of_ble_eq_true rfl) (Nat.le_of_ble_eq_true rfl) (Nat.le_of_ble_eq_true rfl) (ct_x11_undo g183) (fun r184 I185 => ?_)
        refine s_icmp_eq (tgt := 1325) dL_law_574 rfl rfl (fun _ => ?_) (fun _ => ?_)
        · skip
          refine s_iincL 3 (c := 6) (fun v186 => [(3, .int v186), (0, .ref X.2.2.2.2.2.1), (1, .ref (X.1 + 0)), (2, .ref (X.1 + 102))]) dL_law_1325 rfl rfl cI_6 (by decide) (fun _ => rfl) (fun v186 => ?_)
          refine s_goto (tgt := 18) dL_law_1328 rfl ?_
          refine s_pick [1, 2, 3, 0] rfl ?_
          exact ih v186 I185 L180 R181 S182
        · skip
          refine s_iconst (v := 0) dL_law_577 rfl cI_0 ?_
          exact s_zret dL_law_578 rfl (Or.inl rfl) (fun f h => h)
      refine sm_ite (fun h187 => ?_) (fun h187 => ?_)
      · skip
        refine s_tin (tgt := 579) dL_law_33 (by rw [h187]; try decide) (by rw [h187]; try decide) (by rw [h187]; try rfl) rfl ?_
        refine s_aload_n 1 dL_law_579 rfl rfl ?_
        refine sm_ck (fun g188 => ?_)
        refine s_callV0_i3 dL_law_580 rfl lkV_RL_71 (S_0 g188) (Nat.le_of_ble_eq_true rfl) (Nat.le_of_ble_eq_true rfl) (Nat.le_of_ble_eq_true rfl) ct_x10_redo (fun r189 I190 L191 R192 S193 => ?_)
        refine s_aload_n 2 dL_law_583 rfl rfl ?_
        refine sm_ck (fun g194 => ?_)
        refine s_callV0_i1 dL_law_584 rfl lkV_RL_74 (S_102 g194) (Nat.le_of_ble_eq_true rfl) (Nat.le_of_ble_eq_true rfl) (Nat.le_of_ble_eq_true rfl) (ct_x11_redo g194) (fun r195 I196 => ?_)
        refine s_icmp_eq (tgt := 1325) dL_law_587 rfl rfl (fun _ => ?_) (fun _ => ?_)
        · skip
          refine s_iincL 3 (c := 6) (fun v197 => [(3, .int v197), (0, .ref X.2.2.2.2.2.1), (1, .ref (X.1 + 0)), (2, .ref (X.1 + 102))]) dL_law_1325 rfl rfl cI_6 (by decide) (fun _ => rfl) (fun v197 => ?_)
          refine s_goto (tgt := 18) dL_law_1328 rfl ?_
          refine s_pick [1, 2, 3, 0] rfl ?_
          exact ih v197 I196 L191 R192 S193
        · skip
          refine s_iconst (v := 0) dL_law_590 rfl cI_0 ?_
          exact s_zret dL_law_591 rfl (Or.inl rfl) (fun f h => h)
      refine sm_ite (fun h198 => ?_) (fun h198 => ?_)
      · skip
        refine s_tin (tgt := 592) dL_law_33 (by rw [h198]; try decide) (by rw [h198]; try decide) (by rw [h198]; try rfl) rfl ?_
        refine s_aload_n 1 dL_law_592 rfl rfl ?_
        refine s_aload_n 0 dL_law_593 rfl rfl ?_
        refine s_iload_n 3 dL_law_594 rfl rfl ?_
        refine s_iconst (v := 1) dL_law_595 rfl cI_1 ?_
        refine s_iadd dL_law_596 rfl ?_
        refine sm_ck (fun g199 => ?_)
        refine s_sld dL_law_597 rfl g199 ?_
        refine s_aload_n 0 dL_law_598 rfl rfl ?_
        refine s_iload_n 3 dL_law_599 rfl rfl ?_
        refine s_iconst (v := 2) dL_law_600 rfl cI_2 ?_
        refine s_iadd dL_law_601 rfl ?_
        refine sm_ck (fun g200 => ?_)
        refine s_sld dL_law_602 rfl g200 ?_
        refine s_aload_n 0 dL_law_603 rfl rfl ?_
        refine s_iload_n 3 dL_law_604 rfl rfl ?_
        refine s_iconst (v := 3) dL_law_605 rfl cI_3 ?_
        refine s_iadd dL_law_606 rfl ?_
        refine sm_ck (fun g201 => ?_)
        refine s_sld dL_law_607 rfl g201 ?_
        refine sm_ck (fun g202 => ?_)
        refine s_callV3_i3 dL_law_608 rfl lkV_RL_75 (S_0 g202) (Nat.le_of_ble_eq_true rfl) (Nat.le_of_ble_eq_true rfl) (Nat.le_of_ble_eq_true rfl) ct_x10_best (fun r203 I204 L205 R206 S207 => ?_)
        refine s_aload_n 2 dL_law_611 rfl rfl ?_
        refine s_aload_n 0 dL_law_612 rfl rfl ?_
        refine s_iload_n 3 dL_law_613 rfl rfl ?_
        refine s_iconst (v := 1) dL_law_614 rfl cI_1 ?_
        refine s_iadd dL_law_615 rfl ?_
        refine sm_ck (fun g208 => ?_)
        refine s_sld dL_law_616 rfl g208 ?_
        refine s_aload_n 0 dL_law_617 rfl rfl ?_
        refine s_iload_n 3 dL_law_618 rfl rfl ?_
        refine s_iconst (v := 2) dL_law_619 rfl cI_2 ?_
        refine s_iadd dL_law_620 rfl ?_
        refine sm_ck (fun g209 => ?_)
        refine s_sld dL_law_621 rfl g209 ?_
        refine s_aload_n 0 dL_law_622 rfl rfl ?_
        refine s_iload_n 3 dL_law_623 rfl rfl ?_
        refine s_iconst (v := 3) dL_law_624 rfl cI_3 ?_
        refine s_iadd dL_law_625 rfl ?_
        refine sm_ck (fun g210 => ?_)
        refine s_sld dL_law_626 rfl g210 ?_
        refine sm_ck (fun g211 => ?_)
        refine s_callV3_i1 dL_law_627 rfl lkV_RL_78 (S_102 g211) (Nat.le_of_ble_eq_true rfl) (Nat.le_of_ble_eq_true rfl) (Nat.le_of_ble_eq_true rfl) (ct_x11_best g211) (fun r212 I213 => ?_)
        refine s_icmp_eq (tgt := 1325) dL_law_630 rfl rfl (fun _ => ?_) (fun _ => ?_)
        · skip
          refine s_iincL 3 (c := 6) (fun v214 => [(3, .int v214), (0, .ref X.2.2.2.2.2.1), (1, .ref (X.1 + 0)), (2, .ref (X.1 + 102))]) dL_law_1325 rfl rfl cI_6 (by decide) (fun _ => rfl) (fun v214 => ?_)
          refine s_goto (tgt := 18) dL_law_1328 rfl ?_
          refine s_pick [1, 2, 3, 0] rfl ?_
          exact ih v214 I213 L205 R206 S207
        · skip
          refine s_iconst (v := 0) dL_law_633 rfl cI_0 ?_
          exact s_zret dL_law_634 rfl (Or.inl rfl) (fun f h => h)
      refine sm_ite (fun h215 => ?_) (fun h215 => ?_)
      · skip
        refine s_tin (tgt := 635) dL_law_33 (by rw [h215]; try decide) (by rw [h215]; try decide) (by rw [h215]; try rfl) rfl ?_
        refine s_aload_n 1 dL_law_635 rfl rfl ?_
        refine s_aload_n 0 dL_law_636 rfl rfl ?_
        refine s_iload_n 3 dL_law_637 rfl rfl ?_
        refine s_iconst (v := 1) dL_law_638 rfl cI_1 ?_
        refine s_iadd dL_law_639 rfl ?_
        refine sm_ck (fun g216 => ?_)
        refine s_sld dL_law_640 rfl g216 ?_
        refine s_aload_n 0 dL_law_641 rfl rfl ?_
        refine s_iload_n 3 dL_law_642 rfl rfl ?_
        refine s_iconst (v := 2) dL_law_643 rfl cI_2 ?_
        refine s_iadd dL_law_644 rfl ?_
        refine sm_ck (fun g217 => ?_)
        refine s_sld dL_law_645 rfl g217 ?_
        refine sm_ck (fun g220 => ?_)
        refine sm_b1 (fun t_218 h219 => ?_)
        refine sm_ck (fun g221 => ?_)
        refine s_callV2_i1 dL_law_646 rfl lkV_RL_79 (S_0 g220) (Nat.le_of_ble_eq_true rfl) (Nat.le_of_ble_eq_true rfl) (Nat.le_of_ble_eq_true rfl) (ct_x10_match g220 (⟨h219, g221⟩)) (fun r222 I223 => ?_)
        refine s_aload_n 2 dL_law_649 rfl rfl ?_
        refine s_aload_n 0 dL_law_650 rfl rfl ?_
        refine s_iload_n 3 dL_law_651 rfl rfl ?_
        refine s_iconst (v := 1) dL_law_652 rfl cI_1 ?_
        refine s_iadd dL_law_653 rfl ?_
        refine sm_ck (fun g224 => ?_)
        refine s_sld dL_law_654 rfl g224 ?_
        refine s_aload_n 0 dL_law_655 rfl rfl ?_
        refine s_iload_n 3 dL_law_656 rfl rfl ?_
        refine s_iconst (v := 2) dL_law_657 rfl cI_2 ?_
        refine s_iadd dL_law_658 rfl ?_
        refine sm_ck (fun g225 => ?_)
        refine s_sld dL_law_659 rfl g225 ?_
        refine s_callV2_i1 dL_law_660 rfl lkV_RL_82 (S_102 g220) (Nat.le_of_ble_eq_true rfl) (Nat.le_of_ble_eq_true rfl) (Nat.le_of_ble_eq_true rfl) (ct_x11_match g220) (fun r226 I227 => ?_)
        refine s_icmp_eq (tgt := 1325) dL_law_663 rfl rfl (fun _ => ?_) (fun _ => ?_)
        · skip
          refine s_iincL 3 (c := 6) (fun v228 => [(3, .int v228), (0, .ref X.2.2.2.2.2.1), (1, .ref (X.1 + 0)), (2, .ref (X.1 + 102))]) dL_law_1325 rfl rfl cI_6 (by decide) (fun _ => rfl) (fun v228 => ?_)
          refine s_goto (tgt := 18) dL_law_1328 rfl ?_
          refine s_pick [1, 2, 3, 0] rfl ?_
          exact ih v228 I227 L R S
        · skip
          refine s_iconst (v := 0) dL_law_666 rfl cI_0 ?_
          exact s_zret dL_law_667 rfl (Or.inl rfl) (fun f h => h)
      refine sm_ite (fun h229 => ?_) (fun h229 => ?_)
      · skip
        refine s_tin (tgt := 668) dL_law_33 (by rw [h229]; try decide) (by rw [h229]; try decide) (by rw [h229]; try rfl) rfl ?_
        refine s_aload_n 1 dL_law_668 rfl rfl ?_
        refine s_aload_n 0 dL_law_669 rfl rfl ?_
        refine s_iload_n 3 dL_law_670 rfl rfl ?_
        refine s_iconst (v := 1) dL_law_671 rfl cI_1 ?_
        refine s_iadd dL_law_672 rfl ?_
        refine sm_ck (fun g230 => ?_)
        refine s_sld dL_law_673 rfl g230 ?_
        refine sm_ck (fun g233 => ?_)
        refine sm_b1 (fun t_231 h232 => ?_)
        refine sm_ck (fun g234 => ?_)
        refine s_callV1_i1 dL_law_674 rfl lkV_RL_83 (S_0 g233) (Nat.le_of_ble_eq_true rfl) (Nat.le_of_ble_eq_true rfl) (Nat.le_of_ble_eq_true rfl) (ct_x10_reply g233 (⟨h232, g234⟩)) (fun r235 I236 => ?_)
        refine s_aload_n 2 dL_law_677 rfl rfl ?_
        refine s_aload_n 0 dL_law_678 rfl rfl ?_
        refine s_iload_n 3 dL_law_679 rfl rfl ?_
        refine s_iconst (v := 1) dL_law_680 rfl cI_1 ?_
        refine s_iadd dL_law_681 rfl ?_
        refine sm_ck (fun g237 => ?_)
        refine s_sld dL_law_682 rfl g237 ?_
        refine s_callV1_i1 dL_law_683 rfl lkV_RL_86 (S_102 g233) (Nat.le_of_ble_eq_true rfl) (Nat.le_of_ble_eq_true rfl) (Nat.le_of_ble_eq_true rfl) (ct_x11_reply g233) (fun r238 I239 => ?_)
        refine s_icmp_eq (tgt := 1325) dL_law_686 rfl rfl (fun _ => ?_) (fun _ => ?_)
        · skip
          refine s_iincL 3 (c := 6) (fun v240 => [(3, .int v240), (0, .ref X.2.2.2.2.2.1), (1, .ref (X.1 + 0)), (2, .ref (X.1 + 102))]) dL_law_1325 rfl rfl cI_6 (by decide) (fun _ => rfl) (fun v240 => ?_)
          refine s_goto (tgt := 18) dL_law_1328 rfl ?_
          refine s_pick [1, 2, 3, 0] rfl ?_
          exact ih v240 I239 L R S
        · skip
          refine s_iconst (v := 0) dL_law_689 rfl cI_0 ?_
          exact s_zret dL_law_690 rfl (Or.inl rfl) (fun f h => h)
      refine sm_ite (fun h241 => ?_) (fun h241 => ?_)
      · skip
        refine s_tin (tgt := 691) dL_law_33 (by rw [h241]; try decide) (by rw [h241]; try decide) (by rw [h241]; try rfl) rfl ?_
        refine s_aload_n 1 dL_law_691 rfl rfl ?_
        refine sm_ck (fun g244 => ?_)
        refine sm_b1 (fun t_242 h243 => ?_)
        refine sm_ck (fun g245 => ?_)
        refine s_callV0_i1 dL_law_692 rfl lkV_RL_87 (S_0 g244) (Nat.le_of_ble_eq_true rfl) (Nat.le_of_ble_eq_true rfl) (Nat.le_of_ble_eq_true rfl) (ct_x10_rests g244 (⟨h243, g245⟩)) (fun r246 I247 => ?_)
        refine s_aload_n 2 dL_law_695 rfl rfl ?_
        refine s_callV0_i1 dL_law_696 rfl lkV_RL_90 (S_102 g244) (Nat.le_of_ble_eq_true rfl) (Nat.le_of_ble_eq_true rfl) (Nat.le_of_ble_eq_true rfl) (ct_x11_rests g244) (fun r248 I249 => ?_)
        refine s_icmp_eq (tgt := 1325) dL_law_699 rfl rfl (fun _ => ?_) (fun _ => ?_)
        · skip
          refine s_iincL 3 (c := 6) (fun v250 => [(3, .int v250), (0, .ref X.2.2.2.2.2.1), (1, .ref (X.1 + 0)), (2, .ref (X.1 + 102))]) dL_law_1325 rfl rfl cI_6 (by decide) (fun _ => rfl) (fun v250 => ?_)
          refine s_goto (tgt := 18) dL_law_1328 rfl ?_
          refine s_pick [1, 2, 3, 0] rfl ?_
          exact ih v250 I249 L R S
        · skip
          refine s_iconst (v := 0) dL_law_702 rfl cI_0 ?_
          exact s_zret dL_law_703 rfl (Or.inl rfl) (fun f h => h)
      refine sm_ite (fun h251 => ?_) (fun h251 => ?_)
      · skip
        refine s_tin (tgt := 704) dL_law_33 (by rw [h251]; try decide) (by rw [h251]; try decide) (by rw [h251]; try rfl) rfl ?_
        refine s_aload_n 1 dL_law_704 rfl rfl ?_
        refine s_aload_n 0 dL_law_705 rfl rfl ?_
        refine s_iload_n 3 dL_law_706 rfl rfl ?_
        refine s_iconst (v := 1) dL_law_707 rfl cI_1 ?_
        refine s_iadd dL_law_708 rfl ?_
        refine sm_ck (fun g252 => ?_)
        refine s_sld dL_law_709 rfl g252 ?_
        refine s_aload_n 0 dL_law_710 rfl rfl ?_
        refine s_iload_n 3 dL_law_711 rfl rfl ?_
        refine s_iconst (v := 2) dL_law_712 rfl cI_2 ?_
        refine s_iadd dL_law_713 rfl ?_
        refine sm_ck (fun g253 => ?_)
        refine s_sld dL_law_714 rfl g253 ?_
        refine s_aload_n 0 dL_law_715 rfl rfl ?_
        refine s_iload_n 3 dL_law_716 rfl rfl ?_
        refine s_iconst (v := 3) dL_law_717 rfl cI_3 ?_
        refine s_iadd dL_law_718 rfl ?_
        refine sm_ck (fun g254 => ?_)
        refine s_sld dL_law_719 rfl g254 ?_
        refine sm_ck (fun g257 => ?_)
        refine sm_b1 (fun t_255 h256 => ?_)
        refine sm_ck (fun g258 => ?_)
        refine s_callV3_i0 dL_law_720 rfl lkV_RL_91 (S_0 g257) (Nat.le_of_ble_eq_true rfl) (Nat.le_of_ble_eq_true rfl) (Nat.le_of_ble_eq_true rfl) (ct_x10_record g257 (⟨h256, g258⟩)) (fun r259 => ?_)
        refine s_aload_n 2 dL_law_723 rfl rfl ?_
        refine s_aload_n 0 dL_law_724 rfl rfl ?_
        refine s_iload_n 3 dL_law_725 rfl rfl ?_
        refine s_iconst (v := 1) dL_law_726 rfl cI_1 ?_
        refine s_iadd dL_law_727 rfl ?_
        refine sm_ck (fun g260 => ?_)
        refine s_sld dL_law_728 rfl g260 ?_
        refine s_aload_n 0 dL_law_729 rfl rfl ?_
        refine s_iload_n 3 dL_law_730 rfl rfl ?_
        refine s_iconst (v := 2) dL_law_731 rfl cI_2 ?_
        refine s_iadd dL_law_732 rfl ?_
        refine sm_ck (fun g261 => ?_)
        refine s_sld dL_law_733 rfl g261 ?_
        refine s_aload_n 0 dL_law_734 rfl rfl ?_
        refine s_iload_n 3 dL_law_735 rfl rfl ?_
        refine s_iconst (v := 3) dL_law_736 rfl cI_3 ?_
        refine s_iadd dL_law_737 rfl ?_
        refine sm_ck (fun g262 => ?_)
        refine s_sld dL_law_738 rfl g262 ?_
        refine s_callV3_i0 dL_law_739 rfl lkV_RL_94 (S_102 g257) (Nat.le_of_ble_eq_true rfl) (Nat.le_of_ble_eq_true rfl) (Nat.le_of_ble_eq_true rfl) (ct_x11_record g257) (fun r263 => ?_)
        refine s_icmp_eq (tgt := 1325) dL_law_742 rfl rfl (fun _ => ?_) (fun _ => ?_)
        · skip
          refine s_iincL 3 (c := 6) (fun v264 => [(3, .int v264), (0, .ref X.2.2.2.2.2.1), (1, .ref (X.1 + 0)), (2, .ref (X.1 + 102))]) dL_law_1325 rfl rfl cI_6 (by decide) (fun _ => rfl) (fun v264 => ?_)
          refine s_goto (tgt := 18) dL_law_1328 rfl ?_
          refine s_pick [1, 2, 3, 0] rfl ?_
          exact ih v264 I L R S
        · skip
          refine s_iconst (v := 0) dL_law_745 rfl cI_0 ?_
          exact s_zret dL_law_746 rfl (Or.inl rfl) (fun f h => h)
      refine sm_ite (fun h265 => ?_) (fun h265 => ?_)
      · skip
        refine s_tin (tgt := 747) dL_law_33 (by rw [h265]; try decide) (by rw [h265]; try decide) (by rw [h265]; try rfl) rfl ?_
        refine s_aload_n 1 dL_law_747 rfl rfl ?_
        refine s_aload_n 0 dL_law_748 rfl rfl ?_
        refine s_iload_n 3 dL_law_749 rfl rfl ?_
        refine s_iconst (v := 1) dL_law_750 rfl cI_1 ?_
        refine s_iadd dL_law_751 rfl ?_
        refine sm_ck (fun g266 => ?_)
        refine s_sld dL_law_752 rfl g266 ?_
        refine s_aload_n 0 dL_law_753 rfl rfl ?_
        refine s_iload_n 3 dL_law_754 rfl rfl ?_
        refine s_iconst (v := 2) dL_law_755 rfl cI_2 ?_
        refine s_iadd dL_law_756 rfl ?_
        refine sm_ck (fun g267 => ?_)
        refine s_sld dL_law_757 rfl g267 ?_
        refine sm_ck (fun g270 => ?_)
        refine sm_b1 (fun t_268 h269 => ?_)
        refine sm_ck (fun g271 => ?_)
        refine s_callV2_i1 dL_law_758 rfl lkV_RL_95 (S_0 g270) (Nat.le_of_ble_eq_true rfl) (Nat.le_of_ble_eq_true rfl) (Nat.le_of_ble_eq_true rfl) (ct_x10_easier g270 (⟨h269, g271⟩)) (fun r272 I273 => ?_)
        refine s_aload_n 2 dL_law_761 rfl rfl ?_
        refine s_aload_n 0 dL_law_762 rfl rfl ?_
        refine s_iload_n 3 dL_law_763 rfl rfl ?_
        refine s_iconst (v := 1) dL_law_764 rfl cI_1 ?_
        refine s_iadd dL_law_765 rfl ?_
        refine sm_ck (fun g274 => ?_)
        refine s_sld dL_law_766 rfl g274 ?_
        refine s_aload_n 0 dL_law_767 rfl rfl ?_
        refine s_iload_n 3 dL_law_768 rfl rfl ?_
        refine s_iconst (v := 2) dL_law_769 rfl cI_2 ?_
        refine s_iadd dL_law_770 rfl ?_
        refine sm_ck (fun g275 => ?_)
        refine s_sld dL_law_771 rfl g275 ?_
        refine s_callV2_i1 dL_law_772 rfl lkV_RL_98 (S_102 g270) (Nat.le_of_ble_eq_true rfl) (Nat.le_of_ble_eq_true rfl) (Nat.le_of_ble_eq_true rfl) (ct_x11_easier g270) (fun r276 I277 => ?_)
        refine s_icmp_eq (tgt := 1325) dL_law_775 rfl rfl (fun _ => ?_) (fun _ => ?_)
        · skip
          refine s_iincL 3 (c := 6) (fun v278 => [(3, .int v278), (0, .ref X.2.2.2.2.2.1), (1, .ref (X.1 + 0)), (2, .ref (X.1 + 102))]) dL_law_1325 rfl rfl cI_6 (by decide) (fun _ => rfl) (fun v278 => ?_)
          refine s_goto (tgt := 18) dL_law_1328 rfl ?_
          refine s_pick [1, 2, 3, 0] rfl ?_
          exact ih v278 I277 L R S
        · skip
          refine s_iconst (v := 0) dL_law_778 rfl cI_0 ?_
          exact s_zret dL_law_779 rfl (Or.inl rfl) (fun f h => h)
      refine sm_ite (fun h279 => ?_) (fun h279 => ?_)
      · skip
        refine s_tin (tgt := 780) dL_law_33 (by rw [h279]; try decide) (by rw [h279]; try decide) (by rw [h279]; try rfl) rfl ?_
        refine s_aload_n 1 dL_law_780 rfl rfl ?_
        refine s_aload_n 0 dL_law_781 rfl rfl ?_
        refine s_iload_n 3 dL_law_782 rfl rfl ?_
        refine s_iconst (v := 1) dL_law_783 rfl cI_1 ?_
        refine s_iadd dL_law_784 rfl ?_
        refine sm_ck (fun g280 => ?_)
        refine s_sld dL_law_785 rfl g280 ?_
        refine s_aload_n 0 dL_law_786 rfl rfl ?_
        refine s_iload_n 3 dL_law_787 rfl rfl ?_
        refine s_iconst (v := 2) dL_law_788 rfl cI_2 ?_
        refine s_iadd dL_law_789 rfl ?_
        refine sm_ck (fun g281 => ?_)
        refine s_sld dL_law_790 rfl g281 ?_
        refine s_aload_n 0 dL_law_791 rfl rfl ?_
        refine s_iload_n 3 dL_law_792 rfl rfl ?_
        refine s_iconst (v := 3) dL_law_793 rfl cI_3 ?_
        refine s_iadd dL_law_794 rfl ?_
        refine sm_ck (fun g282 => ?_)
        refine s_sld dL_law_795 rfl g282 ?_
        refine sm_ck (fun g285 => ?_)
        refine sm_b1 (fun t_283 h284 => ?_)
        refine sm_ck (fun g286 => ?_)
        refine s_callV3_i1 dL_law_796 rfl lkV_RL_99 (S_0 g285) (Nat.le_of_ble_eq_true rfl) (Nat.le_of_ble_eq_true rfl) (Nat.le_of_ble_eq_true rfl) (ct_x10_seat g285 (⟨h284, g286⟩)) (fun r287 I288 => ?_)
        refine s_aload_n 2 dL_law_799 rfl rfl ?_
        refine s_aload_n 0 dL_law_800 rfl rfl ?_
        refine s_iload_n 3 dL_law_801 rfl rfl ?_
        refine s_iconst (v := 1) dL_law_802 rfl cI_1 ?_
        refine s_iadd dL_law_803 rfl ?_
        refine sm_ck (fun g289 => ?_)
        refine s_sld dL_law_804 rfl g289 ?_
        refine s_aload_n 0 dL_law_805 rfl rfl ?_
        refine s_iload_n 3 dL_law_806 rfl rfl ?_
        refine s_iconst (v := 2) dL_law_807 rfl cI_2 ?_
        refine s_iadd dL_law_808 rfl ?_
        refine sm_ck (fun g290 => ?_)
        refine s_sld dL_law_809 rfl g290 ?_
        refine s_aload_n 0 dL_law_810 rfl rfl ?_
        refine s_iload_n 3 dL_law_811 rfl rfl ?_
        refine s_iconst (v := 3) dL_law_812 rfl cI_3 ?_
        refine s_iadd dL_law_813 rfl ?_
        refine sm_ck (fun g291 => ?_)
        refine s_sld dL_law_814 rfl g291 ?_
        refine s_callV3_i1 dL_law_815 rfl lkV_RL_102 (S_102 g285) (Nat.le_of_ble_eq_true rfl) (Nat.le_of_ble_eq_true rfl) (Nat.le_of_ble_eq_true rfl) (ct_x11_seat g285) (fun r292 I293 => ?_)
        refine s_icmp_eq (tgt := 1325) dL_law_818 rfl rfl (fun _ => ?_) (fun _ => ?_)
        · skip
          refine s_iincL 3 (c := 6) (fun v294 => [(3, .int v294), (0, .ref X.2.2.2.2.2.1), (1, .ref (X.1 + 0)), (2, .ref (X.1 + 102))]) dL_law_1325 rfl rfl cI_6 (by decide) (fun _ => rfl) (fun v294 => ?_)
          refine s_goto (tgt := 18) dL_law_1328 rfl ?_
          refine s_pick [1, 2, 3, 0] rfl ?_
          exact ih v294 I293 L R S
        · skip
          refine s_iconst (v := 0) dL_law_821 rfl cI_0 ?_
          exact s_zret dL_law_822 rfl (Or.inl rfl) (fun f h => h)
      refine sm_ite (fun h295 => ?_) (fun h295 => ?_)
      · skip
        refine s_tin (tgt := 823) dL_law_33 (by rw [h295]; try decide) (by rw [h295]; try decide) (by rw [h295]; try rfl) rfl ?_
        refine s_aload_n 1 dL_law_823 rfl rfl ?_
        refine s_aload_n 0 dL_law_824 rfl rfl ?_
        refine s_iload_n 3 dL_law_825 rfl rfl ?_
        refine s_iconst (v := 1) dL_law_826 rfl cI_1 ?_
        refine s_iadd dL_law_827 rfl ?_
        refine sm_ck (fun g296 => ?_)
        refine s_sld dL_law_828 rfl g296 ?_
        refine sm_ck (fun g299 => ?_)
        refine sm_b1 (fun t_297 h298 => ?_)
        refine sm_ck (fun g300 => ?_)
        refine s_callV1_i1 dL_law_829 rfl lkV_RL_103 (S_0 g299) (Nat.le_of_ble_eq_true rfl) (Nat.le_of_ble_eq_true rfl) (Nat.le_of_ble_eq_true rfl) (ct_x10_order g299 (⟨h298, g300⟩)) (fun r301 I302 => ?_)
        refine s_aload_n 2 dL_law_832 rfl rfl ?_
        refine s_aload_n 0 dL_law_833 rfl rfl ?_
        refine s_iload_n 3 dL_law_834 rfl rfl ?_
        refine s_iconst (v := 1) dL_law_835 rfl cI_1 ?_
        refine s_iadd dL_law_836 rfl ?_
        refine sm_ck (fun g303 => ?_)
        refine s_sld dL_law_837 rfl g303 ?_
        refine s_callV1_i1 dL_law_838 rfl lkV_RL_106 (S_102 g299) (Nat.le_of_ble_eq_true rfl) (Nat.le_of_ble_eq_true rfl) (Nat.le_of_ble_eq_true rfl) (ct_x11_order g299) (fun r304 I305 => ?_)
        refine s_icmp_eq (tgt := 1325) dL_law_841 rfl rfl (fun _ => ?_) (fun _ => ?_)
        · skip
          refine s_iincL 3 (c := 6) (fun v306 => [(3, .int v306), (0, .ref X.2.2.2.2.2.1), (1, .ref (X.1 + 0)), (2, .ref (X.1 + 102))]) dL_law_1325 rfl rfl cI_6 (by decide) (fun _ => rfl) (fun v306 => ?_)
          refine s_goto (tgt := 18) dL_law_1328 rfl ?_
          refine s_pick [1, 2, 3, 0] rfl ?_
          exact ih v306 I305 L R S
        · skip
          refine s_iconst (v := 0) dL_law_844 rfl cI_0 ?_
          exact s_zret dL_law_845 rfl (Or.inl rfl) (fun f h => h)
      refine sm_ite (fun h307 => ?_) (fun h307 => ?_)
      · skip
        refine s_tin (tgt := 846) dL_law_33 (by rw [h307]; try decide) (by rw [h307]; try decide) (by rw [h307]; try rfl) rfl ?_
        refine s_aload_n 1 dL_law_846 rfl rfl ?_
        refine s_aload_n 0 dL_law_847 rfl rfl ?_
        refine s_iload_n 3 dL_law_848 rfl rfl ?_
        refine s_iconst (v := 1) dL_law_849 rfl cI_1 ?_
        refine s_iadd dL_law_850 rfl ?_
        refine sm_ck (fun g308 => ?_)
        refine s_sld dL_law_851 rfl g308 ?_
        refine s_aload_n 0 dL_law_852 rfl rfl ?_
        refine s_iload_n 3 dL_law_853 rfl rfl ?_
        refine s_iconst (v := 2) dL_law_854 rfl cI_2 ?_
        refine s_iadd dL_law_855 rfl ?_
        refine sm_ck (fun g309 => ?_)
        refine s_sld dL_law_856 rfl g309 ?_
        refine s_aload_n 0 dL_law_857 rfl rfl ?_
        refine s_iload_n 3 dL_law_858 rfl rfl ?_
        refine s_iconst (v := 3) dL_law_859 rfl cI_3 ?_
        refine s_iadd dL_law_860 rfl ?_
        refine sm_ck (fun g310 => ?_)
        refine s_sld dL_law_861 rfl g310 ?_
        refine sm_ck (fun g311 => ?_)
        refine s_callV3_i3 dL_law_862 rfl lkV_RL_107 (S_0 g311) (Nat.le_of_ble_eq_true rfl) (Nat.le_of_ble_eq_true rfl) (Nat.le_of_ble_eq_true rfl) ct_x10_drives (fun r312 I313 L314 R315 S316 => ?_)
        refine s_aload_n 2 dL_law_865 rfl rfl ?_
        refine s_aload_n 0 dL_law_866 rfl rfl ?_
        refine s_iload_n 3 dL_law_867 rfl rfl ?_
        refine s_iconst (v := 1) dL_law_868 rfl cI_1 ?_
        refine s_iadd dL_law_869 rfl ?_
        refine sm_ck (fun g317 => ?_)
        refine s_sld dL_law_870 rfl g317 ?_
        refine s_aload_n 0 dL_law_871 rfl rfl ?_
        refine s_iload_n 3 dL_law_872 rfl rfl ?_
        refine s_iconst (v := 2) dL_law_873 rfl cI_2 ?_
        refine s_iadd dL_law_874 rfl ?_
        refine sm_ck (fun g318 => ?_)
        refine s_sld dL_law_875 rfl g318 ?_
        refine s_aload_n 0 dL_law_876 rfl rfl ?_
        refine s_iload_n 3 dL_law_877 rfl rfl ?_
        refine s_iconst (v := 3) dL_law_878 rfl cI_3 ?_
        refine s_iadd dL_law_879 rfl ?_
        refine sm_ck (fun g319 => ?_)
        refine s_sld dL_law_880 rfl g319 ?_
        refine sm_ck (fun g320 => ?_)
        refine s_callV3_i1 dL_law_881 rfl lkV_RL_110 (S_102 g320) (Nat.le_of_ble_eq_true rfl) (Nat.le_of_ble_eq_true rfl) (Nat.le_of_ble_eq_true rfl) (ct_x11_drives g320) (fun r321 I322 => ?_)
        refine s_icmp_eq (tgt := 1325) dL_law_884 rfl rfl (fun _ => ?_) (fun _ => ?_)
        · skip
          refine s_iincL 3 (c := 6) (fun v323 => [(3, .int v323), (0, .ref X.2.2.2.2.2.1), (1, .ref (X.1 + 0)), (2, .ref (X.1 + 102))]) dL_law_1325 rfl rfl cI_6 (by decide) (fun _ => rfl) (fun v323 => ?_)
          refine s_goto (tgt := 18) dL_law_1328 rfl ?_
          refine s_pick [1, 2, 3, 0] rfl ?_
          exact ih v323 I322 L314 R315 S316
        · skip
          refine s_iconst (v := 0) dL_law_887 rfl cI_0 ?_
          exact s_zret dL_law_888 rfl (Or.inl rfl) (fun f h => h)
      refine sm_ite (fun h324 => ?_) (fun h324 => ?_)
      · skip
        refine s_tin (tgt := 889) dL_law_33 (by rw [h324]; try decide) (by rw [h324]; try decide) (by rw [h324]; try rfl) rfl ?_
        refine s_aload_n 1 dL_law_889 rfl rfl ?_
        refine s_aload_n 0 dL_law_890 rfl rfl ?_
        refine s_iload_n 3 dL_law_891 rfl rfl ?_
        refine s_iconst (v := 1) dL_law_892 rfl cI_1 ?_
        refine s_iadd dL_law_893 rfl ?_
        refine sm_ck (fun g325 => ?_)
        refine s_sld dL_law_894 rfl g325 ?_
        refine sm_ck (fun g328 => ?_)
        refine sm_b1 (fun t_326 h327 => ?_)
        refine sm_ck (fun g329 => ?_)
        refine s_callV1_i1 dL_law_895 rfl lkV_RL_111 (S_0 g328) (Nat.le_of_ble_eq_true rfl) (Nat.le_of_ble_eq_true rfl) (Nat.le_of_ble_eq_true rfl) (ct_x10_gone g328 (⟨h327, g329⟩)) (fun r330 I331 => ?_)
        refine s_aload_n 2 dL_law_898 rfl rfl ?_
        refine s_aload_n 0 dL_law_899 rfl rfl ?_
        refine s_iload_n 3 dL_law_900 rfl rfl ?_
        refine s_iconst (v := 1) dL_law_901 rfl cI_1 ?_
        refine s_iadd dL_law_902 rfl ?_
        refine sm_ck (fun g332 => ?_)
        refine s_sld dL_law_903 rfl g332 ?_
        refine s_callV1_i1 dL_law_904 rfl lkV_RL_114 (S_102 g328) (Nat.le_of_ble_eq_true rfl) (Nat.le_of_ble_eq_true rfl) (Nat.le_of_ble_eq_true rfl) (ct_x11_gone g328) (fun r333 I334 => ?_)
        refine s_icmp_eq (tgt := 1325) dL_law_907 rfl rfl (fun _ => ?_) (fun _ => ?_)
        · skip
          refine s_iincL 3 (c := 6) (fun v335 => [(3, .int v335), (0, .ref X.2.2.2.2.2.1), (1, .ref (X.1 + 0)), (2, .ref (X.1 + 102))]) dL_law_1325 rfl rfl cI_6 (by decide) (fun _ => rfl) (fun v335 => ?_)
          refine s_goto (tgt := 18) dL_law_1328 rfl ?_
          refine s_pick [1, 2, 3, 0] rfl ?_
          exact ih v335 I334 L R S
        · skip
          refine s_iconst (v := 0) dL_law_910 rfl cI_0 ?_
          exact s_zret dL_law_911 rfl (Or.inl rfl) (fun f h => h)
      refine sm_ite (fun h336 => ?_) (fun h336 => ?_)
      · skip
        refine s_tin (tgt := 912) dL_law_33 (by rw [h336]; try decide) (by rw [h336]; try decide) (by rw [h336]; try rfl) rfl ?_
        refine s_aload_n 1 dL_law_912 rfl rfl ?_
        refine s_aload_n 0 dL_law_913 rfl rfl ?_
        refine s_iload_n 3 dL_law_914 rfl rfl ?_
        refine s_iconst (v := 1) dL_law_915 rfl cI_1 ?_
        refine s_iadd dL_law_916 rfl ?_
        refine sm_ck (fun g337 => ?_)
        refine s_sld dL_law_917 rfl g337 ?_
        refine s_aload_n 0 dL_law_918 rfl rfl ?_
        refine s_iload_n 3 dL_law_919 rfl rfl ?_
        refine s_iconst (v := 2) dL_law_920 rfl cI_2 ?_
        refine s_iadd dL_law_921 rfl ?_
        refine sm_ck (fun g338 => ?_)
        refine s_sld dL_law_922 rfl g338 ?_
        refine sm_ck (fun g341 => ?_)
        refine sm_b1 (fun t_339 h340 => ?_)
        refine sm_ck (fun g342 => ?_)
        refine s_callV2_i1 dL_law_923 rfl lkV_RL_115 (S_0 g341) (Nat.le_of_ble_eq_true rfl) (Nat.le_of_ble_eq_true rfl) (Nat.le_of_ble_eq_true rfl) (ct_x10_provide g341 (⟨h340, g342⟩)) (fun r343 I344 => ?_)
        refine s_aload_n 2 dL_law_926 rfl rfl ?_
        refine s_aload_n 0 dL_law_927 rfl rfl ?_
        refine s_iload_n 3 dL_law_928 rfl rfl ?_
        refine s_iconst (v := 1) dL_law_929 rfl cI_1 ?_
        refine s_iadd dL_law_930 rfl ?_
        refine sm_ck (fun g345 => ?_)
        refine s_sld dL_law_931 rfl g345 ?_
        refine s_aload_n 0 dL_law_932 rfl rfl ?_
        refine s_iload_n 3 dL_law_933 rfl rfl ?_
        refine s_iconst (v := 2) dL_law_934 rfl cI_2 ?_
        refine s_iadd dL_law_935 rfl ?_
        refine sm_ck (fun g346 => ?_)
        refine s_sld dL_law_936 rfl g346 ?_
        refine s_callV2_i1 dL_law_937 rfl lkV_RL_118 (S_102 g341) (Nat.le_of_ble_eq_true rfl) (Nat.le_of_ble_eq_true rfl) (Nat.le_of_ble_eq_true rfl) (ct_x11_provide g341) (fun r347 I348 => ?_)
        refine s_icmp_eq (tgt := 1325) dL_law_940 rfl rfl (fun _ => ?_) (fun _ => ?_)
        · skip
          refine s_iincL 3 (c := 6) (fun v349 => [(3, .int v349), (0, .ref X.2.2.2.2.2.1), (1, .ref (X.1 + 0)), (2, .ref (X.1 + 102))]) dL_law_1325 rfl rfl cI_6 (by decide) (fun _ => rfl) (fun v349 => ?_)
          refine s_goto (tgt := 18) dL_law_1328 rfl ?_
          refine s_pick [1, 2, 3, 0] rfl ?_
          exact ih v349 I348 L R S
        · skip
          refine s_iconst (v := 0) dL_law_943 rfl cI_0 ?_
          exact s_zret dL_law_944 rfl (Or.inl rfl) (fun f h => h)
      refine sm_ite (fun h350 => ?_) (fun h350 => ?_)
      · skip
        refine s_tin (tgt := 945) dL_law_33 (by rw [h350]; try decide) (by rw [h350]; try decide) (by rw [h350]; try rfl) rfl ?_
        refine s_aload_n 1 dL_law_945 rfl rfl ?_
        refine s_aload_n 0 dL_law_946 rfl rfl ?_
        refine s_iload_n 3 dL_law_947 rfl rfl ?_
        refine s_iconst (v := 1) dL_law_948 rfl cI_1 ?_
        refine s_iadd dL_law_949 rfl ?_
        refine sm_ck (fun g351 => ?_)
        refine s_sld dL_law_950 rfl g351 ?_
        refine s_aload_n 0 dL_law_951 rfl rfl ?_
        refine s_iload_n 3 dL_law_952 rfl rfl ?_
        refine s_iconst (v := 2) dL_law_953 rfl cI_2 ?_
        refine s_iadd dL_law_954 rfl ?_
        refine sm_ck (fun g352 => ?_)
        refine s_sld dL_law_955 rfl g352 ?_
        refine sm_ck (fun g355 => ?_)
        refine sm_b1 (fun t_353 h354 => ?_)
        refine sm_ck (fun g356 => ?_)
        refine s_callV2_i1 dL_law_956 rfl lkV_RL_119 (S_0 g355) (Nat.le_of_ble_eq_true rfl) (Nat.le_of_ble_eq_true rfl) (Nat.le_of_ble_eq_true rfl) (ct_x10_nearest g355 (⟨h354, g356⟩)) (fun r357 I358 => ?_)
        refine s_aload_n 2 dL_law_959 rfl rfl ?_
        refine s_aload_n 0 dL_law_960 rfl rfl ?_
        refine s_iload_n 3 dL_law_961 rfl rfl ?_
        refine s_iconst (v := 1) dL_law_962 rfl cI_1 ?_
        refine s_iadd dL_law_963 rfl ?_
        refine sm_ck (fun g359 => ?_)
        refine s_sld dL_law_964 rfl g359 ?_
        refine s_aload_n 0 dL_law_965 rfl rfl ?_
        refine s_iload_n 3 dL_law_966 rfl rfl ?_
        refine s_iconst (v := 2) dL_law_967 rfl cI_2 ?_
        refine s_iadd dL_law_968 rfl ?_
        refine sm_ck (fun g360 => ?_)
        refine s_sld dL_law_969 rfl g360 ?_
        refine s_callV2_i1 dL_law_970 rfl lkV_RL_122 (S_102 g355) (Nat.le_of_ble_eq_true rfl) (Nat.le_of_ble_eq_true rfl) (Nat.le_of_ble_eq_true rfl) (ct_x11_nearest g355) (fun r361 I362 => ?_)
        refine s_icmp_eq (tgt := 1325) dL_law_973 rfl rfl (fun _ => ?_) (fun _ => ?_)
        · skip
          refine s_iincL 3 (c := 6) (fun v363 => [(3, .int v363), (0, .ref X.2.2.2.2.2.1), (1, .ref (X.1 + 0)), (2, .ref (X.1 + 102))]) dL_law_1325 rfl rfl cI_6 (by decide) (fun _ => rfl) (fun v363 => ?_)
          refine s_goto (tgt := 18) dL_law_1328 rfl ?_
          refine s_pick [1, 2, 3, 0] rfl ?_
          exact ih v363 I362 L R S
        · skip
          refine s_iconst (v := 0) dL_law_976 rfl cI_0 ?_
          exact s_zret dL_law_977 rfl (Or.inl rfl) (fun f h => h)
      refine sm_ite (fun h364 => ?_) (fun h364 => ?_)
      · skip
        refine s_tin (tgt := 978) dL_law_33 (by rw [h364]; try decide) (by rw [h364]; try decide) (by rw [h364]; try rfl) rfl ?_
        refine s_aload_n 1 dL_law_978 rfl rfl ?_
        refine s_aload_n 0 dL_law_979 rfl rfl ?_
        refine s_iload_n 3 dL_law_980 rfl rfl ?_
        refine s_iconst (v := 1) dL_law_981 rfl cI_1 ?_
        refine s_iadd dL_law_982 rfl ?_
        refine sm_ck (fun g365 => ?_)
        refine s_sld dL_law_983 rfl g365 ?_
        refine s_aload_n 0 dL_law_984 rfl rfl ?_
        refine s_iload_n 3 dL_law_985 rfl rfl ?_
        refine s_iconst (v := 2) dL_law_986 rfl cI_2 ?_
        refine s_iadd dL_law_987 rfl ?_
        refine sm_ck (fun g366 => ?_)
        refine s_sld dL_law_988 rfl g366 ?_
        refine s_aload_n 0 dL_law_989 rfl rfl ?_
        refine s_iload_n 3 dL_law_990 rfl rfl ?_
        refine s_iconst (v := 3) dL_law_991 rfl cI_3 ?_
        refine s_iadd dL_law_992 rfl ?_
        refine sm_ck (fun g367 => ?_)
        refine s_sld dL_law_993 rfl g367 ?_
        refine sm_ck (fun g368 => ?_)
        refine s_callV3_i3 dL_law_994 rfl lkV_RL_123 (S_0 g368) (Nat.le_of_ble_eq_true rfl) (Nat.le_of_ble_eq_true rfl) (Nat.le_of_ble_eq_true rfl) ct_x10_waves (fun r369 I370 L371 R372 S373 => ?_)
        refine s_aload_n 2 dL_law_997 rfl rfl ?_
        refine s_aload_n 0 dL_law_998 rfl rfl ?_
        refine s_iload_n 3 dL_law_999 rfl rfl ?_
        refine s_iconst (v := 1) dL_law_1000 rfl cI_1 ?_
        refine s_iadd dL_law_1001 rfl ?_
        refine sm_ck (fun g374 => ?_)
        refine s_sld dL_law_1002 rfl g374 ?_
        refine s_aload_n 0 dL_law_1003 rfl rfl ?_
        refine s_iload_n 3 dL_law_1004 rfl rfl ?_
        refine s_iconst (v := 2) dL_law_1005 rfl cI_2 ?_
        refine s_iadd dL_law_1006 rfl ?_
        refine sm_ck (fun g375 => ?_)
        refine s_sld dL_law_1007 rfl g375 ?_
        refine s_aload_n 0 dL_law_1008 rfl rfl ?_
        refine s_iload_n 3 dL_law_1009 rfl rfl ?_
        refine s_iconst (v := 3) dL_law_1010 rfl cI_3 ?_
        refine s_iadd dL_law_1011 rfl ?_
        refine sm_ck (fun g376 => ?_)
        refine s_sld dL_law_1012 rfl g376 ?_
        refine sm_ck (fun g377 => ?_)
        refine s_callV3_i1 dL_law_1013 rfl lkV_RL_126 (S_102 g377) (Nat.le_of_ble_eq_true rfl) (Nat.le_of_ble_eq_true rfl) (Nat.le_of_ble_eq_true rfl) (ct_x11_waves g377) (fun r378 I379 => ?_)
        refine s_icmp_eq (tgt := 1325) dL_law_1016 rfl rfl (fun _ => ?_) (fun _ => ?_)
        · skip
          refine s_iincL 3 (c := 6) (fun v380 => [(3, .int v380), (0, .ref X.2.2.2.2.2.1), (1, .ref (X.1 + 0)), (2, .ref (X.1 + 102))]) dL_law_1325 rfl rfl cI_6 (by decide) (fun _ => rfl) (fun v380 => ?_)
          refine s_goto (tgt := 18) dL_law_1328 rfl ?_
          refine s_pick [1, 2, 3, 0] rfl ?_
          exact ih v380 I379 L371 R372 S373
        · skip
          refine s_iconst (v := 0) dL_law_1019 rfl cI_0 ?_
          exact s_zret dL_law_1020 rfl (Or.inl rfl) (fun f h => h)
      refine sm_ite (fun h381 => ?_) (fun h381 => ?_)
      · skip
        refine s_tin (tgt := 1021) dL_law_33 (by rw [h381]; try decide) (by rw [h381]; try decide) (by rw [h381]; try rfl) rfl ?_
        refine s_aload_n 1 dL_law_1021 rfl rfl ?_
        refine s_aload_n 0 dL_law_1022 rfl rfl ?_
        refine s_iload_n 3 dL_law_1023 rfl rfl ?_
        refine s_iconst (v := 1) dL_law_1024 rfl cI_1 ?_
        refine s_iadd dL_law_1025 rfl ?_
        refine sm_ck (fun g382 => ?_)
        refine s_sld dL_law_1026 rfl g382 ?_
        refine s_aload_n 0 dL_law_1027 rfl rfl ?_
        refine s_iload_n 3 dL_law_1028 rfl rfl ?_
        refine s_iconst (v := 2) dL_law_1029 rfl cI_2 ?_
        refine s_iadd dL_law_1030 rfl ?_
        refine sm_ck (fun g383 => ?_)
        refine s_sld dL_law_1031 rfl g383 ?_
        refine s_aload_n 0 dL_law_1032 rfl rfl ?_
        refine s_iload_n 3 dL_law_1033 rfl rfl ?_
        refine s_iconst (v := 3) dL_law_1034 rfl cI_3 ?_
        refine s_iadd dL_law_1035 rfl ?_
        refine sm_ck (fun g384 => ?_)
        refine s_sld dL_law_1036 rfl g384 ?_
        refine sm_ck (fun g387 => ?_)
        refine sm_b1 (fun t_385 h386 => ?_)
        refine sm_ck (fun g388 => ?_)
        refine s_callV3_i1 dL_law_1037 rfl lkV_RL_127 (S_0 g387) (Nat.le_of_ble_eq_true rfl) (Nat.le_of_ble_eq_true rfl) (Nat.le_of_ble_eq_true rfl) (ct_x10_fill g387 (⟨h386, g388⟩)) (fun r389 I390 => ?_)
        refine s_aload_n 2 dL_law_1040 rfl rfl ?_
        refine s_aload_n 0 dL_law_1041 rfl rfl ?_
        refine s_iload_n 3 dL_law_1042 rfl rfl ?_
        refine s_iconst (v := 1) dL_law_1043 rfl cI_1 ?_
        refine s_iadd dL_law_1044 rfl ?_
        refine sm_ck (fun g391 => ?_)
        refine s_sld dL_law_1045 rfl g391 ?_
        refine s_aload_n 0 dL_law_1046 rfl rfl ?_
        refine s_iload_n 3 dL_law_1047 rfl rfl ?_
        refine s_iconst (v := 2) dL_law_1048 rfl cI_2 ?_
        refine s_iadd dL_law_1049 rfl ?_
        refine sm_ck (fun g392 => ?_)
        refine s_sld dL_law_1050 rfl g392 ?_
        refine s_aload_n 0 dL_law_1051 rfl rfl ?_
        refine s_iload_n 3 dL_law_1052 rfl rfl ?_
        refine s_iconst (v := 3) dL_law_1053 rfl cI_3 ?_
        refine s_iadd dL_law_1054 rfl ?_
        refine sm_ck (fun g393 => ?_)
        refine s_sld dL_law_1055 rfl g393 ?_
        refine s_callV3_i1 dL_law_1056 rfl lkV_RL_130 (S_102 g387) (Nat.le_of_ble_eq_true rfl) (Nat.le_of_ble_eq_true rfl) (Nat.le_of_ble_eq_true rfl) (ct_x11_fill g387) (fun r394 I395 => ?_)
        refine s_icmp_eq (tgt := 1325) dL_law_1059 rfl rfl (fun _ => ?_) (fun _ => ?_)
        · skip
          refine s_iincL 3 (c := 6) (fun v396 => [(3, .int v396), (0, .ref X.2.2.2.2.2.1), (1, .ref (X.1 + 0)), (2, .ref (X.1 + 102))]) dL_law_1325 rfl rfl cI_6 (by decide) (fun _ => rfl) (fun v396 => ?_)
          refine s_goto (tgt := 18) dL_law_1328 rfl ?_
          refine s_pick [1, 2, 3, 0] rfl ?_
          exact ih v396 I395 L R S
        · skip
          refine s_iconst (v := 0) dL_law_1062 rfl cI_0 ?_
          exact s_zret dL_law_1063 rfl (Or.inl rfl) (fun f h => h)
      refine sm_ite (fun h397 => ?_) (fun h397 => ?_)
      · skip
        refine s_tin (tgt := 1064) dL_law_33 (by rw [h397]; try decide) (by rw [h397]; try decide) (by rw [h397]; try rfl) rfl ?_
        refine s_aload_n 1 dL_law_1064 rfl rfl ?_
        refine s_aload_n 0 dL_law_1065 rfl rfl ?_
        refine s_iload_n 3 dL_law_1066 rfl rfl ?_
        refine s_iconst (v := 1) dL_law_1067 rfl cI_1 ?_
        refine s_iadd dL_law_1068 rfl ?_
        refine sm_ck (fun g398 => ?_)
        refine s_sld dL_law_1069 rfl g398 ?_
        refine s_aload_n 0 dL_law_1070 rfl rfl ?_
        refine s_iload_n 3 dL_law_1071 rfl rfl ?_
        refine s_iconst (v := 2) dL_law_1072 rfl cI_2 ?_
        refine s_iadd dL_law_1073 rfl ?_
        refine sm_ck (fun g399 => ?_)
        refine s_sld dL_law_1074 rfl g399 ?_
        refine sm_ck (fun g402 => ?_)
        refine sm_b1 (fun t_400 h401 => ?_)
        refine sm_ck (fun g403 => ?_)
        refine s_callV2_i0 dL_law_1075 rfl lkV_RL_131 (S_0 g402) (Nat.le_of_ble_eq_true rfl) (Nat.le_of_ble_eq_true rfl) (Nat.le_of_ble_eq_true rfl) (ct_x10_coin g402 (⟨h401, g403⟩)) (fun r404 => ?_)
        refine s_aload_n 2 dL_law_1078 rfl rfl ?_
        refine s_aload_n 0 dL_law_1079 rfl rfl ?_
        refine s_iload_n 3 dL_law_1080 rfl rfl ?_
        refine s_iconst (v := 1) dL_law_1081 rfl cI_1 ?_
        refine s_iadd dL_law_1082 rfl ?_
        refine sm_ck (fun g405 => ?_)
        refine s_sld dL_law_1083 rfl g405 ?_
        refine s_aload_n 0 dL_law_1084 rfl rfl ?_
        refine s_iload_n 3 dL_law_1085 rfl rfl ?_
        refine s_iconst (v := 2) dL_law_1086 rfl cI_2 ?_
        refine s_iadd dL_law_1087 rfl ?_
        refine sm_ck (fun g406 => ?_)
        refine s_sld dL_law_1088 rfl g406 ?_
        refine s_callV2_i1 dL_law_1089 rfl lkV_RL_134 (S_102 g402) (Nat.le_of_ble_eq_true rfl) (Nat.le_of_ble_eq_true rfl) (Nat.le_of_ble_eq_true rfl) (ct_x11_coin g402) (fun r407 I408 => ?_)
        refine s_icmp_eq (tgt := 1325) dL_law_1092 rfl rfl (fun _ => ?_) (fun _ => ?_)
        · skip
          refine s_iincL 3 (c := 6) (fun v409 => [(3, .int v409), (0, .ref X.2.2.2.2.2.1), (1, .ref (X.1 + 0)), (2, .ref (X.1 + 102))]) dL_law_1325 rfl rfl cI_6 (by decide) (fun _ => rfl) (fun v409 => ?_)
          refine s_goto (tgt := 18) dL_law_1328 rfl ?_
          refine s_pick [1, 2, 3, 0] rfl ?_
          exact ih v409 I408 L R S
        · skip
          refine s_iconst (v := 0) dL_law_1095 rfl cI_0 ?_
          exact s_zret dL_law_1096 rfl (Or.inl rfl) (fun f h => h)
      refine sm_ite (fun h410 => ?_) (fun h410 => ?_)
      · skip
        refine s_tin (tgt := 1097) dL_law_33 (by rw [h410]; try decide) (by rw [h410]; try decide) (by rw [h410]; try rfl) rfl ?_
        refine s_aload_n 1 dL_law_1097 rfl rfl ?_
        refine s_aload_n 0 dL_law_1098 rfl rfl ?_
        refine s_iload_n 3 dL_law_1099 rfl rfl ?_
        refine s_iconst (v := 1) dL_law_1100 rfl cI_1 ?_
        refine s_iadd dL_law_1101 rfl ?_
        refine sm_ck (fun g411 => ?_)
        refine s_sld dL_law_1102 rfl g411 ?_
        refine sm_ck (fun g412 => ?_)
        refine s_callV1_i0 dL_law_1103 rfl lkV_RL_135 (S_0 g412) (Nat.le_of_ble_eq_true rfl) (Nat.le_of_ble_eq_true rfl) (Nat.le_of_ble_eq_true rfl) (ct_x10_lies g412) (fun r413 => ?_)
        refine s_aload_n 2 dL_law_1106 rfl rfl ?_
        refine s_aload_n 0 dL_law_1107 rfl rfl ?_
        refine s_iload_n 3 dL_law_1108 rfl rfl ?_
        refine s_iconst (v := 1) dL_law_1109 rfl cI_1 ?_
        refine s_iadd dL_law_1110 rfl ?_
        refine sm_ck (fun g414 => ?_)
        refine s_sld dL_law_1111 rfl g414 ?_
        refine s_callV1_i0 dL_law_1112 rfl lkV_RL_138 (S_102 g412) (Nat.le_of_ble_eq_true rfl) (Nat.le_of_ble_eq_true rfl) (Nat.le_of_ble_eq_true rfl) (ct_x11_lies g412) (fun r415 => ?_)
        refine s_icmp_eq (tgt := 1325) dL_law_1115 rfl rfl (fun _ => ?_) (fun _ => ?_)
        · skip
          refine s_iincL 3 (c := 6) (fun v416 => [(3, .int v416), (0, .ref X.2.2.2.2.2.1), (1, .ref (X.1 + 0)), (2, .ref (X.1 + 102))]) dL_law_1325 rfl rfl cI_6 (by decide) (fun _ => rfl) (fun v416 => ?_)
          refine s_goto (tgt := 18) dL_law_1328 rfl ?_
          refine s_pick [1, 2, 3, 0] rfl ?_
          exact ih v416 I L R S
        · skip
          refine s_iconst (v := 0) dL_law_1118 rfl cI_0 ?_
          exact s_zret dL_law_1119 rfl (Or.inl rfl) (fun f h => h)
      refine sm_ite (fun h417 => ?_) (fun h417 => ?_)
      · skip
        refine s_tin (tgt := 1120) dL_law_33 (by rw [h417]; try decide) (by rw [h417]; try decide) (by rw [h417]; try rfl) rfl ?_
        refine s_aload_n 1 dL_law_1120 rfl rfl ?_
        refine s_aload_n 0 dL_law_1121 rfl rfl ?_
        refine s_iload_n 3 dL_law_1122 rfl rfl ?_
        refine s_iconst (v := 1) dL_law_1123 rfl cI_1 ?_
        refine s_iadd dL_law_1124 rfl ?_
        refine sm_ck (fun g418 => ?_)
        refine s_sld dL_law_1125 rfl g418 ?_
        refine s_aload_n 0 dL_law_1126 rfl rfl ?_
        refine s_iload_n 3 dL_law_1127 rfl rfl ?_
        refine s_iconst (v := 2) dL_law_1128 rfl cI_2 ?_
        refine s_iadd dL_law_1129 rfl ?_
        refine sm_ck (fun g419 => ?_)
        refine s_sld dL_law_1130 rfl g419 ?_
        refine s_aload_n 0 dL_law_1131 rfl rfl ?_
        refine s_iload_n 3 dL_law_1132 rfl rfl ?_
        refine s_iconst (v := 3) dL_law_1133 rfl cI_3 ?_
        refine s_iadd dL_law_1134 rfl ?_
        refine sm_ck (fun g420 => ?_)
        refine s_sld dL_law_1135 rfl g420 ?_
        refine sm_ck (fun g423 => ?_)
        refine sm_b1 (fun t_421 h422 => ?_)
        refine sm_ck (fun g424 => ?_)
        refine s_callV3_i1 dL_law_1136 rfl lkV_RL_139 (S_0 g423) (Nat.le_of_ble_eq_true rfl) (Nat.le_of_ble_eq_true rfl) (Nat.le_of_ble_eq_true rfl) (ct_x10_pick g423 (⟨h422, g424⟩)) (fun r425 I426 => ?_)
        refine s_aload_n 2 dL_law_1139 rfl rfl ?_
        refine s_aload_n 0 dL_law_1140 rfl rfl ?_
        refine s_iload_n 3 dL_law_1141 rfl rfl ?_
        refine s_iconst (v := 1) dL_law_1142 rfl cI_1 ?_
        refine s_iadd dL_law_1143 rfl ?_
        refine sm_ck (fun g427 => ?_)
        refine s_sld dL_law_1144 rfl g427 ?_
        refine s_aload_n 0 dL_law_1145 rfl rfl ?_
        refine s_iload_n 3 dL_law_1146 rfl rfl ?_
        refine s_iconst (v := 2) dL_law_1147 rfl cI_2 ?_
        refine s_iadd dL_law_1148 rfl ?_
        refine sm_ck (fun g428 => ?_)
        refine s_sld dL_law_1149 rfl g428 ?_
        refine s_aload_n 0 dL_law_1150 rfl rfl ?_
        refine s_iload_n 3 dL_law_1151 rfl rfl ?_
        refine s_iconst (v := 3) dL_law_1152 rfl cI_3 ?_
        refine s_iadd dL_law_1153 rfl ?_
        refine sm_ck (fun g429 => ?_)
        refine s_sld dL_law_1154 rfl g429 ?_
        refine s_callV3_i1 dL_law_1155 rfl lkV_RL_142 (S_102 g423) (Nat.le_of_ble_eq_true rfl) (Nat.le_of_ble_eq_true rfl) (Nat.le_of_ble_eq_true rfl) (ct_x11_pick g423) (fun r430 I431 => ?_)
        refine s_icmp_eq (tgt := 1325) dL_law_1158 rfl rfl (fun _ => ?_) (fun _ => ?_)
        · skip
          refine s_iincL 3 (c := 6) (fun v432 => [(3, .int v432), (0, .ref X.2.2.2.2.2.1), (1, .ref (X.1 + 0)), (2, .ref (X.1 + 102))]) dL_law_1325 rfl rfl cI_6 (by decide) (fun _ => rfl) (fun v432 => ?_)
          refine s_goto (tgt := 18) dL_law_1328 rfl ?_
          refine s_pick [1, 2, 3, 0] rfl ?_
          exact ih v432 I431 L R S
        · skip
          refine s_iconst (v := 0) dL_law_1161 rfl cI_0 ?_
          exact s_zret dL_law_1162 rfl (Or.inl rfl) (fun f h => h)
      refine sm_ite (fun h433 => ?_) (fun h433 => ?_)
      · skip
        refine s_tin (tgt := 1163) dL_law_33 (by rw [h433]; try decide) (by rw [h433]; try decide) (by rw [h433]; try rfl) rfl ?_
        refine s_aload_n 1 dL_law_1163 rfl rfl ?_
        refine s_aload_n 0 dL_law_1164 rfl rfl ?_
        refine s_iload_n 3 dL_law_1165 rfl rfl ?_
        refine s_iconst (v := 1) dL_law_1166 rfl cI_1 ?_
        refine s_iadd dL_law_1167 rfl ?_
        refine sm_ck (fun g434 => ?_)
        refine s_sld dL_law_1168 rfl g434 ?_
        refine sm_ck (fun g435 => ?_)
        refine s_callV1_i1 dL_law_1169 rfl lkV_RL_143 (S_0 g435) (Nat.le_of_ble_eq_true rfl) (Nat.le_of_ble_eq_true rfl) (Nat.le_of_ble_eq_true rfl) (ct_x10_untell g435) (fun r436 I437 => ?_)
        refine s_aload_n 2 dL_law_1172 rfl rfl ?_
        refine s_aload_n 0 dL_law_1173 rfl rfl ?_
        refine s_iload_n 3 dL_law_1174 rfl rfl ?_
        refine s_iconst (v := 1) dL_law_1175 rfl cI_1 ?_
        refine s_iadd dL_law_1176 rfl ?_
        refine sm_ck (fun g438 => ?_)
        refine s_sld dL_law_1177 rfl g438 ?_
        refine s_callV1_i1 dL_law_1178 rfl lkV_RL_147 (S_102 g435) (Nat.le_of_ble_eq_true rfl) (Nat.le_of_ble_eq_true rfl) (Nat.le_of_ble_eq_true rfl) (ct_x11_untell g435) (fun r439 I440 => ?_)
        refine s_icmp_eq (tgt := 1325) dL_law_1181 rfl rfl (fun _ => ?_) (fun _ => ?_)
        · skip
          refine s_iincL 3 (c := 6) (fun v441 => [(3, .int v441), (0, .ref X.2.2.2.2.2.1), (1, .ref (X.1 + 0)), (2, .ref (X.1 + 102))]) dL_law_1325 rfl rfl cI_6 (by decide) (fun _ => rfl) (fun v441 => ?_)
          refine s_goto (tgt := 18) dL_law_1328 rfl ?_
          refine s_pick [1, 2, 3, 0] rfl ?_
          exact ih v441 I440 L R S
        · skip
          refine s_iconst (v := 0) dL_law_1184 rfl cI_0 ?_
          exact s_zret dL_law_1185 rfl (Or.inl rfl) (fun f h => h)
      refine sm_ite (fun h442 => ?_) (fun h442 => ?_)
      · skip
        refine s_tin (tgt := 1186) dL_law_33 (by rw [h442]; try decide) (by rw [h442]; try decide) (by rw [h442]; try rfl) rfl ?_
        refine s_aload_n 1 dL_law_1186 rfl rfl ?_
        refine s_aload_n 0 dL_law_1187 rfl rfl ?_
        refine s_iload_n 3 dL_law_1188 rfl rfl ?_
        refine s_iconst (v := 1) dL_law_1189 rfl cI_1 ?_
        refine s_iadd dL_law_1190 rfl ?_
        refine sm_ck (fun g443 => ?_)
        refine s_sld dL_law_1191 rfl g443 ?_
        refine sm_ck (fun g444 => ?_)
        refine s_callV1_i1 dL_law_1192 rfl lkV_RL_148 (S_0 g444) (Nat.le_of_ble_eq_true rfl) (Nat.le_of_ble_eq_true rfl) (Nat.le_of_ble_eq_true rfl) (ct_x10_later g444) (fun r445 I446 => ?_)
        refine s_aload_n 2 dL_law_1195 rfl rfl ?_
        refine s_aload_n 0 dL_law_1196 rfl rfl ?_
        refine s_iload_n 3 dL_law_1197 rfl rfl ?_
        refine s_iconst (v := 1) dL_law_1198 rfl cI_1 ?_
        refine s_iadd dL_law_1199 rfl ?_
        refine sm_ck (fun g447 => ?_)
        refine s_sld dL_law_1200 rfl g447 ?_
        refine s_callV1_i1 dL_law_1201 rfl lkV_RL_151 (S_102 g444) (Nat.le_of_ble_eq_true rfl) (Nat.le_of_ble_eq_true rfl) (Nat.le_of_ble_eq_true rfl) (ct_x11_later g444) (fun r448 I449 => ?_)
        refine s_icmp_eq (tgt := 1325) dL_law_1204 rfl rfl (fun _ => ?_) (fun _ => ?_)
        · skip
          refine s_iincL 3 (c := 6) (fun v450 => [(3, .int v450), (0, .ref X.2.2.2.2.2.1), (1, .ref (X.1 + 0)), (2, .ref (X.1 + 102))]) dL_law_1325 rfl rfl cI_6 (by decide) (fun _ => rfl) (fun v450 => ?_)
          refine s_goto (tgt := 18) dL_law_1328 rfl ?_
          refine s_pick [1, 2, 3, 0] rfl ?_
          exact ih v450 I449 L R S
        · skip
          refine s_iconst (v := 0) dL_law_1207 rfl cI_0 ?_
          exact s_zret dL_law_1208 rfl (Or.inl rfl) (fun f h => h)
      refine sm_ite (fun h451 => ?_) (fun h451 => ?_)
      · skip
        refine s_tin (tgt := 1209) dL_law_33 (by rw [h451]; try decide) (by rw [h451]; try decide) (by rw [h451]; try rfl) rfl ?_
        refine s_aload_n 1 dL_law_1209 rfl rfl ?_
        refine s_aload_n 0 dL_law_1210 rfl rfl ?_
        refine s_iload_n 3 dL_law_1211 rfl rfl ?_
        refine s_iconst (v := 1) dL_law_1212 rfl cI_1 ?_
        refine s_iadd dL_law_1213 rfl ?_
        refine sm_ck (fun g452 => ?_)
        refine s_sld dL_law_1214 rfl g452 ?_
        refine sm_ck (fun g455 => ?_)
        refine sm_b1 (fun t_453 h454 => ?_)
        refine sm_ck (fun g456 => ?_)
        refine s_callV1_i1 dL_law_1215 rfl lkV_RL_152 (S_0 g455) (Nat.le_of_ble_eq_true rfl) (Nat.le_of_ble_eq_true rfl) (Nat.le_of_ble_eq_true rfl) (ct_x10_fits g455 (⟨h454, g456⟩)) (fun r457 I458 => ?_)
        refine s_aload_n 2 dL_law_1218 rfl rfl ?_
        refine s_aload_n 0 dL_law_1219 rfl rfl ?_
        refine s_iload_n 3 dL_law_1220 rfl rfl ?_
        refine s_iconst (v := 1) dL_law_1221 rfl cI_1 ?_
        refine s_iadd dL_law_1222 rfl ?_
        refine sm_ck (fun g459 => ?_)
        refine s_sld dL_law_1223 rfl g459 ?_
        refine s_callV1_i1 dL_law_1224 rfl lkV_RL_155 (S_102 g455) (Nat.le_of_ble_eq_true rfl) (Nat.le_of_ble_eq_true rfl) (Nat.le_of_ble_eq_true rfl) (ct_x11_fits g455) (fun r460 I461 => ?_)
        refine s_icmp_eq (tgt := 1325) dL_law_1227 rfl rfl (fun _ => ?_) (fun _ => ?_)
        · skip
          refine s_iincL 3 (c := 6) (fun v462 => [(3, .int v462), (0, .ref X.2.2.2.2.2.1), (1, .ref (X.1 + 0)), (2, .ref (X.1 + 102))]) dL_law_1325 rfl rfl cI_6 (by decide) (fun _ => rfl) (fun v462 => ?_)
          refine s_goto (tgt := 18) dL_law_1328 rfl ?_
          refine s_pick [1, 2, 3, 0] rfl ?_
          exact ih v462 I461 L R S
        · skip
          refine s_iconst (v := 0) dL_law_1230 rfl cI_0 ?_
          exact s_zret dL_law_1231 rfl (Or.inl rfl) (fun f h => h)
      refine sm_ite (fun h463 => ?_) (fun h463 => ?_)
      · skip
        refine s_tin (tgt := 1232) dL_law_33 (by rw [h463]; try decide) (by rw [h463]; try decide) (by rw [h463]; try rfl) rfl ?_
        refine s_aload_n 1 dL_law_1232 rfl rfl ?_
        refine s_aload_n 0 dL_law_1233 rfl rfl ?_
        refine s_iload_n 3 dL_law_1234 rfl rfl ?_
        refine s_iconst (v := 1) dL_law_1235 rfl cI_1 ?_
        refine s_iadd dL_law_1236 rfl ?_
        refine sm_ck (fun g464 => ?_)
        refine s_sld dL_law_1237 rfl g464 ?_
        refine sm_ck (fun g465 => ?_)
        refine s_callV1_l0 dL_law_1238 rfl lkV_RL_156 (S_0 g465) (Nat.le_of_ble_eq_true rfl) (Nat.le_of_ble_eq_true rfl) (Nat.le_of_ble_eq_true rfl) (ct_x10_chance g465) (fun r466 => ?_)
        refine s_aload_n 2 dL_law_1241 rfl rfl ?_
        refine s_aload_n 0 dL_law_1242 rfl rfl ?_
        refine s_iload_n 3 dL_law_1243 rfl rfl ?_
        refine s_iconst (v := 1) dL_law_1244 rfl cI_1 ?_
        refine s_iadd dL_law_1245 rfl ?_
        refine sm_ck (fun g467 => ?_)
        refine s_sld dL_law_1246 rfl g467 ?_
        refine s_callV1_l0 dL_law_1247 rfl lkV_RL_160 (S_102 g465) (Nat.le_of_ble_eq_true rfl) (Nat.le_of_ble_eq_true rfl) (Nat.le_of_ble_eq_true rfl) (ct_x11_chance g465) (fun r468 => ?_)
        refine s_lcmp dL_law_1250 rfl ?_
        refine s_if_eq (tgt := 1325) dL_law_1251 rfl rfl (fun _ => ?_) (fun _ => ?_)
        · skip
          refine s_iincL 3 (c := 6) (fun v469 => [(3, .int v469), (0, .ref X.2.2.2.2.2.1), (1, .ref (X.1 + 0)), (2, .ref (X.1 + 102))]) dL_law_1325 rfl rfl cI_6 (by decide) (fun _ => rfl) (fun v469 => ?_)
          refine s_goto (tgt := 18) dL_law_1328 rfl ?_
          refine s_pick [1, 2, 3, 0] rfl ?_
          exact ih v469 I L R S
        · skip
          refine s_iconst (v := 0) dL_law_1254 rfl cI_0 ?_
          exact s_zret dL_law_1255 rfl (Or.inl rfl) (fun f h => h)
      refine sm_ite (fun h470 => ?_) (fun h470 => ?_)
      · skip
        refine s_tin (tgt := 1256) dL_law_33 (by rw [h470]; try decide) (by rw [h470]; try decide) (by rw [h470]; try rfl) rfl ?_
        refine s_aload_n 1 dL_law_1256 rfl rfl ?_
        refine s_aload_n 0 dL_law_1257 rfl rfl ?_
        refine s_iload_n 3 dL_law_1258 rfl rfl ?_
        refine s_iconst (v := 1) dL_law_1259 rfl cI_1 ?_
        refine s_iadd dL_law_1260 rfl ?_
        refine sm_ck (fun g471 => ?_)
        refine s_sld dL_law_1261 rfl g471 ?_
        refine sm_ck (fun g472 => ?_)
        refine s_callV1_i3 dL_law_1262 rfl lkV_RL_161 (S_0 g472) (Nat.le_of_ble_eq_true rfl) (Nat.le_of_ble_eq_true rfl) (Nat.le_of_ble_eq_true rfl) ct_x10_image (fun r473 I474 L475 R476 S477 => ?_)
        refine s_aload_n 2 dL_law_1265 rfl rfl ?_
        refine s_aload_n 0 dL_law_1266 rfl rfl ?_
        refine s_iload_n 3 dL_law_1267 rfl rfl ?_
        refine s_iconst (v := 1) dL_law_1268 rfl cI_1 ?_
        refine s_iadd dL_law_1269 rfl ?_
        refine sm_ck (fun g478 => ?_)
        refine s_sld dL_law_1270 rfl g478 ?_
        refine sm_ck (fun g479 => ?_)
        refine s_callV1_i1 dL_law_1271 rfl lkV_RL_164 (S_102 g479) (Nat.le_of_ble_eq_true rfl) (Nat.le_of_ble_eq_true rfl) (Nat.le_of_ble_eq_true rfl) (ct_x11_image g479) (fun r480 I481 => ?_)
        refine s_icmp_eq (tgt := 1325) dL_law_1274 rfl rfl (fun _ => ?_) (fun _ => ?_)
        · skip
          refine s_iincL 3 (c := 6) (fun v482 => [(3, .int v482), (0, .ref X.2.2.2.2.2.1), (1, .ref (X.1 + 0)), (2, .ref (X.1 + 102))]) dL_law_1325 rfl rfl cI_6 (by decide) (fun _ => rfl) (fun v482 => ?_)
          refine s_goto (tgt := 18) dL_law_1328 rfl ?_
          refine s_pick [1, 2, 3, 0] rfl ?_
          exact ih v482 I481 L475 R476 S477
        · skip
          refine s_iconst (v := 0) dL_law_1277 rfl cI_0 ?_
          exact s_zret dL_law_1278 rfl (Or.inl rfl) (fun f h => h)
      refine sm_ite (fun h483 => ?_) (fun h483 => ?_)
      · skip
        refine s_tin (tgt := 1279) dL_law_33 (by rw [h483]; try decide) (by rw [h483]; try decide) (by rw [h483]; try rfl) rfl ?_
        refine s_aload_n 1 dL_law_1279 rfl rfl ?_
        refine s_aload_n 0 dL_law_1280 rfl rfl ?_
        refine s_iload_n 3 dL_law_1281 rfl rfl ?_
        refine s_iconst (v := 1) dL_law_1282 rfl cI_1 ?_
        refine s_iadd dL_law_1283 rfl ?_
        refine sm_ck (fun g484 => ?_)
        refine s_sld dL_law_1284 rfl g484 ?_
        refine sm_ck (fun g485 => ?_)
        refine s_callV1_i3 dL_law_1285 rfl lkV_RL_165 (S_0 g485) (Nat.le_of_ble_eq_true rfl) (Nat.le_of_ble_eq_true rfl) (Nat.le_of_ble_eq_true rfl) ct_x10_back (fun r486 I487 L488 R489 S490 => ?_)
        refine s_aload_n 2 dL_law_1288 rfl rfl ?_
        refine s_aload_n 0 dL_law_1289 rfl rfl ?_
        refine s_iload_n 3 dL_law_1290 rfl rfl ?_
        refine s_iconst (v := 1) dL_law_1291 rfl cI_1 ?_
        refine s_iadd dL_law_1292 rfl ?_
        refine sm_ck (fun g491 => ?_)
        refine s_sld dL_law_1293 rfl g491 ?_
        refine sm_ck (fun g492 => ?_)
        refine s_callV1_i1 dL_law_1294 rfl lkV_RL_168 (S_102 g492) (Nat.le_of_ble_eq_true rfl) (Nat.le_of_ble_eq_true rfl) (Nat.le_of_ble_eq_true rfl) (ct_x11_back g492) (fun r493 I494 => ?_)
        refine s_icmp_eq (tgt := 1325) dL_law_1297 rfl rfl (fun _ => ?_) (fun _ => ?_)
        · skip
          refine s_iincL 3 (c := 6) (fun v495 => [(3, .int v495), (0, .ref X.2.2.2.2.2.1), (1, .ref (X.1 + 0)), (2, .ref (X.1 + 102))]) dL_law_1325 rfl rfl cI_6 (by decide) (fun _ => rfl) (fun v495 => ?_)
          refine s_goto (tgt := 18) dL_law_1328 rfl ?_
          refine s_pick [1, 2, 3, 0] rfl ?_
          exact ih v495 I494 L488 R489 S490
        · skip
          refine s_iconst (v := 0) dL_law_1300 rfl cI_0 ?_
          exact s_zret dL_law_1301 rfl (Or.inl rfl) (fun f h => h)
      refine sm_ite (fun h496 => ?_) (fun h496 => ?_)
      · skip
        refine s_tin (tgt := 1302) dL_law_33 (by rw [h496]; try decide) (by rw [h496]; try decide) (by rw [h496]; try rfl) rfl ?_
        refine s_aload_n 1 dL_law_1302 rfl rfl ?_
        refine s_aload_n 0 dL_law_1303 rfl rfl ?_
        refine s_iload_n 3 dL_law_1304 rfl rfl ?_
        refine s_iconst (v := 1) dL_law_1305 rfl cI_1 ?_
        refine s_iadd dL_law_1306 rfl ?_
        refine sm_ck (fun g497 => ?_)
        refine s_sld dL_law_1307 rfl g497 ?_
        refine sm_ck (fun g500 => ?_)
        refine sm_b1 (fun t_498 h499 => ?_)
        refine sm_ck (fun g501 => ?_)
        refine s_callV1_i0 dL_law_1308 rfl lkV_RL_169 (S_0 g500) (Nat.le_of_ble_eq_true rfl) (Nat.le_of_ble_eq_true rfl) (Nat.le_of_ble_eq_true rfl) (ct_x10_about g500 (⟨h499, g501⟩)) (fun r502 => ?_)
        refine s_aload_n 2 dL_law_1311 rfl rfl ?_
        refine s_aload_n 0 dL_law_1312 rfl rfl ?_
        refine s_iload_n 3 dL_law_1313 rfl rfl ?_
        refine s_iconst (v := 1) dL_law_1314 rfl cI_1 ?_
        refine s_iadd dL_law_1315 rfl ?_
        refine sm_ck (fun g503 => ?_)
        refine s_sld dL_law_1316 rfl g503 ?_
        refine s_callV1_i1 dL_law_1317 rfl lkV_RL_172 (S_102 g500) (Nat.le_of_ble_eq_true rfl) (Nat.le_of_ble_eq_true rfl) (Nat.le_of_ble_eq_true rfl) (ct_x11_about g500) (fun r504 I505 => ?_)
        refine s_icmp_eq (tgt := 1325) dL_law_1320 rfl rfl (fun _ => ?_) (fun _ => ?_)
        · skip
          refine s_iincL 3 (c := 6) (fun v506 => [(3, .int v506), (0, .ref X.2.2.2.2.2.1), (1, .ref (X.1 + 0)), (2, .ref (X.1 + 102))]) dL_law_1325 rfl rfl cI_6 (by decide) (fun _ => rfl) (fun v506 => ?_)
          refine s_goto (tgt := 18) dL_law_1328 rfl ?_
          refine s_pick [1, 2, 3, 0] rfl ?_
          exact ih v506 I505 L R S
        · skip
          refine s_iconst (v := 0) dL_law_1323 rfl cI_0 ?_
          exact s_zret dL_law_1324 rfl (Or.inl rfl) (fun f h => h)
      have hsw : ¬ (((xs (ix w3)) &&& 63)).toInt = 0 ∧ ¬ (((xs (ix w3)) &&& 63)).toInt = 1 ∧ ¬ (((xs (ix w3)) &&& 63)).toInt = 2 ∧ ¬ (((xs (ix w3)) &&& 63)).toInt = 3 ∧ ¬ (((xs (ix w3)) &&& 63)).toInt = 4 ∧ ¬ (((xs (ix w3)) &&& 63)).toInt = 5 ∧ ¬ (((xs (ix w3)) &&& 63)).toInt = 6 ∧ ¬ (((xs (ix w3)) &&& 63)).toInt = 7 ∧ ¬ (((xs (ix w3)) &&& 63)).toInt = 8 ∧ ¬ (((xs (ix w3)) &&& 63)).toInt = 9 ∧ ¬ (((xs (ix w3)) &&& 63)).toInt = 10 ∧ ¬ (((xs (ix w3)) &&& 63)).toInt = 11 ∧ ¬ (((xs (ix w3)) &&& 63)).toInt = 12 ∧ ¬ (((xs (ix w3)) &&& 63)).toInt = 13 ∧ ¬ (((xs (ix w3)) &&& 63)).toInt = 14 ∧ ¬ (((xs (ix w3)) &&& 63)).toInt = 15 ∧ ¬ (((xs (ix w3)) &&& 63)).toInt = 16 ∧ ¬ (((xs (ix w3)) &&& 63)).toInt = 17 ∧ ¬ (((xs (ix w3)) &&& 63)).toInt = 18 ∧ ¬ (((xs (ix w3)) &&& 63)).toInt = 19 ∧ ¬ (((xs (ix w3)) &&& 63)).toInt = 20 ∧ ¬ (((xs (ix w3)) &&& 63)).toInt = 21 ∧ ¬ (((xs (ix w3)) &&& 63)).toInt = 22 ∧ ¬ (((xs (ix w3)) &&& 63)).toInt = 23 ∧ ¬ (((xs (ix w3)) &&& 63)).toInt = 24 ∧ ¬ (((xs (ix w3)) &&& 63)).toInt = 25 ∧ ¬ (((xs (ix w3)) &&& 63)).toInt = 26 ∧ ¬ (((xs (ix w3)) &&& 63)).toInt = 27 ∧ ¬ (((xs (ix w3)) &&& 63)).toInt = 28 ∧ ¬ (((xs (ix w3)) &&& 63)).toInt = 29 ∧ ¬ (((xs (ix w3)) &&& 63)).toInt = 30 ∧ ¬ (((xs (ix w3)) &&& 63)).toInt = 31 ∧ ¬ (((xs (ix w3)) &&& 63)).toInt = 32 ∧ ¬ (((xs (ix w3)) &&& 63)).toInt = 33 ∧ ¬ (((xs (ix w3)) &&& 63)).toInt = 34 ∧ ¬ (((xs (ix w3)) &&& 63)).toInt = 35 ∧ ¬ (((xs (ix w3)) &&& 63)).toInt = 36 ∧ ¬ (((xs (ix w3)) &&& 63)).toInt = 37 := ⟨lv_neT h23 (a := 0) rfl, lv_neT h40 (a := 1) rfl, lv_neT h49 (a := 2) rfl, lv_neT h61 (a := 3) rfl, lv_neT h68 (a := 4) rfl, lv_neT h80 (a := 5) rfl, lv_neT h92 (a := 6) rfl, lv_neT h108 (a := 7) rfl, lv_neT h120 (a := 8) rfl, lv_neT h137 (a := 9) rfl, lv_neT h150 (a := 10) rfl, lv_neT h163 (a := 11) rfl, lv_neT h176 (a := 12) rfl, lv_neT h187 (a := 13) rfl, lv_neT h198 (a := 14) rfl, lv_neT h215 (a := 15) rfl, lv_neT h229 (a := 16) rfl, lv_neT h241 (a := 17) rfl, lv_neT h251 (a := 18) rfl, lv_neT h265 (a := 19) rfl, lv_neT h279 (a := 20) rfl, lv_neT h295 (a := 21) rfl, lv_neT h307 (a := 22) rfl, lv_neT h324 (a := 23) rfl, lv_neT h336 (a := 24) rfl, lv_neT h350 (a := 25) rfl, lv_neT h364 (a := 26) rfl, lv_neT h381 (a := 27) rfl, lv_neT h397 (a := 28) rfl, lv_neT h410 (a := 29) rfl, lv_neT h417 (a := 30) rfl, lv_neT h433 (a := 31) rfl, lv_neT h442 (a := 32) rfl, lv_neT h451 (a := 33) rfl, lv_neT h463 (a := 34) rfl, lv_neT h470 (a := 35) rfl, lv_neT h483 (a := 36) rfl, lv_neT h496 (a := 37) rfl⟩
      refine s_tout (tgt := 1325) dL_law_33 (by omega) rfl ?_
      refine s_iincL 3 (c := 6) (fun v507 => [(3, .int v507), (0, .ref X.2.2.2.2.2.1), (1, .ref (X.1 + 0)), (2, .ref (X.1 + 102))]) dL_law_1325 rfl rfl cI_6 (by decide) (fun _ => rfl) (fun v507 => ?_)
      refine s_goto (tgt := 18) dL_law_1328 rfl ?_
      refine s_pick [1, 2, 3, 0] rfl ?_
      exact ih v507 I L R S
theorem sim_law {X : WX} {xs : Nat → Int32} {len : Nat} {I : MI} {L : ML} {R : MR} {S : MS} {n0 s0 : Nat} (hxs : xs = X.2.2.2.2.2.2.2) (hlen : len = X.2.2.2.2.2.2.1) : Sim X yL_law cL_law 4 (some .boolean) 2048 84000 n0 s0 0 [(0, .ref X.2.2.2.2.2.1)] [] (I, L, R, S) (lawF xs len I L R S) (fun a f => f = (fun r => (some (.int r.1), (r.2.1, r.2.2.1, r.2.2.2.1, r.2.2.2.2))) a) := by
  subst hxs hlen
  unfold lawF
  refine s_newL dL_law_0 rfl nl_L_7 (fun o_1 I2 L3 R4 S5 => ?_)
  refine s_dup dL_law_3 rfl rfl ?_
  refine s_callI0_v3 dL_law_4 rfl lkI_RL_9 (Nat.le_of_ble_eq_true rfl) (Nat.le_of_ble_eq_true rfl) (Nat.le_of_ble_eq_true rfl) ct_x10_init (fun I6 L7 R8 S9 => ?_)
  refine sm_ck (fun h10 => ?_)
  subst h10
  refine s_astore_n [(1, .ref (X.1 + 0)), (0, .ref X.2.2.2.2.2.1)] dL_law_7 rfl (by decide) rfl ?_
  refine s_newL dL_law_8 rfl nl_L_10 (fun o_11 I12 L13 R14 S15 => ?_)
  refine s_dup dL_law_11 rfl rfl ?_
  refine s_callI0_v3 dL_law_12 rfl lkI_RL_12 (Nat.le_of_ble_eq_true rfl) (Nat.le_of_ble_eq_true rfl) (Nat.le_of_ble_eq_true rfl) ct_x11_init (fun I16 L17 R18 S19 => ?_)
  refine sm_ck (fun h20 => ?_)
  subst h20
  refine s_astore_n [(2, .ref (X.1 + 102)), (1, .ref (X.1 + 0)), (0, .ref X.2.2.2.2.2.1)] dL_law_15 rfl (by decide) rfl ?_
  refine s_iconst (v := 0) dL_law_16 rfl cI_0 ?_
  refine s_istore_nL (fun v21 => [(3, .int v21), (2, .ref (X.1 + 102)), (1, .ref (X.1 + 0)), (0, .ref X.2.2.2.2.2.1)]) dL_law_17 rfl (by decide) (fun _ => rfl) (fun v21 => ?_)
  refine s_pick [3, 2, 1, 0] rfl ?_
  refine sm_regE (lawF_L18_ok rfl rfl FU v21 I16 L17 R18 S19) (fun e508 => ?_)
  refine s_iconst (v := 1) dL_law_1331 rfl cI_1 ?_
  exact s_zret dL_law_1332 rfl (Or.inr rfl) (fun f h => h)
