/-! each of the law's cases -/
abbrev lvI (E : JE) (b i : Nat) : List (Nat × Value) := [(3, .int (nI i)), (2, .ref (E.2.1 + 137)), (1, .ref (E.2.1 + 0)), (0, .ref b)]
theorem cwL_13 : jcV R_law 13 YX7_link 5 := ⟨⟨(lw_ix 345 (by decide +kernel) (by decide +kernel)), (lw_ix 63 (by decide +kernel) (by decide +kernel)), by decide +kernel, by decide +kernel, by decide +kernel⟩, (lw_ix 342 (by decide +kernel) (by decide +kernel)), (lw_ix 343 (by decide +kernel) (by decide +kernel)), (lw_ix 344 (by decide +kernel) (by decide +kernel))⟩
theorem cwL_17 : jcV R_law 17 YX8_link 5 := ⟨⟨(lw_ix 916 (by decide +kernel) (by decide +kernel)), (lw_ix 71 (by decide +kernel) (by decide +kernel)), by decide +kernel, by decide +kernel, by decide +kernel⟩, (lw_ix 913 (by decide +kernel) (by decide +kernel)), (lw_ix 914 (by decide +kernel) (by decide +kernel)), (lw_ix 915 (by decide +kernel) (by decide +kernel))⟩
theorem lc_0 {E : JE} {b L i T : Nat} {xs : Nat → Int32} {w : Wd} {u : JM} (hL : L ≤ 3072) (hi : i + 5 < L) (c : CW w u) (x : XW w u) (v : WV w T) (hT : T + 90 < 1000000000) (next : ∀ w' u', CW w' u' → XW w' u' → WV w' (T + 80) → LW E b L xs 1147 (lvI E b i) [] (NC, jRF, u')) : LW E b L xs 156 (lvI E b i) [] (NC, jRF, u) := by
  have h2 : w.1 21 0 + 90 < 1000000000 := by have := v.1.2.1; omega
  refine LW_aload (q := 2) dL_law_156 rfl rfl ?_
  refine LW_arg (i := i) (k := 1) dL_law_157 dL_law_158 dL_law_159 dL_law_160 dL_law_161 rfl rfl (by decide) (by omega) hL ?_
  refine LW_arg (i := i) (k := 2) dL_law_162 dL_law_163 dL_law_164 dL_law_165 dL_law_166 rfl rfl (by decide) (by omega) hL ?_
  refine LW_arg (i := i) (k := 3) dL_law_167 dL_law_168 dL_law_169 dL_law_170 dL_law_171 rfl rfl (by decide) (by omega) hL ?_
  refine LW_arg (i := i) (k := 4) dL_law_172 dL_law_173 dL_law_174 dL_law_175 dL_law_176 rfl rfl (by decide) (by omega) hL ?_
  refine LW_arg (i := i) (k := 5) dL_law_177 dL_law_178 dL_law_179 dL_law_180 dL_law_181 rfl rfl (by decide) (by omega) hL ?_
  refine LW_callV (st := []) (a := 0) (as := [.int (xs (i + 1)), .int (xs (i + 2)), .int (xs (i + 3)), .int (xs (i + 4)), .int (xs (i + 5))]) (ci := 7) (d' := 2) (n1 := NC) cwL_13 dL_law_182 rfl (Nat.le_of_ble_eq_true rfl) rfl rfl rfl (Nat.le_of_ble_eq_true rfl) (by decide) (Nat.le_refl _) (Nat.le_refl _) (U7_link c v h2) ?_
  rintro _ _ ⟨_, u1, rfl, rfl, rfl, s1, c1⟩ _
  show LW E b L xs 185 (lvI E b i) [.int (anLink w (xs (i + 1)) (xs (i + 2)) (xs (i + 3)) (xs (i + 4)) (xs (i + 5)))] (NC, jRF, u1)
  refine LW_aload (q := 1) dL_law_185 rfl rfl ?_
  refine LW_arg (i := i) (k := 1) dL_law_186 dL_law_187 dL_law_188 dL_law_189 dL_law_190 rfl rfl (by decide) (by omega) hL ?_
  refine LW_arg (i := i) (k := 2) dL_law_191 dL_law_192 dL_law_193 dL_law_194 dL_law_195 rfl rfl (by decide) (by omega) hL ?_
  refine LW_arg (i := i) (k := 3) dL_law_196 dL_law_197 dL_law_198 dL_law_199 dL_law_200 rfl rfl (by decide) (by omega) hL ?_
  refine LW_arg (i := i) (k := 4) dL_law_201 dL_law_202 dL_law_203 dL_law_204 dL_law_205 rfl rfl (by decide) (by omega) hL ?_
  refine LW_arg (i := i) (k := 5) dL_law_206 dL_law_207 dL_law_208 dL_law_209 dL_law_210 rfl rfl (by decide) (by omega) hL ?_
  refine LW_callV (st := [.int (anLink w (xs (i + 1)) (xs (i + 2)) (xs (i + 3)) (xs (i + 4)) (xs (i + 5)))]) (a := 137) (as := [.int (xs (i + 1)), .int (xs (i + 2)), .int (xs (i + 3)), .int (xs (i + 4)), .int (xs (i + 5))]) (ci := 8) (d' := 3) (n1 := NC) cwL_17 dL_law_211 rfl (Nat.le_of_ble_eq_true rfl) rfl rfl rfl (Nat.le_of_ble_eq_true rfl) (by decide) (Nat.le_refl _) (Nat.le_refl _) (U8_link (x.cls s1) v h2) ?_
  rintro _ _ ⟨_, u2, rfl, rfl, rfl, s2, x2⟩ _
  show LW E b L xs 214 (lvI E b i) [.int (anLink w (xs (i + 1)) (xs (i + 2)) (xs (i + 3)) (xs (i + 4)) (xs (i + 5))), .int (anLink w (xs (i + 1)) (xs (i + 2)) (xs (i + 3)) (xs (i + 4)) (xs (i + 5)))] (NC, jRF, u2)
  refine LW_eq dL_law_214 (tgt := 1147) (by decide) ?_
  exact next _ u2 (c1.up_ s2) x2 (WU_link (xs (i + 1)) (xs (i + 2)) (xs (i + 3)) (xs (i + 4)) (xs (i + 5)) v hT)
theorem cwL_18 : jcV R_law 18 YX7_set 2 := ⟨⟨(lw_ix 362 (by decide +kernel) (by decide +kernel)), (lw_ix 63 (by decide +kernel) (by decide +kernel)), by decide +kernel, by decide +kernel, by decide +kernel⟩, (lw_ix 359 (by decide +kernel) (by decide +kernel)), (lw_ix 360 (by decide +kernel) (by decide +kernel)), (lw_ix 361 (by decide +kernel) (by decide +kernel))⟩
theorem cwL_22 : jcV R_law 22 YX8_set 2 := ⟨⟨(lw_ix 929 (by decide +kernel) (by decide +kernel)), (lw_ix 71 (by decide +kernel) (by decide +kernel)), by decide +kernel, by decide +kernel, by decide +kernel⟩, (lw_ix 926 (by decide +kernel) (by decide +kernel)), (lw_ix 927 (by decide +kernel) (by decide +kernel)), (lw_ix 928 (by decide +kernel) (by decide +kernel))⟩
theorem lc_1 {E : JE} {b L i T : Nat} {xs : Nat → Int32} {w : Wd} {u : JM} (hL : L ≤ 3072) (hi : i + 5 < L) (c : CW w u) (x : XW w u) (v : WV w T) (hT : T + 90 < 1000000000) (next : ∀ w' u', CW w' u' → XW w' u' → WV w' (T + 80) → LW E b L xs 1147 (lvI E b i) [] (NC, jRF, u')) : LW E b L xs 219 (lvI E b i) [] (NC, jRF, u) := by
  have h2 : w.1 21 0 + 90 < 1000000000 := by have := v.1.2.1; omega
  refine LW_aload (q := 2) dL_law_219 rfl rfl ?_
  refine LW_arg (i := i) (k := 1) dL_law_220 dL_law_221 dL_law_222 dL_law_223 dL_law_224 rfl rfl (by decide) (by omega) hL ?_
  refine LW_arg (i := i) (k := 2) dL_law_225 dL_law_226 dL_law_227 dL_law_228 dL_law_229 rfl rfl (by decide) (by omega) hL ?_
  refine LW_callV (st := []) (a := 0) (as := [.int (xs (i + 1)), .int (xs (i + 2))]) (ci := 7) (d' := 2) (n1 := NC) cwL_18 dL_law_230 rfl (Nat.le_of_ble_eq_true rfl) rfl rfl rfl (Nat.le_of_ble_eq_true rfl) (by decide) (Nat.le_refl _) (Nat.le_refl _) (U7_set c v h2) ?_
  rintro _ _ ⟨_, u1, rfl, rfl, rfl, s1, c1⟩ _
  show LW E b L xs 233 (lvI E b i) [.int (anSet w (xs (i + 1)) (xs (i + 2)))] (NC, jRF, u1)
  refine LW_aload (q := 1) dL_law_233 rfl rfl ?_
  refine LW_arg (i := i) (k := 1) dL_law_234 dL_law_235 dL_law_236 dL_law_237 dL_law_238 rfl rfl (by decide) (by omega) hL ?_
  refine LW_arg (i := i) (k := 2) dL_law_239 dL_law_240 dL_law_241 dL_law_242 dL_law_243 rfl rfl (by decide) (by omega) hL ?_
  refine LW_callV (st := [.int (anSet w (xs (i + 1)) (xs (i + 2)))]) (a := 137) (as := [.int (xs (i + 1)), .int (xs (i + 2))]) (ci := 8) (d' := 3) (n1 := NC) cwL_22 dL_law_244 rfl (Nat.le_of_ble_eq_true rfl) rfl rfl rfl (Nat.le_of_ble_eq_true rfl) (by decide) (Nat.le_refl _) (Nat.le_refl _) (U8_set (x.cls s1) v h2) ?_
  rintro _ _ ⟨_, u2, rfl, rfl, rfl, s2, x2⟩ _
  show LW E b L xs 247 (lvI E b i) [.int (anSet w (xs (i + 1)) (xs (i + 2))), .int (anSet w (xs (i + 1)) (xs (i + 2)))] (NC, jRF, u2)
  refine LW_eq dL_law_247 (tgt := 1147) (by decide) ?_
  exact next _ u2 (c1.up_ s2) x2 (WU_set (xs (i + 1)) (xs (i + 2)) v hT)
theorem cwL_23 : jcV R_law 23 YX7_cost 3 := ⟨⟨(lw_ix 370 (by decide +kernel) (by decide +kernel)), (lw_ix 63 (by decide +kernel) (by decide +kernel)), by decide +kernel, by decide +kernel, by decide +kernel⟩, (lw_ix 367 (by decide +kernel) (by decide +kernel)), (lw_ix 368 (by decide +kernel) (by decide +kernel)), (lw_ix 369 (by decide +kernel) (by decide +kernel))⟩
theorem cwL_27 : jcV R_law 27 YX8_cost 3 := ⟨⟨(lw_ix 937 (by decide +kernel) (by decide +kernel)), (lw_ix 71 (by decide +kernel) (by decide +kernel)), by decide +kernel, by decide +kernel, by decide +kernel⟩, (lw_ix 934 (by decide +kernel) (by decide +kernel)), (lw_ix 935 (by decide +kernel) (by decide +kernel)), (lw_ix 936 (by decide +kernel) (by decide +kernel))⟩
theorem lc_2 {E : JE} {b L i T : Nat} {xs : Nat → Int32} {w : Wd} {u : JM} (hL : L ≤ 3072) (hi : i + 5 < L) (c : CW w u) (x : XW w u) (v : WV w T) (hT : T + 90 < 1000000000) (next : ∀ w' u', CW w' u' → XW w' u' → WV w' (T + 80) → LW E b L xs 1147 (lvI E b i) [] (NC, jRF, u')) : LW E b L xs 252 (lvI E b i) [] (NC, jRF, u) := by
  have h2 : w.1 21 0 + 90 < 1000000000 := by have := v.1.2.1; omega
  refine LW_aload (q := 2) dL_law_252 rfl rfl ?_
  refine LW_arg (i := i) (k := 1) dL_law_253 dL_law_254 dL_law_255 dL_law_256 dL_law_257 rfl rfl (by decide) (by omega) hL ?_
  refine LW_arg (i := i) (k := 2) dL_law_258 dL_law_259 dL_law_260 dL_law_261 dL_law_262 rfl rfl (by decide) (by omega) hL ?_
  refine LW_arg (i := i) (k := 3) dL_law_263 dL_law_264 dL_law_265 dL_law_266 dL_law_267 rfl rfl (by decide) (by omega) hL ?_
  refine LW_callV (st := []) (a := 0) (as := [.int (xs (i + 1)), .int (xs (i + 2)), .int (xs (i + 3))]) (ci := 7) (d' := 2) (n1 := NC) cwL_23 dL_law_268 rfl (Nat.le_of_ble_eq_true rfl) rfl rfl rfl (Nat.le_of_ble_eq_true rfl) (by decide) (Nat.le_refl _) (Nat.le_refl _) (U7_cost c v h2) ?_
  rintro _ _ ⟨_, u1, rfl, rfl, rfl, s1, c1⟩ _
  show LW E b L xs 271 (lvI E b i) [.int (anCost w (xs (i + 1)) (xs (i + 2)) (xs (i + 3)))] (NC, jRF, u1)
  refine LW_aload (q := 1) dL_law_271 rfl rfl ?_
  refine LW_arg (i := i) (k := 1) dL_law_272 dL_law_273 dL_law_274 dL_law_275 dL_law_276 rfl rfl (by decide) (by omega) hL ?_
  refine LW_arg (i := i) (k := 2) dL_law_277 dL_law_278 dL_law_279 dL_law_280 dL_law_281 rfl rfl (by decide) (by omega) hL ?_
  refine LW_arg (i := i) (k := 3) dL_law_282 dL_law_283 dL_law_284 dL_law_285 dL_law_286 rfl rfl (by decide) (by omega) hL ?_
  refine LW_callV (st := [.int (anCost w (xs (i + 1)) (xs (i + 2)) (xs (i + 3)))]) (a := 137) (as := [.int (xs (i + 1)), .int (xs (i + 2)), .int (xs (i + 3))]) (ci := 8) (d' := 3) (n1 := NC) cwL_27 dL_law_287 rfl (Nat.le_of_ble_eq_true rfl) rfl rfl rfl (Nat.le_of_ble_eq_true rfl) (by decide) (Nat.le_refl _) (Nat.le_refl _) (U8_cost (x.cls s1) v h2) ?_
  rintro _ _ ⟨_, u2, rfl, rfl, rfl, s2, x2⟩ _
  show LW E b L xs 290 (lvI E b i) [.int (anCost w (xs (i + 1)) (xs (i + 2)) (xs (i + 3))), .int (anCost w (xs (i + 1)) (xs (i + 2)) (xs (i + 3)))] (NC, jRF, u2)
  refine LW_eq dL_law_290 (tgt := 1147) (by decide) ?_
  exact next _ u2 (c1.up_ s2) x2 (WU_cost (xs (i + 1)) (xs (i + 2)) (xs (i + 3)) v hT)
theorem cwL_28 : jcV R_law 28 YX7_told 2 := ⟨⟨(lw_ix 374 (by decide +kernel) (by decide +kernel)), (lw_ix 63 (by decide +kernel) (by decide +kernel)), by decide +kernel, by decide +kernel, by decide +kernel⟩, (lw_ix 371 (by decide +kernel) (by decide +kernel)), (lw_ix 372 (by decide +kernel) (by decide +kernel)), (lw_ix 373 (by decide +kernel) (by decide +kernel))⟩
theorem cwL_31 : jcV R_law 31 YX8_told 2 := ⟨⟨(lw_ix 941 (by decide +kernel) (by decide +kernel)), (lw_ix 71 (by decide +kernel) (by decide +kernel)), by decide +kernel, by decide +kernel, by decide +kernel⟩, (lw_ix 938 (by decide +kernel) (by decide +kernel)), (lw_ix 939 (by decide +kernel) (by decide +kernel)), (lw_ix 940 (by decide +kernel) (by decide +kernel))⟩
theorem lc_3 {E : JE} {b L i T : Nat} {xs : Nat → Int32} {w : Wd} {u : JM} (hL : L ≤ 3072) (hi : i + 5 < L) (c : CW w u) (x : XW w u) (v : WV w T) (hT : T + 90 < 1000000000) (next : ∀ w' u', CW w' u' → XW w' u' → WV w' (T + 80) → LW E b L xs 1147 (lvI E b i) [] (NC, jRF, u')) : LW E b L xs 295 (lvI E b i) [] (NC, jRF, u) := by
  have h2 : w.1 21 0 + 90 < 1000000000 := by have := v.1.2.1; omega
  refine LW_aload (q := 2) dL_law_295 rfl rfl ?_
  refine LW_arg (i := i) (k := 1) dL_law_296 dL_law_297 dL_law_298 dL_law_299 dL_law_300 rfl rfl (by decide) (by omega) hL ?_
  refine LW_arg (i := i) (k := 2) dL_law_301 dL_law_302 dL_law_303 dL_law_304 dL_law_305 rfl rfl (by decide) (by omega) hL ?_
  refine LW_callV (st := []) (a := 0) (as := [.int (xs (i + 1)), .int (xs (i + 2))]) (ci := 7) (d' := 2) (n1 := NC) cwL_28 dL_law_306 rfl (Nat.le_of_ble_eq_true rfl) rfl rfl rfl (Nat.le_of_ble_eq_true rfl) (by decide) (Nat.le_refl _) (Nat.le_refl _) (U7_told c v h2) ?_
  rintro _ _ ⟨_, u1, rfl, rfl, rfl, s1, c1⟩ _
  show LW E b L xs 309 (lvI E b i) [.int (anTold w (xs (i + 1)) (xs (i + 2)))] (NC, jRF, u1)
  refine LW_aload (q := 1) dL_law_309 rfl rfl ?_
  refine LW_arg (i := i) (k := 1) dL_law_310 dL_law_311 dL_law_312 dL_law_313 dL_law_314 rfl rfl (by decide) (by omega) hL ?_
  refine LW_arg (i := i) (k := 2) dL_law_315 dL_law_316 dL_law_317 dL_law_318 dL_law_319 rfl rfl (by decide) (by omega) hL ?_
  refine LW_callV (st := [.int (anTold w (xs (i + 1)) (xs (i + 2)))]) (a := 137) (as := [.int (xs (i + 1)), .int (xs (i + 2))]) (ci := 8) (d' := 3) (n1 := NC) cwL_31 dL_law_320 rfl (Nat.le_of_ble_eq_true rfl) rfl rfl rfl (Nat.le_of_ble_eq_true rfl) (by decide) (Nat.le_refl _) (Nat.le_refl _) (U8_told (x.cls s1) v h2) ?_
  rintro _ _ ⟨_, u2, rfl, rfl, rfl, s2, x2⟩ _
  show LW E b L xs 323 (lvI E b i) [.int (anTold w (xs (i + 1)) (xs (i + 2))), .int (anTold w (xs (i + 1)) (xs (i + 2)))] (NC, jRF, u2)
  refine LW_eq dL_law_323 (tgt := 1147) (by decide) ?_
  exact next _ u2 (c1.up_ s2) x2 (WU_told (xs (i + 1)) (xs (i + 2)) v hT)
theorem cwL_32 : jcV R_law 32 YX7_router 2 := ⟨⟨(lw_ix 378 (by decide +kernel) (by decide +kernel)), (lw_ix 63 (by decide +kernel) (by decide +kernel)), by decide +kernel, by decide +kernel, by decide +kernel⟩, (lw_ix 375 (by decide +kernel) (by decide +kernel)), (lw_ix 376 (by decide +kernel) (by decide +kernel)), (lw_ix 377 (by decide +kernel) (by decide +kernel))⟩
theorem cwL_35 : jcV R_law 35 YX8_router 2 := ⟨⟨(lw_ix 945 (by decide +kernel) (by decide +kernel)), (lw_ix 71 (by decide +kernel) (by decide +kernel)), by decide +kernel, by decide +kernel, by decide +kernel⟩, (lw_ix 942 (by decide +kernel) (by decide +kernel)), (lw_ix 943 (by decide +kernel) (by decide +kernel)), (lw_ix 944 (by decide +kernel) (by decide +kernel))⟩
theorem lc_4 {E : JE} {b L i T : Nat} {xs : Nat → Int32} {w : Wd} {u : JM} (hL : L ≤ 3072) (hi : i + 5 < L) (c : CW w u) (x : XW w u) (v : WV w T) (hT : T + 90 < 1000000000) (next : ∀ w' u', CW w' u' → XW w' u' → WV w' (T + 80) → LW E b L xs 1147 (lvI E b i) [] (NC, jRF, u')) : LW E b L xs 328 (lvI E b i) [] (NC, jRF, u) := by
  have h2 : w.1 21 0 + 90 < 1000000000 := by have := v.1.2.1; omega
  refine LW_aload (q := 2) dL_law_328 rfl rfl ?_
  refine LW_arg (i := i) (k := 1) dL_law_329 dL_law_330 dL_law_331 dL_law_332 dL_law_333 rfl rfl (by decide) (by omega) hL ?_
  refine LW_arg (i := i) (k := 2) dL_law_334 dL_law_335 dL_law_336 dL_law_337 dL_law_338 rfl rfl (by decide) (by omega) hL ?_
  refine LW_callV (st := []) (a := 0) (as := [.int (xs (i + 1)), .int (xs (i + 2))]) (ci := 7) (d' := 4) (n1 := NC) cwL_32 dL_law_339 rfl (Nat.le_of_ble_eq_true rfl) rfl rfl rfl (Nat.le_of_ble_eq_true rfl) (by decide) (Nat.le_refl _) (Nat.le_refl _) (U7_router c v h2) ?_
  rintro _ _ ⟨_, u1, rfl, rfl, rfl, s1, c1⟩ _
  show LW E b L xs 342 (lvI E b i) [.int (anRouter w.1 (xs (i + 1)) (xs (i + 2)))] (NC, jRF, u1)
  refine LW_aload (q := 1) dL_law_342 rfl rfl ?_
  refine LW_arg (i := i) (k := 1) dL_law_343 dL_law_344 dL_law_345 dL_law_346 dL_law_347 rfl rfl (by decide) (by omega) hL ?_
  refine LW_arg (i := i) (k := 2) dL_law_348 dL_law_349 dL_law_350 dL_law_351 dL_law_352 rfl rfl (by decide) (by omega) hL ?_
  refine LW_callV (st := [.int (anRouter w.1 (xs (i + 1)) (xs (i + 2)))]) (a := 137) (as := [.int (xs (i + 1)), .int (xs (i + 2))]) (ci := 8) (d' := 4) (n1 := NC) cwL_35 dL_law_353 rfl (Nat.le_of_ble_eq_true rfl) rfl rfl rfl (Nat.le_of_ble_eq_true rfl) (by decide) (Nat.le_refl _) (Nat.le_refl _) (U8_router (x.cls s1) v h2) ?_
  rintro _ _ ⟨_, u2, rfl, rfl, rfl, s2, x2⟩ _
  show LW E b L xs 356 (lvI E b i) [.int (anRouter w.1 (xs (i + 1)) (xs (i + 2))), .int (anRouter w.1 (xs (i + 1)) (xs (i + 2)))] (NC, jRF, u2)
  refine LW_eq dL_law_356 (tgt := 1147) (by decide) ?_
  exact next _ u2 (c1.up_ s2) x2 (WU_router (xs (i + 1)) (xs (i + 2)) v hT)
theorem cwL_36 : jcV R_law 36 YX7_taken 2 := ⟨⟨(lw_ix 416 (by decide +kernel) (by decide +kernel)), (lw_ix 63 (by decide +kernel) (by decide +kernel)), by decide +kernel, by decide +kernel, by decide +kernel⟩, (lw_ix 413 (by decide +kernel) (by decide +kernel)), (lw_ix 414 (by decide +kernel) (by decide +kernel)), (lw_ix 415 (by decide +kernel) (by decide +kernel))⟩
theorem cwL_39 : jcV R_law 39 YX8_taken 2 := ⟨⟨(lw_ix 976 (by decide +kernel) (by decide +kernel)), (lw_ix 71 (by decide +kernel) (by decide +kernel)), by decide +kernel, by decide +kernel, by decide +kernel⟩, (lw_ix 973 (by decide +kernel) (by decide +kernel)), (lw_ix 974 (by decide +kernel) (by decide +kernel)), (lw_ix 975 (by decide +kernel) (by decide +kernel))⟩
theorem lc_5 {E : JE} {b L i T : Nat} {xs : Nat → Int32} {w : Wd} {u : JM} (hL : L ≤ 3072) (hi : i + 5 < L) (c : CW w u) (x : XW w u) (v : WV w T) (hT : T + 90 < 1000000000) (next : ∀ w' u', CW w' u' → XW w' u' → WV w' (T + 80) → LW E b L xs 1147 (lvI E b i) [] (NC, jRF, u')) : LW E b L xs 361 (lvI E b i) [] (NC, jRF, u) := by
  have h2 : w.1 21 0 + 90 < 1000000000 := by have := v.1.2.1; omega
  refine LW_aload (q := 2) dL_law_361 rfl rfl ?_
  refine LW_arg (i := i) (k := 1) dL_law_362 dL_law_363 dL_law_364 dL_law_365 dL_law_366 rfl rfl (by decide) (by omega) hL ?_
  refine LW_arg (i := i) (k := 2) dL_law_367 dL_law_368 dL_law_369 dL_law_370 dL_law_371 rfl rfl (by decide) (by omega) hL ?_
  refine LW_callV (st := []) (a := 0) (as := [.int (xs (i + 1)), .int (xs (i + 2))]) (ci := 7) (d' := 3) (n1 := NC) cwL_36 dL_law_372 rfl (Nat.le_of_ble_eq_true rfl) rfl rfl rfl (Nat.le_of_ble_eq_true rfl) (by decide) (Nat.le_refl _) (Nat.le_refl _) (U7_taken c v h2) ?_
  rintro _ _ ⟨_, u1, rfl, rfl, rfl, s1, c1⟩ _
  show LW E b L xs 375 (lvI E b i) [.int (anTaken w.1 (xs (i + 1)) (xs (i + 2)))] (NC, jRF, u1)
  refine LW_aload (q := 1) dL_law_375 rfl rfl ?_
  refine LW_arg (i := i) (k := 1) dL_law_376 dL_law_377 dL_law_378 dL_law_379 dL_law_380 rfl rfl (by decide) (by omega) hL ?_
  refine LW_arg (i := i) (k := 2) dL_law_381 dL_law_382 dL_law_383 dL_law_384 dL_law_385 rfl rfl (by decide) (by omega) hL ?_
  refine LW_callV (st := [.int (anTaken w.1 (xs (i + 1)) (xs (i + 2)))]) (a := 137) (as := [.int (xs (i + 1)), .int (xs (i + 2))]) (ci := 8) (d' := 4) (n1 := NC) cwL_39 dL_law_386 rfl (Nat.le_of_ble_eq_true rfl) rfl rfl rfl (Nat.le_of_ble_eq_true rfl) (by decide) (Nat.le_refl _) (Nat.le_refl _) (U8_taken (x.cls s1) v h2) ?_
  rintro _ _ ⟨_, u2, rfl, rfl, rfl, s2, x2⟩ _
  show LW E b L xs 389 (lvI E b i) [.int (anTaken w.1 (xs (i + 1)) (xs (i + 2))), .int (anTaken w.1 (xs (i + 1)) (xs (i + 2)))] (NC, jRF, u2)
  refine LW_eq dL_law_389 (tgt := 1147) (by decide) ?_
  exact next _ u2 (c1.up_ s2) x2 (WU_taken (xs (i + 1)) (xs (i + 2)) v hT)
theorem cwL_40 : jcV R_law 40 YX7_tick 0 := ⟨⟨(lw_ix 424 (by decide +kernel) (by decide +kernel)), (lw_ix 63 (by decide +kernel) (by decide +kernel)), by decide +kernel, by decide +kernel, by decide +kernel⟩, (lw_ix 421 (by decide +kernel) (by decide +kernel)), (lw_ix 422 (by decide +kernel) (by decide +kernel)), (lw_ix 423 (by decide +kernel) (by decide +kernel))⟩
theorem cwL_44 : jcV R_law 44 YX8_tick 0 := ⟨⟨(lw_ix 980 (by decide +kernel) (by decide +kernel)), (lw_ix 71 (by decide +kernel) (by decide +kernel)), by decide +kernel, by decide +kernel, by decide +kernel⟩, (lw_ix 977 (by decide +kernel) (by decide +kernel)), (lw_ix 978 (by decide +kernel) (by decide +kernel)), (lw_ix 979 (by decide +kernel) (by decide +kernel))⟩
theorem lc_6 {E : JE} {b L i T : Nat} {xs : Nat → Int32} {w : Wd} {u : JM} (hL : L ≤ 3072) (hi : i + 5 < L) (c : CW w u) (x : XW w u) (v : WV w T) (hT : T + 90 < 1000000000) (next : ∀ w' u', CW w' u' → XW w' u' → WV w' (T + 80) → LW E b L xs 1147 (lvI E b i) [] (NC, jRF, u')) : LW E b L xs 394 (lvI E b i) [] (NC, jRF, u) := by
  have h2 : w.1 21 0 + 90 < 1000000000 := by have := v.1.2.1; omega
  refine LW_aload (q := 2) dL_law_394 rfl rfl ?_
  refine LW_callV (st := []) (a := 0) (as := []) (ci := 7) (d' := 7) (n1 := NC) cwL_40 dL_law_395 rfl (Nat.le_of_ble_eq_true rfl) rfl rfl rfl (Nat.le_of_ble_eq_true rfl) (by decide) (Nat.le_refl _) (Nat.le_refl _) (U7_tick c v h2) ?_
  rintro _ _ ⟨_, u1, rfl, rfl, rfl, s1, c1⟩ _
  show LW E b L xs 398 (lvI E b i) [.int (anTicks w.1 1)] (NC, jRF, u1)
  refine LW_aload (q := 1) dL_law_398 rfl rfl ?_
  refine LW_callV (st := [.int (anTicks w.1 1)]) (a := 137) (as := []) (ci := 8) (d' := 9) (n1 := NC) cwL_44 dL_law_399 rfl (Nat.le_of_ble_eq_true rfl) rfl rfl rfl (Nat.le_of_ble_eq_true rfl) (by decide) (Nat.le_refl _) (Nat.le_refl _) (U8_tick (x.cls s1) v h2) ?_
  rintro _ _ ⟨_, u2, rfl, rfl, rfl, s2, x2⟩ _
  show LW E b L xs 402 (lvI E b i) [.int (anTicks w.1 1), .int (anTicks w.1 1)] (NC, jRF, u2)
  refine LW_eq dL_law_402 (tgt := 1147) (by decide) ?_
  exact next _ u2 (c1.up_ s2) x2 (WU_tick v hT)
theorem cwL_45 : jcV R_law 45 YX7_ticks 1 := ⟨⟨(lw_ix 524 (by decide +kernel) (by decide +kernel)), (lw_ix 63 (by decide +kernel) (by decide +kernel)), by decide +kernel, by decide +kernel, by decide +kernel⟩, (lw_ix 521 (by decide +kernel) (by decide +kernel)), (lw_ix 522 (by decide +kernel) (by decide +kernel)), (lw_ix 523 (by decide +kernel) (by decide +kernel))⟩
theorem cwL_49 : jcV R_law 49 YX8_ticks 1 := ⟨⟨(lw_ix 1042 (by decide +kernel) (by decide +kernel)), (lw_ix 71 (by decide +kernel) (by decide +kernel)), by decide +kernel, by decide +kernel, by decide +kernel⟩, (lw_ix 1039 (by decide +kernel) (by decide +kernel)), (lw_ix 1040 (by decide +kernel) (by decide +kernel)), (lw_ix 1041 (by decide +kernel) (by decide +kernel))⟩
theorem lc_7 {E : JE} {b L i T : Nat} {xs : Nat → Int32} {w : Wd} {u : JM} (hL : L ≤ 3072) (hi : i + 5 < L) (c : CW w u) (x : XW w u) (v : WV w T) (hT : T + 90 < 1000000000) (next : ∀ w' u', CW w' u' → XW w' u' → WV w' (T + 80) → LW E b L xs 1147 (lvI E b i) [] (NC, jRF, u')) : LW E b L xs 407 (lvI E b i) [] (NC, jRF, u) := by
  have h2 : w.1 21 0 + 90 < 1000000000 := by have := v.1.2.1; omega
  refine LW_aload (q := 2) dL_law_407 rfl rfl ?_
  refine LW_arg (i := i) (k := 1) dL_law_408 dL_law_409 dL_law_410 dL_law_411 dL_law_412 rfl rfl (by decide) (by omega) hL ?_
  refine LW_callV (st := []) (a := 0) (as := [.int (xs (i + 1))]) (ci := 7) (d' := 7) (n1 := NC) cwL_45 dL_law_413 rfl (Nat.le_of_ble_eq_true rfl) rfl rfl rfl (Nat.le_of_ble_eq_true rfl) (by decide) (Nat.le_refl _) (Nat.le_refl _) (U7_ticks c v h2) ?_
  rintro _ _ ⟨_, u1, rfl, rfl, rfl, s1, c1⟩ _
  show LW E b L xs 416 (lvI E b i) [.int (anTks w.1 (xs (i + 1)))] (NC, jRF, u1)
  refine LW_aload (q := 1) dL_law_416 rfl rfl ?_
  refine LW_arg (i := i) (k := 1) dL_law_417 dL_law_418 dL_law_419 dL_law_420 dL_law_421 rfl rfl (by decide) (by omega) hL ?_
  refine LW_callV (st := [.int (anTks w.1 (xs (i + 1)))]) (a := 137) (as := [.int (xs (i + 1))]) (ci := 8) (d' := 9) (n1 := NC) cwL_49 dL_law_422 rfl (Nat.le_of_ble_eq_true rfl) rfl rfl rfl (Nat.le_of_ble_eq_true rfl) (by decide) (Nat.le_refl _) (Nat.le_refl _) (U8_ticks (x.cls s1) v h2) ?_
  rintro _ _ ⟨_, u2, rfl, rfl, rfl, s2, x2⟩ _
  show LW E b L xs 425 (lvI E b i) [.int (anTks w.1 (xs (i + 1))), .int (anTks w.1 (xs (i + 1)))] (NC, jRF, u2)
  refine LW_eq dL_law_425 (tgt := 1147) (by decide) ?_
  exact next _ u2 (c1.up_ s2) x2 (WU_ticks (xs (i + 1)) v hT)
theorem cwL_50 : jcV R_law 50 YX7_advert 4 := ⟨⟨(lw_ix 528 (by decide +kernel) (by decide +kernel)), (lw_ix 63 (by decide +kernel) (by decide +kernel)), by decide +kernel, by decide +kernel, by decide +kernel⟩, (lw_ix 525 (by decide +kernel) (by decide +kernel)), (lw_ix 526 (by decide +kernel) (by decide +kernel)), (lw_ix 527 (by decide +kernel) (by decide +kernel))⟩
theorem cwL_54 : jcV R_law 54 YX8_advert 4 := ⟨⟨(lw_ix 1046 (by decide +kernel) (by decide +kernel)), (lw_ix 71 (by decide +kernel) (by decide +kernel)), by decide +kernel, by decide +kernel, by decide +kernel⟩, (lw_ix 1043 (by decide +kernel) (by decide +kernel)), (lw_ix 1044 (by decide +kernel) (by decide +kernel)), (lw_ix 1045 (by decide +kernel) (by decide +kernel))⟩
theorem lc_8 {E : JE} {b L i T : Nat} {xs : Nat → Int32} {w : Wd} {u : JM} (hL : L ≤ 3072) (hi : i + 5 < L) (c : CW w u) (x : XW w u) (v : WV w T) (hT : T + 90 < 1000000000) (next : ∀ w' u', CW w' u' → XW w' u' → WV w' (T + 80) → LW E b L xs 1147 (lvI E b i) [] (NC, jRF, u')) : LW E b L xs 430 (lvI E b i) [] (NC, jRF, u) := by
  have h2 : w.1 21 0 + 90 < 1000000000 := by have := v.1.2.1; omega
  refine LW_aload (q := 2) dL_law_430 rfl rfl ?_
  refine LW_arg (i := i) (k := 1) dL_law_431 dL_law_432 dL_law_433 dL_law_434 dL_law_435 rfl rfl (by decide) (by omega) hL ?_
  refine LW_arg (i := i) (k := 2) dL_law_436 dL_law_437 dL_law_438 dL_law_439 dL_law_440 rfl rfl (by decide) (by omega) hL ?_
  refine LW_arg (i := i) (k := 3) dL_law_441 dL_law_442 dL_law_443 dL_law_444 dL_law_445 rfl rfl (by decide) (by omega) hL ?_
  refine LW_arg (i := i) (k := 4) dL_law_446 dL_law_447 dL_law_448 dL_law_449 dL_law_450 rfl rfl (by decide) (by omega) hL ?_
  refine LW_callV (st := []) (a := 0) (as := [.int (xs (i + 1)), .int (xs (i + 2)), .int (xs (i + 3)), .int (xs (i + 4))]) (ci := 7) (d' := 2) (n1 := NC) cwL_50 dL_law_451 rfl (Nat.le_of_ble_eq_true rfl) rfl rfl rfl (Nat.le_of_ble_eq_true rfl) (by decide) (Nat.le_refl _) (Nat.le_refl _) (U7_advert c v h2) ?_
  rintro _ _ ⟨_, u1, rfl, rfl, rfl, s1, c1⟩ _
  show LW E b L xs 454 (lvI E b i) [.int (anAdvert w.1 (xs (i + 1)) (xs (i + 2)) (xs (i + 3)) (xs (i + 4)))] (NC, jRF, u1)
  refine LW_aload (q := 1) dL_law_454 rfl rfl ?_
  refine LW_arg (i := i) (k := 1) dL_law_455 dL_law_456 dL_law_457 dL_law_458 dL_law_459 rfl rfl (by decide) (by omega) hL ?_
  refine LW_arg (i := i) (k := 2) dL_law_460 dL_law_461 dL_law_462 dL_law_463 dL_law_464 rfl rfl (by decide) (by omega) hL ?_
  refine LW_arg (i := i) (k := 3) dL_law_465 dL_law_466 dL_law_467 dL_law_468 dL_law_469 rfl rfl (by decide) (by omega) hL ?_
  refine LW_arg (i := i) (k := 4) dL_law_470 dL_law_471 dL_law_472 dL_law_473 dL_law_474 rfl rfl (by decide) (by omega) hL ?_
  refine LW_callV (st := [.int (anAdvert w.1 (xs (i + 1)) (xs (i + 2)) (xs (i + 3)) (xs (i + 4)))]) (a := 137) (as := [.int (xs (i + 1)), .int (xs (i + 2)), .int (xs (i + 3)), .int (xs (i + 4))]) (ci := 8) (d' := 3) (n1 := NC) cwL_54 dL_law_475 rfl (Nat.le_of_ble_eq_true rfl) rfl rfl rfl (Nat.le_of_ble_eq_true rfl) (by decide) (Nat.le_refl _) (Nat.le_refl _) (U8_advert (x.cls s1) v h2) ?_
  rintro _ _ ⟨_, u2, rfl, rfl, rfl, s2, x2⟩ _
  show LW E b L xs 478 (lvI E b i) [.int (anAdvert w.1 (xs (i + 1)) (xs (i + 2)) (xs (i + 3)) (xs (i + 4))), .int (anAdvert w.1 (xs (i + 1)) (xs (i + 2)) (xs (i + 3)) (xs (i + 4)))] (NC, jRF, u2)
  refine LW_eq dL_law_478 (tgt := 1147) (by decide) ?_
  exact next _ u2 (c1.up_ s2) x2 (WU_advert (xs (i + 1)) (xs (i + 2)) (xs (i + 3)) (xs (i + 4)) v hT)
theorem cwL_55 : jcV R_law 55 YX7_message 2 := ⟨⟨(lw_ix 536 (by decide +kernel) (by decide +kernel)), (lw_ix 63 (by decide +kernel) (by decide +kernel)), by decide +kernel, by decide +kernel, by decide +kernel⟩, (lw_ix 533 (by decide +kernel) (by decide +kernel)), (lw_ix 534 (by decide +kernel) (by decide +kernel)), (lw_ix 535 (by decide +kernel) (by decide +kernel))⟩
theorem cwL_58 : jcV R_law 58 YX8_message 2 := ⟨⟨(lw_ix 1054 (by decide +kernel) (by decide +kernel)), (lw_ix 71 (by decide +kernel) (by decide +kernel)), by decide +kernel, by decide +kernel, by decide +kernel⟩, (lw_ix 1051 (by decide +kernel) (by decide +kernel)), (lw_ix 1052 (by decide +kernel) (by decide +kernel)), (lw_ix 1053 (by decide +kernel) (by decide +kernel))⟩
theorem lc_9 {E : JE} {b L i T : Nat} {xs : Nat → Int32} {w : Wd} {u : JM} (hL : L ≤ 3072) (hi : i + 5 < L) (c : CW w u) (x : XW w u) (v : WV w T) (hT : T + 90 < 1000000000) (next : ∀ w' u', CW w' u' → XW w' u' → WV w' (T + 80) → LW E b L xs 1147 (lvI E b i) [] (NC, jRF, u')) : LW E b L xs 483 (lvI E b i) [] (NC, jRF, u) := by
  have h2 : w.1 21 0 + 90 < 1000000000 := by have := v.1.2.1; omega
  refine LW_aload (q := 2) dL_law_483 rfl rfl ?_
  refine LW_arg (i := i) (k := 1) dL_law_484 dL_law_485 dL_law_486 dL_law_487 dL_law_488 rfl rfl (by decide) (by omega) hL ?_
  refine LW_arg (i := i) (k := 2) dL_law_489 dL_law_490 dL_law_491 dL_law_492 dL_law_493 rfl rfl (by decide) (by omega) hL ?_
  refine LW_callV (st := []) (a := 0) (as := [.int (xs (i + 1)), .int (xs (i + 2))]) (ci := 7) (d' := 1) (n1 := NC) cwL_55 dL_law_494 rfl (Nat.le_of_ble_eq_true rfl) rfl rfl rfl (Nat.le_of_ble_eq_true rfl) (by decide) (Nat.le_refl _) (Nat.le_refl _) (U7_message c v h2) ?_
  rintro _ _ ⟨_, u1, rfl, rfl, rfl, s1, c1⟩ _
  show LW E b L xs 497 (lvI E b i) [.int (anMessage w.1 (xs (i + 1)) (xs (i + 2)))] (NC, jRF, u1)
  refine LW_aload (q := 1) dL_law_497 rfl rfl ?_
  refine LW_arg (i := i) (k := 1) dL_law_498 dL_law_499 dL_law_500 dL_law_501 dL_law_502 rfl rfl (by decide) (by omega) hL ?_
  refine LW_arg (i := i) (k := 2) dL_law_503 dL_law_504 dL_law_505 dL_law_506 dL_law_507 rfl rfl (by decide) (by omega) hL ?_
  refine LW_callV (st := [.int (anMessage w.1 (xs (i + 1)) (xs (i + 2)))]) (a := 137) (as := [.int (xs (i + 1)), .int (xs (i + 2))]) (ci := 8) (d' := 2) (n1 := NC) cwL_58 dL_law_508 rfl (Nat.le_of_ble_eq_true rfl) rfl rfl rfl (Nat.le_of_ble_eq_true rfl) (by decide) (Nat.le_refl _) (Nat.le_refl _) (U8_message (x.cls s1) v h2) ?_
  rintro _ _ ⟨_, u2, rfl, rfl, rfl, s2, x2⟩ _
  show LW E b L xs 511 (lvI E b i) [.int (anMessage w.1 (xs (i + 1)) (xs (i + 2))), .int (anMessage w.1 (xs (i + 1)) (xs (i + 2)))] (NC, jRF, u2)
  refine LW_eq dL_law_511 (tgt := 1147) (by decide) ?_
  exact next _ u2 (c1.up_ s2) x2 (WU_message (xs (i + 1)) (xs (i + 2)) v hT)
theorem cwL_59 : jcV R_law 59 YX7_within 4 := ⟨⟨(lw_ix 540 (by decide +kernel) (by decide +kernel)), (lw_ix 63 (by decide +kernel) (by decide +kernel)), by decide +kernel, by decide +kernel, by decide +kernel⟩, (lw_ix 537 (by decide +kernel) (by decide +kernel)), (lw_ix 538 (by decide +kernel) (by decide +kernel)), (lw_ix 539 (by decide +kernel) (by decide +kernel))⟩
theorem cwL_62 : jcV R_law 62 YX8_within 4 := ⟨⟨(lw_ix 1058 (by decide +kernel) (by decide +kernel)), (lw_ix 71 (by decide +kernel) (by decide +kernel)), by decide +kernel, by decide +kernel, by decide +kernel⟩, (lw_ix 1055 (by decide +kernel) (by decide +kernel)), (lw_ix 1056 (by decide +kernel) (by decide +kernel)), (lw_ix 1057 (by decide +kernel) (by decide +kernel))⟩
theorem lc_10 {E : JE} {b L i T : Nat} {xs : Nat → Int32} {w : Wd} {u : JM} (hL : L ≤ 3072) (hi : i + 5 < L) (c : CW w u) (x : XW w u) (v : WV w T) (hT : T + 90 < 1000000000) (next : ∀ w' u', CW w' u' → XW w' u' → WV w' (T + 80) → LW E b L xs 1147 (lvI E b i) [] (NC, jRF, u')) : LW E b L xs 516 (lvI E b i) [] (NC, jRF, u) := by
  have h2 : w.1 21 0 + 90 < 1000000000 := by have := v.1.2.1; omega
  refine LW_aload (q := 2) dL_law_516 rfl rfl ?_
  refine LW_arg (i := i) (k := 1) dL_law_517 dL_law_518 dL_law_519 dL_law_520 dL_law_521 rfl rfl (by decide) (by omega) hL ?_
  refine LW_arg (i := i) (k := 2) dL_law_522 dL_law_523 dL_law_524 dL_law_525 dL_law_526 rfl rfl (by decide) (by omega) hL ?_
  refine LW_arg (i := i) (k := 3) dL_law_527 dL_law_528 dL_law_529 dL_law_530 dL_law_531 rfl rfl (by decide) (by omega) hL ?_
  refine LW_arg (i := i) (k := 4) dL_law_532 dL_law_533 dL_law_534 dL_law_535 dL_law_536 rfl rfl (by decide) (by omega) hL ?_
  refine LW_callV (st := []) (a := 0) (as := [.int (xs (i + 1)), .int (xs (i + 2)), .int (xs (i + 3)), .int (xs (i + 4))]) (ci := 7) (d' := 3) (n1 := NC) cwL_59 dL_law_537 rfl (Nat.le_of_ble_eq_true rfl) rfl rfl rfl (Nat.le_of_ble_eq_true rfl) (by decide) (Nat.le_refl _) (Nat.le_refl _) (U7_within c v h2) ?_
  rintro _ _ ⟨_, u1, rfl, rfl, rfl, s1, c1⟩ _
  show LW E b L xs 540 (lvI E b i) [.int (anWithin w.1 (xs (i + 1)) (xs (i + 2)) (xs (i + 3)) (xs (i + 4)))] (NC, jRF, u1)
  refine LW_aload (q := 1) dL_law_540 rfl rfl ?_
  refine LW_arg (i := i) (k := 1) dL_law_541 dL_law_542 dL_law_543 dL_law_544 dL_law_545 rfl rfl (by decide) (by omega) hL ?_
  refine LW_arg (i := i) (k := 2) dL_law_546 dL_law_547 dL_law_548 dL_law_549 dL_law_550 rfl rfl (by decide) (by omega) hL ?_
  refine LW_arg (i := i) (k := 3) dL_law_551 dL_law_552 dL_law_553 dL_law_554 dL_law_555 rfl rfl (by decide) (by omega) hL ?_
  refine LW_arg (i := i) (k := 4) dL_law_556 dL_law_557 dL_law_558 dL_law_559 dL_law_560 rfl rfl (by decide) (by omega) hL ?_
  refine LW_callV (st := [.int (anWithin w.1 (xs (i + 1)) (xs (i + 2)) (xs (i + 3)) (xs (i + 4)))]) (a := 137) (as := [.int (xs (i + 1)), .int (xs (i + 2)), .int (xs (i + 3)), .int (xs (i + 4))]) (ci := 8) (d' := 5) (n1 := NC) cwL_62 dL_law_561 rfl (Nat.le_of_ble_eq_true rfl) rfl rfl rfl (Nat.le_of_ble_eq_true rfl) (by decide) (Nat.le_refl _) (Nat.le_refl _) (U8_within (x.cls s1) v h2) ?_
  rintro _ _ ⟨_, u2, rfl, rfl, rfl, s2, x2⟩ _
  show LW E b L xs 564 (lvI E b i) [.int (anWithin w.1 (xs (i + 1)) (xs (i + 2)) (xs (i + 3)) (xs (i + 4))), .int (anWithin w.1 (xs (i + 1)) (xs (i + 2)) (xs (i + 3)) (xs (i + 4)))] (NC, jRF, u2)
  refine LW_eq dL_law_564 (tgt := 1147) (by decide) ?_
  exact next _ u2 (c1.up_ s2) x2 (WU_within (xs (i + 1)) (xs (i + 2)) (xs (i + 3)) (xs (i + 4)) v hT)
theorem cwL_63 : jcV R_law 63 YX7_route 3 := ⟨⟨(lw_ix 545 (by decide +kernel) (by decide +kernel)), (lw_ix 63 (by decide +kernel) (by decide +kernel)), by decide +kernel, by decide +kernel, by decide +kernel⟩, (lw_ix 542 (by decide +kernel) (by decide +kernel)), (lw_ix 543 (by decide +kernel) (by decide +kernel)), (lw_ix 544 (by decide +kernel) (by decide +kernel))⟩
theorem cwL_66 : jcV R_law 66 YX8_route 3 := ⟨⟨(lw_ix 1062 (by decide +kernel) (by decide +kernel)), (lw_ix 71 (by decide +kernel) (by decide +kernel)), by decide +kernel, by decide +kernel, by decide +kernel⟩, (lw_ix 1059 (by decide +kernel) (by decide +kernel)), (lw_ix 1060 (by decide +kernel) (by decide +kernel)), (lw_ix 1061 (by decide +kernel) (by decide +kernel))⟩
theorem lc_11 {E : JE} {b L i T : Nat} {xs : Nat → Int32} {w : Wd} {u : JM} (hL : L ≤ 3072) (hi : i + 5 < L) (c : CW w u) (x : XW w u) (v : WV w T) (hT : T + 90 < 1000000000) (next : ∀ w' u', CW w' u' → XW w' u' → WV w' (T + 80) → LW E b L xs 1147 (lvI E b i) [] (NC, jRF, u')) : LW E b L xs 569 (lvI E b i) [] (NC, jRF, u) := by
  have h2 : w.1 21 0 + 90 < 1000000000 := by have := v.1.2.1; omega
  refine LW_aload (q := 2) dL_law_569 rfl rfl ?_
  refine LW_arg (i := i) (k := 1) dL_law_570 dL_law_571 dL_law_572 dL_law_573 dL_law_574 rfl rfl (by decide) (by omega) hL ?_
  refine LW_arg (i := i) (k := 2) dL_law_575 dL_law_576 dL_law_577 dL_law_578 dL_law_579 rfl rfl (by decide) (by omega) hL ?_
  refine LW_arg (i := i) (k := 3) dL_law_580 dL_law_581 dL_law_582 dL_law_583 dL_law_584 rfl rfl (by decide) (by omega) hL ?_
  refine LW_callV (st := []) (a := 0) (as := [.int (xs (i + 1)), .int (xs (i + 2)), .int (xs (i + 3))]) (ci := 7) (d' := 5) (n1 := NC) cwL_63 dL_law_585 rfl (Nat.le_of_ble_eq_true rfl) rfl rfl rfl (Nat.le_of_ble_eq_true rfl) (by decide) (Nat.le_refl _) (Nat.le_refl _) (U7_route c v h2) ?_
  rintro _ _ ⟨_, u1, rfl, rfl, rfl, s1, c1⟩ _
  show LW E b L xs 588 (lvI E b i) [.int (anRoute w.1 (xs (i + 1)) (xs (i + 2)) (xs (i + 3)))] (NC, jRF, u1)
  refine LW_aload (q := 1) dL_law_588 rfl rfl ?_
  refine LW_arg (i := i) (k := 1) dL_law_589 dL_law_590 dL_law_591 dL_law_592 dL_law_593 rfl rfl (by decide) (by omega) hL ?_
  refine LW_arg (i := i) (k := 2) dL_law_594 dL_law_595 dL_law_596 dL_law_597 dL_law_598 rfl rfl (by decide) (by omega) hL ?_
  refine LW_arg (i := i) (k := 3) dL_law_599 dL_law_600 dL_law_601 dL_law_602 dL_law_603 rfl rfl (by decide) (by omega) hL ?_
  refine LW_callV (st := [.int (anRoute w.1 (xs (i + 1)) (xs (i + 2)) (xs (i + 3)))]) (a := 137) (as := [.int (xs (i + 1)), .int (xs (i + 2)), .int (xs (i + 3))]) (ci := 8) (d' := 7) (n1 := NC) cwL_66 dL_law_604 rfl (Nat.le_of_ble_eq_true rfl) rfl rfl rfl (Nat.le_of_ble_eq_true rfl) (by decide) (Nat.le_refl _) (Nat.le_refl _) (U8_route (x.cls s1) v h2) ?_
  rintro _ _ ⟨_, u2, rfl, rfl, rfl, s2, x2⟩ _
  show LW E b L xs 607 (lvI E b i) [.int (anRoute w.1 (xs (i + 1)) (xs (i + 2)) (xs (i + 3))), .int (anRoute w.1 (xs (i + 1)) (xs (i + 2)) (xs (i + 3)))] (NC, jRF, u2)
  refine LW_eq dL_law_607 (tgt := 1147) (by decide) ?_
  exact next _ u2 (c1.up_ s2) x2 (WU_route (xs (i + 1)) (xs (i + 2)) (xs (i + 3)) v hT)
theorem cwL_67 : jcV R_law 67 YX7_packet 3 := ⟨⟨(lw_ix 571 (by decide +kernel) (by decide +kernel)), (lw_ix 63 (by decide +kernel) (by decide +kernel)), by decide +kernel, by decide +kernel, by decide +kernel⟩, (lw_ix 568 (by decide +kernel) (by decide +kernel)), (lw_ix 569 (by decide +kernel) (by decide +kernel)), (lw_ix 570 (by decide +kernel) (by decide +kernel))⟩
theorem cwL_70 : jcV R_law 70 YX8_packet 3 := ⟨⟨(lw_ix 1074 (by decide +kernel) (by decide +kernel)), (lw_ix 71 (by decide +kernel) (by decide +kernel)), by decide +kernel, by decide +kernel, by decide +kernel⟩, (lw_ix 1071 (by decide +kernel) (by decide +kernel)), (lw_ix 1072 (by decide +kernel) (by decide +kernel)), (lw_ix 1073 (by decide +kernel) (by decide +kernel))⟩
theorem lc_12 {E : JE} {b L i T : Nat} {xs : Nat → Int32} {w : Wd} {u : JM} (hL : L ≤ 3072) (hi : i + 5 < L) (c : CW w u) (x : XW w u) (v : WV w T) (hT : T + 90 < 1000000000) (next : ∀ w' u', CW w' u' → XW w' u' → WV w' (T + 80) → LW E b L xs 1147 (lvI E b i) [] (NC, jRF, u')) : LW E b L xs 612 (lvI E b i) [] (NC, jRF, u) := by
  have h2 : w.1 21 0 + 90 < 1000000000 := by have := v.1.2.1; omega
  refine LW_aload (q := 2) dL_law_612 rfl rfl ?_
  refine LW_arg (i := i) (k := 1) dL_law_613 dL_law_614 dL_law_615 dL_law_616 dL_law_617 rfl rfl (by decide) (by omega) hL ?_
  refine LW_arg (i := i) (k := 2) dL_law_618 dL_law_619 dL_law_620 dL_law_621 dL_law_622 rfl rfl (by decide) (by omega) hL ?_
  refine LW_arg (i := i) (k := 3) dL_law_623 dL_law_624 dL_law_625 dL_law_626 dL_law_627 rfl rfl (by decide) (by omega) hL ?_
  refine LW_callV (st := []) (a := 0) (as := [.int (xs (i + 1)), .int (xs (i + 2)), .int (xs (i + 3))]) (ci := 7) (d' := 6) (n1 := NC) cwL_67 dL_law_628 rfl (Nat.le_of_ble_eq_true rfl) rfl rfl rfl (Nat.le_of_ble_eq_true rfl) (by decide) (Nat.le_refl _) (Nat.le_refl _) (U7_packet c v h2) ?_
  rintro _ _ ⟨_, u1, rfl, rfl, rfl, s1, c1⟩ _
  show LW E b L xs 631 (lvI E b i) [.int (anPacket w.1 (xs (i + 1)) (xs (i + 2)) (xs (i + 3)))] (NC, jRF, u1)
  refine LW_aload (q := 1) dL_law_631 rfl rfl ?_
  refine LW_arg (i := i) (k := 1) dL_law_632 dL_law_633 dL_law_634 dL_law_635 dL_law_636 rfl rfl (by decide) (by omega) hL ?_
  refine LW_arg (i := i) (k := 2) dL_law_637 dL_law_638 dL_law_639 dL_law_640 dL_law_641 rfl rfl (by decide) (by omega) hL ?_
  refine LW_arg (i := i) (k := 3) dL_law_642 dL_law_643 dL_law_644 dL_law_645 dL_law_646 rfl rfl (by decide) (by omega) hL ?_
  refine LW_callV (st := [.int (anPacket w.1 (xs (i + 1)) (xs (i + 2)) (xs (i + 3)))]) (a := 137) (as := [.int (xs (i + 1)), .int (xs (i + 2)), .int (xs (i + 3))]) (ci := 8) (d' := 7) (n1 := NC) cwL_70 dL_law_647 rfl (Nat.le_of_ble_eq_true rfl) rfl rfl rfl (Nat.le_of_ble_eq_true rfl) (by decide) (Nat.le_refl _) (Nat.le_refl _) (U8_packet (x.cls s1) v h2) ?_
  rintro _ _ ⟨_, u2, rfl, rfl, rfl, s2, x2⟩ _
  show LW E b L xs 650 (lvI E b i) [.int (anPacket w.1 (xs (i + 1)) (xs (i + 2)) (xs (i + 3))), .int (anPacket w.1 (xs (i + 1)) (xs (i + 2)) (xs (i + 3)))] (NC, jRF, u2)
  refine LW_eq dL_law_650 (tgt := 1147) (by decide) ?_
  exact next _ u2 (c1.up_ s2) x2 (WU_packet (xs (i + 1)) (xs (i + 2)) (xs (i + 3)) v hT)
theorem cwL_71 : jcV R_law 71 YX7_truly 2 := ⟨⟨(lw_ix 588 (by decide +kernel) (by decide +kernel)), (lw_ix 63 (by decide +kernel) (by decide +kernel)), by decide +kernel, by decide +kernel, by decide +kernel⟩, (lw_ix 585 (by decide +kernel) (by decide +kernel)), (lw_ix 586 (by decide +kernel) (by decide +kernel)), (lw_ix 587 (by decide +kernel) (by decide +kernel))⟩
theorem cwL_74 : jcV R_law 74 YX8_truly 2 := ⟨⟨(lw_ix 1082 (by decide +kernel) (by decide +kernel)), (lw_ix 71 (by decide +kernel) (by decide +kernel)), by decide +kernel, by decide +kernel, by decide +kernel⟩, (lw_ix 1079 (by decide +kernel) (by decide +kernel)), (lw_ix 1080 (by decide +kernel) (by decide +kernel)), (lw_ix 1081 (by decide +kernel) (by decide +kernel))⟩
theorem lc_13 {E : JE} {b L i T : Nat} {xs : Nat → Int32} {w : Wd} {u : JM} (hL : L ≤ 3072) (hi : i + 5 < L) (c : CW w u) (x : XW w u) (v : WV w T) (hT : T + 90 < 1000000000) (next : ∀ w' u', CW w' u' → XW w' u' → WV w' (T + 80) → LW E b L xs 1147 (lvI E b i) [] (NC, jRF, u')) : LW E b L xs 655 (lvI E b i) [] (NC, jRF, u) := by
  have h2 : w.1 21 0 + 90 < 1000000000 := by have := v.1.2.1; omega
  refine LW_aload (q := 2) dL_law_655 rfl rfl ?_
  refine LW_arg (i := i) (k := 1) dL_law_656 dL_law_657 dL_law_658 dL_law_659 dL_law_660 rfl rfl (by decide) (by omega) hL ?_
  refine LW_arg (i := i) (k := 2) dL_law_661 dL_law_662 dL_law_663 dL_law_664 dL_law_665 rfl rfl (by decide) (by omega) hL ?_
  refine LW_callV (st := []) (a := 0) (as := [.int (xs (i + 1)), .int (xs (i + 2))]) (ci := 7) (d' := 4) (n1 := NC) cwL_71 dL_law_666 rfl (Nat.le_of_ble_eq_true rfl) rfl rfl rfl (Nat.le_of_ble_eq_true rfl) (by decide) (Nat.le_refl _) (Nat.le_refl _) (U7_truly c v h2) ?_
  rintro _ _ ⟨_, u1, rfl, rfl, rfl, s1, c1⟩ _
  show LW E b L xs 669 (lvI E b i) [.int (anTruly w.1 (xs (i + 1)) (xs (i + 2)))] (NC, jRF, u1)
  refine LW_aload (q := 1) dL_law_669 rfl rfl ?_
  refine LW_arg (i := i) (k := 1) dL_law_670 dL_law_671 dL_law_672 dL_law_673 dL_law_674 rfl rfl (by decide) (by omega) hL ?_
  refine LW_arg (i := i) (k := 2) dL_law_675 dL_law_676 dL_law_677 dL_law_678 dL_law_679 rfl rfl (by decide) (by omega) hL ?_
  refine LW_callV (st := [.int (anTruly w.1 (xs (i + 1)) (xs (i + 2)))]) (a := 137) (as := [.int (xs (i + 1)), .int (xs (i + 2))]) (ci := 8) (d' := 3) (n1 := NC) cwL_74 dL_law_680 rfl (Nat.le_of_ble_eq_true rfl) rfl rfl rfl (Nat.le_of_ble_eq_true rfl) (by decide) (Nat.le_refl _) (Nat.le_refl _) (U8_truly (x.cls s1) v h2) ?_
  rintro _ _ ⟨_, u2, rfl, rfl, rfl, s2, x2⟩ _
  show LW E b L xs 683 (lvI E b i) [.int (anTruly w.1 (xs (i + 1)) (xs (i + 2))), .int (anTruly w.1 (xs (i + 1)) (xs (i + 2)))] (NC, jRF, u2)
  refine LW_eq dL_law_683 (tgt := 1147) (by decide) ?_
  exact next _ u2 (c1.up_ s2) x2 (WU_truly (xs (i + 1)) (xs (i + 2)) v hT)
theorem cwL_75 : jcV R_law 75 YX7_cuts 2 := ⟨⟨(lw_ix 602 (by decide +kernel) (by decide +kernel)), (lw_ix 63 (by decide +kernel) (by decide +kernel)), by decide +kernel, by decide +kernel, by decide +kernel⟩, (lw_ix 599 (by decide +kernel) (by decide +kernel)), (lw_ix 600 (by decide +kernel) (by decide +kernel)), (lw_ix 601 (by decide +kernel) (by decide +kernel))⟩
theorem cwL_78 : jcV R_law 78 YX8_cuts 2 := ⟨⟨(lw_ix 1090 (by decide +kernel) (by decide +kernel)), (lw_ix 71 (by decide +kernel) (by decide +kernel)), by decide +kernel, by decide +kernel, by decide +kernel⟩, (lw_ix 1087 (by decide +kernel) (by decide +kernel)), (lw_ix 1088 (by decide +kernel) (by decide +kernel)), (lw_ix 1089 (by decide +kernel) (by decide +kernel))⟩
theorem lc_14 {E : JE} {b L i T : Nat} {xs : Nat → Int32} {w : Wd} {u : JM} (hL : L ≤ 3072) (hi : i + 5 < L) (c : CW w u) (x : XW w u) (v : WV w T) (hT : T + 90 < 1000000000) (next : ∀ w' u', CW w' u' → XW w' u' → WV w' (T + 80) → LW E b L xs 1147 (lvI E b i) [] (NC, jRF, u')) : LW E b L xs 688 (lvI E b i) [] (NC, jRF, u) := by
  have h2 : w.1 21 0 + 90 < 1000000000 := by have := v.1.2.1; omega
  refine LW_aload (q := 2) dL_law_688 rfl rfl ?_
  refine LW_arg (i := i) (k := 1) dL_law_689 dL_law_690 dL_law_691 dL_law_692 dL_law_693 rfl rfl (by decide) (by omega) hL ?_
  refine LW_arg (i := i) (k := 2) dL_law_694 dL_law_695 dL_law_696 dL_law_697 dL_law_698 rfl rfl (by decide) (by omega) hL ?_
  refine LW_callV (st := []) (a := 0) (as := [.int (xs (i + 1)), .int (xs (i + 2))]) (ci := 7) (d' := 4) (n1 := NC) cwL_75 dL_law_699 rfl (Nat.le_of_ble_eq_true rfl) rfl rfl rfl (Nat.le_of_ble_eq_true rfl) (by decide) (Nat.le_refl _) (Nat.le_refl _) (U7_cuts c v h2) ?_
  rintro _ _ ⟨_, u1, rfl, rfl, rfl, s1, c1⟩ _
  show LW E b L xs 702 (lvI E b i) [.int (anCuts w.1 (xs (i + 1)) (xs (i + 2)))] (NC, jRF, u1)
  refine LW_aload (q := 1) dL_law_702 rfl rfl ?_
  refine LW_arg (i := i) (k := 1) dL_law_703 dL_law_704 dL_law_705 dL_law_706 dL_law_707 rfl rfl (by decide) (by omega) hL ?_
  refine LW_arg (i := i) (k := 2) dL_law_708 dL_law_709 dL_law_710 dL_law_711 dL_law_712 rfl rfl (by decide) (by omega) hL ?_
  refine LW_callV (st := [.int (anCuts w.1 (xs (i + 1)) (xs (i + 2)))]) (a := 137) (as := [.int (xs (i + 1)), .int (xs (i + 2))]) (ci := 8) (d' := 3) (n1 := NC) cwL_78 dL_law_713 rfl (Nat.le_of_ble_eq_true rfl) rfl rfl rfl (Nat.le_of_ble_eq_true rfl) (by decide) (Nat.le_refl _) (Nat.le_refl _) (U8_cuts (x.cls s1) v h2) ?_
  rintro _ _ ⟨_, u2, rfl, rfl, rfl, s2, x2⟩ _
  show LW E b L xs 716 (lvI E b i) [.int (anCuts w.1 (xs (i + 1)) (xs (i + 2))), .int (anCuts w.1 (xs (i + 1)) (xs (i + 2)))] (NC, jRF, u2)
  refine LW_eq dL_law_716 (tgt := 1147) (by decide) ?_
  exact next _ u2 (c1.up_ s2) x2 (WU_cuts (xs (i + 1)) (xs (i + 2)) v hT)
theorem cwL_79 : jcV R_law 79 YX7_settled 1 := ⟨⟨(lw_ix 606 (by decide +kernel) (by decide +kernel)), (lw_ix 63 (by decide +kernel) (by decide +kernel)), by decide +kernel, by decide +kernel, by decide +kernel⟩, (lw_ix 603 (by decide +kernel) (by decide +kernel)), (lw_ix 604 (by decide +kernel) (by decide +kernel)), (lw_ix 605 (by decide +kernel) (by decide +kernel))⟩
theorem cwL_82 : jcV R_law 82 YX8_settled 1 := ⟨⟨(lw_ix 1094 (by decide +kernel) (by decide +kernel)), (lw_ix 71 (by decide +kernel) (by decide +kernel)), by decide +kernel, by decide +kernel, by decide +kernel⟩, (lw_ix 1091 (by decide +kernel) (by decide +kernel)), (lw_ix 1092 (by decide +kernel) (by decide +kernel)), (lw_ix 1093 (by decide +kernel) (by decide +kernel))⟩
theorem lc_15 {E : JE} {b L i T : Nat} {xs : Nat → Int32} {w : Wd} {u : JM} (hL : L ≤ 3072) (hi : i + 5 < L) (c : CW w u) (x : XW w u) (v : WV w T) (hT : T + 90 < 1000000000) (next : ∀ w' u', CW w' u' → XW w' u' → WV w' (T + 80) → LW E b L xs 1147 (lvI E b i) [] (NC, jRF, u')) : LW E b L xs 721 (lvI E b i) [] (NC, jRF, u) := by
  have h2 : w.1 21 0 + 90 < 1000000000 := by have := v.1.2.1; omega
  refine LW_aload (q := 2) dL_law_721 rfl rfl ?_
  refine LW_arg (i := i) (k := 1) dL_law_722 dL_law_723 dL_law_724 dL_law_725 dL_law_726 rfl rfl (by decide) (by omega) hL ?_
  refine LW_callV (st := []) (a := 0) (as := [.int (xs (i + 1))]) (ci := 7) (d' := 8) (n1 := NC) cwL_79 dL_law_727 rfl (Nat.le_of_ble_eq_true rfl) rfl rfl rfl (Nat.le_of_ble_eq_true rfl) (by decide) (Nat.le_refl _) (Nat.le_refl _) (U7_settled c v h2) ?_
  rintro _ _ ⟨_, u1, rfl, rfl, rfl, s1, c1⟩ _
  show LW E b L xs 730 (lvI E b i) [.int (anSettled w.1 (xs (i + 1)))] (NC, jRF, u1)
  refine LW_aload (q := 1) dL_law_730 rfl rfl ?_
  refine LW_arg (i := i) (k := 1) dL_law_731 dL_law_732 dL_law_733 dL_law_734 dL_law_735 rfl rfl (by decide) (by omega) hL ?_
  refine LW_callV (st := [.int (anSettled w.1 (xs (i + 1)))]) (a := 137) (as := [.int (xs (i + 1))]) (ci := 8) (d' := 9) (n1 := NC) cwL_82 dL_law_736 rfl (Nat.le_of_ble_eq_true rfl) rfl rfl rfl (Nat.le_of_ble_eq_true rfl) (by decide) (Nat.le_refl _) (Nat.le_refl _) (U8_settled (x.cls s1) v h2) ?_
  rintro _ _ ⟨_, u2, rfl, rfl, rfl, s2, x2⟩ _
  show LW E b L xs 739 (lvI E b i) [.int (anSettled w.1 (xs (i + 1))), .int (anSettled w.1 (xs (i + 1)))] (NC, jRF, u2)
  refine LW_eq dL_law_739 (tgt := 1147) (by decide) ?_
  exact next _ u2 (c1.up_ s2) x2 (WU_settled (xs (i + 1)) v hT)
theorem cwL_83 : jcV R_law 83 YX7_broken 3 := ⟨⟨(lw_ix 634 (by decide +kernel) (by decide +kernel)), (lw_ix 63 (by decide +kernel) (by decide +kernel)), by decide +kernel, by decide +kernel, by decide +kernel⟩, (lw_ix 631 (by decide +kernel) (by decide +kernel)), (lw_ix 632 (by decide +kernel) (by decide +kernel)), (lw_ix 633 (by decide +kernel) (by decide +kernel))⟩
theorem cwL_86 : jcV R_law 86 YX8_broken 3 := ⟨⟨(lw_ix 1118 (by decide +kernel) (by decide +kernel)), (lw_ix 71 (by decide +kernel) (by decide +kernel)), by decide +kernel, by decide +kernel, by decide +kernel⟩, (lw_ix 1115 (by decide +kernel) (by decide +kernel)), (lw_ix 1116 (by decide +kernel) (by decide +kernel)), (lw_ix 1117 (by decide +kernel) (by decide +kernel))⟩
theorem lc_16 {E : JE} {b L i T : Nat} {xs : Nat → Int32} {w : Wd} {u : JM} (hL : L ≤ 3072) (hi : i + 5 < L) (c : CW w u) (x : XW w u) (v : WV w T) (hT : T + 90 < 1000000000) (next : ∀ w' u', CW w' u' → XW w' u' → WV w' (T + 80) → LW E b L xs 1147 (lvI E b i) [] (NC, jRF, u')) : LW E b L xs 744 (lvI E b i) [] (NC, jRF, u) := by
  have h2 : w.1 21 0 + 90 < 1000000000 := by have := v.1.2.1; omega
  refine LW_aload (q := 2) dL_law_744 rfl rfl ?_
  refine LW_arg (i := i) (k := 1) dL_law_745 dL_law_746 dL_law_747 dL_law_748 dL_law_749 rfl rfl (by decide) (by omega) hL ?_
  refine LW_arg (i := i) (k := 2) dL_law_750 dL_law_751 dL_law_752 dL_law_753 dL_law_754 rfl rfl (by decide) (by omega) hL ?_
  refine LW_arg (i := i) (k := 3) dL_law_755 dL_law_756 dL_law_757 dL_law_758 dL_law_759 rfl rfl (by decide) (by omega) hL ?_
  refine LW_callV (st := []) (a := 0) (as := [.int (xs (i + 1)), .int (xs (i + 2)), .int (xs (i + 3))]) (ci := 7) (d' := 7) (n1 := NC) cwL_83 dL_law_760 rfl (Nat.le_of_ble_eq_true rfl) rfl rfl rfl (Nat.le_of_ble_eq_true rfl) (by decide) (Nat.le_refl _) (Nat.le_refl _) (U7_broken c v h2) ?_
  rintro _ _ ⟨_, u1, rfl, rfl, rfl, s1, c1⟩ _
  show LW E b L xs 763 (lvI E b i) [.int (anBroken w.1 (xs (i + 1)) (xs (i + 2)) (xs (i + 3)))] (NC, jRF, u1)
  refine LW_aload (q := 1) dL_law_763 rfl rfl ?_
  refine LW_arg (i := i) (k := 1) dL_law_764 dL_law_765 dL_law_766 dL_law_767 dL_law_768 rfl rfl (by decide) (by omega) hL ?_
  refine LW_arg (i := i) (k := 2) dL_law_769 dL_law_770 dL_law_771 dL_law_772 dL_law_773 rfl rfl (by decide) (by omega) hL ?_
  refine LW_arg (i := i) (k := 3) dL_law_774 dL_law_775 dL_law_776 dL_law_777 dL_law_778 rfl rfl (by decide) (by omega) hL ?_
  refine LW_callV (st := [.int (anBroken w.1 (xs (i + 1)) (xs (i + 2)) (xs (i + 3)))]) (a := 137) (as := [.int (xs (i + 1)), .int (xs (i + 2)), .int (xs (i + 3))]) (ci := 8) (d' := 10) (n1 := NC) cwL_86 dL_law_779 rfl (Nat.le_of_ble_eq_true rfl) rfl rfl rfl (Nat.le_of_ble_eq_true rfl) (by decide) (Nat.le_refl _) (Nat.le_refl _) (U8_broken (x.cls s1) v h2) ?_
  rintro _ _ ⟨_, u2, rfl, rfl, rfl, s2, x2⟩ _
  show LW E b L xs 782 (lvI E b i) [.int (anBroken w.1 (xs (i + 1)) (xs (i + 2)) (xs (i + 3))), .int (anBroken w.1 (xs (i + 1)) (xs (i + 2)) (xs (i + 3)))] (NC, jRF, u2)
  refine LW_eq dL_law_782 (tgt := 1147) (by decide) ?_
  exact next _ u2 (c1.up_ s2) x2 (WU_broken (xs (i + 1)) (xs (i + 2)) (xs (i + 3)) v hT)
theorem cwL_87 : jcV R_law 87 YX7_drawn 2 := ⟨⟨(lw_ix 642 (by decide +kernel) (by decide +kernel)), (lw_ix 63 (by decide +kernel) (by decide +kernel)), by decide +kernel, by decide +kernel, by decide +kernel⟩, (lw_ix 639 (by decide +kernel) (by decide +kernel)), (lw_ix 640 (by decide +kernel) (by decide +kernel)), (lw_ix 641 (by decide +kernel) (by decide +kernel))⟩
theorem cwL_90 : jcV R_law 90 YX8_drawn 2 := ⟨⟨(lw_ix 1130 (by decide +kernel) (by decide +kernel)), (lw_ix 71 (by decide +kernel) (by decide +kernel)), by decide +kernel, by decide +kernel, by decide +kernel⟩, (lw_ix 1127 (by decide +kernel) (by decide +kernel)), (lw_ix 1128 (by decide +kernel) (by decide +kernel)), (lw_ix 1129 (by decide +kernel) (by decide +kernel))⟩
theorem lc_17 {E : JE} {b L i T : Nat} {xs : Nat → Int32} {w : Wd} {u : JM} (hL : L ≤ 3072) (hi : i + 5 < L) (c : CW w u) (x : XW w u) (v : WV w T) (hT : T + 90 < 1000000000) (next : ∀ w' u', CW w' u' → XW w' u' → WV w' (T + 80) → LW E b L xs 1147 (lvI E b i) [] (NC, jRF, u')) : LW E b L xs 787 (lvI E b i) [] (NC, jRF, u) := by
  have h2 : w.1 21 0 + 90 < 1000000000 := by have := v.1.2.1; omega
  refine LW_aload (q := 2) dL_law_787 rfl rfl ?_
  refine LW_arg (i := i) (k := 1) dL_law_788 dL_law_789 dL_law_790 dL_law_791 dL_law_792 rfl rfl (by decide) (by omega) hL ?_
  refine LW_arg (i := i) (k := 2) dL_law_793 dL_law_794 dL_law_795 dL_law_796 dL_law_797 rfl rfl (by decide) (by omega) hL ?_
  refine LW_callV (st := []) (a := 0) (as := [.int (xs (i + 1)), .int (xs (i + 2))]) (ci := 7) (d' := 7) (n1 := NC) cwL_87 dL_law_798 rfl (Nat.le_of_ble_eq_true rfl) rfl rfl rfl (Nat.le_of_ble_eq_true rfl) (by decide) (Nat.le_refl _) (Nat.le_refl _) (U7_drawn c v h2) ?_
  rintro _ _ ⟨_, u1, rfl, rfl, rfl, s1, c1⟩ _
  show LW E b L xs 801 (lvI E b i) [.int (anDrawn w.1 (xs (i + 1)) (xs (i + 2)))] (NC, jRF, u1)
  refine LW_aload (q := 1) dL_law_801 rfl rfl ?_
  refine LW_arg (i := i) (k := 1) dL_law_802 dL_law_803 dL_law_804 dL_law_805 dL_law_806 rfl rfl (by decide) (by omega) hL ?_
  refine LW_arg (i := i) (k := 2) dL_law_807 dL_law_808 dL_law_809 dL_law_810 dL_law_811 rfl rfl (by decide) (by omega) hL ?_
  refine LW_callV (st := [.int (anDrawn w.1 (xs (i + 1)) (xs (i + 2)))]) (a := 137) (as := [.int (xs (i + 1)), .int (xs (i + 2))]) (ci := 8) (d' := 11) (n1 := NC) cwL_90 dL_law_812 rfl (Nat.le_of_ble_eq_true rfl) rfl rfl rfl (Nat.le_of_ble_eq_true rfl) (by decide) (Nat.le_refl _) (Nat.le_refl _) (U8_drawn (x.cls s1) v h2) ?_
  rintro _ _ ⟨_, u2, rfl, rfl, rfl, s2, x2⟩ _
  show LW E b L xs 815 (lvI E b i) [.int (anDrawn w.1 (xs (i + 1)) (xs (i + 2))), .int (anDrawn w.1 (xs (i + 1)) (xs (i + 2)))] (NC, jRF, u2)
  refine LW_eq dL_law_815 (tgt := 1147) (by decide) ?_
  exact next _ u2 (c1.up_ s2) x2 (WU_drawn (xs (i + 1)) (xs (i + 2)) v hT)
theorem cwL_91 : jcV R_law 91 YX7_chance 4 := ⟨⟨(lw_ix 661 (by decide +kernel) (by decide +kernel)), (lw_ix 63 (by decide +kernel) (by decide +kernel)), by decide +kernel, by decide +kernel, by decide +kernel⟩, (lw_ix 658 (by decide +kernel) (by decide +kernel)), (lw_ix 659 (by decide +kernel) (by decide +kernel)), (lw_ix 660 (by decide +kernel) (by decide +kernel))⟩
theorem cwL_94 : jcV R_law 94 YX8_chance 4 := ⟨⟨(lw_ix 1139 (by decide +kernel) (by decide +kernel)), (lw_ix 71 (by decide +kernel) (by decide +kernel)), by decide +kernel, by decide +kernel, by decide +kernel⟩, (lw_ix 1136 (by decide +kernel) (by decide +kernel)), (lw_ix 1137 (by decide +kernel) (by decide +kernel)), (lw_ix 1138 (by decide +kernel) (by decide +kernel))⟩
theorem lc_18 {E : JE} {b L i T : Nat} {xs : Nat → Int32} {w : Wd} {u : JM} (hL : L ≤ 3072) (hi : i + 5 < L) (c : CW w u) (x : XW w u) (v : WV w T) (hT : T + 90 < 1000000000) (next : ∀ w' u', CW w' u' → XW w' u' → WV w' (T + 80) → LW E b L xs 1147 (lvI E b i) [] (NC, jRF, u')) : LW E b L xs 820 (lvI E b i) [] (NC, jRF, u) := by
  have h2 : w.1 21 0 + 90 < 1000000000 := by have := v.1.2.1; omega
  refine LW_aload (q := 2) dL_law_820 rfl rfl ?_
  refine LW_arg (i := i) (k := 1) dL_law_821 dL_law_822 dL_law_823 dL_law_824 dL_law_825 rfl rfl (by decide) (by omega) hL ?_
  refine LW_arg (i := i) (k := 2) dL_law_826 dL_law_827 dL_law_828 dL_law_829 dL_law_830 rfl rfl (by decide) (by omega) hL ?_
  refine LW_arg (i := i) (k := 3) dL_law_831 dL_law_832 dL_law_833 dL_law_834 dL_law_835 rfl rfl (by decide) (by omega) hL ?_
  refine LW_arg (i := i) (k := 4) dL_law_836 dL_law_837 dL_law_838 dL_law_839 dL_law_840 rfl rfl (by decide) (by omega) hL ?_
  refine LW_callV (st := []) (a := 0) (as := [.int (xs (i + 1)), .int (xs (i + 2)), .int (xs (i + 3)), .int (xs (i + 4))]) (ci := 7) (d' := 7) (n1 := NC) cwL_91 dL_law_841 rfl (Nat.le_of_ble_eq_true rfl) rfl rfl rfl (Nat.le_of_ble_eq_true rfl) (by decide) (Nat.le_refl _) (Nat.le_refl _) (U7_chance c v h2) ?_
  rintro _ _ ⟨_, u1, rfl, rfl, rfl, s1, c1⟩ _
  show LW E b L xs 844 (lvI E b i) [.int (anChance w.1 (xs (i + 1)) (xs (i + 2)) (xs (i + 3)) (xs (i + 4)))] (NC, jRF, u1)
  refine LW_aload (q := 1) dL_law_844 rfl rfl ?_
  refine LW_arg (i := i) (k := 1) dL_law_845 dL_law_846 dL_law_847 dL_law_848 dL_law_849 rfl rfl (by decide) (by omega) hL ?_
  refine LW_arg (i := i) (k := 2) dL_law_850 dL_law_851 dL_law_852 dL_law_853 dL_law_854 rfl rfl (by decide) (by omega) hL ?_
  refine LW_arg (i := i) (k := 3) dL_law_855 dL_law_856 dL_law_857 dL_law_858 dL_law_859 rfl rfl (by decide) (by omega) hL ?_
  refine LW_arg (i := i) (k := 4) dL_law_860 dL_law_861 dL_law_862 dL_law_863 dL_law_864 rfl rfl (by decide) (by omega) hL ?_
  refine LW_callV (st := [.int (anChance w.1 (xs (i + 1)) (xs (i + 2)) (xs (i + 3)) (xs (i + 4)))]) (a := 137) (as := [.int (xs (i + 1)), .int (xs (i + 2)), .int (xs (i + 3)), .int (xs (i + 4))]) (ci := 8) (d' := 41) (n1 := NC) cwL_94 dL_law_865 rfl (Nat.le_of_ble_eq_true rfl) rfl rfl rfl (Nat.le_of_ble_eq_true rfl) (by decide) (Nat.le_refl _) (Nat.le_refl _) (U8_chance (x.cls s1) v h2) ?_
  rintro _ _ ⟨_, u2, rfl, rfl, rfl, s2, x2⟩ _
  show LW E b L xs 868 (lvI E b i) [.int (anChance w.1 (xs (i + 1)) (xs (i + 2)) (xs (i + 3)) (xs (i + 4))), .int (anChance w.1 (xs (i + 1)) (xs (i + 2)) (xs (i + 3)) (xs (i + 4)))] (NC, jRF, u2)
  refine LW_eq dL_law_868 (tgt := 1147) (by decide) ?_
  exact next _ u2 (c1.up_ s2) x2 (WU_chance (xs (i + 1)) (xs (i + 2)) (xs (i + 3)) (xs (i + 4)) v hT)
theorem cwL_95 : jcV R_law 95 YX7_tells 3 := ⟨⟨(lw_ix 672 (by decide +kernel) (by decide +kernel)), (lw_ix 63 (by decide +kernel) (by decide +kernel)), by decide +kernel, by decide +kernel, by decide +kernel⟩, (lw_ix 669 (by decide +kernel) (by decide +kernel)), (lw_ix 670 (by decide +kernel) (by decide +kernel)), (lw_ix 671 (by decide +kernel) (by decide +kernel))⟩
theorem cwL_98 : jcV R_law 98 YX8_tells_ 3 := ⟨⟨(lw_ix 1146 (by decide +kernel) (by decide +kernel)), (lw_ix 71 (by decide +kernel) (by decide +kernel)), by decide +kernel, by decide +kernel, by decide +kernel⟩, (lw_ix 1143 (by decide +kernel) (by decide +kernel)), (lw_ix 1144 (by decide +kernel) (by decide +kernel)), (lw_ix 1145 (by decide +kernel) (by decide +kernel))⟩
theorem lc_19 {E : JE} {b L i T : Nat} {xs : Nat → Int32} {w : Wd} {u : JM} (hL : L ≤ 3072) (hi : i + 5 < L) (c : CW w u) (x : XW w u) (v : WV w T) (hT : T + 90 < 1000000000) (next : ∀ w' u', CW w' u' → XW w' u' → WV w' (T + 80) → LW E b L xs 1147 (lvI E b i) [] (NC, jRF, u')) : LW E b L xs 873 (lvI E b i) [] (NC, jRF, u) := by
  have h2 : w.1 21 0 + 90 < 1000000000 := by have := v.1.2.1; omega
  refine LW_aload (q := 2) dL_law_873 rfl rfl ?_
  refine LW_arg (i := i) (k := 1) dL_law_874 dL_law_875 dL_law_876 dL_law_877 dL_law_878 rfl rfl (by decide) (by omega) hL ?_
  refine LW_arg (i := i) (k := 2) dL_law_879 dL_law_880 dL_law_881 dL_law_882 dL_law_883 rfl rfl (by decide) (by omega) hL ?_
  refine LW_arg (i := i) (k := 3) dL_law_884 dL_law_885 dL_law_886 dL_law_887 dL_law_888 rfl rfl (by decide) (by omega) hL ?_
  refine LW_callV (st := []) (a := 0) (as := [.int (xs (i + 1)), .int (xs (i + 2)), .int (xs (i + 3))]) (ci := 7) (d' := 8) (n1 := NC) cwL_95 dL_law_889 rfl (Nat.le_of_ble_eq_true rfl) rfl rfl rfl (Nat.le_of_ble_eq_true rfl) (by decide) (Nat.le_refl _) (Nat.le_refl _) (U7_tells c v h2) ?_
  rintro _ _ ⟨_, u1, rfl, rfl, rfl, s1, c1⟩ _
  show LW E b L xs 892 (lvI E b i) [.int (anTells w (xs (i + 1)) (xs (i + 2)) (xs (i + 3)))] (NC, jRF, u1)
  refine LW_aload (q := 1) dL_law_892 rfl rfl ?_
  refine LW_arg (i := i) (k := 1) dL_law_893 dL_law_894 dL_law_895 dL_law_896 dL_law_897 rfl rfl (by decide) (by omega) hL ?_
  refine LW_arg (i := i) (k := 2) dL_law_898 dL_law_899 dL_law_900 dL_law_901 dL_law_902 rfl rfl (by decide) (by omega) hL ?_
  refine LW_arg (i := i) (k := 3) dL_law_903 dL_law_904 dL_law_905 dL_law_906 dL_law_907 rfl rfl (by decide) (by omega) hL ?_
  refine LW_callV (st := [.int (anTells w (xs (i + 1)) (xs (i + 2)) (xs (i + 3)))]) (a := 137) (as := [.int (xs (i + 1)), .int (xs (i + 2)), .int (xs (i + 3))]) (ci := 8) (d' := 11) (n1 := NC) cwL_98 dL_law_908 rfl (Nat.le_of_ble_eq_true rfl) rfl rfl rfl (Nat.le_of_ble_eq_true rfl) (by decide) (Nat.le_refl _) (Nat.le_refl _) (U8_tells (x.cls s1) v h2) ?_
  rintro _ _ ⟨_, u2, rfl, rfl, rfl, s2, x2⟩ _
  show LW E b L xs 911 (lvI E b i) [.int (anTells w (xs (i + 1)) (xs (i + 2)) (xs (i + 3))), .int (anTells w (xs (i + 1)) (xs (i + 2)) (xs (i + 3)))] (NC, jRF, u2)
  refine LW_eq dL_law_911 (tgt := 1147) (by decide) ?_
  exact next _ u2 (c1.up_ s2) x2 (WU_tells (xs (i + 1)) (xs (i + 2)) (xs (i + 3)) v hT)
theorem cwL_99 : jcV R_law 99 YX7_film 2 := ⟨⟨(lw_ix 711 (by decide +kernel) (by decide +kernel)), (lw_ix 63 (by decide +kernel) (by decide +kernel)), by decide +kernel, by decide +kernel, by decide +kernel⟩, (lw_ix 708 (by decide +kernel) (by decide +kernel)), (lw_ix 709 (by decide +kernel) (by decide +kernel)), (lw_ix 710 (by decide +kernel) (by decide +kernel))⟩
theorem cwL_102 : jcV R_law 102 YX8_film 2 := ⟨⟨(lw_ix 1165 (by decide +kernel) (by decide +kernel)), (lw_ix 71 (by decide +kernel) (by decide +kernel)), by decide +kernel, by decide +kernel, by decide +kernel⟩, (lw_ix 1162 (by decide +kernel) (by decide +kernel)), (lw_ix 1163 (by decide +kernel) (by decide +kernel)), (lw_ix 1164 (by decide +kernel) (by decide +kernel))⟩
theorem lc_20 {E : JE} {b L i T : Nat} {xs : Nat → Int32} {w : Wd} {u : JM} (hL : L ≤ 3072) (hi : i + 5 < L) (c : CW w u) (x : XW w u) (v : WV w T) (hT : T + 90 < 1000000000) (next : ∀ w' u', CW w' u' → XW w' u' → WV w' (T + 80) → LW E b L xs 1147 (lvI E b i) [] (NC, jRF, u')) : LW E b L xs 916 (lvI E b i) [] (NC, jRF, u) := by
  have h2 : w.1 21 0 + 90 < 1000000000 := by have := v.1.2.1; omega
  refine LW_aload (q := 2) dL_law_916 rfl rfl ?_
  refine LW_arg (i := i) (k := 1) dL_law_917 dL_law_918 dL_law_919 dL_law_920 dL_law_921 rfl rfl (by decide) (by omega) hL ?_
  refine LW_arg (i := i) (k := 2) dL_law_922 dL_law_923 dL_law_924 dL_law_925 dL_law_926 rfl rfl (by decide) (by omega) hL ?_
  refine LW_callV (st := []) (a := 0) (as := [.int (xs (i + 1)), .int (xs (i + 2))]) (ci := 7) (d' := 5) (n1 := NC) cwL_99 dL_law_927 rfl (Nat.le_of_ble_eq_true rfl) rfl rfl rfl (Nat.le_of_ble_eq_true rfl) (by decide) (Nat.le_refl _) (Nat.le_refl _) (U7_film c v h2) ?_
  rintro _ _ ⟨_, u1, rfl, rfl, rfl, s1, c1⟩ _
  show LW E b L xs 930 (lvI E b i) [.int (anFilm (xs (i + 1)) (xs (i + 2)))] (NC, jRF, u1)
  refine LW_aload (q := 1) dL_law_930 rfl rfl ?_
  refine LW_arg (i := i) (k := 1) dL_law_931 dL_law_932 dL_law_933 dL_law_934 dL_law_935 rfl rfl (by decide) (by omega) hL ?_
  refine LW_arg (i := i) (k := 2) dL_law_936 dL_law_937 dL_law_938 dL_law_939 dL_law_940 rfl rfl (by decide) (by omega) hL ?_
  refine LW_callV (st := [.int (anFilm (xs (i + 1)) (xs (i + 2)))]) (a := 137) (as := [.int (xs (i + 1)), .int (xs (i + 2))]) (ci := 8) (d' := 8) (n1 := NC) cwL_102 dL_law_941 rfl (Nat.le_of_ble_eq_true rfl) rfl rfl rfl (Nat.le_of_ble_eq_true rfl) (by decide) (Nat.le_refl _) (Nat.le_refl _) (U8_film (x.cls s1) v h2) ?_
  rintro _ _ ⟨_, u2, rfl, rfl, rfl, s2, x2⟩ _
  show LW E b L xs 944 (lvI E b i) [.int (anFilm (xs (i + 1)) (xs (i + 2))), .int (anFilm (xs (i + 1)) (xs (i + 2)))] (NC, jRF, u2)
  refine LW_eq dL_law_944 (tgt := 1147) (by decide) ?_
  exact next _ u2 (c1.up_ s2) x2 (WU_film (xs (i + 1)) (xs (i + 2)) v hT)
theorem cwL_103 : jcV R_law 103 YX7_image 0 := ⟨⟨(lw_ix 724 (by decide +kernel) (by decide +kernel)), (lw_ix 63 (by decide +kernel) (by decide +kernel)), by decide +kernel, by decide +kernel, by decide +kernel⟩, (lw_ix 721 (by decide +kernel) (by decide +kernel)), (lw_ix 722 (by decide +kernel) (by decide +kernel)), (lw_ix 723 (by decide +kernel) (by decide +kernel))⟩
theorem cwL_106 : jcV R_law 106 YX8_image 0 := ⟨⟨(lw_ix 1169 (by decide +kernel) (by decide +kernel)), (lw_ix 71 (by decide +kernel) (by decide +kernel)), by decide +kernel, by decide +kernel, by decide +kernel⟩, (lw_ix 1166 (by decide +kernel) (by decide +kernel)), (lw_ix 1167 (by decide +kernel) (by decide +kernel)), (lw_ix 1168 (by decide +kernel) (by decide +kernel))⟩
theorem lc_21 {E : JE} {b L i T : Nat} {xs : Nat → Int32} {w : Wd} {u : JM} (hL : L ≤ 3072) (hi : i + 5 < L) (c : CW w u) (x : XW w u) (v : WV w T) (hT : T + 90 < 1000000000) (next : ∀ w' u', CW w' u' → XW w' u' → WV w' (T + 80) → LW E b L xs 1147 (lvI E b i) [] (NC, jRF, u')) : LW E b L xs 949 (lvI E b i) [] (NC, jRF, u) := by
  have h2 : w.1 21 0 + 90 < 1000000000 := by have := v.1.2.1; omega
  refine LW_aload (q := 2) dL_law_949 rfl rfl ?_
  refine LW_callV (st := []) (a := 0) (as := []) (ci := 7) (d' := 3) (n1 := NC) cwL_103 dL_law_950 rfl (Nat.le_of_ble_eq_true rfl) rfl rfl rfl (Nat.le_of_ble_eq_true rfl) (by decide) (Nat.le_refl _) (Nat.le_refl _) (U7_image c v h2) ?_
  rintro _ _ ⟨_, u1, rfl, rfl, rfl, s1, c1⟩ _
  show LW E b L xs 953 (lvI E b i) [.int (anImage w)] (NC, jRF, u1)
  refine LW_aload (q := 1) dL_law_953 rfl rfl ?_
  refine LW_callV (st := [.int (anImage w)]) (a := 137) (as := []) (ci := 8) (d' := 3) (n1 := NC) cwL_106 dL_law_954 rfl (Nat.le_of_ble_eq_true rfl) rfl rfl rfl (Nat.le_of_ble_eq_true rfl) (by decide) (Nat.le_refl _) (Nat.le_refl _) (U8_image (x.cls s1) v h2) ?_
  rintro _ _ ⟨_, u2, rfl, rfl, rfl, s2, x2⟩ _
  show LW E b L xs 957 (lvI E b i) [.int (anImage w), .int (anImage w)] (NC, jRF, u2)
  refine LW_eq dL_law_957 (tgt := 1147) (by decide) ?_
  exact next _ u2 (c1.up_ s2) x2 (WU_image v hT)
theorem cwL_107 : jcV R_law 107 YX7_back 0 := ⟨⟨(lw_ix 728 (by decide +kernel) (by decide +kernel)), (lw_ix 63 (by decide +kernel) (by decide +kernel)), by decide +kernel, by decide +kernel, by decide +kernel⟩, (lw_ix 725 (by decide +kernel) (by decide +kernel)), (lw_ix 726 (by decide +kernel) (by decide +kernel)), (lw_ix 727 (by decide +kernel) (by decide +kernel))⟩
theorem cwL_110 : jcV R_law 110 YX8_back 0 := ⟨⟨(lw_ix 1173 (by decide +kernel) (by decide +kernel)), (lw_ix 71 (by decide +kernel) (by decide +kernel)), by decide +kernel, by decide +kernel, by decide +kernel⟩, (lw_ix 1170 (by decide +kernel) (by decide +kernel)), (lw_ix 1171 (by decide +kernel) (by decide +kernel)), (lw_ix 1172 (by decide +kernel) (by decide +kernel))⟩
theorem lc_22 {E : JE} {b L i T : Nat} {xs : Nat → Int32} {w : Wd} {u : JM} (hL : L ≤ 3072) (hi : i + 5 < L) (c : CW w u) (x : XW w u) (v : WV w T) (hT : T + 90 < 1000000000) (next : ∀ w' u', CW w' u' → XW w' u' → WV w' (T + 80) → LW E b L xs 1147 (lvI E b i) [] (NC, jRF, u')) : LW E b L xs 962 (lvI E b i) [] (NC, jRF, u) := by
  have h2 : w.1 21 0 + 90 < 1000000000 := by have := v.1.2.1; omega
  refine LW_aload (q := 2) dL_law_962 rfl rfl ?_
  refine LW_callV (st := []) (a := 0) (as := []) (ci := 7) (d' := 3) (n1 := NC) cwL_107 dL_law_963 rfl (Nat.le_of_ble_eq_true rfl) rfl rfl rfl (Nat.le_of_ble_eq_true rfl) (by decide) (Nat.le_refl _) (Nat.le_refl _) (U7_back c v h2) ?_
  rintro _ _ ⟨_, u1, rfl, rfl, rfl, s1, c1⟩ _
  show LW E b L xs 966 (lvI E b i) [.int (anBack w)] (NC, jRF, u1)
  refine LW_aload (q := 1) dL_law_966 rfl rfl ?_
  refine LW_callV (st := [.int (anBack w)]) (a := 137) (as := []) (ci := 8) (d' := 3) (n1 := NC) cwL_110 dL_law_967 rfl (Nat.le_of_ble_eq_true rfl) rfl rfl rfl (Nat.le_of_ble_eq_true rfl) (by decide) (Nat.le_refl _) (Nat.le_refl _) (U8_back (x.cls s1) v h2) ?_
  rintro _ _ ⟨_, u2, rfl, rfl, rfl, s2, x2⟩ _
  show LW E b L xs 970 (lvI E b i) [.int (anBack w), .int (anBack w)] (NC, jRF, u2)
  refine LW_eq dL_law_970 (tgt := 1147) (by decide) ?_
  exact next _ u2 (c1.up_ s2) x2 (WU_back v hT)
theorem cwL_111 : jcV R_law 111 YX7_count 1 := ⟨⟨(lw_ix 732 (by decide +kernel) (by decide +kernel)), (lw_ix 63 (by decide +kernel) (by decide +kernel)), by decide +kernel, by decide +kernel, by decide +kernel⟩, (lw_ix 729 (by decide +kernel) (by decide +kernel)), (lw_ix 730 (by decide +kernel) (by decide +kernel)), (lw_ix 731 (by decide +kernel) (by decide +kernel))⟩
theorem cwL_114 : jcV R_law 114 YX8_count 1 := ⟨⟨(lw_ix 1177 (by decide +kernel) (by decide +kernel)), (lw_ix 71 (by decide +kernel) (by decide +kernel)), by decide +kernel, by decide +kernel, by decide +kernel⟩, (lw_ix 1174 (by decide +kernel) (by decide +kernel)), (lw_ix 1175 (by decide +kernel) (by decide +kernel)), (lw_ix 1176 (by decide +kernel) (by decide +kernel))⟩
theorem lc_23 {E : JE} {b L i T : Nat} {xs : Nat → Int32} {w : Wd} {u : JM} (hL : L ≤ 3072) (hi : i + 5 < L) (c : CW w u) (x : XW w u) (v : WV w T) (hT : T + 90 < 1000000000) (next : ∀ w' u', CW w' u' → XW w' u' → WV w' (T + 80) → LW E b L xs 1147 (lvI E b i) [] (NC, jRF, u')) : LW E b L xs 975 (lvI E b i) [] (NC, jRF, u) := by
  have h2 : w.1 21 0 + 90 < 1000000000 := by have := v.1.2.1; omega
  refine LW_aload (q := 2) dL_law_975 rfl rfl ?_
  refine LW_arg (i := i) (k := 1) dL_law_976 dL_law_977 dL_law_978 dL_law_979 dL_law_980 rfl rfl (by decide) (by omega) hL ?_
  refine LW_callV (st := []) (a := 0) (as := [.int (xs (i + 1))]) (ci := 7) (d' := 4) (n1 := NC) cwL_111 dL_law_981 rfl (Nat.le_of_ble_eq_true rfl) rfl rfl rfl (Nat.le_of_ble_eq_true rfl) (by decide) (Nat.le_refl _) (Nat.le_refl _) (U7_count c v h2) ?_
  rintro _ _ ⟨_, u1, rfl, rfl, rfl, s1, c1⟩ _
  show LW E b L xs 984 (lvI E b i) [.int (anCount w.1 (xs (i + 1)))] (NC, jRF, u1)
  refine LW_aload (q := 1) dL_law_984 rfl rfl ?_
  refine LW_arg (i := i) (k := 1) dL_law_985 dL_law_986 dL_law_987 dL_law_988 dL_law_989 rfl rfl (by decide) (by omega) hL ?_
  refine LW_callV (st := [.int (anCount w.1 (xs (i + 1)))]) (a := 137) (as := [.int (xs (i + 1))]) (ci := 8) (d' := 4) (n1 := NC) cwL_114 dL_law_990 rfl (Nat.le_of_ble_eq_true rfl) rfl rfl rfl (Nat.le_of_ble_eq_true rfl) (by decide) (Nat.le_refl _) (Nat.le_refl _) (U8_count (x.cls s1) v h2) ?_
  rintro _ _ ⟨_, u2, rfl, rfl, rfl, s2, x2⟩ _
  show LW E b L xs 993 (lvI E b i) [.int (anCount w.1 (xs (i + 1))), .int (anCount w.1 (xs (i + 1)))] (NC, jRF, u2)
  refine LW_eq dL_law_993 (tgt := 1147) (by decide) ?_
  exact next _ u2 (c1.up_ s2) x2 (WU_count (xs (i + 1)) v hT)
theorem cwL_115 : jcV R_law 115 YX7_sheet 3 := ⟨⟨(lw_ix 745 (by decide +kernel) (by decide +kernel)), (lw_ix 63 (by decide +kernel) (by decide +kernel)), by decide +kernel, by decide +kernel, by decide +kernel⟩, (lw_ix 742 (by decide +kernel) (by decide +kernel)), (lw_ix 743 (by decide +kernel) (by decide +kernel)), (lw_ix 744 (by decide +kernel) (by decide +kernel))⟩
theorem cwL_118 : jcV R_law 118 YX8_sheet 3 := ⟨⟨(lw_ix 1181 (by decide +kernel) (by decide +kernel)), (lw_ix 71 (by decide +kernel) (by decide +kernel)), by decide +kernel, by decide +kernel, by decide +kernel⟩, (lw_ix 1178 (by decide +kernel) (by decide +kernel)), (lw_ix 1179 (by decide +kernel) (by decide +kernel)), (lw_ix 1180 (by decide +kernel) (by decide +kernel))⟩
theorem lc_24 {E : JE} {b L i T : Nat} {xs : Nat → Int32} {w : Wd} {u : JM} (hL : L ≤ 3072) (hi : i + 5 < L) (c : CW w u) (x : XW w u) (v : WV w T) (hT : T + 90 < 1000000000) (next : ∀ w' u', CW w' u' → XW w' u' → WV w' (T + 80) → LW E b L xs 1147 (lvI E b i) [] (NC, jRF, u')) : LW E b L xs 998 (lvI E b i) [] (NC, jRF, u) := by
  have h2 : w.1 21 0 + 90 < 1000000000 := by have := v.1.2.1; omega
  refine LW_aload (q := 2) dL_law_998 rfl rfl ?_
  refine LW_arg (i := i) (k := 1) dL_law_999 dL_law_1000 dL_law_1001 dL_law_1002 dL_law_1003 rfl rfl (by decide) (by omega) hL ?_
  refine LW_arg (i := i) (k := 2) dL_law_1004 dL_law_1005 dL_law_1006 dL_law_1007 dL_law_1008 rfl rfl (by decide) (by omega) hL ?_
  refine LW_arg (i := i) (k := 3) dL_law_1009 dL_law_1010 dL_law_1011 dL_law_1012 dL_law_1013 rfl rfl (by decide) (by omega) hL ?_
  refine LW_callV (st := []) (a := 0) (as := [.int (xs (i + 1)), .int (xs (i + 2)), .int (xs (i + 3))]) (ci := 7) (d' := 3) (n1 := NC) cwL_115 dL_law_1014 rfl (Nat.le_of_ble_eq_true rfl) rfl rfl rfl (Nat.le_of_ble_eq_true rfl) (by decide) (Nat.le_refl _) (Nat.le_refl _) (U7_sheet c v h2) ?_
  rintro _ _ ⟨_, u1, rfl, rfl, rfl, s1, c1⟩ _
  show LW E b L xs 1017 (lvI E b i) [.int (anSheet (xs (i + 1)) (xs (i + 2)) (xs (i + 3)))] (NC, jRF, u1)
  refine LW_aload (q := 1) dL_law_1017 rfl rfl ?_
  refine LW_arg (i := i) (k := 1) dL_law_1018 dL_law_1019 dL_law_1020 dL_law_1021 dL_law_1022 rfl rfl (by decide) (by omega) hL ?_
  refine LW_arg (i := i) (k := 2) dL_law_1023 dL_law_1024 dL_law_1025 dL_law_1026 dL_law_1027 rfl rfl (by decide) (by omega) hL ?_
  refine LW_arg (i := i) (k := 3) dL_law_1028 dL_law_1029 dL_law_1030 dL_law_1031 dL_law_1032 rfl rfl (by decide) (by omega) hL ?_
  refine LW_callV (st := [.int (anSheet (xs (i + 1)) (xs (i + 2)) (xs (i + 3)))]) (a := 137) (as := [.int (xs (i + 1)), .int (xs (i + 2)), .int (xs (i + 3))]) (ci := 8) (d' := 3) (n1 := NC) cwL_118 dL_law_1033 rfl (Nat.le_of_ble_eq_true rfl) rfl rfl rfl (Nat.le_of_ble_eq_true rfl) (by decide) (Nat.le_refl _) (Nat.le_refl _) (U8_sheet (x.cls s1) v h2) ?_
  rintro _ _ ⟨_, u2, rfl, rfl, rfl, s2, x2⟩ _
  show LW E b L xs 1036 (lvI E b i) [.int (anSheet (xs (i + 1)) (xs (i + 2)) (xs (i + 3))), .int (anSheet (xs (i + 1)) (xs (i + 2)) (xs (i + 3)))] (NC, jRF, u2)
  refine LW_eq dL_law_1036 (tgt := 1147) (by decide) ?_
  exact next _ u2 (c1.up_ s2) x2 (WU_sheet (xs (i + 1)) (xs (i + 2)) (xs (i + 3)) v hT)
theorem cwL_119 : jcV R_law 119 YX7_cell 3 := ⟨⟨(lw_ix 749 (by decide +kernel) (by decide +kernel)), (lw_ix 63 (by decide +kernel) (by decide +kernel)), by decide +kernel, by decide +kernel, by decide +kernel⟩, (lw_ix 746 (by decide +kernel) (by decide +kernel)), (lw_ix 747 (by decide +kernel) (by decide +kernel)), (lw_ix 748 (by decide +kernel) (by decide +kernel))⟩
theorem cwL_122 : jcV R_law 122 YX8_cell 3 := ⟨⟨(lw_ix 1185 (by decide +kernel) (by decide +kernel)), (lw_ix 71 (by decide +kernel) (by decide +kernel)), by decide +kernel, by decide +kernel, by decide +kernel⟩, (lw_ix 1182 (by decide +kernel) (by decide +kernel)), (lw_ix 1183 (by decide +kernel) (by decide +kernel)), (lw_ix 1184 (by decide +kernel) (by decide +kernel))⟩
theorem lc_25 {E : JE} {b L i T : Nat} {xs : Nat → Int32} {w : Wd} {u : JM} (hL : L ≤ 3072) (hi : i + 5 < L) (c : CW w u) (x : XW w u) (v : WV w T) (hT : T + 90 < 1000000000) (next : ∀ w' u', CW w' u' → XW w' u' → WV w' (T + 80) → LW E b L xs 1147 (lvI E b i) [] (NC, jRF, u')) : LW E b L xs 1041 (lvI E b i) [] (NC, jRF, u) := by
  have h2 : w.1 21 0 + 90 < 1000000000 := by have := v.1.2.1; omega
  refine LW_aload (q := 2) dL_law_1041 rfl rfl ?_
  refine LW_arg (i := i) (k := 1) dL_law_1042 dL_law_1043 dL_law_1044 dL_law_1045 dL_law_1046 rfl rfl (by decide) (by omega) hL ?_
  refine LW_arg (i := i) (k := 2) dL_law_1047 dL_law_1048 dL_law_1049 dL_law_1050 dL_law_1051 rfl rfl (by decide) (by omega) hL ?_
  refine LW_arg (i := i) (k := 3) dL_law_1052 dL_law_1053 dL_law_1054 dL_law_1055 dL_law_1056 rfl rfl (by decide) (by omega) hL ?_
  refine LW_callV (st := []) (a := 0) (as := [.int (xs (i + 1)), .int (xs (i + 2)), .int (xs (i + 3))]) (ci := 7) (d' := 2) (n1 := NC) cwL_119 dL_law_1057 rfl (Nat.le_of_ble_eq_true rfl) rfl rfl rfl (Nat.le_of_ble_eq_true rfl) (by decide) (Nat.le_refl _) (Nat.le_refl _) (U7_cell c v h2) ?_
  rintro _ _ ⟨_, u1, rfl, rfl, rfl, s1, c1⟩ _
  show LW E b L xs 1060 (lvI E b i) [.int (anCell w.2.2.2 (xs (i + 1)) (xs (i + 2)))] (NC, jRF, u1)
  refine LW_aload (q := 1) dL_law_1060 rfl rfl ?_
  refine LW_arg (i := i) (k := 1) dL_law_1061 dL_law_1062 dL_law_1063 dL_law_1064 dL_law_1065 rfl rfl (by decide) (by omega) hL ?_
  refine LW_arg (i := i) (k := 2) dL_law_1066 dL_law_1067 dL_law_1068 dL_law_1069 dL_law_1070 rfl rfl (by decide) (by omega) hL ?_
  refine LW_arg (i := i) (k := 3) dL_law_1071 dL_law_1072 dL_law_1073 dL_law_1074 dL_law_1075 rfl rfl (by decide) (by omega) hL ?_
  refine LW_callV (st := [.int (anCell w.2.2.2 (xs (i + 1)) (xs (i + 2)))]) (a := 137) (as := [.int (xs (i + 1)), .int (xs (i + 2)), .int (xs (i + 3))]) (ci := 8) (d' := 3) (n1 := NC) cwL_122 dL_law_1076 rfl (Nat.le_of_ble_eq_true rfl) rfl rfl rfl (Nat.le_of_ble_eq_true rfl) (by decide) (Nat.le_refl _) (Nat.le_refl _) (U8_cell (x.cls s1) v h2) ?_
  rintro _ _ ⟨_, u2, rfl, rfl, rfl, s2, x2⟩ _
  show LW E b L xs 1079 (lvI E b i) [.int (anCell w.2.2.2 (xs (i + 1)) (xs (i + 2))), .int (anCell w.2.2.2 (xs (i + 1)) (xs (i + 2)))] (NC, jRF, u2)
  refine LW_eq dL_law_1079 (tgt := 1147) (by decide) ?_
  exact next _ u2 (c1.up_ s2) x2 (WU_cell (xs (i + 1)) (xs (i + 2)) (xs (i + 3)) v hT)
theorem cwL_123 : jcV R_law 123 YX7_copy 5 := ⟨⟨(lw_ix 753 (by decide +kernel) (by decide +kernel)), (lw_ix 63 (by decide +kernel) (by decide +kernel)), by decide +kernel, by decide +kernel, by decide +kernel⟩, (lw_ix 750 (by decide +kernel) (by decide +kernel)), (lw_ix 751 (by decide +kernel) (by decide +kernel)), (lw_ix 752 (by decide +kernel) (by decide +kernel))⟩
theorem cwL_126 : jcV R_law 126 YX8_copy 5 := ⟨⟨(lw_ix 1189 (by decide +kernel) (by decide +kernel)), (lw_ix 71 (by decide +kernel) (by decide +kernel)), by decide +kernel, by decide +kernel, by decide +kernel⟩, (lw_ix 1186 (by decide +kernel) (by decide +kernel)), (lw_ix 1187 (by decide +kernel) (by decide +kernel)), (lw_ix 1188 (by decide +kernel) (by decide +kernel))⟩
theorem lc_26 {E : JE} {b L i T : Nat} {xs : Nat → Int32} {w : Wd} {u : JM} (hL : L ≤ 3072) (hi : i + 5 < L) (c : CW w u) (x : XW w u) (v : WV w T) (hT : T + 90 < 1000000000) (next : ∀ w' u', CW w' u' → XW w' u' → WV w' (T + 80) → LW E b L xs 1147 (lvI E b i) [] (NC, jRF, u')) : LW E b L xs 1084 (lvI E b i) [] (NC, jRF, u) := by
  have h2 : w.1 21 0 + 90 < 1000000000 := by have := v.1.2.1; omega
  refine LW_aload (q := 2) dL_law_1084 rfl rfl ?_
  refine LW_arg (i := i) (k := 1) dL_law_1085 dL_law_1086 dL_law_1087 dL_law_1088 dL_law_1089 rfl rfl (by decide) (by omega) hL ?_
  refine LW_arg (i := i) (k := 2) dL_law_1090 dL_law_1091 dL_law_1092 dL_law_1093 dL_law_1094 rfl rfl (by decide) (by omega) hL ?_
  refine LW_arg (i := i) (k := 3) dL_law_1095 dL_law_1096 dL_law_1097 dL_law_1098 dL_law_1099 rfl rfl (by decide) (by omega) hL ?_
  refine LW_arg (i := i) (k := 4) dL_law_1100 dL_law_1101 dL_law_1102 dL_law_1103 dL_law_1104 rfl rfl (by decide) (by omega) hL ?_
  refine LW_arg (i := i) (k := 5) dL_law_1105 dL_law_1106 dL_law_1107 dL_law_1108 dL_law_1109 rfl rfl (by decide) (by omega) hL ?_
  refine LW_callV (st := []) (a := 0) (as := [.int (xs (i + 1)), .int (xs (i + 2)), .int (xs (i + 3)), .int (xs (i + 4)), .int (xs (i + 5))]) (ci := 7) (d' := 2) (n1 := NC) cwL_123 dL_law_1110 rfl (Nat.le_of_ble_eq_true rfl) rfl rfl rfl (Nat.le_of_ble_eq_true rfl) (by decide) (Nat.le_refl _) (Nat.le_refl _) (U7_copy c v h2) ?_
  rintro _ _ ⟨_, u1, rfl, rfl, rfl, s1, c1⟩ _
  show LW E b L xs 1113 (lvI E b i) [.int (anCopy w.2.2.2 (xs (i + 1)) (xs (i + 2)) (xs (i + 3)) (xs (i + 4)) (xs (i + 5)))] (NC, jRF, u1)
  refine LW_aload (q := 1) dL_law_1113 rfl rfl ?_
  refine LW_arg (i := i) (k := 1) dL_law_1114 dL_law_1115 dL_law_1116 dL_law_1117 dL_law_1118 rfl rfl (by decide) (by omega) hL ?_
  refine LW_arg (i := i) (k := 2) dL_law_1119 dL_law_1120 dL_law_1121 dL_law_1122 dL_law_1123 rfl rfl (by decide) (by omega) hL ?_
  refine LW_arg (i := i) (k := 3) dL_law_1124 dL_law_1125 dL_law_1126 dL_law_1127 dL_law_1128 rfl rfl (by decide) (by omega) hL ?_
  refine LW_arg (i := i) (k := 4) dL_law_1129 dL_law_1130 dL_law_1131 dL_law_1132 dL_law_1133 rfl rfl (by decide) (by omega) hL ?_
  refine LW_arg (i := i) (k := 5) dL_law_1134 dL_law_1135 dL_law_1136 dL_law_1137 dL_law_1138 rfl rfl (by decide) (by omega) hL ?_
  refine LW_callV (st := [.int (anCopy w.2.2.2 (xs (i + 1)) (xs (i + 2)) (xs (i + 3)) (xs (i + 4)) (xs (i + 5)))]) (a := 137) (as := [.int (xs (i + 1)), .int (xs (i + 2)), .int (xs (i + 3)), .int (xs (i + 4)), .int (xs (i + 5))]) (ci := 8) (d' := 3) (n1 := NC) cwL_126 dL_law_1139 rfl (Nat.le_of_ble_eq_true rfl) rfl rfl rfl (Nat.le_of_ble_eq_true rfl) (by decide) (Nat.le_refl _) (Nat.le_refl _) (U8_copy (x.cls s1) v h2) ?_
  rintro _ _ ⟨_, u2, rfl, rfl, rfl, s2, x2⟩ _
  show LW E b L xs 1142 (lvI E b i) [.int (anCopy w.2.2.2 (xs (i + 1)) (xs (i + 2)) (xs (i + 3)) (xs (i + 4)) (xs (i + 5))), .int (anCopy w.2.2.2 (xs (i + 1)) (xs (i + 2)) (xs (i + 3)) (xs (i + 4)) (xs (i + 5)))] (NC, jRF, u2)
  refine LW_eq dL_law_1142 (tgt := 1147) (by decide) ?_
  exact next _ u2 (c1.up_ s2) x2 (WU_copy (xs (i + 1)) (xs (i + 2)) (xs (i + 3)) (xs (i + 4)) (xs (i + 5)) v hT)
