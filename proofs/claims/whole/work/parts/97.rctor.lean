/-! the reference's constructor -/
theorem kd3 {N M : Nat} {p : Nat → Nat → Prop} [∀ i k, Decidable (p i k)] (h : ((List.range N).all fun i => (List.range M).all fun k => decide (p i k)) = true) : ∀ i, i < N → ∀ k, k < M → p i k := fun i hi k hk => of_decide_eq_true (List.all_eq_true.mp (List.all_eq_true.mp h i (List.mem_range.mpr hi)) k (List.mem_range.mpr hk))
theorem k_8_137 {E : JE} {ps : List (Nat × Nat)} {u : JM} (hps : ∀ p ∈ ps, p.1 < 137) (hu : uz 138 u) : JCr E 138 3771 1 YX8_init [.ref 137] ((137, 0) :: ps) u ps (uS u 3763) := by
  refine JC.ofV (g := (138, RR 138 ((137, 0) :: ps), u)) (by decide +kernel) (by decide) (jcat1 rfl) ?_
  show JVr E 138 3771 1 YX8_init _ 0 [some (.ref 137)] [] 138 ((137, 0) :: ps) u
  refine jv_aload_n dX8_init_0 rfl ?_
  refine jv_objInit ⟨(lw_ix 764 (by decide +kernel) (by decide +kernel)), (lw_ix 82 (by decide +kernel) (by decide +kernel)), (lw_ix 83 (by decide +kernel) (by decide +kernel))⟩ dX8_init_1 (by decide) (by decide) ?_
  refine jv_aload_n dX8_init_4 rfl ?_
  refine jv_bipush (v := nI 12) dX8_init_5 (by decide +kernel) ?_
  refine al_i dX8_init_7 rfl (by decide +kernel) hu ?_
  refine al_put (ci := 8) (k := 1) rfl inX8 tyX8_ok nmX8 (by decide) (by decide +kernel) rfl (fun b => ⟨rfl, rfl⟩) rfl rfl lk_8_9 dX8_init_9 rfl (by decide) (by decide) rfl (by decide +kernel) ?_
  refine jv_aload_n dX8_init_12 rfl ?_
  refine jv_bipush (v := nI 12) dX8_init_13 (by decide +kernel) ?_
  refine al_i dX8_init_15 rfl (by decide +kernel) (uz.up hu (show 138 ≤ 139 by decide)) ?_
  refine al_put (ci := 8) (k := 2) rfl inX8 tyX8_ok nmX8 (by decide) (by decide +kernel) rfl (fun b => ⟨rfl, rfl⟩) rfl rfl lk_8_13 dX8_init_17 rfl (by decide) (by decide) rfl (by decide +kernel) ?_
  refine jv_aload_n dX8_init_20 rfl ?_
  refine jv_bipush (v := nI 12) dX8_init_21 (by decide +kernel) ?_
  refine al_i dX8_init_23 rfl (by decide +kernel) (uz.up hu (show 138 ≤ 140 by decide)) ?_
  refine al_put (ci := 8) (k := 3) rfl inX8 tyX8_ok nmX8 (by decide) (by decide +kernel) rfl (fun b => ⟨rfl, rfl⟩) rfl rfl lk_8_16 dX8_init_25 rfl (by decide) (by decide) rfl (by decide +kernel) ?_
  refine jv_aload_n dX8_init_28 rfl ?_
  refine jv_bipush (v := nI 12) dX8_init_29 (by decide +kernel) ?_
  refine al_i dX8_init_31 rfl (by decide +kernel) (uz.up hu (show 138 ≤ 141 by decide)) ?_
  refine al_put (ci := 8) (k := 4) rfl inX8 tyX8_ok nmX8 (by decide) (by decide +kernel) rfl (fun b => ⟨rfl, rfl⟩) rfl rfl lk_8_19 dX8_init_33 rfl (by decide) (by decide) rfl (by decide +kernel) ?_
  refine jv_aload_n dX8_init_36 rfl ?_
  refine jv_bipush (v := nI 24) dX8_init_37 (by decide +kernel) ?_
  refine al_i dX8_init_39 rfl (by decide +kernel) (uz.up hu (show 138 ≤ 142 by decide)) ?_
  refine al_put (ci := 8) (k := 5) rfl inX8 tyX8_ok nmX8 (by decide) (by decide +kernel) rfl (fun b => ⟨rfl, rfl⟩) rfl rfl lk_8_22 dX8_init_41 rfl (by decide) (by decide) rfl (by decide +kernel) ?_
  refine jv_aload_n dX8_init_44 rfl ?_
  refine jv_sipush (v := nI 192) dX8_init_45 (by decide +kernel) ?_
  refine al_i dX8_init_48 rfl (by decide +kernel) (uz.up hu (show 138 ≤ 143 by decide)) ?_
  refine al_put (ci := 8) (k := 6) rfl inX8 tyX8_ok nmX8 (by decide) (by decide +kernel) rfl (fun b => ⟨rfl, rfl⟩) rfl rfl lk_8_25 dX8_init_50 rfl (by decide) (by decide) rfl (by decide +kernel) ?_
  refine jv_aload_n dX8_init_53 rfl ?_
  refine jv_sipush (v := nI 192) dX8_init_54 (by decide +kernel) ?_
  refine al_i dX8_init_57 rfl (by decide +kernel) (uz.up hu (show 138 ≤ 144 by decide)) ?_
  refine al_put (ci := 8) (k := 7) rfl inX8 tyX8_ok nmX8 (by decide) (by decide +kernel) rfl (fun b => ⟨rfl, rfl⟩) rfl rfl lk_8_28 dX8_init_59 rfl (by decide) (by decide) rfl (by decide +kernel) ?_
  refine jv_aload_n dX8_init_62 rfl ?_
  refine jv_sipush (v := nI 192) dX8_init_63 (by decide +kernel) ?_
  refine al_i dX8_init_66 rfl (by decide +kernel) (uz.up hu (show 138 ≤ 145 by decide)) ?_
  refine al_put (ci := 8) (k := 8) rfl inX8 tyX8_ok nmX8 (by decide) (by decide +kernel) rfl (fun b => ⟨rfl, rfl⟩) rfl rfl lk_8_31 dX8_init_68 rfl (by decide) (by decide) rfl (by decide +kernel) ?_
  refine jv_aload_n dX8_init_71 rfl ?_
  refine jv_sipush (v := nI 192) dX8_init_72 (by decide +kernel) ?_
  refine al_i dX8_init_75 rfl (by decide +kernel) (uz.up hu (show 138 ≤ 146 by decide)) ?_
  refine al_put (ci := 8) (k := 9) rfl inX8 tyX8_ok nmX8 (by decide) (by decide +kernel) rfl (fun b => ⟨rfl, rfl⟩) rfl rfl lk_8_34 dX8_init_77 rfl (by decide) (by decide) rfl (by decide +kernel) ?_
  refine jv_aload_n dX8_init_80 rfl ?_
  refine jv_sipush (v := nI 192) dX8_init_81 (by decide +kernel) ?_
  refine jv_bipush (v := nI 12) dX8_init_84 (by decide +kernel) ?_
  refine al_m2 (N := 192) (M := 12) (lw_ix 765 (by decide +kernel) (by decide +kernel)) dX8_init_86 rfl (rg_all (by decide +kernel)) (by decide +kernel) (List.forall_mem_cons.mpr ⟨by decide, (fun p hp => by have := hps p hp; omega)⟩) (uz.up hu (show 138 ≤ 147 by decide)) (rg_all (by decide +kernel)) ?_
  refine al_put (ci := 8) (k := 10) rfl inX8 tyX8_ok nmX8 (by decide) (by decide +kernel) rfl (fun b => ⟨rfl, rfl⟩) rfl rfl lk_8_39 dX8_init_90 rfl (by decide) (by decide) rfl (by decide +kernel) ?_
  refine jv_aload_n dX8_init_93 rfl ?_
  refine jv_sipush (v := nI 192) dX8_init_94 (by decide +kernel) ?_
  refine jv_bipush (v := nI 8) dX8_init_97 (by decide +kernel) ?_
  refine al_m2 (N := 192) (M := 8) (lw_ix 765 (by decide +kernel) (by decide +kernel)) dX8_init_99 rfl (rg_all (by decide +kernel)) (by decide +kernel) (List.forall_mem_cons.mpr ⟨by decide, (fun p hp => by have := hps p hp; omega)⟩) (uz.up hu (show 138 ≤ 340 by decide)) (rg_all (by decide +kernel)) ?_
  refine al_put (ci := 8) (k := 11) rfl inX8 tyX8_ok nmX8 (by decide) (by decide +kernel) rfl (fun b => ⟨rfl, rfl⟩) rfl rfl lk_8_42 dX8_init_103 rfl (by decide) (by decide) rfl (by decide +kernel) ?_
  refine jv_aload_n dX8_init_106 rfl ?_
  refine jv_sipush (v := nI 400) dX8_init_107 (by decide +kernel) ?_
  refine al_i dX8_init_110 rfl (by decide +kernel) (uz.up hu (show 138 ≤ 533 by decide)) ?_
  refine al_put (ci := 8) (k := 15) rfl inX8 tyX8_ok nmX8 (by decide) (by decide +kernel) rfl (fun b => ⟨rfl, rfl⟩) rfl rfl lk_8_45 dX8_init_112 rfl (by decide) (by decide) rfl (by decide +kernel) ?_
  refine jv_aload_n dX8_init_115 rfl ?_
  refine jv_sipush (v := nI 400) dX8_init_116 (by decide +kernel) ?_
  refine al_i dX8_init_119 rfl (by decide +kernel) (uz.up hu (show 138 ≤ 534 by decide)) ?_
  refine al_put (ci := 8) (k := 16) rfl inX8 tyX8_ok nmX8 (by decide) (by decide +kernel) rfl (fun b => ⟨rfl, rfl⟩) rfl rfl lk_8_48 dX8_init_121 rfl (by decide) (by decide) rfl (by decide +kernel) ?_
  refine jv_aload_n dX8_init_124 rfl ?_
  refine jv_sipush (v := nI 400) dX8_init_125 (by decide +kernel) ?_
  refine al_i dX8_init_128 rfl (by decide +kernel) (uz.up hu (show 138 ≤ 535 by decide)) ?_
  refine al_put (ci := 8) (k := 17) rfl inX8 tyX8_ok nmX8 (by decide) (by decide +kernel) rfl (fun b => ⟨rfl, rfl⟩) rfl rfl lk_8_51 dX8_init_130 rfl (by decide) (by decide) rfl (by decide +kernel) ?_
  refine jv_aload_n dX8_init_133 rfl ?_
  refine jv_sipush (v := nI 400) dX8_init_134 (by decide +kernel) ?_
  refine al_i dX8_init_137 rfl (by decide +kernel) (uz.up hu (show 138 ≤ 536 by decide)) ?_
  refine al_put (ci := 8) (k := 18) rfl inX8 tyX8_ok nmX8 (by decide) (by decide +kernel) rfl (fun b => ⟨rfl, rfl⟩) rfl rfl lk_8_54 dX8_init_139 rfl (by decide) (by decide) rfl (by decide +kernel) ?_
  refine jv_aload_n dX8_init_142 rfl ?_
  refine jv_sipush (v := nI 400) dX8_init_143 (by decide +kernel) ?_
  refine al_i dX8_init_146 rfl (by decide +kernel) (uz.up hu (show 138 ≤ 537 by decide)) ?_
  refine al_put (ci := 8) (k := 19) rfl inX8 tyX8_ok nmX8 (by decide) (by decide +kernel) rfl (fun b => ⟨rfl, rfl⟩) rfl rfl lk_8_57 dX8_init_148 rfl (by decide) (by decide) rfl (by decide +kernel) ?_
  refine jv_aload_n dX8_init_151 rfl ?_
  refine jv_sipush (v := nI 400) dX8_init_152 (by decide +kernel) ?_
  refine al_i dX8_init_155 rfl (by decide +kernel) (uz.up hu (show 138 ≤ 538 by decide)) ?_
  refine al_put (ci := 8) (k := 20) rfl inX8 tyX8_ok nmX8 (by decide) (by decide +kernel) rfl (fun b => ⟨rfl, rfl⟩) rfl rfl lk_8_60 dX8_init_157 rfl (by decide) (by decide) rfl (by decide +kernel) ?_
  refine jv_aload_n dX8_init_160 rfl ?_
  refine jv_sipush (v := nI 400) dX8_init_161 (by decide +kernel) ?_
  refine jv_bipush (v := nI 12) dX8_init_164 (by decide +kernel) ?_
  refine al_m2 (N := 400) (M := 12) (lw_ix 765 (by decide +kernel) (by decide +kernel)) dX8_init_166 rfl (rg_all (by decide +kernel)) (by decide +kernel) (List.forall_mem_cons.mpr ⟨by decide, (fun p hp => by have := hps p hp; omega)⟩) (uz.up hu (show 138 ≤ 539 by decide)) (rg_all (by decide +kernel)) ?_
  refine al_put (ci := 8) (k := 21) rfl inX8 tyX8_ok nmX8 (by decide) (by decide +kernel) rfl (fun b => ⟨rfl, rfl⟩) rfl rfl lk_8_63 dX8_init_170 rfl (by decide) (by decide) rfl (by decide +kernel) ?_
  refine jv_aload_n dX8_init_173 rfl ?_
  refine jv_sipush (v := nI 400) dX8_init_174 (by decide +kernel) ?_
  refine jv_bipush (v := nI 8) dX8_init_177 (by decide +kernel) ?_
  refine al_m2 (N := 400) (M := 8) (lw_ix 765 (by decide +kernel) (by decide +kernel)) dX8_init_179 rfl (rg_all (by decide +kernel)) (by decide +kernel) (List.forall_mem_cons.mpr ⟨by decide, (fun p hp => by have := hps p hp; omega)⟩) (uz.up hu (show 138 ≤ 940 by decide)) (rg_all (by decide +kernel)) ?_
  refine al_put (ci := 8) (k := 22) rfl inX8 tyX8_ok nmX8 (by decide) (by decide +kernel) rfl (fun b => ⟨rfl, rfl⟩) rfl rfl lk_8_66 dX8_init_183 rfl (by decide) (by decide) rfl (by decide +kernel) ?_
  refine jv_aload_n dX8_init_186 rfl ?_
  refine jv_bipush (v := nI 8) dX8_init_187 (by decide +kernel) ?_
  refine al_i dX8_init_189 rfl (by decide +kernel) (uz.up hu (show 138 ≤ 1341 by decide)) ?_
  refine al_put (ci := 8) (k := 23) rfl inX8 tyX8_ok nmX8 (by decide) (by decide +kernel) rfl (fun b => ⟨rfl, rfl⟩) rfl rfl lk_8_69 dX8_init_191 rfl (by decide) (by decide) rfl (by decide +kernel) ?_
  refine jv_aload_n dX8_init_194 rfl ?_
  refine jv_bipush (v := nI 8) dX8_init_195 (by decide +kernel) ?_
  refine al_i dX8_init_197 rfl (by decide +kernel) (uz.up hu (show 138 ≤ 1342 by decide)) ?_
  refine al_put (ci := 8) (k := 24) rfl inX8 tyX8_ok nmX8 (by decide) (by decide +kernel) rfl (fun b => ⟨rfl, rfl⟩) rfl rfl lk_8_72 dX8_init_199 rfl (by decide) (by decide) rfl (by decide +kernel) ?_
  refine jv_aload_n dX8_init_202 rfl ?_
  refine jv_bipush (v := nI 12) dX8_init_203 (by decide +kernel) ?_
  refine al_i dX8_init_205 rfl (by decide +kernel) (uz.up hu (show 138 ≤ 1343 by decide)) ?_
  refine al_put (ci := 8) (k := 29) rfl inX8 tyX8_ok nmX8 (by decide) (by decide +kernel) rfl (fun b => ⟨rfl, rfl⟩) rfl rfl lk_8_75 dX8_init_207 rfl (by decide) (by decide) rfl (by decide +kernel) ?_
  refine jv_aload_n dX8_init_210 rfl ?_
  refine jv_bipush (v := nI 8) dX8_init_211 (by decide +kernel) ?_
  refine al_i dX8_init_213 rfl (by decide +kernel) (uz.up hu (show 138 ≤ 1344 by decide)) ?_
  refine al_put (ci := 8) (k := 30) rfl inX8 tyX8_ok nmX8 (by decide) (by decide +kernel) rfl (fun b => ⟨rfl, rfl⟩) rfl rfl lk_8_78 dX8_init_215 rfl (by decide) (by decide) rfl (by decide +kernel) ?_
  refine jv_aload_n dX8_init_218 rfl ?_
  refine jv_bipush (v := nI 9) dX8_init_219 (by decide +kernel) ?_
  refine al_i dX8_init_221 rfl (by decide +kernel) (uz.up hu (show 138 ≤ 1345 by decide)) ?_
  refine al_put (ci := 8) (k := 31) rfl inX8 tyX8_ok nmX8 (by decide) (by decide +kernel) rfl (fun b => ⟨rfl, rfl⟩) rfl rfl lk_8_81 dX8_init_223 rfl (by decide) (by decide) rfl (by decide +kernel) ?_
  refine jv_aload_n dX8_init_226 rfl ?_
  refine jv_iconst (v := nI 2) dX8_init_227 (by decide +kernel) ?_
  refine jv_iconst (v := nI 4) dX8_init_228 (by decide +kernel) ?_
  refine al_m2 (N := 2) (M := 4) (lw_ix 765 (by decide +kernel) (by decide +kernel)) dX8_init_229 rfl (rg_all (by decide +kernel)) (by decide +kernel) (List.forall_mem_cons.mpr ⟨by decide, (fun p hp => by have := hps p hp; omega)⟩) (uz.up hu (show 138 ≤ 1346 by decide)) (rg_all (by decide +kernel)) ?_
  refine al_put (ci := 8) (k := 32) rfl inX8 tyX8_ok nmX8 (by decide) (by decide +kernel) rfl (fun b => ⟨rfl, rfl⟩) rfl rfl lk_8_84 dX8_init_233 rfl (by decide) (by decide) rfl (by decide +kernel) ?_
  refine jv_aload_n dX8_init_236 rfl ?_
  refine jv_bipush (v := nI 8) dX8_init_237 (by decide +kernel) ?_
  refine jv_bipush (v := nI 24) dX8_init_239 (by decide +kernel) ?_
  refine al_m2 (N := 8) (M := 24) (lw_ix 765 (by decide +kernel) (by decide +kernel)) dX8_init_241 rfl (rg_all (by decide +kernel)) (by decide +kernel) (List.forall_mem_cons.mpr ⟨by decide, (fun p hp => by have := hps p hp; omega)⟩) (uz.up hu (show 138 ≤ 1349 by decide)) (rg_all (by decide +kernel)) ?_
  refine al_put (ci := 8) (k := 33) rfl inX8 tyX8_ok nmX8 (by decide) (by decide +kernel) rfl (fun b => ⟨rfl, rfl⟩) rfl rfl lk_8_87 dX8_init_245 rfl (by decide) (by decide) rfl (by decide +kernel) ?_
  refine jv_aload_n dX8_init_248 rfl ?_
  refine jv_bipush (v := nI 8) dX8_init_249 (by decide +kernel) ?_
  refine jv_sipush (v := nI 192) dX8_init_251 (by decide +kernel) ?_
  refine al_m2 (N := 8) (M := 192) (lw_ix 765 (by decide +kernel) (by decide +kernel)) dX8_init_254 rfl (rg_all (by decide +kernel)) (by decide +kernel) (List.forall_mem_cons.mpr ⟨by decide, (fun p hp => by have := hps p hp; omega)⟩) (uz.up hu (show 138 ≤ 1358 by decide)) (rg_all (by decide +kernel)) ?_
  refine al_put (ci := 8) (k := 34) rfl inX8 tyX8_ok nmX8 (by decide) (by decide +kernel) rfl (fun b => ⟨rfl, rfl⟩) rfl rfl lk_8_90 dX8_init_258 rfl (by decide) (by decide) rfl (by decide +kernel) ?_
  refine jv_aload_n dX8_init_261 rfl ?_
  refine jv_bipush (v := nI 12) dX8_init_262 (by decide +kernel) ?_
  refine jv_sipush (v := nI 400) dX8_init_264 (by decide +kernel) ?_
  refine al_m2 (N := 12) (M := 400) (lw_ix 765 (by decide +kernel) (by decide +kernel)) dX8_init_267 rfl (rg_all (by decide +kernel)) (by decide +kernel) (List.forall_mem_cons.mpr ⟨by decide, (fun p hp => by have := hps p hp; omega)⟩) (uz.up hu (show 138 ≤ 1367 by decide)) (rg_all (by decide +kernel)) ?_
  refine al_put (ci := 8) (k := 35) rfl inX8 tyX8_ok nmX8 (by decide) (by decide +kernel) rfl (fun b => ⟨rfl, rfl⟩) rfl rfl lk_8_93 dX8_init_271 rfl (by decide) (by decide) rfl (by decide +kernel) ?_
  refine jv_aload_n dX8_init_274 rfl ?_
  refine jv_iconst (v := nI 2) dX8_init_275 (by decide +kernel) ?_
  refine jv_sipush (v := nI 192) dX8_init_276 (by decide +kernel) ?_
  refine jv_bipush (v := nI 12) dX8_init_279 (by decide +kernel) ?_
  refine al_m3 (N := 2) (M := 192) (L := 12) (lw_ix 766 (by decide +kernel) (by decide +kernel)) dX8_init_281 rfl (rg_all (by decide +kernel)) (kd3 (by decide +kernel)) (by decide +kernel) (List.forall_mem_cons.mpr ⟨by decide, (fun p hp => by have := hps p hp; omega)⟩) (uz.up hu (show 138 ≤ 1380 by decide)) (rg_all (by decide +kernel)) (kd3 (by decide +kernel)) ?_
  refine al_put (ci := 8) (k := 36) rfl inX8 tyX8_ok nmX8 (by decide) (by decide +kernel) rfl (fun b => ⟨rfl, rfl⟩) rfl rfl lk_8_98 dX8_init_285 rfl (by decide) (by decide) rfl (by decide +kernel) ?_
  refine jv_aload_n dX8_init_288 rfl ?_
  refine jv_iconst (v := nI 2) dX8_init_289 (by decide +kernel) ?_
  refine jv_sipush (v := nI 192) dX8_init_290 (by decide +kernel) ?_
  refine jv_bipush (v := nI 8) dX8_init_293 (by decide +kernel) ?_
  refine al_m3 (N := 2) (M := 192) (L := 8) (lw_ix 766 (by decide +kernel) (by decide +kernel)) dX8_init_295 rfl (rg_all (by decide +kernel)) (kd3 (by decide +kernel)) (by decide +kernel) (List.forall_mem_cons.mpr ⟨by decide, (fun p hp => by have := hps p hp; omega)⟩) (uz.up hu (show 138 ≤ 1767 by decide)) (rg_all (by decide +kernel)) (kd3 (by decide +kernel)) ?_
  refine al_put (ci := 8) (k := 37) rfl inX8 tyX8_ok nmX8 (by decide) (by decide +kernel) rfl (fun b => ⟨rfl, rfl⟩) rfl rfl lk_8_101 dX8_init_299 rfl (by decide) (by decide) rfl (by decide +kernel) ?_
  refine jv_aload_n dX8_init_302 rfl ?_
  refine jv_iconst (v := nI 2) dX8_init_303 (by decide +kernel) ?_
  refine jv_sipush (v := nI 400) dX8_init_304 (by decide +kernel) ?_
  refine jv_bipush (v := nI 12) dX8_init_307 (by decide +kernel) ?_
  refine al_m3 (N := 2) (M := 400) (L := 12) (lw_ix 766 (by decide +kernel) (by decide +kernel)) dX8_init_309 rfl (rg_all (by decide +kernel)) (kd3 (by decide +kernel)) (by decide +kernel) (List.forall_mem_cons.mpr ⟨by decide, (fun p hp => by have := hps p hp; omega)⟩) (uz.up hu (show 138 ≤ 2154 by decide)) (rg_all (by decide +kernel)) (kd3 (by decide +kernel)) ?_
  refine al_put (ci := 8) (k := 38) rfl inX8 tyX8_ok nmX8 (by decide) (by decide +kernel) rfl (fun b => ⟨rfl, rfl⟩) rfl rfl lk_8_104 dX8_init_313 rfl (by decide) (by decide) rfl (by decide +kernel) ?_
  refine jv_aload_n dX8_init_316 rfl ?_
  refine jv_iconst (v := nI 2) dX8_init_317 (by decide +kernel) ?_
  refine jv_sipush (v := nI 400) dX8_init_318 (by decide +kernel) ?_
  refine jv_bipush (v := nI 8) dX8_init_321 (by decide +kernel) ?_
  refine al_m3 (N := 2) (M := 400) (L := 8) (lw_ix 766 (by decide +kernel) (by decide +kernel)) dX8_init_323 rfl (rg_all (by decide +kernel)) (kd3 (by decide +kernel)) (by decide +kernel) (List.forall_mem_cons.mpr ⟨by decide, (fun p hp => by have := hps p hp; omega)⟩) (uz.up hu (show 138 ≤ 2957 by decide)) (rg_all (by decide +kernel)) (kd3 (by decide +kernel)) ?_
  refine al_put (ci := 8) (k := 39) rfl inX8 tyX8_ok nmX8 (by decide) (by decide +kernel) rfl (fun b => ⟨rfl, rfl⟩) rfl rfl lk_8_107 dX8_init_327 rfl (by decide) (by decide) rfl (by decide +kernel) ?_
  refine jv_aload_n dX8_init_330 rfl ?_
  refine jv_iconst (v := nI 2) dX8_init_331 (by decide +kernel) ?_
  refine jv_bipush (v := nI 24) dX8_init_332 (by decide +kernel) ?_
  refine al_m2 (N := 2) (M := 24) (lw_ix 765 (by decide +kernel) (by decide +kernel)) dX8_init_334 rfl (rg_all (by decide +kernel)) (by decide +kernel) (List.forall_mem_cons.mpr ⟨by decide, (fun p hp => by have := hps p hp; omega)⟩) (uz.up hu (show 138 ≤ 3760 by decide)) (rg_all (by decide +kernel)) ?_
  refine al_put (ci := 8) (k := 40) rfl inX8 tyX8_ok nmX8 (by decide) (by decide +kernel) rfl (fun b => ⟨rfl, rfl⟩) rfl rfl lk_8_110 dX8_init_338 rfl (by decide) (by decide) rfl (by decide +kernel) ?_
  refine jv_aload_n dX8_init_341 rfl ?_
  refine jv_iconst (v := nI 4) dX8_init_342 (by decide +kernel) ?_
  refine al_i dX8_init_343 rfl (by decide +kernel) (uz.up hu (show 138 ≤ 3763 by decide)) ?_
  refine jv_dup dX8_init_345 rfl ?_
  refine jv_iconst (v := nI 0) dX8_init_346 (by decide +kernel) ?_
  refine jv_iconst (v := -1) dX8_init_347 (by decide +kernel) ?_
  refine al_ist (k := 0) dX8_init_348 rfl (by decide) (by decide) ?_
  refine jv_dup dX8_init_349 rfl ?_
  refine jv_iconst (v := nI 1) dX8_init_350 (by decide +kernel) ?_
  refine jv_iconst (v := -1) dX8_init_351 (by decide +kernel) ?_
  refine al_ist (k := 1) dX8_init_352 rfl (by decide) (by decide) ?_
  refine jv_dup dX8_init_353 rfl ?_
  refine jv_iconst (v := nI 2) dX8_init_354 (by decide +kernel) ?_
  refine jv_iconst (v := -1) dX8_init_355 (by decide +kernel) ?_
  refine al_ist (k := 2) dX8_init_356 rfl (by decide) (by decide) ?_
  refine jv_dup dX8_init_357 rfl ?_
  refine jv_iconst (v := nI 3) dX8_init_358 (by decide +kernel) ?_
  refine jv_iconst (v := -1) dX8_init_359 (by decide +kernel) ?_
  refine al_ist (k := 3) dX8_init_360 rfl (by decide) (by decide) ?_
  refine al_put (ci := 8) (k := 44) rfl inX8 tyX8_ok nmX8 (by decide) (by decide +kernel) rfl (fun b => ⟨rfl, rfl⟩) rfl rfl lk_8_113 dX8_init_361 rfl (by decide) (by decide) rfl (by decide +kernel) ?_
  refine jv_aload_n dX8_init_364 rfl ?_
  refine jv_iconst (v := nI 4) dX8_init_365 (by decide +kernel) ?_
  refine al_i dX8_init_366 rfl (by decide +kernel) (uz.jw (uz.jw (uz.jw (uz.jw (uz.up hu (show 138 ≤ 3764 by decide)) (by decide)) (by decide)) (by decide)) (by decide)) ?_
  refine al_put (ci := 8) (k := 45) rfl inX8 tyX8_ok nmX8 (by decide) (by decide +kernel) rfl (fun b => ⟨rfl, rfl⟩) rfl rfl lk_8_116 dX8_init_368 rfl (by decide) (by decide) rfl (by decide +kernel) ?_
  refine jv_aload_n dX8_init_371 rfl ?_
  refine jv_iconst (v := nI 4) dX8_init_372 (by decide +kernel) ?_
  refine jv_bipush (v := nI 40) dX8_init_373 (by decide +kernel) ?_
  refine al_m2 (N := 4) (M := 40) (lw_ix 765 (by decide +kernel) (by decide +kernel)) dX8_init_375 rfl (rg_all (by decide +kernel)) (by decide +kernel) (List.forall_mem_cons.mpr ⟨by decide, (fun p hp => by have := hps p hp; omega)⟩) (uz.up (uz.jw (uz.jw (uz.jw (uz.jw (uz.up hu (show 138 ≤ 3764 by decide)) (by decide)) (by decide)) (by decide)) (by decide)) (show 3764 ≤ 3765 by decide)) (rg_all (by decide +kernel)) ?_
  refine al_put (ci := 8) (k := 46) rfl inX8 tyX8_ok nmX8 (by decide) (by decide +kernel) rfl (fun b => ⟨rfl, rfl⟩) rfl rfl lk_8_119 dX8_init_379 rfl (by decide) (by decide) rfl (by decide +kernel) ?_
  refine jv_aload_n dX8_init_382 rfl ?_
  refine jv_bipush (v := nI 40) dX8_init_383 (by decide +kernel) ?_
  refine al_i dX8_init_385 rfl (by decide +kernel) (uz.up (uz.jw (uz.jw (uz.jw (uz.jw (uz.up hu (show 138 ≤ 3764 by decide)) (by decide)) (by decide)) (by decide)) (by decide)) (show 3764 ≤ 3770 by decide)) ?_
  refine al_put (ci := 8) (k := 47) rfl inX8 tyX8_ok nmX8 (by decide) (by decide +kernel) rfl (fun b => ⟨rfl, rfl⟩) rfl rfl lk_8_122 dX8_init_387 rfl (by decide) (by decide) rfl (by decide +kernel) ?_
  refine al_done (by decide) (fun p hp => by have := hps p hp; omega) (by decide +kernel) ?_
  exact al_ret dX8_init_390 rfl rfl
