/-! constructors -/
theorem dvX0 : ∀ k, k < jnf 0 → defaultValue (tyX0 k) = if jfr 0 k = true then .null else .int 0 := by
  intro k hk
  have hk : k < 5 := hk
  rcases (show k = 0 ∨ k = 1 ∨ k = 2 ∨ k = 3 ∨ k = 4 by omega) with rfl | rfl | rfl | rfl | rfl <;> rfl
theorem dvX1 : ∀ k, k < jnf 1 → defaultValue (tyX1 k) = if jfr 1 k = true then .null else .int 0 := by
  intro k hk
  have hk : k < 8 := hk
  rcases (show k = 0 ∨ k = 1 ∨ k = 2 ∨ k = 3 ∨ k = 4 ∨ k = 5 ∨ k = 6 ∨ k = 7 by omega) with rfl | rfl | rfl | rfl | rfl | rfl | rfl | rfl <;> rfl
theorem dvX2 : ∀ k, k < jnf 2 → defaultValue (tyX2 k) = if jfr 2 k = true then .null else .int 0 := by
  intro k hk
  have hk : k < 13 := hk
  rcases (show k = 0 ∨ k = 1 ∨ k = 2 ∨ k = 3 ∨ k = 4 ∨ k = 5 ∨ k = 6 ∨ k = 7 ∨ k = 8 ∨ k = 9 ∨ k = 10 ∨ k = 11 ∨ k = 12 by omega) with rfl | rfl | rfl | rfl | rfl | rfl | rfl | rfl | rfl | rfl | rfl | rfl | rfl <;> rfl
theorem dvX3 : ∀ k, k < jnf 3 → defaultValue (tyX3 k) = if jfr 3 k = true then .null else .int 0 := by
  intro k hk
  have hk : k < 3 := hk
  rcases (show k = 0 ∨ k = 1 ∨ k = 2 by omega) with rfl | rfl | rfl <;> rfl
theorem dvX4 : ∀ k, k < jnf 4 → defaultValue (tyX4 k) = if jfr 4 k = true then .null else .int 0 := by
  intro k hk
  have hk : k < 5 := hk
  rcases (show k = 0 ∨ k = 1 ∨ k = 2 ∨ k = 3 ∨ k = 4 by omega) with rfl | rfl | rfl | rfl | rfl <;> rfl
theorem dvX5 : ∀ k, k < jnf 5 → defaultValue (tyX5 k) = if jfr 5 k = true then .null else .int 0 := by
  intro k hk
  have hk : k < 3 := hk
  rcases (show k = 0 ∨ k = 1 ∨ k = 2 by omega) with rfl | rfl | rfl <;> rfl
theorem dvX6 : ∀ k, k < jnf 6 → defaultValue (tyX6 k) = if jfr 6 k = true then .null else .int 0 := by
  intro k hk
  have hk : k < 4 := hk
  rcases (show k = 0 ∨ k = 1 ∨ k = 2 ∨ k = 3 by omega) with rfl | rfl | rfl | rfl <;> rfl
theorem dvX7 : ∀ k, k < jnf 7 → defaultValue (tyX7 k) = if jfr 7 k = true then .null else .int 0 := by
  intro k hk
  have hk : k < 7 := hk
  rcases (show k = 0 ∨ k = 1 ∨ k = 2 ∨ k = 3 ∨ k = 4 ∨ k = 5 ∨ k = 6 by omega) with rfl | rfl | rfl | rfl | rfl | rfl | rfl <;> rfl
theorem dvX8 : ∀ k, k < jnf 8 → defaultValue (tyX8 k) = if jfr 8 k = true then .null else .int 0 := by
  intro k hk
  have hk : k < 48 := hk
  rcases (show k = 0 ∨ k = 1 ∨ k = 2 ∨ k = 3 ∨ k = 4 ∨ k = 5 ∨ k = 6 ∨ k = 7 ∨ k = 8 ∨ k = 9 ∨ k = 10 ∨ k = 11 ∨ k = 12 ∨ k = 13 ∨ k = 14 ∨ k = 15 ∨ k = 16 ∨ k = 17 ∨ k = 18 ∨ k = 19 ∨ k = 20 ∨ k = 21 ∨ k = 22 ∨ k = 23 ∨ k = 24 ∨ k = 25 ∨ k = 26 ∨ k = 27 ∨ k = 28 ∨ k = 29 ∨ k = 30 ∨ k = 31 ∨ k = 32 ∨ k = 33 ∨ k = 34 ∨ k = 35 ∨ k = 36 ∨ k = 37 ∨ k = 38 ∨ k = 39 ∨ k = 40 ∨ k = 41 ∨ k = 42 ∨ k = 43 ∨ k = 44 ∨ k = 45 ∨ k = 46 ∨ k = 47 by omega) with rfl | rfl | rfl | rfl | rfl | rfl | rfl | rfl | rfl | rfl | rfl | rfl | rfl | rfl | rfl | rfl | rfl | rfl | rfl | rfl | rfl | rfl | rfl | rfl | rfl | rfl | rfl | rfl | rfl | rfl | rfl | rfl | rfl | rfl | rfl | rfl | rfl | rfl | rfl | rfl | rfl | rfl | rfl | rfl | rfl | rfl | rfl | rfl <;> rfl
theorem ci_7_9 : jcIN RX7 9 YX2_init 0 "LinkRouter" := ⟨⟨(lw_ix 88 (by decide +kernel) (by decide +kernel)), (lw_ix 64 (by decide +kernel) (by decide +kernel)), by decide +kernel, by decide +kernel, by decide +kernel⟩, rfl, rfl, (lw_nx 86 (by decide +kernel) (by decide +kernel)), (lw_ix 87 (by decide +kernel) (by decide +kernel))⟩
theorem ci_2_11 : jcIN RX2 11 YX1_init 0 "LinkRouter" := ⟨⟨(lw_ix 94 (by decide +kernel) (by decide +kernel)), (lw_ix 65 (by decide +kernel) (by decide +kernel)), by decide +kernel, by decide +kernel, by decide +kernel⟩, rfl, rfl, (lw_nx 92 (by decide +kernel) (by decide +kernel)), (lw_ix 93 (by decide +kernel) (by decide +kernel))⟩
theorem k_1_2 {E : JE} {ps : List (Nat × Nat)} {u : JM} (hps : ∀ p ∈ ps, p.1 < 2) (hu : uz 3 u) : JCr E 3 10 1 YX1_init [.ref 2] ((2, 0) :: ps) u ps u := by
  refine JC.ofV (g := (3, RR 3 ((2, 0) :: ps), u)) (by decide +kernel) (by decide) (jcat1 rfl) ?_
  show JVr E 3 10 1 YX1_init _ 0 [some (.ref 2)] [] 3 ((2, 0) :: ps) u
  refine jv_aload_n dX1_init_0 rfl ?_
  refine jv_objInit ⟨(lw_ix 95 (by decide +kernel) (by decide +kernel)), (lw_ix 82 (by decide +kernel) (by decide +kernel)), (lw_ix 83 (by decide +kernel) (by decide +kernel))⟩ dX1_init_1 (by decide) (by decide) ?_
  refine jv_aload_n dX1_init_4 rfl ?_
  refine jv_bipush (v := nI 12) dX1_init_5 (by decide +kernel) ?_
  refine al_i dX1_init_7 rfl (by decide +kernel) hu ?_
  refine al_put (ci := 1) (k := 1) rfl inX1 tyX1_ok nmX1 (by decide) (by decide +kernel) rfl (fun b => ⟨rfl, rfl⟩) rfl rfl lk_1_9 dX1_init_9 rfl (by decide) (by decide) rfl (by decide +kernel) ?_
  refine jv_aload_n dX1_init_12 rfl ?_
  refine jv_bipush (v := nI 12) dX1_init_13 (by decide +kernel) ?_
  refine al_i dX1_init_15 rfl (by decide +kernel) (uz.up hu (show 3 ≤ 4 by decide)) ?_
  refine al_put (ci := 1) (k := 2) rfl inX1 tyX1_ok nmX1 (by decide) (by decide +kernel) rfl (fun b => ⟨rfl, rfl⟩) rfl rfl lk_1_15 dX1_init_17 rfl (by decide) (by decide) rfl (by decide +kernel) ?_
  refine jv_aload_n dX1_init_20 rfl ?_
  refine jv_bipush (v := nI 12) dX1_init_21 (by decide +kernel) ?_
  refine al_i dX1_init_23 rfl (by decide +kernel) (uz.up hu (show 3 ≤ 5 by decide)) ?_
  refine al_put (ci := 1) (k := 3) rfl inX1 tyX1_ok nmX1 (by decide) (by decide +kernel) rfl (fun b => ⟨rfl, rfl⟩) rfl rfl lk_1_18 dX1_init_25 rfl (by decide) (by decide) rfl (by decide +kernel) ?_
  refine jv_aload_n dX1_init_28 rfl ?_
  refine jv_bipush (v := nI 12) dX1_init_29 (by decide +kernel) ?_
  refine al_i dX1_init_31 rfl (by decide +kernel) (uz.up hu (show 3 ≤ 6 by decide)) ?_
  refine al_put (ci := 1) (k := 4) rfl inX1 tyX1_ok nmX1 (by decide) (by decide +kernel) rfl (fun b => ⟨rfl, rfl⟩) rfl rfl lk_1_21 dX1_init_33 rfl (by decide) (by decide) rfl (by decide +kernel) ?_
  refine jv_aload_n dX1_init_36 rfl ?_
  refine jv_bipush (v := nI 12) dX1_init_37 (by decide +kernel) ?_
  refine al_i dX1_init_39 rfl (by decide +kernel) (uz.up hu (show 3 ≤ 7 by decide)) ?_
  refine al_put (ci := 1) (k := 5) rfl inX1 tyX1_ok nmX1 (by decide) (by decide +kernel) rfl (fun b => ⟨rfl, rfl⟩) rfl rfl lk_1_24 dX1_init_41 rfl (by decide) (by decide) rfl (by decide +kernel) ?_
  refine jv_aload_n dX1_init_44 rfl ?_
  refine jv_bipush (v := nI 12) dX1_init_45 (by decide +kernel) ?_
  refine al_b dX1_init_47 rfl (by decide +kernel) (uz.up hu (show 3 ≤ 8 by decide)) ?_
  refine al_put (ci := 1) (k := 6) rfl inX1 tyX1_ok nmX1 (by decide) (by decide +kernel) rfl (fun b => ⟨rfl, rfl⟩) rfl rfl lk_1_27 dX1_init_49 rfl (by decide) (by decide) rfl (by decide +kernel) ?_
  refine jv_aload_n dX1_init_52 rfl ?_
  refine jv_bipush (v := nI 8) dX1_init_53 (by decide +kernel) ?_
  refine al_i dX1_init_55 rfl (by decide +kernel) (uz.up hu (show 3 ≤ 9 by decide)) ?_
  refine al_put (ci := 1) (k := 7) rfl inX1 tyX1_ok nmX1 (by decide) (by decide +kernel) rfl (fun b => ⟨rfl, rfl⟩) rfl rfl lk_1_31 dX1_init_57 rfl (by decide) (by decide) rfl (by decide +kernel) ?_
  refine al_done (by decide) (fun p hp => by have := hps p hp; omega) (by decide +kernel) ?_
  exact al_ret dX1_init_60 rfl rfl
theorem ci_2_20 : jcI RX2 20 YX0_init 1 := ⟨⟨(lw_ix 140 (by decide +kernel) (by decide +kernel)), (lw_ix 66 (by decide +kernel) (by decide +kernel)), by decide +kernel, by decide +kernel, by decide +kernel⟩, rfl, rfl, (lw_ix 138 (by decide +kernel) (by decide +kernel)), (lw_ix 139 (by decide +kernel) (by decide +kernel))⟩
theorem k_0_10 {E : JE} {ps : List (Nat × Nat)} {u : JM} (hps : ∀ p ∈ ps, p.1 < 10) (hu : uz 11 u) : JCr E 11 16 1 YX0_init [.ref 10, .int (nI 192)] ((10, 0) :: ps) u ps u := by
  refine JC.ofV (g := (11, RR 11 ((10, 0) :: ps), u)) (by decide +kernel) (by decide) (jcat1 rfl) ?_
  show JVr E 11 16 1 YX0_init _ 0 [some (.ref 10), some (.int (nI 192))] [] 11 ((10, 0) :: ps) u
  refine jv_aload_n dX0_init_0 rfl ?_
  refine jv_objInit ⟨(lw_ix 141 (by decide +kernel) (by decide +kernel)), (lw_ix 82 (by decide +kernel) (by decide +kernel)), (lw_ix 83 (by decide +kernel) (by decide +kernel))⟩ dX0_init_1 (by decide) (by decide) ?_
  refine jv_aload_n dX0_init_4 rfl ?_
  refine jv_iload_n dX0_init_5 rfl ?_
  refine al_i dX0_init_6 rfl (by decide +kernel) hu ?_
  refine al_put (ci := 0) (k := 0) rfl inX0 tyX0_ok nmX0 (by decide) (by decide +kernel) rfl (fun b => ⟨rfl, rfl⟩) rfl rfl lk_0_9 dX0_init_8 rfl (by decide) (by decide) rfl (by decide +kernel) ?_
  refine jv_aload_n dX0_init_11 rfl ?_
  refine jv_iload_n dX0_init_12 rfl ?_
  refine al_i dX0_init_13 rfl (by decide +kernel) (uz.up hu (show 11 ≤ 12 by decide)) ?_
  refine al_put (ci := 0) (k := 1) rfl inX0 tyX0_ok nmX0 (by decide) (by decide +kernel) rfl (fun b => ⟨rfl, rfl⟩) rfl rfl lk_0_15 dX0_init_15 rfl (by decide) (by decide) rfl (by decide +kernel) ?_
  refine jv_aload_n dX0_init_18 rfl ?_
  refine jv_iload_n dX0_init_19 rfl ?_
  refine al_i dX0_init_20 rfl (by decide +kernel) (uz.up hu (show 11 ≤ 13 by decide)) ?_
  refine al_put (ci := 0) (k := 2) rfl inX0 tyX0_ok nmX0 (by decide) (by decide +kernel) rfl (fun b => ⟨rfl, rfl⟩) rfl rfl lk_0_18 dX0_init_22 rfl (by decide) (by decide) rfl (by decide +kernel) ?_
  refine jv_aload_n dX0_init_25 rfl ?_
  refine jv_iload_n dX0_init_26 rfl ?_
  refine jv_bipush (v := nI 12) dX0_init_27 (by decide +kernel) ?_
  refine jv_imul dX0_init_29 ?_
  refine al_i dX0_init_30 rfl (by decide +kernel) (uz.up hu (show 11 ≤ 14 by decide)) ?_
  refine al_put (ci := 0) (k := 3) rfl inX0 tyX0_ok nmX0 (by decide) (by decide +kernel) rfl (fun b => ⟨rfl, rfl⟩) rfl rfl lk_0_21 dX0_init_32 rfl (by decide) (by decide) rfl (by decide +kernel) ?_
  refine jv_aload_n dX0_init_35 rfl ?_
  refine jv_iload_n dX0_init_36 rfl ?_
  refine jv_bipush (v := nI 8) dX0_init_37 (by decide +kernel) ?_
  refine jv_imul dX0_init_39 ?_
  refine al_i dX0_init_40 rfl (by decide +kernel) (uz.up hu (show 11 ≤ 15 by decide)) ?_
  refine al_put (ci := 0) (k := 4) rfl inX0 tyX0_ok nmX0 (by decide) (by decide +kernel) rfl (fun b => ⟨rfl, rfl⟩) rfl rfl lk_0_24 dX0_init_42 rfl (by decide) (by decide) rfl (by decide +kernel) ?_
  refine al_done (by decide) (fun p hp => by have := hps p hp; omega) (by decide +kernel) ?_
  exact al_ret dX0_init_45 rfl rfl
theorem k_0_16 {E : JE} {ps : List (Nat × Nat)} {u : JM} (hps : ∀ p ∈ ps, p.1 < 16) (hu : uz 17 u) : JCr E 17 22 1 YX0_init [.ref 16, .int (nI 192)] ((16, 0) :: ps) u ps u := by
  refine JC.ofV (g := (17, RR 17 ((16, 0) :: ps), u)) (by decide +kernel) (by decide) (jcat1 rfl) ?_
  show JVr E 17 22 1 YX0_init _ 0 [some (.ref 16), some (.int (nI 192))] [] 17 ((16, 0) :: ps) u
  refine jv_aload_n dX0_init_0 rfl ?_
  refine jv_objInit ⟨(lw_ix 141 (by decide +kernel) (by decide +kernel)), (lw_ix 82 (by decide +kernel) (by decide +kernel)), (lw_ix 83 (by decide +kernel) (by decide +kernel))⟩ dX0_init_1 (by decide) (by decide) ?_
  refine jv_aload_n dX0_init_4 rfl ?_
  refine jv_iload_n dX0_init_5 rfl ?_
  refine al_i dX0_init_6 rfl (by decide +kernel) hu ?_
  refine al_put (ci := 0) (k := 0) rfl inX0 tyX0_ok nmX0 (by decide) (by decide +kernel) rfl (fun b => ⟨rfl, rfl⟩) rfl rfl lk_0_9 dX0_init_8 rfl (by decide) (by decide) rfl (by decide +kernel) ?_
  refine jv_aload_n dX0_init_11 rfl ?_
  refine jv_iload_n dX0_init_12 rfl ?_
  refine al_i dX0_init_13 rfl (by decide +kernel) (uz.up hu (show 17 ≤ 18 by decide)) ?_
  refine al_put (ci := 0) (k := 1) rfl inX0 tyX0_ok nmX0 (by decide) (by decide +kernel) rfl (fun b => ⟨rfl, rfl⟩) rfl rfl lk_0_15 dX0_init_15 rfl (by decide) (by decide) rfl (by decide +kernel) ?_
  refine jv_aload_n dX0_init_18 rfl ?_
  refine jv_iload_n dX0_init_19 rfl ?_
  refine al_i dX0_init_20 rfl (by decide +kernel) (uz.up hu (show 17 ≤ 19 by decide)) ?_
  refine al_put (ci := 0) (k := 2) rfl inX0 tyX0_ok nmX0 (by decide) (by decide +kernel) rfl (fun b => ⟨rfl, rfl⟩) rfl rfl lk_0_18 dX0_init_22 rfl (by decide) (by decide) rfl (by decide +kernel) ?_
  refine jv_aload_n dX0_init_25 rfl ?_
  refine jv_iload_n dX0_init_26 rfl ?_
  refine jv_bipush (v := nI 12) dX0_init_27 (by decide +kernel) ?_
  refine jv_imul dX0_init_29 ?_
  refine al_i dX0_init_30 rfl (by decide +kernel) (uz.up hu (show 17 ≤ 20 by decide)) ?_
  refine al_put (ci := 0) (k := 3) rfl inX0 tyX0_ok nmX0 (by decide) (by decide +kernel) rfl (fun b => ⟨rfl, rfl⟩) rfl rfl lk_0_21 dX0_init_32 rfl (by decide) (by decide) rfl (by decide +kernel) ?_
  refine jv_aload_n dX0_init_35 rfl ?_
  refine jv_iload_n dX0_init_36 rfl ?_
  refine jv_bipush (v := nI 8) dX0_init_37 (by decide +kernel) ?_
  refine jv_imul dX0_init_39 ?_
  refine al_i dX0_init_40 rfl (by decide +kernel) (uz.up hu (show 17 ≤ 21 by decide)) ?_
  refine al_put (ci := 0) (k := 4) rfl inX0 tyX0_ok nmX0 (by decide) (by decide +kernel) rfl (fun b => ⟨rfl, rfl⟩) rfl rfl lk_0_24 dX0_init_42 rfl (by decide) (by decide) rfl (by decide +kernel) ?_
  refine al_done (by decide) (fun p hp => by have := hps p hp; omega) (by decide +kernel) ?_
  exact al_ret dX0_init_45 rfl rfl
theorem k_0_27 {E : JE} {ps : List (Nat × Nat)} {u : JM} (hps : ∀ p ∈ ps, p.1 < 27) (hu : uz 28 u) : JCr E 28 33 1 YX0_init [.ref 27, .int (nI 1)] ((27, 0) :: ps) u ps u := by
  refine JC.ofV (g := (28, RR 28 ((27, 0) :: ps), u)) (by decide +kernel) (by decide) (jcat1 rfl) ?_
  show JVr E 28 33 1 YX0_init _ 0 [some (.ref 27), some (.int (nI 1))] [] 28 ((27, 0) :: ps) u
  refine jv_aload_n dX0_init_0 rfl ?_
  refine jv_objInit ⟨(lw_ix 141 (by decide +kernel) (by decide +kernel)), (lw_ix 82 (by decide +kernel) (by decide +kernel)), (lw_ix 83 (by decide +kernel) (by decide +kernel))⟩ dX0_init_1 (by decide) (by decide) ?_
  refine jv_aload_n dX0_init_4 rfl ?_
  refine jv_iload_n dX0_init_5 rfl ?_
  refine al_i dX0_init_6 rfl (by decide +kernel) hu ?_
  refine al_put (ci := 0) (k := 0) rfl inX0 tyX0_ok nmX0 (by decide) (by decide +kernel) rfl (fun b => ⟨rfl, rfl⟩) rfl rfl lk_0_9 dX0_init_8 rfl (by decide) (by decide) rfl (by decide +kernel) ?_
  refine jv_aload_n dX0_init_11 rfl ?_
  refine jv_iload_n dX0_init_12 rfl ?_
  refine al_i dX0_init_13 rfl (by decide +kernel) (uz.up hu (show 28 ≤ 29 by decide)) ?_
  refine al_put (ci := 0) (k := 1) rfl inX0 tyX0_ok nmX0 (by decide) (by decide +kernel) rfl (fun b => ⟨rfl, rfl⟩) rfl rfl lk_0_15 dX0_init_15 rfl (by decide) (by decide) rfl (by decide +kernel) ?_
  refine jv_aload_n dX0_init_18 rfl ?_
  refine jv_iload_n dX0_init_19 rfl ?_
  refine al_i dX0_init_20 rfl (by decide +kernel) (uz.up hu (show 28 ≤ 30 by decide)) ?_
  refine al_put (ci := 0) (k := 2) rfl inX0 tyX0_ok nmX0 (by decide) (by decide +kernel) rfl (fun b => ⟨rfl, rfl⟩) rfl rfl lk_0_18 dX0_init_22 rfl (by decide) (by decide) rfl (by decide +kernel) ?_
  refine jv_aload_n dX0_init_25 rfl ?_
  refine jv_iload_n dX0_init_26 rfl ?_
  refine jv_bipush (v := nI 12) dX0_init_27 (by decide +kernel) ?_
  refine jv_imul dX0_init_29 ?_
  refine al_i dX0_init_30 rfl (by decide +kernel) (uz.up hu (show 28 ≤ 31 by decide)) ?_
  refine al_put (ci := 0) (k := 3) rfl inX0 tyX0_ok nmX0 (by decide) (by decide +kernel) rfl (fun b => ⟨rfl, rfl⟩) rfl rfl lk_0_21 dX0_init_32 rfl (by decide) (by decide) rfl (by decide +kernel) ?_
  refine jv_aload_n dX0_init_35 rfl ?_
  refine jv_iload_n dX0_init_36 rfl ?_
  refine jv_bipush (v := nI 8) dX0_init_37 (by decide +kernel) ?_
  refine jv_imul dX0_init_39 ?_
  refine al_i dX0_init_40 rfl (by decide +kernel) (uz.up hu (show 28 ≤ 32 by decide)) ?_
  refine al_put (ci := 0) (k := 4) rfl inX0 tyX0_ok nmX0 (by decide) (by decide +kernel) rfl (fun b => ⟨rfl, rfl⟩) rfl rfl lk_0_24 dX0_init_42 rfl (by decide) (by decide) rfl (by decide +kernel) ?_
  refine al_done (by decide) (fun p hp => by have := hps p hp; omega) (by decide +kernel) ?_
  exact al_ret dX0_init_45 rfl rfl
theorem ci_2_52 : jcIN RX2 52 YX3_init 0 "LinkRouter" := ⟨⟨(lw_ix 174 (by decide +kernel) (by decide +kernel)), (lw_ix 67 (by decide +kernel) (by decide +kernel)), by decide +kernel, by decide +kernel, by decide +kernel⟩, rfl, rfl, (lw_nx 172 (by decide +kernel) (by decide +kernel)), (lw_ix 173 (by decide +kernel) (by decide +kernel))⟩
theorem k_3_33 {E : JE} {ps : List (Nat × Nat)} {u : JM} (hps : ∀ p ∈ ps, p.1 < 33) (hu : uz 34 u) : JCr E 34 37 1 YX3_init [.ref 33] ((33, 0) :: ps) u ps u := by
  refine JC.ofV (g := (34, RR 34 ((33, 0) :: ps), u)) (by decide +kernel) (by decide) (jcat1 rfl) ?_
  show JVr E 34 37 1 YX3_init _ 0 [some (.ref 33)] [] 34 ((33, 0) :: ps) u
  refine jv_aload_n dX3_init_0 rfl ?_
  refine jv_objInit ⟨(lw_ix 175 (by decide +kernel) (by decide +kernel)), (lw_ix 82 (by decide +kernel) (by decide +kernel)), (lw_ix 83 (by decide +kernel) (by decide +kernel))⟩ dX3_init_1 (by decide) (by decide) ?_
  refine jv_aload_n dX3_init_4 rfl ?_
  refine jv_bipush (v := nI 8) dX3_init_5 (by decide +kernel) ?_
  refine al_i dX3_init_7 rfl (by decide +kernel) hu ?_
  refine al_put (ci := 3) (k := 0) rfl inX3 tyX3_ok nmX3 (by decide) (by decide +kernel) rfl (fun b => ⟨rfl, rfl⟩) rfl rfl lk_3_9 dX3_init_9 rfl (by decide) (by decide) rfl (by decide +kernel) ?_
  refine jv_aload_n dX3_init_12 rfl ?_
  refine jv_bipush (v := nI 8) dX3_init_13 (by decide +kernel) ?_
  refine al_i dX3_init_15 rfl (by decide +kernel) (uz.up hu (show 34 ≤ 35 by decide)) ?_
  refine al_put (ci := 3) (k := 1) rfl inX3 tyX3_ok nmX3 (by decide) (by decide +kernel) rfl (fun b => ⟨rfl, rfl⟩) rfl rfl lk_3_15 dX3_init_17 rfl (by decide) (by decide) rfl (by decide +kernel) ?_
  refine jv_aload_n dX3_init_20 rfl ?_
  refine jv_bipush (v := nI 8) dX3_init_21 (by decide +kernel) ?_
  refine al_b dX3_init_23 rfl (by decide +kernel) (uz.up hu (show 34 ≤ 36 by decide)) ?_
  refine al_put (ci := 3) (k := 2) rfl inX3 tyX3_ok nmX3 (by decide) (by decide +kernel) rfl (fun b => ⟨rfl, rfl⟩) rfl rfl lk_3_18 dX3_init_25 rfl (by decide) (by decide) rfl (by decide +kernel) ?_
  refine al_done (by decide) (fun p hp => by have := hps p hp; omega) (by decide +kernel) ?_
  exact al_ret dX3_init_28 rfl rfl
theorem k_2_1 {E : JE} {ps : List (Nat × Nat)} {u : JM} (hps : ∀ p ∈ ps, p.1 < 1) (hu : uz 2 u) : JCr E 2 37 2 YX2_init [.ref 1] ((1, 0) :: ps) u ps u := by
  refine JC.ofV (g := (2, RR 2 ((1, 0) :: ps), u)) (by decide +kernel) (by decide) (jcat1 rfl) ?_
  show JVr E 2 37 2 YX2_init _ 0 [some (.ref 1)] [] 2 ((1, 0) :: ps) u
  refine jv_aload_n dX2_init_0 rfl ?_
  refine jv_objInit ⟨(lw_ix 89 (by decide +kernel) (by decide +kernel)), (lw_ix 82 (by decide +kernel) (by decide +kernel)), (lw_ix 83 (by decide +kernel) (by decide +kernel))⟩ dX2_init_1 (by decide) (by decide) ?_
  refine jv_aload_n dX2_init_4 rfl ?_
  refine al_new (ci := 1) rfl inX1 tyX1_ok ⟨(lw_ix 90 (by decide +kernel) (by decide +kernel)), (lw_ix 91 (by decide +kernel) (by decide +kernel)), (lw_ix 65 (by decide +kernel) (by decide +kernel))⟩ dvX1 dX2_init_5 rfl (by decide) (by decide) hu ?_
  refine jv_dup dX2_init_8 rfl ?_
  refine jv_callIN (as := []) (a := 2) (d' := 1) (n1 := 10) ci_2_11 dX2_init_9 rfl (by decide) (by decide) (Nat.le_of_ble_eq_true rfl) (Nat.le_of_ble_eq_true rfl) (by decide) (k_1_2 (List.forall_mem_cons.mpr ⟨by decide, (fun p hp => by have := hps p hp; omega)⟩) (uz.up hu (show 2 ≤ 3 by decide))) ?_
  rintro _ _ ⟨rfl, rfl⟩ _
  refine al_put (ci := 2) (k := 0) rfl inX2 tyX2_ok nmX2 (by decide) (by decide +kernel) rfl (fun b => ⟨rfl, rfl⟩) rfl rfl lk_2_12 dX2_init_12 rfl (by decide) (by decide) rfl (by decide +kernel) ?_
  refine jv_aload_n dX2_init_15 rfl ?_
  refine al_new (ci := 0) rfl inX0 tyX0_ok ⟨(lw_ix 136 (by decide +kernel) (by decide +kernel)), (lw_ix 137 (by decide +kernel) (by decide +kernel)), (lw_ix 66 (by decide +kernel) (by decide +kernel))⟩ dvX0 dX2_init_16 rfl (by decide) (by decide) (uz.up hu (show 2 ≤ 10 by decide)) ?_
  refine jv_dup dX2_init_19 rfl ?_
  refine jv_sipush (v := nI 192) dX2_init_20 (by decide +kernel) ?_
  refine jv_callI (as := [.int (nI 192)]) (a := 10) (d' := 1) (n1 := 16) ci_2_20 dX2_init_23 rfl (by decide) (by decide) (Nat.le_of_ble_eq_true rfl) (Nat.le_of_ble_eq_true rfl) (by decide) (k_0_10 (List.forall_mem_cons.mpr ⟨by decide, (fun p hp => by have := hps p hp; omega)⟩) (uz.up hu (show 2 ≤ 11 by decide))) ?_
  rintro _ _ ⟨rfl, rfl⟩ _
  refine al_put (ci := 2) (k := 1) rfl inX2 tyX2_ok nmX2 (by decide) (by decide +kernel) rfl (fun b => ⟨rfl, rfl⟩) rfl rfl lk_2_23 dX2_init_26 rfl (by decide) (by decide) rfl (by decide +kernel) ?_
  refine jv_aload_n dX2_init_29 rfl ?_
  refine al_new (ci := 0) rfl inX0 tyX0_ok ⟨(lw_ix 136 (by decide +kernel) (by decide +kernel)), (lw_ix 137 (by decide +kernel) (by decide +kernel)), (lw_ix 66 (by decide +kernel) (by decide +kernel))⟩ dvX0 dX2_init_30 rfl (by decide) (by decide) (uz.up hu (show 2 ≤ 16 by decide)) ?_
  refine jv_dup dX2_init_33 rfl ?_
  refine jv_sipush (v := nI 192) dX2_init_34 (by decide +kernel) ?_
  refine jv_callI (as := [.int (nI 192)]) (a := 16) (d' := 1) (n1 := 22) ci_2_20 dX2_init_37 rfl (by decide) (by decide) (Nat.le_of_ble_eq_true rfl) (Nat.le_of_ble_eq_true rfl) (by decide) (k_0_16 (List.forall_mem_cons.mpr ⟨by decide, (fun p hp => by have := hps p hp; omega)⟩) (uz.up hu (show 2 ≤ 17 by decide))) ?_
  rintro _ _ ⟨rfl, rfl⟩ _
  refine al_put (ci := 2) (k := 2) rfl inX2 tyX2_ok nmX2 (by decide) (by decide +kernel) rfl (fun b => ⟨rfl, rfl⟩) rfl rfl lk_2_27 dX2_init_40 rfl (by decide) (by decide) rfl (by decide +kernel) ?_
  refine jv_aload_n dX2_init_43 rfl ?_
  refine jv_sipush (v := nI 192) dX2_init_44 (by decide +kernel) ?_
  refine al_i dX2_init_47 rfl (by decide +kernel) (uz.up hu (show 2 ≤ 22 by decide)) ?_
  refine al_put (ci := 2) (k := 3) rfl inX2 tyX2_ok nmX2 (by decide) (by decide +kernel) rfl (fun b => ⟨rfl, rfl⟩) rfl rfl lk_2_30 dX2_init_49 rfl (by decide) (by decide) rfl (by decide +kernel) ?_
  refine jv_aload_n dX2_init_52 rfl ?_
  refine jv_sipush (v := nI 192) dX2_init_53 (by decide +kernel) ?_
  refine al_i dX2_init_56 rfl (by decide +kernel) (uz.up hu (show 2 ≤ 23 by decide)) ?_
  refine al_put (ci := 2) (k := 4) rfl inX2 tyX2_ok nmX2 (by decide) (by decide +kernel) rfl (fun b => ⟨rfl, rfl⟩) rfl rfl lk_2_34 dX2_init_58 rfl (by decide) (by decide) rfl (by decide +kernel) ?_
  refine jv_aload_n dX2_init_61 rfl ?_
  refine jv_sipush (v := nI 192) dX2_init_62 (by decide +kernel) ?_
  refine al_i dX2_init_65 rfl (by decide +kernel) (uz.up hu (show 2 ≤ 24 by decide)) ?_
  refine al_put (ci := 2) (k := 5) rfl inX2 tyX2_ok nmX2 (by decide) (by decide +kernel) rfl (fun b => ⟨rfl, rfl⟩) rfl rfl lk_2_37 dX2_init_67 rfl (by decide) (by decide) rfl (by decide +kernel) ?_
  refine jv_aload_n dX2_init_70 rfl ?_
  refine jv_sipush (v := nI 192) dX2_init_71 (by decide +kernel) ?_
  refine al_b dX2_init_74 rfl (by decide +kernel) (uz.up hu (show 2 ≤ 25 by decide)) ?_
  refine al_put (ci := 2) (k := 9) rfl inX2 tyX2_ok nmX2 (by decide) (by decide +kernel) rfl (fun b => ⟨rfl, rfl⟩) rfl rfl lk_2_40 dX2_init_76 rfl (by decide) (by decide) rfl (by decide +kernel) ?_
  refine jv_aload_n dX2_init_79 rfl ?_
  refine jv_sipush (v := nI 192) dX2_init_80 (by decide +kernel) ?_
  refine al_i dX2_init_83 rfl (by decide +kernel) (uz.up hu (show 2 ≤ 26 by decide)) ?_
  refine al_put (ci := 2) (k := 10) rfl inX2 tyX2_ok nmX2 (by decide) (by decide +kernel) rfl (fun b => ⟨rfl, rfl⟩) rfl rfl lk_2_44 dX2_init_85 rfl (by decide) (by decide) rfl (by decide +kernel) ?_
  refine jv_aload_n dX2_init_88 rfl ?_
  refine al_new (ci := 0) rfl inX0 tyX0_ok ⟨(lw_ix 136 (by decide +kernel) (by decide +kernel)), (lw_ix 137 (by decide +kernel) (by decide +kernel)), (lw_ix 66 (by decide +kernel) (by decide +kernel))⟩ dvX0 dX2_init_89 rfl (by decide) (by decide) (uz.up hu (show 2 ≤ 27 by decide)) ?_
  refine jv_dup dX2_init_92 rfl ?_
  refine jv_iconst (v := nI 1) dX2_init_93 (by decide +kernel) ?_
  refine jv_callI (as := [.int (nI 1)]) (a := 27) (d' := 1) (n1 := 33) ci_2_20 dX2_init_94 rfl (by decide) (by decide) (Nat.le_of_ble_eq_true rfl) (Nat.le_of_ble_eq_true rfl) (by decide) (k_0_27 (List.forall_mem_cons.mpr ⟨by decide, (fun p hp => by have := hps p hp; omega)⟩) (uz.up hu (show 2 ≤ 28 by decide))) ?_
  rintro _ _ ⟨rfl, rfl⟩ _
  refine al_put (ci := 2) (k := 11) rfl inX2 tyX2_ok nmX2 (by decide) (by decide +kernel) rfl (fun b => ⟨rfl, rfl⟩) rfl rfl lk_2_47 dX2_init_97 rfl (by decide) (by decide) rfl (by decide +kernel) ?_
  refine jv_aload_n dX2_init_100 rfl ?_
  refine al_new (ci := 3) rfl inX3 tyX3_ok ⟨(lw_ix 170 (by decide +kernel) (by decide +kernel)), (lw_ix 171 (by decide +kernel) (by decide +kernel)), (lw_ix 67 (by decide +kernel) (by decide +kernel))⟩ dvX3 dX2_init_101 rfl (by decide) (by decide) (uz.up hu (show 2 ≤ 33 by decide)) ?_
  refine jv_dup dX2_init_104 rfl ?_
  refine jv_callIN (as := []) (a := 33) (d' := 1) (n1 := 37) ci_2_52 dX2_init_105 rfl (by decide) (by decide) (Nat.le_of_ble_eq_true rfl) (Nat.le_of_ble_eq_true rfl) (by decide) (k_3_33 (List.forall_mem_cons.mpr ⟨by decide, (fun p hp => by have := hps p hp; omega)⟩) (uz.up hu (show 2 ≤ 34 by decide))) ?_
  rintro _ _ ⟨rfl, rfl⟩ _
  refine al_put (ci := 2) (k := 12) rfl inX2 tyX2_ok nmX2 (by decide) (by decide +kernel) rfl (fun b => ⟨rfl, rfl⟩) rfl rfl lk_2_53 dX2_init_108 rfl (by decide) (by decide) rfl (by decide +kernel) ?_
  refine al_done (by decide) (fun p hp => by have := hps p hp; omega) (by decide +kernel) ?_
  exact al_ret dX2_init_111 rfl rfl
theorem k_1_38 {E : JE} {ps : List (Nat × Nat)} {u : JM} (hps : ∀ p ∈ ps, p.1 < 38) (hu : uz 39 u) : JCr E 39 46 1 YX1_init [.ref 38] ((38, 0) :: ps) u ps u := by
  refine JC.ofV (g := (39, RR 39 ((38, 0) :: ps), u)) (by decide +kernel) (by decide) (jcat1 rfl) ?_
  show JVr E 39 46 1 YX1_init _ 0 [some (.ref 38)] [] 39 ((38, 0) :: ps) u
  refine jv_aload_n dX1_init_0 rfl ?_
  refine jv_objInit ⟨(lw_ix 95 (by decide +kernel) (by decide +kernel)), (lw_ix 82 (by decide +kernel) (by decide +kernel)), (lw_ix 83 (by decide +kernel) (by decide +kernel))⟩ dX1_init_1 (by decide) (by decide) ?_
  refine jv_aload_n dX1_init_4 rfl ?_
  refine jv_bipush (v := nI 12) dX1_init_5 (by decide +kernel) ?_
  refine al_i dX1_init_7 rfl (by decide +kernel) hu ?_
  refine al_put (ci := 1) (k := 1) rfl inX1 tyX1_ok nmX1 (by decide) (by decide +kernel) rfl (fun b => ⟨rfl, rfl⟩) rfl rfl lk_1_9 dX1_init_9 rfl (by decide) (by decide) rfl (by decide +kernel) ?_
  refine jv_aload_n dX1_init_12 rfl ?_
  refine jv_bipush (v := nI 12) dX1_init_13 (by decide +kernel) ?_
  refine al_i dX1_init_15 rfl (by decide +kernel) (uz.up hu (show 39 ≤ 40 by decide)) ?_
  refine al_put (ci := 1) (k := 2) rfl inX1 tyX1_ok nmX1 (by decide) (by decide +kernel) rfl (fun b => ⟨rfl, rfl⟩) rfl rfl lk_1_15 dX1_init_17 rfl (by decide) (by decide) rfl (by decide +kernel) ?_
  refine jv_aload_n dX1_init_20 rfl ?_
  refine jv_bipush (v := nI 12) dX1_init_21 (by decide +kernel) ?_
  refine al_i dX1_init_23 rfl (by decide +kernel) (uz.up hu (show 39 ≤ 41 by decide)) ?_
  refine al_put (ci := 1) (k := 3) rfl inX1 tyX1_ok nmX1 (by decide) (by decide +kernel) rfl (fun b => ⟨rfl, rfl⟩) rfl rfl lk_1_18 dX1_init_25 rfl (by decide) (by decide) rfl (by decide +kernel) ?_
  refine jv_aload_n dX1_init_28 rfl ?_
  refine jv_bipush (v := nI 12) dX1_init_29 (by decide +kernel) ?_
  refine al_i dX1_init_31 rfl (by decide +kernel) (uz.up hu (show 39 ≤ 42 by decide)) ?_
  refine al_put (ci := 1) (k := 4) rfl inX1 tyX1_ok nmX1 (by decide) (by decide +kernel) rfl (fun b => ⟨rfl, rfl⟩) rfl rfl lk_1_21 dX1_init_33 rfl (by decide) (by decide) rfl (by decide +kernel) ?_
  refine jv_aload_n dX1_init_36 rfl ?_
  refine jv_bipush (v := nI 12) dX1_init_37 (by decide +kernel) ?_
  refine al_i dX1_init_39 rfl (by decide +kernel) (uz.up hu (show 39 ≤ 43 by decide)) ?_
  refine al_put (ci := 1) (k := 5) rfl inX1 tyX1_ok nmX1 (by decide) (by decide +kernel) rfl (fun b => ⟨rfl, rfl⟩) rfl rfl lk_1_24 dX1_init_41 rfl (by decide) (by decide) rfl (by decide +kernel) ?_
  refine jv_aload_n dX1_init_44 rfl ?_
  refine jv_bipush (v := nI 12) dX1_init_45 (by decide +kernel) ?_
  refine al_b dX1_init_47 rfl (by decide +kernel) (uz.up hu (show 39 ≤ 44 by decide)) ?_
  refine al_put (ci := 1) (k := 6) rfl inX1 tyX1_ok nmX1 (by decide) (by decide +kernel) rfl (fun b => ⟨rfl, rfl⟩) rfl rfl lk_1_27 dX1_init_49 rfl (by decide) (by decide) rfl (by decide +kernel) ?_
  refine jv_aload_n dX1_init_52 rfl ?_
  refine jv_bipush (v := nI 8) dX1_init_53 (by decide +kernel) ?_
  refine al_i dX1_init_55 rfl (by decide +kernel) (uz.up hu (show 39 ≤ 45 by decide)) ?_
  refine al_put (ci := 1) (k := 7) rfl inX1 tyX1_ok nmX1 (by decide) (by decide +kernel) rfl (fun b => ⟨rfl, rfl⟩) rfl rfl lk_1_31 dX1_init_57 rfl (by decide) (by decide) rfl (by decide +kernel) ?_
  refine al_done (by decide) (fun p hp => by have := hps p hp; omega) (by decide +kernel) ?_
  exact al_ret dX1_init_60 rfl rfl
theorem k_0_46 {E : JE} {ps : List (Nat × Nat)} {u : JM} (hps : ∀ p ∈ ps, p.1 < 46) (hu : uz 47 u) : JCr E 47 52 1 YX0_init [.ref 46, .int (nI 192)] ((46, 0) :: ps) u ps u := by
  refine JC.ofV (g := (47, RR 47 ((46, 0) :: ps), u)) (by decide +kernel) (by decide) (jcat1 rfl) ?_
  show JVr E 47 52 1 YX0_init _ 0 [some (.ref 46), some (.int (nI 192))] [] 47 ((46, 0) :: ps) u
  refine jv_aload_n dX0_init_0 rfl ?_
  refine jv_objInit ⟨(lw_ix 141 (by decide +kernel) (by decide +kernel)), (lw_ix 82 (by decide +kernel) (by decide +kernel)), (lw_ix 83 (by decide +kernel) (by decide +kernel))⟩ dX0_init_1 (by decide) (by decide) ?_
  refine jv_aload_n dX0_init_4 rfl ?_
  refine jv_iload_n dX0_init_5 rfl ?_
  refine al_i dX0_init_6 rfl (by decide +kernel) hu ?_
  refine al_put (ci := 0) (k := 0) rfl inX0 tyX0_ok nmX0 (by decide) (by decide +kernel) rfl (fun b => ⟨rfl, rfl⟩) rfl rfl lk_0_9 dX0_init_8 rfl (by decide) (by decide) rfl (by decide +kernel) ?_
  refine jv_aload_n dX0_init_11 rfl ?_
  refine jv_iload_n dX0_init_12 rfl ?_
  refine al_i dX0_init_13 rfl (by decide +kernel) (uz.up hu (show 47 ≤ 48 by decide)) ?_
  refine al_put (ci := 0) (k := 1) rfl inX0 tyX0_ok nmX0 (by decide) (by decide +kernel) rfl (fun b => ⟨rfl, rfl⟩) rfl rfl lk_0_15 dX0_init_15 rfl (by decide) (by decide) rfl (by decide +kernel) ?_
  refine jv_aload_n dX0_init_18 rfl ?_
  refine jv_iload_n dX0_init_19 rfl ?_
  refine al_i dX0_init_20 rfl (by decide +kernel) (uz.up hu (show 47 ≤ 49 by decide)) ?_
  refine al_put (ci := 0) (k := 2) rfl inX0 tyX0_ok nmX0 (by decide) (by decide +kernel) rfl (fun b => ⟨rfl, rfl⟩) rfl rfl lk_0_18 dX0_init_22 rfl (by decide) (by decide) rfl (by decide +kernel) ?_
  refine jv_aload_n dX0_init_25 rfl ?_
  refine jv_iload_n dX0_init_26 rfl ?_
  refine jv_bipush (v := nI 12) dX0_init_27 (by decide +kernel) ?_
  refine jv_imul dX0_init_29 ?_
  refine al_i dX0_init_30 rfl (by decide +kernel) (uz.up hu (show 47 ≤ 50 by decide)) ?_
  refine al_put (ci := 0) (k := 3) rfl inX0 tyX0_ok nmX0 (by decide) (by decide +kernel) rfl (fun b => ⟨rfl, rfl⟩) rfl rfl lk_0_21 dX0_init_32 rfl (by decide) (by decide) rfl (by decide +kernel) ?_
  refine jv_aload_n dX0_init_35 rfl ?_
  refine jv_iload_n dX0_init_36 rfl ?_
  refine jv_bipush (v := nI 8) dX0_init_37 (by decide +kernel) ?_
  refine jv_imul dX0_init_39 ?_
  refine al_i dX0_init_40 rfl (by decide +kernel) (uz.up hu (show 47 ≤ 51 by decide)) ?_
  refine al_put (ci := 0) (k := 4) rfl inX0 tyX0_ok nmX0 (by decide) (by decide +kernel) rfl (fun b => ⟨rfl, rfl⟩) rfl rfl lk_0_24 dX0_init_42 rfl (by decide) (by decide) rfl (by decide +kernel) ?_
  refine al_done (by decide) (fun p hp => by have := hps p hp; omega) (by decide +kernel) ?_
  exact al_ret dX0_init_45 rfl rfl
theorem k_0_52 {E : JE} {ps : List (Nat × Nat)} {u : JM} (hps : ∀ p ∈ ps, p.1 < 52) (hu : uz 53 u) : JCr E 53 58 1 YX0_init [.ref 52, .int (nI 192)] ((52, 0) :: ps) u ps u := by
  refine JC.ofV (g := (53, RR 53 ((52, 0) :: ps), u)) (by decide +kernel) (by decide) (jcat1 rfl) ?_
  show JVr E 53 58 1 YX0_init _ 0 [some (.ref 52), some (.int (nI 192))] [] 53 ((52, 0) :: ps) u
  refine jv_aload_n dX0_init_0 rfl ?_
  refine jv_objInit ⟨(lw_ix 141 (by decide +kernel) (by decide +kernel)), (lw_ix 82 (by decide +kernel) (by decide +kernel)), (lw_ix 83 (by decide +kernel) (by decide +kernel))⟩ dX0_init_1 (by decide) (by decide) ?_
  refine jv_aload_n dX0_init_4 rfl ?_
  refine jv_iload_n dX0_init_5 rfl ?_
  refine al_i dX0_init_6 rfl (by decide +kernel) hu ?_
  refine al_put (ci := 0) (k := 0) rfl inX0 tyX0_ok nmX0 (by decide) (by decide +kernel) rfl (fun b => ⟨rfl, rfl⟩) rfl rfl lk_0_9 dX0_init_8 rfl (by decide) (by decide) rfl (by decide +kernel) ?_
  refine jv_aload_n dX0_init_11 rfl ?_
  refine jv_iload_n dX0_init_12 rfl ?_
  refine al_i dX0_init_13 rfl (by decide +kernel) (uz.up hu (show 53 ≤ 54 by decide)) ?_
  refine al_put (ci := 0) (k := 1) rfl inX0 tyX0_ok nmX0 (by decide) (by decide +kernel) rfl (fun b => ⟨rfl, rfl⟩) rfl rfl lk_0_15 dX0_init_15 rfl (by decide) (by decide) rfl (by decide +kernel) ?_
  refine jv_aload_n dX0_init_18 rfl ?_
  refine jv_iload_n dX0_init_19 rfl ?_
  refine al_i dX0_init_20 rfl (by decide +kernel) (uz.up hu (show 53 ≤ 55 by decide)) ?_
  refine al_put (ci := 0) (k := 2) rfl inX0 tyX0_ok nmX0 (by decide) (by decide +kernel) rfl (fun b => ⟨rfl, rfl⟩) rfl rfl lk_0_18 dX0_init_22 rfl (by decide) (by decide) rfl (by decide +kernel) ?_
  refine jv_aload_n dX0_init_25 rfl ?_
  refine jv_iload_n dX0_init_26 rfl ?_
  refine jv_bipush (v := nI 12) dX0_init_27 (by decide +kernel) ?_
  refine jv_imul dX0_init_29 ?_
  refine al_i dX0_init_30 rfl (by decide +kernel) (uz.up hu (show 53 ≤ 56 by decide)) ?_
  refine al_put (ci := 0) (k := 3) rfl inX0 tyX0_ok nmX0 (by decide) (by decide +kernel) rfl (fun b => ⟨rfl, rfl⟩) rfl rfl lk_0_21 dX0_init_32 rfl (by decide) (by decide) rfl (by decide +kernel) ?_
  refine jv_aload_n dX0_init_35 rfl ?_
  refine jv_iload_n dX0_init_36 rfl ?_
  refine jv_bipush (v := nI 8) dX0_init_37 (by decide +kernel) ?_
  refine jv_imul dX0_init_39 ?_
  refine al_i dX0_init_40 rfl (by decide +kernel) (uz.up hu (show 53 ≤ 57 by decide)) ?_
  refine al_put (ci := 0) (k := 4) rfl inX0 tyX0_ok nmX0 (by decide) (by decide +kernel) rfl (fun b => ⟨rfl, rfl⟩) rfl rfl lk_0_24 dX0_init_42 rfl (by decide) (by decide) rfl (by decide +kernel) ?_
  refine al_done (by decide) (fun p hp => by have := hps p hp; omega) (by decide +kernel) ?_
  exact al_ret dX0_init_45 rfl rfl
theorem k_0_63 {E : JE} {ps : List (Nat × Nat)} {u : JM} (hps : ∀ p ∈ ps, p.1 < 63) (hu : uz 64 u) : JCr E 64 69 1 YX0_init [.ref 63, .int (nI 1)] ((63, 0) :: ps) u ps u := by
  refine JC.ofV (g := (64, RR 64 ((63, 0) :: ps), u)) (by decide +kernel) (by decide) (jcat1 rfl) ?_
  show JVr E 64 69 1 YX0_init _ 0 [some (.ref 63), some (.int (nI 1))] [] 64 ((63, 0) :: ps) u
  refine jv_aload_n dX0_init_0 rfl ?_
  refine jv_objInit ⟨(lw_ix 141 (by decide +kernel) (by decide +kernel)), (lw_ix 82 (by decide +kernel) (by decide +kernel)), (lw_ix 83 (by decide +kernel) (by decide +kernel))⟩ dX0_init_1 (by decide) (by decide) ?_
  refine jv_aload_n dX0_init_4 rfl ?_
  refine jv_iload_n dX0_init_5 rfl ?_
  refine al_i dX0_init_6 rfl (by decide +kernel) hu ?_
  refine al_put (ci := 0) (k := 0) rfl inX0 tyX0_ok nmX0 (by decide) (by decide +kernel) rfl (fun b => ⟨rfl, rfl⟩) rfl rfl lk_0_9 dX0_init_8 rfl (by decide) (by decide) rfl (by decide +kernel) ?_
  refine jv_aload_n dX0_init_11 rfl ?_
  refine jv_iload_n dX0_init_12 rfl ?_
  refine al_i dX0_init_13 rfl (by decide +kernel) (uz.up hu (show 64 ≤ 65 by decide)) ?_
  refine al_put (ci := 0) (k := 1) rfl inX0 tyX0_ok nmX0 (by decide) (by decide +kernel) rfl (fun b => ⟨rfl, rfl⟩) rfl rfl lk_0_15 dX0_init_15 rfl (by decide) (by decide) rfl (by decide +kernel) ?_
  refine jv_aload_n dX0_init_18 rfl ?_
  refine jv_iload_n dX0_init_19 rfl ?_
  refine al_i dX0_init_20 rfl (by decide +kernel) (uz.up hu (show 64 ≤ 66 by decide)) ?_
  refine al_put (ci := 0) (k := 2) rfl inX0 tyX0_ok nmX0 (by decide) (by decide +kernel) rfl (fun b => ⟨rfl, rfl⟩) rfl rfl lk_0_18 dX0_init_22 rfl (by decide) (by decide) rfl (by decide +kernel) ?_
  refine jv_aload_n dX0_init_25 rfl ?_
  refine jv_iload_n dX0_init_26 rfl ?_
  refine jv_bipush (v := nI 12) dX0_init_27 (by decide +kernel) ?_
  refine jv_imul dX0_init_29 ?_
  refine al_i dX0_init_30 rfl (by decide +kernel) (uz.up hu (show 64 ≤ 67 by decide)) ?_
  refine al_put (ci := 0) (k := 3) rfl inX0 tyX0_ok nmX0 (by decide) (by decide +kernel) rfl (fun b => ⟨rfl, rfl⟩) rfl rfl lk_0_21 dX0_init_32 rfl (by decide) (by decide) rfl (by decide +kernel) ?_
  refine jv_aload_n dX0_init_35 rfl ?_
  refine jv_iload_n dX0_init_36 rfl ?_
  refine jv_bipush (v := nI 8) dX0_init_37 (by decide +kernel) ?_
  refine jv_imul dX0_init_39 ?_
  refine al_i dX0_init_40 rfl (by decide +kernel) (uz.up hu (show 64 ≤ 68 by decide)) ?_
  refine al_put (ci := 0) (k := 4) rfl inX0 tyX0_ok nmX0 (by decide) (by decide +kernel) rfl (fun b => ⟨rfl, rfl⟩) rfl rfl lk_0_24 dX0_init_42 rfl (by decide) (by decide) rfl (by decide +kernel) ?_
  refine al_done (by decide) (fun p hp => by have := hps p hp; omega) (by decide +kernel) ?_
  exact al_ret dX0_init_45 rfl rfl
theorem k_3_69 {E : JE} {ps : List (Nat × Nat)} {u : JM} (hps : ∀ p ∈ ps, p.1 < 69) (hu : uz 70 u) : JCr E 70 73 1 YX3_init [.ref 69] ((69, 0) :: ps) u ps u := by
  refine JC.ofV (g := (70, RR 70 ((69, 0) :: ps), u)) (by decide +kernel) (by decide) (jcat1 rfl) ?_
  show JVr E 70 73 1 YX3_init _ 0 [some (.ref 69)] [] 70 ((69, 0) :: ps) u
  refine jv_aload_n dX3_init_0 rfl ?_
  refine jv_objInit ⟨(lw_ix 175 (by decide +kernel) (by decide +kernel)), (lw_ix 82 (by decide +kernel) (by decide +kernel)), (lw_ix 83 (by decide +kernel) (by decide +kernel))⟩ dX3_init_1 (by decide) (by decide) ?_
  refine jv_aload_n dX3_init_4 rfl ?_
  refine jv_bipush (v := nI 8) dX3_init_5 (by decide +kernel) ?_
  refine al_i dX3_init_7 rfl (by decide +kernel) hu ?_
  refine al_put (ci := 3) (k := 0) rfl inX3 tyX3_ok nmX3 (by decide) (by decide +kernel) rfl (fun b => ⟨rfl, rfl⟩) rfl rfl lk_3_9 dX3_init_9 rfl (by decide) (by decide) rfl (by decide +kernel) ?_
  refine jv_aload_n dX3_init_12 rfl ?_
  refine jv_bipush (v := nI 8) dX3_init_13 (by decide +kernel) ?_
  refine al_i dX3_init_15 rfl (by decide +kernel) (uz.up hu (show 70 ≤ 71 by decide)) ?_
  refine al_put (ci := 3) (k := 1) rfl inX3 tyX3_ok nmX3 (by decide) (by decide +kernel) rfl (fun b => ⟨rfl, rfl⟩) rfl rfl lk_3_15 dX3_init_17 rfl (by decide) (by decide) rfl (by decide +kernel) ?_
  refine jv_aload_n dX3_init_20 rfl ?_
  refine jv_bipush (v := nI 8) dX3_init_21 (by decide +kernel) ?_
  refine al_b dX3_init_23 rfl (by decide +kernel) (uz.up hu (show 70 ≤ 72 by decide)) ?_
  refine al_put (ci := 3) (k := 2) rfl inX3 tyX3_ok nmX3 (by decide) (by decide +kernel) rfl (fun b => ⟨rfl, rfl⟩) rfl rfl lk_3_18 dX3_init_25 rfl (by decide) (by decide) rfl (by decide +kernel) ?_
  refine al_done (by decide) (fun p hp => by have := hps p hp; omega) (by decide +kernel) ?_
  exact al_ret dX3_init_28 rfl rfl
theorem k_2_37 {E : JE} {ps : List (Nat × Nat)} {u : JM} (hps : ∀ p ∈ ps, p.1 < 37) (hu : uz 38 u) : JCr E 38 73 2 YX2_init [.ref 37] ((37, 0) :: ps) u ps u := by
  refine JC.ofV (g := (38, RR 38 ((37, 0) :: ps), u)) (by decide +kernel) (by decide) (jcat1 rfl) ?_
  show JVr E 38 73 2 YX2_init _ 0 [some (.ref 37)] [] 38 ((37, 0) :: ps) u
  refine jv_aload_n dX2_init_0 rfl ?_
  refine jv_objInit ⟨(lw_ix 89 (by decide +kernel) (by decide +kernel)), (lw_ix 82 (by decide +kernel) (by decide +kernel)), (lw_ix 83 (by decide +kernel) (by decide +kernel))⟩ dX2_init_1 (by decide) (by decide) ?_
  refine jv_aload_n dX2_init_4 rfl ?_
  refine al_new (ci := 1) rfl inX1 tyX1_ok ⟨(lw_ix 90 (by decide +kernel) (by decide +kernel)), (lw_ix 91 (by decide +kernel) (by decide +kernel)), (lw_ix 65 (by decide +kernel) (by decide +kernel))⟩ dvX1 dX2_init_5 rfl (by decide) (by decide) hu ?_
  refine jv_dup dX2_init_8 rfl ?_
  refine jv_callIN (as := []) (a := 38) (d' := 1) (n1 := 46) ci_2_11 dX2_init_9 rfl (by decide) (by decide) (Nat.le_of_ble_eq_true rfl) (Nat.le_of_ble_eq_true rfl) (by decide) (k_1_38 (List.forall_mem_cons.mpr ⟨by decide, (fun p hp => by have := hps p hp; omega)⟩) (uz.up hu (show 38 ≤ 39 by decide))) ?_
  rintro _ _ ⟨rfl, rfl⟩ _
  refine al_put (ci := 2) (k := 0) rfl inX2 tyX2_ok nmX2 (by decide) (by decide +kernel) rfl (fun b => ⟨rfl, rfl⟩) rfl rfl lk_2_12 dX2_init_12 rfl (by decide) (by decide) rfl (by decide +kernel) ?_
  refine jv_aload_n dX2_init_15 rfl ?_
  refine al_new (ci := 0) rfl inX0 tyX0_ok ⟨(lw_ix 136 (by decide +kernel) (by decide +kernel)), (lw_ix 137 (by decide +kernel) (by decide +kernel)), (lw_ix 66 (by decide +kernel) (by decide +kernel))⟩ dvX0 dX2_init_16 rfl (by decide) (by decide) (uz.up hu (show 38 ≤ 46 by decide)) ?_
  refine jv_dup dX2_init_19 rfl ?_
  refine jv_sipush (v := nI 192) dX2_init_20 (by decide +kernel) ?_
  refine jv_callI (as := [.int (nI 192)]) (a := 46) (d' := 1) (n1 := 52) ci_2_20 dX2_init_23 rfl (by decide) (by decide) (Nat.le_of_ble_eq_true rfl) (Nat.le_of_ble_eq_true rfl) (by decide) (k_0_46 (List.forall_mem_cons.mpr ⟨by decide, (fun p hp => by have := hps p hp; omega)⟩) (uz.up hu (show 38 ≤ 47 by decide))) ?_
  rintro _ _ ⟨rfl, rfl⟩ _
  refine al_put (ci := 2) (k := 1) rfl inX2 tyX2_ok nmX2 (by decide) (by decide +kernel) rfl (fun b => ⟨rfl, rfl⟩) rfl rfl lk_2_23 dX2_init_26 rfl (by decide) (by decide) rfl (by decide +kernel) ?_
  refine jv_aload_n dX2_init_29 rfl ?_
  refine al_new (ci := 0) rfl inX0 tyX0_ok ⟨(lw_ix 136 (by decide +kernel) (by decide +kernel)), (lw_ix 137 (by decide +kernel) (by decide +kernel)), (lw_ix 66 (by decide +kernel) (by decide +kernel))⟩ dvX0 dX2_init_30 rfl (by decide) (by decide) (uz.up hu (show 38 ≤ 52 by decide)) ?_
  refine jv_dup dX2_init_33 rfl ?_
  refine jv_sipush (v := nI 192) dX2_init_34 (by decide +kernel) ?_
  refine jv_callI (as := [.int (nI 192)]) (a := 52) (d' := 1) (n1 := 58) ci_2_20 dX2_init_37 rfl (by decide) (by decide) (Nat.le_of_ble_eq_true rfl) (Nat.le_of_ble_eq_true rfl) (by decide) (k_0_52 (List.forall_mem_cons.mpr ⟨by decide, (fun p hp => by have := hps p hp; omega)⟩) (uz.up hu (show 38 ≤ 53 by decide))) ?_
  rintro _ _ ⟨rfl, rfl⟩ _
  refine al_put (ci := 2) (k := 2) rfl inX2 tyX2_ok nmX2 (by decide) (by decide +kernel) rfl (fun b => ⟨rfl, rfl⟩) rfl rfl lk_2_27 dX2_init_40 rfl (by decide) (by decide) rfl (by decide +kernel) ?_
  refine jv_aload_n dX2_init_43 rfl ?_
  refine jv_sipush (v := nI 192) dX2_init_44 (by decide +kernel) ?_
  refine al_i dX2_init_47 rfl (by decide +kernel) (uz.up hu (show 38 ≤ 58 by decide)) ?_
  refine al_put (ci := 2) (k := 3) rfl inX2 tyX2_ok nmX2 (by decide) (by decide +kernel) rfl (fun b => ⟨rfl, rfl⟩) rfl rfl lk_2_30 dX2_init_49 rfl (by decide) (by decide) rfl (by decide +kernel) ?_
  refine jv_aload_n dX2_init_52 rfl ?_
  refine jv_sipush (v := nI 192) dX2_init_53 (by decide +kernel) ?_
  refine al_i dX2_init_56 rfl (by decide +kernel) (uz.up hu (show 38 ≤ 59 by decide)) ?_
  refine al_put (ci := 2) (k := 4) rfl inX2 tyX2_ok nmX2 (by decide) (by decide +kernel) rfl (fun b => ⟨rfl, rfl⟩) rfl rfl lk_2_34 dX2_init_58 rfl (by decide) (by decide) rfl (by decide +kernel) ?_
  refine jv_aload_n dX2_init_61 rfl ?_
  refine jv_sipush (v := nI 192) dX2_init_62 (by decide +kernel) ?_
  refine al_i dX2_init_65 rfl (by decide +kernel) (uz.up hu (show 38 ≤ 60 by decide)) ?_
  refine al_put (ci := 2) (k := 5) rfl inX2 tyX2_ok nmX2 (by decide) (by decide +kernel) rfl (fun b => ⟨rfl, rfl⟩) rfl rfl lk_2_37 dX2_init_67 rfl (by decide) (by decide) rfl (by decide +kernel) ?_
  refine jv_aload_n dX2_init_70 rfl ?_
  refine jv_sipush (v := nI 192) dX2_init_71 (by decide +kernel) ?_
  refine al_b dX2_init_74 rfl (by decide +kernel) (uz.up hu (show 38 ≤ 61 by decide)) ?_
  refine al_put (ci := 2) (k := 9) rfl inX2 tyX2_ok nmX2 (by decide) (by decide +kernel) rfl (fun b => ⟨rfl, rfl⟩) rfl rfl lk_2_40 dX2_init_76 rfl (by decide) (by decide) rfl (by decide +kernel) ?_
  refine jv_aload_n dX2_init_79 rfl ?_
  refine jv_sipush (v := nI 192) dX2_init_80 (by decide +kernel) ?_
  refine al_i dX2_init_83 rfl (by decide +kernel) (uz.up hu (show 38 ≤ 62 by decide)) ?_
  refine al_put (ci := 2) (k := 10) rfl inX2 tyX2_ok nmX2 (by decide) (by decide +kernel) rfl (fun b => ⟨rfl, rfl⟩) rfl rfl lk_2_44 dX2_init_85 rfl (by decide) (by decide) rfl (by decide +kernel) ?_
  refine jv_aload_n dX2_init_88 rfl ?_
  refine al_new (ci := 0) rfl inX0 tyX0_ok ⟨(lw_ix 136 (by decide +kernel) (by decide +kernel)), (lw_ix 137 (by decide +kernel) (by decide +kernel)), (lw_ix 66 (by decide +kernel) (by decide +kernel))⟩ dvX0 dX2_init_89 rfl (by decide) (by decide) (uz.up hu (show 38 ≤ 63 by decide)) ?_
  refine jv_dup dX2_init_92 rfl ?_
  refine jv_iconst (v := nI 1) dX2_init_93 (by decide +kernel) ?_
  refine jv_callI (as := [.int (nI 1)]) (a := 63) (d' := 1) (n1 := 69) ci_2_20 dX2_init_94 rfl (by decide) (by decide) (Nat.le_of_ble_eq_true rfl) (Nat.le_of_ble_eq_true rfl) (by decide) (k_0_63 (List.forall_mem_cons.mpr ⟨by decide, (fun p hp => by have := hps p hp; omega)⟩) (uz.up hu (show 38 ≤ 64 by decide))) ?_
  rintro _ _ ⟨rfl, rfl⟩ _
  refine al_put (ci := 2) (k := 11) rfl inX2 tyX2_ok nmX2 (by decide) (by decide +kernel) rfl (fun b => ⟨rfl, rfl⟩) rfl rfl lk_2_47 dX2_init_97 rfl (by decide) (by decide) rfl (by decide +kernel) ?_
  refine jv_aload_n dX2_init_100 rfl ?_
  refine al_new (ci := 3) rfl inX3 tyX3_ok ⟨(lw_ix 170 (by decide +kernel) (by decide +kernel)), (lw_ix 171 (by decide +kernel) (by decide +kernel)), (lw_ix 67 (by decide +kernel) (by decide +kernel))⟩ dvX3 dX2_init_101 rfl (by decide) (by decide) (uz.up hu (show 38 ≤ 69 by decide)) ?_
  refine jv_dup dX2_init_104 rfl ?_
  refine jv_callIN (as := []) (a := 69) (d' := 1) (n1 := 73) ci_2_52 dX2_init_105 rfl (by decide) (by decide) (Nat.le_of_ble_eq_true rfl) (Nat.le_of_ble_eq_true rfl) (by decide) (k_3_69 (List.forall_mem_cons.mpr ⟨by decide, (fun p hp => by have := hps p hp; omega)⟩) (uz.up hu (show 38 ≤ 70 by decide))) ?_
  rintro _ _ ⟨rfl, rfl⟩ _
  refine al_put (ci := 2) (k := 12) rfl inX2 tyX2_ok nmX2 (by decide) (by decide +kernel) rfl (fun b => ⟨rfl, rfl⟩) rfl rfl lk_2_53 dX2_init_108 rfl (by decide) (by decide) rfl (by decide +kernel) ?_
  refine al_done (by decide) (fun p hp => by have := hps p hp; omega) (by decide +kernel) ?_
  exact al_ret dX2_init_111 rfl rfl
theorem k_1_74 {E : JE} {ps : List (Nat × Nat)} {u : JM} (hps : ∀ p ∈ ps, p.1 < 74) (hu : uz 75 u) : JCr E 75 82 1 YX1_init [.ref 74] ((74, 0) :: ps) u ps u := by
  refine JC.ofV (g := (75, RR 75 ((74, 0) :: ps), u)) (by decide +kernel) (by decide) (jcat1 rfl) ?_
  show JVr E 75 82 1 YX1_init _ 0 [some (.ref 74)] [] 75 ((74, 0) :: ps) u
  refine jv_aload_n dX1_init_0 rfl ?_
  refine jv_objInit ⟨(lw_ix 95 (by decide +kernel) (by decide +kernel)), (lw_ix 82 (by decide +kernel) (by decide +kernel)), (lw_ix 83 (by decide +kernel) (by decide +kernel))⟩ dX1_init_1 (by decide) (by decide) ?_
  refine jv_aload_n dX1_init_4 rfl ?_
  refine jv_bipush (v := nI 12) dX1_init_5 (by decide +kernel) ?_
  refine al_i dX1_init_7 rfl (by decide +kernel) hu ?_
  refine al_put (ci := 1) (k := 1) rfl inX1 tyX1_ok nmX1 (by decide) (by decide +kernel) rfl (fun b => ⟨rfl, rfl⟩) rfl rfl lk_1_9 dX1_init_9 rfl (by decide) (by decide) rfl (by decide +kernel) ?_
  refine jv_aload_n dX1_init_12 rfl ?_
  refine jv_bipush (v := nI 12) dX1_init_13 (by decide +kernel) ?_
  refine al_i dX1_init_15 rfl (by decide +kernel) (uz.up hu (show 75 ≤ 76 by decide)) ?_
  refine al_put (ci := 1) (k := 2) rfl inX1 tyX1_ok nmX1 (by decide) (by decide +kernel) rfl (fun b => ⟨rfl, rfl⟩) rfl rfl lk_1_15 dX1_init_17 rfl (by decide) (by decide) rfl (by decide +kernel) ?_
  refine jv_aload_n dX1_init_20 rfl ?_
  refine jv_bipush (v := nI 12) dX1_init_21 (by decide +kernel) ?_
  refine al_i dX1_init_23 rfl (by decide +kernel) (uz.up hu (show 75 ≤ 77 by decide)) ?_
  refine al_put (ci := 1) (k := 3) rfl inX1 tyX1_ok nmX1 (by decide) (by decide +kernel) rfl (fun b => ⟨rfl, rfl⟩) rfl rfl lk_1_18 dX1_init_25 rfl (by decide) (by decide) rfl (by decide +kernel) ?_
  refine jv_aload_n dX1_init_28 rfl ?_
  refine jv_bipush (v := nI 12) dX1_init_29 (by decide +kernel) ?_
  refine al_i dX1_init_31 rfl (by decide +kernel) (uz.up hu (show 75 ≤ 78 by decide)) ?_
  refine al_put (ci := 1) (k := 4) rfl inX1 tyX1_ok nmX1 (by decide) (by decide +kernel) rfl (fun b => ⟨rfl, rfl⟩) rfl rfl lk_1_21 dX1_init_33 rfl (by decide) (by decide) rfl (by decide +kernel) ?_
  refine jv_aload_n dX1_init_36 rfl ?_
  refine jv_bipush (v := nI 12) dX1_init_37 (by decide +kernel) ?_
  refine al_i dX1_init_39 rfl (by decide +kernel) (uz.up hu (show 75 ≤ 79 by decide)) ?_
  refine al_put (ci := 1) (k := 5) rfl inX1 tyX1_ok nmX1 (by decide) (by decide +kernel) rfl (fun b => ⟨rfl, rfl⟩) rfl rfl lk_1_24 dX1_init_41 rfl (by decide) (by decide) rfl (by decide +kernel) ?_
  refine jv_aload_n dX1_init_44 rfl ?_
  refine jv_bipush (v := nI 12) dX1_init_45 (by decide +kernel) ?_
  refine al_b dX1_init_47 rfl (by decide +kernel) (uz.up hu (show 75 ≤ 80 by decide)) ?_
  refine al_put (ci := 1) (k := 6) rfl inX1 tyX1_ok nmX1 (by decide) (by decide +kernel) rfl (fun b => ⟨rfl, rfl⟩) rfl rfl lk_1_27 dX1_init_49 rfl (by decide) (by decide) rfl (by decide +kernel) ?_
  refine jv_aload_n dX1_init_52 rfl ?_
  refine jv_bipush (v := nI 8) dX1_init_53 (by decide +kernel) ?_
  refine al_i dX1_init_55 rfl (by decide +kernel) (uz.up hu (show 75 ≤ 81 by decide)) ?_
  refine al_put (ci := 1) (k := 7) rfl inX1 tyX1_ok nmX1 (by decide) (by decide +kernel) rfl (fun b => ⟨rfl, rfl⟩) rfl rfl lk_1_31 dX1_init_57 rfl (by decide) (by decide) rfl (by decide +kernel) ?_
  refine al_done (by decide) (fun p hp => by have := hps p hp; omega) (by decide +kernel) ?_
  exact al_ret dX1_init_60 rfl rfl
theorem k_0_82 {E : JE} {ps : List (Nat × Nat)} {u : JM} (hps : ∀ p ∈ ps, p.1 < 82) (hu : uz 83 u) : JCr E 83 88 1 YX0_init [.ref 82, .int (nI 192)] ((82, 0) :: ps) u ps u := by
  refine JC.ofV (g := (83, RR 83 ((82, 0) :: ps), u)) (by decide +kernel) (by decide) (jcat1 rfl) ?_
  show JVr E 83 88 1 YX0_init _ 0 [some (.ref 82), some (.int (nI 192))] [] 83 ((82, 0) :: ps) u
  refine jv_aload_n dX0_init_0 rfl ?_
  refine jv_objInit ⟨(lw_ix 141 (by decide +kernel) (by decide +kernel)), (lw_ix 82 (by decide +kernel) (by decide +kernel)), (lw_ix 83 (by decide +kernel) (by decide +kernel))⟩ dX0_init_1 (by decide) (by decide) ?_
  refine jv_aload_n dX0_init_4 rfl ?_
  refine jv_iload_n dX0_init_5 rfl ?_
  refine al_i dX0_init_6 rfl (by decide +kernel) hu ?_
  refine al_put (ci := 0) (k := 0) rfl inX0 tyX0_ok nmX0 (by decide) (by decide +kernel) rfl (fun b => ⟨rfl, rfl⟩) rfl rfl lk_0_9 dX0_init_8 rfl (by decide) (by decide) rfl (by decide +kernel) ?_
  refine jv_aload_n dX0_init_11 rfl ?_
  refine jv_iload_n dX0_init_12 rfl ?_
  refine al_i dX0_init_13 rfl (by decide +kernel) (uz.up hu (show 83 ≤ 84 by decide)) ?_
  refine al_put (ci := 0) (k := 1) rfl inX0 tyX0_ok nmX0 (by decide) (by decide +kernel) rfl (fun b => ⟨rfl, rfl⟩) rfl rfl lk_0_15 dX0_init_15 rfl (by decide) (by decide) rfl (by decide +kernel) ?_
  refine jv_aload_n dX0_init_18 rfl ?_
  refine jv_iload_n dX0_init_19 rfl ?_
  refine al_i dX0_init_20 rfl (by decide +kernel) (uz.up hu (show 83 ≤ 85 by decide)) ?_
  refine al_put (ci := 0) (k := 2) rfl inX0 tyX0_ok nmX0 (by decide) (by decide +kernel) rfl (fun b => ⟨rfl, rfl⟩) rfl rfl lk_0_18 dX0_init_22 rfl (by decide) (by decide) rfl (by decide +kernel) ?_
  refine jv_aload_n dX0_init_25 rfl ?_
  refine jv_iload_n dX0_init_26 rfl ?_
  refine jv_bipush (v := nI 12) dX0_init_27 (by decide +kernel) ?_
  refine jv_imul dX0_init_29 ?_
  refine al_i dX0_init_30 rfl (by decide +kernel) (uz.up hu (show 83 ≤ 86 by decide)) ?_
  refine al_put (ci := 0) (k := 3) rfl inX0 tyX0_ok nmX0 (by decide) (by decide +kernel) rfl (fun b => ⟨rfl, rfl⟩) rfl rfl lk_0_21 dX0_init_32 rfl (by decide) (by decide) rfl (by decide +kernel) ?_
  refine jv_aload_n dX0_init_35 rfl ?_
  refine jv_iload_n dX0_init_36 rfl ?_
  refine jv_bipush (v := nI 8) dX0_init_37 (by decide +kernel) ?_
  refine jv_imul dX0_init_39 ?_
  refine al_i dX0_init_40 rfl (by decide +kernel) (uz.up hu (show 83 ≤ 87 by decide)) ?_
  refine al_put (ci := 0) (k := 4) rfl inX0 tyX0_ok nmX0 (by decide) (by decide +kernel) rfl (fun b => ⟨rfl, rfl⟩) rfl rfl lk_0_24 dX0_init_42 rfl (by decide) (by decide) rfl (by decide +kernel) ?_
  refine al_done (by decide) (fun p hp => by have := hps p hp; omega) (by decide +kernel) ?_
  exact al_ret dX0_init_45 rfl rfl
theorem k_0_88 {E : JE} {ps : List (Nat × Nat)} {u : JM} (hps : ∀ p ∈ ps, p.1 < 88) (hu : uz 89 u) : JCr E 89 94 1 YX0_init [.ref 88, .int (nI 192)] ((88, 0) :: ps) u ps u := by
  refine JC.ofV (g := (89, RR 89 ((88, 0) :: ps), u)) (by decide +kernel) (by decide) (jcat1 rfl) ?_
  show JVr E 89 94 1 YX0_init _ 0 [some (.ref 88), some (.int (nI 192))] [] 89 ((88, 0) :: ps) u
  refine jv_aload_n dX0_init_0 rfl ?_
  refine jv_objInit ⟨(lw_ix 141 (by decide +kernel) (by decide +kernel)), (lw_ix 82 (by decide +kernel) (by decide +kernel)), (lw_ix 83 (by decide +kernel) (by decide +kernel))⟩ dX0_init_1 (by decide) (by decide) ?_
  refine jv_aload_n dX0_init_4 rfl ?_
  refine jv_iload_n dX0_init_5 rfl ?_
  refine al_i dX0_init_6 rfl (by decide +kernel) hu ?_
  refine al_put (ci := 0) (k := 0) rfl inX0 tyX0_ok nmX0 (by decide) (by decide +kernel) rfl (fun b => ⟨rfl, rfl⟩) rfl rfl lk_0_9 dX0_init_8 rfl (by decide) (by decide) rfl (by decide +kernel) ?_
  refine jv_aload_n dX0_init_11 rfl ?_
  refine jv_iload_n dX0_init_12 rfl ?_
  refine al_i dX0_init_13 rfl (by decide +kernel) (uz.up hu (show 89 ≤ 90 by decide)) ?_
  refine al_put (ci := 0) (k := 1) rfl inX0 tyX0_ok nmX0 (by decide) (by decide +kernel) rfl (fun b => ⟨rfl, rfl⟩) rfl rfl lk_0_15 dX0_init_15 rfl (by decide) (by decide) rfl (by decide +kernel) ?_
  refine jv_aload_n dX0_init_18 rfl ?_
  refine jv_iload_n dX0_init_19 rfl ?_
  refine al_i dX0_init_20 rfl (by decide +kernel) (uz.up hu (show 89 ≤ 91 by decide)) ?_
  refine al_put (ci := 0) (k := 2) rfl inX0 tyX0_ok nmX0 (by decide) (by decide +kernel) rfl (fun b => ⟨rfl, rfl⟩) rfl rfl lk_0_18 dX0_init_22 rfl (by decide) (by decide) rfl (by decide +kernel) ?_
  refine jv_aload_n dX0_init_25 rfl ?_
  refine jv_iload_n dX0_init_26 rfl ?_
  refine jv_bipush (v := nI 12) dX0_init_27 (by decide +kernel) ?_
  refine jv_imul dX0_init_29 ?_
  refine al_i dX0_init_30 rfl (by decide +kernel) (uz.up hu (show 89 ≤ 92 by decide)) ?_
  refine al_put (ci := 0) (k := 3) rfl inX0 tyX0_ok nmX0 (by decide) (by decide +kernel) rfl (fun b => ⟨rfl, rfl⟩) rfl rfl lk_0_21 dX0_init_32 rfl (by decide) (by decide) rfl (by decide +kernel) ?_
  refine jv_aload_n dX0_init_35 rfl ?_
  refine jv_iload_n dX0_init_36 rfl ?_
  refine jv_bipush (v := nI 8) dX0_init_37 (by decide +kernel) ?_
  refine jv_imul dX0_init_39 ?_
  refine al_i dX0_init_40 rfl (by decide +kernel) (uz.up hu (show 89 ≤ 93 by decide)) ?_
  refine al_put (ci := 0) (k := 4) rfl inX0 tyX0_ok nmX0 (by decide) (by decide +kernel) rfl (fun b => ⟨rfl, rfl⟩) rfl rfl lk_0_24 dX0_init_42 rfl (by decide) (by decide) rfl (by decide +kernel) ?_
  refine al_done (by decide) (fun p hp => by have := hps p hp; omega) (by decide +kernel) ?_
  exact al_ret dX0_init_45 rfl rfl
theorem k_0_99 {E : JE} {ps : List (Nat × Nat)} {u : JM} (hps : ∀ p ∈ ps, p.1 < 99) (hu : uz 100 u) : JCr E 100 105 1 YX0_init [.ref 99, .int (nI 1)] ((99, 0) :: ps) u ps u := by
  refine JC.ofV (g := (100, RR 100 ((99, 0) :: ps), u)) (by decide +kernel) (by decide) (jcat1 rfl) ?_
  show JVr E 100 105 1 YX0_init _ 0 [some (.ref 99), some (.int (nI 1))] [] 100 ((99, 0) :: ps) u
  refine jv_aload_n dX0_init_0 rfl ?_
  refine jv_objInit ⟨(lw_ix 141 (by decide +kernel) (by decide +kernel)), (lw_ix 82 (by decide +kernel) (by decide +kernel)), (lw_ix 83 (by decide +kernel) (by decide +kernel))⟩ dX0_init_1 (by decide) (by decide) ?_
  refine jv_aload_n dX0_init_4 rfl ?_
  refine jv_iload_n dX0_init_5 rfl ?_
  refine al_i dX0_init_6 rfl (by decide +kernel) hu ?_
  refine al_put (ci := 0) (k := 0) rfl inX0 tyX0_ok nmX0 (by decide) (by decide +kernel) rfl (fun b => ⟨rfl, rfl⟩) rfl rfl lk_0_9 dX0_init_8 rfl (by decide) (by decide) rfl (by decide +kernel) ?_
  refine jv_aload_n dX0_init_11 rfl ?_
  refine jv_iload_n dX0_init_12 rfl ?_
  refine al_i dX0_init_13 rfl (by decide +kernel) (uz.up hu (show 100 ≤ 101 by decide)) ?_
  refine al_put (ci := 0) (k := 1) rfl inX0 tyX0_ok nmX0 (by decide) (by decide +kernel) rfl (fun b => ⟨rfl, rfl⟩) rfl rfl lk_0_15 dX0_init_15 rfl (by decide) (by decide) rfl (by decide +kernel) ?_
  refine jv_aload_n dX0_init_18 rfl ?_
  refine jv_iload_n dX0_init_19 rfl ?_
  refine al_i dX0_init_20 rfl (by decide +kernel) (uz.up hu (show 100 ≤ 102 by decide)) ?_
  refine al_put (ci := 0) (k := 2) rfl inX0 tyX0_ok nmX0 (by decide) (by decide +kernel) rfl (fun b => ⟨rfl, rfl⟩) rfl rfl lk_0_18 dX0_init_22 rfl (by decide) (by decide) rfl (by decide +kernel) ?_
  refine jv_aload_n dX0_init_25 rfl ?_
  refine jv_iload_n dX0_init_26 rfl ?_
  refine jv_bipush (v := nI 12) dX0_init_27 (by decide +kernel) ?_
  refine jv_imul dX0_init_29 ?_
  refine al_i dX0_init_30 rfl (by decide +kernel) (uz.up hu (show 100 ≤ 103 by decide)) ?_
  refine al_put (ci := 0) (k := 3) rfl inX0 tyX0_ok nmX0 (by decide) (by decide +kernel) rfl (fun b => ⟨rfl, rfl⟩) rfl rfl lk_0_21 dX0_init_32 rfl (by decide) (by decide) rfl (by decide +kernel) ?_
  refine jv_aload_n dX0_init_35 rfl ?_
  refine jv_iload_n dX0_init_36 rfl ?_
  refine jv_bipush (v := nI 8) dX0_init_37 (by decide +kernel) ?_
  refine jv_imul dX0_init_39 ?_
  refine al_i dX0_init_40 rfl (by decide +kernel) (uz.up hu (show 100 ≤ 104 by decide)) ?_
  refine al_put (ci := 0) (k := 4) rfl inX0 tyX0_ok nmX0 (by decide) (by decide +kernel) rfl (fun b => ⟨rfl, rfl⟩) rfl rfl lk_0_24 dX0_init_42 rfl (by decide) (by decide) rfl (by decide +kernel) ?_
  refine al_done (by decide) (fun p hp => by have := hps p hp; omega) (by decide +kernel) ?_
  exact al_ret dX0_init_45 rfl rfl
theorem k_3_105 {E : JE} {ps : List (Nat × Nat)} {u : JM} (hps : ∀ p ∈ ps, p.1 < 105) (hu : uz 106 u) : JCr E 106 109 1 YX3_init [.ref 105] ((105, 0) :: ps) u ps u := by
  refine JC.ofV (g := (106, RR 106 ((105, 0) :: ps), u)) (by decide +kernel) (by decide) (jcat1 rfl) ?_
  show JVr E 106 109 1 YX3_init _ 0 [some (.ref 105)] [] 106 ((105, 0) :: ps) u
  refine jv_aload_n dX3_init_0 rfl ?_
  refine jv_objInit ⟨(lw_ix 175 (by decide +kernel) (by decide +kernel)), (lw_ix 82 (by decide +kernel) (by decide +kernel)), (lw_ix 83 (by decide +kernel) (by decide +kernel))⟩ dX3_init_1 (by decide) (by decide) ?_
  refine jv_aload_n dX3_init_4 rfl ?_
  refine jv_bipush (v := nI 8) dX3_init_5 (by decide +kernel) ?_
  refine al_i dX3_init_7 rfl (by decide +kernel) hu ?_
  refine al_put (ci := 3) (k := 0) rfl inX3 tyX3_ok nmX3 (by decide) (by decide +kernel) rfl (fun b => ⟨rfl, rfl⟩) rfl rfl lk_3_9 dX3_init_9 rfl (by decide) (by decide) rfl (by decide +kernel) ?_
  refine jv_aload_n dX3_init_12 rfl ?_
  refine jv_bipush (v := nI 8) dX3_init_13 (by decide +kernel) ?_
  refine al_i dX3_init_15 rfl (by decide +kernel) (uz.up hu (show 106 ≤ 107 by decide)) ?_
  refine al_put (ci := 3) (k := 1) rfl inX3 tyX3_ok nmX3 (by decide) (by decide +kernel) rfl (fun b => ⟨rfl, rfl⟩) rfl rfl lk_3_15 dX3_init_17 rfl (by decide) (by decide) rfl (by decide +kernel) ?_
  refine jv_aload_n dX3_init_20 rfl ?_
  refine jv_bipush (v := nI 8) dX3_init_21 (by decide +kernel) ?_
  refine al_b dX3_init_23 rfl (by decide +kernel) (uz.up hu (show 106 ≤ 108 by decide)) ?_
  refine al_put (ci := 3) (k := 2) rfl inX3 tyX3_ok nmX3 (by decide) (by decide +kernel) rfl (fun b => ⟨rfl, rfl⟩) rfl rfl lk_3_18 dX3_init_25 rfl (by decide) (by decide) rfl (by decide +kernel) ?_
  refine al_done (by decide) (fun p hp => by have := hps p hp; omega) (by decide +kernel) ?_
  exact al_ret dX3_init_28 rfl rfl
theorem k_2_73 {E : JE} {ps : List (Nat × Nat)} {u : JM} (hps : ∀ p ∈ ps, p.1 < 73) (hu : uz 74 u) : JCr E 74 109 2 YX2_init [.ref 73] ((73, 0) :: ps) u ps u := by
  refine JC.ofV (g := (74, RR 74 ((73, 0) :: ps), u)) (by decide +kernel) (by decide) (jcat1 rfl) ?_
  show JVr E 74 109 2 YX2_init _ 0 [some (.ref 73)] [] 74 ((73, 0) :: ps) u
  refine jv_aload_n dX2_init_0 rfl ?_
  refine jv_objInit ⟨(lw_ix 89 (by decide +kernel) (by decide +kernel)), (lw_ix 82 (by decide +kernel) (by decide +kernel)), (lw_ix 83 (by decide +kernel) (by decide +kernel))⟩ dX2_init_1 (by decide) (by decide) ?_
  refine jv_aload_n dX2_init_4 rfl ?_
  refine al_new (ci := 1) rfl inX1 tyX1_ok ⟨(lw_ix 90 (by decide +kernel) (by decide +kernel)), (lw_ix 91 (by decide +kernel) (by decide +kernel)), (lw_ix 65 (by decide +kernel) (by decide +kernel))⟩ dvX1 dX2_init_5 rfl (by decide) (by decide) hu ?_
  refine jv_dup dX2_init_8 rfl ?_
  refine jv_callIN (as := []) (a := 74) (d' := 1) (n1 := 82) ci_2_11 dX2_init_9 rfl (by decide) (by decide) (Nat.le_of_ble_eq_true rfl) (Nat.le_of_ble_eq_true rfl) (by decide) (k_1_74 (List.forall_mem_cons.mpr ⟨by decide, (fun p hp => by have := hps p hp; omega)⟩) (uz.up hu (show 74 ≤ 75 by decide))) ?_
  rintro _ _ ⟨rfl, rfl⟩ _
  refine al_put (ci := 2) (k := 0) rfl inX2 tyX2_ok nmX2 (by decide) (by decide +kernel) rfl (fun b => ⟨rfl, rfl⟩) rfl rfl lk_2_12 dX2_init_12 rfl (by decide) (by decide) rfl (by decide +kernel) ?_
  refine jv_aload_n dX2_init_15 rfl ?_
  refine al_new (ci := 0) rfl inX0 tyX0_ok ⟨(lw_ix 136 (by decide +kernel) (by decide +kernel)), (lw_ix 137 (by decide +kernel) (by decide +kernel)), (lw_ix 66 (by decide +kernel) (by decide +kernel))⟩ dvX0 dX2_init_16 rfl (by decide) (by decide) (uz.up hu (show 74 ≤ 82 by decide)) ?_
  refine jv_dup dX2_init_19 rfl ?_
  refine jv_sipush (v := nI 192) dX2_init_20 (by decide +kernel) ?_
  refine jv_callI (as := [.int (nI 192)]) (a := 82) (d' := 1) (n1 := 88) ci_2_20 dX2_init_23 rfl (by decide) (by decide) (Nat.le_of_ble_eq_true rfl) (Nat.le_of_ble_eq_true rfl) (by decide) (k_0_82 (List.forall_mem_cons.mpr ⟨by decide, (fun p hp => by have := hps p hp; omega)⟩) (uz.up hu (show 74 ≤ 83 by decide))) ?_
  rintro _ _ ⟨rfl, rfl⟩ _
  refine al_put (ci := 2) (k := 1) rfl inX2 tyX2_ok nmX2 (by decide) (by decide +kernel) rfl (fun b => ⟨rfl, rfl⟩) rfl rfl lk_2_23 dX2_init_26 rfl (by decide) (by decide) rfl (by decide +kernel) ?_
  refine jv_aload_n dX2_init_29 rfl ?_
  refine al_new (ci := 0) rfl inX0 tyX0_ok ⟨(lw_ix 136 (by decide +kernel) (by decide +kernel)), (lw_ix 137 (by decide +kernel) (by decide +kernel)), (lw_ix 66 (by decide +kernel) (by decide +kernel))⟩ dvX0 dX2_init_30 rfl (by decide) (by decide) (uz.up hu (show 74 ≤ 88 by decide)) ?_
  refine jv_dup dX2_init_33 rfl ?_
  refine jv_sipush (v := nI 192) dX2_init_34 (by decide +kernel) ?_
  refine jv_callI (as := [.int (nI 192)]) (a := 88) (d' := 1) (n1 := 94) ci_2_20 dX2_init_37 rfl (by decide) (by decide) (Nat.le_of_ble_eq_true rfl) (Nat.le_of_ble_eq_true rfl) (by decide) (k_0_88 (List.forall_mem_cons.mpr ⟨by decide, (fun p hp => by have := hps p hp; omega)⟩) (uz.up hu (show 74 ≤ 89 by decide))) ?_
  rintro _ _ ⟨rfl, rfl⟩ _
  refine al_put (ci := 2) (k := 2) rfl inX2 tyX2_ok nmX2 (by decide) (by decide +kernel) rfl (fun b => ⟨rfl, rfl⟩) rfl rfl lk_2_27 dX2_init_40 rfl (by decide) (by decide) rfl (by decide +kernel) ?_
  refine jv_aload_n dX2_init_43 rfl ?_
  refine jv_sipush (v := nI 192) dX2_init_44 (by decide +kernel) ?_
  refine al_i dX2_init_47 rfl (by decide +kernel) (uz.up hu (show 74 ≤ 94 by decide)) ?_
  refine al_put (ci := 2) (k := 3) rfl inX2 tyX2_ok nmX2 (by decide) (by decide +kernel) rfl (fun b => ⟨rfl, rfl⟩) rfl rfl lk_2_30 dX2_init_49 rfl (by decide) (by decide) rfl (by decide +kernel) ?_
  refine jv_aload_n dX2_init_52 rfl ?_
  refine jv_sipush (v := nI 192) dX2_init_53 (by decide +kernel) ?_
  refine al_i dX2_init_56 rfl (by decide +kernel) (uz.up hu (show 74 ≤ 95 by decide)) ?_
  refine al_put (ci := 2) (k := 4) rfl inX2 tyX2_ok nmX2 (by decide) (by decide +kernel) rfl (fun b => ⟨rfl, rfl⟩) rfl rfl lk_2_34 dX2_init_58 rfl (by decide) (by decide) rfl (by decide +kernel) ?_
  refine jv_aload_n dX2_init_61 rfl ?_
  refine jv_sipush (v := nI 192) dX2_init_62 (by decide +kernel) ?_
  refine al_i dX2_init_65 rfl (by decide +kernel) (uz.up hu (show 74 ≤ 96 by decide)) ?_
  refine al_put (ci := 2) (k := 5) rfl inX2 tyX2_ok nmX2 (by decide) (by decide +kernel) rfl (fun b => ⟨rfl, rfl⟩) rfl rfl lk_2_37 dX2_init_67 rfl (by decide) (by decide) rfl (by decide +kernel) ?_
  refine jv_aload_n dX2_init_70 rfl ?_
  refine jv_sipush (v := nI 192) dX2_init_71 (by decide +kernel) ?_
  refine al_b dX2_init_74 rfl (by decide +kernel) (uz.up hu (show 74 ≤ 97 by decide)) ?_
  refine al_put (ci := 2) (k := 9) rfl inX2 tyX2_ok nmX2 (by decide) (by decide +kernel) rfl (fun b => ⟨rfl, rfl⟩) rfl rfl lk_2_40 dX2_init_76 rfl (by decide) (by decide) rfl (by decide +kernel) ?_
  refine jv_aload_n dX2_init_79 rfl ?_
  refine jv_sipush (v := nI 192) dX2_init_80 (by decide +kernel) ?_
  refine al_i dX2_init_83 rfl (by decide +kernel) (uz.up hu (show 74 ≤ 98 by decide)) ?_
  refine al_put (ci := 2) (k := 10) rfl inX2 tyX2_ok nmX2 (by decide) (by decide +kernel) rfl (fun b => ⟨rfl, rfl⟩) rfl rfl lk_2_44 dX2_init_85 rfl (by decide) (by decide) rfl (by decide +kernel) ?_
  refine jv_aload_n dX2_init_88 rfl ?_
  refine al_new (ci := 0) rfl inX0 tyX0_ok ⟨(lw_ix 136 (by decide +kernel) (by decide +kernel)), (lw_ix 137 (by decide +kernel) (by decide +kernel)), (lw_ix 66 (by decide +kernel) (by decide +kernel))⟩ dvX0 dX2_init_89 rfl (by decide) (by decide) (uz.up hu (show 74 ≤ 99 by decide)) ?_
  refine jv_dup dX2_init_92 rfl ?_
  refine jv_iconst (v := nI 1) dX2_init_93 (by decide +kernel) ?_
  refine jv_callI (as := [.int (nI 1)]) (a := 99) (d' := 1) (n1 := 105) ci_2_20 dX2_init_94 rfl (by decide) (by decide) (Nat.le_of_ble_eq_true rfl) (Nat.le_of_ble_eq_true rfl) (by decide) (k_0_99 (List.forall_mem_cons.mpr ⟨by decide, (fun p hp => by have := hps p hp; omega)⟩) (uz.up hu (show 74 ≤ 100 by decide))) ?_
  rintro _ _ ⟨rfl, rfl⟩ _
  refine al_put (ci := 2) (k := 11) rfl inX2 tyX2_ok nmX2 (by decide) (by decide +kernel) rfl (fun b => ⟨rfl, rfl⟩) rfl rfl lk_2_47 dX2_init_97 rfl (by decide) (by decide) rfl (by decide +kernel) ?_
  refine jv_aload_n dX2_init_100 rfl ?_
  refine al_new (ci := 3) rfl inX3 tyX3_ok ⟨(lw_ix 170 (by decide +kernel) (by decide +kernel)), (lw_ix 171 (by decide +kernel) (by decide +kernel)), (lw_ix 67 (by decide +kernel) (by decide +kernel))⟩ dvX3 dX2_init_101 rfl (by decide) (by decide) (uz.up hu (show 74 ≤ 105 by decide)) ?_
  refine jv_dup dX2_init_104 rfl ?_
  refine jv_callIN (as := []) (a := 105) (d' := 1) (n1 := 109) ci_2_52 dX2_init_105 rfl (by decide) (by decide) (Nat.le_of_ble_eq_true rfl) (Nat.le_of_ble_eq_true rfl) (by decide) (k_3_105 (List.forall_mem_cons.mpr ⟨by decide, (fun p hp => by have := hps p hp; omega)⟩) (uz.up hu (show 74 ≤ 106 by decide))) ?_
  rintro _ _ ⟨rfl, rfl⟩ _
  refine al_put (ci := 2) (k := 12) rfl inX2 tyX2_ok nmX2 (by decide) (by decide +kernel) rfl (fun b => ⟨rfl, rfl⟩) rfl rfl lk_2_53 dX2_init_108 rfl (by decide) (by decide) rfl (by decide +kernel) ?_
  refine al_done (by decide) (fun p hp => by have := hps p hp; omega) (by decide +kernel) ?_
  exact al_ret dX2_init_111 rfl rfl
theorem ci_7_24 : jcIN RX7 24 YX4_init 0 "LinkRouter" := ⟨⟨(lw_ix 248 (by decide +kernel) (by decide +kernel)), (lw_ix 68 (by decide +kernel) (by decide +kernel)), by decide +kernel, by decide +kernel, by decide +kernel⟩, rfl, rfl, (lw_nx 246 (by decide +kernel) (by decide +kernel)), (lw_ix 247 (by decide +kernel) (by decide +kernel))⟩
theorem ci_4_26 : jcIN RX4 26 YX3_init 0 "LinkRouter" := ⟨⟨(lw_ix 174 (by decide +kernel) (by decide +kernel)), (lw_ix 67 (by decide +kernel) (by decide +kernel)), by decide +kernel, by decide +kernel, by decide +kernel⟩, rfl, rfl, (lw_nx 252 (by decide +kernel) (by decide +kernel)), (lw_ix 173 (by decide +kernel) (by decide +kernel))⟩
theorem k_3_115 {E : JE} {ps : List (Nat × Nat)} {u : JM} (hps : ∀ p ∈ ps, p.1 < 115) (hu : uz 116 u) : JCr E 116 119 1 YX3_init [.ref 115] ((115, 0) :: ps) u ps u := by
  refine JC.ofV (g := (116, RR 116 ((115, 0) :: ps), u)) (by decide +kernel) (by decide) (jcat1 rfl) ?_
  show JVr E 116 119 1 YX3_init _ 0 [some (.ref 115)] [] 116 ((115, 0) :: ps) u
  refine jv_aload_n dX3_init_0 rfl ?_
  refine jv_objInit ⟨(lw_ix 175 (by decide +kernel) (by decide +kernel)), (lw_ix 82 (by decide +kernel) (by decide +kernel)), (lw_ix 83 (by decide +kernel) (by decide +kernel))⟩ dX3_init_1 (by decide) (by decide) ?_
  refine jv_aload_n dX3_init_4 rfl ?_
  refine jv_bipush (v := nI 8) dX3_init_5 (by decide +kernel) ?_
  refine al_i dX3_init_7 rfl (by decide +kernel) hu ?_
  refine al_put (ci := 3) (k := 0) rfl inX3 tyX3_ok nmX3 (by decide) (by decide +kernel) rfl (fun b => ⟨rfl, rfl⟩) rfl rfl lk_3_9 dX3_init_9 rfl (by decide) (by decide) rfl (by decide +kernel) ?_
  refine jv_aload_n dX3_init_12 rfl ?_
  refine jv_bipush (v := nI 8) dX3_init_13 (by decide +kernel) ?_
  refine al_i dX3_init_15 rfl (by decide +kernel) (uz.up hu (show 116 ≤ 117 by decide)) ?_
  refine al_put (ci := 3) (k := 1) rfl inX3 tyX3_ok nmX3 (by decide) (by decide +kernel) rfl (fun b => ⟨rfl, rfl⟩) rfl rfl lk_3_15 dX3_init_17 rfl (by decide) (by decide) rfl (by decide +kernel) ?_
  refine jv_aload_n dX3_init_20 rfl ?_
  refine jv_bipush (v := nI 8) dX3_init_21 (by decide +kernel) ?_
  refine al_b dX3_init_23 rfl (by decide +kernel) (uz.up hu (show 116 ≤ 118 by decide)) ?_
  refine al_put (ci := 3) (k := 2) rfl inX3 tyX3_ok nmX3 (by decide) (by decide +kernel) rfl (fun b => ⟨rfl, rfl⟩) rfl rfl lk_3_18 dX3_init_25 rfl (by decide) (by decide) rfl (by decide +kernel) ?_
  refine al_done (by decide) (fun p hp => by have := hps p hp; omega) (by decide +kernel) ?_
  exact al_ret dX3_init_28 rfl rfl
theorem k_3_119 {E : JE} {ps : List (Nat × Nat)} {u : JM} (hps : ∀ p ∈ ps, p.1 < 119) (hu : uz 120 u) : JCr E 120 123 1 YX3_init [.ref 119] ((119, 0) :: ps) u ps u := by
  refine JC.ofV (g := (120, RR 120 ((119, 0) :: ps), u)) (by decide +kernel) (by decide) (jcat1 rfl) ?_
  show JVr E 120 123 1 YX3_init _ 0 [some (.ref 119)] [] 120 ((119, 0) :: ps) u
  refine jv_aload_n dX3_init_0 rfl ?_
  refine jv_objInit ⟨(lw_ix 175 (by decide +kernel) (by decide +kernel)), (lw_ix 82 (by decide +kernel) (by decide +kernel)), (lw_ix 83 (by decide +kernel) (by decide +kernel))⟩ dX3_init_1 (by decide) (by decide) ?_
  refine jv_aload_n dX3_init_4 rfl ?_
  refine jv_bipush (v := nI 8) dX3_init_5 (by decide +kernel) ?_
  refine al_i dX3_init_7 rfl (by decide +kernel) hu ?_
  refine al_put (ci := 3) (k := 0) rfl inX3 tyX3_ok nmX3 (by decide) (by decide +kernel) rfl (fun b => ⟨rfl, rfl⟩) rfl rfl lk_3_9 dX3_init_9 rfl (by decide) (by decide) rfl (by decide +kernel) ?_
  refine jv_aload_n dX3_init_12 rfl ?_
  refine jv_bipush (v := nI 8) dX3_init_13 (by decide +kernel) ?_
  refine al_i dX3_init_15 rfl (by decide +kernel) (uz.up hu (show 120 ≤ 121 by decide)) ?_
  refine al_put (ci := 3) (k := 1) rfl inX3 tyX3_ok nmX3 (by decide) (by decide +kernel) rfl (fun b => ⟨rfl, rfl⟩) rfl rfl lk_3_15 dX3_init_17 rfl (by decide) (by decide) rfl (by decide +kernel) ?_
  refine jv_aload_n dX3_init_20 rfl ?_
  refine jv_bipush (v := nI 8) dX3_init_21 (by decide +kernel) ?_
  refine al_b dX3_init_23 rfl (by decide +kernel) (uz.up hu (show 120 ≤ 122 by decide)) ?_
  refine al_put (ci := 3) (k := 2) rfl inX3 tyX3_ok nmX3 (by decide) (by decide +kernel) rfl (fun b => ⟨rfl, rfl⟩) rfl rfl lk_3_18 dX3_init_25 rfl (by decide) (by decide) rfl (by decide +kernel) ?_
  refine al_done (by decide) (fun p hp => by have := hps p hp; omega) (by decide +kernel) ?_
  exact al_ret dX3_init_28 rfl rfl
theorem k_3_123 {E : JE} {ps : List (Nat × Nat)} {u : JM} (hps : ∀ p ∈ ps, p.1 < 123) (hu : uz 124 u) : JCr E 124 127 1 YX3_init [.ref 123] ((123, 0) :: ps) u ps u := by
  refine JC.ofV (g := (124, RR 124 ((123, 0) :: ps), u)) (by decide +kernel) (by decide) (jcat1 rfl) ?_
  show JVr E 124 127 1 YX3_init _ 0 [some (.ref 123)] [] 124 ((123, 0) :: ps) u
  refine jv_aload_n dX3_init_0 rfl ?_
  refine jv_objInit ⟨(lw_ix 175 (by decide +kernel) (by decide +kernel)), (lw_ix 82 (by decide +kernel) (by decide +kernel)), (lw_ix 83 (by decide +kernel) (by decide +kernel))⟩ dX3_init_1 (by decide) (by decide) ?_
  refine jv_aload_n dX3_init_4 rfl ?_
  refine jv_bipush (v := nI 8) dX3_init_5 (by decide +kernel) ?_
  refine al_i dX3_init_7 rfl (by decide +kernel) hu ?_
  refine al_put (ci := 3) (k := 0) rfl inX3 tyX3_ok nmX3 (by decide) (by decide +kernel) rfl (fun b => ⟨rfl, rfl⟩) rfl rfl lk_3_9 dX3_init_9 rfl (by decide) (by decide) rfl (by decide +kernel) ?_
  refine jv_aload_n dX3_init_12 rfl ?_
  refine jv_bipush (v := nI 8) dX3_init_13 (by decide +kernel) ?_
  refine al_i dX3_init_15 rfl (by decide +kernel) (uz.up hu (show 124 ≤ 125 by decide)) ?_
  refine al_put (ci := 3) (k := 1) rfl inX3 tyX3_ok nmX3 (by decide) (by decide +kernel) rfl (fun b => ⟨rfl, rfl⟩) rfl rfl lk_3_15 dX3_init_17 rfl (by decide) (by decide) rfl (by decide +kernel) ?_
  refine jv_aload_n dX3_init_20 rfl ?_
  refine jv_bipush (v := nI 8) dX3_init_21 (by decide +kernel) ?_
  refine al_b dX3_init_23 rfl (by decide +kernel) (uz.up hu (show 124 ≤ 126 by decide)) ?_
  refine al_put (ci := 3) (k := 2) rfl inX3 tyX3_ok nmX3 (by decide) (by decide +kernel) rfl (fun b => ⟨rfl, rfl⟩) rfl rfl lk_3_18 dX3_init_25 rfl (by decide) (by decide) rfl (by decide +kernel) ?_
  refine al_done (by decide) (fun p hp => by have := hps p hp; omega) (by decide +kernel) ?_
  exact al_ret dX3_init_28 rfl rfl
theorem k_4_109 {E : JE} {ps : List (Nat × Nat)} {u : JM} (hps : ∀ p ∈ ps, p.1 < 109) (hu : uz 110 u) : JCr E 110 127 2 YX4_init [.ref 109] ((109, 0) :: ps) u ps u := by
  refine JC.ofV (g := (110, RR 110 ((109, 0) :: ps), u)) (by decide +kernel) (by decide) (jcat1 rfl) ?_
  show JVr E 110 127 2 YX4_init _ 0 [some (.ref 109)] [] 110 ((109, 0) :: ps) u
  refine jv_aload_n dX4_init_0 rfl ?_
  refine jv_objInit ⟨(lw_ix 249 (by decide +kernel) (by decide +kernel)), (lw_ix 82 (by decide +kernel) (by decide +kernel)), (lw_ix 83 (by decide +kernel) (by decide +kernel))⟩ dX4_init_1 (by decide) (by decide) ?_
  refine jv_aload_n dX4_init_4 rfl ?_
  refine jv_bipush (v := nI 8) dX4_init_5 (by decide +kernel) ?_
  refine al_i dX4_init_7 rfl (by decide +kernel) hu ?_
  refine al_put (ci := 4) (k := 0) rfl inX4 tyX4_ok nmX4 (by decide) (by decide +kernel) rfl (fun b => ⟨rfl, rfl⟩) rfl rfl lk_4_9 dX4_init_9 rfl (by decide) (by decide) rfl (by decide +kernel) ?_
  refine jv_aload_n dX4_init_12 rfl ?_
  refine jv_bipush (v := nI 8) dX4_init_13 (by decide +kernel) ?_
  refine al_i dX4_init_15 rfl (by decide +kernel) (uz.up hu (show 110 ≤ 111 by decide)) ?_
  refine al_put (ci := 4) (k := 1) rfl inX4 tyX4_ok nmX4 (by decide) (by decide +kernel) rfl (fun b => ⟨rfl, rfl⟩) rfl rfl lk_4_15 dX4_init_17 rfl (by decide) (by decide) rfl (by decide +kernel) ?_
  refine jv_aload_n dX4_init_20 rfl ?_
  refine jv_bipush (v := nI 8) dX4_init_21 (by decide +kernel) ?_
  refine al_i dX4_init_23 rfl (by decide +kernel) (uz.up hu (show 110 ≤ 112 by decide)) ?_
  refine al_put (ci := 4) (k := 2) rfl inX4 tyX4_ok nmX4 (by decide) (by decide +kernel) rfl (fun b => ⟨rfl, rfl⟩) rfl rfl lk_4_18 dX4_init_25 rfl (by decide) (by decide) rfl (by decide +kernel) ?_
  refine jv_aload_n dX4_init_28 rfl ?_
  refine jv_bipush (v := nI 8) dX4_init_29 (by decide +kernel) ?_
  refine al_i dX4_init_31 rfl (by decide +kernel) (uz.up hu (show 110 ≤ 113 by decide)) ?_
  refine al_put (ci := 4) (k := 3) rfl inX4 tyX4_ok nmX4 (by decide) (by decide +kernel) rfl (fun b => ⟨rfl, rfl⟩) rfl rfl lk_4_21 dX4_init_33 rfl (by decide) (by decide) rfl (by decide +kernel) ?_
  refine jv_aload_n dX4_init_36 rfl ?_
  refine jv_iconst (v := nI 3) dX4_init_37 (by decide +kernel) ?_
  refine al_anew (lw_ix 250 (by decide +kernel) (by decide +kernel)) dX4_init_38 rfl (by decide +kernel) ?_
  refine jv_dup dX4_init_41 rfl ?_
  refine jv_iconst (v := nI 0) dX4_init_42 (by decide +kernel) ?_
  refine al_new (ci := 3) rfl inX3 tyX3_ok ⟨(lw_ix 250 (by decide +kernel) (by decide +kernel)), (lw_ix 171 (by decide +kernel) (by decide +kernel)), (lw_ix 67 (by decide +kernel) (by decide +kernel))⟩ dvX3 dX4_init_43 rfl (by decide) (by decide) (uz.up hu (show 110 ≤ 115 by decide)) ?_
  refine jv_dup dX4_init_46 rfl ?_
  refine jv_callIN (as := []) (a := 115) (d' := 1) (n1 := 119) ci_4_26 dX4_init_47 rfl (by decide) (by decide) (Nat.le_of_ble_eq_true rfl) (Nat.le_of_ble_eq_true rfl) (by decide) (k_3_115 (List.forall_mem_cons.mpr ⟨by decide, (List.forall_mem_cons.mpr ⟨by decide, (fun p hp => by have := hps p hp; omega)⟩)⟩) (uz.up hu (show 110 ≤ 116 by decide))) ?_
  rintro _ _ ⟨rfl, rfl⟩ _
  refine al_aast (k := 0) dX4_init_50 rfl rfl (by decide) (by decide +kernel) (by decide) rfl (by decide +kernel) ?_
  refine jv_dup dX4_init_51 rfl ?_
  refine jv_iconst (v := nI 1) dX4_init_52 (by decide +kernel) ?_
  refine al_new (ci := 3) rfl inX3 tyX3_ok ⟨(lw_ix 250 (by decide +kernel) (by decide +kernel)), (lw_ix 171 (by decide +kernel) (by decide +kernel)), (lw_ix 67 (by decide +kernel) (by decide +kernel))⟩ dvX3 dX4_init_53 rfl (by decide) (by decide) (uz.up hu (show 110 ≤ 119 by decide)) ?_
  refine jv_dup dX4_init_56 rfl ?_
  refine jv_callIN (as := []) (a := 119) (d' := 1) (n1 := 123) ci_4_26 dX4_init_57 rfl (by decide) (by decide) (Nat.le_of_ble_eq_true rfl) (Nat.le_of_ble_eq_true rfl) (by decide) (k_3_119 (List.forall_mem_cons.mpr ⟨by decide, (List.forall_mem_cons.mpr ⟨by decide, (fun p hp => by have := hps p hp; omega)⟩)⟩) (uz.up hu (show 110 ≤ 120 by decide))) ?_
  rintro _ _ ⟨rfl, rfl⟩ _
  refine al_aast (k := 1) dX4_init_60 rfl rfl (by decide) (by decide +kernel) (by decide) rfl (by decide +kernel) ?_
  refine jv_dup dX4_init_61 rfl ?_
  refine jv_iconst (v := nI 2) dX4_init_62 (by decide +kernel) ?_
  refine al_new (ci := 3) rfl inX3 tyX3_ok ⟨(lw_ix 250 (by decide +kernel) (by decide +kernel)), (lw_ix 171 (by decide +kernel) (by decide +kernel)), (lw_ix 67 (by decide +kernel) (by decide +kernel))⟩ dvX3 dX4_init_63 rfl (by decide) (by decide) (uz.up hu (show 110 ≤ 123 by decide)) ?_
  refine jv_dup dX4_init_66 rfl ?_
  refine jv_callIN (as := []) (a := 123) (d' := 1) (n1 := 127) ci_4_26 dX4_init_67 rfl (by decide) (by decide) (Nat.le_of_ble_eq_true rfl) (Nat.le_of_ble_eq_true rfl) (by decide) (k_3_123 (List.forall_mem_cons.mpr ⟨by decide, (List.forall_mem_cons.mpr ⟨by decide, (fun p hp => by have := hps p hp; omega)⟩)⟩) (uz.up hu (show 110 ≤ 124 by decide))) ?_
  rintro _ _ ⟨rfl, rfl⟩ _
  refine al_aast (k := 2) dX4_init_70 rfl rfl (by decide) (by decide +kernel) (by decide) rfl (by decide +kernel) ?_
  refine al_done (by decide) (List.forall_mem_cons.mpr ⟨by decide, fun p hp => by have := hps p hp; omega⟩) (by decide +kernel) ?_
  refine al_put (ci := 4) (k := 4) rfl inX4 tyX4_ok nmX4 (by decide) (by decide +kernel) rfl (fun b => ⟨rfl, rfl⟩) rfl rfl lk_4_27 dX4_init_71 rfl (by decide) (by decide) rfl (by decide +kernel) ?_
  refine al_done (by decide) (fun p hp => by have := hps p hp; omega) (by decide +kernel) ?_
  exact al_ret dX4_init_74 rfl rfl
theorem ci_7_31 : jcIN RX7 31 YX6_init 0 "LinkRouter" := ⟨⟨(lw_ix 280 (by decide +kernel) (by decide +kernel)), (lw_ix 69 (by decide +kernel) (by decide +kernel)), by decide +kernel, by decide +kernel, by decide +kernel⟩, rfl, rfl, (lw_nx 278 (by decide +kernel) (by decide +kernel)), (lw_ix 279 (by decide +kernel) (by decide +kernel))⟩
theorem k_6_127 {E : JE} {ps : List (Nat × Nat)} {u : JM} (hps : ∀ p ∈ ps, p.1 < 127) (hu : uz 128 u) : JCr E 128 129 1 YX6_init [.ref 127] ((127, 0) :: ps) u ps u := by
  refine JC.ofV (g := (128, RR 128 ((127, 0) :: ps), u)) (by decide +kernel) (by decide) (jcat1 rfl) ?_
  show JVr E 128 129 1 YX6_init _ 0 [some (.ref 127)] [] 128 ((127, 0) :: ps) u
  refine jv_aload_n dX6_init_0 rfl ?_
  refine jv_objInit ⟨(lw_ix 281 (by decide +kernel) (by decide +kernel)), (lw_ix 82 (by decide +kernel) (by decide +kernel)), (lw_ix 83 (by decide +kernel) (by decide +kernel))⟩ dX6_init_1 (by decide) (by decide) ?_
  refine jv_aload_n dX6_init_4 rfl ?_
  refine jv_bipush (v := nI 9) dX6_init_5 (by decide +kernel) ?_
  refine al_i dX6_init_7 rfl (by decide +kernel) hu ?_
  refine al_put (ci := 6) (k := 3) rfl inX6 tyX6_ok nmX6 (by decide) (by decide +kernel) rfl (fun b => ⟨rfl, rfl⟩) rfl rfl lk_6_9 dX6_init_9 rfl (by decide) (by decide) rfl (by decide +kernel) ?_
  refine al_done (by decide) (fun p hp => by have := hps p hp; omega) (by decide +kernel) ?_
  exact al_ret dX6_init_12 rfl rfl
theorem ci_7_38 : jcIN RX7 38 YX5_init 0 "LinkRouter" := ⟨⟨(lw_ix 303 (by decide +kernel) (by decide +kernel)), (lw_ix 70 (by decide +kernel) (by decide +kernel)), by decide +kernel, by decide +kernel, by decide +kernel⟩, rfl, rfl, (lw_nx 301 (by decide +kernel) (by decide +kernel)), (lw_ix 302 (by decide +kernel) (by decide +kernel))⟩
theorem k_5_129 {E : JE} {ps : List (Nat × Nat)} {u : JM} (hps : ∀ p ∈ ps, p.1 < 129) (hu : uz 130 u) : JCr E 130 137 1 YX5_init [.ref 129] ((129, 0) :: ps) u ps (uS u 130) := by
  refine JC.ofV (g := (130, RR 130 ((129, 0) :: ps), u)) (by decide +kernel) (by decide) (jcat1 rfl) ?_
  show JVr E 130 137 1 YX5_init _ 0 [some (.ref 129)] [] 130 ((129, 0) :: ps) u
  refine jv_aload_n dX5_init_0 rfl ?_
  refine jv_objInit ⟨(lw_ix 304 (by decide +kernel) (by decide +kernel)), (lw_ix 82 (by decide +kernel) (by decide +kernel)), (lw_ix 83 (by decide +kernel) (by decide +kernel))⟩ dX5_init_1 (by decide) (by decide) ?_
  refine jv_aload_n dX5_init_4 rfl ?_
  refine jv_iconst (v := nI 4) dX5_init_5 (by decide +kernel) ?_
  refine al_i dX5_init_6 rfl (by decide +kernel) hu ?_
  refine jv_dup dX5_init_8 rfl ?_
  refine jv_iconst (v := nI 0) dX5_init_9 (by decide +kernel) ?_
  refine jv_iconst (v := -1) dX5_init_10 (by decide +kernel) ?_
  refine al_ist (k := 0) dX5_init_11 rfl (by decide) (by decide) ?_
  refine jv_dup dX5_init_12 rfl ?_
  refine jv_iconst (v := nI 1) dX5_init_13 (by decide +kernel) ?_
  refine jv_iconst (v := -1) dX5_init_14 (by decide +kernel) ?_
  refine al_ist (k := 1) dX5_init_15 rfl (by decide) (by decide) ?_
  refine jv_dup dX5_init_16 rfl ?_
  refine jv_iconst (v := nI 2) dX5_init_17 (by decide +kernel) ?_
  refine jv_iconst (v := -1) dX5_init_18 (by decide +kernel) ?_
  refine al_ist (k := 2) dX5_init_19 rfl (by decide) (by decide) ?_
  refine jv_dup dX5_init_20 rfl ?_
  refine jv_iconst (v := nI 3) dX5_init_21 (by decide +kernel) ?_
  refine jv_iconst (v := -1) dX5_init_22 (by decide +kernel) ?_
  refine al_ist (k := 3) dX5_init_23 rfl (by decide) (by decide) ?_
  refine al_put (ci := 5) (k := 0) rfl inX5 tyX5_ok nmX5 (by decide) (by decide +kernel) rfl (fun b => ⟨rfl, rfl⟩) rfl rfl lk_5_9 dX5_init_24 rfl (by decide) (by decide) rfl (by decide +kernel) ?_
  refine jv_aload_n dX5_init_27 rfl ?_
  refine jv_iconst (v := nI 4) dX5_init_28 (by decide +kernel) ?_
  refine al_i dX5_init_29 rfl (by decide +kernel) (uz.jw (uz.jw (uz.jw (uz.jw (uz.up hu (show 130 ≤ 131 by decide)) (by decide)) (by decide)) (by decide)) (by decide)) ?_
  refine al_put (ci := 5) (k := 1) rfl inX5 tyX5_ok nmX5 (by decide) (by decide +kernel) rfl (fun b => ⟨rfl, rfl⟩) rfl rfl lk_5_15 dX5_init_31 rfl (by decide) (by decide) rfl (by decide +kernel) ?_
  refine jv_aload_n dX5_init_34 rfl ?_
  refine jv_iconst (v := nI 4) dX5_init_35 (by decide +kernel) ?_
  refine jv_bipush (v := nI 40) dX5_init_36 (by decide +kernel) ?_
  refine al_m2 (N := 4) (M := 40) (lw_ix 305 (by decide +kernel) (by decide +kernel)) dX5_init_38 rfl (rg_all (by decide +kernel)) (by decide +kernel) (List.forall_mem_cons.mpr ⟨by decide, (fun p hp => by have := hps p hp; omega)⟩) (uz.up (uz.jw (uz.jw (uz.jw (uz.jw (uz.up hu (show 130 ≤ 131 by decide)) (by decide)) (by decide)) (by decide)) (by decide)) (show 131 ≤ 132 by decide)) (rg_all (by decide +kernel)) ?_
  refine al_put (ci := 5) (k := 2) rfl inX5 tyX5_ok nmX5 (by decide) (by decide +kernel) rfl (fun b => ⟨rfl, rfl⟩) rfl rfl lk_5_20 dX5_init_42 rfl (by decide) (by decide) rfl (by decide +kernel) ?_
  refine al_done (by decide) (fun p hp => by have := hps p hp; omega) (by decide +kernel) ?_
  exact al_ret dX5_init_45 rfl rfl
theorem k_7_0 {E : JE} {ps : List (Nat × Nat)} {u : JM} (hps : ∀ p ∈ ps, p.1 < 0) (hu : uz 1 u) : JCr E 1 137 3 YX7_init [.ref 0] ((0, 0) :: ps) u ps (uS u 130) := by
  refine JC.ofV (g := (1, RR 1 ((0, 0) :: ps), u)) (by decide +kernel) (by decide) (jcat1 rfl) ?_
  show JVr E 1 137 3 YX7_init _ 0 [some (.ref 0)] [] 1 ((0, 0) :: ps) u
  refine jv_aload_n dX7_init_0 rfl ?_
  refine jv_objInit ⟨(lw_ix 81 (by decide +kernel) (by decide +kernel)), (lw_ix 82 (by decide +kernel) (by decide +kernel)), (lw_ix 83 (by decide +kernel) (by decide +kernel))⟩ dX7_init_1 (by decide) (by decide) ?_
  refine jv_aload_n dX7_init_4 rfl ?_
  refine al_new (ci := 2) rfl inX2 tyX2_ok ⟨(lw_ix 84 (by decide +kernel) (by decide +kernel)), (lw_ix 85 (by decide +kernel) (by decide +kernel)), (lw_ix 64 (by decide +kernel) (by decide +kernel))⟩ dvX2 dX7_init_5 rfl (by decide) (by decide) hu ?_
  refine jv_dup dX7_init_8 rfl ?_
  refine jv_callIN (as := []) (a := 1) (d' := 2) (n1 := 37) ci_7_9 dX7_init_9 rfl (by decide) (by decide) (Nat.le_of_ble_eq_true rfl) (Nat.le_of_ble_eq_true rfl) (by decide) (k_2_1 (List.forall_mem_cons.mpr ⟨by decide, (fun p hp => by have := hps p hp; omega)⟩) (uz.up hu (show 1 ≤ 2 by decide))) ?_
  rintro _ _ ⟨rfl, rfl⟩ _
  refine al_put (ci := 7) (k := 0) rfl inX7 tyX7_ok nmX7 (by decide) (by decide +kernel) rfl (fun b => ⟨rfl, rfl⟩) rfl rfl lk_7_10 dX7_init_12 rfl (by decide) (by decide) rfl (by decide +kernel) ?_
  refine jv_aload_n dX7_init_15 rfl ?_
  refine al_new (ci := 2) rfl inX2 tyX2_ok ⟨(lw_ix 84 (by decide +kernel) (by decide +kernel)), (lw_ix 85 (by decide +kernel) (by decide +kernel)), (lw_ix 64 (by decide +kernel) (by decide +kernel))⟩ dvX2 dX7_init_16 rfl (by decide) (by decide) (uz.up hu (show 1 ≤ 37 by decide)) ?_
  refine jv_dup dX7_init_19 rfl ?_
  refine jv_callIN (as := []) (a := 37) (d' := 2) (n1 := 73) ci_7_9 dX7_init_20 rfl (by decide) (by decide) (Nat.le_of_ble_eq_true rfl) (Nat.le_of_ble_eq_true rfl) (by decide) (k_2_37 (List.forall_mem_cons.mpr ⟨by decide, (fun p hp => by have := hps p hp; omega)⟩) (uz.up hu (show 1 ≤ 38 by decide))) ?_
  rintro _ _ ⟨rfl, rfl⟩ _
  refine al_put (ci := 7) (k := 1) rfl inX7 tyX7_ok nmX7 (by decide) (by decide +kernel) rfl (fun b => ⟨rfl, rfl⟩) rfl rfl lk_7_16 dX7_init_23 rfl (by decide) (by decide) rfl (by decide +kernel) ?_
  refine jv_aload_n dX7_init_26 rfl ?_
  refine al_new (ci := 2) rfl inX2 tyX2_ok ⟨(lw_ix 84 (by decide +kernel) (by decide +kernel)), (lw_ix 85 (by decide +kernel) (by decide +kernel)), (lw_ix 64 (by decide +kernel) (by decide +kernel))⟩ dvX2 dX7_init_27 rfl (by decide) (by decide) (uz.up hu (show 1 ≤ 73 by decide)) ?_
  refine jv_dup dX7_init_30 rfl ?_
  refine jv_callIN (as := []) (a := 73) (d' := 2) (n1 := 109) ci_7_9 dX7_init_31 rfl (by decide) (by decide) (Nat.le_of_ble_eq_true rfl) (Nat.le_of_ble_eq_true rfl) (by decide) (k_2_73 (List.forall_mem_cons.mpr ⟨by decide, (fun p hp => by have := hps p hp; omega)⟩) (uz.up hu (show 1 ≤ 74 by decide))) ?_
  rintro _ _ ⟨rfl, rfl⟩ _
  refine al_put (ci := 7) (k := 2) rfl inX7 tyX7_ok nmX7 (by decide) (by decide +kernel) rfl (fun b => ⟨rfl, rfl⟩) rfl rfl lk_7_19 dX7_init_34 rfl (by decide) (by decide) rfl (by decide +kernel) ?_
  refine jv_aload_n dX7_init_37 rfl ?_
  refine al_new (ci := 4) rfl inX4 tyX4_ok ⟨(lw_ix 244 (by decide +kernel) (by decide +kernel)), (lw_ix 245 (by decide +kernel) (by decide +kernel)), (lw_ix 68 (by decide +kernel) (by decide +kernel))⟩ dvX4 dX7_init_38 rfl (by decide) (by decide) (uz.up hu (show 1 ≤ 109 by decide)) ?_
  refine jv_dup dX7_init_41 rfl ?_
  refine jv_callIN (as := []) (a := 109) (d' := 2) (n1 := 127) ci_7_24 dX7_init_42 rfl (by decide) (by decide) (Nat.le_of_ble_eq_true rfl) (Nat.le_of_ble_eq_true rfl) (by decide) (k_4_109 (List.forall_mem_cons.mpr ⟨by decide, (fun p hp => by have := hps p hp; omega)⟩) (uz.up hu (show 1 ≤ 110 by decide))) ?_
  rintro _ _ ⟨rfl, rfl⟩ _
  refine al_put (ci := 7) (k := 4) rfl inX7 tyX7_ok nmX7 (by decide) (by decide +kernel) rfl (fun b => ⟨rfl, rfl⟩) rfl rfl lk_7_25 dX7_init_45 rfl (by decide) (by decide) rfl (by decide +kernel) ?_
  refine jv_aload_n dX7_init_48 rfl ?_
  refine al_new (ci := 6) rfl inX6 tyX6_ok ⟨(lw_ix 276 (by decide +kernel) (by decide +kernel)), (lw_ix 277 (by decide +kernel) (by decide +kernel)), (lw_ix 69 (by decide +kernel) (by decide +kernel))⟩ dvX6 dX7_init_49 rfl (by decide) (by decide) (uz.up hu (show 1 ≤ 127 by decide)) ?_
  refine jv_dup dX7_init_52 rfl ?_
  refine jv_callIN (as := []) (a := 127) (d' := 1) (n1 := 129) ci_7_31 dX7_init_53 rfl (by decide) (by decide) (Nat.le_of_ble_eq_true rfl) (Nat.le_of_ble_eq_true rfl) (by decide) (k_6_127 (List.forall_mem_cons.mpr ⟨by decide, (fun p hp => by have := hps p hp; omega)⟩) (uz.up hu (show 1 ≤ 128 by decide))) ?_
  rintro _ _ ⟨rfl, rfl⟩ _
  refine al_put (ci := 7) (k := 5) rfl inX7 tyX7_ok nmX7 (by decide) (by decide +kernel) rfl (fun b => ⟨rfl, rfl⟩) rfl rfl lk_7_32 dX7_init_56 rfl (by decide) (by decide) rfl (by decide +kernel) ?_
  refine jv_aload_n dX7_init_59 rfl ?_
  refine al_new (ci := 5) rfl inX5 tyX5_ok ⟨(lw_ix 299 (by decide +kernel) (by decide +kernel)), (lw_ix 300 (by decide +kernel) (by decide +kernel)), (lw_ix 70 (by decide +kernel) (by decide +kernel))⟩ dvX5 dX7_init_60 rfl (by decide) (by decide) (uz.up hu (show 1 ≤ 129 by decide)) ?_
  refine jv_dup dX7_init_63 rfl ?_
  refine jv_callIN (as := []) (a := 129) (d' := 1) (n1 := 137) ci_7_38 dX7_init_64 rfl (by decide) (by decide) (Nat.le_of_ble_eq_true rfl) (Nat.le_of_ble_eq_true rfl) (by decide) (k_5_129 (List.forall_mem_cons.mpr ⟨by decide, (fun p hp => by have := hps p hp; omega)⟩) (uz.up hu (show 1 ≤ 130 by decide))) ?_
  rintro _ _ ⟨rfl, rfl⟩ _
  refine al_put (ci := 7) (k := 6) rfl inX7 tyX7_ok nmX7 (by decide) (by decide +kernel) rfl (fun b => ⟨rfl, rfl⟩) rfl rfl lk_7_39 dX7_init_67 rfl (by decide) (by decide) rfl (by decide +kernel) ?_
  refine al_done (by decide) (fun p hp => by have := hps p hp; omega) (by decide +kernel) ?_
  exact al_ret dX7_init_70 rfl rfl
