/-! small rows for the segments -/
theorem vp_lt {i : Int32} {n : Nat} (h : vp_in i n) : i.toNatClampNeg < n := Nat.not_le.mp fun q => h (Or.inr q)
theorem vp_lit (k n : Nat) (h : (Nat.blt k n && Nat.blt n 2147483648) = true) : vp_in (OfNat.ofNat k : Int32) n := by
  rw [Bool.and_eq_true] at h
  have h1 : k < n := Nat.le_of_ble_eq_true h.1
  have h2 : n < 2147483648 := Nat.le_of_ble_eq_true h.2
  exact vp_in_nI h1 (by omega)
theorem i32_ne {x k : Int32} (h : ¬ x = k) : x.toInt ≠ k.toInt := fun q => h (Int32.toInt_inj.mp q)
def jsub : List (Option Value) → List (Option Value) → Prop
  | [], _ => True
  | none :: r, [] => jsub r []
  | none :: r, _ :: r' => jsub r r'
  | some v :: r, some w :: r' => v = w ∧ jsub r r'
  | some _ :: _, _ => False
theorem jsub_get : ∀ {ls' ls : List (Option Value)}, jsub ls' ls → ∀ {k : Nat} {v : Value}, ls'[k]? = some (some v) → ls[k]? = some (some v)
  | [], _, _, k, v, hk => by simp at hk
  | none :: r, [], h, k, v, hk => by
    cases k with
    | zero => simp at hk
    | succ k => have := jsub_get (ls' := r) (ls := []) h (k := k) (v := v) hk; simp at this
  | none :: r, _ :: r', h, k, v, hk => by
    cases k with
    | zero => simp at hk
    | succ k => exact jsub_get (ls' := r) (ls := r') h (k := k) (v := v) hk
  | some a :: r, some b :: r', h, k, v, hk => by
    cases k with
    | zero => simp at hk; simp [hk, ← h.1]
    | succ k => exact jsub_get (ls' := r) (ls := r') h.2 (k := k) (v := v) hk
  | some a :: r, [], h, k, v, hk => h.elim
  | some a :: r, none :: r', h, k, v, hk => h.elim
theorem jv_sub {E : JE} {n0 nE d : Nat} {y : JY} {K : Option Value → JS → Prop} {pc : Nat} {ls ls' : List (Option Value)} {st : List Value} {g : JS} (hs : jsub ls' ls) (h : JV E n0 nE d y K pc ls' st g) : JV E n0 nE d y K pc ls st g := by
  intro p e s m args below meth c H locs A X hH hS hl
  refine h p e s m args below meth c H locs A X hH hS ⟨⟨hl.1.1, hl.1.2.1, fun q hq => ?_⟩, fun k v hk => hl.2 k v (jsub_get hs hk)⟩
  obtain ⟨k, v, hk, rfl⟩ := jll_mem.mp hq
  exact hl.1.2.2 _ (jll_mem.mpr ⟨k, v, jsub_get hs hk, rfl⟩)
theorem jm_sub {E : JE} {d : Nat} {y : JY} {K : Option Value → JS → Prop} {pc : Nat} {ls ls' : List (Option Value)} {st : List Value} {u : JM} (hs : jsub ls' ls) (h : JVm E d y K pc ls' st u) : JVm E d y K pc ls st u := jv_sub hs h
def jb (p : Prop) [Decidable p] : Int32 := if p then 1 else 0
theorem jb_t {p : Prop} [Decidable p] (h : p) : jb p = 1 := if_pos h
theorem jb_f {p : Prop} [Decidable p] (h : ¬ p) : jb p = 0 := if_neg h
theorem jb_0 {p : Prop} [Decidable p] : jb p = 0 ↔ ¬ p := by
  unfold jb; split <;> simp [*]
theorem jb_n0 {p : Prop} [Decidable p] : ¬ jb p = 0 ↔ p := by
  unfold jb; split <;> simp [*]
theorem jb_01 (p : Prop) [Decidable p] : jb p = 0 ∨ jb p = 1 := by
  unfold jb; split <;> simp
theorem ci_bipush_m11 : (Int8.ofInt (-11)).toInt32 = (-11) := by decide
theorem ci_bipush_m12 : (Int8.ofInt (-12)).toInt32 = (-12) := by decide
theorem ci_bipush_m13 : (Int8.ofInt (-13)).toInt32 = (-13) := by decide
theorem ci_bipush_m14 : (Int8.ofInt (-14)).toInt32 = (-14) := by decide
theorem ci_bipush_m2 : (Int8.ofInt (-2)).toInt32 = (-2) := by decide
theorem ci_bipush_m3 : (Int8.ofInt (-3)).toInt32 = (-3) := by decide
theorem ci_bipush_m4 : (Int8.ofInt (-4)).toInt32 = (-4) := by decide
theorem ci_bipush_10 : (Int8.ofInt 10).toInt32 = 10 := by decide
theorem ci_bipush_12 : (Int8.ofInt 12).toInt32 = 12 := by decide
theorem ci_bipush_16 : (Int8.ofInt 16).toInt32 = 16 := by decide
theorem ci_bipush_18 : (Int8.ofInt 18).toInt32 = 18 := by decide
theorem ci_bipush_19 : (Int8.ofInt 19).toInt32 = 19 := by decide
theorem ci_bipush_20 : (Int8.ofInt 20).toInt32 = 20 := by decide
theorem ci_bipush_21 : (Int8.ofInt 21).toInt32 = 21 := by decide
theorem ci_bipush_22 : (Int8.ofInt 22).toInt32 = 22 := by decide
theorem ci_bipush_24 : (Int8.ofInt 24).toInt32 = 24 := by decide
theorem ci_bipush_30 : (Int8.ofInt 30).toInt32 = 30 := by decide
theorem ci_bipush_37 : (Int8.ofInt 37).toInt32 = 37 := by decide
theorem ci_bipush_38 : (Int8.ofInt 38).toInt32 = 38 := by decide
theorem ci_bipush_40 : (Int8.ofInt 40).toInt32 = 40 := by decide
theorem ci_bipush_6 : (Int8.ofInt 6).toInt32 = 6 := by decide
theorem ci_bipush_60 : (Int8.ofInt 60).toInt32 = 60 := by decide
theorem ci_bipush_63 : (Int8.ofInt 63).toInt32 = 63 := by decide
theorem ci_bipush_7 : (Int8.ofInt 7).toInt32 = 7 := by decide
theorem ci_bipush_8 : (Int8.ofInt 8).toInt32 = 8 := by decide
theorem ci_bipush_80 : (Int8.ofInt 80).toInt32 = 80 := by decide
theorem ci_bipush_9 : (Int8.ofInt 9).toInt32 = 9 := by decide
theorem ci_bipush_99 : (Int8.ofInt 99).toInt32 = 99 := by decide
theorem cst_J6_265 : Cond.constant RJ6 265 1431655765 ∈ lw_gd := lw_ix 655 (by decide +kernel) (by decide +kernel)
theorem cst_J6_266 : Cond.constant RJ6 266 858993459 ∈ lw_gd := lw_ix 656 (by decide +kernel) (by decide +kernel)
theorem cst_J6_267 : Cond.constant RJ6 267 252645135 ∈ lw_gd := lw_ix 657 (by decide +kernel) (by decide +kernel)
theorem cst_X7_295 : Cond.constant RX7 295 1103515245 ∈ lw_gd := lw_ix 647 (by decide +kernel) (by decide +kernel)
theorem cst_X8_285 : Cond.constant RX8 285 1103515245 ∈ lw_gd := lw_ix 1135 (by decide +kernel) (by decide +kernel)
theorem ci_iconst_m1 : Int32.ofInt (-1) = (-1) := by decide
theorem ci_iconst_0 : Int32.ofInt 0 = 0 := by decide
theorem ci_iconst_1 : Int32.ofInt 1 = 1 := by decide
theorem ci_iconst_2 : Int32.ofInt 2 = 2 := by decide
theorem ci_iconst_3 : Int32.ofInt 3 = 3 := by decide
theorem ci_iconst_4 : Int32.ofInt 4 = 4 := by decide
theorem ci_iconst_5 : Int32.ofInt 5 = 5 := by decide
theorem ci_sipush_12345 : (Int16.ofInt 12345).toInt32 = 12345 := by decide
theorem ci_sipush_192 : (Int16.ofInt 192).toInt32 = 192 := by decide
theorem ci_sipush_400 : (Int16.ofInt 400).toInt32 = 400 := by decide
theorem ci_sipush_9999 : (Int16.ofInt 9999).toInt32 = 9999 := by decide
theorem tI_m14 : ((-14) : Int32).toInt = (-14) := by decide
theorem tI_m13 : ((-13) : Int32).toInt = (-13) := by decide
theorem tI_m12 : ((-12) : Int32).toInt = (-12) := by decide
theorem tI_m11 : ((-11) : Int32).toInt = (-11) := by decide
theorem tI_m10 : ((-10) : Int32).toInt = (-10) := by decide
theorem tI_m9 : ((-9) : Int32).toInt = (-9) := by decide
theorem tI_m8 : ((-8) : Int32).toInt = (-8) := by decide
theorem tI_m7 : ((-7) : Int32).toInt = (-7) := by decide
theorem tI_m6 : ((-6) : Int32).toInt = (-6) := by decide
theorem tI_m5 : ((-5) : Int32).toInt = (-5) := by decide
theorem tI_m4 : ((-4) : Int32).toInt = (-4) := by decide
theorem tI_m3 : ((-3) : Int32).toInt = (-3) := by decide
theorem tI_m2 : ((-2) : Int32).toInt = (-2) := by decide
theorem tI_m1 : ((-1) : Int32).toInt = (-1) := by decide
theorem tI_0 : (0 : Int32).toInt = 0 := by decide
theorem tI_1 : (1 : Int32).toInt = 1 := by decide
theorem tI_2 : (2 : Int32).toInt = 2 := by decide
theorem tI_3 : (3 : Int32).toInt = 3 := by decide
theorem tI_4 : (4 : Int32).toInt = 4 := by decide
theorem tI_5 : (5 : Int32).toInt = 5 := by decide
theorem tI_6 : (6 : Int32).toInt = 6 := by decide
theorem tI_7 : (7 : Int32).toInt = 7 := by decide
theorem tI_8 : (8 : Int32).toInt = 8 := by decide
theorem tI_9 : (9 : Int32).toInt = 9 := by decide
theorem tI_10 : (10 : Int32).toInt = 10 := by decide
theorem tI_11 : (11 : Int32).toInt = 11 := by decide
theorem tI_12 : (12 : Int32).toInt = 12 := by decide
theorem tI_13 : (13 : Int32).toInt = 13 := by decide
theorem tI_14 : (14 : Int32).toInt = 14 := by decide
theorem tI_15 : (15 : Int32).toInt = 15 := by decide
theorem tI_16 : (16 : Int32).toInt = 16 := by decide
theorem tI_17 : (17 : Int32).toInt = 17 := by decide
theorem tI_18 : (18 : Int32).toInt = 18 := by decide
theorem tI_19 : (19 : Int32).toInt = 19 := by decide
theorem tI_20 : (20 : Int32).toInt = 20 := by decide
theorem tI_21 : (21 : Int32).toInt = 21 := by decide
theorem tI_22 : (22 : Int32).toInt = 22 := by decide
theorem tI_23 : (23 : Int32).toInt = 23 := by decide
theorem tI_24 : (24 : Int32).toInt = 24 := by decide
theorem tI_25 : (25 : Int32).toInt = 25 := by decide
theorem tI_26 : (26 : Int32).toInt = 26 := by decide
theorem tI_27 : (27 : Int32).toInt = 27 := by decide
theorem tI_28 : (28 : Int32).toInt = 28 := by decide
theorem tI_29 : (29 : Int32).toInt = 29 := by decide
theorem tI_30 : (30 : Int32).toInt = 30 := by decide
theorem tI_31 : (31 : Int32).toInt = 31 := by decide
theorem tI_32 : (32 : Int32).toInt = 32 := by decide
theorem tI_33 : (33 : Int32).toInt = 33 := by decide
theorem tI_34 : (34 : Int32).toInt = 34 := by decide
theorem tI_35 : (35 : Int32).toInt = 35 := by decide
theorem tI_36 : (36 : Int32).toInt = 36 := by decide
theorem tI_37 : (37 : Int32).toInt = 37 := by decide
theorem tI_38 : (38 : Int32).toInt = 38 := by decide
theorem tI_39 : (39 : Int32).toInt = 39 := by decide
theorem tI_40 : (40 : Int32).toInt = 40 := by decide
theorem tI_60 : (60 : Int32).toInt = 60 := by decide
theorem tI_63 : (63 : Int32).toInt = 63 := by decide
theorem tI_80 : (80 : Int32).toInt = 80 := by decide
theorem tI_99 : (99 : Int32).toInt = 99 := by decide
theorem tI_192 : (192 : Int32).toInt = 192 := by decide
theorem tI_400 : (400 : Int32).toInt = 400 := by decide
theorem tI_9999 : (9999 : Int32).toInt = 9999 := by decide
theorem tI_12345 : (12345 : Int32).toInt = 12345 := by decide
