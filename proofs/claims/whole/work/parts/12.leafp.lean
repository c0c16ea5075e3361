/-! leaves: contracts -/
/-- between two bounds -/
abbrev rg (a : Int32) (lo hi : Int) : Prop := lo ≤ a.toInt ∧ a.toInt ≤ hi
theorem p_X7_isRouter {E : JE} {u : JM} {K : Int32 → JM → Prop}  {a1 : Int32} (hK : K (jb (rg a1 0 7)) u) : JCi E 1 YX7_isRouter [.int a1] K u := by
  refine JCi.ofV (ls := [some (.int a1)]) (by decide +kernel) (Nat.le_of_ble_eq_true rfl) rfl rfl (g_X7_isRouter_0  ?_)
  refine ⟨fun c => ?_, fun c => ⟨fun c' => ?_, fun c' => ?_⟩⟩
  · rwa [jb_f (by simp only [Int32.lt_iff_toInt_lt, Int32.le_iff_toInt_le, ← Int32.toInt_inj, tI_m14, tI_m13, tI_m12, tI_m11, tI_m10, tI_m9, tI_m8, tI_m7, tI_m6, tI_m5, tI_m4, tI_m3, tI_m2, tI_m1, tI_0, tI_1, tI_2, tI_3, tI_4, tI_5, tI_6, tI_7, tI_8, tI_9, tI_10, tI_11, tI_12, tI_13, tI_14, tI_15, tI_16, tI_17, tI_18, tI_19, tI_20, tI_21, tI_22, tI_23, tI_24, tI_25, tI_26, tI_27, tI_28, tI_29, tI_30, tI_31, tI_32, tI_33, tI_34, tI_35, tI_36, tI_37, tI_38, tI_39, tI_40, tI_60, tI_63, tI_80, tI_99, tI_192, tI_400, tI_9999, tI_12345] at *; omega)] at hK
  · rwa [jb_f (by simp only [Int32.lt_iff_toInt_lt, Int32.le_iff_toInt_le, ← Int32.toInt_inj, tI_m14, tI_m13, tI_m12, tI_m11, tI_m10, tI_m9, tI_m8, tI_m7, tI_m6, tI_m5, tI_m4, tI_m3, tI_m2, tI_m1, tI_0, tI_1, tI_2, tI_3, tI_4, tI_5, tI_6, tI_7, tI_8, tI_9, tI_10, tI_11, tI_12, tI_13, tI_14, tI_15, tI_16, tI_17, tI_18, tI_19, tI_20, tI_21, tI_22, tI_23, tI_24, tI_25, tI_26, tI_27, tI_28, tI_29, tI_30, tI_31, tI_32, tI_33, tI_34, tI_35, tI_36, tI_37, tI_38, tI_39, tI_40, tI_60, tI_63, tI_80, tI_99, tI_192, tI_400, tI_9999, tI_12345] at *; omega)] at hK
  · rwa [jb_t (by simp only [Int32.lt_iff_toInt_lt, Int32.le_iff_toInt_le, ← Int32.toInt_inj, tI_m14, tI_m13, tI_m12, tI_m11, tI_m10, tI_m9, tI_m8, tI_m7, tI_m6, tI_m5, tI_m4, tI_m3, tI_m2, tI_m1, tI_0, tI_1, tI_2, tI_3, tI_4, tI_5, tI_6, tI_7, tI_8, tI_9, tI_10, tI_11, tI_12, tI_13, tI_14, tI_15, tI_16, tI_17, tI_18, tI_19, tI_20, tI_21, tI_22, tI_23, tI_24, tI_25, tI_26, tI_27, tI_28, tI_29, tI_30, tI_31, tI_32, tI_33, tI_34, tI_35, tI_36, tI_37, tI_38, tI_39, tI_40, tI_60, tI_63, tI_80, tI_99, tI_192, tI_400, tI_9999, tI_12345] at *; omega)] at hK
theorem p_X7_isArea {E : JE} {u : JM} {K : Int32 → JM → Prop}  {a1 : Int32} (hK : K (jb (rg a1 0 2)) u) : JCi E 1 YX7_isArea [.int a1] K u := by
  refine JCi.ofV (ls := [some (.int a1)]) (by decide +kernel) (Nat.le_of_ble_eq_true rfl) rfl rfl (g_X7_isArea_0  ?_)
  refine ⟨fun c => ?_, fun c => ⟨fun c' => ?_, fun c' => ?_⟩⟩
  · rwa [jb_f (by simp only [Int32.lt_iff_toInt_lt, Int32.le_iff_toInt_le, ← Int32.toInt_inj, tI_m14, tI_m13, tI_m12, tI_m11, tI_m10, tI_m9, tI_m8, tI_m7, tI_m6, tI_m5, tI_m4, tI_m3, tI_m2, tI_m1, tI_0, tI_1, tI_2, tI_3, tI_4, tI_5, tI_6, tI_7, tI_8, tI_9, tI_10, tI_11, tI_12, tI_13, tI_14, tI_15, tI_16, tI_17, tI_18, tI_19, tI_20, tI_21, tI_22, tI_23, tI_24, tI_25, tI_26, tI_27, tI_28, tI_29, tI_30, tI_31, tI_32, tI_33, tI_34, tI_35, tI_36, tI_37, tI_38, tI_39, tI_40, tI_60, tI_63, tI_80, tI_99, tI_192, tI_400, tI_9999, tI_12345] at *; omega)] at hK
  · rwa [jb_f (by simp only [Int32.lt_iff_toInt_lt, Int32.le_iff_toInt_le, ← Int32.toInt_inj, tI_m14, tI_m13, tI_m12, tI_m11, tI_m10, tI_m9, tI_m8, tI_m7, tI_m6, tI_m5, tI_m4, tI_m3, tI_m2, tI_m1, tI_0, tI_1, tI_2, tI_3, tI_4, tI_5, tI_6, tI_7, tI_8, tI_9, tI_10, tI_11, tI_12, tI_13, tI_14, tI_15, tI_16, tI_17, tI_18, tI_19, tI_20, tI_21, tI_22, tI_23, tI_24, tI_25, tI_26, tI_27, tI_28, tI_29, tI_30, tI_31, tI_32, tI_33, tI_34, tI_35, tI_36, tI_37, tI_38, tI_39, tI_40, tI_60, tI_63, tI_80, tI_99, tI_192, tI_400, tI_9999, tI_12345] at *; omega)] at hK
  · rwa [jb_t (by simp only [Int32.lt_iff_toInt_lt, Int32.le_iff_toInt_le, ← Int32.toInt_inj, tI_m14, tI_m13, tI_m12, tI_m11, tI_m10, tI_m9, tI_m8, tI_m7, tI_m6, tI_m5, tI_m4, tI_m3, tI_m2, tI_m1, tI_0, tI_1, tI_2, tI_3, tI_4, tI_5, tI_6, tI_7, tI_8, tI_9, tI_10, tI_11, tI_12, tI_13, tI_14, tI_15, tI_16, tI_17, tI_18, tI_19, tI_20, tI_21, tI_22, tI_23, tI_24, tI_25, tI_26, tI_27, tI_28, tI_29, tI_30, tI_31, tI_32, tI_33, tI_34, tI_35, tI_36, tI_37, tI_38, tI_39, tI_40, tI_60, tI_63, tI_80, tI_99, tI_192, tI_400, tI_9999, tI_12345] at *; omega)] at hK
theorem p_X7_isCost {E : JE} {u : JM} {K : Int32 → JM → Prop}  {a1 : Int32} (hK : K (jb (rg a1 1 99)) u) : JCi E 1 YX7_isCost [.int a1] K u := by
  refine JCi.ofV (ls := [some (.int a1)]) (by decide +kernel) (Nat.le_of_ble_eq_true rfl) rfl rfl (g_X7_isCost_0  ?_)
  refine ⟨fun c => ?_, fun c => ⟨fun c' => ?_, fun c' => ?_⟩⟩
  · rwa [jb_f (by simp only [Int32.lt_iff_toInt_lt, Int32.le_iff_toInt_le, ← Int32.toInt_inj, tI_m14, tI_m13, tI_m12, tI_m11, tI_m10, tI_m9, tI_m8, tI_m7, tI_m6, tI_m5, tI_m4, tI_m3, tI_m2, tI_m1, tI_0, tI_1, tI_2, tI_3, tI_4, tI_5, tI_6, tI_7, tI_8, tI_9, tI_10, tI_11, tI_12, tI_13, tI_14, tI_15, tI_16, tI_17, tI_18, tI_19, tI_20, tI_21, tI_22, tI_23, tI_24, tI_25, tI_26, tI_27, tI_28, tI_29, tI_30, tI_31, tI_32, tI_33, tI_34, tI_35, tI_36, tI_37, tI_38, tI_39, tI_40, tI_60, tI_63, tI_80, tI_99, tI_192, tI_400, tI_9999, tI_12345] at *; omega)] at hK
  · rwa [jb_f (by simp only [Int32.lt_iff_toInt_lt, Int32.le_iff_toInt_le, ← Int32.toInt_inj, tI_m14, tI_m13, tI_m12, tI_m11, tI_m10, tI_m9, tI_m8, tI_m7, tI_m6, tI_m5, tI_m4, tI_m3, tI_m2, tI_m1, tI_0, tI_1, tI_2, tI_3, tI_4, tI_5, tI_6, tI_7, tI_8, tI_9, tI_10, tI_11, tI_12, tI_13, tI_14, tI_15, tI_16, tI_17, tI_18, tI_19, tI_20, tI_21, tI_22, tI_23, tI_24, tI_25, tI_26, tI_27, tI_28, tI_29, tI_30, tI_31, tI_32, tI_33, tI_34, tI_35, tI_36, tI_37, tI_38, tI_39, tI_40, tI_60, tI_63, tI_80, tI_99, tI_192, tI_400, tI_9999, tI_12345] at *; omega)] at hK
  · rwa [jb_t (by simp only [Int32.lt_iff_toInt_lt, Int32.le_iff_toInt_le, ← Int32.toInt_inj, tI_m14, tI_m13, tI_m12, tI_m11, tI_m10, tI_m9, tI_m8, tI_m7, tI_m6, tI_m5, tI_m4, tI_m3, tI_m2, tI_m1, tI_0, tI_1, tI_2, tI_3, tI_4, tI_5, tI_6, tI_7, tI_8, tI_9, tI_10, tI_11, tI_12, tI_13, tI_14, tI_15, tI_16, tI_17, tI_18, tI_19, tI_20, tI_21, tI_22, tI_23, tI_24, tI_25, tI_26, tI_27, tI_28, tI_29, tI_30, tI_31, tI_32, tI_33, tI_34, tI_35, tI_36, tI_37, tI_38, tI_39, tI_40, tI_60, tI_63, tI_80, tI_99, tI_192, tI_400, tI_9999, tI_12345] at *; omega)] at hK
abbrev isAdvW (a : Int32) : Prop := rg a 0 2 ∨ rg a 10 21 ∨ rg a 30 37
theorem p_X7_isOfAdvert {E : JE} {u : JM} {K : Int32 → JM → Prop}  {a1 : Int32} (hK : K (jb (isAdvW a1)) u) : JCi E 1 YX7_isOfAdvert [.int a1] K u := by
  refine JCi.ofV (ls := [some (.int a1), none, none]) (by decide +kernel) (Nat.le_of_ble_eq_true rfl) rfl rfl (g_X7_isOfAdvert_0  ?_)
  by_cases hp : isAdvW a1
  · rw [jb_t hp] at hK
    repeat' (first | apply And.intro | intro c)
    all_goals first | exact hK | (exfalso; unfold isAdvW at hp; simp only [Int32.lt_iff_toInt_lt, Int32.le_iff_toInt_le, ← Int32.toInt_inj, tI_m14, tI_m13, tI_m12, tI_m11, tI_m10, tI_m9, tI_m8, tI_m7, tI_m6, tI_m5, tI_m4, tI_m3, tI_m2, tI_m1, tI_0, tI_1, tI_2, tI_3, tI_4, tI_5, tI_6, tI_7, tI_8, tI_9, tI_10, tI_11, tI_12, tI_13, tI_14, tI_15, tI_16, tI_17, tI_18, tI_19, tI_20, tI_21, tI_22, tI_23, tI_24, tI_25, tI_26, tI_27, tI_28, tI_29, tI_30, tI_31, tI_32, tI_33, tI_34, tI_35, tI_36, tI_37, tI_38, tI_39, tI_40, tI_60, tI_63, tI_80, tI_99, tI_192, tI_400, tI_9999, tI_12345] at *; omega)
  · rw [jb_f hp] at hK
    repeat' (first | apply And.intro | intro c)
    all_goals first | exact hK | (exfalso; unfold isAdvW at hp; simp only [Int32.lt_iff_toInt_lt, Int32.le_iff_toInt_le, ← Int32.toInt_inj, tI_m14, tI_m13, tI_m12, tI_m11, tI_m10, tI_m9, tI_m8, tI_m7, tI_m6, tI_m5, tI_m4, tI_m3, tI_m2, tI_m1, tI_0, tI_1, tI_2, tI_3, tI_4, tI_5, tI_6, tI_7, tI_8, tI_9, tI_10, tI_11, tI_12, tI_13, tI_14, tI_15, tI_16, tI_17, tI_18, tI_19, tI_20, tI_21, tI_22, tI_23, tI_24, tI_25, tI_26, tI_27, tI_28, tI_29, tI_30, tI_31, tI_32, tI_33, tI_34, tI_35, tI_36, tI_37, tI_38, tI_39, tI_40, tI_60, tI_63, tI_80, tI_99, tI_192, tI_400, tI_9999, tI_12345] at *; omega)
abbrev isTldW (a : Int32) : Prop := 0 ≤ a.toInt ∧ (a.toInt < 4 → a.toInt ≤ 2) ∧ (4 ≤ a.toInt → a.toInt % 4 ≤ 1)
theorem i32_rem {a : Int32} {k : Nat} (ha : 0 ≤ a.toInt) (hk : 0 < k) (h2 : k < 2147483648) : (a - a / nI k * nI k).toInt = a.toInt % k := by
  obtain ⟨j, hj, rfl⟩ := nI_of (x := a) (by rw [Int32.lt_iff_toInt_lt, tI_0]; omega)
  rw [pk_rem hj hk (by omega), nI_toInt (Nat.lt_of_le_of_lt (Nat.mod_le _ _) hj), nI_toInt hj]
  rfl
theorem i32_div {a : Int32} {k : Nat} (ha : 0 ≤ a.toInt) (hk : 0 < k) (h2 : k < 2147483648) : (a / nI k).toInt = a.toInt / k := by
  obtain ⟨j, hj, rfl⟩ := nI_of (x := a) (by rw [Int32.lt_iff_toInt_lt, tI_0]; omega)
  rw [pk_div hj hk (by omega), nI_toInt (Nat.lt_of_le_of_lt (Nat.div_le_self _ _) hj), nI_toInt hj]
  rfl
theorem p_X7_isOfTold {E : JE} {u : JM} {K : Int32 → JM → Prop}  {a1 : Int32} (hK : K (jb (isTldW a1)) u) : JCi E 1 YX7_isOfTold [.int a1] K u := by
  refine JCi.ofV (ls := [some (.int a1)]) (by decide +kernel) (Nat.le_of_ble_eq_true rfl) rfl rfl (g_X7_isOfTold_0  ?_)
  refine ⟨fun c => ?_, fun c => ⟨fun c' => ?_, fun c' => ?_⟩⟩
  · rwa [jb_f (by unfold isTldW; simp only [Int32.lt_iff_toInt_lt, Int32.le_iff_toInt_le, ← Int32.toInt_inj, tI_m14, tI_m13, tI_m12, tI_m11, tI_m10, tI_m9, tI_m8, tI_m7, tI_m6, tI_m5, tI_m4, tI_m3, tI_m2, tI_m1, tI_0, tI_1, tI_2, tI_3, tI_4, tI_5, tI_6, tI_7, tI_8, tI_9, tI_10, tI_11, tI_12, tI_13, tI_14, tI_15, tI_16, tI_17, tI_18, tI_19, tI_20, tI_21, tI_22, tI_23, tI_24, tI_25, tI_26, tI_27, tI_28, tI_29, tI_30, tI_31, tI_32, tI_33, tI_34, tI_35, tI_36, tI_37, tI_38, tI_39, tI_40, tI_60, tI_63, tI_80, tI_99, tI_192, tI_400, tI_9999, tI_12345] at *; omega)] at hK
  · have h0 : 0 ≤ a1.toInt := (by simp only [Int32.lt_iff_toInt_lt, Int32.le_iff_toInt_le, ← Int32.toInt_inj, tI_m14, tI_m13, tI_m12, tI_m11, tI_m10, tI_m9, tI_m8, tI_m7, tI_m6, tI_m5, tI_m4, tI_m3, tI_m2, tI_m1, tI_0, tI_1, tI_2, tI_3, tI_4, tI_5, tI_6, tI_7, tI_8, tI_9, tI_10, tI_11, tI_12, tI_13, tI_14, tI_15, tI_16, tI_17, tI_18, tI_19, tI_20, tI_21, tI_22, tI_23, tI_24, tI_25, tI_26, tI_27, tI_28, tI_29, tI_30, tI_31, tI_32, tI_33, tI_34, tI_35, tI_36, tI_37, tI_38, tI_39, tI_40, tI_60, tI_63, tI_80, tI_99, tI_192, tI_400, tI_9999, tI_12345] at *; omega)
    have hr := i32_rem (k := 4) h0 (by decide) (by decide)
    have hr : (a1 - a1 / 4 * 4).toInt = a1.toInt % 4 := hr
    refine ⟨fun q => ?_, fun q => ?_⟩
    · rwa [jb_f (by unfold isTldW; rw [Int32.lt_iff_toInt_lt, hr] at q; simp only [Int32.lt_iff_toInt_lt, Int32.le_iff_toInt_le, ← Int32.toInt_inj, tI_m14, tI_m13, tI_m12, tI_m11, tI_m10, tI_m9, tI_m8, tI_m7, tI_m6, tI_m5, tI_m4, tI_m3, tI_m2, tI_m1, tI_0, tI_1, tI_2, tI_3, tI_4, tI_5, tI_6, tI_7, tI_8, tI_9, tI_10, tI_11, tI_12, tI_13, tI_14, tI_15, tI_16, tI_17, tI_18, tI_19, tI_20, tI_21, tI_22, tI_23, tI_24, tI_25, tI_26, tI_27, tI_28, tI_29, tI_30, tI_31, tI_32, tI_33, tI_34, tI_35, tI_36, tI_37, tI_38, tI_39, tI_40, tI_60, tI_63, tI_80, tI_99, tI_192, tI_400, tI_9999, tI_12345] at *; omega)] at hK
    · rwa [jb_t (by unfold isTldW; rw [Int32.lt_iff_toInt_lt, hr] at q; simp only [Int32.lt_iff_toInt_lt, Int32.le_iff_toInt_le, ← Int32.toInt_inj, tI_m14, tI_m13, tI_m12, tI_m11, tI_m10, tI_m9, tI_m8, tI_m7, tI_m6, tI_m5, tI_m4, tI_m3, tI_m2, tI_m1, tI_0, tI_1, tI_2, tI_3, tI_4, tI_5, tI_6, tI_7, tI_8, tI_9, tI_10, tI_11, tI_12, tI_13, tI_14, tI_15, tI_16, tI_17, tI_18, tI_19, tI_20, tI_21, tI_22, tI_23, tI_24, tI_25, tI_26, tI_27, tI_28, tI_29, tI_30, tI_31, tI_32, tI_33, tI_34, tI_35, tI_36, tI_37, tI_38, tI_39, tI_40, tI_60, tI_63, tI_80, tI_99, tI_192, tI_400, tI_9999, tI_12345] at *; omega)] at hK
  · refine ⟨fun q => ?_, fun q => ?_⟩
    · rwa [jb_f (by unfold isTldW; simp only [Int32.lt_iff_toInt_lt, Int32.le_iff_toInt_le, ← Int32.toInt_inj, tI_m14, tI_m13, tI_m12, tI_m11, tI_m10, tI_m9, tI_m8, tI_m7, tI_m6, tI_m5, tI_m4, tI_m3, tI_m2, tI_m1, tI_0, tI_1, tI_2, tI_3, tI_4, tI_5, tI_6, tI_7, tI_8, tI_9, tI_10, tI_11, tI_12, tI_13, tI_14, tI_15, tI_16, tI_17, tI_18, tI_19, tI_20, tI_21, tI_22, tI_23, tI_24, tI_25, tI_26, tI_27, tI_28, tI_29, tI_30, tI_31, tI_32, tI_33, tI_34, tI_35, tI_36, tI_37, tI_38, tI_39, tI_40, tI_60, tI_63, tI_80, tI_99, tI_192, tI_400, tI_9999, tI_12345] at *; omega)] at hK
    · rwa [jb_t (by unfold isTldW; simp only [Int32.lt_iff_toInt_lt, Int32.le_iff_toInt_le, ← Int32.toInt_inj, tI_m14, tI_m13, tI_m12, tI_m11, tI_m10, tI_m9, tI_m8, tI_m7, tI_m6, tI_m5, tI_m4, tI_m3, tI_m2, tI_m1, tI_0, tI_1, tI_2, tI_3, tI_4, tI_5, tI_6, tI_7, tI_8, tI_9, tI_10, tI_11, tI_12, tI_13, tI_14, tI_15, tI_16, tI_17, tI_18, tI_19, tI_20, tI_21, tI_22, tI_23, tI_24, tI_25, tI_26, tI_27, tI_28, tI_29, tI_30, tI_31, tI_32, tI_33, tI_34, tI_35, tI_36, tI_37, tI_38, tI_39, tI_40, tI_60, tI_63, tI_80, tI_99, tI_192, tI_400, tI_9999, tI_12345] at *; omega)] at hK
theorem p_X7_isBorder {E : JE} {u : JM} {K : Int32 → JM → Prop}  {a1 : Int32} (hK : K (jb (¬ a1 &&& 1 = 0 ∧ ¬ a1 = 1)) u) : JCi E 1 YX7_isBorder [.int a1] K u := by
  refine JCi.ofV (ls := [some (.int a1)]) (by decide +kernel) (Nat.le_of_ble_eq_true rfl) rfl rfl (g_X7_isBorder_0  ?_)
  refine ⟨fun c => ?_, fun c => ⟨fun c' => ?_, fun c' => ?_⟩⟩
  · rwa [jb_f (fun q => q.1 c)] at hK
  · rwa [jb_f (fun q => q.2 c')] at hK
  · rwa [jb_t ⟨c, c'⟩] at hK
theorem p_X7_rowOf {E : JE} {u : JM} {K : Int32 → JM → Prop}  {a1 a2 a3 : Int32} (hK : K ((a1 * 3 + a2) * 8 + a3) u) : JCi E 1 YX7_rowOf [.int a1, .int a2, .int a3] K u := by
  refine JCi.ofV (ls := [some (.int a1), some (.int a2), some (.int a3)]) (by decide +kernel) (Nat.le_of_ble_eq_true rfl) rfl rfl (g_X7_rowOf_0  ?_)
  exact hK
theorem p_X5_has {E : JE} {u : JM} {K : Int32 → JM → Prop}  {a1 : Int32} (hK : K (jb (rg a1 0 3)) u) : JCi E 1 YX5_has [.ref 129, .int a1] K u := by
  refine JCi.ofV (ls := [some (.ref 129), some (.int a1)]) (by decide +kernel) (Nat.le_of_ble_eq_true rfl) rfl rfl (g_X5_has_0  ?_)
  refine ⟨fun c => ?_, fun c => ⟨fun c' => ?_, fun c' => ?_⟩⟩
  · rwa [jb_f (by simp only [Int32.lt_iff_toInt_lt, Int32.le_iff_toInt_le, ← Int32.toInt_inj, tI_m14, tI_m13, tI_m12, tI_m11, tI_m10, tI_m9, tI_m8, tI_m7, tI_m6, tI_m5, tI_m4, tI_m3, tI_m2, tI_m1, tI_0, tI_1, tI_2, tI_3, tI_4, tI_5, tI_6, tI_7, tI_8, tI_9, tI_10, tI_11, tI_12, tI_13, tI_14, tI_15, tI_16, tI_17, tI_18, tI_19, tI_20, tI_21, tI_22, tI_23, tI_24, tI_25, tI_26, tI_27, tI_28, tI_29, tI_30, tI_31, tI_32, tI_33, tI_34, tI_35, tI_36, tI_37, tI_38, tI_39, tI_40, tI_60, tI_63, tI_80, tI_99, tI_192, tI_400, tI_9999, tI_12345] at *; omega)] at hK
  · rwa [jb_f (by simp only [Int32.lt_iff_toInt_lt, Int32.le_iff_toInt_le, ← Int32.toInt_inj, tI_m14, tI_m13, tI_m12, tI_m11, tI_m10, tI_m9, tI_m8, tI_m7, tI_m6, tI_m5, tI_m4, tI_m3, tI_m2, tI_m1, tI_0, tI_1, tI_2, tI_3, tI_4, tI_5, tI_6, tI_7, tI_8, tI_9, tI_10, tI_11, tI_12, tI_13, tI_14, tI_15, tI_16, tI_17, tI_18, tI_19, tI_20, tI_21, tI_22, tI_23, tI_24, tI_25, tI_26, tI_27, tI_28, tI_29, tI_30, tI_31, tI_32, tI_33, tI_34, tI_35, tI_36, tI_37, tI_38, tI_39, tI_40, tI_60, tI_63, tI_80, tI_99, tI_192, tI_400, tI_9999, tI_12345] at *; omega)] at hK
  · rwa [jb_t (by simp only [Int32.lt_iff_toInt_lt, Int32.le_iff_toInt_le, ← Int32.toInt_inj, tI_m14, tI_m13, tI_m12, tI_m11, tI_m10, tI_m9, tI_m8, tI_m7, tI_m6, tI_m5, tI_m4, tI_m3, tI_m2, tI_m1, tI_0, tI_1, tI_2, tI_3, tI_4, tI_5, tI_6, tI_7, tI_8, tI_9, tI_10, tI_11, tI_12, tI_13, tI_14, tI_15, tI_16, tI_17, tI_18, tI_19, tI_20, tI_21, tI_22, tI_23, tI_24, tI_25, tI_26, tI_27, tI_28, tI_29, tI_30, tI_31, tI_32, tI_33, tI_34, tI_35, tI_36, tI_37, tI_38, tI_39, tI_40, tI_60, tI_63, tI_80, tI_99, tI_192, tI_400, tI_9999, tI_12345] at *; omega)] at hK
theorem p_X5_isMissing {E : JE} {u : JM} {K : Int32 → JM → Prop}  {a1 : Int32} (b : vp_in a1 4) (hK : K (jb (u 130 a1.toNatClampNeg = -1)) u) : JCi E 1 YX5_isMissing [.ref 129, .int a1] K u := by
  refine JCi.ofV (ls := [some (.ref 129), some (.int a1)]) (by decide +kernel) (Nat.le_of_ble_eq_true rfl) rfl rfl (g_X5_isMissing_0  ?_)
  refine ⟨b, fun c => ?_, fun c => ?_⟩
  · rwa [jb_f c] at hK
  · rwa [jb_t c] at hK
theorem p_X5_holds {E : JE} {u : JM} {K : Int32 → JM → Prop}  {a1 a2 a3 : Int32} (b : vp_in a1 4) (hK : K (jb (¬ a2 < 0 ∧ ¬ a3 < 0 ∧ ¬ u 131 a1.toNatClampNeg < a3 ∧ ¬ (u 131 a1.toNatClampNeg - a3) < a2)) u) : JCi E 1 YX5_holds [.ref 129, .int a1, .int a2, .int a3] K u := by
  refine JCi.ofV (ls := [some (.ref 129), some (.int a1), some (.int a2), some (.int a3)]) (by decide +kernel) (Nat.le_of_ble_eq_true rfl) rfl rfl (g_X5_holds_0  ?_)
  refine ⟨fun c => ?_, fun c => ⟨fun c1 => ?_, fun c1 => ⟨b, fun c2 => ?_, fun c2 => ⟨fun c3 => ?_, fun c3 => ?_⟩⟩⟩⟩
  · rwa [jb_f (fun q => q.1 c)] at hK
  · rwa [jb_f (fun q => q.2.1 c1)] at hK
  · rwa [jb_f (fun q => q.2.2.1 c2)] at hK
  · rwa [jb_f (fun q => q.2.2.2 c3)] at hK
  · rwa [jb_t ⟨c, c1, c2, c3⟩] at hK
theorem p_X0_tellsLink {E : JE} {u : JM} {K : Int32 → JM → Prop} {A n : Nat} (hA : isAdv A n) {row link : Int32} (b : vp_in row n) (hK : K (jb (¬ ((u (A + 3) row.toNatClampNeg >>> (link &&& 31)) &&& 1) = 0)) u) : JCi E 1 YX0_tellsLink [.ref A, .int row, .int link] K u := by
  refine JCi.ofV (ls := [some (.ref A), some (.int row), some (.int link)]) (by decide +kernel) (Nat.le_of_ble_eq_true rfl) rfl rfl (g_X0_tellsLink_0 hA ?_)
  refine ⟨b, fun c => ?_, fun c => ?_⟩
  · rwa [jb_f (fun q => q c)] at hK
  · rwa [jb_t c] at hK
theorem p_X2_isOwn {E : JE} {u : JM} {K : Int32 → JM → Prop}  {a1 : Int32} (hK : K (jb (a1 - a1 / 8 * 8 = a1 / 24)) u) : JCi E 1 YX2_isOwn [.int a1] K u := by
  refine JCi.ofV (ls := [some (.int a1)]) (by decide +kernel) (Nat.le_of_ble_eq_true rfl) rfl rfl (g_X2_isOwn_0  ?_)
  refine ⟨fun c => ?_, fun c => ?_⟩
  · rwa [jb_f c] at hK
  · rwa [jb_t c] at hK
theorem p_X2_costBy {E : JE} {u : JM} {K : Int32 → JM → Prop} {N : Nat} (hN : isNet N) {P : Nat} (hP : isPaths P) {row to : Int32} (b1 : vp_in (row - row / 8 * 8) 8) (b2 : vp_in (row * 8 + to) 1536) (hK : K (u (P + 1) (row - row / 8 * 8).toNatClampNeg + u (N + 14) (row * 8 + to).toNatClampNeg) u) : JCi E 1 YX2_costBy [.ref N, .ref P, .int row, .int to] K u := by
  refine JCi.ofV (ls := [some (.ref N), some (.ref P), some (.int row), some (.int to)]) (by decide +kernel) (Nat.le_of_ble_eq_true rfl) rfl rfl (g_X2_costBy_0 hN hP ?_)
  exact ⟨b1, b2, hK⟩
theorem p_X1_has {E : JE} {u : JM} {K : Int32 → JM → Prop} {N : Nat} (hN : isNet N) {a1 : Int32} (hK : K (jb (0 ≤ a1.toInt ∧ a1.toInt < (u (N + 1) 0).toInt)) u) : JCi E 1 YX1_has [.ref (N + 1), .int a1] K u := by
  refine JCi.ofV (ls := [some (.ref (N + 1)), some (.int a1)]) (by decide +kernel) (Nat.le_of_ble_eq_true rfl) rfl rfl (g_X1_has_0 hN ?_)
  refine ⟨fun c => ?_, fun c => ⟨fun c' => ?_, fun c' => ?_⟩⟩
  · rwa [jb_f (by simp only [Int32.lt_iff_toInt_lt, Int32.le_iff_toInt_le, ← Int32.toInt_inj, tI_m14, tI_m13, tI_m12, tI_m11, tI_m10, tI_m9, tI_m8, tI_m7, tI_m6, tI_m5, tI_m4, tI_m3, tI_m2, tI_m1, tI_0, tI_1, tI_2, tI_3, tI_4, tI_5, tI_6, tI_7, tI_8, tI_9, tI_10, tI_11, tI_12, tI_13, tI_14, tI_15, tI_16, tI_17, tI_18, tI_19, tI_20, tI_21, tI_22, tI_23, tI_24, tI_25, tI_26, tI_27, tI_28, tI_29, tI_30, tI_31, tI_32, tI_33, tI_34, tI_35, tI_36, tI_37, tI_38, tI_39, tI_40, tI_60, tI_63, tI_80, tI_99, tI_192, tI_400, tI_9999, tI_12345] at *; omega)] at hK
  · rwa [jb_f (by simp only [Int32.lt_iff_toInt_lt, Int32.le_iff_toInt_le, ← Int32.toInt_inj, tI_m14, tI_m13, tI_m12, tI_m11, tI_m10, tI_m9, tI_m8, tI_m7, tI_m6, tI_m5, tI_m4, tI_m3, tI_m2, tI_m1, tI_0, tI_1, tI_2, tI_3, tI_4, tI_5, tI_6, tI_7, tI_8, tI_9, tI_10, tI_11, tI_12, tI_13, tI_14, tI_15, tI_16, tI_17, tI_18, tI_19, tI_20, tI_21, tI_22, tI_23, tI_24, tI_25, tI_26, tI_27, tI_28, tI_29, tI_30, tI_31, tI_32, tI_33, tI_34, tI_35, tI_36, tI_37, tI_38, tI_39, tI_40, tI_60, tI_63, tI_80, tI_99, tI_192, tI_400, tI_9999, tI_12345] at *; omega)] at hK
  · rwa [jb_t (by simp only [Int32.lt_iff_toInt_lt, Int32.le_iff_toInt_le, ← Int32.toInt_inj, tI_m14, tI_m13, tI_m12, tI_m11, tI_m10, tI_m9, tI_m8, tI_m7, tI_m6, tI_m5, tI_m4, tI_m3, tI_m2, tI_m1, tI_0, tI_1, tI_2, tI_3, tI_4, tI_5, tI_6, tI_7, tI_8, tI_9, tI_10, tI_11, tI_12, tI_13, tI_14, tI_15, tI_16, tI_17, tI_18, tI_19, tI_20, tI_21, tI_22, tI_23, tI_24, tI_25, tI_26, tI_27, tI_28, tI_29, tI_30, tI_31, tI_32, tI_33, tI_34, tI_35, tI_36, tI_37, tI_38, tI_39, tI_40, tI_60, tI_63, tI_80, tI_99, tI_192, tI_400, tI_9999, tI_12345] at *; omega)] at hK
theorem p_X1_isUpAt {E : JE} {u : JM} {K : Int32 → JM → Prop} {N : Nat} (hN : isNet N) {a1 a2 : Int32} (b : vp_in a1 12) (hK : K (jb (¬ u (N + 7) a1.toNatClampNeg = 0 ∧ (u (N + 2) a1.toNatClampNeg = a2 ∨ u (N + 3) a1.toNatClampNeg = a2))) u) : JCi E 1 YX1_isUpAt [.ref (N + 1), .int a1, .int a2] K u := by
  refine JCi.ofV (ls := [some (.ref (N + 1)), some (.int a1), some (.int a2)]) (by decide +kernel) (Nat.le_of_ble_eq_true rfl) rfl rfl (g_X1_isUpAt_0 hN ?_)
  refine ⟨b, fun c => ?_, fun c => ⟨fun c1 => ?_, fun c1 => ⟨fun c2 => ?_, fun c2 => ?_⟩⟩⟩
  · rwa [jb_f (fun q => q.1 c)] at hK
  · rwa [jb_t ⟨c, Or.inl c1⟩] at hK
  · rwa [jb_f (fun q => q.2.elim c1 c2)] at hK
  · rwa [jb_t ⟨c, Or.inr c2⟩] at hK
theorem p_X1_otherEnd {E : JE} {u : JM} {K : Int32 → JM → Prop} {N : Nat} (hN : isNet N) {a1 a2 : Int32} (b : vp_in a1 12) (hK : K (if u (N + 2) a1.toNatClampNeg = a2 then u (N + 3) a1.toNatClampNeg else u (N + 2) a1.toNatClampNeg) u) : JCi E 1 YX1_otherEnd [.ref (N + 1), .int a1, .int a2] K u := by
  refine JCi.ofV (ls := [some (.ref (N + 1)), some (.int a1), some (.int a2)]) (by decide +kernel) (Nat.le_of_ble_eq_true rfl) rfl rfl (g_X1_otherEnd_0 hN ?_)
  refine ⟨b, fun c => ?_, fun c => ?_⟩
  · rwa [if_neg c] at hK
  · rwa [if_pos c] at hK
theorem p_X1_costFrom {E : JE} {u : JM} {K : Int32 → JM → Prop} {N : Nat} (hN : isNet N) {a1 a2 : Int32} (b : vp_in a1 12) (hK : K (if u (N + 2) a1.toNatClampNeg = a2 then u (N + 5) a1.toNatClampNeg else u (N + 6) a1.toNatClampNeg) u) : JCi E 1 YX1_costFrom [.ref (N + 1), .int a1, .int a2] K u := by
  refine JCi.ofV (ls := [some (.ref (N + 1)), some (.int a1), some (.int a2)]) (by decide +kernel) (Nat.le_of_ble_eq_true rfl) rfl rfl (g_X1_costFrom_0 hN ?_)
  refine ⟨b, fun c => ?_, fun c => ?_⟩
  · rwa [if_neg c] at hK
  · rwa [if_pos c] at hK
theorem p_X8_in {E : JE} {u : JM} {K : Int32 → JM → Prop}  {a1 a2 a3 : Int32} (hK : K (jb (rg a1 a2.toInt a3.toInt)) u) : JCi E 1 YX8_in [.int a1, .int a2, .int a3] K u := by
  refine JCi.ofV (ls := [some (.int a1), some (.int a2), some (.int a3)]) (by decide +kernel) (Nat.le_of_ble_eq_true rfl) rfl rfl (g_X8_in_0  ?_)
  refine ⟨fun c => ?_, fun c => ⟨fun c' => ?_, fun c' => ?_⟩⟩
  · rwa [jb_f (by simp only [Int32.lt_iff_toInt_lt, Int32.le_iff_toInt_le, ← Int32.toInt_inj, tI_m14, tI_m13, tI_m12, tI_m11, tI_m10, tI_m9, tI_m8, tI_m7, tI_m6, tI_m5, tI_m4, tI_m3, tI_m2, tI_m1, tI_0, tI_1, tI_2, tI_3, tI_4, tI_5, tI_6, tI_7, tI_8, tI_9, tI_10, tI_11, tI_12, tI_13, tI_14, tI_15, tI_16, tI_17, tI_18, tI_19, tI_20, tI_21, tI_22, tI_23, tI_24, tI_25, tI_26, tI_27, tI_28, tI_29, tI_30, tI_31, tI_32, tI_33, tI_34, tI_35, tI_36, tI_37, tI_38, tI_39, tI_40, tI_60, tI_63, tI_80, tI_99, tI_192, tI_400, tI_9999, tI_12345] at *; omega)] at hK
  · rwa [jb_f (by simp only [Int32.lt_iff_toInt_lt, Int32.le_iff_toInt_le, ← Int32.toInt_inj, tI_m14, tI_m13, tI_m12, tI_m11, tI_m10, tI_m9, tI_m8, tI_m7, tI_m6, tI_m5, tI_m4, tI_m3, tI_m2, tI_m1, tI_0, tI_1, tI_2, tI_3, tI_4, tI_5, tI_6, tI_7, tI_8, tI_9, tI_10, tI_11, tI_12, tI_13, tI_14, tI_15, tI_16, tI_17, tI_18, tI_19, tI_20, tI_21, tI_22, tI_23, tI_24, tI_25, tI_26, tI_27, tI_28, tI_29, tI_30, tI_31, tI_32, tI_33, tI_34, tI_35, tI_36, tI_37, tI_38, tI_39, tI_40, tI_60, tI_63, tI_80, tI_99, tI_192, tI_400, tI_9999, tI_12345] at *; omega)] at hK
  · rwa [jb_t (by simp only [Int32.lt_iff_toInt_lt, Int32.le_iff_toInt_le, ← Int32.toInt_inj, tI_m14, tI_m13, tI_m12, tI_m11, tI_m10, tI_m9, tI_m8, tI_m7, tI_m6, tI_m5, tI_m4, tI_m3, tI_m2, tI_m1, tI_0, tI_1, tI_2, tI_3, tI_4, tI_5, tI_6, tI_7, tI_8, tI_9, tI_10, tI_11, tI_12, tI_13, tI_14, tI_15, tI_16, tI_17, tI_18, tI_19, tI_20, tI_21, tI_22, tI_23, tI_24, tI_25, tI_26, tI_27, tI_28, tI_29, tI_30, tI_31, tI_32, tI_33, tI_34, tI_35, tI_36, tI_37, tI_38, tI_39, tI_40, tI_60, tI_63, tI_80, tI_99, tI_192, tI_400, tI_9999, tI_12345] at *; omega)] at hK
theorem p_X8_isEnd {E : JE} {u : JM} {K : Int32 → JM → Prop}  {a1 a2 : Int32} (b : vp_in a1 12) (hK : K (jb (u 138 a1.toNatClampNeg = a2 ∨ u 139 a1.toNatClampNeg = a2)) u) : JCi E 1 YX8_isEnd [.ref 137, .int a1, .int a2] K u := by
  refine JCi.ofV (ls := [some (.ref 137), some (.int a1), some (.int a2)]) (by decide +kernel) (Nat.le_of_ble_eq_true rfl) rfl rfl (g_X8_isEnd_0  ?_)
  refine ⟨b, fun c => ?_, fun c => ⟨fun c1 => ?_, fun c1 => ?_⟩⟩
  · rwa [jb_t (Or.inl c)] at hK
  · rwa [jb_f (fun q => q.elim c c1)] at hK
  · rwa [jb_t (Or.inr c1)] at hK
theorem p_X8_otherEnd {E : JE} {u : JM} {K : Int32 → JM → Prop}  {a1 a2 : Int32} (b : vp_in a1 12) (hK : K (if u 138 a1.toNatClampNeg = a2 then u 139 a1.toNatClampNeg else u 138 a1.toNatClampNeg) u) : JCi E 1 YX8_otherEnd [.ref 137, .int a1, .int a2] K u := by
  refine JCi.ofV (ls := [some (.ref 137), some (.int a1), some (.int a2)]) (by decide +kernel) (Nat.le_of_ble_eq_true rfl) rfl rfl (g_X8_otherEnd_0  ?_)
  refine ⟨b, fun c => ?_, fun c => ?_⟩
  · rwa [if_neg c] at hK
  · rwa [if_pos c] at hK
theorem p_X8_priceFrom {E : JE} {u : JM} {K : Int32 → JM → Prop}  {a1 a2 : Int32} (b : vp_in a1 12) (hK : K (u 142 (2 * a1 + (if u 138 a1.toNatClampNeg = a2 then 0 else 1)).toNatClampNeg) u) : JCi E 1 YX8_priceFrom [.ref 137, .int a1, .int a2] K u := by
  refine JCi.ofV (ls := [some (.ref 137), some (.int a1), some (.int a2)]) (by decide +kernel) (Nat.le_of_ble_eq_true rfl) rfl rfl (g_X8_priceFrom_0  ?_)
  obtain ⟨k, hk, rfl⟩ := vp_in_of b (by decide)
  have e1 : (2 * nI k + 1 : Int32) = nI (2 * k + 1) := by rw [show (2 : Int32) = nI 2 from rfl, pk_mul, nI_1]
  have e0 : (2 * nI k + 0 : Int32) = nI (2 * k + 0) := by rw [show (2 : Int32) = nI 2 from rfl, pk_mul, show (0 : Int32) = nI 0 from rfl, nI_add]
  refine ⟨b, fun c => ⟨?_, ?_⟩, fun c => ⟨?_, ?_⟩⟩
  · rw [e1]; exact vp_in_nI (by omega) (by decide)
  · rwa [if_neg c] at hK
  · rw [e0]; exact vp_in_nI (by omega) (by decide)
  · rwa [if_pos c] at hK
theorem p_X8_place {E : JE} {u : JM} {K : Int32 → JM → Prop}  {a1 a2 a3 : Int32} (hK : K ((a1 * 8 + a2) * 3 + a3) u) : JCi E 1 YX8_place [.int a1, .int a2, .int a3] K u := by
  refine JCi.ofV (ls := [some (.int a1), some (.int a2), some (.int a3)]) (by decide +kernel) (Nat.le_of_ble_eq_true rfl) rfl rfl (g_X8_place_0  ?_)
  exact hK
theorem p_J9_min_7cf53 {E : JE} {u : JM} {K : Int32 → JM → Prop}  {a1 a2 : Int32} (hK : K (if a1 ≤ a2 then a1 else a2) u) : JCi E 1 YJ9_min_7cf53 [.int a1, .int a2] K u := by
  refine JCi.ofV (ls := [some (.int a1), some (.int a2)]) (by decide +kernel) (Nat.le_of_ble_eq_true rfl) rfl rfl (g_J9_min_7cf53_0  ?_)
  refine ⟨fun c => ?_, fun c => ?_⟩
  · rwa [if_neg (by simp only [Int32.lt_iff_toInt_lt, Int32.le_iff_toInt_le, ← Int32.toInt_inj, tI_m14, tI_m13, tI_m12, tI_m11, tI_m10, tI_m9, tI_m8, tI_m7, tI_m6, tI_m5, tI_m4, tI_m3, tI_m2, tI_m1, tI_0, tI_1, tI_2, tI_3, tI_4, tI_5, tI_6, tI_7, tI_8, tI_9, tI_10, tI_11, tI_12, tI_13, tI_14, tI_15, tI_16, tI_17, tI_18, tI_19, tI_20, tI_21, tI_22, tI_23, tI_24, tI_25, tI_26, tI_27, tI_28, tI_29, tI_30, tI_31, tI_32, tI_33, tI_34, tI_35, tI_36, tI_37, tI_38, tI_39, tI_40, tI_60, tI_63, tI_80, tI_99, tI_192, tI_400, tI_9999, tI_12345] at *; omega)] at hK
  · rwa [if_pos (by simp only [Int32.lt_iff_toInt_lt, Int32.le_iff_toInt_le, ← Int32.toInt_inj, tI_m14, tI_m13, tI_m12, tI_m11, tI_m10, tI_m9, tI_m8, tI_m7, tI_m6, tI_m5, tI_m4, tI_m3, tI_m2, tI_m1, tI_0, tI_1, tI_2, tI_3, tI_4, tI_5, tI_6, tI_7, tI_8, tI_9, tI_10, tI_11, tI_12, tI_13, tI_14, tI_15, tI_16, tI_17, tI_18, tI_19, tI_20, tI_21, tI_22, tI_23, tI_24, tI_25, tI_26, tI_27, tI_28, tI_29, tI_30, tI_31, tI_32, tI_33, tI_34, tI_35, tI_36, tI_37, tI_38, tI_39, tI_40, tI_60, tI_63, tI_80, tI_99, tI_192, tI_400, tI_9999, tI_12345] at *; omega)] at hK
