theorem g_X0_takeRow_0 {E : JE} {u : JM} {K : JM → Prop} {A n : Nat} (hA : isAdv A n) {B n2 : Nat} (hB : isAdv B n2) {row other : Int32}
    (h : vp_in other n2 ∧
 vp_in row n ∧
 ∀ u1, u1 = jw u (A + 1) row.toNatClampNeg (u (B + 1) other.toNatClampNeg) →
 ∀ u2, u2 = jw u1 (A + 2) row.toNatClampNeg (u1 (B + 2) other.toNatClampNeg) →
 ∀ u3, u3 = jw u2 (A + 3) row.toNatClampNeg (u2 (B + 3) other.toNatClampNeg) →
 (¬ (other * 12) < 0 ∧ ¬ (row * 12) < 0 ∧ ¬ (12 : Int32) < 0 ∧ (other * 12).toNatClampNeg + (12 : Int32).toNatClampNeg ≤ n2 * 12 ∧ (row * 12).toNatClampNeg + (12 : Int32).toNatClampNeg ≤ n * 12) ∧
 ∀ u4, u4 = jcp u3 (B + 4) (other * 12).toNatClampNeg (A + 4) (row * 12).toNatClampNeg (12 : Int32).toNatClampNeg →
 (¬ (other * 8) < 0 ∧ ¬ (row * 8) < 0 ∧ ¬ (8 : Int32) < 0 ∧ (other * 8).toNatClampNeg + (8 : Int32).toNatClampNeg ≤ n2 * 8 ∧ (row * 8).toNatClampNeg + (8 : Int32).toNatClampNeg ≤ n * 8) ∧
 ∀ u5, u5 = jcp u4 (B + 5) (other * 8).toNatClampNeg (A + 5) (row * 8).toNatClampNeg (8 : Int32).toNatClampNeg →
 K u5)
    : JVu E 1 YX0_takeRow K 0 [some (.ref A), some (.int row), some (.ref B), some (.int other)] [] u := by
  refine jv_aload_n dX0_takeRow_0 rfl ?_
  refine gf_0_9 rfl dX0_takeRow_1 (kd_A_0 hA) (lt_A hA 0 rfl) (rf_A_0_0 hA) ?_
  refine jv_iload_n dX0_takeRow_4 rfl ?_
  refine jv_aload_n dX0_takeRow_5 rfl ?_
  refine gf_0_9 rfl dX0_takeRow_6 (kd_A_0 hB) (lt_A hB 0 rfl) (rf_A_0_0 hB) ?_
  refine jv_iload_n dX0_takeRow_9 rfl ?_
  obtain ⟨b1, h⟩ := h
  refine jm_iaload dX0_takeRow_10 (kd_A_1 hB) (lt_A hB 1 rfl) b1 ?_
  obtain ⟨b2, h⟩ := h
  refine jm_iastore dX0_takeRow_11 (kd_A_1 hA) (lt_A hA 1 rfl) b2 ?_
  generalize hhu1 : jw u (A + 1) row.toNatClampNeg (u (B + 1) other.toNatClampNeg) = u1
  replace h := h u1 hhu1.symm
  refine jv_aload_n dX0_takeRow_12 rfl ?_
  refine gf_0_15 rfl dX0_takeRow_13 (kd_A_0 hA) (lt_A hA 0 rfl) (rf_A_0_1 hA) ?_
  refine jv_iload_n dX0_takeRow_16 rfl ?_
  refine jv_aload_n dX0_takeRow_17 rfl ?_
  refine gf_0_15 rfl dX0_takeRow_18 (kd_A_0 hB) (lt_A hB 0 rfl) (rf_A_0_1 hB) ?_
  refine jv_iload_n dX0_takeRow_21 rfl ?_
  refine jm_iaload dX0_takeRow_22 (kd_A_2 hB) (lt_A hB 2 rfl) b1 ?_
  refine jm_iastore dX0_takeRow_23 (kd_A_2 hA) (lt_A hA 2 rfl) b2 ?_
  generalize hhu2 : jw u1 (A + 2) row.toNatClampNeg (u1 (B + 2) other.toNatClampNeg) = u2
  replace h := h u2 hhu2.symm
  refine jv_aload_n dX0_takeRow_24 rfl ?_
  refine gf_0_18 rfl dX0_takeRow_25 (kd_A_0 hA) (lt_A hA 0 rfl) (rf_A_0_2 hA) ?_
  refine jv_iload_n dX0_takeRow_28 rfl ?_
  refine jv_aload_n dX0_takeRow_29 rfl ?_
  refine gf_0_18 rfl dX0_takeRow_30 (kd_A_0 hB) (lt_A hB 0 rfl) (rf_A_0_2 hB) ?_
  refine jv_iload_n dX0_takeRow_33 rfl ?_
  refine jm_iaload dX0_takeRow_34 (kd_A_3 hB) (lt_A hB 3 rfl) b1 ?_
  refine jm_iastore dX0_takeRow_35 (kd_A_3 hA) (lt_A hA 3 rfl) b2 ?_
  generalize hhu3 : jw u2 (A + 3) row.toNatClampNeg (u2 (B + 3) other.toNatClampNeg) = u3
  replace h := h u3 hhu3.symm
  refine jv_aload_n dX0_takeRow_36 rfl ?_
  refine gf_0_21 rfl dX0_takeRow_37 (kd_A_0 hB) (lt_A hB 0 rfl) (rf_A_0_3 hB) ?_
  refine jv_iload_n dX0_takeRow_40 rfl ?_
  refine jv_bipush dX0_takeRow_41 ci_bipush_12 ?_
  refine jv_imul dX0_takeRow_43 ?_
  refine jv_aload_n dX0_takeRow_44 rfl ?_
  refine gf_0_21 rfl dX0_takeRow_45 (kd_A_0 hA) (lt_A hA 0 rfl) (rf_A_0_3 hA) ?_
  refine jv_iload_n dX0_takeRow_48 rfl ?_
  refine jv_bipush dX0_takeRow_49 ci_bipush_12 ?_
  refine jv_imul dX0_takeRow_51 ?_
  refine jv_bipush dX0_takeRow_52 ci_bipush_12 ?_
  obtain ⟨b3, h⟩ := h
  refine jm_acopy ac_0_27 dX0_takeRow_54 (kd_A_4 hB) (kd_A_4 hA) (lt_A hB 4 rfl) (lt_A hA 4 rfl) rfl (Nat.le_of_ble_eq_true rfl) (Nat.le_of_ble_eq_true rfl) b3.1 b3.2.1 b3.2.2.1 b3.2.2.2.1 b3.2.2.2.2 ?_
  generalize hhu4 : jcp u3 (B + 4) (other * 12).toNatClampNeg (A + 4) (row * 12).toNatClampNeg (12 : Int32).toNatClampNeg = u4
  replace h := h u4 hhu4.symm
  refine jv_aload_n dX0_takeRow_57 rfl ?_
  refine gf_0_24 rfl dX0_takeRow_58 (kd_A_0 hB) (lt_A hB 0 rfl) (rf_A_0_4 hB) ?_
  refine jv_iload_n dX0_takeRow_61 rfl ?_
  refine jv_bipush dX0_takeRow_62 ci_bipush_8 ?_
  refine jv_imul dX0_takeRow_64 ?_
  refine jv_aload_n dX0_takeRow_65 rfl ?_
  refine gf_0_24 rfl dX0_takeRow_66 (kd_A_0 hA) (lt_A hA 0 rfl) (rf_A_0_4 hA) ?_
  refine jv_iload_n dX0_takeRow_69 rfl ?_
  refine jv_bipush dX0_takeRow_70 ci_bipush_8 ?_
  refine jv_imul dX0_takeRow_72 ?_
  refine jv_bipush dX0_takeRow_73 ci_bipush_8 ?_
  obtain ⟨b4, h⟩ := h
  refine jm_acopy ac_0_27 dX0_takeRow_75 (kd_A_5 hB) (kd_A_5 hA) (lt_A hB 5 rfl) (lt_A hA 5 rfl) rfl (Nat.le_of_ble_eq_true rfl) (Nat.le_of_ble_eq_true rfl) b4.1 b4.2.1 b4.2.2.1 b4.2.2.2.1 b4.2.2.2.2 ?_
  generalize hhu5 : jcp u4 (B + 5) (other * 8).toNatClampNeg (A + 5) (row * 8).toNatClampNeg (8 : Int32).toNatClampNeg = u5
  replace h := h u5 hhu5.symm
  exact jm_return dX0_takeRow_78 rfl h
theorem g_X0_takeRows_0 {E : JE} {u : JM} {K : JM → Prop} {A n : Nat} (hA : isAdv A n) {B n2 : Nat} (hB : isAdv B n2) {rows : Int32}
    (h : (¬ (0 : Int32) < 0 ∧ ¬ (0 : Int32) < 0 ∧ ¬ rows < 0 ∧ (0 : Int32).toNatClampNeg + rows.toNatClampNeg ≤ n2 ∧ (0 : Int32).toNatClampNeg + rows.toNatClampNeg ≤ n) ∧
 ∀ u1, u1 = jcp u (B + 1) (0 : Int32).toNatClampNeg (A + 1) (0 : Int32).toNatClampNeg rows.toNatClampNeg →
 (¬ (0 : Int32) < 0 ∧ ¬ (0 : Int32) < 0 ∧ ¬ rows < 0 ∧ (0 : Int32).toNatClampNeg + rows.toNatClampNeg ≤ n2 ∧ (0 : Int32).toNatClampNeg + rows.toNatClampNeg ≤ n) ∧
 ∀ u2, u2 = jcp u1 (B + 2) (0 : Int32).toNatClampNeg (A + 2) (0 : Int32).toNatClampNeg rows.toNatClampNeg →
 (¬ (0 : Int32) < 0 ∧ ¬ (0 : Int32) < 0 ∧ ¬ rows < 0 ∧ (0 : Int32).toNatClampNeg + rows.toNatClampNeg ≤ n2 ∧ (0 : Int32).toNatClampNeg + rows.toNatClampNeg ≤ n) ∧
 ∀ u3, u3 = jcp u2 (B + 3) (0 : Int32).toNatClampNeg (A + 3) (0 : Int32).toNatClampNeg rows.toNatClampNeg →
 (¬ (0 : Int32) < 0 ∧ ¬ (0 : Int32) < 0 ∧ ¬ (rows * 12) < 0 ∧ (0 : Int32).toNatClampNeg + (rows * 12).toNatClampNeg ≤ n2 * 12 ∧ (0 : Int32).toNatClampNeg + (rows * 12).toNatClampNeg ≤ n * 12) ∧
 ∀ u4, u4 = jcp u3 (B + 4) (0 : Int32).toNatClampNeg (A + 4) (0 : Int32).toNatClampNeg (rows * 12).toNatClampNeg →
 (¬ (0 : Int32) < 0 ∧ ¬ (0 : Int32) < 0 ∧ ¬ (rows * 8) < 0 ∧ (0 : Int32).toNatClampNeg + (rows * 8).toNatClampNeg ≤ n2 * 8 ∧ (0 : Int32).toNatClampNeg + (rows * 8).toNatClampNeg ≤ n * 8) ∧
 ∀ u5, u5 = jcp u4 (B + 5) (0 : Int32).toNatClampNeg (A + 5) (0 : Int32).toNatClampNeg (rows * 8).toNatClampNeg →
 K u5)
    : JVu E 1 YX0_takeRows K 0 [some (.ref A), some (.ref B), some (.int rows)] [] u := by
  refine jv_aload_n dX0_takeRows_0 rfl ?_
  refine gf_0_9 rfl dX0_takeRows_1 (kd_A_0 hB) (lt_A hB 0 rfl) (rf_A_0_0 hB) ?_
  refine jv_iconst dX0_takeRows_4 ci_iconst_0 ?_
  refine jv_aload_n dX0_takeRows_5 rfl ?_
  refine gf_0_9 rfl dX0_takeRows_6 (kd_A_0 hA) (lt_A hA 0 rfl) (rf_A_0_0 hA) ?_
  refine jv_iconst dX0_takeRows_9 ci_iconst_0 ?_
  refine jv_iload_n dX0_takeRows_10 rfl ?_
  obtain ⟨b1, h⟩ := h
  refine jm_acopy ac_0_27 dX0_takeRows_11 (kd_A_1 hB) (kd_A_1 hA) (lt_A hB 1 rfl) (lt_A hA 1 rfl) rfl (Nat.le_of_ble_eq_true rfl) (Nat.le_of_ble_eq_true rfl) b1.1 b1.2.1 b1.2.2.1 b1.2.2.2.1 b1.2.2.2.2 ?_
  generalize hhu1 : jcp u (B + 1) (0 : Int32).toNatClampNeg (A + 1) (0 : Int32).toNatClampNeg rows.toNatClampNeg = u1
  replace h := h u1 hhu1.symm
  refine jv_aload_n dX0_takeRows_14 rfl ?_
  refine gf_0_15 rfl dX0_takeRows_15 (kd_A_0 hB) (lt_A hB 0 rfl) (rf_A_0_1 hB) ?_
  refine jv_iconst dX0_takeRows_18 ci_iconst_0 ?_
  refine jv_aload_n dX0_takeRows_19 rfl ?_
  refine gf_0_15 rfl dX0_takeRows_20 (kd_A_0 hA) (lt_A hA 0 rfl) (rf_A_0_1 hA) ?_
  refine jv_iconst dX0_takeRows_23 ci_iconst_0 ?_
  refine jv_iload_n dX0_takeRows_24 rfl ?_
  obtain ⟨b2, h⟩ := h
  refine jm_acopy ac_0_27 dX0_takeRows_25 (kd_A_2 hB) (kd_A_2 hA) (lt_A hB 2 rfl) (lt_A hA 2 rfl) rfl (Nat.le_of_ble_eq_true rfl) (Nat.le_of_ble_eq_true rfl) b2.1 b2.2.1 b2.2.2.1 b2.2.2.2.1 b2.2.2.2.2 ?_
  generalize hhu2 : jcp u1 (B + 2) (0 : Int32).toNatClampNeg (A + 2) (0 : Int32).toNatClampNeg rows.toNatClampNeg = u2
  replace h := h u2 hhu2.symm
  refine jv_aload_n dX0_takeRows_28 rfl ?_
  refine gf_0_18 rfl dX0_takeRows_29 (kd_A_0 hB) (lt_A hB 0 rfl) (rf_A_0_2 hB) ?_
  refine jv_iconst dX0_takeRows_32 ci_iconst_0 ?_
  refine jv_aload_n dX0_takeRows_33 rfl ?_
  refine gf_0_18 rfl dX0_takeRows_34 (kd_A_0 hA) (lt_A hA 0 rfl) (rf_A_0_2 hA) ?_
  refine jv_iconst dX0_takeRows_37 ci_iconst_0 ?_
  refine jv_iload_n dX0_takeRows_38 rfl ?_
  obtain ⟨b3, h⟩ := h
  refine jm_acopy ac_0_27 dX0_takeRows_39 (kd_A_3 hB) (kd_A_3 hA) (lt_A hB 3 rfl) (lt_A hA 3 rfl) rfl (Nat.le_of_ble_eq_true rfl) (Nat.le_of_ble_eq_true rfl) b3.1 b3.2.1 b3.2.2.1 b3.2.2.2.1 b3.2.2.2.2 ?_
  generalize hhu3 : jcp u2 (B + 3) (0 : Int32).toNatClampNeg (A + 3) (0 : Int32).toNatClampNeg rows.toNatClampNeg = u3
  replace h := h u3 hhu3.symm
  refine jv_aload_n dX0_takeRows_42 rfl ?_
  refine gf_0_21 rfl dX0_takeRows_43 (kd_A_0 hB) (lt_A hB 0 rfl) (rf_A_0_3 hB) ?_
  refine jv_iconst dX0_takeRows_46 ci_iconst_0 ?_
  refine jv_aload_n dX0_takeRows_47 rfl ?_
  refine gf_0_21 rfl dX0_takeRows_48 (kd_A_0 hA) (lt_A hA 0 rfl) (rf_A_0_3 hA) ?_
  refine jv_iconst dX0_takeRows_51 ci_iconst_0 ?_
  refine jv_iload_n dX0_takeRows_52 rfl ?_
  refine jv_bipush dX0_takeRows_53 ci_bipush_12 ?_
  refine jv_imul dX0_takeRows_55 ?_
  obtain ⟨b4, h⟩ := h
  refine jm_acopy ac_0_27 dX0_takeRows_56 (kd_A_4 hB) (kd_A_4 hA) (lt_A hB 4 rfl) (lt_A hA 4 rfl) rfl (Nat.le_of_ble_eq_true rfl) (Nat.le_of_ble_eq_true rfl) b4.1 b4.2.1 b4.2.2.1 b4.2.2.2.1 b4.2.2.2.2 ?_
  generalize hhu4 : jcp u3 (B + 4) (0 : Int32).toNatClampNeg (A + 4) (0 : Int32).toNatClampNeg (rows * 12).toNatClampNeg = u4
  replace h := h u4 hhu4.symm
  refine jv_aload_n dX0_takeRows_59 rfl ?_
  refine gf_0_24 rfl dX0_takeRows_60 (kd_A_0 hB) (lt_A hB 0 rfl) (rf_A_0_4 hB) ?_
  refine jv_iconst dX0_takeRows_63 ci_iconst_0 ?_
  refine jv_aload_n dX0_takeRows_64 rfl ?_
  refine gf_0_24 rfl dX0_takeRows_65 (kd_A_0 hA) (lt_A hA 0 rfl) (rf_A_0_4 hA) ?_
  refine jv_iconst dX0_takeRows_68 ci_iconst_0 ?_
  refine jv_iload_n dX0_takeRows_69 rfl ?_
  refine jv_bipush dX0_takeRows_70 ci_bipush_8 ?_
  refine jv_imul dX0_takeRows_72 ?_
  obtain ⟨b5, h⟩ := h
  refine jm_acopy ac_0_27 dX0_takeRows_73 (kd_A_5 hB) (kd_A_5 hA) (lt_A hB 5 rfl) (lt_A hA 5 rfl) rfl (Nat.le_of_ble_eq_true rfl) (Nat.le_of_ble_eq_true rfl) b5.1 b5.2.1 b5.2.2.1 b5.2.2.2.1 b5.2.2.2.2 ?_
  generalize hhu5 : jcp u4 (B + 5) (0 : Int32).toNatClampNeg (A + 5) (0 : Int32).toNatClampNeg (rows * 8).toNatClampNeg = u5
  replace h := h u5 hhu5.symm
  exact jm_return dX0_takeRows_76 rfl h
theorem g_X0_forget_0 {E : JE} {u : JM} {K : JM → Prop} {A n : Nat} (hA : isAdv A n) {row : Int32}
    (h : vp_in row n ∧
 ∀ u1, u1 = jw u (A + 1) row.toNatClampNeg 0 →
 ∀ u2, u2 = jw u1 (A + 3) row.toNatClampNeg 0 →
 K u2)
    : JVu E 1 YX0_forget K 0 [some (.ref A), some (.int row)] [] u := by
  refine jv_aload_n dX0_forget_0 rfl ?_
  refine gf_0_9 rfl dX0_forget_1 (kd_A_0 hA) (lt_A hA 0 rfl) (rf_A_0_0 hA) ?_
  refine jv_iload_n dX0_forget_4 rfl ?_
  refine jv_iconst dX0_forget_5 ci_iconst_0 ?_
  obtain ⟨b1, h⟩ := h
  refine jm_iastore dX0_forget_6 (kd_A_1 hA) (lt_A hA 1 rfl) b1 ?_
  generalize hhu1 : jw u (A + 1) row.toNatClampNeg 0 = u1
  replace h := h u1 hhu1.symm
  refine jv_aload_n dX0_forget_7 rfl ?_
  refine gf_0_18 rfl dX0_forget_8 (kd_A_0 hA) (lt_A hA 0 rfl) (rf_A_0_2 hA) ?_
  refine jv_iload_n dX0_forget_11 rfl ?_
  refine jv_iconst dX0_forget_12 ci_iconst_0 ?_
  refine jm_iastore dX0_forget_13 (kd_A_3 hA) (lt_A hA 3 rfl) b1 ?_
  generalize hhu2 : jw u1 (A + 3) row.toNatClampNeg 0 = u2
  replace h := h u2 hhu2.symm
  exact jm_return dX0_forget_14 rfl h
theorem g_X0_tellsAs_0 {E : JE} {u : JM} {K : Int32 → JM → Prop} {A n : Nat} (hA : isAdv A n) {B n2 : Nat} (hB : isAdv B n2) {row other : Int32}
    (h : vp_in row n ∧
 vp_in other n2 ∧
 (((u (A + 3) row.toNatClampNeg) = (u (B + 3) other.toNatClampNeg) → JVi E 1 YX0_tellsAs K 20 [some (.ref A), some (.int row), some (.ref B), some (.int other), some (.int 0)] [] u) ∧
 (¬ (u (A + 3) row.toNatClampNeg) = (u (B + 3) other.toNatClampNeg) → K 0 u)))
    : JVi E 1 YX0_tellsAs K 0 [some (.ref A), some (.int row), some (.ref B), some (.int other), none] [] u := by
  refine jv_aload_n dX0_tellsAs_0 rfl ?_
  refine gf_0_18 rfl dX0_tellsAs_1 (kd_A_0 hA) (lt_A hA 0 rfl) (rf_A_0_2 hA) ?_
  refine jv_iload_n dX0_tellsAs_4 rfl ?_
  obtain ⟨b1, h⟩ := h
  refine jm_iaload dX0_tellsAs_5 (kd_A_3 hA) (lt_A hA 3 rfl) b1 ?_
  refine jv_aload_n dX0_tellsAs_6 rfl ?_
  refine gf_0_18 rfl dX0_tellsAs_7 (kd_A_0 hB) (lt_A hB 0 rfl) (rf_A_0_2 hB) ?_
  refine jv_iload_n dX0_tellsAs_10 rfl ?_
  obtain ⟨b2, h⟩ := h
  refine jm_iaload dX0_tellsAs_11 (kd_A_3 hB) (lt_A hB 3 rfl) b2 ?_
  refine jv_icmp_eq (t := 17) dX0_tellsAs_12 rfl (fun c3 => ?_) (fun c3 => ?_)
  · replace h := h.1 c3
    refine jv_iconst dX0_tellsAs_17 ci_iconst_0 ?_
    refine jv_istore (ls' := [some (.ref A), some (.int row), some (.ref B), some (.int other), some (.int 0)]) dX0_tellsAs_18 (Nat.le_of_ble_eq_true rfl) rfl ?_
    exact h
  · replace h := h.2 c3
    refine jv_iconst dX0_tellsAs_15 ci_iconst_0 ?_
    exact jm_zreturn dX0_tellsAs_16 rfl (Or.inl rfl) h
theorem g_X0_tellsAs_20 {E : JE} {u : JM} {K : Int32 → JM → Prop} {A n : Nat} (hA : isAdv A n) {B n2 : Nat} (hB : isAdv B n2) {row other i4 : Int32}
    (h : ((12 ≤ i4 → JVi E 1 YX0_tellsAs K 65 [some (.ref A), some (.int row), some (.ref B), some (.int other), some (.int 0)] [] u) ∧
 (¬ 12 ≤ i4 → vp_in ((row * 12) + i4) (n * 12) ∧
  vp_in ((other * 12) + i4) (n2 * 12) ∧
  (((u (A + 4) ((row * 12) + i4).toNatClampNeg) = (u (B + 4) ((other * 12) + i4).toNatClampNeg) → JVi E 1 YX0_tellsAs K 20 [some (.ref A), some (.int row), some (.ref B), some (.int other), some (.int (i4 + 1))] [] u) ∧
  (¬ (u (A + 4) ((row * 12) + i4).toNatClampNeg) = (u (B + 4) ((other * 12) + i4).toNatClampNeg) → K 0 u)))))
    : JVi E 1 YX0_tellsAs K 20 [some (.ref A), some (.int row), some (.ref B), some (.int other), some (.int i4)] [] u := by
  refine jv_iload dX0_tellsAs_20 rfl ?_
  refine jv_bipush dX0_tellsAs_22 ci_bipush_12 ?_
  refine jv_icmp_ge (t := 62) dX0_tellsAs_24 rfl (fun c1 => ?_) (fun c1 => ?_)
  · replace h := h.1 c1
    refine jv_iconst dX0_tellsAs_62 ci_iconst_0 ?_
    refine jv_istore (ls' := [some (.ref A), some (.int row), some (.ref B), some (.int other), some (.int 0)]) dX0_tellsAs_63 (Nat.le_of_ble_eq_true rfl) rfl ?_
    exact h
  · replace h := h.2 c1
    refine jv_aload_n dX0_tellsAs_27 rfl ?_
    refine gf_0_21 rfl dX0_tellsAs_28 (kd_A_0 hA) (lt_A hA 0 rfl) (rf_A_0_3 hA) ?_
    refine jv_iload_n dX0_tellsAs_31 rfl ?_
    refine jv_bipush dX0_tellsAs_32 ci_bipush_12 ?_
    refine jv_imul dX0_tellsAs_34 ?_
    refine jv_iload dX0_tellsAs_35 rfl ?_
    refine jv_iadd dX0_tellsAs_37 ?_
    obtain ⟨b2, h⟩ := h
    refine jm_iaload dX0_tellsAs_38 (kd_A_4 hA) (lt_A hA 4 rfl) b2 ?_
    refine jv_aload_n dX0_tellsAs_39 rfl ?_
    refine gf_0_21 rfl dX0_tellsAs_40 (kd_A_0 hB) (lt_A hB 0 rfl) (rf_A_0_3 hB) ?_
    refine jv_iload_n dX0_tellsAs_43 rfl ?_
    refine jv_bipush dX0_tellsAs_44 ci_bipush_12 ?_
    refine jv_imul dX0_tellsAs_46 ?_
    refine jv_iload dX0_tellsAs_47 rfl ?_
    refine jv_iadd dX0_tellsAs_49 ?_
    obtain ⟨b3, h⟩ := h
    refine jm_iaload dX0_tellsAs_50 (kd_A_4 hB) (lt_A hB 4 rfl) b3 ?_
    refine jv_icmp_eq (t := 56) dX0_tellsAs_51 rfl (fun c4 => ?_) (fun c4 => ?_)
    · replace h := h.1 c4
      refine jv_iinc (v := i4 + 1) (ls' := [some (.ref A), some (.int row), some (.ref B), some (.int other), some (.int (i4 + 1))]) dX0_tellsAs_56 (Nat.le_of_ble_eq_true rfl) rfl (by rw [ci_iconst_1]) rfl ?_
      refine jv_goto (t := 20) dX0_tellsAs_59 rfl ?_
      exact h
    · replace h := h.2 c4
      refine jv_iconst dX0_tellsAs_54 ci_iconst_0 ?_
      exact jm_zreturn dX0_tellsAs_55 rfl (Or.inl rfl) h
theorem g_X0_tellsAs_65 {E : JE} {u : JM} {K : Int32 → JM → Prop} {A n : Nat} (hA : isAdv A n) {B n2 : Nat} (hB : isAdv B n2) {row other i4 : Int32}
    (h : ((8 ≤ i4 → K 1 u) ∧
 (¬ 8 ≤ i4 → vp_in ((row * 8) + i4) (n * 8) ∧
  vp_in ((other * 8) + i4) (n2 * 8) ∧
  (((u (A + 5) ((row * 8) + i4).toNatClampNeg) = (u (B + 5) ((other * 8) + i4).toNatClampNeg) → JVi E 1 YX0_tellsAs K 65 [some (.ref A), some (.int row), some (.ref B), some (.int other), some (.int (i4 + 1))] [] u) ∧
  (¬ (u (A + 5) ((row * 8) + i4).toNatClampNeg) = (u (B + 5) ((other * 8) + i4).toNatClampNeg) → K 0 u)))))
    : JVi E 1 YX0_tellsAs K 65 [some (.ref A), some (.int row), some (.ref B), some (.int other), some (.int i4)] [] u := by
  refine jv_iload dX0_tellsAs_65 rfl ?_
  refine jv_bipush dX0_tellsAs_67 ci_bipush_8 ?_
  refine jv_icmp_ge (t := 107) dX0_tellsAs_69 rfl (fun c1 => ?_) (fun c1 => ?_)
  · replace h := h.1 c1
    refine jv_iconst dX0_tellsAs_107 ci_iconst_1 ?_
    exact jm_zreturn dX0_tellsAs_108 rfl (Or.inr rfl) h
  · replace h := h.2 c1
    refine jv_aload_n dX0_tellsAs_72 rfl ?_
    refine gf_0_24 rfl dX0_tellsAs_73 (kd_A_0 hA) (lt_A hA 0 rfl) (rf_A_0_4 hA) ?_
    refine jv_iload_n dX0_tellsAs_76 rfl ?_
    refine jv_bipush dX0_tellsAs_77 ci_bipush_8 ?_
    refine jv_imul dX0_tellsAs_79 ?_
    refine jv_iload dX0_tellsAs_80 rfl ?_
    refine jv_iadd dX0_tellsAs_82 ?_
    obtain ⟨b2, h⟩ := h
    refine jm_iaload dX0_tellsAs_83 (kd_A_5 hA) (lt_A hA 5 rfl) b2 ?_
    refine jv_aload_n dX0_tellsAs_84 rfl ?_
    refine gf_0_24 rfl dX0_tellsAs_85 (kd_A_0 hB) (lt_A hB 0 rfl) (rf_A_0_4 hB) ?_
    refine jv_iload_n dX0_tellsAs_88 rfl ?_
    refine jv_bipush dX0_tellsAs_89 ci_bipush_8 ?_
    refine jv_imul dX0_tellsAs_91 ?_
    refine jv_iload dX0_tellsAs_92 rfl ?_
    refine jv_iadd dX0_tellsAs_94 ?_
    obtain ⟨b3, h⟩ := h
    refine jm_iaload dX0_tellsAs_95 (kd_A_5 hB) (lt_A hB 5 rfl) b3 ?_
    refine jv_icmp_eq (t := 101) dX0_tellsAs_96 rfl (fun c4 => ?_) (fun c4 => ?_)
    · replace h := h.1 c4
      refine jv_iinc (v := i4 + 1) (ls' := [some (.ref A), some (.int row), some (.ref B), some (.int other), some (.int (i4 + 1))]) dX0_tellsAs_101 (Nat.le_of_ble_eq_true rfl) rfl (by rw [ci_iconst_1]) rfl ?_
      refine jv_goto (t := 65) dX0_tellsAs_104 rfl ?_
      exact h
    · replace h := h.2 c4
      refine jv_iconst dX0_tellsAs_99 ci_iconst_0 ?_
      exact jm_zreturn dX0_tellsAs_100 rfl (Or.inl rfl) h
theorem g_X1_add_0 {E : JE} {u : JM} {K : Int32 → JM → Prop} {N : Nat} (hN : isNet N) {a1 a2 a3 a4 a5 : Int32}
    (h : vp_in (u (N + 1) 0) 12 ∧
 ∀ u1, u1 = jw u (N + 2) (u (N + 1) 0).toNatClampNeg a1 →
 ∀ u2, u2 = jw u1 (N + 3) (u (N + 1) 0).toNatClampNeg a2 →
 ∀ u3, u3 = jw u2 (N + 4) (u (N + 1) 0).toNatClampNeg a3 →
 ∀ u4, u4 = jw u3 (N + 5) (u (N + 1) 0).toNatClampNeg a4 →
 ∀ u5, u5 = jw u4 (N + 6) (u (N + 1) 0).toNatClampNeg a5 →
 ∀ u6, u6 = jw u5 (N + 7) (u (N + 1) 0).toNatClampNeg 1 →
 ∀ u7, u7 = jw u6 (N + 1) 0 ((u6 (N + 1) 0) + 1) →
 K (u (N + 1) 0) u7)
    : JVi E 1 YX1_add K 0 [some (.ref (N + 1)), some (.int a1), some (.int a2), some (.int a3), some (.int a4), some (.int a5), none] [] u := by
  refine jv_aload_n dX1_add_0 rfl ?_
  refine gf_1_34 rfl dX1_add_1 (kd_N_1 hN) (lt_N hN 1 rfl) ?_
  refine jv_istore (ls' := [some (.ref (N + 1)), some (.int a1), some (.int a2), some (.int a3), some (.int a4), some (.int a5), some (.int (u (N + 1) 0))]) dX1_add_4 (Nat.le_of_ble_eq_true rfl) rfl ?_
  refine jv_aload_n dX1_add_6 rfl ?_
  refine gf_1_9 rfl dX1_add_7 (kd_N_1 hN) (lt_N hN 1 rfl) (rf_N_1_1 hN) ?_
  refine jv_iload dX1_add_10 rfl ?_
  refine jv_iload_n dX1_add_12 rfl ?_
  obtain ⟨b1, h⟩ := h
  refine jm_iastore dX1_add_13 (kd_N_2 hN) (lt_N hN 2 rfl) b1 ?_
  generalize hhu1 : jw u (N + 2) (u (N + 1) 0).toNatClampNeg a1 = u1
  replace h := h u1 hhu1.symm
  refine jv_aload_n dX1_add_14 rfl ?_
  refine gf_1_15 rfl dX1_add_15 (kd_N_1 hN) (lt_N hN 1 rfl) (rf_N_1_2 hN) ?_
  refine jv_iload dX1_add_18 rfl ?_
  refine jv_iload_n dX1_add_20 rfl ?_
  refine jm_iastore dX1_add_21 (kd_N_3 hN) (lt_N hN 3 rfl) b1 ?_
  generalize hhu2 : jw u1 (N + 3) (u (N + 1) 0).toNatClampNeg a2 = u2
  replace h := h u2 hhu2.symm
  refine jv_aload_n dX1_add_22 rfl ?_
  refine gf_1_18 rfl dX1_add_23 (kd_N_1 hN) (lt_N hN 1 rfl) (rf_N_1_3 hN) ?_
  refine jv_iload dX1_add_26 rfl ?_
  refine jv_iload_n dX1_add_28 rfl ?_
  refine jm_iastore dX1_add_29 (kd_N_4 hN) (lt_N hN 4 rfl) b1 ?_
  generalize hhu3 : jw u2 (N + 4) (u (N + 1) 0).toNatClampNeg a3 = u3
  replace h := h u3 hhu3.symm
  refine jv_aload_n dX1_add_30 rfl ?_
  refine gf_1_21 rfl dX1_add_31 (kd_N_1 hN) (lt_N hN 1 rfl) (rf_N_1_4 hN) ?_
  refine jv_iload dX1_add_34 rfl ?_
  refine jv_iload dX1_add_36 rfl ?_
  refine jm_iastore dX1_add_38 (kd_N_5 hN) (lt_N hN 5 rfl) b1 ?_
  generalize hhu4 : jw u3 (N + 5) (u (N + 1) 0).toNatClampNeg a4 = u4
  replace h := h u4 hhu4.symm
  refine jv_aload_n dX1_add_39 rfl ?_
  refine gf_1_24 rfl dX1_add_40 (kd_N_1 hN) (lt_N hN 1 rfl) (rf_N_1_5 hN) ?_
  refine jv_iload dX1_add_43 rfl ?_
  refine jv_iload dX1_add_45 rfl ?_
  refine jm_iastore dX1_add_47 (kd_N_6 hN) (lt_N hN 6 rfl) b1 ?_
  generalize hhu5 : jw u4 (N + 6) (u (N + 1) 0).toNatClampNeg a5 = u5
  replace h := h u5 hhu5.symm
  refine jv_aload_n dX1_add_48 rfl ?_
  refine gf_1_27 rfl dX1_add_49 (kd_N_1 hN) (lt_N hN 1 rfl) (rf_N_1_6 hN) ?_
  refine jv_iload dX1_add_52 rfl ?_
  refine jv_iconst dX1_add_54 ci_iconst_1 ?_
  refine jm_bastore dX1_add_55 (kd_N_7 hN) (lt_N hN 7 rfl) b1 (Or.inr rfl) ?_
  generalize hhu6 : jw u5 (N + 7) (u (N + 1) 0).toNatClampNeg 1 = u6
  replace h := h u6 hhu6.symm
  refine jv_aload_n dX1_add_56 rfl ?_
  refine jv_dup dX1_add_57 rfl ?_
  refine gf_1_34 rfl dX1_add_58 (kd_N_1 hN) (lt_N hN 1 rfl) ?_
  refine jv_iconst dX1_add_61 ci_iconst_1 ?_
  refine jv_iadd dX1_add_62 ?_
  refine pf_1_34 rfl dX1_add_63 (kd_N_1 hN) (lt_N hN 1 rfl) ?_
  generalize hhu7 : jw u6 (N + 1) 0 ((u6 (N + 1) 0) + 1) = u7
  replace h := h u7 hhu7.symm
  refine jv_iload dX1_add_66 rfl ?_
  exact jm_ireturn dX1_add_68 rfl h
theorem g_X1_takeOver_0 {E : JE} {u : JM} {K : JM → Prop} {N : Nat} (hN : isNet N) {M : Nat} (hM : isNet M)
    (h : ∀ u1, u1 = jw u (N + 1) 0 (u (M + 1) 0) →
 (¬ (0 : Int32) < 0 ∧ ¬ (0 : Int32) < 0 ∧ ¬ (12 : Int32) < 0 ∧ (0 : Int32).toNatClampNeg + (12 : Int32).toNatClampNeg ≤ 12 ∧ (0 : Int32).toNatClampNeg + (12 : Int32).toNatClampNeg ≤ 12) ∧
 ∀ u2, u2 = jcp u1 (M + 2) (0 : Int32).toNatClampNeg (N + 2) (0 : Int32).toNatClampNeg (12 : Int32).toNatClampNeg →
 (¬ (0 : Int32) < 0 ∧ ¬ (0 : Int32) < 0 ∧ ¬ (12 : Int32) < 0 ∧ (0 : Int32).toNatClampNeg + (12 : Int32).toNatClampNeg ≤ 12 ∧ (0 : Int32).toNatClampNeg + (12 : Int32).toNatClampNeg ≤ 12) ∧
 ∀ u3, u3 = jcp u2 (M + 3) (0 : Int32).toNatClampNeg (N + 3) (0 : Int32).toNatClampNeg (12 : Int32).toNatClampNeg →
 (¬ (0 : Int32) < 0 ∧ ¬ (0 : Int32) < 0 ∧ ¬ (12 : Int32) < 0 ∧ (0 : Int32).toNatClampNeg + (12 : Int32).toNatClampNeg ≤ 12 ∧ (0 : Int32).toNatClampNeg + (12 : Int32).toNatClampNeg ≤ 12) ∧
 ∀ u4, u4 = jcp u3 (M + 4) (0 : Int32).toNatClampNeg (N + 4) (0 : Int32).toNatClampNeg (12 : Int32).toNatClampNeg →
 (¬ (0 : Int32) < 0 ∧ ¬ (0 : Int32) < 0 ∧ ¬ (12 : Int32) < 0 ∧ (0 : Int32).toNatClampNeg + (12 : Int32).toNatClampNeg ≤ 12 ∧ (0 : Int32).toNatClampNeg + (12 : Int32).toNatClampNeg ≤ 12) ∧
 ∀ u5, u5 = jcp u4 (M + 5) (0 : Int32).toNatClampNeg (N + 5) (0 : Int32).toNatClampNeg (12 : Int32).toNatClampNeg →
 (¬ (0 : Int32) < 0 ∧ ¬ (0 : Int32) < 0 ∧ ¬ (12 : Int32) < 0 ∧ (0 : Int32).toNatClampNeg + (12 : Int32).toNatClampNeg ≤ 12 ∧ (0 : Int32).toNatClampNeg + (12 : Int32).toNatClampNeg ≤ 12) ∧
 ∀ u6, u6 = jcp u5 (M + 6) (0 : Int32).toNatClampNeg (N + 6) (0 : Int32).toNatClampNeg (12 : Int32).toNatClampNeg →
 (¬ (0 : Int32) < 0 ∧ ¬ (0 : Int32) < 0 ∧ ¬ (12 : Int32) < 0 ∧ (0 : Int32).toNatClampNeg + (12 : Int32).toNatClampNeg ≤ 12 ∧ (0 : Int32).toNatClampNeg + (12 : Int32).toNatClampNeg ≤ 12 ∧ ∀ i, i < (12 : Int32).toNatClampNeg → u6 (M + 7) ((0 : Int32).toNatClampNeg + i) = 0 ∨ u6 (M + 7) ((0 : Int32).toNatClampNeg + i) = 1) ∧
 ∀ u7, u7 = jcp u6 (M + 7) (0 : Int32).toNatClampNeg (N + 7) (0 : Int32).toNatClampNeg (12 : Int32).toNatClampNeg →
 K u7)
    : JVu E 1 YX1_takeOver K 0 [some (.ref (N + 1)), some (.ref (M + 1))] [] u := by
  refine jv_aload_n dX1_takeOver_0 rfl ?_
  refine jv_aload_n dX1_takeOver_1 rfl ?_
  refine gf_1_34 rfl dX1_takeOver_2 (kd_N_1 hM) (lt_N hM 1 rfl) ?_
  refine pf_1_34 rfl dX1_takeOver_5 (kd_N_1 hN) (lt_N hN 1 rfl) ?_
  generalize hhu1 : jw u (N + 1) 0 (u (M + 1) 0) = u1
  replace h := h u1 hhu1.symm
  refine jv_aload_n dX1_takeOver_8 rfl ?_
  refine gf_1_9 rfl dX1_takeOver_9 (kd_N_1 hM) (lt_N hM 1 rfl) (rf_N_1_1 hM) ?_
  refine jv_iconst dX1_takeOver_12 ci_iconst_0 ?_
  refine jv_aload_n dX1_takeOver_13 rfl ?_
  refine gf_1_9 rfl dX1_takeOver_14 (kd_N_1 hN) (lt_N hN 1 rfl) (rf_N_1_1 hN) ?_
  refine jv_iconst dX1_takeOver_17 ci_iconst_0 ?_
  refine jv_bipush dX1_takeOver_18 ci_bipush_12 ?_
  obtain ⟨b1, h⟩ := h
  refine jm_acopy ac_1_38 dX1_takeOver_20 (kd_N_2 hM) (kd_N_2 hN) (lt_N hM 2 rfl) (lt_N hN 2 rfl) rfl (Nat.le_of_ble_eq_true rfl) (Nat.le_of_ble_eq_true rfl) b1.1 b1.2.1 b1.2.2.1 b1.2.2.2.1 b1.2.2.2.2 ?_
  generalize hhu2 : jcp u1 (M + 2) (0 : Int32).toNatClampNeg (N + 2) (0 : Int32).toNatClampNeg (12 : Int32).toNatClampNeg = u2
  replace h := h u2 hhu2.symm
  refine jv_aload_n dX1_takeOver_23 rfl ?_
  refine gf_1_15 rfl dX1_takeOver_24 (kd_N_1 hM) (lt_N hM 1 rfl) (rf_N_1_2 hM) ?_
  refine jv_iconst dX1_takeOver_27 ci_iconst_0 ?_
  refine jv_aload_n dX1_takeOver_28 rfl ?_
  refine gf_1_15 rfl dX1_takeOver_29 (kd_N_1 hN) (lt_N hN 1 rfl) (rf_N_1_2 hN) ?_
  refine jv_iconst dX1_takeOver_32 ci_iconst_0 ?_
  refine jv_bipush dX1_takeOver_33 ci_bipush_12 ?_
  obtain ⟨b2, h⟩ := h
  refine jm_acopy ac_1_38 dX1_takeOver_35 (kd_N_3 hM) (kd_N_3 hN) (lt_N hM 3 rfl) (lt_N hN 3 rfl) rfl (Nat.le_of_ble_eq_true rfl) (Nat.le_of_ble_eq_true rfl) b2.1 b2.2.1 b2.2.2.1 b2.2.2.2.1 b2.2.2.2.2 ?_
  generalize hhu3 : jcp u2 (M + 3) (0 : Int32).toNatClampNeg (N + 3) (0 : Int32).toNatClampNeg (12 : Int32).toNatClampNeg = u3
  replace h := h u3 hhu3.symm
  refine jv_aload_n dX1_takeOver_38 rfl ?_
  refine gf_1_18 rfl dX1_takeOver_39 (kd_N_1 hM) (lt_N hM 1 rfl) (rf_N_1_3 hM) ?_
  refine jv_iconst dX1_takeOver_42 ci_iconst_0 ?_
  refine jv_aload_n dX1_takeOver_43 rfl ?_
  refine gf_1_18 rfl dX1_takeOver_44 (kd_N_1 hN) (lt_N hN 1 rfl) (rf_N_1_3 hN) ?_
  refine jv_iconst dX1_takeOver_47 ci_iconst_0 ?_
  refine jv_bipush dX1_takeOver_48 ci_bipush_12 ?_
  obtain ⟨b3, h⟩ := h
  refine jm_acopy ac_1_38 dX1_takeOver_50 (kd_N_4 hM) (kd_N_4 hN) (lt_N hM 4 rfl) (lt_N hN 4 rfl) rfl (Nat.le_of_ble_eq_true rfl) (Nat.le_of_ble_eq_true rfl) b3.1 b3.2.1 b3.2.2.1 b3.2.2.2.1 b3.2.2.2.2 ?_
  generalize hhu4 : jcp u3 (M + 4) (0 : Int32).toNatClampNeg (N + 4) (0 : Int32).toNatClampNeg (12 : Int32).toNatClampNeg = u4
  replace h := h u4 hhu4.symm
  refine jv_aload_n dX1_takeOver_53 rfl ?_
  refine gf_1_21 rfl dX1_takeOver_54 (kd_N_1 hM) (lt_N hM 1 rfl) (rf_N_1_4 hM) ?_
  refine jv_iconst dX1_takeOver_57 ci_iconst_0 ?_
  refine jv_aload_n dX1_takeOver_58 rfl ?_
  refine gf_1_21 rfl dX1_takeOver_59 (kd_N_1 hN) (lt_N hN 1 rfl) (rf_N_1_4 hN) ?_
  refine jv_iconst dX1_takeOver_62 ci_iconst_0 ?_
  refine jv_bipush dX1_takeOver_63 ci_bipush_12 ?_
  obtain ⟨b4, h⟩ := h
  refine jm_acopy ac_1_38 dX1_takeOver_65 (kd_N_5 hM) (kd_N_5 hN) (lt_N hM 5 rfl) (lt_N hN 5 rfl) rfl (Nat.le_of_ble_eq_true rfl) (Nat.le_of_ble_eq_true rfl) b4.1 b4.2.1 b4.2.2.1 b4.2.2.2.1 b4.2.2.2.2 ?_
  generalize hhu5 : jcp u4 (M + 5) (0 : Int32).toNatClampNeg (N + 5) (0 : Int32).toNatClampNeg (12 : Int32).toNatClampNeg = u5
  replace h := h u5 hhu5.symm
  refine jv_aload_n dX1_takeOver_68 rfl ?_
  refine gf_1_24 rfl dX1_takeOver_69 (kd_N_1 hM) (lt_N hM 1 rfl) (rf_N_1_5 hM) ?_
  refine jv_iconst dX1_takeOver_72 ci_iconst_0 ?_
  refine jv_aload_n dX1_takeOver_73 rfl ?_
  refine gf_1_24 rfl dX1_takeOver_74 (kd_N_1 hN) (lt_N hN 1 rfl) (rf_N_1_5 hN) ?_
  refine jv_iconst dX1_takeOver_77 ci_iconst_0 ?_
  refine jv_bipush dX1_takeOver_78 ci_bipush_12 ?_
  obtain ⟨b5, h⟩ := h
  refine jm_acopy ac_1_38 dX1_takeOver_80 (kd_N_6 hM) (kd_N_6 hN) (lt_N hM 6 rfl) (lt_N hN 6 rfl) rfl (Nat.le_of_ble_eq_true rfl) (Nat.le_of_ble_eq_true rfl) b5.1 b5.2.1 b5.2.2.1 b5.2.2.2.1 b5.2.2.2.2 ?_
  generalize hhu6 : jcp u5 (M + 6) (0 : Int32).toNatClampNeg (N + 6) (0 : Int32).toNatClampNeg (12 : Int32).toNatClampNeg = u6
  replace h := h u6 hhu6.symm
  refine jv_aload_n dX1_takeOver_83 rfl ?_
  refine gf_1_27 rfl dX1_takeOver_84 (kd_N_1 hM) (lt_N hM 1 rfl) (rf_N_1_6 hM) ?_
  refine jv_iconst dX1_takeOver_87 ci_iconst_0 ?_
  refine jv_aload_n dX1_takeOver_88 rfl ?_
  refine gf_1_27 rfl dX1_takeOver_89 (kd_N_1 hN) (lt_N hN 1 rfl) (rf_N_1_6 hN) ?_
  refine jv_iconst dX1_takeOver_92 ci_iconst_0 ?_
  refine jv_bipush dX1_takeOver_93 ci_bipush_12 ?_
  obtain ⟨b6, h⟩ := h
  refine jm_acopyz ac_1_38 dX1_takeOver_95 (kd_N_7 hM) (kd_N_7 hN) (lt_N hM 7 rfl) (lt_N hN 7 rfl) rfl (Nat.le_of_ble_eq_true rfl) (Nat.le_of_ble_eq_true rfl) b6.1 b6.2.1 b6.2.2.1 b6.2.2.2.1 b6.2.2.2.2.1 b6.2.2.2.2.2 ?_
  generalize hhu7 : jcp u6 (M + 7) (0 : Int32).toNatClampNeg (N + 7) (0 : Int32).toNatClampNeg (12 : Int32).toNatClampNeg = u7
  replace h := h u7 hhu7.symm
  exact jm_return dX1_takeOver_98 rfl h
theorem g_X1_areasOf_0 {E : JE} {u : JM} {K : Int32 → JM → Prop} {N : Nat} (hN : isNet N) {a1 : Int32}
    (h : JVi E 2 YX1_areasOf K 4 [some (.ref (N + 1)), some (.int a1), some (.int 0), some (.int 0)] [] u)
    : JVi E 2 YX1_areasOf K 0 [some (.ref (N + 1)), some (.int a1), none, none] [] u := by
  refine jv_iconst dX1_areasOf_0 ci_iconst_0 ?_
  refine jv_istore_n (ls' := [some (.ref (N + 1)), some (.int a1), some (.int 0), none]) dX1_areasOf_1 (Nat.le_of_ble_eq_true rfl) rfl ?_
  refine jv_iconst dX1_areasOf_2 ci_iconst_0 ?_
  refine jv_istore_n (ls' := [some (.ref (N + 1)), some (.int a1), some (.int 0), some (.int 0)]) dX1_areasOf_3 (Nat.le_of_ble_eq_true rfl) rfl ?_
  exact h
theorem g_X1_areasOf_4 {E : JE} {u : JM} {K : Int32 → JM → Prop} {N : Nat} (hN : isNet N) {a1 i2 i3 : Int32}
    (h : (((u (N + 1) 0) ≤ i3 → K i2 u) ∧
 (¬ (u (N + 1) 0) ≤ i3 → vp_in i3 12 ∧
  ∀ i2_1 : Int32, i2_1 = (if (jb (¬ u (N + 7) i3.toNatClampNeg = 0 ∧ (u (N + 2) i3.toNatClampNeg = a1 ∨ u (N + 3) i3.toNatClampNeg = a1))) = 0 then i2 else (i2 ||| ((1 : Int32) <<< ((u (N + 4) i3.toNatClampNeg) &&& 31)))) →
  JVi E 2 YX1_areasOf K 4 [some (.ref (N + 1)), some (.int a1), some (.int i2_1), some (.int (i3 + 1))] [] u)))
    : JVi E 2 YX1_areasOf K 4 [some (.ref (N + 1)), some (.int a1), some (.int i2), some (.int i3)] [] u := by
  refine jv_iload_n dX1_areasOf_4 rfl ?_
  refine jv_aload_n dX1_areasOf_5 rfl ?_
  refine gf_1_34 rfl dX1_areasOf_6 (kd_N_1 hN) (lt_N hN 1 rfl) ?_
  refine jv_icmp_ge (t := 38) dX1_areasOf_9 rfl (fun c1 => ?_) (fun c1 => ?_)
  · replace h := h.1 c1
    refine jv_iload_n dX1_areasOf_38 rfl ?_
    exact jm_ireturn dX1_areasOf_39 rfl h
  · replace h := h.2 c1
    refine jv_aload_n dX1_areasOf_12 rfl ?_
    refine jv_iload_n dX1_areasOf_13 rfl ?_
    refine jv_iload_n dX1_areasOf_14 rfl ?_
    obtain ⟨b4, h⟩ := h
    refine jm_callVi [.int i3, .int a1] cw_1_44 dX1_areasOf_15 rfl (Nat.le_of_ble_eq_true rfl) (kd_N_1 hN) (r := (RX1, TX1, 8)) rfl rfl (lt_N hN 1 rfl) (Nat.le_of_ble_eq_true rfl) (p_X1_isUpAt hN b4 ?_)
    have key6 : ∀ i2_1 : Int32, i2_1 = (if (jb (¬ u (N + 7) i3.toNatClampNeg = 0 ∧ (u (N + 2) i3.toNatClampNeg = a1 ∨ u (N + 3) i3.toNatClampNeg = a1))) = 0 then i2 else (i2 ||| ((1 : Int32) <<< ((u (N + 4) i3.toNatClampNeg) &&& 31)))) → JVi E 2 YX1_areasOf K 32 [some (.ref (N + 1)), some (.int a1), some (.int i2_1), some (.int i3)] [] u := by
      intro i2_1 hi2_1
      replace h := h i2_1 hi2_1
      refine jv_iinc (v := i3 + 1) (ls' := [some (.ref (N + 1)), some (.int a1), some (.int i2_1), some (.int (i3 + 1))]) dX1_areasOf_32 (Nat.le_of_ble_eq_true rfl) rfl (by rw [ci_iconst_1]) rfl ?_
      refine jv_goto (t := 4) dX1_areasOf_35 rfl ?_
      exact h
    clear h
    refine jv_if_eq (t := 32) dX1_areasOf_18 rfl (fun c7 => ?_) (fun c7 => ?_)
    · exact key6 _ (Eq.trans rfl (if_pos c7).symm)
    · refine jv_iload_n dX1_areasOf_21 rfl ?_
      refine jv_iconst dX1_areasOf_22 ci_iconst_1 ?_
      refine jv_aload_n dX1_areasOf_23 rfl ?_
      refine gf_1_18 rfl dX1_areasOf_24 (kd_N_1 hN) (lt_N hN 1 rfl) (rf_N_1_3 hN) ?_
      refine jv_iload_n dX1_areasOf_27 rfl ?_
      refine jm_iaload dX1_areasOf_28 (kd_N_4 hN) (lt_N hN 4 rfl) b4 ?_
      refine jv_ishl dX1_areasOf_29 ?_
      refine jv_ior dX1_areasOf_30 ?_
      refine jv_istore_n (ls' := [some (.ref (N + 1)), some (.int a1), some (.int (i2 ||| ((1 : Int32) <<< ((u (N + 4) i3.toNatClampNeg) &&& 31)))), some (.int i3)]) dX1_areasOf_31 (Nat.le_of_ble_eq_true rfl) rfl ?_
      exact key6 _ (Eq.trans rfl (if_neg c7).symm)
theorem g_X1_upOf_0 {E : JE} {u : JM} {K : Int32 → JM → Prop} {N : Nat} (hN : isNet N) {a1 : Int32}
    (h : JVi E 2 YX1_upOf K 4 [some (.ref (N + 1)), some (.int a1), some (.int 0), some (.int 0)] [] u)
    : JVi E 2 YX1_upOf K 0 [some (.ref (N + 1)), some (.int a1), none, none] [] u := by
  refine jv_iconst dX1_upOf_0 ci_iconst_0 ?_
  refine jv_istore_n (ls' := [some (.ref (N + 1)), some (.int a1), some (.int 0), none]) dX1_upOf_1 (Nat.le_of_ble_eq_true rfl) rfl ?_
  refine jv_iconst dX1_upOf_2 ci_iconst_0 ?_
  refine jv_istore_n (ls' := [some (.ref (N + 1)), some (.int a1), some (.int 0), some (.int 0)]) dX1_upOf_3 (Nat.le_of_ble_eq_true rfl) rfl ?_
  exact h
theorem g_X1_upOf_4 {E : JE} {u : JM} {K : Int32 → JM → Prop} {N : Nat} (hN : isNet N) {a1 i2 i3 : Int32}
    (h : (((u (N + 1) 0) ≤ i3 → K i2 u) ∧
 (¬ (u (N + 1) 0) ≤ i3 → vp_in i3 12 ∧
  ∀ i2_1 : Int32, i2_1 = (if (jb (¬ u (N + 7) i3.toNatClampNeg = 0 ∧ (u (N + 2) i3.toNatClampNeg = a1 ∨ u (N + 3) i3.toNatClampNeg = a1))) = 0 then i2 else (i2 + 1)) →
  JVi E 2 YX1_upOf K 4 [some (.ref (N + 1)), some (.int a1), some (.int i2_1), some (.int (i3 + 1))] [] u)))
    : JVi E 2 YX1_upOf K 4 [some (.ref (N + 1)), some (.int a1), some (.int i2), some (.int i3)] [] u := by
  refine jv_iload_n dX1_upOf_4 rfl ?_
  refine jv_aload_n dX1_upOf_5 rfl ?_
  refine gf_1_34 rfl dX1_upOf_6 (kd_N_1 hN) (lt_N hN 1 rfl) ?_
  refine jv_icmp_ge (t := 30) dX1_upOf_9 rfl (fun c1 => ?_) (fun c1 => ?_)
  · replace h := h.1 c1
    refine jv_iload_n dX1_upOf_30 rfl ?_
    exact jm_ireturn dX1_upOf_31 rfl h
  · replace h := h.2 c1
    refine jv_aload_n dX1_upOf_12 rfl ?_
    refine jv_iload_n dX1_upOf_13 rfl ?_
    refine jv_iload_n dX1_upOf_14 rfl ?_
    obtain ⟨b3, h⟩ := h
    refine jm_callVi [.int i3, .int a1] cw_1_44 dX1_upOf_15 rfl (Nat.le_of_ble_eq_true rfl) (kd_N_1 hN) (r := (RX1, TX1, 8)) rfl rfl (lt_N hN 1 rfl) (Nat.le_of_ble_eq_true rfl) (p_X1_isUpAt hN b3 ?_)
    have key5 : ∀ i2_1 : Int32, i2_1 = (if (jb (¬ u (N + 7) i3.toNatClampNeg = 0 ∧ (u (N + 2) i3.toNatClampNeg = a1 ∨ u (N + 3) i3.toNatClampNeg = a1))) = 0 then i2 else (i2 + 1)) → JVi E 2 YX1_upOf K 24 [some (.ref (N + 1)), some (.int a1), some (.int i2_1), some (.int i3)] [] u := by
      intro i2_1 hi2_1
      replace h := h i2_1 hi2_1
      refine jv_iinc (v := i3 + 1) (ls' := [some (.ref (N + 1)), some (.int a1), some (.int i2_1), some (.int (i3 + 1))]) dX1_upOf_24 (Nat.le_of_ble_eq_true rfl) rfl (by rw [ci_iconst_1]) rfl ?_
      refine jv_goto (t := 4) dX1_upOf_27 rfl ?_
      exact h
    clear h
    refine jv_if_eq (t := 24) dX1_upOf_18 rfl (fun c6 => ?_) (fun c6 => ?_)
    · exact key5 _ (Eq.trans rfl (if_pos c6).symm)
    · refine jv_iinc (v := i2 + 1) (ls' := [some (.ref (N + 1)), some (.int a1), some (.int (i2 + 1)), some (.int i3)]) dX1_upOf_21 (Nat.le_of_ble_eq_true rfl) rfl (by rw [ci_iconst_1]) rfl ?_
      exact key5 _ (Eq.trans rfl (if_neg c6).symm)
theorem g_X1_upInAll_0 {E : JE} {u : JM} {K : Int32 → JM → Prop} {N : Nat} (hN : isNet N)
    (h : JVi E 1 YX1_upInAll K 4 [some (.ref (N + 1)), some (.int 0), some (.int 0)] [] u)
    : JVi E 1 YX1_upInAll K 0 [some (.ref (N + 1)), none, none] [] u := by
  refine jv_iconst dX1_upInAll_0 ci_iconst_0 ?_
  refine jv_istore_n (ls' := [some (.ref (N + 1)), some (.int 0), none]) dX1_upInAll_1 (Nat.le_of_ble_eq_true rfl) rfl ?_
  refine jv_iconst dX1_upInAll_2 ci_iconst_0 ?_
  refine jv_istore_n (ls' := [some (.ref (N + 1)), some (.int 0), some (.int 0)]) dX1_upInAll_3 (Nat.le_of_ble_eq_true rfl) rfl ?_
  exact h
theorem g_X1_upInAll_4 {E : JE} {u : JM} {K : Int32 → JM → Prop} {N : Nat} (hN : isNet N) {i1 i2 : Int32}
    (h : (((u (N + 1) 0) ≤ i2 → K i1 u) ∧
 (¬ (u (N + 1) 0) ≤ i2 → vp_in i2 12 ∧
  ∀ i1_1 : Int32, i1_1 = (if (u (N + 7) i2.toNatClampNeg) = 0 then i1 else (i1 + 1)) →
  JVi E 1 YX1_upInAll K 4 [some (.ref (N + 1)), some (.int i1_1), some (.int (i2 + 1))] [] u)))
    : JVi E 1 YX1_upInAll K 4 [some (.ref (N + 1)), some (.int i1), some (.int i2)] [] u := by
  refine jv_iload_n dX1_upInAll_4 rfl ?_
  refine jv_aload_n dX1_upInAll_5 rfl ?_
  refine gf_1_34 rfl dX1_upInAll_6 (kd_N_1 hN) (lt_N hN 1 rfl) ?_
  refine jv_icmp_ge (t := 30) dX1_upInAll_9 rfl (fun c1 => ?_) (fun c1 => ?_)
  · replace h := h.1 c1
    refine jv_iload_n dX1_upInAll_30 rfl ?_
    exact jm_ireturn dX1_upInAll_31 rfl h
  · replace h := h.2 c1
    refine jv_aload_n dX1_upInAll_12 rfl ?_
    refine gf_1_27 rfl dX1_upInAll_13 (kd_N_1 hN) (lt_N hN 1 rfl) (rf_N_1_6 hN) ?_
    refine jv_iload_n dX1_upInAll_16 rfl ?_
    obtain ⟨b3, h⟩ := h
    refine jm_baload dX1_upInAll_17 (kd_N_7 hN) (lt_N hN 7 rfl) b3 ?_
    have key5 : ∀ i1_1 : Int32, i1_1 = (if (u (N + 7) i2.toNatClampNeg) = 0 then i1 else (i1 + 1)) → JVi E 1 YX1_upInAll K 24 [some (.ref (N + 1)), some (.int i1_1), some (.int i2)] [] u := by
      intro i1_1 hi1_1
      replace h := h i1_1 hi1_1
      refine jv_iinc (v := i2 + 1) (ls' := [some (.ref (N + 1)), some (.int i1_1), some (.int (i2 + 1))]) dX1_upInAll_24 (Nat.le_of_ble_eq_true rfl) rfl (by rw [ci_iconst_1]) rfl ?_
      refine jv_goto (t := 4) dX1_upInAll_27 rfl ?_
      exact h
    clear h
    refine jv_if_eq (t := 24) dX1_upInAll_18 rfl (fun c6 => ?_) (fun c6 => ?_)
    · exact key5 _ (Eq.trans rfl (if_pos c6).symm)
    · refine jv_iinc (v := i1 + 1) (ls' := [some (.ref (N + 1)), some (.int (i1 + 1)), some (.int i2)]) dX1_upInAll_21 (Nat.le_of_ble_eq_true rfl) rfl (by rw [ci_iconst_1]) rfl ?_
      exact key5 _ (Eq.trans rfl (if_neg c6).symm)
theorem g_X1_cheapest_0 {E : JE} {u : JM} {K : Int32 → JM → Prop} {N : Nat} (hN : isNet N) {a1 a2 a3 : Int32}
    (h : JVi E 2 YX1_cheapest K 6 [some (.ref (N + 1)), some (.int a1), some (.int a2), some (.int a3), some (.int (-1)), some (.int 0), none] [] u)
    : JVi E 2 YX1_cheapest K 0 [some (.ref (N + 1)), some (.int a1), some (.int a2), some (.int a3), none, none, none] [] u := by
  refine jv_iconst dX1_cheapest_0 ci_iconst_m1 ?_
  refine jv_istore (ls' := [some (.ref (N + 1)), some (.int a1), some (.int a2), some (.int a3), some (.int (-1)), none, none]) dX1_cheapest_1 (Nat.le_of_ble_eq_true rfl) rfl ?_
  refine jv_iconst dX1_cheapest_3 ci_iconst_0 ?_
  refine jv_istore (ls' := [some (.ref (N + 1)), some (.int a1), some (.int a2), some (.int a3), some (.int (-1)), some (.int 0), none]) dX1_cheapest_4 (Nat.le_of_ble_eq_true rfl) rfl ?_
  exact h
theorem g_X1_cheapest_6 {E : JE} {u : JM} {K : Int32 → JM → Prop} {N : Nat} (hN : isNet N) {a1 a2 a3 i4 i5 : Int32}
    (h : (((u (N + 1) 0) ≤ i5 → K i4 u) ∧
 (¬ (u (N + 1) 0) ≤ i5 → vp_in i5 12 ∧
  ∀ v_1 : Int32, v_1 = (if (jb (¬ u (N + 7) i5.toNatClampNeg = 0 ∧ (u (N + 2) i5.toNatClampNeg = a1 ∨ u (N + 3) i5.toNatClampNeg = a1))) = 0 then 0 else (if (if u (N + 2) i5.toNatClampNeg = a1 then u (N + 3) i5.toNatClampNeg else u (N + 2) i5.toNatClampNeg) = a2 then (if (u (N + 4) i5.toNatClampNeg) = a3 then 1 else 0) else 0)) →
  ((v_1 = 0 → True) ∧ (¬ v_1 = 0 → ((i4 = (-1) → True) ∧ (¬ i4 = (-1) → (vp_in i4 12 ∧ True))))) ∧
  ∀ i4_2 : Int32, i4_2 = (if v_1 = 0 then i4 else (if i4 = (-1) then i5 else (if (if u (N + 2) i4.toNatClampNeg = a1 then u (N + 5) i4.toNatClampNeg else u (N + 6) i4.toNatClampNeg) ≤ (if u (N + 2) i5.toNatClampNeg = a1 then u (N + 5) i5.toNatClampNeg else u (N + 6) i5.toNatClampNeg) then i4 else i5))) →
  JVi E 2 YX1_cheapest K 6 [some (.ref (N + 1)), some (.int a1), some (.int a2), some (.int a3), some (.int i4_2), some (.int (i5 + 1)), none] [] u)))
    : JVi E 2 YX1_cheapest K 6 [some (.ref (N + 1)), some (.int a1), some (.int a2), some (.int a3), some (.int i4), some (.int i5), none] [] u := by
  refine jv_iload dX1_cheapest_6 rfl ?_
  refine jv_aload_n dX1_cheapest_8 rfl ?_
  refine gf_1_34 rfl dX1_cheapest_9 (kd_N_1 hN) (lt_N hN 1 rfl) ?_
  refine jv_icmp_ge (t := 92) dX1_cheapest_12 rfl (fun c1 => ?_) (fun c1 => ?_)
  · replace h := h.1 c1
    refine jv_iload dX1_cheapest_92 rfl ?_
    exact jm_ireturn dX1_cheapest_94 rfl h
  · replace h := h.2 c1
    refine jv_aload_n dX1_cheapest_15 rfl ?_
    refine jv_iload dX1_cheapest_16 rfl ?_
    refine jv_iload_n dX1_cheapest_18 rfl ?_
    obtain ⟨b7, h⟩ := h
    refine jm_callVi [.int i5, .int a1] cw_1_44 dX1_cheapest_19 rfl (Nat.le_of_ble_eq_true rfl) (kd_N_1 hN) (r := (RX1, TX1, 8)) rfl rfl (lt_N hN 1 rfl) (Nat.le_of_ble_eq_true rfl) (p_X1_isUpAt hN b7 ?_)
    have key15 : ∀ v_1 : Int32, v_1 = (if (jb (¬ u (N + 7) i5.toNatClampNeg = 0 ∧ (u (N + 2) i5.toNatClampNeg = a1 ∨ u (N + 3) i5.toNatClampNeg = a1))) = 0 then 0 else (if (if u (N + 2) i5.toNatClampNeg = a1 then u (N + 3) i5.toNatClampNeg else u (N + 2) i5.toNatClampNeg) = a2 then (if (u (N + 4) i5.toNatClampNeg) = a3 then 1 else 0) else 0)) → JVi E 2 YX1_cheapest K 52 [some (.ref (N + 1)), some (.int a1), some (.int a2), some (.int a3), some (.int i4), some (.int i5), none] [.int v_1] u := by
      intro v_1 hv_1
      replace h := h v_1 hv_1
      refine jv_istore (ls' := [some (.ref (N + 1)), some (.int a1), some (.int a2), some (.int a3), some (.int i4), some (.int i5), some (.int v_1)]) dX1_cheapest_52 (Nat.le_of_ble_eq_true rfl) rfl ?_
      refine jv_iload dX1_cheapest_54 rfl ?_
      obtain ⟨hob, h⟩ := h
      have key11 : ∀ i4_2 : Int32, i4_2 = (if v_1 = 0 then i4 else (if i4 = (-1) then i5 else (if (if u (N + 2) i4.toNatClampNeg = a1 then u (N + 5) i4.toNatClampNeg else u (N + 6) i4.toNatClampNeg) ≤ (if u (N + 2) i5.toNatClampNeg = a1 then u (N + 5) i5.toNatClampNeg else u (N + 6) i5.toNatClampNeg) then i4 else i5))) → JVi E 2 YX1_cheapest K 86 [some (.ref (N + 1)), some (.int a1), some (.int a2), some (.int a3), some (.int i4_2), some (.int i5), some (.int v_1)] [] u := by
        intro i4_2 hi4_2
        replace h := h i4_2 hi4_2
        refine jv_iinc (v := i5 + 1) (ls' := [some (.ref (N + 1)), some (.int a1), some (.int a2), some (.int a3), some (.int i4_2), some (.int (i5 + 1)), some (.int v_1)]) dX1_cheapest_86 (Nat.le_of_ble_eq_true rfl) rfl (by rw [ci_iconst_1]) rfl ?_
        refine jv_goto (t := 6) dX1_cheapest_89 rfl ?_
        exact jm_sub (ls' := [some (.ref (N + 1)), some (.int a1), some (.int a2), some (.int a3), some (.int i4_2), some (.int (i5 + 1)), none]) ⟨rfl, rfl, rfl, rfl, rfl, rfl, trivial⟩ h
      clear h
      have h := hob
      refine jv_if_eq (t := 86) dX1_cheapest_56 rfl (fun c12 => ?_) (fun c12 => ?_)
      · replace h := h.1 c12
        exact key11 _ (Eq.trans rfl (if_pos c12).symm)
      · replace h := h.2 c12
        refine jv_iload dX1_cheapest_59 rfl ?_
        refine jv_iconst dX1_cheapest_61 ci_iconst_m1 ?_
        refine jv_icmp_eq (t := 82) dX1_cheapest_62 rfl (fun c13 => ?_) (fun c13 => ?_)
        · replace h := h.1 c13
          refine jv_iload dX1_cheapest_82 rfl ?_
          refine jv_istore (ls' := [some (.ref (N + 1)), some (.int a1), some (.int a2), some (.int a3), some (.int i5), some (.int i5), some (.int v_1)]) dX1_cheapest_84 (Nat.le_of_ble_eq_true rfl) rfl ?_
          exact key11 _ (Eq.trans (Eq.trans rfl (if_pos c13).symm) (if_neg c12).symm)
        · replace h := h.2 c13
          refine jv_aload_n dX1_cheapest_65 rfl ?_
          refine jv_iload dX1_cheapest_66 rfl ?_
          refine jv_iload_n dX1_cheapest_68 rfl ?_
          refine jm_callVi [.int i5, .int a1] cw_1_52 dX1_cheapest_69 rfl (Nat.le_of_ble_eq_true rfl) (kd_N_1 hN) (r := (RX1, TX1, 8)) rfl rfl (lt_N hN 1 rfl) (Nat.le_of_ble_eq_true rfl) (p_X1_costFrom hN b7 ?_)
          refine jv_aload_n dX1_cheapest_72 rfl ?_
          refine jv_iload dX1_cheapest_73 rfl ?_
          refine jv_iload_n dX1_cheapest_75 rfl ?_
          obtain ⟨b10, h⟩ := h
          refine jm_callVi [.int i4, .int a1] cw_1_52 dX1_cheapest_76 rfl (Nat.le_of_ble_eq_true rfl) (kd_N_1 hN) (r := (RX1, TX1, 8)) rfl rfl (lt_N hN 1 rfl) (Nat.le_of_ble_eq_true rfl) (p_X1_costFrom hN b10 ?_)
          refine jv_icmp_ge (t := 86) dX1_cheapest_79 rfl (fun c14 => ?_) (fun c14 => ?_)
          · exact key11 _ (Eq.trans (Eq.trans (Eq.trans rfl (if_pos c14).symm) (if_neg c13).symm) (if_neg c12).symm)
          · refine jv_iload dX1_cheapest_82 rfl ?_
            refine jv_istore (ls' := [some (.ref (N + 1)), some (.int a1), some (.int a2), some (.int a3), some (.int i5), some (.int i5), some (.int v_1)]) dX1_cheapest_84 (Nat.le_of_ble_eq_true rfl) rfl ?_
            exact key11 _ (Eq.trans (Eq.trans (Eq.trans rfl (if_neg c14).symm) (if_neg c13).symm) (if_neg c12).symm)
    clear h
    refine jv_if_eq (t := 51) dX1_cheapest_22 rfl (fun c16 => ?_) (fun c16 => ?_)
    · refine jv_iconst dX1_cheapest_51 ci_iconst_0 ?_
      exact key15 _ (Eq.trans rfl (if_pos c16).symm)
    · refine jv_aload_n dX1_cheapest_25 rfl ?_
      refine jv_iload dX1_cheapest_26 rfl ?_
      refine jv_iload_n dX1_cheapest_28 rfl ?_
      refine jm_callVi [.int i5, .int a1] cw_1_48 dX1_cheapest_29 rfl (Nat.le_of_ble_eq_true rfl) (kd_N_1 hN) (r := (RX1, TX1, 8)) rfl rfl (lt_N hN 1 rfl) (Nat.le_of_ble_eq_true rfl) (p_X1_otherEnd hN b7 ?_)
      refine jv_iload_n dX1_cheapest_32 rfl ?_
      refine jv_icmp_ne (t := 51) dX1_cheapest_33 rfl (fun c17 => ?_) (fun c17 => ?_)
      · refine jv_iconst dX1_cheapest_51 ci_iconst_0 ?_
        exact key15 _ (Eq.trans (Eq.trans rfl (if_neg c17).symm) (if_neg c16).symm)
      · refine jv_aload_n dX1_cheapest_36 rfl ?_
        refine gf_1_18 rfl dX1_cheapest_37 (kd_N_1 hN) (lt_N hN 1 rfl) (rf_N_1_3 hN) ?_
        refine jv_iload dX1_cheapest_40 rfl ?_
        refine jm_iaload dX1_cheapest_42 (kd_N_4 hN) (lt_N hN 4 rfl) b7 ?_
        refine jv_iload_n dX1_cheapest_43 rfl ?_
        refine jv_icmp_ne (t := 51) dX1_cheapest_44 rfl (fun c18 => ?_) (fun c18 => ?_)
        · refine jv_iconst dX1_cheapest_51 ci_iconst_0 ?_
          exact key15 _ (Eq.trans (Eq.trans (Eq.trans rfl (if_neg c18).symm) (if_pos c17).symm) (if_neg c16).symm)
        · refine jv_iconst dX1_cheapest_47 ci_iconst_1 ?_
          refine jv_goto (t := 52) dX1_cheapest_48 rfl ?_
          exact key15 _ (Eq.trans (Eq.trans (Eq.trans rfl (if_pos c18).symm) (if_pos c17).symm) (if_neg c16).symm)
theorem g_X1_leastCost_0 {E : JE} {u : JM} {K : Int32 → JM → Prop} {N : Nat} (hN : isNet N) {a1 a2 a3 : Int32}
    (h : JCu E 2 YX1_spread [.ref (N + 1), .int a1, .int a3] (fun u1 =>
 vp_in a2 8 ∧
  K (u1 (N + 8) a2.toNatClampNeg) u1) u)
    : JVi E 3 YX1_leastCost K 0 [some (.ref (N + 1)), some (.int a1), some (.int a2), some (.int a3)] [] u := by
  refine jv_aload_n dX1_leastCost_0 rfl ?_
  refine jv_iload_n dX1_leastCost_1 rfl ?_
  refine jv_iload_n dX1_leastCost_2 rfl ?_
  refine jm_callVu [.int a1, .int a3] cw_1_55 dX1_leastCost_3 rfl (Nat.le_of_ble_eq_true rfl) (kd_N_1 hN) (r := (RX1, TX1, 8)) rfl rfl (lt_N hN 1 rfl) (Nat.le_of_ble_eq_true rfl) (JCu.mono h (fun u1 h => ?_))
  refine jv_aload_n dX1_leastCost_6 rfl ?_
  refine gf_1_31 rfl dX1_leastCost_7 (kd_N_1 hN) (lt_N hN 1 rfl) (rf_N_1_7 hN) ?_
  refine jv_iload_n dX1_leastCost_10 rfl ?_
  obtain ⟨b1, h⟩ := h
  refine jm_iaload dX1_leastCost_11 (kd_N_8 hN) (lt_N hN 8 rfl) b1 ?_
  exact jm_ireturn dX1_leastCost_12 rfl h
theorem g_X1_joinedTo_0 {E : JE} {u : JM} {K : Int32 → JM → Prop} {N : Nat} (hN : isNet N) {a1 : Int32}
    (h : JCu E 2 YX1_spread [.ref (N + 1), .int a1, .int (-1)] (fun u1 =>
 JVi E 3 YX1_joinedTo K 10 [some (.ref (N + 1)), some (.int a1), some (.int 0), some (.int 0)] [] u1) u)
    : JVi E 3 YX1_joinedTo K 0 [some (.ref (N + 1)), some (.int a1), none, none] [] u := by
  refine jv_aload_n dX1_joinedTo_0 rfl ?_
  refine jv_iload_n dX1_joinedTo_1 rfl ?_
  refine jv_iconst dX1_joinedTo_2 ci_iconst_m1 ?_
  refine jm_callVu [.int a1, .int (-1)] cw_1_55 dX1_joinedTo_3 rfl (Nat.le_of_ble_eq_true rfl) (kd_N_1 hN) (r := (RX1, TX1, 8)) rfl rfl (lt_N hN 1 rfl) (Nat.le_of_ble_eq_true rfl) (JCu.mono h (fun u1 h => ?_))
  refine jv_iconst dX1_joinedTo_6 ci_iconst_0 ?_
  refine jv_istore_n (ls' := [some (.ref (N + 1)), some (.int a1), some (.int 0), none]) dX1_joinedTo_7 (Nat.le_of_ble_eq_true rfl) rfl ?_
  refine jv_iconst dX1_joinedTo_8 ci_iconst_0 ?_
  refine jv_istore_n (ls' := [some (.ref (N + 1)), some (.int a1), some (.int 0), some (.int 0)]) dX1_joinedTo_9 (Nat.le_of_ble_eq_true rfl) rfl ?_
  exact h
theorem g_X1_joinedTo_10 {E : JE} {u : JM} {K : Int32 → JM → Prop} {N : Nat} (hN : isNet N) {a1 i2 i3 : Int32}
    (h : ((8 ≤ i3 → K i2 u) ∧
 (¬ 8 ≤ i3 → vp_in i3 8 ∧
  ∀ i2_1 : Int32, i2_1 = (if 9999 ≤ (u (N + 8) i3.toNatClampNeg) then i2 else (i2 ||| ((1 : Int32) <<< (i3 &&& 31)))) →
  JVi E 3 YX1_joinedTo K 10 [some (.ref (N + 1)), some (.int a1), some (.int i2_1), some (.int (i3 + 1))] [] u)))
    : JVi E 3 YX1_joinedTo K 10 [some (.ref (N + 1)), some (.int a1), some (.int i2), some (.int i3)] [] u := by
  refine jv_iload_n dX1_joinedTo_10 rfl ?_
  refine jv_bipush dX1_joinedTo_11 ci_bipush_8 ?_
  refine jv_icmp_ge (t := 40) dX1_joinedTo_13 rfl (fun c1 => ?_) (fun c1 => ?_)
  · replace h := h.1 c1
    refine jv_iload_n dX1_joinedTo_40 rfl ?_
    exact jm_ireturn dX1_joinedTo_41 rfl h
  · replace h := h.2 c1
    refine jv_aload_n dX1_joinedTo_16 rfl ?_
    refine gf_1_31 rfl dX1_joinedTo_17 (kd_N_1 hN) (lt_N hN 1 rfl) (rf_N_1_7 hN) ?_
    refine jv_iload_n dX1_joinedTo_20 rfl ?_
    obtain ⟨b3, h⟩ := h
    refine jm_iaload dX1_joinedTo_21 (kd_N_8 hN) (lt_N hN 8 rfl) b3 ?_
    refine jv_sipush dX1_joinedTo_22 ci_sipush_9999 ?_
    have key5 : ∀ i2_1 : Int32, i2_1 = (if 9999 ≤ (u (N + 8) i3.toNatClampNeg) then i2 else (i2 ||| ((1 : Int32) <<< (i3 &&& 31)))) → JVi E 3 YX1_joinedTo K 34 [some (.ref (N + 1)), some (.int a1), some (.int i2_1), some (.int i3)] [] u := by
      intro i2_1 hi2_1
      replace h := h i2_1 hi2_1
      refine jv_iinc (v := i3 + 1) (ls' := [some (.ref (N + 1)), some (.int a1), some (.int i2_1), some (.int (i3 + 1))]) dX1_joinedTo_34 (Nat.le_of_ble_eq_true rfl) rfl (by rw [ci_iconst_1]) rfl ?_
      refine jv_goto (t := 10) dX1_joinedTo_37 rfl ?_
      exact h
    clear h
    refine jv_icmp_ge (t := 34) dX1_joinedTo_25 rfl (fun c6 => ?_) (fun c6 => ?_)
    · exact key5 _ (Eq.trans rfl (if_pos c6).symm)
    · refine jv_iload_n dX1_joinedTo_28 rfl ?_
      refine jv_iconst dX1_joinedTo_29 ci_iconst_1 ?_
      refine jv_iload_n dX1_joinedTo_30 rfl ?_
      refine jv_ishl dX1_joinedTo_31 ?_
      refine jv_ior dX1_joinedTo_32 ?_
      refine jv_istore_n (ls' := [some (.ref (N + 1)), some (.int a1), some (.int (i2 ||| ((1 : Int32) <<< (i3 &&& 31)))), some (.int i3)]) dX1_joinedTo_33 (Nat.le_of_ble_eq_true rfl) rfl ?_
      exact key5 _ (Eq.trans rfl (if_neg c6).symm)
theorem g_X1_spread_0 {E : JE} {u : JM} {K : JM → Prop} {N : Nat} (hN : isNet N) {a1 a2 : Int32}
    (h : JCu E 1 YJ7_fill_53178 [.ref (N + 8), .int 9999] (fun u1 =>
 vp_in a1 8 ∧
  ∀ u2, u2 = jw u1 (N + 8) a1.toNatClampNeg 0 →
  JVu E 2 YX1_spread K 19 [some (.ref (N + 1)), some (.int a1), some (.int a2), some (.int 1), none, none, none] [] u2) u)
    : JVu E 2 YX1_spread K 0 [some (.ref (N + 1)), some (.int a1), some (.int a2), none, none, none, none] [] u := by
  refine jv_aload_n dX1_spread_0 rfl ?_
  refine gf_1_31 rfl dX1_spread_1 (kd_N_1 hN) (lt_N hN 1 rfl) (rf_N_1_7 hN) ?_
  refine jv_sipush dX1_spread_4 ci_sipush_9999 ?_
  refine jm_callSu [.ref (N + 8), .int 9999] cw_1_59 dX1_spread_7 rfl (Nat.le_of_ble_eq_true rfl) (Nat.le_of_ble_eq_true rfl) (JCu.mono h (fun u1 h => ?_))
  refine jv_aload_n dX1_spread_10 rfl ?_
  refine gf_1_31 rfl dX1_spread_11 (kd_N_1 hN) (lt_N hN 1 rfl) (rf_N_1_7 hN) ?_
  refine jv_iload_n dX1_spread_14 rfl ?_
  refine jv_iconst dX1_spread_15 ci_iconst_0 ?_
  obtain ⟨b1, h⟩ := h
  refine jm_iastore dX1_spread_16 (kd_N_8 hN) (lt_N hN 8 rfl) b1 ?_
  generalize hhu2 : jw u1 (N + 8) a1.toNatClampNeg 0 = u2
  replace h := h u2 hhu2.symm
  refine jv_iconst dX1_spread_17 ci_iconst_1 ?_
  refine jv_istore_n (ls' := [some (.ref (N + 1)), some (.int a1), some (.int a2), some (.int 1), none, none, none]) dX1_spread_18 (Nat.le_of_ble_eq_true rfl) rfl ?_
  exact h
theorem g_X1_spread_19 {E : JE} {u : JM} {K : JM → Prop} {N : Nat} (hN : isNet N) {a1 a2 i3 : Int32}
    (h : ((8 ≤ i3 → K u) ∧
 (¬ 8 ≤ i3 → JVu E 2 YX1_spread K 28 [some (.ref (N + 1)), some (.int a1), some (.int a2), some (.int i3), some (.int 0), none, none] [] u)))
    : JVu E 2 YX1_spread K 19 [some (.ref (N + 1)), some (.int a1), some (.int a2), some (.int i3), none, none, none] [] u := by
  refine jv_iload_n dX1_spread_19 rfl ?_
  refine jv_bipush dX1_spread_20 ci_bipush_8 ?_
  refine jv_icmp_ge (t := 147) dX1_spread_22 rfl (fun c1 => ?_) (fun c1 => ?_)
  · replace h := h.1 c1
    exact jm_return dX1_spread_147 rfl h
  · replace h := h.2 c1
    refine jv_iconst dX1_spread_25 ci_iconst_0 ?_
    refine jv_istore (ls' := [some (.ref (N + 1)), some (.int a1), some (.int a2), some (.int i3), some (.int 0), none, none]) dX1_spread_26 (Nat.le_of_ble_eq_true rfl) rfl ?_
    exact h
theorem g_X1_spread_28 {E : JE} {u : JM} {K : JM → Prop} {N : Nat} (hN : isNet N) {a1 a2 i3 i4 : Int32}
    (h : (((u (N + 1) 0) ≤ i4 → JVu E 2 YX1_spread K 19 [some (.ref (N + 1)), some (.int a1), some (.int a2), some (.int (i3 + 1)), none, none, none] [] u) ∧
 (¬ (u (N + 1) 0) ≤ i4 → vp_in i4 12 ∧
  (((u (N + 7) i4.toNatClampNeg) = 0 → JVu E 2 YX1_spread K 28 [some (.ref (N + 1)), some (.int a1), some (.int a2), some (.int i3), some (.int (i4 + 1)), none, none] [] u) ∧
  (¬ (u (N + 7) i4.toNatClampNeg) = 0 → ((i4 = a2 → JVu E 2 YX1_spread K 28 [some (.ref (N + 1)), some (.int a1), some (.int a2), some (.int i3), some (.int (i4 + 1)), none, none] [] u) ∧
   (¬ i4 = a2 → ∀ i5_1 : Int32, i5_1 = u (N + 2) i4.toNatClampNeg →
    ∀ i6_2 : Int32, i6_2 = u (N + 3) i4.toNatClampNeg →
    vp_in i6_2 8 ∧
    vp_in i5_1 8 ∧
    ∀ u3, u3 = jw u (N + 8) i6_2.toNatClampNeg (if (u (N + 8) i6_2.toNatClampNeg) ≤ ((u (N + 8) i5_1.toNatClampNeg) + (u (N + 5) i4.toNatClampNeg)) then (u (N + 8) i6_2.toNatClampNeg) else ((u (N + 8) i5_1.toNatClampNeg) + (u (N + 5) i4.toNatClampNeg))) →
    ∀ u4, u4 = jw u3 (N + 8) i5_1.toNatClampNeg (if (u3 (N + 8) i5_1.toNatClampNeg) ≤ ((u3 (N + 8) i6_2.toNatClampNeg) + (u3 (N + 6) i4.toNatClampNeg)) then (u3 (N + 8) i5_1.toNatClampNeg) else ((u3 (N + 8) i6_2.toNatClampNeg) + (u3 (N + 6) i4.toNatClampNeg))) →
    JVu E 2 YX1_spread K 28 [some (.ref (N + 1)), some (.int a1), some (.int a2), some (.int i3), some (.int (i4 + 1)), none, none] [] u4)))))))
    : JVu E 2 YX1_spread K 28 [some (.ref (N + 1)), some (.int a1), some (.int a2), some (.int i3), some (.int i4), none, none] [] u := by
  refine jv_iload dX1_spread_28 rfl ?_
  refine jv_aload_n dX1_spread_30 rfl ?_
  refine gf_1_34 rfl dX1_spread_31 (kd_N_1 hN) (lt_N hN 1 rfl) ?_
  refine jv_icmp_ge (t := 141) dX1_spread_34 rfl (fun c1 => ?_) (fun c1 => ?_)
  · replace h := h.1 c1
    refine jv_iinc (v := i3 + 1) (ls' := [some (.ref (N + 1)), some (.int a1), some (.int a2), some (.int (i3 + 1)), some (.int i4), none, none]) dX1_spread_141 (Nat.le_of_ble_eq_true rfl) rfl (by rw [ci_iconst_1]) rfl ?_
    refine jv_goto (t := 19) dX1_spread_144 rfl ?_
    exact jm_sub (ls' := [some (.ref (N + 1)), some (.int a1), some (.int a2), some (.int (i3 + 1)), none, none, none]) ⟨rfl, rfl, rfl, rfl, trivial⟩ h
  · replace h := h.2 c1
    refine jv_aload_n dX1_spread_37 rfl ?_
    refine gf_1_27 rfl dX1_spread_38 (kd_N_1 hN) (lt_N hN 1 rfl) (rf_N_1_6 hN) ?_
    refine jv_iload dX1_spread_41 rfl ?_
    obtain ⟨b6, h⟩ := h
    refine jm_baload dX1_spread_43 (kd_N_7 hN) (lt_N hN 7 rfl) b6 ?_
    refine jv_if_eq (t := 135) dX1_spread_44 rfl (fun c7 => ?_) (fun c7 => ?_)
    · replace h := h.1 c7
      refine jv_iinc (v := i4 + 1) (ls' := [some (.ref (N + 1)), some (.int a1), some (.int a2), some (.int i3), some (.int (i4 + 1)), none, none]) dX1_spread_135 (Nat.le_of_ble_eq_true rfl) rfl (by rw [ci_iconst_1]) rfl ?_
      refine jv_goto (t := 28) dX1_spread_138 rfl ?_
      exact h
    · replace h := h.2 c7
      refine jv_iload dX1_spread_47 rfl ?_
      refine jv_iload_n dX1_spread_49 rfl ?_
      refine jv_icmp_eq (t := 135) dX1_spread_50 rfl (fun c10 => ?_) (fun c10 => ?_)
      · replace h := h.1 c10
        refine jv_iinc (v := i4 + 1) (ls' := [some (.ref (N + 1)), some (.int a1), some (.int a2), some (.int i3), some (.int (i4 + 1)), none, none]) dX1_spread_135 (Nat.le_of_ble_eq_true rfl) rfl (by rw [ci_iconst_1]) rfl ?_
        refine jv_goto (t := 28) dX1_spread_138 rfl ?_
        exact h
      · replace h := h.2 c10
        refine jv_aload_n dX1_spread_53 rfl ?_
        refine gf_1_9 rfl dX1_spread_54 (kd_N_1 hN) (lt_N hN 1 rfl) (rf_N_1_1 hN) ?_
        refine jv_iload dX1_spread_57 rfl ?_
        refine jm_iaload dX1_spread_59 (kd_N_2 hN) (lt_N hN 2 rfl) b6 ?_
        generalize hhi5_1 : u (N + 2) i4.toNatClampNeg = i5_1
        replace h := h i5_1 hhi5_1.symm
        refine jv_istore (ls' := [some (.ref (N + 1)), some (.int a1), some (.int a2), some (.int i3), some (.int i4), some (.int i5_1), none]) dX1_spread_60 (Nat.le_of_ble_eq_true rfl) rfl ?_
        refine jv_aload_n dX1_spread_62 rfl ?_
        refine gf_1_15 rfl dX1_spread_63 (kd_N_1 hN) (lt_N hN 1 rfl) (rf_N_1_2 hN) ?_
        refine jv_iload dX1_spread_66 rfl ?_
        refine jm_iaload dX1_spread_68 (kd_N_3 hN) (lt_N hN 3 rfl) b6 ?_
        generalize hhi6_2 : u (N + 3) i4.toNatClampNeg = i6_2
        replace h := h i6_2 hhi6_2.symm
        refine jv_istore (ls' := [some (.ref (N + 1)), some (.int a1), some (.int a2), some (.int i3), some (.int i4), some (.int i5_1), some (.int i6_2)]) dX1_spread_69 (Nat.le_of_ble_eq_true rfl) rfl ?_
        refine jv_aload_n dX1_spread_71 rfl ?_
        refine gf_1_31 rfl dX1_spread_72 (kd_N_1 hN) (lt_N hN 1 rfl) (rf_N_1_7 hN) ?_
        refine jv_iload dX1_spread_75 rfl ?_
        refine jv_aload_n dX1_spread_77 rfl ?_
        refine gf_1_31 rfl dX1_spread_78 (kd_N_1 hN) (lt_N hN 1 rfl) (rf_N_1_7 hN) ?_
        refine jv_iload dX1_spread_81 rfl ?_
        obtain ⟨b13, h⟩ := h
        refine jm_iaload dX1_spread_83 (kd_N_8 hN) (lt_N hN 8 rfl) b13 ?_
        refine jv_aload_n dX1_spread_84 rfl ?_
        refine gf_1_31 rfl dX1_spread_85 (kd_N_1 hN) (lt_N hN 1 rfl) (rf_N_1_7 hN) ?_
        refine jv_iload dX1_spread_88 rfl ?_
        obtain ⟨b14, h⟩ := h
        refine jm_iaload dX1_spread_90 (kd_N_8 hN) (lt_N hN 8 rfl) b14 ?_
        refine jv_aload_n dX1_spread_91 rfl ?_
        refine gf_1_21 rfl dX1_spread_92 (kd_N_1 hN) (lt_N hN 1 rfl) (rf_N_1_4 hN) ?_
        refine jv_iload dX1_spread_95 rfl ?_
        refine jm_iaload dX1_spread_97 (kd_N_5 hN) (lt_N hN 5 rfl) b6 ?_
        refine jv_iadd dX1_spread_98 ?_
        refine jm_callSi [.int (u (N + 8) i6_2.toNatClampNeg), .int ((u (N + 8) i5_1.toNatClampNeg) + (u (N + 5) i4.toNatClampNeg))] cw_1_65 dX1_spread_99 rfl (Nat.le_of_ble_eq_true rfl) (Nat.le_of_ble_eq_true rfl) (p_J9_min_7cf53  ?_)
        refine jm_iastore dX1_spread_102 (kd_N_8 hN) (lt_N hN 8 rfl) b13 ?_
        generalize hhu3 : jw u (N + 8) i6_2.toNatClampNeg (if (u (N + 8) i6_2.toNatClampNeg) ≤ ((u (N + 8) i5_1.toNatClampNeg) + (u (N + 5) i4.toNatClampNeg)) then (u (N + 8) i6_2.toNatClampNeg) else ((u (N + 8) i5_1.toNatClampNeg) + (u (N + 5) i4.toNatClampNeg))) = u3
        replace h := h u3 hhu3.symm
        refine jv_aload_n dX1_spread_103 rfl ?_
        refine gf_1_31 rfl dX1_spread_104 (kd_N_1 hN) (lt_N hN 1 rfl) (rf_N_1_7 hN) ?_
        refine jv_iload dX1_spread_107 rfl ?_
        refine jv_aload_n dX1_spread_109 rfl ?_
        refine gf_1_31 rfl dX1_spread_110 (kd_N_1 hN) (lt_N hN 1 rfl) (rf_N_1_7 hN) ?_
        refine jv_iload dX1_spread_113 rfl ?_
        refine jm_iaload dX1_spread_115 (kd_N_8 hN) (lt_N hN 8 rfl) b14 ?_
        refine jv_aload_n dX1_spread_116 rfl ?_
        refine gf_1_31 rfl dX1_spread_117 (kd_N_1 hN) (lt_N hN 1 rfl) (rf_N_1_7 hN) ?_
        refine jv_iload dX1_spread_120 rfl ?_
        refine jm_iaload dX1_spread_122 (kd_N_8 hN) (lt_N hN 8 rfl) b13 ?_
        refine jv_aload_n dX1_spread_123 rfl ?_
        refine gf_1_24 rfl dX1_spread_124 (kd_N_1 hN) (lt_N hN 1 rfl) (rf_N_1_5 hN) ?_
        refine jv_iload dX1_spread_127 rfl ?_
        refine jm_iaload dX1_spread_129 (kd_N_6 hN) (lt_N hN 6 rfl) b6 ?_
        refine jv_iadd dX1_spread_130 ?_
        refine jm_callSi [.int (u3 (N + 8) i5_1.toNatClampNeg), .int ((u3 (N + 8) i6_2.toNatClampNeg) + (u3 (N + 6) i4.toNatClampNeg))] cw_1_65 dX1_spread_131 rfl (Nat.le_of_ble_eq_true rfl) (Nat.le_of_ble_eq_true rfl) (p_J9_min_7cf53  ?_)
        refine jm_iastore dX1_spread_134 (kd_N_8 hN) (lt_N hN 8 rfl) b14 ?_
        generalize hhu4 : jw u3 (N + 8) i5_1.toNatClampNeg (if (u3 (N + 8) i5_1.toNatClampNeg) ≤ ((u3 (N + 8) i6_2.toNatClampNeg) + (u3 (N + 6) i4.toNatClampNeg)) then (u3 (N + 8) i5_1.toNatClampNeg) else ((u3 (N + 8) i6_2.toNatClampNeg) + (u3 (N + 6) i4.toNatClampNeg))) = u4
        replace h := h u4 hhu4.symm
        refine jv_iinc (v := i4 + 1) (ls' := [some (.ref (N + 1)), some (.int a1), some (.int a2), some (.int i3), some (.int (i4 + 1)), some (.int i5_1), some (.int i6_2)]) dX1_spread_135 (Nat.le_of_ble_eq_true rfl) rfl (by rw [ci_iconst_1]) rfl ?_
        refine jv_goto (t := 28) dX1_spread_138 rfl ?_
        exact jm_sub (ls' := [some (.ref (N + 1)), some (.int a1), some (.int a2), some (.int i3), some (.int (i4 + 1)), none, none]) ⟨rfl, rfl, rfl, rfl, rfl, trivial⟩ h
theorem g_X2_takeOver_0 {E : JE} {u : JM} {K : JM → Prop} {N : Nat} (hN : isNet N) {M : Nat} (hM : isNet M)
    (h : JCu E 1 YX1_takeOver [.ref (N + 1), .ref (M + 1)] (fun u1 =>
 JCu E 1 YX0_takeRows [.ref (N + 9), .ref (M + 9), .int 192] (fun u2 =>
  ∀ u3, u3 = jw u2 N 6 (u2 M 6) →
   JCu E 1 YX0_takeRows [.ref (N + 15), .ref (M + 15), .int (u3 N 6)] (fun u4 =>
   (¬ (0 : Int32) < 0 ∧ ¬ (0 : Int32) < 0 ∧ ¬ (u4 N 6) < 0 ∧ (0 : Int32).toNatClampNeg + (u4 N 6).toNatClampNeg ≤ 192 ∧ (0 : Int32).toNatClampNeg + (u4 N 6).toNatClampNeg ≤ 192) ∧
    ∀ u5, u5 = jcp u4 (M + 21) (0 : Int32).toNatClampNeg (N + 21) (0 : Int32).toNatClampNeg (u4 N 6).toNatClampNeg →
    (¬ (0 : Int32) < 0 ∧ ¬ (0 : Int32) < 0 ∧ ¬ (u5 N 6) < 0 ∧ (0 : Int32).toNatClampNeg + (u5 N 6).toNatClampNeg ≤ 192 ∧ (0 : Int32).toNatClampNeg + (u5 N 6).toNatClampNeg ≤ 192) ∧
    ∀ u6, u6 = jcp u5 (M + 22) (0 : Int32).toNatClampNeg (N + 22) (0 : Int32).toNatClampNeg (u5 N 6).toNatClampNeg →
    (¬ (0 : Int32) < 0 ∧ ¬ (0 : Int32) < 0 ∧ ¬ (u6 N 6) < 0 ∧ (0 : Int32).toNatClampNeg + (u6 N 6).toNatClampNeg ≤ 192 ∧ (0 : Int32).toNatClampNeg + (u6 N 6).toNatClampNeg ≤ 192) ∧
    ∀ u7, u7 = jcp u6 (M + 23) (0 : Int32).toNatClampNeg (N + 23) (0 : Int32).toNatClampNeg (u6 N 6).toNatClampNeg →
    ∀ u8, u8 = jw u7 N 7 (u7 M 7) →
    ∀ u9, u9 = jw u8 N 8 (u8 M 8) →
    K u9) u3) u1) u)
    : JVu E 2 YX2_takeOver K 0 [some (.ref N), some (.ref M)] [] u := by
  refine jv_aload_n dX2_takeOver_0 rfl ?_
  refine gf_2_12 rfl dX2_takeOver_1 (kd_N_0 hN) (lt_N hN 0 rfl) (rf_N_0_0 hN) ?_
  refine jv_aload_n dX2_takeOver_4 rfl ?_
  refine gf_2_12 rfl dX2_takeOver_5 (kd_N_0 hM) (lt_N hM 0 rfl) (rf_N_0_0 hM) ?_
  refine jm_callVu [.ref (M + 1)] cw_2_57 dX2_takeOver_8 rfl (Nat.le_of_ble_eq_true rfl) (kd_N_1 hN) (r := (RX1, TX1, 8)) rfl rfl (lt_N hN 1 rfl) (Nat.le_of_ble_eq_true rfl) (JCu.mono h (fun u1 h => ?_))
  refine jv_aload_n dX2_takeOver_11 rfl ?_
  refine gf_2_23 rfl dX2_takeOver_12 (kd_N_0 hN) (lt_N hN 0 rfl) (rf_N_0_1 hN) ?_
  refine jv_aload_n dX2_takeOver_15 rfl ?_
  refine gf_2_23 rfl dX2_takeOver_16 (kd_N_0 hM) (lt_N hM 0 rfl) (rf_N_0_1 hM) ?_
  refine jv_sipush dX2_takeOver_19 ci_sipush_192 ?_
  refine jm_callVu [.ref (M + 9), .int 192] cw_2_61 dX2_takeOver_22 rfl (Nat.le_of_ble_eq_true rfl) (kd_N_9 hN) (r := (RX0, TX0, 5)) rfl rfl (lt_N hN 9 rfl) (Nat.le_of_ble_eq_true rfl) (JCu.mono h (fun u2 h => ?_))
  refine jv_aload_n dX2_takeOver_25 rfl ?_
  refine jv_aload_n dX2_takeOver_26 rfl ?_
  refine gf_2_65 rfl dX2_takeOver_27 (kd_N_0 hM) (lt_N hM 0 rfl) ?_
  refine pf_2_65 rfl dX2_takeOver_30 (kd_N_0 hN) (lt_N hN 0 rfl) ?_
  generalize hhu3 : jw u2 N 6 (u2 M 6) = u3
  replace h := h u3 hhu3.symm
  refine jv_aload_n dX2_takeOver_33 rfl ?_
  refine gf_2_27 rfl dX2_takeOver_34 (kd_N_0 hN) (lt_N hN 0 rfl) (rf_N_0_2 hN) ?_
  refine jv_aload_n dX2_takeOver_37 rfl ?_
  refine gf_2_27 rfl dX2_takeOver_38 (kd_N_0 hM) (lt_N hM 0 rfl) (rf_N_0_2 hM) ?_
  refine jv_aload_n dX2_takeOver_41 rfl ?_
  refine gf_2_65 rfl dX2_takeOver_42 (kd_N_0 hN) (lt_N hN 0 rfl) ?_
  refine jm_callVu [.ref (M + 15), .int (u3 N 6)] cw_2_61 dX2_takeOver_45 rfl (Nat.le_of_ble_eq_true rfl) (kd_N_15 hN) (r := (RX0, TX0, 5)) rfl rfl (lt_N hN 15 rfl) (Nat.le_of_ble_eq_true rfl) (JCu.mono h (fun u4 h => ?_))
  refine jv_aload_n dX2_takeOver_48 rfl ?_
  refine gf_2_30 rfl dX2_takeOver_49 (kd_N_0 hM) (lt_N hM 0 rfl) (rf_N_0_3 hM) ?_
  refine jv_iconst dX2_takeOver_52 ci_iconst_0 ?_
  refine jv_aload_n dX2_takeOver_53 rfl ?_
  refine gf_2_30 rfl dX2_takeOver_54 (kd_N_0 hN) (lt_N hN 0 rfl) (rf_N_0_3 hN) ?_
  refine jv_iconst dX2_takeOver_57 ci_iconst_0 ?_
  refine jv_aload_n dX2_takeOver_58 rfl ?_
  refine gf_2_65 rfl dX2_takeOver_59 (kd_N_0 hN) (lt_N hN 0 rfl) ?_
  obtain ⟨b1, h⟩ := h
  refine jm_acopy ac_2_69 dX2_takeOver_62 (kd_N_21 hM) (kd_N_21 hN) (lt_N hM 21 rfl) (lt_N hN 21 rfl) rfl (Nat.le_of_ble_eq_true rfl) (Nat.le_of_ble_eq_true rfl) b1.1 b1.2.1 b1.2.2.1 b1.2.2.2.1 b1.2.2.2.2 ?_
  generalize hhu5 : jcp u4 (M + 21) (0 : Int32).toNatClampNeg (N + 21) (0 : Int32).toNatClampNeg (u4 N 6).toNatClampNeg = u5
  replace h := h u5 hhu5.symm
  refine jv_aload_n dX2_takeOver_65 rfl ?_
  refine gf_2_34 rfl dX2_takeOver_66 (kd_N_0 hM) (lt_N hM 0 rfl) (rf_N_0_4 hM) ?_
  refine jv_iconst dX2_takeOver_69 ci_iconst_0 ?_
  refine jv_aload_n dX2_takeOver_70 rfl ?_
  refine gf_2_34 rfl dX2_takeOver_71 (kd_N_0 hN) (lt_N hN 0 rfl) (rf_N_0_4 hN) ?_
  refine jv_iconst dX2_takeOver_74 ci_iconst_0 ?_
  refine jv_aload_n dX2_takeOver_75 rfl ?_
  refine gf_2_65 rfl dX2_takeOver_76 (kd_N_0 hN) (lt_N hN 0 rfl) ?_
  obtain ⟨b2, h⟩ := h
  refine jm_acopy ac_2_69 dX2_takeOver_79 (kd_N_22 hM) (kd_N_22 hN) (lt_N hM 22 rfl) (lt_N hN 22 rfl) rfl (Nat.le_of_ble_eq_true rfl) (Nat.le_of_ble_eq_true rfl) b2.1 b2.2.1 b2.2.2.1 b2.2.2.2.1 b2.2.2.2.2 ?_
  generalize hhu6 : jcp u5 (M + 22) (0 : Int32).toNatClampNeg (N + 22) (0 : Int32).toNatClampNeg (u5 N 6).toNatClampNeg = u6
  replace h := h u6 hhu6.symm
  refine jv_aload_n dX2_takeOver_82 rfl ?_
  refine gf_2_37 rfl dX2_takeOver_83 (kd_N_0 hM) (lt_N hM 0 rfl) (rf_N_0_5 hM) ?_
  refine jv_iconst dX2_takeOver_86 ci_iconst_0 ?_
  refine jv_aload_n dX2_takeOver_87 rfl ?_
  refine gf_2_37 rfl dX2_takeOver_88 (kd_N_0 hN) (lt_N hN 0 rfl) (rf_N_0_5 hN) ?_
  refine jv_iconst dX2_takeOver_91 ci_iconst_0 ?_
  refine jv_aload_n dX2_takeOver_92 rfl ?_
  refine gf_2_65 rfl dX2_takeOver_93 (kd_N_0 hN) (lt_N hN 0 rfl) ?_
  obtain ⟨b3, h⟩ := h
  refine jm_acopy ac_2_69 dX2_takeOver_96 (kd_N_23 hM) (kd_N_23 hN) (lt_N hM 23 rfl) (lt_N hN 23 rfl) rfl (Nat.le_of_ble_eq_true rfl) (Nat.le_of_ble_eq_true rfl) b3.1 b3.2.1 b3.2.2.1 b3.2.2.2.1 b3.2.2.2.2 ?_
  generalize hhu7 : jcp u6 (M + 23) (0 : Int32).toNatClampNeg (N + 23) (0 : Int32).toNatClampNeg (u6 N 6).toNatClampNeg = u7
  replace h := h u7 hhu7.symm
  refine jv_aload_n dX2_takeOver_99 rfl ?_
  refine jv_aload_n dX2_takeOver_100 rfl ?_
  refine gf_2_75 rfl dX2_takeOver_101 (kd_N_0 hM) (lt_N hM 0 rfl) ?_
  refine pf_2_75 rfl dX2_takeOver_104 (kd_N_0 hN) (lt_N hN 0 rfl) ?_
  generalize hhu8 : jw u7 N 7 (u7 M 7) = u8
  replace h := h u8 hhu8.symm
  refine jv_aload_n dX2_takeOver_107 rfl ?_
  refine jv_aload_n dX2_takeOver_108 rfl ?_
  refine gf_2_78 rfl dX2_takeOver_109 (kd_N_0 hM) (lt_N hM 0 rfl) ?_
  refine pf_2_78 rfl dX2_takeOver_112 (kd_N_0 hN) (lt_N hN 0 rfl) ?_
  generalize hhu9 : jw u8 N 8 (u8 M 8) = u9
  replace h := h u9 hhu9.symm
  exact jm_return dX2_takeOver_115 rfl h
theorem g_X2_advance_0 {E : JE} {u : JM} {K : Int32 → JM → Prop} {N : Nat} (hN : isNet N) {a1 : Int32}
    (h : JVi E 6 YX2_advance K 7 [some (.ref N), some (.int a1), some (.int (u N 8)), some (.int 0)] [] u)
    : JVi E 6 YX2_advance K 0 [some (.ref N), some (.int a1), none, none] [] u := by
  refine jv_aload_n dX2_advance_0 rfl ?_
  refine gf_2_78 rfl dX2_advance_1 (kd_N_0 hN) (lt_N hN 0 rfl) ?_
  refine jv_istore_n (ls' := [some (.ref N), some (.int a1), some (.int (u N 8)), none]) dX2_advance_4 (Nat.le_of_ble_eq_true rfl) rfl ?_
  refine jv_iconst dX2_advance_5 ci_iconst_0 ?_
  refine jv_istore_n (ls' := [some (.ref N), some (.int a1), some (.int (u N 8)), some (.int 0)]) dX2_advance_6 (Nat.le_of_ble_eq_true rfl) rfl ?_
  exact h
theorem g_X2_advance_7 {E : JE} {u : JM} {K : Int32 → JM → Prop} {N : Nat} (hN : isNet N) {a1 i2 i3 : Int32}
    (h : ((a1 ≤ i3 → K ((u N 8) - i2) u) ∧
 (¬ a1 ≤ i3 → JCu E 3 YX2_arrive [.ref N] (fun u1 =>
  JCu E 2 YX2_growOlder [.ref N] (fun u2 =>
   JCu E 5 YX2_tellAnew [.ref N] (fun u3 =>
    JCu E 3 YX2_sendOn [.ref N] (fun u4 =>
     ∀ u5, u5 = jw u4 N 7 ((u4 N 7) + 1) →
      JVi E 6 YX2_advance K 7 [some (.ref N), some (.int a1), some (.int i2), some (.int (i3 + 1))] [] u5) u3) u2) u1) u)))
    : JVi E 6 YX2_advance K 7 [some (.ref N), some (.int a1), some (.int i2), some (.int i3)] [] u := by
  refine jv_iload_n dX2_advance_7 rfl ?_
  refine jv_iload_n dX2_advance_8 rfl ?_
  refine jv_icmp_ge (t := 44) dX2_advance_9 rfl (fun c1 => ?_) (fun c1 => ?_)
  · replace h := h.1 c1
    refine jv_aload_n dX2_advance_44 rfl ?_
    refine gf_2_78 rfl dX2_advance_45 (kd_N_0 hN) (lt_N hN 0 rfl) ?_
    refine jv_iload_n dX2_advance_48 rfl ?_
    refine jv_isub dX2_advance_49 ?_
    exact jm_ireturn dX2_advance_50 rfl h
  · replace h := h.2 c1
    refine jv_aload_n dX2_advance_12 rfl ?_
    refine jm_callVu [] cw_2_81 dX2_advance_13 rfl (Nat.le_of_ble_eq_true rfl) (kd_N_0 hN) (r := (RX2, TX2, 13)) rfl rfl (lt_N hN 0 rfl) (Nat.le_of_ble_eq_true rfl) (JCu.mono h (fun u1 h => ?_))
    refine jv_aload_n dX2_advance_16 rfl ?_
    refine jm_callVu [] cw_2_84 dX2_advance_17 rfl (Nat.le_of_ble_eq_true rfl) (kd_N_0 hN) (r := (RX2, TX2, 13)) rfl rfl (lt_N hN 0 rfl) (Nat.le_of_ble_eq_true rfl) (JCu.mono h (fun u2 h => ?_))
    refine jv_aload_n dX2_advance_20 rfl ?_
    refine jm_callVu [] cw_2_87 dX2_advance_21 rfl (Nat.le_of_ble_eq_true rfl) (kd_N_0 hN) (r := (RX2, TX2, 13)) rfl rfl (lt_N hN 0 rfl) (Nat.le_of_ble_eq_true rfl) (JCu.mono h (fun u3 h => ?_))
    refine jv_aload_n dX2_advance_24 rfl ?_
    refine jm_callVu [] cw_2_90 dX2_advance_25 rfl (Nat.le_of_ble_eq_true rfl) (kd_N_0 hN) (r := (RX2, TX2, 13)) rfl rfl (lt_N hN 0 rfl) (Nat.le_of_ble_eq_true rfl) (JCu.mono h (fun u4 h => ?_))
    refine jv_aload_n dX2_advance_28 rfl ?_
    refine jv_dup dX2_advance_29 rfl ?_
    refine gf_2_75 rfl dX2_advance_30 (kd_N_0 hN) (lt_N hN 0 rfl) ?_
    refine jv_iconst dX2_advance_33 ci_iconst_1 ?_
    refine jv_iadd dX2_advance_34 ?_
    refine pf_2_75 rfl dX2_advance_35 (kd_N_0 hN) (lt_N hN 0 rfl) ?_
    generalize hhu5 : jw u4 N 7 ((u4 N 7) + 1) = u5
    replace h := h u5 hhu5.symm
    refine jv_iinc (v := i3 + 1) (ls' := [some (.ref N), some (.int a1), some (.int i2), some (.int (i3 + 1))]) dX2_advance_38 (Nat.le_of_ble_eq_true rfl) rfl (by rw [ci_iconst_1]) rfl ?_
    refine jv_goto (t := 7) dX2_advance_41 rfl ?_
    exact h
theorem g_X2_advanceTillQuiet_0 {E : JE} {u : JM} {K : Int32 → JM → Prop} {N : Nat} (hN : isNet N)
    (h : JVi E 7 YX2_advanceTillQuiet K 2 [some (.ref N), some (.int 1), none] [] u)
    : JVi E 7 YX2_advanceTillQuiet K 0 [some (.ref N), none, none] [] u := by
  refine jv_iconst dX2_advanceTillQuiet_0 ci_iconst_1 ?_
  refine jv_istore_n (ls' := [some (.ref N), some (.int 1), none]) dX2_advanceTillQuiet_1 (Nat.le_of_ble_eq_true rfl) rfl ?_
  exact h
theorem g_X2_advanceTillQuiet_2 {E : JE} {u : JM} {K : Int32 → JM → Prop} {N : Nat} (hN : isNet N) {i1 : Int32}
    (h : ((80 < i1 → K (-1) u) ∧
 (¬ 80 < i1 → ∀ v_1 : Int32, v_1 = (if (u N 6) = 0 then 1 else 0) →
  JCi E 6 YX2_advance [.ref N, .int 1] (fun x2 u2 =>
  ((¬ x2 = 0 → JVi E 7 YX2_advanceTillQuiet K 2 [some (.ref N), some (.int (i1 + 1)), none] [] u2) ∧
   (x2 = 0 → ((v_1 = 0 → JVi E 7 YX2_advanceTillQuiet K 2 [some (.ref N), some (.int (i1 + 1)), none] [] u2) ∧
    (¬ v_1 = 0 → K i1 u2))))) u)))
    : JVi E 7 YX2_advanceTillQuiet K 2 [some (.ref N), some (.int i1), none] [] u := by
  refine jv_iload_n dX2_advanceTillQuiet_2 rfl ?_
  refine jv_bipush dX2_advanceTillQuiet_3 ci_bipush_80 ?_
  refine jv_icmp_gt (t := 41) dX2_advanceTillQuiet_5 rfl (fun c1 => ?_) (fun c1 => ?_)
  · replace h := h.1 c1
    refine jv_iconst dX2_advanceTillQuiet_41 ci_iconst_m1 ?_
    exact jm_ireturn dX2_advanceTillQuiet_42 rfl h
  · replace h := h.2 c1
    refine jv_aload_n dX2_advanceTillQuiet_8 rfl ?_
    refine gf_2_65 rfl dX2_advanceTillQuiet_9 (kd_N_0 hN) (lt_N hN 0 rfl) ?_
    have key5 : ∀ v_1 : Int32, v_1 = (if (u N 6) = 0 then 1 else 0) → JVi E 7 YX2_advanceTillQuiet K 20 [some (.ref N), some (.int i1), none] [.int v_1] u := by
      intro v_1 hv_1
      replace h := h v_1 hv_1
      refine jv_istore_n (ls' := [some (.ref N), some (.int i1), some (.int v_1)]) dX2_advanceTillQuiet_20 (Nat.le_of_ble_eq_true rfl) rfl ?_
      refine jv_aload_n dX2_advanceTillQuiet_21 rfl ?_
      refine jv_iconst dX2_advanceTillQuiet_22 ci_iconst_1 ?_
      refine jm_callVi [.int 1] cw_2_93 dX2_advanceTillQuiet_23 rfl (Nat.le_of_ble_eq_true rfl) (kd_N_0 hN) (r := (RX2, TX2, 13)) rfl rfl (lt_N hN 0 rfl) (Nat.le_of_ble_eq_true rfl) (JCi.mono h (fun x2 u2 h => ?_))
      refine jv_if_ne (t := 35) dX2_advanceTillQuiet_26 rfl (fun c3 => ?_) (fun c3 => ?_)
      · replace h := h.1 c3
        refine jv_iinc (v := i1 + 1) (ls' := [some (.ref N), some (.int (i1 + 1)), some (.int v_1)]) dX2_advanceTillQuiet_35 (Nat.le_of_ble_eq_true rfl) rfl (by rw [ci_iconst_1]) rfl ?_
        refine jv_goto (t := 2) dX2_advanceTillQuiet_38 rfl ?_
        exact jm_sub (ls' := [some (.ref N), some (.int (i1 + 1)), none]) ⟨rfl, rfl, trivial⟩ h
      · replace h := h.2 c3
        refine jv_iload_n dX2_advanceTillQuiet_29 rfl ?_
        refine jv_if_eq (t := 35) dX2_advanceTillQuiet_30 rfl (fun c4 => ?_) (fun c4 => ?_)
        · replace h := h.1 c4
          refine jv_iinc (v := i1 + 1) (ls' := [some (.ref N), some (.int (i1 + 1)), some (.int v_1)]) dX2_advanceTillQuiet_35 (Nat.le_of_ble_eq_true rfl) rfl (by rw [ci_iconst_1]) rfl ?_
          refine jv_goto (t := 2) dX2_advanceTillQuiet_38 rfl ?_
          exact jm_sub (ls' := [some (.ref N), some (.int (i1 + 1)), none]) ⟨rfl, rfl, trivial⟩ h
        · replace h := h.2 c4
          refine jv_iload_n dX2_advanceTillQuiet_33 rfl ?_
          exact jm_ireturn dX2_advanceTillQuiet_34 rfl h
    clear h
    refine jv_if_ne (t := 19) dX2_advanceTillQuiet_12 rfl (fun c6 => ?_) (fun c6 => ?_)
    · refine jv_iconst dX2_advanceTillQuiet_19 ci_iconst_0 ?_
      exact key5 _ (Eq.trans rfl (if_neg c6).symm)
    · refine jv_iconst dX2_advanceTillQuiet_15 ci_iconst_1 ?_
      refine jv_goto (t := 20) dX2_advanceTillQuiet_16 rfl ?_
      exact key5 _ (Eq.trans rfl (if_pos c6).symm)
theorem g_X2_arrive_0 {E : JE} {u : JM} {K : JM → Prop} {N : Nat} (hN : isNet N)
    (h : JVu E 3 YX2_arrive K 2 [some (.ref N), some (.int 0)] [] u)
    : JVu E 3 YX2_arrive K 0 [some (.ref N), none] [] u := by
  refine jv_iconst dX2_arrive_0 ci_iconst_0 ?_
  refine jv_istore_n (ls' := [some (.ref N), some (.int 0)]) dX2_arrive_1 (Nat.le_of_ble_eq_true rfl) rfl ?_
  exact h
theorem g_X2_arrive_2 {E : JE} {u : JM} {K : JM → Prop} {N : Nat} (hN : isNet N) {i1 : Int32}
    (h : (((u N 6) ≤ i1 → ∀ u1, u1 = jw u N 6 0 →
  K u1) ∧
 (¬ (u N 6) ≤ i1 → vp_in i1 192 ∧
  vp_in (u (N + 21) i1.toNatClampNeg) 12 ∧
  (((u (N + 7) (u (N + 21) i1.toNatClampNeg).toNatClampNeg) = 0 → JVu E 3 YX2_arrive K 2 [some (.ref N), some (.int (i1 + 1))] [] u) ∧
  (¬ (u (N + 7) (u (N + 21) i1.toNatClampNeg).toNatClampNeg) = 0 → (((u (N + 22) i1.toNatClampNeg) = (u (N + 23) i1.toNatClampNeg) → JVu E 3 YX2_arrive K 2 [some (.ref N), some (.int (i1 + 1))] [] u) ∧
   (¬ (u (N + 22) i1.toNatClampNeg) = (u (N + 23) i1.toNatClampNeg) → JCu E 2 YX2_take [.ref N, .int i1] (fun u2 =>
    JVu E 3 YX2_arrive K 2 [some (.ref N), some (.int (i1 + 1))] [] u2) u)))))))
    : JVu E 3 YX2_arrive K 2 [some (.ref N), some (.int i1)] [] u := by
  refine jv_iload_n dX2_arrive_2 rfl ?_
  refine jv_aload_n dX2_arrive_3 rfl ?_
  refine gf_2_65 rfl dX2_arrive_4 (kd_N_0 hN) (lt_N hN 0 rfl) ?_
  refine jv_icmp_ge (t := 53) dX2_arrive_7 rfl (fun c1 => ?_) (fun c1 => ?_)
  · replace h := h.1 c1
    refine jv_aload_n dX2_arrive_53 rfl ?_
    refine jv_iconst dX2_arrive_54 ci_iconst_0 ?_
    refine pf_2_65 rfl dX2_arrive_55 (kd_N_0 hN) (lt_N hN 0 rfl) ?_
    generalize hhu1 : jw u N 6 0 = u1
    replace h := h u1 hhu1.symm
    exact jm_return dX2_arrive_58 rfl h
  · replace h := h.2 c1
    refine jv_aload_n dX2_arrive_10 rfl ?_
    refine gf_2_12 rfl dX2_arrive_11 (kd_N_0 hN) (lt_N hN 0 rfl) (rf_N_0_0 hN) ?_
    refine gf_2_97 rfl dX2_arrive_14 (kd_N_1 hN) (lt_N hN 1 rfl) (rf_N_1_6 hN) ?_
    refine jv_aload_n dX2_arrive_17 rfl ?_
    refine gf_2_30 rfl dX2_arrive_18 (kd_N_0 hN) (lt_N hN 0 rfl) (rf_N_0_3 hN) ?_
    refine jv_iload_n dX2_arrive_21 rfl ?_
    obtain ⟨b5, h⟩ := h
    refine jm_iaload dX2_arrive_22 (kd_N_21 hN) (lt_N hN 21 rfl) b5 ?_
    obtain ⟨b6, h⟩ := h
    refine jm_baload dX2_arrive_23 (kd_N_7 hN) (lt_N hN 7 rfl) b6 ?_
    refine jv_if_eq (t := 47) dX2_arrive_24 rfl (fun c7 => ?_) (fun c7 => ?_)
    · replace h := h.1 c7
      refine jv_iinc (v := i1 + 1) (ls' := [some (.ref N), some (.int (i1 + 1))]) dX2_arrive_47 (Nat.le_of_ble_eq_true rfl) rfl (by rw [ci_iconst_1]) rfl ?_
      refine jv_goto (t := 2) dX2_arrive_50 rfl ?_
      exact h
    · replace h := h.2 c7
      refine jv_aload_n dX2_arrive_27 rfl ?_
      refine gf_2_34 rfl dX2_arrive_28 (kd_N_0 hN) (lt_N hN 0 rfl) (rf_N_0_4 hN) ?_
      refine jv_iload_n dX2_arrive_31 rfl ?_
      refine jm_iaload dX2_arrive_32 (kd_N_22 hN) (lt_N hN 22 rfl) b5 ?_
      refine jv_aload_n dX2_arrive_33 rfl ?_
      refine gf_2_37 rfl dX2_arrive_34 (kd_N_0 hN) (lt_N hN 0 rfl) (rf_N_0_5 hN) ?_
      refine jv_iload_n dX2_arrive_37 rfl ?_
      refine jm_iaload dX2_arrive_38 (kd_N_23 hN) (lt_N hN 23 rfl) b5 ?_
      refine jv_icmp_eq (t := 47) dX2_arrive_39 rfl (fun c8 => ?_) (fun c8 => ?_)
      · replace h := h.1 c8
        refine jv_iinc (v := i1 + 1) (ls' := [some (.ref N), some (.int (i1 + 1))]) dX2_arrive_47 (Nat.le_of_ble_eq_true rfl) rfl (by rw [ci_iconst_1]) rfl ?_
        refine jv_goto (t := 2) dX2_arrive_50 rfl ?_
        exact h
      · replace h := h.2 c8
        refine jv_aload_n dX2_arrive_42 rfl ?_
        refine jv_iload_n dX2_arrive_43 rfl ?_
        refine jm_callVu [.int i1] cw_2_100 dX2_arrive_44 rfl (Nat.le_of_ble_eq_true rfl) (kd_N_0 hN) (r := (RX2, TX2, 13)) rfl rfl (lt_N hN 0 rfl) (Nat.le_of_ble_eq_true rfl) (JCu.mono h (fun u2 h => ?_))
        refine jv_iinc (v := i1 + 1) (ls' := [some (.ref N), some (.int (i1 + 1))]) dX2_arrive_47 (Nat.le_of_ble_eq_true rfl) rfl (by rw [ci_iconst_1]) rfl ?_
        refine jv_goto (t := 2) dX2_arrive_50 rfl ?_
        exact h
theorem g_X2_take_0 {E : JE} {u : JM} {K : JM → Prop} {N : Nat} (hN : isNet N) {a1 : Int32}
    (h : vp_in a1 192 ∧
 ∀ i2_1 : Int32, i2_1 = u (N + 21) a1.toNatClampNeg →
 vp_in i2_1 12 ∧
 ∀ i3_2 : Int32, i3_2 = ((u (N + 22) a1.toNatClampNeg) * 3 + (u (N + 4) i2_1.toNatClampNeg)) * 8 + (u (N + 23) a1.toNatClampNeg) →
 vp_in i3_2 192 ∧
 (((u (N + 16) a1.toNatClampNeg) ≤ (u (N + 10) i3_2.toNatClampNeg) → ((¬ (u (N + 10) i3_2.toNatClampNeg) = (u (N + 16) a1.toNatClampNeg) → K u) ∧
  ((u (N + 10) i3_2.toNatClampNeg) = (u (N + 16) a1.toNatClampNeg) → (((u (N + 24) i3_2.toNatClampNeg) = 0 → K u) ∧
   (¬ (u (N + 24) i3_2.toNatClampNeg) = 0 → ∀ u3, u3 = jw u (N + 25) i3_2.toNatClampNeg ((u (N + 25) i3_2.toNatClampNeg) ||| ((1 : Int32) <<< (i2_1 &&& 31))) →
    K u3))))) ∧
 (¬ (u (N + 16) a1.toNatClampNeg) ≤ (u (N + 10) i3_2.toNatClampNeg) → JCu E 1 YX0_takeRow [.ref (N + 9), .int i3_2, .ref (N + 15), .int a1] (fun u4 =>
  ∀ u5, u5 = jw u4 (N + 24) i3_2.toNatClampNeg 1 →
   ∀ u6, u6 = jw u5 (N + 25) i3_2.toNatClampNeg ((1 : Int32) <<< (i2_1 &&& 31)) →
   K u6) u)))
    : JVu E 2 YX2_take K 0 [some (.ref N), some (.int a1), none, none] [] u := by
  refine jv_aload_n dX2_take_0 rfl ?_
  refine gf_2_30 rfl dX2_take_1 (kd_N_0 hN) (lt_N hN 0 rfl) (rf_N_0_3 hN) ?_
  refine jv_iload_n dX2_take_4 rfl ?_
  obtain ⟨b1, h⟩ := h
  refine jm_iaload dX2_take_5 (kd_N_21 hN) (lt_N hN 21 rfl) b1 ?_
  generalize hhi2_1 : u (N + 21) a1.toNatClampNeg = i2_1
  replace h := h i2_1 hhi2_1.symm
  refine jv_istore_n (ls' := [some (.ref N), some (.int a1), some (.int i2_1), none]) dX2_take_6 (Nat.le_of_ble_eq_true rfl) rfl ?_
  refine jv_aload_n dX2_take_7 rfl ?_
  refine gf_2_34 rfl dX2_take_8 (kd_N_0 hN) (lt_N hN 0 rfl) (rf_N_0_4 hN) ?_
  refine jv_iload_n dX2_take_11 rfl ?_
  refine jm_iaload dX2_take_12 (kd_N_22 hN) (lt_N hN 22 rfl) b1 ?_
  refine jv_aload_n dX2_take_13 rfl ?_
  refine gf_2_12 rfl dX2_take_14 (kd_N_0 hN) (lt_N hN 0 rfl) (rf_N_0_0 hN) ?_
  refine gf_2_103 rfl dX2_take_17 (kd_N_1 hN) (lt_N hN 1 rfl) (rf_N_1_3 hN) ?_
  refine jv_iload_n dX2_take_20 rfl ?_
  obtain ⟨b2, h⟩ := h
  refine jm_iaload dX2_take_21 (kd_N_4 hN) (lt_N hN 4 rfl) b2 ?_
  refine jv_aload_n dX2_take_22 rfl ?_
  refine gf_2_37 rfl dX2_take_23 (kd_N_0 hN) (lt_N hN 0 rfl) (rf_N_0_5 hN) ?_
  refine jv_iload_n dX2_take_26 rfl ?_
  refine jm_iaload dX2_take_27 (kd_N_23 hN) (lt_N hN 23 rfl) b1 ?_
  refine jm_callSNi [.int (u (N + 22) a1.toNatClampNeg), .int (u (N + 4) i2_1.toNatClampNeg), .int (u (N + 23) a1.toNatClampNeg)] cw_2_106 dX2_take_28 rfl (Nat.le_of_ble_eq_true rfl) (Nat.le_of_ble_eq_true rfl) (p_X7_rowOf  ?_)
  generalize hhi3_2 : ((u (N + 22) a1.toNatClampNeg) * 3 + (u (N + 4) i2_1.toNatClampNeg)) * 8 + (u (N + 23) a1.toNatClampNeg) = i3_2
  replace h := h i3_2 hhi3_2.symm
  refine jv_istore_n (ls' := [some (.ref N), some (.int a1), some (.int i2_1), some (.int i3_2)]) dX2_take_31 (Nat.le_of_ble_eq_true rfl) rfl ?_
  refine jv_aload_n dX2_take_32 rfl ?_
  refine gf_2_23 rfl dX2_take_33 (kd_N_0 hN) (lt_N hN 0 rfl) (rf_N_0_1 hN) ?_
  refine gf_2_110 rfl dX2_take_36 (kd_N_9 hN) (lt_N hN 9 rfl) (rf_N_9_0 hN) ?_
  refine jv_iload_n dX2_take_39 rfl ?_
  obtain ⟨b3, h⟩ := h
  refine jm_iaload dX2_take_40 (kd_N_10 hN) (lt_N hN 10 rfl) b3 ?_
  refine jv_aload_n dX2_take_41 rfl ?_
  refine gf_2_27 rfl dX2_take_42 (kd_N_0 hN) (lt_N hN 0 rfl) (rf_N_0_2 hN) ?_
  refine gf_2_110 rfl dX2_take_45 (kd_N_15 hN) (lt_N hN 15 rfl) (rf_N_15_0 hN) ?_
  refine jv_iload_n dX2_take_48 rfl ?_
  refine jm_iaload dX2_take_49 (kd_N_16 hN) (lt_N hN 16 rfl) b1 ?_
  refine jv_icmp_ge (t := 85) dX2_take_50 rfl (fun c4 => ?_) (fun c4 => ?_)
  · replace h := h.1 c4
    refine jv_aload_n dX2_take_85 rfl ?_
    refine gf_2_23 rfl dX2_take_86 (kd_N_0 hN) (lt_N hN 0 rfl) (rf_N_0_1 hN) ?_
    refine gf_2_110 rfl dX2_take_89 (kd_N_9 hN) (lt_N hN 9 rfl) (rf_N_9_0 hN) ?_
    refine jv_iload_n dX2_take_92 rfl ?_
    refine jm_iaload dX2_take_93 (kd_N_10 hN) (lt_N hN 10 rfl) b3 ?_
    refine jv_aload_n dX2_take_94 rfl ?_
    refine gf_2_27 rfl dX2_take_95 (kd_N_0 hN) (lt_N hN 0 rfl) (rf_N_0_2 hN) ?_
    refine gf_2_110 rfl dX2_take_98 (kd_N_15 hN) (lt_N hN 15 rfl) (rf_N_15_0 hN) ?_
    refine jv_iload_n dX2_take_101 rfl ?_
    refine jm_iaload dX2_take_102 (kd_N_16 hN) (lt_N hN 16 rfl) b1 ?_
    refine jv_icmp_ne (t := 127) dX2_take_103 rfl (fun c5 => ?_) (fun c5 => ?_)
    · replace h := h.1 c5
      exact jm_return dX2_take_127 rfl h
    · replace h := h.2 c5
      refine jv_aload_n dX2_take_106 rfl ?_
      refine gf_2_40 rfl dX2_take_107 (kd_N_0 hN) (lt_N hN 0 rfl) (rf_N_0_9 hN) ?_
      refine jv_iload_n dX2_take_110 rfl ?_
      refine jm_baload dX2_take_111 (kd_N_24 hN) (lt_N hN 24 rfl) b3 ?_
      refine jv_if_eq (t := 127) dX2_take_112 rfl (fun c6 => ?_) (fun c6 => ?_)
      · replace h := h.1 c6
        exact jm_return dX2_take_127 rfl h
      · replace h := h.2 c6
        refine jv_aload_n dX2_take_115 rfl ?_
        refine gf_2_44 rfl dX2_take_116 (kd_N_0 hN) (lt_N hN 0 rfl) (rf_N_0_10 hN) ?_
        refine jv_iload_n dX2_take_119 rfl ?_
        refine jv_dup2 dX2_take_120 rfl rfl ?_
        refine jm_iaload dX2_take_121 (kd_N_25 hN) (lt_N hN 25 rfl) b3 ?_
        refine jv_iconst dX2_take_122 ci_iconst_1 ?_
        refine jv_iload_n dX2_take_123 rfl ?_
        refine jv_ishl dX2_take_124 ?_
        refine jv_ior dX2_take_125 ?_
        refine jm_iastore dX2_take_126 (kd_N_25 hN) (lt_N hN 25 rfl) b3 ?_
        generalize hhu3 : jw u (N + 25) i3_2.toNatClampNeg ((u (N + 25) i3_2.toNatClampNeg) ||| ((1 : Int32) <<< (i2_1 &&& 31))) = u3
        replace h := h u3 hhu3.symm
        exact jm_return dX2_take_127 rfl h
  · replace h := h.2 c4
    refine jv_aload_n dX2_take_53 rfl ?_
    refine gf_2_23 rfl dX2_take_54 (kd_N_0 hN) (lt_N hN 0 rfl) (rf_N_0_1 hN) ?_
    refine jv_iload_n dX2_take_57 rfl ?_
    refine jv_aload_n dX2_take_58 rfl ?_
    refine gf_2_27 rfl dX2_take_59 (kd_N_0 hN) (lt_N hN 0 rfl) (rf_N_0_2 hN) ?_
    refine jv_iload_n dX2_take_62 rfl ?_
    refine jm_callVu [.int i3_2, .ref (N + 15), .int a1] cw_2_113 dX2_take_63 rfl (Nat.le_of_ble_eq_true rfl) (kd_N_9 hN) (r := (RX0, TX0, 5)) rfl rfl (lt_N hN 9 rfl) (Nat.le_of_ble_eq_true rfl) (JCu.mono h (fun u4 h => ?_))
    refine jv_aload_n dX2_take_66 rfl ?_
    refine gf_2_40 rfl dX2_take_67 (kd_N_0 hN) (lt_N hN 0 rfl) (rf_N_0_9 hN) ?_
    refine jv_iload_n dX2_take_70 rfl ?_
    refine jv_iconst dX2_take_71 ci_iconst_1 ?_
    refine jm_bastore dX2_take_72 (kd_N_24 hN) (lt_N hN 24 rfl) b3 (Or.inr rfl) ?_
    generalize hhu5 : jw u4 (N + 24) i3_2.toNatClampNeg 1 = u5
    replace h := h u5 hhu5.symm
    refine jv_aload_n dX2_take_73 rfl ?_
    refine gf_2_44 rfl dX2_take_74 (kd_N_0 hN) (lt_N hN 0 rfl) (rf_N_0_10 hN) ?_
    refine jv_iload_n dX2_take_77 rfl ?_
    refine jv_iconst dX2_take_78 ci_iconst_1 ?_
    refine jv_iload_n dX2_take_79 rfl ?_
    refine jv_ishl dX2_take_80 ?_
    refine jm_iastore dX2_take_81 (kd_N_25 hN) (lt_N hN 25 rfl) b3 ?_
    generalize hhu6 : jw u5 (N + 25) i3_2.toNatClampNeg ((1 : Int32) <<< (i2_1 &&& 31)) = u6
    replace h := h u6 hhu6.symm
    refine jv_goto (t := 127) dX2_take_82 rfl ?_
    exact jm_return dX2_take_127 rfl h
theorem g_X2_growOlder_0 {E : JE} {u : JM} {K : JM → Prop} {N : Nat} (hN : isNet N)
    (h : JVu E 2 YX2_growOlder K 2 [some (.ref N), some (.int 0)] [] u)
    : JVu E 2 YX2_growOlder K 0 [some (.ref N), none] [] u := by
  refine jv_iconst dX2_growOlder_0 ci_iconst_0 ?_
  refine jv_istore_n (ls' := [some (.ref N), some (.int 0)]) dX2_growOlder_1 (Nat.le_of_ble_eq_true rfl) rfl ?_
  exact h
theorem g_X2_growOlder_2 {E : JE} {u : JM} {K : JM → Prop} {N : Nat} (hN : isNet N) {i1 : Int32}
    (h : ((192 ≤ i1 → K u) ∧
 (¬ 192 ≤ i1 → vp_in i1 192 ∧
  (((u (N + 10) i1.toNatClampNeg) = 0 → JVu E 2 YX2_growOlder K 2 [some (.ref N), some (.int (i1 + 1))] [] u) ∧
  (¬ (u (N + 10) i1.toNatClampNeg) = 0 → ∀ u1, u1 = jw u (N + 11) i1.toNatClampNeg ((u (N + 11) i1.toNatClampNeg) + 1) →
   (((u1 (N + 11) i1.toNatClampNeg) < 60 → JVu E 2 YX2_growOlder K 2 [some (.ref N), some (.int (i1 + 1))] [] u1) ∧
   (¬ (u1 (N + 11) i1.toNatClampNeg) < 60 → ((¬ (jb (i1 - i1 / 8 * 8 = i1 / 24)) = 0 → JVu E 2 YX2_growOlder K 2 [some (.ref N), some (.int (i1 + 1))] [] u1) ∧
    ((jb (i1 - i1 / 8 * 8 = i1 / 24)) = 0 → JCu E 1 YX0_forget [.ref (N + 9), .int i1] (fun u2 =>
     ∀ u3, u3 = jw u2 (N + 24) i1.toNatClampNeg 0 →
      JVu E 2 YX2_growOlder K 2 [some (.ref N), some (.int (i1 + 1))] [] u3) u1)))))))))
    : JVu E 2 YX2_growOlder K 2 [some (.ref N), some (.int i1)] [] u := by
  refine jv_iload_n dX2_growOlder_2 rfl ?_
  refine jv_sipush dX2_growOlder_3 ci_sipush_192 ?_
  refine jv_icmp_ge (t := 76) dX2_growOlder_6 rfl (fun c1 => ?_) (fun c1 => ?_)
  · replace h := h.1 c1
    exact jm_return dX2_growOlder_76 rfl h
  · replace h := h.2 c1
    refine jv_aload_n dX2_growOlder_9 rfl ?_
    refine gf_2_23 rfl dX2_growOlder_10 (kd_N_0 hN) (lt_N hN 0 rfl) (rf_N_0_1 hN) ?_
    refine gf_2_110 rfl dX2_growOlder_13 (kd_N_9 hN) (lt_N hN 9 rfl) (rf_N_9_0 hN) ?_
    refine jv_iload_n dX2_growOlder_16 rfl ?_
    obtain ⟨b3, h⟩ := h
    refine jm_iaload dX2_growOlder_17 (kd_N_10 hN) (lt_N hN 10 rfl) b3 ?_
    refine jv_if_eq (t := 70) dX2_growOlder_18 rfl (fun c4 => ?_) (fun c4 => ?_)
    · replace h := h.1 c4
      refine jv_iinc (v := i1 + 1) (ls' := [some (.ref N), some (.int (i1 + 1))]) dX2_growOlder_70 (Nat.le_of_ble_eq_true rfl) rfl (by rw [ci_iconst_1]) rfl ?_
      refine jv_goto (t := 2) dX2_growOlder_73 rfl ?_
      exact h
    · replace h := h.2 c4
      refine jv_aload_n dX2_growOlder_21 rfl ?_
      refine gf_2_23 rfl dX2_growOlder_22 (kd_N_0 hN) (lt_N hN 0 rfl) (rf_N_0_1 hN) ?_
      refine gf_2_117 rfl dX2_growOlder_25 (kd_N_9 hN) (lt_N hN 9 rfl) (rf_N_9_1 hN) ?_
      refine jv_iload_n dX2_growOlder_28 rfl ?_
      refine jv_dup2 dX2_growOlder_29 rfl rfl ?_
      refine jm_iaload dX2_growOlder_30 (kd_N_11 hN) (lt_N hN 11 rfl) b3 ?_
      refine jv_iconst dX2_growOlder_31 ci_iconst_1 ?_
      refine jv_iadd dX2_growOlder_32 ?_
      refine jm_iastore dX2_growOlder_33 (kd_N_11 hN) (lt_N hN 11 rfl) b3 ?_
      generalize hhu1 : jw u (N + 11) i1.toNatClampNeg ((u (N + 11) i1.toNatClampNeg) + 1) = u1
      replace h := h u1 hhu1.symm
      refine jv_aload_n dX2_growOlder_34 rfl ?_
      refine gf_2_23 rfl dX2_growOlder_35 (kd_N_0 hN) (lt_N hN 0 rfl) (rf_N_0_1 hN) ?_
      refine gf_2_117 rfl dX2_growOlder_38 (kd_N_9 hN) (lt_N hN 9 rfl) (rf_N_9_1 hN) ?_
      refine jv_iload_n dX2_growOlder_41 rfl ?_
      refine jm_iaload dX2_growOlder_42 (kd_N_11 hN) (lt_N hN 11 rfl) b3 ?_
      refine jv_bipush dX2_growOlder_43 ci_bipush_60 ?_
      refine jv_icmp_lt (t := 70) dX2_growOlder_45 rfl (fun c5 => ?_) (fun c5 => ?_)
      · replace h := h.1 c5
        refine jv_iinc (v := i1 + 1) (ls' := [some (.ref N), some (.int (i1 + 1))]) dX2_growOlder_70 (Nat.le_of_ble_eq_true rfl) rfl (by rw [ci_iconst_1]) rfl ?_
        refine jv_goto (t := 2) dX2_growOlder_73 rfl ?_
        exact h
      · replace h := h.2 c5
        refine jv_iload_n dX2_growOlder_48 rfl ?_
        refine jm_callSi [.int i1] cw_2_120 dX2_growOlder_49 rfl (Nat.le_of_ble_eq_true rfl) (Nat.le_of_ble_eq_true rfl) (p_X2_isOwn  ?_)
        refine jv_if_ne (t := 70) dX2_growOlder_52 rfl (fun c6 => ?_) (fun c6 => ?_)
        · replace h := h.1 c6
          refine jv_iinc (v := i1 + 1) (ls' := [some (.ref N), some (.int (i1 + 1))]) dX2_growOlder_70 (Nat.le_of_ble_eq_true rfl) rfl (by rw [ci_iconst_1]) rfl ?_
          refine jv_goto (t := 2) dX2_growOlder_73 rfl ?_
          exact h
        · replace h := h.2 c6
          refine jv_aload_n dX2_growOlder_55 rfl ?_
          refine gf_2_23 rfl dX2_growOlder_56 (kd_N_0 hN) (lt_N hN 0 rfl) (rf_N_0_1 hN) ?_
          refine jv_iload_n dX2_growOlder_59 rfl ?_
          refine jm_callVu [.int i1] cw_2_124 dX2_growOlder_60 rfl (Nat.le_of_ble_eq_true rfl) (kd_N_9 hN) (r := (RX0, TX0, 5)) rfl rfl (lt_N hN 9 rfl) (Nat.le_of_ble_eq_true rfl) (JCu.mono h (fun u2 h => ?_))
          refine jv_aload_n dX2_growOlder_63 rfl ?_
          refine gf_2_40 rfl dX2_growOlder_64 (kd_N_0 hN) (lt_N hN 0 rfl) (rf_N_0_9 hN) ?_
          refine jv_iload_n dX2_growOlder_67 rfl ?_
          refine jv_iconst dX2_growOlder_68 ci_iconst_0 ?_
          refine jm_bastore dX2_growOlder_69 (kd_N_24 hN) (lt_N hN 24 rfl) b3 (Or.inl rfl) ?_
          generalize hhu3 : jw u2 (N + 24) i1.toNatClampNeg 0 = u3
          replace h := h u3 hhu3.symm
          refine jv_iinc (v := i1 + 1) (ls' := [some (.ref N), some (.int (i1 + 1))]) dX2_growOlder_70 (Nat.le_of_ble_eq_true rfl) rfl (by rw [ci_iconst_1]) rfl ?_
          refine jv_goto (t := 2) dX2_growOlder_73 rfl ?_
          exact h
theorem g_X2_tellAnew_0 {E : JE} {u : JM} {K : JM → Prop} {N : Nat} (hN : isNet N)
    (h : JVu E 5 YX2_tellAnew K 2 [some (.ref N), some (.int 0), none, none, none] [] u)
    : JVu E 5 YX2_tellAnew K 0 [some (.ref N), none, none, none, none] [] u := by
  refine jv_iconst dX2_tellAnew_0 ci_iconst_0 ?_
  refine jv_istore_n (ls' := [some (.ref N), some (.int 0), none, none, none]) dX2_tellAnew_1 (Nat.le_of_ble_eq_true rfl) rfl ?_
  exact h
theorem g_X2_tellAnew_2 {E : JE} {u : JM} {K : JM → Prop} {N : Nat} (hN : isNet N) {i1 : Int32}
    (h : ((8 ≤ i1 → K u) ∧
 (¬ 8 ≤ i1 → JCi E 2 YX1_areasOf [.ref (N + 1), .int i1] (fun x1 u1 =>
  JVu E 5 YX2_tellAnew K 19 [some (.ref N), some (.int i1), some (.int x1), some (.int 0), none] [] u1) u)))
    : JVu E 5 YX2_tellAnew K 2 [some (.ref N), some (.int i1), none, none, none] [] u := by
  refine jv_iload_n dX2_tellAnew_2 rfl ?_
  refine jv_bipush dX2_tellAnew_3 ci_bipush_8 ?_
  refine jv_icmp_ge (t := 84) dX2_tellAnew_5 rfl (fun c1 => ?_) (fun c1 => ?_)
  · replace h := h.1 c1
    exact jm_return dX2_tellAnew_84 rfl h
  · replace h := h.2 c1
    refine jv_aload_n dX2_tellAnew_8 rfl ?_
    refine gf_2_12 rfl dX2_tellAnew_9 (kd_N_0 hN) (lt_N hN 0 rfl) (rf_N_0_0 hN) ?_
    refine jv_iload_n dX2_tellAnew_12 rfl ?_
    refine jm_callVi [.int i1] cw_2_127 dX2_tellAnew_13 rfl (Nat.le_of_ble_eq_true rfl) (kd_N_1 hN) (r := (RX1, TX1, 8)) rfl rfl (lt_N hN 1 rfl) (Nat.le_of_ble_eq_true rfl) (JCi.mono h (fun x1 u1 h => ?_))
    refine jv_istore_n (ls' := [some (.ref N), some (.int i1), some (.int x1), none, none]) dX2_tellAnew_16 (Nat.le_of_ble_eq_true rfl) rfl ?_
    refine jv_iconst dX2_tellAnew_17 ci_iconst_0 ?_
    refine jv_istore_n (ls' := [some (.ref N), some (.int i1), some (.int x1), some (.int 0), none]) dX2_tellAnew_18 (Nat.le_of_ble_eq_true rfl) rfl ?_
    exact h
theorem g_X2_tellAnew_19 {E : JE} {u : JM} {K : JM → Prop} {N : Nat} (hN : isNet N) {i1 i2 i3 : Int32}
    (h : ((3 ≤ i3 → JVu E 5 YX2_tellAnew K 2 [some (.ref N), some (.int (i1 + 1)), none, none, none] [] u) ∧
 (¬ 3 ≤ i3 → ∀ i4_1 : Int32, i4_1 = (i1 * 3 + i3) * 8 + i1 →
  vp_in i4_1 192 ∧
  ((¬ (u (N + 10) i4_1.toNatClampNeg) = 0 → JCu E 2 YX2_draftLinks [.ref N, .int i1, .int i3] (fun u2 =>
   JCu E 4 YX2_draftSums [.ref N, .int i1, .int i3, .int i2] (fun u3 =>
    JCu E 2 YX2_tellDraft [.ref N, .int i4_1] (fun u4 =>
     JVu E 5 YX2_tellAnew K 19 [some (.ref N), some (.int i1), some (.int i2), some (.int (i3 + 1)), none] [] u4) u3) u2) u) ∧
  ((u (N + 10) i4_1.toNatClampNeg) = 0 → ((((i2 >>> (i3 &&& 31)) &&& 1) = 0 → JVu E 5 YX2_tellAnew K 19 [some (.ref N), some (.int i1), some (.int i2), some (.int (i3 + 1)), none] [] u) ∧
   (¬ ((i2 >>> (i3 &&& 31)) &&& 1) = 0 → JCu E 2 YX2_draftLinks [.ref N, .int i1, .int i3] (fun u5 =>
    JCu E 4 YX2_draftSums [.ref N, .int i1, .int i3, .int i2] (fun u6 =>
     JCu E 2 YX2_tellDraft [.ref N, .int i4_1] (fun u7 =>
      JVu E 5 YX2_tellAnew K 19 [some (.ref N), some (.int i1), some (.int i2), some (.int (i3 + 1)), none] [] u7) u6) u5) u)))))))
    : JVu E 5 YX2_tellAnew K 19 [some (.ref N), some (.int i1), some (.int i2), some (.int i3), none] [] u := by
  refine jv_iload_n dX2_tellAnew_19 rfl ?_
  refine jv_iconst dX2_tellAnew_20 ci_iconst_3 ?_
  refine jv_icmp_ge (t := 78) dX2_tellAnew_21 rfl (fun c1 => ?_) (fun c1 => ?_)
  · replace h := h.1 c1
    refine jv_iinc (v := i1 + 1) (ls' := [some (.ref N), some (.int (i1 + 1)), some (.int i2), some (.int i3), none]) dX2_tellAnew_78 (Nat.le_of_ble_eq_true rfl) rfl (by rw [ci_iconst_1]) rfl ?_
    refine jv_goto (t := 2) dX2_tellAnew_81 rfl ?_
    exact jm_sub (ls' := [some (.ref N), some (.int (i1 + 1)), none, none, none]) ⟨rfl, rfl, trivial⟩ h
  · replace h := h.2 c1
    refine jv_iload_n dX2_tellAnew_24 rfl ?_
    refine jv_iload_n dX2_tellAnew_25 rfl ?_
    refine jv_iload_n dX2_tellAnew_26 rfl ?_
    refine jm_callSNi [.int i1, .int i3, .int i1] cw_2_106 dX2_tellAnew_27 rfl (Nat.le_of_ble_eq_true rfl) (Nat.le_of_ble_eq_true rfl) (p_X7_rowOf  ?_)
    generalize hhi4_1 : (i1 * 3 + i3) * 8 + i1 = i4_1
    replace h := h i4_1 hhi4_1.symm
    refine jv_istore (ls' := [some (.ref N), some (.int i1), some (.int i2), some (.int i3), some (.int i4_1)]) dX2_tellAnew_30 (Nat.le_of_ble_eq_true rfl) rfl ?_
    refine jv_aload_n dX2_tellAnew_32 rfl ?_
    refine gf_2_23 rfl dX2_tellAnew_33 (kd_N_0 hN) (lt_N hN 0 rfl) (rf_N_0_1 hN) ?_
    refine gf_2_110 rfl dX2_tellAnew_36 (kd_N_9 hN) (lt_N hN 9 rfl) (rf_N_9_0 hN) ?_
    refine jv_iload dX2_tellAnew_39 rfl ?_
    obtain ⟨b3, h⟩ := h
    refine jm_iaload dX2_tellAnew_41 (kd_N_10 hN) (lt_N hN 10 rfl) b3 ?_
    refine jv_if_ne (t := 53) dX2_tellAnew_42 rfl (fun c4 => ?_) (fun c4 => ?_)
    · replace h := h.1 c4
      refine jv_aload_n dX2_tellAnew_53 rfl ?_
      refine jv_iload_n dX2_tellAnew_54 rfl ?_
      refine jv_iload_n dX2_tellAnew_55 rfl ?_
      refine jm_callVu [.int i1, .int i3] cw_2_130 dX2_tellAnew_56 rfl (Nat.le_of_ble_eq_true rfl) (kd_N_0 hN) (r := (RX2, TX2, 13)) rfl rfl (lt_N hN 0 rfl) (Nat.le_of_ble_eq_true rfl) (JCu.mono h (fun u2 h => ?_))
      refine jv_aload_n dX2_tellAnew_59 rfl ?_
      refine jv_iload_n dX2_tellAnew_60 rfl ?_
      refine jv_iload_n dX2_tellAnew_61 rfl ?_
      refine jv_iload_n dX2_tellAnew_62 rfl ?_
      refine jm_callVu [.int i1, .int i3, .int i2] cw_2_134 dX2_tellAnew_63 rfl (Nat.le_of_ble_eq_true rfl) (kd_N_0 hN) (r := (RX2, TX2, 13)) rfl rfl (lt_N hN 0 rfl) (Nat.le_of_ble_eq_true rfl) (JCu.mono h (fun u3 h => ?_))
      refine jv_aload_n dX2_tellAnew_66 rfl ?_
      refine jv_iload dX2_tellAnew_67 rfl ?_
      refine jm_callVu [.int i4_1] cw_2_138 dX2_tellAnew_69 rfl (Nat.le_of_ble_eq_true rfl) (kd_N_0 hN) (r := (RX2, TX2, 13)) rfl rfl (lt_N hN 0 rfl) (Nat.le_of_ble_eq_true rfl) (JCu.mono h (fun u4 h => ?_))
      refine jv_iinc (v := i3 + 1) (ls' := [some (.ref N), some (.int i1), some (.int i2), some (.int (i3 + 1)), some (.int i4_1)]) dX2_tellAnew_72 (Nat.le_of_ble_eq_true rfl) rfl (by rw [ci_iconst_1]) rfl ?_
      refine jv_goto (t := 19) dX2_tellAnew_75 rfl ?_
      exact jm_sub (ls' := [some (.ref N), some (.int i1), some (.int i2), some (.int (i3 + 1)), none]) ⟨rfl, rfl, rfl, rfl, trivial⟩ h
    · replace h := h.2 c4
      refine jv_iload_n dX2_tellAnew_45 rfl ?_
      refine jv_iload_n dX2_tellAnew_46 rfl ?_
      refine jv_ishr dX2_tellAnew_47 ?_
      refine jv_iconst dX2_tellAnew_48 ci_iconst_1 ?_
      refine jv_iand dX2_tellAnew_49 ?_
      refine jv_if_eq (t := 72) dX2_tellAnew_50 rfl (fun c5 => ?_) (fun c5 => ?_)
      · replace h := h.1 c5
        refine jv_iinc (v := i3 + 1) (ls' := [some (.ref N), some (.int i1), some (.int i2), some (.int (i3 + 1)), some (.int i4_1)]) dX2_tellAnew_72 (Nat.le_of_ble_eq_true rfl) rfl (by rw [ci_iconst_1]) rfl ?_
        refine jv_goto (t := 19) dX2_tellAnew_75 rfl ?_
        exact jm_sub (ls' := [some (.ref N), some (.int i1), some (.int i2), some (.int (i3 + 1)), none]) ⟨rfl, rfl, rfl, rfl, trivial⟩ h
      · replace h := h.2 c5
        refine jv_aload_n dX2_tellAnew_53 rfl ?_
        refine jv_iload_n dX2_tellAnew_54 rfl ?_
        refine jv_iload_n dX2_tellAnew_55 rfl ?_
        refine jm_callVu [.int i1, .int i3] cw_2_130 dX2_tellAnew_56 rfl (Nat.le_of_ble_eq_true rfl) (kd_N_0 hN) (r := (RX2, TX2, 13)) rfl rfl (lt_N hN 0 rfl) (Nat.le_of_ble_eq_true rfl) (JCu.mono h (fun u5 h => ?_))
        refine jv_aload_n dX2_tellAnew_59 rfl ?_
        refine jv_iload_n dX2_tellAnew_60 rfl ?_
        refine jv_iload_n dX2_tellAnew_61 rfl ?_
        refine jv_iload_n dX2_tellAnew_62 rfl ?_
        refine jm_callVu [.int i1, .int i3, .int i2] cw_2_134 dX2_tellAnew_63 rfl (Nat.le_of_ble_eq_true rfl) (kd_N_0 hN) (r := (RX2, TX2, 13)) rfl rfl (lt_N hN 0 rfl) (Nat.le_of_ble_eq_true rfl) (JCu.mono h (fun u6 h => ?_))
        refine jv_aload_n dX2_tellAnew_66 rfl ?_
        refine jv_iload dX2_tellAnew_67 rfl ?_
        refine jm_callVu [.int i4_1] cw_2_138 dX2_tellAnew_69 rfl (Nat.le_of_ble_eq_true rfl) (kd_N_0 hN) (r := (RX2, TX2, 13)) rfl rfl (lt_N hN 0 rfl) (Nat.le_of_ble_eq_true rfl) (JCu.mono h (fun u7 h => ?_))
        refine jv_iinc (v := i3 + 1) (ls' := [some (.ref N), some (.int i1), some (.int i2), some (.int (i3 + 1)), some (.int i4_1)]) dX2_tellAnew_72 (Nat.le_of_ble_eq_true rfl) rfl (by rw [ci_iconst_1]) rfl ?_
        refine jv_goto (t := 19) dX2_tellAnew_75 rfl ?_
        exact jm_sub (ls' := [some (.ref N), some (.int i1), some (.int i2), some (.int (i3 + 1)), none]) ⟨rfl, rfl, rfl, rfl, trivial⟩ h
theorem g_X2_draftLinks_0 {E : JE} {u : JM} {K : JM → Prop} {N : Nat} (hN : isNet N) {a1 a2 : Int32}
    (h : ∀ u1, u1 = jw u (N + 29) (0 : Int32).toNatClampNeg 0 →
 JVu E 2 YX2_draftLinks K 12 [some (.ref N), some (.int a1), some (.int a2), some (.int 0), none] [] u1)
    : JVu E 2 YX2_draftLinks K 0 [some (.ref N), some (.int a1), some (.int a2), none, none] [] u := by
  refine jv_aload_n dX2_draftLinks_0 rfl ?_
  refine gf_2_47 rfl dX2_draftLinks_1 (kd_N_0 hN) (lt_N hN 0 rfl) (rf_N_0_11 hN) ?_
  refine gf_2_141 rfl dX2_draftLinks_4 (kd_N_26 hN) (lt_N hN 26 rfl) (rf_N_26_2 hN) ?_
  refine jv_iconst dX2_draftLinks_7 ci_iconst_0 ?_
  refine jv_iconst dX2_draftLinks_8 ci_iconst_0 ?_
  refine jm_iastore dX2_draftLinks_9 (kd_N_29 hN) (lt_N hN 29 rfl) (vp_lit 0 1 rfl) ?_
  generalize hhu1 : jw u (N + 29) (0 : Int32).toNatClampNeg 0 = u1
  replace h := h u1 hhu1.symm
  refine jv_iconst dX2_draftLinks_10 ci_iconst_0 ?_
  refine jv_istore_n (ls' := [some (.ref N), some (.int a1), some (.int a2), some (.int 0), none]) dX2_draftLinks_11 (Nat.le_of_ble_eq_true rfl) rfl ?_
  exact h
theorem g_X2_draftLinks_12 {E : JE} {u : JM} {K : JM → Prop} {N : Nat} (hN : isNet N) {a1 a2 i3 : Int32}
    (h : ((12 ≤ i3 → K u) ∧
 (¬ 12 ≤ i3 → (((u (N + 1) 0) ≤ i3 → True) ∧ (¬ (u (N + 1) 0) ≤ i3 → (vp_in i3 12 ∧ ((¬ (u (N + 4) i3.toNatClampNeg) = a2 → True) ∧ ((u (N + 4) i3.toNatClampNeg) = a2 → (vp_in i3 12 ∧ True)))))) ∧
  ∀ v_1 : Int32, v_1 = (if (u (N + 1) 0) ≤ i3 then 0 else (if (u (N + 4) i3.toNatClampNeg) = a2 then (if (jb (¬ u (N + 7) i3.toNatClampNeg = 0 ∧ (u (N + 2) i3.toNatClampNeg = a1 ∨ u (N + 3) i3.toNatClampNeg = a1))) = 0 then 0 else 1) else 0)) →
  ((v_1 = 0 → True) ∧ (¬ v_1 = 0 → (vp_in i3 12 ∧ True))) ∧
  ∀ v_2 : Int32, v_2 = (if v_1 = 0 then (-1) else (if u (N + 2) i3.toNatClampNeg = a1 then u (N + 5) i3.toNatClampNeg else u (N + 6) i3.toNatClampNeg)) →
  vp_in i3 12 ∧
  ∀ u3, u3 = jw u (N + 30) i3.toNatClampNeg v_2 →
  ∀ v_4 : Int32, v_4 = (if v_1 = 0 then 0 else ((1 : Int32) <<< (i3 &&& 31))) →
  ∀ u5, u5 = jw u3 (N + 29) (0 : Int32).toNatClampNeg ((u3 (N + 29) (0 : Int32).toNatClampNeg) ||| v_4) →
  JVu E 2 YX2_draftLinks K 12 [some (.ref N), some (.int a1), some (.int a2), some (.int (i3 + 1)), none] [] u5)))
    : JVu E 2 YX2_draftLinks K 12 [some (.ref N), some (.int a1), some (.int a2), some (.int i3), none] [] u := by
  refine jv_iload_n dX2_draftLinks_12 rfl ?_
  refine jv_bipush dX2_draftLinks_13 ci_bipush_12 ?_
  refine jv_icmp_ge (t := 118) dX2_draftLinks_15 rfl (fun c1 => ?_) (fun c1 => ?_)
  · replace h := h.1 c1
    exact jm_return dX2_draftLinks_118 rfl h
  · replace h := h.2 c1
    refine jv_iload_n dX2_draftLinks_18 rfl ?_
    refine jv_aload_n dX2_draftLinks_19 rfl ?_
    refine gf_2_12 rfl dX2_draftLinks_20 (kd_N_0 hN) (lt_N hN 0 rfl) (rf_N_0_0 hN) ?_
    refine gf_2_143 rfl dX2_draftLinks_23 (kd_N_1 hN) (lt_N hN 1 rfl) ?_
    obtain ⟨hob, h⟩ := h
    have key16 : ∀ v_1 : Int32, v_1 = (if (u (N + 1) 0) ≤ i3 then 0 else (if (u (N + 4) i3.toNatClampNeg) = a2 then (if (jb (¬ u (N + 7) i3.toNatClampNeg = 0 ∧ (u (N + 2) i3.toNatClampNeg = a1 ∨ u (N + 3) i3.toNatClampNeg = a1))) = 0 then 0 else 1) else 0)) → JVu E 2 YX2_draftLinks K 59 [some (.ref N), some (.int a1), some (.int a2), some (.int i3), none] [.int v_1] u := by
      intro v_1 hv_1
      replace h := h v_1 hv_1
      refine jv_istore (ls' := [some (.ref N), some (.int a1), some (.int a2), some (.int i3), some (.int v_1)]) dX2_draftLinks_59 (Nat.le_of_ble_eq_true rfl) rfl ?_
      refine jv_aload_n dX2_draftLinks_61 rfl ?_
      refine gf_2_47 rfl dX2_draftLinks_62 (kd_N_0 hN) (lt_N hN 0 rfl) (rf_N_0_11 hN) ?_
      refine gf_2_150 rfl dX2_draftLinks_65 (kd_N_26 hN) (lt_N hN 26 rfl) (rf_N_26_3 hN) ?_
      refine jv_iload_n dX2_draftLinks_68 rfl ?_
      refine jv_iload dX2_draftLinks_69 rfl ?_
      obtain ⟨hob, h⟩ := h
      have key14 : ∀ v_2 : Int32, v_2 = (if v_1 = 0 then (-1) else (if u (N + 2) i3.toNatClampNeg = a1 then u (N + 5) i3.toNatClampNeg else u (N + 6) i3.toNatClampNeg)) → JVu E 2 YX2_draftLinks K 87 [some (.ref N), some (.int a1), some (.int a2), some (.int i3), some (.int v_1)] [.int v_2, .int i3, .ref (N + 30)] u := by
        intro v_2 hv_2
        replace h := h v_2 hv_2
        obtain ⟨b10, h⟩ := h
        refine jm_iastore dX2_draftLinks_87 (kd_N_30 hN) (lt_N hN 30 rfl) b10 ?_
        generalize hhu3 : jw u (N + 30) i3.toNatClampNeg v_2 = u3
        replace h := h u3 hhu3.symm
        refine jv_aload_n dX2_draftLinks_88 rfl ?_
        refine gf_2_47 rfl dX2_draftLinks_89 (kd_N_0 hN) (lt_N hN 0 rfl) (rf_N_0_11 hN) ?_
        refine gf_2_141 rfl dX2_draftLinks_92 (kd_N_26 hN) (lt_N hN 26 rfl) (rf_N_26_2 hN) ?_
        refine jv_iconst dX2_draftLinks_95 ci_iconst_0 ?_
        refine jv_dup2 dX2_draftLinks_96 rfl rfl ?_
        refine jm_iaload dX2_draftLinks_97 (kd_N_29 hN) (lt_N hN 29 rfl) (vp_lit 0 1 rfl) ?_
        refine jv_iload dX2_draftLinks_98 rfl ?_
        have key12 : ∀ v_4 : Int32, v_4 = (if v_1 = 0 then 0 else ((1 : Int32) <<< (i3 &&& 31))) → JVu E 2 YX2_draftLinks K 110 [some (.ref N), some (.int a1), some (.int a2), some (.int i3), some (.int v_1)] [.int v_4, .int (u3 (N + 29) (0 : Int32).toNatClampNeg), .int 0, .ref (N + 29)] u3 := by
          intro v_4 hv_4
          replace h := h v_4 hv_4
          refine jv_ior dX2_draftLinks_110 ?_
          refine jm_iastore dX2_draftLinks_111 (kd_N_29 hN) (lt_N hN 29 rfl) (vp_lit 0 1 rfl) ?_
          generalize hhu5 : jw u3 (N + 29) (0 : Int32).toNatClampNeg ((u3 (N + 29) (0 : Int32).toNatClampNeg) ||| v_4) = u5
          replace h := h u5 hhu5.symm
          refine jv_iinc (v := i3 + 1) (ls' := [some (.ref N), some (.int a1), some (.int a2), some (.int (i3 + 1)), some (.int v_1)]) dX2_draftLinks_112 (Nat.le_of_ble_eq_true rfl) rfl (by rw [ci_iconst_1]) rfl ?_
          refine jv_goto (t := 12) dX2_draftLinks_115 rfl ?_
          exact jm_sub (ls' := [some (.ref N), some (.int a1), some (.int a2), some (.int (i3 + 1)), none]) ⟨rfl, rfl, rfl, rfl, trivial⟩ h
        clear h
        refine jv_if_eq (t := 109) dX2_draftLinks_100 rfl (fun c13 => ?_) (fun c13 => ?_)
        · refine jv_iconst dX2_draftLinks_109 ci_iconst_0 ?_
          exact key12 _ (Eq.trans rfl (if_pos c13).symm)
        · refine jv_iconst dX2_draftLinks_103 ci_iconst_1 ?_
          refine jv_iload_n dX2_draftLinks_104 rfl ?_
          refine jv_ishl dX2_draftLinks_105 ?_
          refine jv_goto (t := 110) dX2_draftLinks_106 rfl ?_
          exact key12 _ (Eq.trans rfl (if_neg c13).symm)
      clear h
      have h := hob
      refine jv_if_eq (t := 86) dX2_draftLinks_71 rfl (fun c15 => ?_) (fun c15 => ?_)
      · replace h := h.1 c15
        refine jv_iconst dX2_draftLinks_86 ci_iconst_m1 ?_
        exact key14 _ (Eq.trans rfl (if_pos c15).symm)
      · replace h := h.2 c15
        refine jv_aload_n dX2_draftLinks_74 rfl ?_
        refine gf_2_12 rfl dX2_draftLinks_75 (kd_N_0 hN) (lt_N hN 0 rfl) (rf_N_0_0 hN) ?_
        refine jv_iload_n dX2_draftLinks_78 rfl ?_
        refine jv_iload_n dX2_draftLinks_79 rfl ?_
        obtain ⟨b9, h⟩ := h
        refine jm_callVi [.int i3, .int a1] cw_2_153 dX2_draftLinks_80 rfl (Nat.le_of_ble_eq_true rfl) (kd_N_1 hN) (r := (RX1, TX1, 8)) rfl rfl (lt_N hN 1 rfl) (Nat.le_of_ble_eq_true rfl) (p_X1_costFrom hN b9 ?_)
        refine jv_goto (t := 87) dX2_draftLinks_83 rfl ?_
        exact key14 _ (Eq.trans rfl (if_neg c15).symm)
    clear h
    have h := hob
    refine jv_icmp_ge (t := 58) dX2_draftLinks_26 rfl (fun c17 => ?_) (fun c17 => ?_)
    · replace h := h.1 c17
      refine jv_iconst dX2_draftLinks_58 ci_iconst_0 ?_
      exact key16 _ (Eq.trans rfl (if_pos c17).symm)
    · replace h := h.2 c17
      refine jv_aload_n dX2_draftLinks_29 rfl ?_
      refine gf_2_12 rfl dX2_draftLinks_30 (kd_N_0 hN) (lt_N hN 0 rfl) (rf_N_0_0 hN) ?_
      refine gf_2_103 rfl dX2_draftLinks_33 (kd_N_1 hN) (lt_N hN 1 rfl) (rf_N_1_3 hN) ?_
      refine jv_iload_n dX2_draftLinks_36 rfl ?_
      obtain ⟨b6, h⟩ := h
      refine jm_iaload dX2_draftLinks_37 (kd_N_4 hN) (lt_N hN 4 rfl) b6 ?_
      refine jv_iload_n dX2_draftLinks_38 rfl ?_
      refine jv_icmp_ne (t := 58) dX2_draftLinks_39 rfl (fun c18 => ?_) (fun c18 => ?_)
      · replace h := h.1 c18
        refine jv_iconst dX2_draftLinks_58 ci_iconst_0 ?_
        exact key16 _ (Eq.trans (Eq.trans rfl (if_neg c18).symm) (if_neg c17).symm)
      · replace h := h.2 c18
        refine jv_aload_n dX2_draftLinks_42 rfl ?_
        refine gf_2_12 rfl dX2_draftLinks_43 (kd_N_0 hN) (lt_N hN 0 rfl) (rf_N_0_0 hN) ?_
        refine jv_iload_n dX2_draftLinks_46 rfl ?_
        refine jv_iload_n dX2_draftLinks_47 rfl ?_
        obtain ⟨b7, h⟩ := h
        refine jm_callVi [.int i3, .int a1] cw_2_146 dX2_draftLinks_48 rfl (Nat.le_of_ble_eq_true rfl) (kd_N_1 hN) (r := (RX1, TX1, 8)) rfl rfl (lt_N hN 1 rfl) (Nat.le_of_ble_eq_true rfl) (p_X1_isUpAt hN b7 ?_)
        refine jv_if_eq (t := 58) dX2_draftLinks_51 rfl (fun c19 => ?_) (fun c19 => ?_)
        · refine jv_iconst dX2_draftLinks_58 ci_iconst_0 ?_
          exact key16 _ (Eq.trans (Eq.trans (Eq.trans rfl (if_pos c19).symm) (if_pos c18).symm) (if_neg c17).symm)
        · refine jv_iconst dX2_draftLinks_54 ci_iconst_1 ?_
          refine jv_goto (t := 59) dX2_draftLinks_55 rfl ?_
          exact key16 _ (Eq.trans (Eq.trans (Eq.trans rfl (if_neg c19).symm) (if_pos c18).symm) (if_neg c17).symm)
theorem g_X2_draftSums_0 {E : JE} {u : JM} {K : JM → Prop} {N : Nat} (hN : isNet N) {a1 a2 a3 : Int32}
    (h : JCu E 1 YJ7_fill_53178 [.ref (N + 31), .int 9999] (fun u1 =>
 ((¬ (jb (¬ a3 &&& 1 = 0 ∧ ¬ a3 = 1)) = 0 → ∀ v_2 : Int32, v_2 = (if a2 = 0 then (a3 &&& (-2)) else 1) →
   JVu E 4 YX2_draftSums K 38 [some (.ref N), some (.int a1), some (.int a2), some (.int a3), some (.int v_2), some (.int 0), none] [] u1) ∧
  ((jb (¬ a3 &&& 1 = 0 ∧ ¬ a3 = 1)) = 0 → K u1))) u)
    : JVu E 4 YX2_draftSums K 0 [some (.ref N), some (.int a1), some (.int a2), some (.int a3), none, none, none] [] u := by
  refine jv_aload_n dX2_draftSums_0 rfl ?_
  refine gf_2_47 rfl dX2_draftSums_1 (kd_N_0 hN) (lt_N hN 0 rfl) (rf_N_0_11 hN) ?_
  refine gf_2_157 rfl dX2_draftSums_4 (kd_N_26 hN) (lt_N hN 26 rfl) (rf_N_26_4 hN) ?_
  refine jv_sipush dX2_draftSums_7 ci_sipush_9999 ?_
  refine jm_callSu [.ref (N + 31), .int 9999] cw_2_160 dX2_draftSums_10 rfl (Nat.le_of_ble_eq_true rfl) (Nat.le_of_ble_eq_true rfl) (JCu.mono h (fun u1 h => ?_))
  refine jv_iload_n dX2_draftSums_13 rfl ?_
  refine jm_callSNi [.int a3] cw_2_166 dX2_draftSums_14 rfl (Nat.le_of_ble_eq_true rfl) (Nat.le_of_ble_eq_true rfl) (p_X7_isBorder  ?_)
  refine jv_if_ne (t := 21) dX2_draftSums_17 rfl (fun c1 => ?_) (fun c1 => ?_)
  · replace h := h.1 c1
    refine jv_iload_n dX2_draftSums_21 rfl ?_
    have key3 : ∀ v_2 : Int32, v_2 = (if a2 = 0 then (a3 &&& (-2)) else 1) → JVu E 4 YX2_draftSums K 33 [some (.ref N), some (.int a1), some (.int a2), some (.int a3), none, none, none] [.int v_2] u1 := by
      intro v_2 hv_2
      replace h := h v_2 hv_2
      refine jv_istore (ls' := [some (.ref N), some (.int a1), some (.int a2), some (.int a3), some (.int v_2), none, none]) dX2_draftSums_33 (Nat.le_of_ble_eq_true rfl) rfl ?_
      refine jv_iconst dX2_draftSums_35 ci_iconst_0 ?_
      refine jv_istore (ls' := [some (.ref N), some (.int a1), some (.int a2), some (.int a3), some (.int v_2), some (.int 0), none]) dX2_draftSums_36 (Nat.le_of_ble_eq_true rfl) rfl ?_
      exact h
    clear h
    refine jv_if_ne (t := 32) dX2_draftSums_22 rfl (fun c4 => ?_) (fun c4 => ?_)
    · refine jv_iconst dX2_draftSums_32 ci_iconst_1 ?_
      exact key3 _ (Eq.trans rfl (if_neg c4).symm)
    · refine jv_iload_n dX2_draftSums_25 rfl ?_
      refine jv_bipush dX2_draftSums_26 ci_bipush_m2 ?_
      refine jv_iand dX2_draftSums_28 ?_
      refine jv_goto (t := 33) dX2_draftSums_29 rfl ?_
      exact key3 _ (Eq.trans rfl (if_pos c4).symm)
  · replace h := h.2 c1
    exact jm_return dX2_draftSums_20 rfl h
theorem g_X2_draftSums_38 {E : JE} {u : JM} {K : JM → Prop} {N : Nat} (hN : isNet N) {a1 a2 a3 i4 i5 : Int32}
    (h : ((3 ≤ i5 → ((a2 = 0 → vp_in a1 8 ∧
   ∀ u1, u1 = jw u (N + 31) a1.toNatClampNeg 9999 →
   K u1) ∧
  (¬ a2 = 0 → JCu E 3 YX2_sumUpAcross [.ref N, .int a1] (fun u2 =>
   vp_in a1 8 ∧
    ∀ u3, u3 = jw u2 (N + 31) a1.toNatClampNeg 9999 →
    K u3) u))) ∧
 (¬ 3 ≤ i5 → ((((i4 >>> (i5 &&& 31)) &&& 1) = 0 → JVu E 4 YX2_draftSums K 38 [some (.ref N), some (.int a1), some (.int a2), some (.int a3), some (.int i4), some (.int (i5 + 1)), none] [] u) ∧
  (¬ ((i4 >>> (i5 &&& 31)) &&& 1) = 0 → JCu E 2 YX3_measure [.ref (N + 32), .ref N, .int a1, .int i5] (fun u4 =>
   JVu E 4 YX2_draftSums K 68 [some (.ref N), some (.int a1), some (.int a2), some (.int a3), some (.int i4), some (.int i5), some (.int 0)] [] u4) u)))))
    : JVu E 4 YX2_draftSums K 38 [some (.ref N), some (.int a1), some (.int a2), some (.int a3), some (.int i4), some (.int i5), none] [] u := by
  refine jv_iload dX2_draftSums_38 rfl ?_
  refine jv_iconst dX2_draftSums_40 ci_iconst_3 ?_
  refine jv_icmp_ge (t := 120) dX2_draftSums_41 rfl (fun c1 => ?_) (fun c1 => ?_)
  · replace h := h.1 c1
    refine jv_iload_n dX2_draftSums_120 rfl ?_
    refine jv_if_eq (t := 129) dX2_draftSums_121 rfl (fun c2 => ?_) (fun c2 => ?_)
    · replace h := h.1 c2
      refine jv_aload_n dX2_draftSums_129 rfl ?_
      refine gf_2_47 rfl dX2_draftSums_130 (kd_N_0 hN) (lt_N hN 0 rfl) (rf_N_0_11 hN) ?_
      refine gf_2_157 rfl dX2_draftSums_133 (kd_N_26 hN) (lt_N hN 26 rfl) (rf_N_26_4 hN) ?_
      refine jv_iload_n dX2_draftSums_136 rfl ?_
      refine jv_sipush dX2_draftSums_137 ci_sipush_9999 ?_
      obtain ⟨b3, h⟩ := h
      refine jm_iastore dX2_draftSums_140 (kd_N_31 hN) (lt_N hN 31 rfl) b3 ?_
      generalize hhu1 : jw u (N + 31) a1.toNatClampNeg 9999 = u1
      replace h := h u1 hhu1.symm
      exact jm_return dX2_draftSums_141 rfl h
    · replace h := h.2 c2
      refine jv_aload_n dX2_draftSums_124 rfl ?_
      refine jv_iload_n dX2_draftSums_125 rfl ?_
      refine jm_callVu [.int a1] cw_2_181 dX2_draftSums_126 rfl (Nat.le_of_ble_eq_true rfl) (kd_N_0 hN) (r := (RX2, TX2, 13)) rfl rfl (lt_N hN 0 rfl) (Nat.le_of_ble_eq_true rfl) (JCu.mono h (fun u2 h => ?_))
      refine jv_aload_n dX2_draftSums_129 rfl ?_
      refine gf_2_47 rfl dX2_draftSums_130 (kd_N_0 hN) (lt_N hN 0 rfl) (rf_N_0_11 hN) ?_
      refine gf_2_157 rfl dX2_draftSums_133 (kd_N_26 hN) (lt_N hN 26 rfl) (rf_N_26_4 hN) ?_
      refine jv_iload_n dX2_draftSums_136 rfl ?_
      refine jv_sipush dX2_draftSums_137 ci_sipush_9999 ?_
      obtain ⟨b4, h⟩ := h
      refine jm_iastore dX2_draftSums_140 (kd_N_31 hN) (lt_N hN 31 rfl) b4 ?_
      generalize hhu3 : jw u2 (N + 31) a1.toNatClampNeg 9999 = u3
      replace h := h u3 hhu3.symm
      exact jm_return dX2_draftSums_141 rfl h
  · replace h := h.2 c1
    refine jv_iload dX2_draftSums_44 rfl ?_
    refine jv_iload dX2_draftSums_46 rfl ?_
    refine jv_ishr dX2_draftSums_48 ?_
    refine jv_iconst dX2_draftSums_49 ci_iconst_1 ?_
    refine jv_iand dX2_draftSums_50 ?_
    refine jv_if_eq (t := 114) dX2_draftSums_51 rfl (fun c5 => ?_) (fun c5 => ?_)
    · replace h := h.1 c5
      refine jv_iinc (v := i5 + 1) (ls' := [some (.ref N), some (.int a1), some (.int a2), some (.int a3), some (.int i4), some (.int (i5 + 1)), none]) dX2_draftSums_114 (Nat.le_of_ble_eq_true rfl) rfl (by rw [ci_iconst_1]) rfl ?_
      refine jv_goto (t := 38) dX2_draftSums_117 rfl ?_
      exact h
    · replace h := h.2 c5
      refine jv_aload_n dX2_draftSums_54 rfl ?_
      refine gf_2_53 rfl dX2_draftSums_55 (kd_N_0 hN) (lt_N hN 0 rfl) (rf_N_0_12 hN) ?_
      refine jv_aload_n dX2_draftSums_58 rfl ?_
      refine jv_iload_n dX2_draftSums_59 rfl ?_
      refine jv_iload dX2_draftSums_60 rfl ?_
      refine jm_callVu [.ref N, .int a1, .int i5] cw_2_169 dX2_draftSums_62 rfl (Nat.le_of_ble_eq_true rfl) (kd_N_32 hN) (r := (RX3, TX3, 3)) rfl rfl (lt_N hN 32 rfl) (Nat.le_of_ble_eq_true rfl) (JCu.mono h (fun u4 h => ?_))
      refine jv_iconst dX2_draftSums_65 ci_iconst_0 ?_
      refine jv_istore (ls' := [some (.ref N), some (.int a1), some (.int a2), some (.int a3), some (.int i4), some (.int i5), some (.int 0)]) dX2_draftSums_66 (Nat.le_of_ble_eq_true rfl) rfl ?_
      exact h
theorem g_X2_draftSums_68 {E : JE} {u : JM} {K : JM → Prop} {N : Nat} (hN : isNet N) {a1 a2 a3 i4 i5 i6 : Int32}
    (h : ((8 ≤ i6 → JVu E 4 YX2_draftSums K 38 [some (.ref N), some (.int a1), some (.int a2), some (.int a3), some (.int i4), some (.int (i5 + 1)), none] [] u) ∧
 (¬ 8 ≤ i6 → vp_in i6 8 ∧
  ∀ u1, u1 = jw u (N + 31) i6.toNatClampNeg (if (u (N + 31) i6.toNatClampNeg) ≤ (u (N + 33) i6.toNatClampNeg) then (u (N + 31) i6.toNatClampNeg) else (u (N + 33) i6.toNatClampNeg)) →
  JVu E 4 YX2_draftSums K 68 [some (.ref N), some (.int a1), some (.int a2), some (.int a3), some (.int i4), some (.int i5), some (.int (i6 + 1))] [] u1)))
    : JVu E 4 YX2_draftSums K 68 [some (.ref N), some (.int a1), some (.int a2), some (.int a3), some (.int i4), some (.int i5), some (.int i6)] [] u := by
  refine jv_iload dX2_draftSums_68 rfl ?_
  refine jv_bipush dX2_draftSums_70 ci_bipush_8 ?_
  refine jv_icmp_ge (t := 114) dX2_draftSums_72 rfl (fun c1 => ?_) (fun c1 => ?_)
  · replace h := h.1 c1
    refine jv_iinc (v := i5 + 1) (ls' := [some (.ref N), some (.int a1), some (.int a2), some (.int a3), some (.int i4), some (.int (i5 + 1)), some (.int i6)]) dX2_draftSums_114 (Nat.le_of_ble_eq_true rfl) rfl (by rw [ci_iconst_1]) rfl ?_
    refine jv_goto (t := 38) dX2_draftSums_117 rfl ?_
    exact jm_sub (ls' := [some (.ref N), some (.int a1), some (.int a2), some (.int a3), some (.int i4), some (.int (i5 + 1)), none]) ⟨rfl, rfl, rfl, rfl, rfl, rfl, trivial⟩ h
  · replace h := h.2 c1
    refine jv_aload_n dX2_draftSums_75 rfl ?_
    refine gf_2_47 rfl dX2_draftSums_76 (kd_N_0 hN) (lt_N hN 0 rfl) (rf_N_0_11 hN) ?_
    refine gf_2_157 rfl dX2_draftSums_79 (kd_N_26 hN) (lt_N hN 26 rfl) (rf_N_26_4 hN) ?_
    refine jv_iload dX2_draftSums_82 rfl ?_
    refine jv_aload_n dX2_draftSums_84 rfl ?_
    refine gf_2_47 rfl dX2_draftSums_85 (kd_N_0 hN) (lt_N hN 0 rfl) (rf_N_0_11 hN) ?_
    refine gf_2_157 rfl dX2_draftSums_88 (kd_N_26 hN) (lt_N hN 26 rfl) (rf_N_26_4 hN) ?_
    refine jv_iload dX2_draftSums_91 rfl ?_
    obtain ⟨b3, h⟩ := h
    refine jm_iaload dX2_draftSums_93 (kd_N_31 hN) (lt_N hN 31 rfl) b3 ?_
    refine jv_aload_n dX2_draftSums_94 rfl ?_
    refine gf_2_53 rfl dX2_draftSums_95 (kd_N_0 hN) (lt_N hN 0 rfl) (rf_N_0_12 hN) ?_
    refine gf_2_173 rfl dX2_draftSums_98 (kd_N_32 hN) (lt_N hN 32 rfl) (rf_N_32_0 hN) ?_
    refine jv_iload dX2_draftSums_101 rfl ?_
    refine jm_iaload dX2_draftSums_103 (kd_N_33 hN) (lt_N hN 33 rfl) b3 ?_
    refine jm_callSi [.int (u (N + 31) i6.toNatClampNeg), .int (u (N + 33) i6.toNatClampNeg)] cw_2_176 dX2_draftSums_104 rfl (Nat.le_of_ble_eq_true rfl) (Nat.le_of_ble_eq_true rfl) (p_J9_min_7cf53  ?_)
    refine jm_iastore dX2_draftSums_107 (kd_N_31 hN) (lt_N hN 31 rfl) b3 ?_
    generalize hhu1 : jw u (N + 31) i6.toNatClampNeg (if (u (N + 31) i6.toNatClampNeg) ≤ (u (N + 33) i6.toNatClampNeg) then (u (N + 31) i6.toNatClampNeg) else (u (N + 33) i6.toNatClampNeg)) = u1
    replace h := h u1 hhu1.symm
    refine jv_iinc (v := i6 + 1) (ls' := [some (.ref N), some (.int a1), some (.int a2), some (.int a3), some (.int i4), some (.int i5), some (.int (i6 + 1))]) dX2_draftSums_108 (Nat.le_of_ble_eq_true rfl) rfl (by rw [ci_iconst_1]) rfl ?_
    refine jv_goto (t := 68) dX2_draftSums_111 rfl ?_
    exact h
theorem g_X2_sumUpAcross_0 {E : JE} {u : JM} {K : JM → Prop} {N : Nat} (hN : isNet N) {a1 : Int32}
    (h : JVu E 3 YX2_sumUpAcross K 2 [some (.ref N), some (.int a1), some (.int 0), none] [] u)
    : JVu E 3 YX2_sumUpAcross K 0 [some (.ref N), some (.int a1), none, none] [] u := by
  refine jv_iconst dX2_sumUpAcross_0 ci_iconst_0 ?_
  refine jv_istore_n (ls' := [some (.ref N), some (.int a1), some (.int 0), none]) dX2_sumUpAcross_1 (Nat.le_of_ble_eq_true rfl) rfl ?_
  exact h
theorem g_X2_sumUpAcross_2 {E : JE} {u : JM} {K : JM → Prop} {N : Nat} (hN : isNet N) {a1 i2 : Int32}
    (h : ((8 ≤ i2 → K u) ∧
 (¬ 8 ≤ i2 → vp_in i2 8 ∧
  (((u (N + 31) i2.toNatClampNeg) < 9999 → JVu E 3 YX2_sumUpAcross K 2 [some (.ref N), some (.int a1), some (.int (i2 + 1)), none] [] u) ∧
  (¬ (u (N + 31) i2.toNatClampNeg) < 9999 → JCi E 2 YX2_teller [.ref N, .ref (N + 32), .int a1, .int 0, .int i2] (fun x1 u1 =>
   ((¬ x1 = (-1) → (vp_in (((a1 * 3 + 0) * 8 + x1) - ((a1 * 3 + 0) * 8 + x1) / 8 * 8) 8 ∧ (vp_in (((a1 * 3 + 0) * 8 + x1) * 8 + i2) 1536 ∧ True))) ∧ (x1 = (-1) → True)) ∧
    ∀ v_2 : Int32, v_2 = (if x1 = (-1) then 9999 else (u1 (N + 33) (((a1 * 3 + 0) * 8 + x1) - ((a1 * 3 + 0) * 8 + x1) / 8 * 8).toNatClampNeg + u1 (N + 14) (((a1 * 3 + 0) * 8 + x1) * 8 + i2).toNatClampNeg)) →
    ∀ u3, u3 = jw u1 (N + 31) i2.toNatClampNeg v_2 →
    JVu E 3 YX2_sumUpAcross K 2 [some (.ref N), some (.int a1), some (.int (i2 + 1)), none] [] u3) u)))))
    : JVu E 3 YX2_sumUpAcross K 2 [some (.ref N), some (.int a1), some (.int i2), none] [] u := by
  refine jv_iload_n dX2_sumUpAcross_2 rfl ?_
  refine jv_bipush dX2_sumUpAcross_3 ci_bipush_8 ?_
  refine jv_icmp_ge (t := 76) dX2_sumUpAcross_5 rfl (fun c1 => ?_) (fun c1 => ?_)
  · replace h := h.1 c1
    exact jm_return dX2_sumUpAcross_76 rfl h
  · replace h := h.2 c1
    refine jv_aload_n dX2_sumUpAcross_8 rfl ?_
    refine gf_2_47 rfl dX2_sumUpAcross_9 (kd_N_0 hN) (lt_N hN 0 rfl) (rf_N_0_11 hN) ?_
    refine gf_2_157 rfl dX2_sumUpAcross_12 (kd_N_26 hN) (lt_N hN 26 rfl) (rf_N_26_4 hN) ?_
    refine jv_iload_n dX2_sumUpAcross_15 rfl ?_
    obtain ⟨b3, h⟩ := h
    refine jm_iaload dX2_sumUpAcross_16 (kd_N_31 hN) (lt_N hN 31 rfl) b3 ?_
    refine jv_sipush dX2_sumUpAcross_17 ci_sipush_9999 ?_
    refine jv_icmp_lt (t := 70) dX2_sumUpAcross_20 rfl (fun c4 => ?_) (fun c4 => ?_)
    · replace h := h.1 c4
      refine jv_iinc (v := i2 + 1) (ls' := [some (.ref N), some (.int a1), some (.int (i2 + 1)), none]) dX2_sumUpAcross_70 (Nat.le_of_ble_eq_true rfl) rfl (by rw [ci_iconst_1]) rfl ?_
      refine jv_goto (t := 2) dX2_sumUpAcross_73 rfl ?_
      exact h
    · replace h := h.2 c4
      refine jv_aload_n dX2_sumUpAcross_23 rfl ?_
      refine jv_aload_n dX2_sumUpAcross_24 rfl ?_
      refine gf_2_53 rfl dX2_sumUpAcross_25 (kd_N_0 hN) (lt_N hN 0 rfl) (rf_N_0_12 hN) ?_
      refine jv_iload_n dX2_sumUpAcross_28 rfl ?_
      refine jv_iconst dX2_sumUpAcross_29 ci_iconst_0 ?_
      refine jv_iload_n dX2_sumUpAcross_30 rfl ?_
      refine jm_callVi [.ref (N + 32), .int a1, .int 0, .int i2] cw_2_184 dX2_sumUpAcross_31 rfl (Nat.le_of_ble_eq_true rfl) (kd_N_0 hN) (r := (RX2, TX2, 13)) rfl rfl (lt_N hN 0 rfl) (Nat.le_of_ble_eq_true rfl) (JCi.mono h (fun x1 u1 h => ?_))
      refine jv_istore_n (ls' := [some (.ref N), some (.int a1), some (.int i2), some (.int x1)]) dX2_sumUpAcross_34 (Nat.le_of_ble_eq_true rfl) rfl ?_
      refine jv_aload_n dX2_sumUpAcross_35 rfl ?_
      refine gf_2_47 rfl dX2_sumUpAcross_36 (kd_N_0 hN) (lt_N hN 0 rfl) (rf_N_0_11 hN) ?_
      refine gf_2_157 rfl dX2_sumUpAcross_39 (kd_N_26 hN) (lt_N hN 26 rfl) (rf_N_26_4 hN) ?_
      refine jv_iload_n dX2_sumUpAcross_42 rfl ?_
      refine jv_iload_n dX2_sumUpAcross_43 rfl ?_
      refine jv_iconst dX2_sumUpAcross_44 ci_iconst_m1 ?_
      obtain ⟨hob, h⟩ := h
      have key8 : ∀ v_2 : Int32, v_2 = (if x1 = (-1) then 9999 else (u1 (N + 33) (((a1 * 3 + 0) * 8 + x1) - ((a1 * 3 + 0) * 8 + x1) / 8 * 8).toNatClampNeg + u1 (N + 14) (((a1 * 3 + 0) * 8 + x1) * 8 + i2).toNatClampNeg)) → JVu E 3 YX2_sumUpAcross K 69 [some (.ref N), some (.int a1), some (.int i2), some (.int x1)] [.int v_2, .int i2, .ref (N + 31)] u1 := by
        intro v_2 hv_2
        replace h := h v_2 hv_2
        refine jm_iastore dX2_sumUpAcross_69 (kd_N_31 hN) (lt_N hN 31 rfl) b3 ?_
        generalize hhu3 : jw u1 (N + 31) i2.toNatClampNeg v_2 = u3
        replace h := h u3 hhu3.symm
        refine jv_iinc (v := i2 + 1) (ls' := [some (.ref N), some (.int a1), some (.int (i2 + 1)), some (.int x1)]) dX2_sumUpAcross_70 (Nat.le_of_ble_eq_true rfl) rfl (by rw [ci_iconst_1]) rfl ?_
        refine jv_goto (t := 2) dX2_sumUpAcross_73 rfl ?_
        exact jm_sub (ls' := [some (.ref N), some (.int a1), some (.int (i2 + 1)), none]) ⟨rfl, rfl, rfl, trivial⟩ h
      clear h
      have h := hob
      refine jv_icmp_ne (t := 54) dX2_sumUpAcross_45 rfl (fun c9 => ?_) (fun c9 => ?_)
      · replace h := h.1 c9
        refine jv_aload_n dX2_sumUpAcross_54 rfl ?_
        refine jv_aload_n dX2_sumUpAcross_55 rfl ?_
        refine gf_2_53 rfl dX2_sumUpAcross_56 (kd_N_0 hN) (lt_N hN 0 rfl) (rf_N_0_12 hN) ?_
        refine jv_iload_n dX2_sumUpAcross_59 rfl ?_
        refine jv_iconst dX2_sumUpAcross_60 ci_iconst_0 ?_
        refine jv_iload_n dX2_sumUpAcross_61 rfl ?_
        refine jm_callSNi [.int a1, .int 0, .int x1] cw_2_106 dX2_sumUpAcross_62 rfl (Nat.le_of_ble_eq_true rfl) (Nat.le_of_ble_eq_true rfl) (p_X7_rowOf  ?_)
        refine jv_iload_n dX2_sumUpAcross_65 rfl ?_
        obtain ⟨b6, h⟩ := h
        obtain ⟨b7, h⟩ := h
        refine jm_callVi [.ref (N + 32), .int ((a1 * 3 + 0) * 8 + x1), .int i2] cw_2_188 dX2_sumUpAcross_66 rfl (Nat.le_of_ble_eq_true rfl) (kd_N_0 hN) (r := (RX2, TX2, 13)) rfl rfl (lt_N hN 0 rfl) (Nat.le_of_ble_eq_true rfl) (p_X2_costBy hN (isPaths_N hN) b6 b7 ?_)
        exact key8 _ (Eq.trans rfl (if_neg c9).symm)
      · replace h := h.2 c9
        refine jv_sipush dX2_sumUpAcross_48 ci_sipush_9999 ?_
        refine jv_goto (t := 69) dX2_sumUpAcross_51 rfl ?_
        exact key8 _ (Eq.trans rfl (if_pos c9).symm)
theorem g_X2_tellDraft_0 {E : JE} {u : JM} {K : JM → Prop} {N : Nat} (hN : isNet N) {a1 : Int32}
    (h : vp_in a1 192 ∧
 ∀ v_1 : Int32, v_1 = (if (u (N + 10) a1.toNatClampNeg) = 0 then 1 else (if (u (N + 11) a1.toNatClampNeg) < 20 then 0 else 1)) →
 ((¬ v_1 = 0 → ∀ u2, u2 = jw u (N + 27) (0 : Int32).toNatClampNeg ((u (N + 10) a1.toNatClampNeg) + 1) →
  ∀ u3, u3 = jw u2 (N + 28) (0 : Int32).toNatClampNeg 0 →
  JCu E 1 YX0_takeRow [.ref (N + 9), .int a1, .ref (N + 26), .int 0] (fun u4 =>
  ∀ u5, u5 = jw u4 (N + 24) a1.toNatClampNeg 1 →
   ∀ u6, u6 = jw u5 (N + 25) a1.toNatClampNeg 0 →
   K u6) u3) ∧
 (v_1 = 0 → JCi E 1 YX0_tellsAs [.ref (N + 9), .int a1, .ref (N + 26), .int 0] (fun x7 u7 =>
  ((¬ x7 = 0 → K u7) ∧
   (x7 = 0 → ∀ u8, u8 = jw u7 (N + 27) (0 : Int32).toNatClampNeg ((u7 (N + 10) a1.toNatClampNeg) + 1) →
    ∀ u9, u9 = jw u8 (N + 28) (0 : Int32).toNatClampNeg 0 →
    JCu E 1 YX0_takeRow [.ref (N + 9), .int a1, .ref (N + 26), .int 0] (fun u10 =>
    ∀ u11, u11 = jw u10 (N + 24) a1.toNatClampNeg 1 →
     ∀ u12, u12 = jw u11 (N + 25) a1.toNatClampNeg 0 →
     K u12) u9))) u)))
    : JVu E 2 YX2_tellDraft K 0 [some (.ref N), some (.int a1), none] [] u := by
  refine jv_aload_n dX2_tellDraft_0 rfl ?_
  refine gf_2_23 rfl dX2_tellDraft_1 (kd_N_0 hN) (lt_N hN 0 rfl) (rf_N_0_1 hN) ?_
  refine gf_2_110 rfl dX2_tellDraft_4 (kd_N_9 hN) (lt_N hN 9 rfl) (rf_N_9_0 hN) ?_
  refine jv_iload_n dX2_tellDraft_7 rfl ?_
  obtain ⟨b1, h⟩ := h
  refine jm_iaload dX2_tellDraft_8 (kd_N_10 hN) (lt_N hN 10 rfl) b1 ?_
  have key5 : ∀ v_1 : Int32, v_1 = (if (u (N + 10) a1.toNatClampNeg) = 0 then 1 else (if (u (N + 11) a1.toNatClampNeg) < 20 then 0 else 1)) → JVu E 2 YX2_tellDraft K 31 [some (.ref N), some (.int a1), none] [.int v_1] u := by
    intro v_1 hv_1
    replace h := h v_1 hv_1
    refine jv_istore_n (ls' := [some (.ref N), some (.int a1), some (.int v_1)]) dX2_tellDraft_31 (Nat.le_of_ble_eq_true rfl) rfl ?_
    refine jv_iload_n dX2_tellDraft_32 rfl ?_
    refine jv_if_ne (t := 52) dX2_tellDraft_33 rfl (fun c3 => ?_) (fun c3 => ?_)
    · replace h := h.1 c3
      refine jv_aload_n dX2_tellDraft_52 rfl ?_
      refine gf_2_47 rfl dX2_tellDraft_53 (kd_N_0 hN) (lt_N hN 0 rfl) (rf_N_0_11 hN) ?_
      refine gf_2_110 rfl dX2_tellDraft_56 (kd_N_26 hN) (lt_N hN 26 rfl) (rf_N_26_0 hN) ?_
      refine jv_iconst dX2_tellDraft_59 ci_iconst_0 ?_
      refine jv_aload_n dX2_tellDraft_60 rfl ?_
      refine gf_2_23 rfl dX2_tellDraft_61 (kd_N_0 hN) (lt_N hN 0 rfl) (rf_N_0_1 hN) ?_
      refine gf_2_110 rfl dX2_tellDraft_64 (kd_N_9 hN) (lt_N hN 9 rfl) (rf_N_9_0 hN) ?_
      refine jv_iload_n dX2_tellDraft_67 rfl ?_
      refine jm_iaload dX2_tellDraft_68 (kd_N_10 hN) (lt_N hN 10 rfl) b1 ?_
      refine jv_iconst dX2_tellDraft_69 ci_iconst_1 ?_
      refine jv_iadd dX2_tellDraft_70 ?_
      refine jm_iastore dX2_tellDraft_71 (kd_N_27 hN) (lt_N hN 27 rfl) (vp_lit 0 1 rfl) ?_
      generalize hhu2 : jw u (N + 27) (0 : Int32).toNatClampNeg ((u (N + 10) a1.toNatClampNeg) + 1) = u2
      replace h := h u2 hhu2.symm
      refine jv_aload_n dX2_tellDraft_72 rfl ?_
      refine gf_2_47 rfl dX2_tellDraft_73 (kd_N_0 hN) (lt_N hN 0 rfl) (rf_N_0_11 hN) ?_
      refine gf_2_117 rfl dX2_tellDraft_76 (kd_N_26 hN) (lt_N hN 26 rfl) (rf_N_26_1 hN) ?_
      refine jv_iconst dX2_tellDraft_79 ci_iconst_0 ?_
      refine jv_iconst dX2_tellDraft_80 ci_iconst_0 ?_
      refine jm_iastore dX2_tellDraft_81 (kd_N_28 hN) (lt_N hN 28 rfl) (vp_lit 0 1 rfl) ?_
      generalize hhu3 : jw u2 (N + 28) (0 : Int32).toNatClampNeg 0 = u3
      replace h := h u3 hhu3.symm
      refine jv_aload_n dX2_tellDraft_82 rfl ?_
      refine gf_2_23 rfl dX2_tellDraft_83 (kd_N_0 hN) (lt_N hN 0 rfl) (rf_N_0_1 hN) ?_
      refine jv_iload_n dX2_tellDraft_86 rfl ?_
      refine jv_aload_n dX2_tellDraft_87 rfl ?_
      refine gf_2_47 rfl dX2_tellDraft_88 (kd_N_0 hN) (lt_N hN 0 rfl) (rf_N_0_11 hN) ?_
      refine jv_iconst dX2_tellDraft_91 ci_iconst_0 ?_
      refine jm_callVu [.int a1, .ref (N + 26), .int 0] cw_2_113 dX2_tellDraft_92 rfl (Nat.le_of_ble_eq_true rfl) (kd_N_9 hN) (r := (RX0, TX0, 5)) rfl rfl (lt_N hN 9 rfl) (Nat.le_of_ble_eq_true rfl) (JCu.mono h (fun u4 h => ?_))
      refine jv_aload_n dX2_tellDraft_95 rfl ?_
      refine gf_2_40 rfl dX2_tellDraft_96 (kd_N_0 hN) (lt_N hN 0 rfl) (rf_N_0_9 hN) ?_
      refine jv_iload_n dX2_tellDraft_99 rfl ?_
      refine jv_iconst dX2_tellDraft_100 ci_iconst_1 ?_
      refine jm_bastore dX2_tellDraft_101 (kd_N_24 hN) (lt_N hN 24 rfl) b1 (Or.inr rfl) ?_
      generalize hhu5 : jw u4 (N + 24) a1.toNatClampNeg 1 = u5
      replace h := h u5 hhu5.symm
      refine jv_aload_n dX2_tellDraft_102 rfl ?_
      refine gf_2_44 rfl dX2_tellDraft_103 (kd_N_0 hN) (lt_N hN 0 rfl) (rf_N_0_10 hN) ?_
      refine jv_iload_n dX2_tellDraft_106 rfl ?_
      refine jv_iconst dX2_tellDraft_107 ci_iconst_0 ?_
      refine jm_iastore dX2_tellDraft_108 (kd_N_25 hN) (lt_N hN 25 rfl) b1 ?_
      generalize hhu6 : jw u5 (N + 25) a1.toNatClampNeg 0 = u6
      replace h := h u6 hhu6.symm
      exact jm_return dX2_tellDraft_109 rfl h
    · replace h := h.2 c3
      refine jv_aload_n dX2_tellDraft_36 rfl ?_
      refine gf_2_23 rfl dX2_tellDraft_37 (kd_N_0 hN) (lt_N hN 0 rfl) (rf_N_0_1 hN) ?_
      refine jv_iload_n dX2_tellDraft_40 rfl ?_
      refine jv_aload_n dX2_tellDraft_41 rfl ?_
      refine gf_2_47 rfl dX2_tellDraft_42 (kd_N_0 hN) (lt_N hN 0 rfl) (rf_N_0_11 hN) ?_
      refine jv_iconst dX2_tellDraft_45 ci_iconst_0 ?_
      refine jm_callVi [.int a1, .ref (N + 26), .int 0] cw_2_192 dX2_tellDraft_46 rfl (Nat.le_of_ble_eq_true rfl) (kd_N_9 hN) (r := (RX0, TX0, 5)) rfl rfl (lt_N hN 9 rfl) (Nat.le_of_ble_eq_true rfl) (JCi.mono h (fun x7 u7 h => ?_))
      refine jv_if_ne (t := 109) dX2_tellDraft_49 rfl (fun c4 => ?_) (fun c4 => ?_)
      · replace h := h.1 c4
        exact jm_return dX2_tellDraft_109 rfl h
      · replace h := h.2 c4
        refine jv_aload_n dX2_tellDraft_52 rfl ?_
        refine gf_2_47 rfl dX2_tellDraft_53 (kd_N_0 hN) (lt_N hN 0 rfl) (rf_N_0_11 hN) ?_
        refine gf_2_110 rfl dX2_tellDraft_56 (kd_N_26 hN) (lt_N hN 26 rfl) (rf_N_26_0 hN) ?_
        refine jv_iconst dX2_tellDraft_59 ci_iconst_0 ?_
        refine jv_aload_n dX2_tellDraft_60 rfl ?_
        refine gf_2_23 rfl dX2_tellDraft_61 (kd_N_0 hN) (lt_N hN 0 rfl) (rf_N_0_1 hN) ?_
        refine gf_2_110 rfl dX2_tellDraft_64 (kd_N_9 hN) (lt_N hN 9 rfl) (rf_N_9_0 hN) ?_
        refine jv_iload_n dX2_tellDraft_67 rfl ?_
        refine jm_iaload dX2_tellDraft_68 (kd_N_10 hN) (lt_N hN 10 rfl) b1 ?_
        refine jv_iconst dX2_tellDraft_69 ci_iconst_1 ?_
        refine jv_iadd dX2_tellDraft_70 ?_
        refine jm_iastore dX2_tellDraft_71 (kd_N_27 hN) (lt_N hN 27 rfl) (vp_lit 0 1 rfl) ?_
        generalize hhu8 : jw u7 (N + 27) (0 : Int32).toNatClampNeg ((u7 (N + 10) a1.toNatClampNeg) + 1) = u8
        replace h := h u8 hhu8.symm
        refine jv_aload_n dX2_tellDraft_72 rfl ?_
        refine gf_2_47 rfl dX2_tellDraft_73 (kd_N_0 hN) (lt_N hN 0 rfl) (rf_N_0_11 hN) ?_
        refine gf_2_117 rfl dX2_tellDraft_76 (kd_N_26 hN) (lt_N hN 26 rfl) (rf_N_26_1 hN) ?_
        refine jv_iconst dX2_tellDraft_79 ci_iconst_0 ?_
        refine jv_iconst dX2_tellDraft_80 ci_iconst_0 ?_
        refine jm_iastore dX2_tellDraft_81 (kd_N_28 hN) (lt_N hN 28 rfl) (vp_lit 0 1 rfl) ?_
        generalize hhu9 : jw u8 (N + 28) (0 : Int32).toNatClampNeg 0 = u9
        replace h := h u9 hhu9.symm
        refine jv_aload_n dX2_tellDraft_82 rfl ?_
        refine gf_2_23 rfl dX2_tellDraft_83 (kd_N_0 hN) (lt_N hN 0 rfl) (rf_N_0_1 hN) ?_
        refine jv_iload_n dX2_tellDraft_86 rfl ?_
        refine jv_aload_n dX2_tellDraft_87 rfl ?_
        refine gf_2_47 rfl dX2_tellDraft_88 (kd_N_0 hN) (lt_N hN 0 rfl) (rf_N_0_11 hN) ?_
        refine jv_iconst dX2_tellDraft_91 ci_iconst_0 ?_
        refine jm_callVu [.int a1, .ref (N + 26), .int 0] cw_2_113 dX2_tellDraft_92 rfl (Nat.le_of_ble_eq_true rfl) (kd_N_9 hN) (r := (RX0, TX0, 5)) rfl rfl (lt_N hN 9 rfl) (Nat.le_of_ble_eq_true rfl) (JCu.mono h (fun u10 h => ?_))
        refine jv_aload_n dX2_tellDraft_95 rfl ?_
        refine gf_2_40 rfl dX2_tellDraft_96 (kd_N_0 hN) (lt_N hN 0 rfl) (rf_N_0_9 hN) ?_
        refine jv_iload_n dX2_tellDraft_99 rfl ?_
        refine jv_iconst dX2_tellDraft_100 ci_iconst_1 ?_
        refine jm_bastore dX2_tellDraft_101 (kd_N_24 hN) (lt_N hN 24 rfl) b1 (Or.inr rfl) ?_
        generalize hhu11 : jw u10 (N + 24) a1.toNatClampNeg 1 = u11
        replace h := h u11 hhu11.symm
        refine jv_aload_n dX2_tellDraft_102 rfl ?_
        refine gf_2_44 rfl dX2_tellDraft_103 (kd_N_0 hN) (lt_N hN 0 rfl) (rf_N_0_10 hN) ?_
        refine jv_iload_n dX2_tellDraft_106 rfl ?_
        refine jv_iconst dX2_tellDraft_107 ci_iconst_0 ?_
        refine jm_iastore dX2_tellDraft_108 (kd_N_25 hN) (lt_N hN 25 rfl) b1 ?_
        generalize hhu12 : jw u11 (N + 25) a1.toNatClampNeg 0 = u12
        replace h := h u12 hhu12.symm
        exact jm_return dX2_tellDraft_109 rfl h
  clear h
  refine jv_if_eq (t := 26) dX2_tellDraft_9 rfl (fun c6 => ?_) (fun c6 => ?_)
  · refine jv_iconst dX2_tellDraft_26 ci_iconst_1 ?_
    refine jv_goto (t := 31) dX2_tellDraft_27 rfl ?_
    exact key5 _ (Eq.trans rfl (if_pos c6).symm)
  · refine jv_aload_n dX2_tellDraft_12 rfl ?_
    refine gf_2_23 rfl dX2_tellDraft_13 (kd_N_0 hN) (lt_N hN 0 rfl) (rf_N_0_1 hN) ?_
    refine gf_2_117 rfl dX2_tellDraft_16 (kd_N_9 hN) (lt_N hN 9 rfl) (rf_N_9_1 hN) ?_
    refine jv_iload_n dX2_tellDraft_19 rfl ?_
    refine jm_iaload dX2_tellDraft_20 (kd_N_11 hN) (lt_N hN 11 rfl) b1 ?_
    refine jv_bipush dX2_tellDraft_21 ci_bipush_20 ?_
    refine jv_icmp_lt (t := 30) dX2_tellDraft_23 rfl (fun c7 => ?_) (fun c7 => ?_)
    · refine jv_iconst dX2_tellDraft_30 ci_iconst_0 ?_
      exact key5 _ (Eq.trans (Eq.trans rfl (if_pos c7).symm) (if_neg c6).symm)
    · refine jv_iconst dX2_tellDraft_26 ci_iconst_1 ?_
      refine jv_goto (t := 31) dX2_tellDraft_27 rfl ?_
      exact key5 _ (Eq.trans (Eq.trans rfl (if_neg c7).symm) (if_neg c6).symm)
theorem g_X2_teller_0 {E : JE} {u : JM} {K : Int32 → JM → Prop} {N : Nat} (hN : isNet N) {P : Nat} (hP : isPaths P) {router area to : Int32}
    (h : JVi E 2 YX2_teller K 11 [some (.ref N), some (.ref P), some (.int router), some (.int area), some (.int to), some (.int (-1)), some (.int 9999), some (.int 0), none] [] u)
    : JVi E 2 YX2_teller K 0 [some (.ref N), some (.ref P), some (.int router), some (.int area), some (.int to), none, none, none, none] [] u := by
  refine jv_iconst dX2_teller_0 ci_iconst_m1 ?_
  refine jv_istore (ls' := [some (.ref N), some (.ref P), some (.int router), some (.int area), some (.int to), some (.int (-1)), none, none, none]) dX2_teller_1 (Nat.le_of_ble_eq_true rfl) rfl ?_
  refine jv_sipush dX2_teller_3 ci_sipush_9999 ?_
  refine jv_istore (ls' := [some (.ref N), some (.ref P), some (.int router), some (.int area), some (.int to), some (.int (-1)), some (.int 9999), none, none]) dX2_teller_6 (Nat.le_of_ble_eq_true rfl) rfl ?_
  refine jv_iconst dX2_teller_8 ci_iconst_0 ?_
  refine jv_istore (ls' := [some (.ref N), some (.ref P), some (.int router), some (.int area), some (.int to), some (.int (-1)), some (.int 9999), some (.int 0), none]) dX2_teller_9 (Nat.le_of_ble_eq_true rfl) rfl ?_
  exact h
theorem g_X2_teller_11 {E : JE} {u : JM} {K : Int32 → JM → Prop} {N : Nat} (hN : isNet N) {P : Nat} (hP : isPaths P) {router area to i5 i6 i7 : Int32}
    (h : ((8 ≤ i7 → K i5 u) ∧
 (¬ 8 ≤ i7 → ∀ i8_1 : Int32, i8_1 = (router * 3 + area) * 8 + i7 →
  ((i7 = router → True) ∧ (¬ i7 = router → (vp_in i8_1 192 ∧ (((u (N + 10) i8_1.toNatClampNeg) = 0 → True) ∧ (¬ (u (N + 10) i8_1.toNatClampNeg) = 0 → (vp_in (i8_1 - i8_1 / 8 * 8) 8 ∧ (vp_in (i8_1 * 8 + to) 1536 ∧ ((i6 ≤ (u (P + 1) (i8_1 - i8_1 / 8 * 8).toNatClampNeg + u (N + 14) (i8_1 * 8 + to).toNatClampNeg) → True) ∧ (¬ i6 ≤ (u (P + 1) (i8_1 - i8_1 / 8 * 8).toNatClampNeg + u (N + 14) (i8_1 * 8 + to).toNatClampNeg) → (vp_in (i8_1 - i8_1 / 8 * 8) 8 ∧ (vp_in (i8_1 * 8 + to) 1536 ∧ True))))))))))) ∧
  ∀ i5_2 : Int32, i5_2 = (if i7 = router then i5 else (if (u (N + 10) i8_1.toNatClampNeg) = 0 then i5 else (if i6 ≤ (u (P + 1) (i8_1 - i8_1 / 8 * 8).toNatClampNeg + u (N + 14) (i8_1 * 8 + to).toNatClampNeg) then i5 else i7))) →
  ∀ i6_3 : Int32, i6_3 = (if i7 = router then i6 else (if (u (N + 10) i8_1.toNatClampNeg) = 0 then i6 else (if i6 ≤ (u (P + 1) (i8_1 - i8_1 / 8 * 8).toNatClampNeg + u (N + 14) (i8_1 * 8 + to).toNatClampNeg) then i6 else (u (P + 1) (i8_1 - i8_1 / 8 * 8).toNatClampNeg + u (N + 14) (i8_1 * 8 + to).toNatClampNeg)))) →
  JVi E 2 YX2_teller K 11 [some (.ref N), some (.ref P), some (.int router), some (.int area), some (.int to), some (.int i5_2), some (.int i6_3), some (.int (i7 + 1)), none] [] u)))
    : JVi E 2 YX2_teller K 11 [some (.ref N), some (.ref P), some (.int router), some (.int area), some (.int to), some (.int i5), some (.int i6), some (.int i7), none] [] u := by
  refine jv_iload dX2_teller_11 rfl ?_
  refine jv_bipush dX2_teller_13 ci_bipush_8 ?_
  refine jv_icmp_ge (t := 81) dX2_teller_15 rfl (fun c1 => ?_) (fun c1 => ?_)
  · replace h := h.1 c1
    refine jv_iload dX2_teller_81 rfl ?_
    exact jm_ireturn dX2_teller_83 rfl h
  · replace h := h.2 c1
    refine jv_iload_n dX2_teller_18 rfl ?_
    refine jv_iload_n dX2_teller_19 rfl ?_
    refine jv_iload dX2_teller_20 rfl ?_
    refine jm_callSNi [.int router, .int area, .int i7] cw_2_106 dX2_teller_22 rfl (Nat.le_of_ble_eq_true rfl) (Nat.le_of_ble_eq_true rfl) (p_X7_rowOf  ?_)
    generalize hhi8_1 : (router * 3 + area) * 8 + i7 = i8_1
    replace h := h i8_1 hhi8_1.symm
    refine jv_istore (ls' := [some (.ref N), some (.ref P), some (.int router), some (.int area), some (.int to), some (.int i5), some (.int i6), some (.int i7), some (.int i8_1)]) dX2_teller_25 (Nat.le_of_ble_eq_true rfl) rfl ?_
    refine jv_iload dX2_teller_27 rfl ?_
    refine jv_iload_n dX2_teller_29 rfl ?_
    obtain ⟨hob, h⟩ := h
    have key13 : ∀ i5_2 i6_3 : Int32, i5_2 = (if i7 = router then i5 else (if (u (N + 10) i8_1.toNatClampNeg) = 0 then i5 else (if i6 ≤ (u (P + 1) (i8_1 - i8_1 / 8 * 8).toNatClampNeg + u (N + 14) (i8_1 * 8 + to).toNatClampNeg) then i5 else i7))) → i6_3 = (if i7 = router then i6 else (if (u (N + 10) i8_1.toNatClampNeg) = 0 then i6 else (if i6 ≤ (u (P + 1) (i8_1 - i8_1 / 8 * 8).toNatClampNeg + u (N + 14) (i8_1 * 8 + to).toNatClampNeg) then i6 else (u (P + 1) (i8_1 - i8_1 / 8 * 8).toNatClampNeg + u (N + 14) (i8_1 * 8 + to).toNatClampNeg)))) → JVi E 2 YX2_teller K 75 [some (.ref N), some (.ref P), some (.int router), some (.int area), some (.int to), some (.int i5_2), some (.int i6_3), some (.int i7), some (.int i8_1)] [] u := by
      intro i5_2 i6_3 hi5_2 hi6_3
      replace h := h i5_2 hi5_2 i6_3 hi6_3
      refine jv_iinc (v := i7 + 1) (ls' := [some (.ref N), some (.ref P), some (.int router), some (.int area), some (.int to), some (.int i5_2), some (.int i6_3), some (.int (i7 + 1)), some (.int i8_1)]) dX2_teller_75 (Nat.le_of_ble_eq_true rfl) rfl (by rw [ci_iconst_1]) rfl ?_
      refine jv_goto (t := 11) dX2_teller_78 rfl ?_
      exact jm_sub (ls' := [some (.ref N), some (.ref P), some (.int router), some (.int area), some (.int to), some (.int i5_2), some (.int i6_3), some (.int (i7 + 1)), none]) ⟨rfl, rfl, rfl, rfl, rfl, rfl, rfl, rfl, trivial⟩ h
    clear h
    have h := hob
    refine jv_icmp_eq (t := 75) dX2_teller_30 rfl (fun c14 => ?_) (fun c14 => ?_)
    · replace h := h.1 c14
      exact key13 _ _ (Eq.trans rfl (if_pos c14).symm) (Eq.trans rfl (if_pos c14).symm)
    · replace h := h.2 c14
      refine jv_aload_n dX2_teller_33 rfl ?_
      refine gf_2_23 rfl dX2_teller_34 (kd_N_0 hN) (lt_N hN 0 rfl) (rf_N_0_1 hN) ?_
      refine gf_2_110 rfl dX2_teller_37 (kd_N_9 hN) (lt_N hN 9 rfl) (rf_N_9_0 hN) ?_
      refine jv_iload dX2_teller_40 rfl ?_
      obtain ⟨b8, h⟩ := h
      refine jm_iaload dX2_teller_42 (kd_N_10 hN) (lt_N hN 10 rfl) b8 ?_
      refine jv_if_eq (t := 75) dX2_teller_43 rfl (fun c15 => ?_) (fun c15 => ?_)
      · replace h := h.1 c15
        exact key13 _ _ (Eq.trans (Eq.trans rfl (if_pos c15).symm) (if_neg c14).symm) (Eq.trans (Eq.trans rfl (if_pos c15).symm) (if_neg c14).symm)
      · replace h := h.2 c15
        refine jv_aload_n dX2_teller_46 rfl ?_
        refine jv_aload_n dX2_teller_47 rfl ?_
        refine jv_iload dX2_teller_48 rfl ?_
        refine jv_iload dX2_teller_50 rfl ?_
        obtain ⟨b9, h⟩ := h
        obtain ⟨b10, h⟩ := h
        refine jm_callVi [.ref P, .int i8_1, .int to] cw_2_188 dX2_teller_52 rfl (Nat.le_of_ble_eq_true rfl) (kd_N_0 hN) (r := (RX2, TX2, 13)) rfl rfl (lt_N hN 0 rfl) (Nat.le_of_ble_eq_true rfl) (p_X2_costBy hN hP b9 b10 ?_)
        refine jv_iload dX2_teller_55 rfl ?_
        refine jv_icmp_ge (t := 75) dX2_teller_57 rfl (fun c16 => ?_) (fun c16 => ?_)
        · replace h := h.1 c16
          exact key13 _ _ (Eq.trans (Eq.trans (Eq.trans rfl (if_pos c16).symm) (if_neg c15).symm) (if_neg c14).symm) (Eq.trans (Eq.trans (Eq.trans rfl (if_pos c16).symm) (if_neg c15).symm) (if_neg c14).symm)
        · replace h := h.2 c16
          refine jv_iload dX2_teller_60 rfl ?_
          refine jv_istore (ls' := [some (.ref N), some (.ref P), some (.int router), some (.int area), some (.int to), some (.int i7), some (.int i6), some (.int i7), some (.int i8_1)]) dX2_teller_62 (Nat.le_of_ble_eq_true rfl) rfl ?_
          refine jv_aload_n dX2_teller_64 rfl ?_
          refine jv_aload_n dX2_teller_65 rfl ?_
          refine jv_iload dX2_teller_66 rfl ?_
          refine jv_iload dX2_teller_68 rfl ?_
          obtain ⟨b11, h⟩ := h
          obtain ⟨b12, h⟩ := h
          refine jm_callVi [.ref P, .int i8_1, .int to] cw_2_188 dX2_teller_70 rfl (Nat.le_of_ble_eq_true rfl) (kd_N_0 hN) (r := (RX2, TX2, 13)) rfl rfl (lt_N hN 0 rfl) (Nat.le_of_ble_eq_true rfl) (p_X2_costBy hN hP b11 b12 ?_)
          refine jv_istore (ls' := [some (.ref N), some (.ref P), some (.int router), some (.int area), some (.int to), some (.int i7), some (.int (u (P + 1) (i8_1 - i8_1 / 8 * 8).toNatClampNeg + u (N + 14) (i8_1 * 8 + to).toNatClampNeg)), some (.int i7), some (.int i8_1)]) dX2_teller_73 (Nat.le_of_ble_eq_true rfl) rfl ?_
          exact key13 _ _ (Eq.trans (Eq.trans (Eq.trans rfl (if_neg c16).symm) (if_neg c15).symm) (if_neg c14).symm) (Eq.trans (Eq.trans (Eq.trans rfl (if_neg c16).symm) (if_neg c15).symm) (if_neg c14).symm)
theorem g_X2_sendOn_0 {E : JE} {u : JM} {K : JM → Prop} {N : Nat} (hN : isNet N)
    (h : JVu E 3 YX2_sendOn K 2 [some (.ref N), some (.int 0)] [] u)
    : JVu E 3 YX2_sendOn K 0 [some (.ref N), none] [] u := by
  refine jv_iconst dX2_sendOn_0 ci_iconst_0 ?_
  refine jv_istore_n (ls' := [some (.ref N), some (.int 0)]) dX2_sendOn_1 (Nat.le_of_ble_eq_true rfl) rfl ?_
  exact h
theorem g_X2_sendOn_2 {E : JE} {u : JM} {K : JM → Prop} {N : Nat} (hN : isNet N) {i1 : Int32}
    (h : ((192 ≤ i1 → ∀ u1, u1 = jw u N 8 ((u N 8) + (u N 6)) →
  K u1) ∧
 (¬ 192 ≤ i1 → vp_in i1 192 ∧
  (((u (N + 24) i1.toNatClampNeg) = 0 → JVu E 3 YX2_sendOn K 2 [some (.ref N), some (.int (i1 + 1))] [] u) ∧
  (¬ (u (N + 24) i1.toNatClampNeg) = 0 → ∀ u2, u2 = jw u (N + 24) i1.toNatClampNeg 0 →
   JCu E 2 YX2_sendRow [.ref N, .int i1] (fun u3 =>
   JVu E 3 YX2_sendOn K 2 [some (.ref N), some (.int (i1 + 1))] [] u3) u2)))))
    : JVu E 3 YX2_sendOn K 2 [some (.ref N), some (.int i1)] [] u := by
  refine jv_iload_n dX2_sendOn_2 rfl ?_
  refine jv_sipush dX2_sendOn_3 ci_sipush_192 ?_
  refine jv_icmp_ge (t := 36) dX2_sendOn_6 rfl (fun c1 => ?_) (fun c1 => ?_)
  · replace h := h.1 c1
    refine jv_aload_n dX2_sendOn_36 rfl ?_
    refine jv_dup dX2_sendOn_37 rfl ?_
    refine gf_2_78 rfl dX2_sendOn_38 (kd_N_0 hN) (lt_N hN 0 rfl) ?_
    refine jv_aload_n dX2_sendOn_41 rfl ?_
    refine gf_2_65 rfl dX2_sendOn_42 (kd_N_0 hN) (lt_N hN 0 rfl) ?_
    refine jv_iadd dX2_sendOn_45 ?_
    refine pf_2_78 rfl dX2_sendOn_46 (kd_N_0 hN) (lt_N hN 0 rfl) ?_
    generalize hhu1 : jw u N 8 ((u N 8) + (u N 6)) = u1
    replace h := h u1 hhu1.symm
    exact jm_return dX2_sendOn_49 rfl h
  · replace h := h.2 c1
    refine jv_aload_n dX2_sendOn_9 rfl ?_
    refine gf_2_40 rfl dX2_sendOn_10 (kd_N_0 hN) (lt_N hN 0 rfl) (rf_N_0_9 hN) ?_
    refine jv_iload_n dX2_sendOn_13 rfl ?_
    obtain ⟨b3, h⟩ := h
    refine jm_baload dX2_sendOn_14 (kd_N_24 hN) (lt_N hN 24 rfl) b3 ?_
    refine jv_if_eq (t := 30) dX2_sendOn_15 rfl (fun c4 => ?_) (fun c4 => ?_)
    · replace h := h.1 c4
      refine jv_iinc (v := i1 + 1) (ls' := [some (.ref N), some (.int (i1 + 1))]) dX2_sendOn_30 (Nat.le_of_ble_eq_true rfl) rfl (by rw [ci_iconst_1]) rfl ?_
      refine jv_goto (t := 2) dX2_sendOn_33 rfl ?_
      exact h
    · replace h := h.2 c4
      refine jv_aload_n dX2_sendOn_18 rfl ?_
      refine gf_2_40 rfl dX2_sendOn_19 (kd_N_0 hN) (lt_N hN 0 rfl) (rf_N_0_9 hN) ?_
      refine jv_iload_n dX2_sendOn_22 rfl ?_
      refine jv_iconst dX2_sendOn_23 ci_iconst_0 ?_
      refine jm_bastore dX2_sendOn_24 (kd_N_24 hN) (lt_N hN 24 rfl) b3 (Or.inl rfl) ?_
      generalize hhu2 : jw u (N + 24) i1.toNatClampNeg 0 = u2
      replace h := h u2 hhu2.symm
      refine jv_aload_n dX2_sendOn_25 rfl ?_
      refine jv_iload_n dX2_sendOn_26 rfl ?_
      refine jm_callVu [.int i1] cw_2_196 dX2_sendOn_27 rfl (Nat.le_of_ble_eq_true rfl) (kd_N_0 hN) (r := (RX2, TX2, 13)) rfl rfl (lt_N hN 0 rfl) (Nat.le_of_ble_eq_true rfl) (JCu.mono h (fun u3 h => ?_))
      refine jv_iinc (v := i1 + 1) (ls' := [some (.ref N), some (.int (i1 + 1))]) dX2_sendOn_30 (Nat.le_of_ble_eq_true rfl) rfl (by rw [ci_iconst_1]) rfl ?_
      refine jv_goto (t := 2) dX2_sendOn_33 rfl ?_
      exact h
theorem g_X2_sendRow_0 {E : JE} {u : JM} {K : JM → Prop} {N : Nat} (hN : isNet N) {a1 : Int32}
    (h : ∀ i3_1 : Int32, i3_1 = (a1 / 8) - (a1 / 8) / 3 * 3 →
 JVu E 2 YX2_sendRow K 15 [some (.ref N), some (.int a1), some (.int (a1 / 24)), some (.int i3_1), some (.int 0), none] [] u)
    : JVu E 2 YX2_sendRow K 0 [some (.ref N), some (.int a1), none, none, none, none] [] u := by
  refine jv_iload_n dX2_sendRow_0 rfl ?_
  refine jv_bipush dX2_sendRow_1 ci_bipush_24 ?_
  refine jv_idiv dX2_sendRow_3 (by decide) ?_
  refine jv_istore_n (ls' := [some (.ref N), some (.int a1), some (.int (a1 / 24)), none, none, none]) dX2_sendRow_4 (Nat.le_of_ble_eq_true rfl) rfl ?_
  refine jv_iload_n dX2_sendRow_5 rfl ?_
  refine jv_bipush dX2_sendRow_6 ci_bipush_8 ?_
  refine jv_idiv dX2_sendRow_8 (by decide) ?_
  refine jv_iconst dX2_sendRow_9 ci_iconst_3 ?_
  refine jv_irem dX2_sendRow_10 (by decide) ?_
  generalize hhi3_1 : (a1 / 8) - (a1 / 8) / 3 * 3 = i3_1
  replace h := h i3_1 hhi3_1.symm
  refine jv_istore_n (ls' := [some (.ref N), some (.int a1), some (.int (a1 / 24)), some (.int i3_1), none, none]) dX2_sendRow_11 (Nat.le_of_ble_eq_true rfl) rfl ?_
  refine jv_iconst dX2_sendRow_12 ci_iconst_0 ?_
  refine jv_istore (ls' := [some (.ref N), some (.int a1), some (.int (a1 / 24)), some (.int i3_1), some (.int 0), none]) dX2_sendRow_13 (Nat.le_of_ble_eq_true rfl) rfl ?_
  exact h
theorem g_X2_sendRow_15 {E : JE} {u : JM} {K : JM → Prop} {N : Nat} (hN : isNet N) {a1 i2 i3 i4 : Int32}
    (h : (((u (N + 1) 0) ≤ i4 → K u) ∧
 (¬ (u (N + 1) 0) ≤ i4 → vp_in i4 12 ∧
  ∀ v_1 : Int32, v_1 = (if (u (N + 4) i4.toNatClampNeg) = i3 then (if (jb (¬ u (N + 7) i4.toNatClampNeg = 0 ∧ (u (N + 2) i4.toNatClampNeg = i2 ∨ u (N + 3) i4.toNatClampNeg = i2))) = 0 then 0 else 1) else 0) →
  ((v_1 = 0 → JVu E 2 YX2_sendRow K 15 [some (.ref N), some (.int a1), some (.int i2), some (.int i3), some (.int (i4 + 1)), none] [] u) ∧
  (¬ v_1 = 0 → vp_in a1 192 ∧
   ((¬ (((u (N + 25) a1.toNatClampNeg) >>> (i4 &&& 31)) &&& 1) = 0 → JVu E 2 YX2_sendRow K 15 [some (.ref N), some (.int a1), some (.int i2), some (.int i3), some (.int (i4 + 1)), none] [] u) ∧
   ((((u (N + 25) a1.toNatClampNeg) >>> (i4 &&& 31)) &&& 1) = 0 → ((192 ≤ (u N 6) → JVu E 2 YX2_sendRow K 15 [some (.ref N), some (.int a1), some (.int i2), some (.int i3), some (.int (i4 + 1)), none] [] u) ∧
    (¬ 192 ≤ (u N 6) → JCu E 1 YX0_takeRow [.ref (N + 15), .int (u N 6), .ref (N + 9), .int a1] (fun u2 =>
     vp_in (u2 N 6) 192 ∧
      ∀ u3, u3 = jw u2 (N + 21) (u2 N 6).toNatClampNeg i4 →
      vp_in (u3 N 6) 192 ∧
      ∀ u4, u4 = jw u3 (N + 22) (u3 N 6).toNatClampNeg (if u3 (N + 2) i4.toNatClampNeg = i2 then u3 (N + 3) i4.toNatClampNeg else u3 (N + 2) i4.toNatClampNeg) →
      vp_in (u4 N 6) 192 ∧
      ∀ u5, u5 = jw u4 (N + 23) (u4 N 6).toNatClampNeg (a1 - a1 / 8 * 8) →
      ∀ u6, u6 = jw u5 N 6 ((u5 N 6) + 1) →
      JVu E 2 YX2_sendRow K 15 [some (.ref N), some (.int a1), some (.int i2), some (.int i3), some (.int (i4 + 1)), none] [] u6) u)))))))))
    : JVu E 2 YX2_sendRow K 15 [some (.ref N), some (.int a1), some (.int i2), some (.int i3), some (.int i4), none] [] u := by
  refine jv_iload dX2_sendRow_15 rfl ?_
  refine jv_aload_n dX2_sendRow_17 rfl ?_
  refine gf_2_12 rfl dX2_sendRow_18 (kd_N_0 hN) (lt_N hN 0 rfl) (rf_N_0_0 hN) ?_
  refine gf_2_143 rfl dX2_sendRow_21 (kd_N_1 hN) (lt_N hN 1 rfl) ?_
  refine jv_icmp_ge (t := 165) dX2_sendRow_24 rfl (fun c1 => ?_) (fun c1 => ?_)
  · replace h := h.1 c1
    exact jm_return dX2_sendRow_165 rfl h
  · replace h := h.2 c1
    refine jv_aload_n dX2_sendRow_27 rfl ?_
    refine gf_2_12 rfl dX2_sendRow_28 (kd_N_0 hN) (lt_N hN 0 rfl) (rf_N_0_0 hN) ?_
    refine gf_2_103 rfl dX2_sendRow_31 (kd_N_1 hN) (lt_N hN 1 rfl) (rf_N_1_3 hN) ?_
    refine jv_iload dX2_sendRow_34 rfl ?_
    obtain ⟨b5, h⟩ := h
    refine jm_iaload dX2_sendRow_36 (kd_N_4 hN) (lt_N hN 4 rfl) b5 ?_
    refine jv_iload_n dX2_sendRow_37 rfl ?_
    have key15 : ∀ v_1 : Int32, v_1 = (if (u (N + 4) i4.toNatClampNeg) = i3 then (if (jb (¬ u (N + 7) i4.toNatClampNeg = 0 ∧ (u (N + 2) i4.toNatClampNeg = i2 ∨ u (N + 3) i4.toNatClampNeg = i2))) = 0 then 0 else 1) else 0) → JVu E 2 YX2_sendRow K 59 [some (.ref N), some (.int a1), some (.int i2), some (.int i3), some (.int i4), none] [.int v_1] u := by
      intro v_1 hv_1
      replace h := h v_1 hv_1
      refine jv_istore (ls' := [some (.ref N), some (.int a1), some (.int i2), some (.int i3), some (.int i4), some (.int v_1)]) dX2_sendRow_59 (Nat.le_of_ble_eq_true rfl) rfl ?_
      refine jv_iload dX2_sendRow_61 rfl ?_
      refine jv_if_eq (t := 159) dX2_sendRow_63 rfl (fun c7 => ?_) (fun c7 => ?_)
      · replace h := h.1 c7
        refine jv_iinc (v := i4 + 1) (ls' := [some (.ref N), some (.int a1), some (.int i2), some (.int i3), some (.int (i4 + 1)), some (.int v_1)]) dX2_sendRow_159 (Nat.le_of_ble_eq_true rfl) rfl (by rw [ci_iconst_1]) rfl ?_
        refine jv_goto (t := 15) dX2_sendRow_162 rfl ?_
        exact jm_sub (ls' := [some (.ref N), some (.int a1), some (.int i2), some (.int i3), some (.int (i4 + 1)), none]) ⟨rfl, rfl, rfl, rfl, rfl, trivial⟩ h
      · replace h := h.2 c7
        refine jv_aload_n dX2_sendRow_66 rfl ?_
        refine gf_2_44 rfl dX2_sendRow_67 (kd_N_0 hN) (lt_N hN 0 rfl) (rf_N_0_10 hN) ?_
        refine jv_iload_n dX2_sendRow_70 rfl ?_
        obtain ⟨b9, h⟩ := h
        refine jm_iaload dX2_sendRow_71 (kd_N_25 hN) (lt_N hN 25 rfl) b9 ?_
        refine jv_iload dX2_sendRow_72 rfl ?_
        refine jv_ishr dX2_sendRow_74 ?_
        refine jv_iconst dX2_sendRow_75 ci_iconst_1 ?_
        refine jv_iand dX2_sendRow_76 ?_
        refine jv_if_ne (t := 159) dX2_sendRow_77 rfl (fun c10 => ?_) (fun c10 => ?_)
        · replace h := h.1 c10
          refine jv_iinc (v := i4 + 1) (ls' := [some (.ref N), some (.int a1), some (.int i2), some (.int i3), some (.int (i4 + 1)), some (.int v_1)]) dX2_sendRow_159 (Nat.le_of_ble_eq_true rfl) rfl (by rw [ci_iconst_1]) rfl ?_
          refine jv_goto (t := 15) dX2_sendRow_162 rfl ?_
          exact jm_sub (ls' := [some (.ref N), some (.int a1), some (.int i2), some (.int i3), some (.int (i4 + 1)), none]) ⟨rfl, rfl, rfl, rfl, rfl, trivial⟩ h
        · replace h := h.2 c10
          refine jv_aload_n dX2_sendRow_80 rfl ?_
          refine gf_2_65 rfl dX2_sendRow_81 (kd_N_0 hN) (lt_N hN 0 rfl) ?_
          refine jv_sipush dX2_sendRow_84 ci_sipush_192 ?_
          refine jv_icmp_ge (t := 159) dX2_sendRow_87 rfl (fun c11 => ?_) (fun c11 => ?_)
          · replace h := h.1 c11
            refine jv_iinc (v := i4 + 1) (ls' := [some (.ref N), some (.int a1), some (.int i2), some (.int i3), some (.int (i4 + 1)), some (.int v_1)]) dX2_sendRow_159 (Nat.le_of_ble_eq_true rfl) rfl (by rw [ci_iconst_1]) rfl ?_
            refine jv_goto (t := 15) dX2_sendRow_162 rfl ?_
            exact jm_sub (ls' := [some (.ref N), some (.int a1), some (.int i2), some (.int i3), some (.int (i4 + 1)), none]) ⟨rfl, rfl, rfl, rfl, rfl, trivial⟩ h
          · replace h := h.2 c11
            refine jv_aload_n dX2_sendRow_90 rfl ?_
            refine gf_2_27 rfl dX2_sendRow_91 (kd_N_0 hN) (lt_N hN 0 rfl) (rf_N_0_2 hN) ?_
            refine jv_aload_n dX2_sendRow_94 rfl ?_
            refine gf_2_65 rfl dX2_sendRow_95 (kd_N_0 hN) (lt_N hN 0 rfl) ?_
            refine jv_aload_n dX2_sendRow_98 rfl ?_
            refine gf_2_23 rfl dX2_sendRow_99 (kd_N_0 hN) (lt_N hN 0 rfl) (rf_N_0_1 hN) ?_
            refine jv_iload_n dX2_sendRow_102 rfl ?_
            refine jm_callVu [.int (u N 6), .ref (N + 9), .int a1] cw_2_113 dX2_sendRow_103 rfl (Nat.le_of_ble_eq_true rfl) (kd_N_15 hN) (r := (RX0, TX0, 5)) rfl rfl (lt_N hN 15 rfl) (Nat.le_of_ble_eq_true rfl) (JCu.mono h (fun u2 h => ?_))
            refine jv_aload_n dX2_sendRow_106 rfl ?_
            refine gf_2_30 rfl dX2_sendRow_107 (kd_N_0 hN) (lt_N hN 0 rfl) (rf_N_0_3 hN) ?_
            refine jv_aload_n dX2_sendRow_110 rfl ?_
            refine gf_2_65 rfl dX2_sendRow_111 (kd_N_0 hN) (lt_N hN 0 rfl) ?_
            refine jv_iload dX2_sendRow_114 rfl ?_
            obtain ⟨b12, h⟩ := h
            refine jm_iastore dX2_sendRow_116 (kd_N_21 hN) (lt_N hN 21 rfl) b12 ?_
            generalize hhu3 : jw u2 (N + 21) (u2 N 6).toNatClampNeg i4 = u3
            replace h := h u3 hhu3.symm
            refine jv_aload_n dX2_sendRow_117 rfl ?_
            refine gf_2_34 rfl dX2_sendRow_118 (kd_N_0 hN) (lt_N hN 0 rfl) (rf_N_0_4 hN) ?_
            refine jv_aload_n dX2_sendRow_121 rfl ?_
            refine gf_2_65 rfl dX2_sendRow_122 (kd_N_0 hN) (lt_N hN 0 rfl) ?_
            refine jv_aload_n dX2_sendRow_125 rfl ?_
            refine gf_2_12 rfl dX2_sendRow_126 (kd_N_0 hN) (lt_N hN 0 rfl) (rf_N_0_0 hN) ?_
            refine jv_iload dX2_sendRow_129 rfl ?_
            refine jv_iload_n dX2_sendRow_131 rfl ?_
            refine jm_callVi [.int i4, .int i2] cw_2_199 dX2_sendRow_132 rfl (Nat.le_of_ble_eq_true rfl) (kd_N_1 hN) (r := (RX1, TX1, 8)) rfl rfl (lt_N hN 1 rfl) (Nat.le_of_ble_eq_true rfl) (p_X1_otherEnd hN b5 ?_)
            obtain ⟨b13, h⟩ := h
            refine jm_iastore dX2_sendRow_135 (kd_N_22 hN) (lt_N hN 22 rfl) b13 ?_
            generalize hhu4 : jw u3 (N + 22) (u3 N 6).toNatClampNeg (if u3 (N + 2) i4.toNatClampNeg = i2 then u3 (N + 3) i4.toNatClampNeg else u3 (N + 2) i4.toNatClampNeg) = u4
            replace h := h u4 hhu4.symm
            refine jv_aload_n dX2_sendRow_136 rfl ?_
            refine gf_2_37 rfl dX2_sendRow_137 (kd_N_0 hN) (lt_N hN 0 rfl) (rf_N_0_5 hN) ?_
            refine jv_aload_n dX2_sendRow_140 rfl ?_
            refine gf_2_65 rfl dX2_sendRow_141 (kd_N_0 hN) (lt_N hN 0 rfl) ?_
            refine jv_iload_n dX2_sendRow_144 rfl ?_
            refine jv_bipush dX2_sendRow_145 ci_bipush_8 ?_
            refine jv_irem dX2_sendRow_147 (by decide) ?_
            obtain ⟨b14, h⟩ := h
            refine jm_iastore dX2_sendRow_148 (kd_N_23 hN) (lt_N hN 23 rfl) b14 ?_
            generalize hhu5 : jw u4 (N + 23) (u4 N 6).toNatClampNeg (a1 - a1 / 8 * 8) = u5
            replace h := h u5 hhu5.symm
            refine jv_aload_n dX2_sendRow_149 rfl ?_
            refine jv_dup dX2_sendRow_150 rfl ?_
            refine gf_2_65 rfl dX2_sendRow_151 (kd_N_0 hN) (lt_N hN 0 rfl) ?_
            refine jv_iconst dX2_sendRow_154 ci_iconst_1 ?_
            refine jv_iadd dX2_sendRow_155 ?_
            refine pf_2_65 rfl dX2_sendRow_156 (kd_N_0 hN) (lt_N hN 0 rfl) ?_
            generalize hhu6 : jw u5 N 6 ((u5 N 6) + 1) = u6
            replace h := h u6 hhu6.symm
            refine jv_iinc (v := i4 + 1) (ls' := [some (.ref N), some (.int a1), some (.int i2), some (.int i3), some (.int (i4 + 1)), some (.int v_1)]) dX2_sendRow_159 (Nat.le_of_ble_eq_true rfl) rfl (by rw [ci_iconst_1]) rfl ?_
            refine jv_goto (t := 15) dX2_sendRow_162 rfl ?_
            exact jm_sub (ls' := [some (.ref N), some (.int a1), some (.int i2), some (.int i3), some (.int (i4 + 1)), none]) ⟨rfl, rfl, rfl, rfl, rfl, trivial⟩ h
    clear h
    refine jv_icmp_ne (t := 58) dX2_sendRow_38 rfl (fun c16 => ?_) (fun c16 => ?_)
    · refine jv_iconst dX2_sendRow_58 ci_iconst_0 ?_
      exact key15 _ (Eq.trans rfl (if_neg c16).symm)
    · refine jv_aload_n dX2_sendRow_41 rfl ?_
      refine gf_2_12 rfl dX2_sendRow_42 (kd_N_0 hN) (lt_N hN 0 rfl) (rf_N_0_0 hN) ?_
      refine jv_iload dX2_sendRow_45 rfl ?_
      refine jv_iload_n dX2_sendRow_47 rfl ?_
      refine jm_callVi [.int i4, .int i2] cw_2_146 dX2_sendRow_48 rfl (Nat.le_of_ble_eq_true rfl) (kd_N_1 hN) (r := (RX1, TX1, 8)) rfl rfl (lt_N hN 1 rfl) (Nat.le_of_ble_eq_true rfl) (p_X1_isUpAt hN b5 ?_)
      refine jv_if_eq (t := 58) dX2_sendRow_51 rfl (fun c17 => ?_) (fun c17 => ?_)
      · refine jv_iconst dX2_sendRow_58 ci_iconst_0 ?_
        exact key15 _ (Eq.trans (Eq.trans rfl (if_pos c17).symm) (if_pos c16).symm)
      · refine jv_iconst dX2_sendRow_54 ci_iconst_1 ?_
        refine jv_goto (t := 59) dX2_sendRow_55 rfl ?_
        exact key15 _ (Eq.trans (Eq.trans rfl (if_neg c17).symm) (if_pos c16).symm)
theorem g_X2_knownTo_0 {E : JE} {u : JM} {K : Int32 → JM → Prop} {N : Nat} (hN : isNet N) {a1 : Int32}
    (h : ∀ i3_1 : Int32, i3_1 = (a1 * 3 + 0) * 8 + 0 →
 JVi E 2 YX2_knownTo K 9 [some (.ref N), some (.int a1), some (.int 0), some (.int i3_1)] [] u)
    : JVi E 2 YX2_knownTo K 0 [some (.ref N), some (.int a1), none, none] [] u := by
  refine jv_iconst dX2_knownTo_0 ci_iconst_0 ?_
  refine jv_istore_n (ls' := [some (.ref N), some (.int a1), some (.int 0), none]) dX2_knownTo_1 (Nat.le_of_ble_eq_true rfl) rfl ?_
  refine jv_iload_n dX2_knownTo_2 rfl ?_
  refine jv_iconst dX2_knownTo_3 ci_iconst_0 ?_
  refine jv_iconst dX2_knownTo_4 ci_iconst_0 ?_
  refine jm_callSNi [.int a1, .int 0, .int 0] cw_2_106 dX2_knownTo_5 rfl (Nat.le_of_ble_eq_true rfl) (Nat.le_of_ble_eq_true rfl) (p_X7_rowOf  ?_)
  generalize hhi3_1 : (a1 * 3 + 0) * 8 + 0 = i3_1
  replace h := h i3_1 hhi3_1.symm
  refine jv_istore_n (ls' := [some (.ref N), some (.int a1), some (.int 0), some (.int i3_1)]) dX2_knownTo_8 (Nat.le_of_ble_eq_true rfl) rfl ?_
  exact h
theorem g_X2_knownTo_9 {E : JE} {u : JM} {K : Int32 → JM → Prop} {N : Nat} (hN : isNet N) {a1 i2 i3 : Int32}
    (h : (((((a1 + 1) * 3 + 0) * 8 + 0) ≤ i3 → K i2 u) ∧
 (¬ (((a1 + 1) * 3 + 0) * 8 + 0) ≤ i3 → vp_in i3 192 ∧
  ∀ v_1 : Int32, v_1 = (if (u (N + 10) i3.toNatClampNeg) = 0 then 0 else 1) →
  JVi E 2 YX2_knownTo K 9 [some (.ref N), some (.int a1), some (.int (i2 + v_1)), some (.int (i3 + 1))] [] u)))
    : JVi E 2 YX2_knownTo K 9 [some (.ref N), some (.int a1), some (.int i2), some (.int i3)] [] u := by
  refine jv_iload_n dX2_knownTo_9 rfl ?_
  refine jv_iload_n dX2_knownTo_10 rfl ?_
  refine jv_iconst dX2_knownTo_11 ci_iconst_1 ?_
  refine jv_iadd dX2_knownTo_12 ?_
  refine jv_iconst dX2_knownTo_13 ci_iconst_0 ?_
  refine jv_iconst dX2_knownTo_14 ci_iconst_0 ?_
  refine jm_callSNi [.int (a1 + 1), .int 0, .int 0] cw_2_106 dX2_knownTo_15 rfl (Nat.le_of_ble_eq_true rfl) (Nat.le_of_ble_eq_true rfl) (p_X7_rowOf  ?_)
  refine jv_icmp_ge (t := 47) dX2_knownTo_18 rfl (fun c1 => ?_) (fun c1 => ?_)
  · replace h := h.1 c1
    refine jv_iload_n dX2_knownTo_47 rfl ?_
    exact jm_ireturn dX2_knownTo_48 rfl h
  · replace h := h.2 c1
    refine jv_iload_n dX2_knownTo_21 rfl ?_
    refine jv_aload_n dX2_knownTo_22 rfl ?_
    refine gf_2_23 rfl dX2_knownTo_23 (kd_N_0 hN) (lt_N hN 0 rfl) (rf_N_0_1 hN) ?_
    refine gf_2_110 rfl dX2_knownTo_26 (kd_N_9 hN) (lt_N hN 9 rfl) (rf_N_9_0 hN) ?_
    refine jv_iload_n dX2_knownTo_29 rfl ?_
    obtain ⟨b3, h⟩ := h
    refine jm_iaload dX2_knownTo_30 (kd_N_10 hN) (lt_N hN 10 rfl) b3 ?_
    have key5 : ∀ v_1 : Int32, v_1 = (if (u (N + 10) i3.toNatClampNeg) = 0 then 0 else 1) → JVi E 2 YX2_knownTo K 39 [some (.ref N), some (.int a1), some (.int i2), some (.int i3)] [.int v_1, .int i2] u := by
      intro v_1 hv_1
      replace h := h v_1 hv_1
      refine jv_iadd dX2_knownTo_39 ?_
      refine jv_istore_n (ls' := [some (.ref N), some (.int a1), some (.int (i2 + v_1)), some (.int i3)]) dX2_knownTo_40 (Nat.le_of_ble_eq_true rfl) rfl ?_
      refine jv_iinc (v := i3 + 1) (ls' := [some (.ref N), some (.int a1), some (.int (i2 + v_1)), some (.int (i3 + 1))]) dX2_knownTo_41 (Nat.le_of_ble_eq_true rfl) rfl (by rw [ci_iconst_1]) rfl ?_
      refine jv_goto (t := 9) dX2_knownTo_44 rfl ?_
      exact h
    clear h
    refine jv_if_eq (t := 38) dX2_knownTo_31 rfl (fun c6 => ?_) (fun c6 => ?_)
    · refine jv_iconst dX2_knownTo_38 ci_iconst_0 ?_
      exact key5 _ (Eq.trans rfl (if_pos c6).symm)
    · refine jv_iconst dX2_knownTo_34 ci_iconst_1 ?_
      refine jv_goto (t := 39) dX2_knownTo_35 rfl ?_
      exact key5 _ (Eq.trans rfl (if_neg c6).symm)
theorem g_X2_knownToAll_0 {E : JE} {u : JM} {K : Int32 → JM → Prop} {N : Nat} (hN : isNet N)
    (h : JVi E 3 YX2_knownToAll K 4 [some (.ref N), some (.int 0), some (.int 0)] [] u)
    : JVi E 3 YX2_knownToAll K 0 [some (.ref N), none, none] [] u := by
  refine jv_iconst dX2_knownToAll_0 ci_iconst_0 ?_
  refine jv_istore_n (ls' := [some (.ref N), some (.int 0), none]) dX2_knownToAll_1 (Nat.le_of_ble_eq_true rfl) rfl ?_
  refine jv_iconst dX2_knownToAll_2 ci_iconst_0 ?_
  refine jv_istore_n (ls' := [some (.ref N), some (.int 0), some (.int 0)]) dX2_knownToAll_3 (Nat.le_of_ble_eq_true rfl) rfl ?_
  exact h
theorem g_X2_knownToAll_4 {E : JE} {u : JM} {K : Int32 → JM → Prop} {N : Nat} (hN : isNet N) {i1 i2 : Int32}
    (h : ((8 ≤ i2 → K i1 u) ∧
 (¬ 8 ≤ i2 → JCi E 2 YX2_knownTo [.ref N, .int i2] (fun x1 u1 =>
  JVi E 3 YX2_knownToAll K 4 [some (.ref N), some (.int (i1 + x1)), some (.int (i2 + 1))] [] u1) u)))
    : JVi E 3 YX2_knownToAll K 4 [some (.ref N), some (.int i1), some (.int i2)] [] u := by
  refine jv_iload_n dX2_knownToAll_4 rfl ?_
  refine jv_bipush dX2_knownToAll_5 ci_bipush_8 ?_
  refine jv_icmp_ge (t := 24) dX2_knownToAll_7 rfl (fun c1 => ?_) (fun c1 => ?_)
  · replace h := h.1 c1
    refine jv_iload_n dX2_knownToAll_24 rfl ?_
    exact jm_ireturn dX2_knownToAll_25 rfl h
  · replace h := h.2 c1
    refine jv_iload_n dX2_knownToAll_10 rfl ?_
    refine jv_aload_n dX2_knownToAll_11 rfl ?_
    refine jv_iload_n dX2_knownToAll_12 rfl ?_
    refine jm_callVi [.int i2] cw_2_202 dX2_knownToAll_13 rfl (Nat.le_of_ble_eq_true rfl) (kd_N_0 hN) (r := (RX2, TX2, 13)) rfl rfl (lt_N hN 0 rfl) (Nat.le_of_ble_eq_true rfl) (JCi.mono h (fun x1 u1 h => ?_))
    refine jv_iadd dX2_knownToAll_16 ?_
    refine jv_istore_n (ls' := [some (.ref N), some (.int (i1 + x1)), some (.int i2)]) dX2_knownToAll_17 (Nat.le_of_ble_eq_true rfl) rfl ?_
    refine jv_iinc (v := i2 + 1) (ls' := [some (.ref N), some (.int (i1 + x1)), some (.int (i2 + 1))]) dX2_knownToAll_18 (Nat.le_of_ble_eq_true rfl) rfl (by rw [ci_iconst_1]) rfl ?_
    refine jv_goto (t := 4) dX2_knownToAll_21 rfl ?_
    exact h
theorem g_X2_staleTo_0 {E : JE} {u : JM} {K : Int32 → JM → Prop} {N : Nat} (hN : isNet N) {a1 : Int32}
    (h : ∀ i3_1 : Int32, i3_1 = (a1 * 3 + 0) * 8 + 0 →
 JVi E 3 YX2_staleTo K 9 [some (.ref N), some (.int a1), some (.int 0), some (.int i3_1)] [] u)
    : JVi E 3 YX2_staleTo K 0 [some (.ref N), some (.int a1), none, none] [] u := by
  refine jv_iconst dX2_staleTo_0 ci_iconst_0 ?_
  refine jv_istore_n (ls' := [some (.ref N), some (.int a1), some (.int 0), none]) dX2_staleTo_1 (Nat.le_of_ble_eq_true rfl) rfl ?_
  refine jv_iload_n dX2_staleTo_2 rfl ?_
  refine jv_iconst dX2_staleTo_3 ci_iconst_0 ?_
  refine jv_iconst dX2_staleTo_4 ci_iconst_0 ?_
  refine jm_callSNi [.int a1, .int 0, .int 0] cw_2_106 dX2_staleTo_5 rfl (Nat.le_of_ble_eq_true rfl) (Nat.le_of_ble_eq_true rfl) (p_X7_rowOf  ?_)
  generalize hhi3_1 : (a1 * 3 + 0) * 8 + 0 = i3_1
  replace h := h i3_1 hhi3_1.symm
  refine jv_istore_n (ls' := [some (.ref N), some (.int a1), some (.int 0), some (.int i3_1)]) dX2_staleTo_8 (Nat.le_of_ble_eq_true rfl) rfl ?_
  exact h
theorem g_X2_staleTo_9 {E : JE} {u : JM} {K : Int32 → JM → Prop} {N : Nat} (hN : isNet N) {a1 i2 i3 : Int32}
    (h : (((((a1 + 1) * 3 + 0) * 8 + 0) ≤ i3 → K i2 u) ∧
 (¬ (((a1 + 1) * 3 + 0) * 8 + 0) ≤ i3 → vp_in i3 192 ∧
  (((u (N + 10) i3.toNatClampNeg) = 0 → JVi E 3 YX2_staleTo K 9 [some (.ref N), some (.int a1), some (.int (i2 + 0)), some (.int (i3 + 1))] [] u) ∧
  (¬ (u (N + 10) i3.toNatClampNeg) = 0 → JCi E 2 YX2_isStale [.ref N, .int i3] (fun x1 u1 =>
   ∀ v_2 : Int32, v_2 = (if x1 = 0 then 0 else 1) →
    JVi E 3 YX2_staleTo K 9 [some (.ref N), some (.int a1), some (.int (i2 + v_2)), some (.int (i3 + 1))] [] u1) u)))))
    : JVi E 3 YX2_staleTo K 9 [some (.ref N), some (.int a1), some (.int i2), some (.int i3)] [] u := by
  refine jv_iload_n dX2_staleTo_9 rfl ?_
  refine jv_iload_n dX2_staleTo_10 rfl ?_
  refine jv_iconst dX2_staleTo_11 ci_iconst_1 ?_
  refine jv_iadd dX2_staleTo_12 ?_
  refine jv_iconst dX2_staleTo_13 ci_iconst_0 ?_
  refine jv_iconst dX2_staleTo_14 ci_iconst_0 ?_
  refine jm_callSNi [.int (a1 + 1), .int 0, .int 0] cw_2_106 dX2_staleTo_15 rfl (Nat.le_of_ble_eq_true rfl) (Nat.le_of_ble_eq_true rfl) (p_X7_rowOf  ?_)
  refine jv_icmp_ge (t := 55) dX2_staleTo_18 rfl (fun c1 => ?_) (fun c1 => ?_)
  · replace h := h.1 c1
    refine jv_iload_n dX2_staleTo_55 rfl ?_
    exact jm_ireturn dX2_staleTo_56 rfl h
  · replace h := h.2 c1
    refine jv_iload_n dX2_staleTo_21 rfl ?_
    refine jv_aload_n dX2_staleTo_22 rfl ?_
    refine gf_2_23 rfl dX2_staleTo_23 (kd_N_0 hN) (lt_N hN 0 rfl) (rf_N_0_1 hN) ?_
    refine gf_2_110 rfl dX2_staleTo_26 (kd_N_9 hN) (lt_N hN 9 rfl) (rf_N_9_0 hN) ?_
    refine jv_iload_n dX2_staleTo_29 rfl ?_
    obtain ⟨b3, h⟩ := h
    refine jm_iaload dX2_staleTo_30 (kd_N_10 hN) (lt_N hN 10 rfl) b3 ?_
    refine jv_if_eq (t := 46) dX2_staleTo_31 rfl (fun c4 => ?_) (fun c4 => ?_)
    · replace h := h.1 c4
      refine jv_iconst dX2_staleTo_46 ci_iconst_0 ?_
      refine jv_iadd dX2_staleTo_47 ?_
      refine jv_istore_n (ls' := [some (.ref N), some (.int a1), some (.int (i2 + 0)), some (.int i3)]) dX2_staleTo_48 (Nat.le_of_ble_eq_true rfl) rfl ?_
      refine jv_iinc (v := i3 + 1) (ls' := [some (.ref N), some (.int a1), some (.int (i2 + 0)), some (.int (i3 + 1))]) dX2_staleTo_49 (Nat.le_of_ble_eq_true rfl) rfl (by rw [ci_iconst_1]) rfl ?_
      refine jv_goto (t := 9) dX2_staleTo_52 rfl ?_
      exact h
    · replace h := h.2 c4
      refine jv_aload_n dX2_staleTo_34 rfl ?_
      refine jv_iload_n dX2_staleTo_35 rfl ?_
      refine jm_callVi [.int i3] cw_2_205 dX2_staleTo_36 rfl (Nat.le_of_ble_eq_true rfl) (kd_N_0 hN) (r := (RX2, TX2, 13)) rfl rfl (lt_N hN 0 rfl) (Nat.le_of_ble_eq_true rfl) (JCi.mono h (fun x1 u1 h => ?_))
      have key6 : ∀ v_2 : Int32, v_2 = (if x1 = 0 then 0 else 1) → JVi E 3 YX2_staleTo K 47 [some (.ref N), some (.int a1), some (.int i2), some (.int i3)] [.int v_2, .int i2] u1 := by
        intro v_2 hv_2
        replace h := h v_2 hv_2
        refine jv_iadd dX2_staleTo_47 ?_
        refine jv_istore_n (ls' := [some (.ref N), some (.int a1), some (.int (i2 + v_2)), some (.int i3)]) dX2_staleTo_48 (Nat.le_of_ble_eq_true rfl) rfl ?_
        refine jv_iinc (v := i3 + 1) (ls' := [some (.ref N), some (.int a1), some (.int (i2 + v_2)), some (.int (i3 + 1))]) dX2_staleTo_49 (Nat.le_of_ble_eq_true rfl) rfl (by rw [ci_iconst_1]) rfl ?_
        refine jv_goto (t := 9) dX2_staleTo_52 rfl ?_
        exact h
      clear h
      refine jv_if_eq (t := 46) dX2_staleTo_39 rfl (fun c7 => ?_) (fun c7 => ?_)
      · refine jv_iconst dX2_staleTo_46 ci_iconst_0 ?_
        exact key6 _ (Eq.trans rfl (if_pos c7).symm)
      · refine jv_iconst dX2_staleTo_42 ci_iconst_1 ?_
        refine jv_goto (t := 47) dX2_staleTo_43 rfl ?_
        exact key6 _ (Eq.trans rfl (if_neg c7).symm)
theorem g_X2_staleToAll_0 {E : JE} {u : JM} {K : Int32 → JM → Prop} {N : Nat} (hN : isNet N)
    (h : JVi E 4 YX2_staleToAll K 4 [some (.ref N), some (.int 0), some (.int 0)] [] u)
    : JVi E 4 YX2_staleToAll K 0 [some (.ref N), none, none] [] u := by
  refine jv_iconst dX2_staleToAll_0 ci_iconst_0 ?_
  refine jv_istore_n (ls' := [some (.ref N), some (.int 0), none]) dX2_staleToAll_1 (Nat.le_of_ble_eq_true rfl) rfl ?_
  refine jv_iconst dX2_staleToAll_2 ci_iconst_0 ?_
  refine jv_istore_n (ls' := [some (.ref N), some (.int 0), some (.int 0)]) dX2_staleToAll_3 (Nat.le_of_ble_eq_true rfl) rfl ?_
  exact h
theorem g_X2_staleToAll_4 {E : JE} {u : JM} {K : Int32 → JM → Prop} {N : Nat} (hN : isNet N) {i1 i2 : Int32}
    (h : ((8 ≤ i2 → K i1 u) ∧
 (¬ 8 ≤ i2 → JCi E 3 YX2_staleTo [.ref N, .int i2] (fun x1 u1 =>
  JVi E 4 YX2_staleToAll K 4 [some (.ref N), some (.int (i1 + x1)), some (.int (i2 + 1))] [] u1) u)))
    : JVi E 4 YX2_staleToAll K 4 [some (.ref N), some (.int i1), some (.int i2)] [] u := by
  refine jv_iload_n dX2_staleToAll_4 rfl ?_
  refine jv_bipush dX2_staleToAll_5 ci_bipush_8 ?_
  refine jv_icmp_ge (t := 24) dX2_staleToAll_7 rfl (fun c1 => ?_) (fun c1 => ?_)
  · replace h := h.1 c1
    refine jv_iload_n dX2_staleToAll_24 rfl ?_
    exact jm_ireturn dX2_staleToAll_25 rfl h
  · replace h := h.2 c1
    refine jv_iload_n dX2_staleToAll_10 rfl ?_
    refine jv_aload_n dX2_staleToAll_11 rfl ?_
    refine jv_iload_n dX2_staleToAll_12 rfl ?_
    refine jm_callVi [.int i2] cw_2_208 dX2_staleToAll_13 rfl (Nat.le_of_ble_eq_true rfl) (kd_N_0 hN) (r := (RX2, TX2, 13)) rfl rfl (lt_N hN 0 rfl) (Nat.le_of_ble_eq_true rfl) (JCi.mono h (fun x1 u1 h => ?_))
    refine jv_iadd dX2_staleToAll_16 ?_
    refine jv_istore_n (ls' := [some (.ref N), some (.int (i1 + x1)), some (.int i2)]) dX2_staleToAll_17 (Nat.le_of_ble_eq_true rfl) rfl ?_
    refine jv_iinc (v := i2 + 1) (ls' := [some (.ref N), some (.int (i1 + x1)), some (.int (i2 + 1))]) dX2_staleToAll_18 (Nat.le_of_ble_eq_true rfl) rfl (by rw [ci_iconst_1]) rfl ?_
    refine jv_goto (t := 4) dX2_staleToAll_21 rfl ?_
    exact h
theorem g_X2_isStale_0 {E : JE} {u : JM} {K : Int32 → JM → Prop} {N : Nat} (hN : isNet N) {a1 : Int32}
    (h : ∀ i2_1 : Int32, i2_1 = a1 - a1 / 8 * 8 →
 JVi E 2 YX2_isStale K 7 [some (.ref N), some (.int a1), some (.int i2_1), some (.int 0), none] [] u)
    : JVi E 2 YX2_isStale K 0 [some (.ref N), some (.int a1), none, none, none] [] u := by
  refine jv_iload_n dX2_isStale_0 rfl ?_
  refine jv_bipush dX2_isStale_1 ci_bipush_8 ?_
  refine jv_irem dX2_isStale_3 (by decide) ?_
  generalize hhi2_1 : a1 - a1 / 8 * 8 = i2_1
  replace h := h i2_1 hhi2_1.symm
  refine jv_istore_n (ls' := [some (.ref N), some (.int a1), some (.int i2_1), none, none]) dX2_isStale_4 (Nat.le_of_ble_eq_true rfl) rfl ?_
  refine jv_iconst dX2_isStale_5 ci_iconst_0 ?_
  refine jv_istore_n (ls' := [some (.ref N), some (.int a1), some (.int i2_1), some (.int 0), none]) dX2_isStale_6 (Nat.le_of_ble_eq_true rfl) rfl ?_
  exact h
theorem g_X2_isStale_7 {E : JE} {u : JM} {K : Int32 → JM → Prop} {N : Nat} (hN : isNet N) {a1 i2 i3 : Int32}
    (h : (((u (N + 1) 0) ≤ i3 → K 0 u) ∧
 (¬ (u (N + 1) 0) ≤ i3 → JCi E 1 YX0_tellsLink [.ref (N + 9), .int a1, .int i3] (fun x1 u1 =>
  ((x1 = 0 → JVi E 2 YX2_isStale K 7 [some (.ref N), some (.int a1), some (.int i2), some (.int (i3 + 1)), none] [] u1) ∧
   (¬ x1 = 0 → vp_in ((a1 * 12) + i3) 2304 ∧
    ∀ i4_2 : Int32, i4_2 = u1 (N + 13) ((a1 * 12) + i3).toNatClampNeg →
    vp_in i3 12 ∧
    (((u1 (N + 7) i3.toNatClampNeg) = 0 → K 1 u1) ∧
    (¬ (u1 (N + 7) i3.toNatClampNeg) = 0 → (((if u1 (N + 2) i3.toNatClampNeg = i2 then u1 (N + 5) i3.toNatClampNeg else u1 (N + 6) i3.toNatClampNeg) = i4_2 → JVi E 2 YX2_isStale K 7 [some (.ref N), some (.int a1), some (.int i2), some (.int (i3 + 1)), none] [] u1) ∧
     (¬ (if u1 (N + 2) i3.toNatClampNeg = i2 then u1 (N + 5) i3.toNatClampNeg else u1 (N + 6) i3.toNatClampNeg) = i4_2 → K 1 u1))))))) u)))
    : JVi E 2 YX2_isStale K 7 [some (.ref N), some (.int a1), some (.int i2), some (.int i3), none] [] u := by
  refine jv_iload_n dX2_isStale_7 rfl ?_
  refine jv_aload_n dX2_isStale_8 rfl ?_
  refine gf_2_12 rfl dX2_isStale_9 (kd_N_0 hN) (lt_N hN 0 rfl) (rf_N_0_0 hN) ?_
  refine gf_2_143 rfl dX2_isStale_12 (kd_N_1 hN) (lt_N hN 1 rfl) ?_
  refine jv_icmp_ge (t := 80) dX2_isStale_15 rfl (fun c1 => ?_) (fun c1 => ?_)
  · replace h := h.1 c1
    refine jv_iconst dX2_isStale_80 ci_iconst_0 ?_
    exact jm_zreturn dX2_isStale_81 rfl (Or.inl rfl) h
  · replace h := h.2 c1
    refine jv_aload_n dX2_isStale_18 rfl ?_
    refine gf_2_23 rfl dX2_isStale_19 (kd_N_0 hN) (lt_N hN 0 rfl) (rf_N_0_1 hN) ?_
    refine jv_iload_n dX2_isStale_22 rfl ?_
    refine jv_iload_n dX2_isStale_23 rfl ?_
    refine jm_callVi [.int a1, .int i3] cw_2_211 dX2_isStale_24 rfl (Nat.le_of_ble_eq_true rfl) (kd_N_9 hN) (r := (RX0, TX0, 5)) rfl rfl (lt_N hN 9 rfl) (Nat.le_of_ble_eq_true rfl) (JCi.mono h (fun x1 u1 h => ?_))
    refine jv_if_eq (t := 74) dX2_isStale_27 rfl (fun c2 => ?_) (fun c2 => ?_)
    · replace h := h.1 c2
      refine jv_iinc (v := i3 + 1) (ls' := [some (.ref N), some (.int a1), some (.int i2), some (.int (i3 + 1)), none]) dX2_isStale_74 (Nat.le_of_ble_eq_true rfl) rfl (by rw [ci_iconst_1]) rfl ?_
      refine jv_goto (t := 7) dX2_isStale_77 rfl ?_
      exact h
    · replace h := h.2 c2
      refine jv_aload_n dX2_isStale_30 rfl ?_
      refine gf_2_23 rfl dX2_isStale_31 (kd_N_0 hN) (lt_N hN 0 rfl) (rf_N_0_1 hN) ?_
      refine gf_2_150 rfl dX2_isStale_34 (kd_N_9 hN) (lt_N hN 9 rfl) (rf_N_9_3 hN) ?_
      refine jv_iload_n dX2_isStale_37 rfl ?_
      refine jv_bipush dX2_isStale_38 ci_bipush_12 ?_
      refine jv_imul dX2_isStale_40 ?_
      refine jv_iload_n dX2_isStale_41 rfl ?_
      refine jv_iadd dX2_isStale_42 ?_
      obtain ⟨b3, h⟩ := h
      refine jm_iaload dX2_isStale_43 (kd_N_13 hN) (lt_N hN 13 rfl) b3 ?_
      generalize hhi4_2 : u1 (N + 13) ((a1 * 12) + i3).toNatClampNeg = i4_2
      replace h := h i4_2 hhi4_2.symm
      refine jv_istore (ls' := [some (.ref N), some (.int a1), some (.int i2), some (.int i3), some (.int i4_2)]) dX2_isStale_44 (Nat.le_of_ble_eq_true rfl) rfl ?_
      refine jv_aload_n dX2_isStale_46 rfl ?_
      refine gf_2_12 rfl dX2_isStale_47 (kd_N_0 hN) (lt_N hN 0 rfl) (rf_N_0_0 hN) ?_
      refine gf_2_97 rfl dX2_isStale_50 (kd_N_1 hN) (lt_N hN 1 rfl) (rf_N_1_6 hN) ?_
      refine jv_iload_n dX2_isStale_53 rfl ?_
      obtain ⟨b4, h⟩ := h
      refine jm_baload dX2_isStale_54 (kd_N_7 hN) (lt_N hN 7 rfl) b4 ?_
      refine jv_if_eq (t := 72) dX2_isStale_55 rfl (fun c5 => ?_) (fun c5 => ?_)
      · replace h := h.1 c5
        refine jv_iconst dX2_isStale_72 ci_iconst_1 ?_
        exact jm_zreturn dX2_isStale_73 rfl (Or.inr rfl) h
      · replace h := h.2 c5
        refine jv_aload_n dX2_isStale_58 rfl ?_
        refine gf_2_12 rfl dX2_isStale_59 (kd_N_0 hN) (lt_N hN 0 rfl) (rf_N_0_0 hN) ?_
        refine jv_iload_n dX2_isStale_62 rfl ?_
        refine jv_iload_n dX2_isStale_63 rfl ?_
        refine jm_callVi [.int i3, .int i2] cw_2_153 dX2_isStale_64 rfl (Nat.le_of_ble_eq_true rfl) (kd_N_1 hN) (r := (RX1, TX1, 8)) rfl rfl (lt_N hN 1 rfl) (Nat.le_of_ble_eq_true rfl) (p_X1_costFrom hN b4 ?_)
        refine jv_iload dX2_isStale_67 rfl ?_
        refine jv_icmp_eq (t := 74) dX2_isStale_69 rfl (fun c6 => ?_) (fun c6 => ?_)
        · replace h := h.1 c6
          refine jv_iinc (v := i3 + 1) (ls' := [some (.ref N), some (.int a1), some (.int i2), some (.int (i3 + 1)), some (.int i4_2)]) dX2_isStale_74 (Nat.le_of_ble_eq_true rfl) rfl (by rw [ci_iconst_1]) rfl ?_
          refine jv_goto (t := 7) dX2_isStale_77 rfl ?_
          exact jm_sub (ls' := [some (.ref N), some (.int a1), some (.int i2), some (.int (i3 + 1)), none]) ⟨rfl, rfl, rfl, rfl, trivial⟩ h
        · replace h := h.2 c6
          refine jv_iconst dX2_isStale_72 ci_iconst_1 ?_
          exact jm_zreturn dX2_isStale_73 rfl (Or.inr rfl) h
theorem g_X3_measure_0 {E : JE} {u : JM} {K : JM → Prop} {P : Nat} (hP : isPaths P) {N : Nat} (hN : isNet N) {router area : Int32}
    (h : JVu E 2 YX3_measure K 3 [some (.ref P), some (.ref N), some (.int router), some (.int area), some (.int 0), none, none] [] u)
    : JVu E 2 YX3_measure K 0 [some (.ref P), some (.ref N), some (.int router), some (.int area), none, none, none] [] u := by
  refine jv_iconst dX3_measure_0 ci_iconst_0 ?_
  refine jv_istore (ls' := [some (.ref P), some (.ref N), some (.int router), some (.int area), some (.int 0), none, none]) dX3_measure_1 (Nat.le_of_ble_eq_true rfl) rfl ?_
  exact h
theorem g_X3_measure_3 {E : JE} {u : JM} {K : JM → Prop} {P : Nat} (hP : isPaths P) {N : Nat} (hN : isNet N) {router area i4 : Int32}
    (h : ((8 ≤ i4 → vp_in router 8 ∧
  ∀ u1, u1 = jw u (P + 1) router.toNatClampNeg 0 →
  ∀ i4_2 : Int32, i4_2 = (router * 3 + area) * 8 + 0 →
  JVu E 2 YX3_measure K 60 [some (.ref P), some (.ref N), some (.int router), some (.int area), some (.int i4_2), some (.int 0), none] [] u1) ∧
 (¬ 8 ≤ i4 → vp_in i4 8 ∧
  ∀ u3, u3 = jw u (P + 1) i4.toNatClampNeg 9999 →
  ∀ u4, u4 = jw u3 (P + 2) i4.toNatClampNeg (-1) →
  ∀ u5, u5 = jw u4 (P + 3) i4.toNatClampNeg 0 →
  JVu E 2 YX3_measure K 3 [some (.ref P), some (.ref N), some (.int router), some (.int area), some (.int (i4 + 1)), none, none] [] u5)))
    : JVu E 2 YX3_measure K 3 [some (.ref P), some (.ref N), some (.int router), some (.int area), some (.int i4), none, none] [] u := by
  refine jv_iload dX3_measure_3 rfl ?_
  refine jv_bipush dX3_measure_5 ci_bipush_8 ?_
  refine jv_icmp_ge (t := 42) dX3_measure_7 rfl (fun c1 => ?_) (fun c1 => ?_)
  · replace h := h.1 c1
    refine jv_aload_n dX3_measure_42 rfl ?_
    refine gf_3_9 rfl dX3_measure_43 (kd_P_0 hP) (lt_P hP 0 rfl) (rf_P_0_0 hP) ?_
    refine jv_iload_n dX3_measure_46 rfl ?_
    refine jv_iconst dX3_measure_47 ci_iconst_0 ?_
    obtain ⟨b2, h⟩ := h
    refine jm_iastore dX3_measure_48 (kd_P_1 hP) (lt_P hP 1 rfl) b2 ?_
    generalize hhu1 : jw u (P + 1) router.toNatClampNeg 0 = u1
    replace h := h u1 hhu1.symm
    refine jv_iload_n dX3_measure_49 rfl ?_
    refine jv_iload_n dX3_measure_50 rfl ?_
    refine jv_iconst dX3_measure_51 ci_iconst_0 ?_
    refine jm_callSNi [.int router, .int area, .int 0] cw_3_22 dX3_measure_52 rfl (Nat.le_of_ble_eq_true rfl) (Nat.le_of_ble_eq_true rfl) (p_X7_rowOf  ?_)
    generalize hhi4_2 : (router * 3 + area) * 8 + 0 = i4_2
    replace h := h i4_2 hhi4_2.symm
    refine jv_istore (ls' := [some (.ref P), some (.ref N), some (.int router), some (.int area), some (.int i4_2), none, none]) dX3_measure_55 (Nat.le_of_ble_eq_true rfl) rfl ?_
    refine jv_iconst dX3_measure_57 ci_iconst_0 ?_
    refine jv_istore (ls' := [some (.ref P), some (.ref N), some (.int router), some (.int area), some (.int i4_2), some (.int 0), none]) dX3_measure_58 (Nat.le_of_ble_eq_true rfl) rfl ?_
    exact h
  · replace h := h.2 c1
    refine jv_aload_n dX3_measure_10 rfl ?_
    refine gf_3_9 rfl dX3_measure_11 (kd_P_0 hP) (lt_P hP 0 rfl) (rf_P_0_0 hP) ?_
    refine jv_iload dX3_measure_14 rfl ?_
    refine jv_sipush dX3_measure_16 ci_sipush_9999 ?_
    obtain ⟨b3, h⟩ := h
    refine jm_iastore dX3_measure_19 (kd_P_1 hP) (lt_P hP 1 rfl) b3 ?_
    generalize hhu3 : jw u (P + 1) i4.toNatClampNeg 9999 = u3
    replace h := h u3 hhu3.symm
    refine jv_aload_n dX3_measure_20 rfl ?_
    refine gf_3_15 rfl dX3_measure_21 (kd_P_0 hP) (lt_P hP 0 rfl) (rf_P_0_1 hP) ?_
    refine jv_iload dX3_measure_24 rfl ?_
    refine jv_iconst dX3_measure_26 ci_iconst_m1 ?_
    refine jm_iastore dX3_measure_27 (kd_P_2 hP) (lt_P hP 2 rfl) b3 ?_
    generalize hhu4 : jw u3 (P + 2) i4.toNatClampNeg (-1) = u4
    replace h := h u4 hhu4.symm
    refine jv_aload_n dX3_measure_28 rfl ?_
    refine gf_3_18 rfl dX3_measure_29 (kd_P_0 hP) (lt_P hP 0 rfl) (rf_P_0_2 hP) ?_
    refine jv_iload dX3_measure_32 rfl ?_
    refine jv_iconst dX3_measure_34 ci_iconst_0 ?_
    refine jm_bastore dX3_measure_35 (kd_P_3 hP) (lt_P hP 3 rfl) b3 (Or.inl rfl) ?_
    generalize hhu5 : jw u4 (P + 3) i4.toNatClampNeg 0 = u5
    replace h := h u5 hhu5.symm
    refine jv_iinc (v := i4 + 1) (ls' := [some (.ref P), some (.ref N), some (.int router), some (.int area), some (.int (i4 + 1)), none, none]) dX3_measure_36 (Nat.le_of_ble_eq_true rfl) rfl (by rw [ci_iconst_1]) rfl ?_
    refine jv_goto (t := 3) dX3_measure_39 rfl ?_
    exact h
theorem g_X3_measure_60 {E : JE} {u : JM} {K : JM → Prop} {P : Nat} (hP : isPaths P) {N : Nat} (hN : isNet N) {router area i4 i5 : Int32}
    (h : ((8 ≤ i5 → K u) ∧
 (¬ 8 ≤ i5 → JCi E 1 YX3_nearest [.ref P] (fun x1 u1 =>
  ((¬ x1 = (-1) → vp_in x1 8 ∧
    ∀ u2, u2 = jw u1 (P + 3) x1.toNatClampNeg 1 →
    JCu E 1 YX3_goOn [.ref P, .ref N, .int i4, .int router, .int x1] (fun u3 =>
    JVu E 2 YX3_measure K 60 [some (.ref P), some (.ref N), some (.int router), some (.int area), some (.int i4), some (.int (i5 + 1)), none] [] u3) u2) ∧
   (x1 = (-1) → K u1))) u)))
    : JVu E 2 YX3_measure K 60 [some (.ref P), some (.ref N), some (.int router), some (.int area), some (.int i4), some (.int i5), none] [] u := by
  refine jv_iload dX3_measure_60 rfl ?_
  refine jv_bipush dX3_measure_62 ci_bipush_8 ?_
  refine jv_icmp_ge (t := 104) dX3_measure_64 rfl (fun c1 => ?_) (fun c1 => ?_)
  · replace h := h.1 c1
    exact jm_return dX3_measure_104 rfl h
  · replace h := h.2 c1
    refine jv_aload_n dX3_measure_67 rfl ?_
    refine jm_callVi [] cw_3_26 dX3_measure_68 rfl (Nat.le_of_ble_eq_true rfl) (kd_P_0 hP) (r := (RX3, TX3, 3)) rfl rfl (lt_P hP 0 rfl) (Nat.le_of_ble_eq_true rfl) (JCi.mono h (fun x1 u1 h => ?_))
    refine jv_istore (ls' := [some (.ref P), some (.ref N), some (.int router), some (.int area), some (.int i4), some (.int i5), some (.int x1)]) dX3_measure_71 (Nat.le_of_ble_eq_true rfl) rfl ?_
    refine jv_iload dX3_measure_73 rfl ?_
    refine jv_iconst dX3_measure_75 ci_iconst_m1 ?_
    refine jv_icmp_ne (t := 80) dX3_measure_76 rfl (fun c2 => ?_) (fun c2 => ?_)
    · replace h := h.1 c2
      refine jv_aload_n dX3_measure_80 rfl ?_
      refine gf_3_18 rfl dX3_measure_81 (kd_P_0 hP) (lt_P hP 0 rfl) (rf_P_0_2 hP) ?_
      refine jv_iload dX3_measure_84 rfl ?_
      refine jv_iconst dX3_measure_86 ci_iconst_1 ?_
      obtain ⟨b3, h⟩ := h
      refine jm_bastore dX3_measure_87 (kd_P_3 hP) (lt_P hP 3 rfl) b3 (Or.inr rfl) ?_
      generalize hhu2 : jw u1 (P + 3) x1.toNatClampNeg 1 = u2
      replace h := h u2 hhu2.symm
      refine jv_aload_n dX3_measure_88 rfl ?_
      refine jv_aload_n dX3_measure_89 rfl ?_
      refine jv_iload dX3_measure_90 rfl ?_
      refine jv_iload_n dX3_measure_92 rfl ?_
      refine jv_iload dX3_measure_93 rfl ?_
      refine jm_callVu [.ref N, .int i4, .int router, .int x1] cw_3_30 dX3_measure_95 rfl (Nat.le_of_ble_eq_true rfl) (kd_P_0 hP) (r := (RX3, TX3, 3)) rfl rfl (lt_P hP 0 rfl) (Nat.le_of_ble_eq_true rfl) (JCu.mono h (fun u3 h => ?_))
      refine jv_iinc (v := i5 + 1) (ls' := [some (.ref P), some (.ref N), some (.int router), some (.int area), some (.int i4), some (.int (i5 + 1)), some (.int x1)]) dX3_measure_98 (Nat.le_of_ble_eq_true rfl) rfl (by rw [ci_iconst_1]) rfl ?_
      refine jv_goto (t := 60) dX3_measure_101 rfl ?_
      exact jm_sub (ls' := [some (.ref P), some (.ref N), some (.int router), some (.int area), some (.int i4), some (.int (i5 + 1)), none]) ⟨rfl, rfl, rfl, rfl, rfl, rfl, trivial⟩ h
    · replace h := h.2 c2
      exact jm_return dX3_measure_79 rfl h
theorem g_X3_nearest_0 {E : JE} {u : JM} {K : Int32 → JM → Prop} {P : Nat} (hP : isPaths P)
    (h : JVi E 1 YX3_nearest K 8 [some (.ref P), some (.int (-1)), some (.int 9999), some (.int 0)] [] u)
    : JVi E 1 YX3_nearest K 0 [some (.ref P), none, none, none] [] u := by
  refine jv_iconst dX3_nearest_0 ci_iconst_m1 ?_
  refine jv_istore_n (ls' := [some (.ref P), some (.int (-1)), none, none]) dX3_nearest_1 (Nat.le_of_ble_eq_true rfl) rfl ?_
  refine jv_sipush dX3_nearest_2 ci_sipush_9999 ?_
  refine jv_istore_n (ls' := [some (.ref P), some (.int (-1)), some (.int 9999), none]) dX3_nearest_5 (Nat.le_of_ble_eq_true rfl) rfl ?_
  refine jv_iconst dX3_nearest_6 ci_iconst_0 ?_
  refine jv_istore_n (ls' := [some (.ref P), some (.int (-1)), some (.int 9999), some (.int 0)]) dX3_nearest_7 (Nat.le_of_ble_eq_true rfl) rfl ?_
  exact h
theorem g_X3_nearest_8 {E : JE} {u : JM} {K : Int32 → JM → Prop} {P : Nat} (hP : isPaths P) {i1 i2 i3 : Int32}
    (h : ((8 ≤ i3 → K i1 u) ∧
 (¬ 8 ≤ i3 → vp_in i3 8 ∧
  ∀ i1_1 : Int32, i1_1 = (if (u (P + 3) i3.toNatClampNeg) = 0 then (if i2 ≤ (u (P + 1) i3.toNatClampNeg) then i1 else i3) else i1) →
  ∀ i2_2 : Int32, i2_2 = (if (u (P + 3) i3.toNatClampNeg) = 0 then (if i2 ≤ (u (P + 1) i3.toNatClampNeg) then i2 else (u (P + 1) i3.toNatClampNeg)) else i2) →
  JVi E 1 YX3_nearest K 8 [some (.ref P), some (.int i1_1), some (.int i2_2), some (.int (i3 + 1))] [] u)))
    : JVi E 1 YX3_nearest K 8 [some (.ref P), some (.int i1), some (.int i2), some (.int i3)] [] u := by
  refine jv_iload_n dX3_nearest_8 rfl ?_
  refine jv_bipush dX3_nearest_9 ci_bipush_8 ?_
  refine jv_icmp_ge (t := 48) dX3_nearest_11 rfl (fun c1 => ?_) (fun c1 => ?_)
  · replace h := h.1 c1
    refine jv_iload_n dX3_nearest_48 rfl ?_
    exact jm_ireturn dX3_nearest_49 rfl h
  · replace h := h.2 c1
    refine jv_aload_n dX3_nearest_14 rfl ?_
    refine gf_3_18 rfl dX3_nearest_15 (kd_P_0 hP) (lt_P hP 0 rfl) (rf_P_0_2 hP) ?_
    refine jv_iload_n dX3_nearest_18 rfl ?_
    obtain ⟨b5, h⟩ := h
    refine jm_baload dX3_nearest_19 (kd_P_3 hP) (lt_P hP 3 rfl) b5 ?_
    have key7 : ∀ i1_1 i2_2 : Int32, i1_1 = (if (u (P + 3) i3.toNatClampNeg) = 0 then (if i2 ≤ (u (P + 1) i3.toNatClampNeg) then i1 else i3) else i1) → i2_2 = (if (u (P + 3) i3.toNatClampNeg) = 0 then (if i2 ≤ (u (P + 1) i3.toNatClampNeg) then i2 else (u (P + 1) i3.toNatClampNeg)) else i2) → JVi E 1 YX3_nearest K 42 [some (.ref P), some (.int i1_1), some (.int i2_2), some (.int i3)] [] u := by
      intro i1_1 i2_2 hi1_1 hi2_2
      replace h := h i1_1 hi1_1 i2_2 hi2_2
      refine jv_iinc (v := i3 + 1) (ls' := [some (.ref P), some (.int i1_1), some (.int i2_2), some (.int (i3 + 1))]) dX3_nearest_42 (Nat.le_of_ble_eq_true rfl) rfl (by rw [ci_iconst_1]) rfl ?_
      refine jv_goto (t := 8) dX3_nearest_45 rfl ?_
      exact h
    clear h
    refine jv_if_ne (t := 42) dX3_nearest_20 rfl (fun c8 => ?_) (fun c8 => ?_)
    · exact key7 _ _ (Eq.trans rfl (if_neg c8).symm) (Eq.trans rfl (if_neg c8).symm)
    · refine jv_aload_n dX3_nearest_23 rfl ?_
      refine gf_3_9 rfl dX3_nearest_24 (kd_P_0 hP) (lt_P hP 0 rfl) (rf_P_0_0 hP) ?_
      refine jv_iload_n dX3_nearest_27 rfl ?_
      refine jm_iaload dX3_nearest_28 (kd_P_1 hP) (lt_P hP 1 rfl) b5 ?_
      refine jv_iload_n dX3_nearest_29 rfl ?_
      refine jv_icmp_ge (t := 42) dX3_nearest_30 rfl (fun c9 => ?_) (fun c9 => ?_)
      · exact key7 _ _ (Eq.trans (Eq.trans rfl (if_pos c9).symm) (if_pos c8).symm) (Eq.trans (Eq.trans rfl (if_pos c9).symm) (if_pos c8).symm)
      · refine jv_iload_n dX3_nearest_33 rfl ?_
        refine jv_istore_n (ls' := [some (.ref P), some (.int i3), some (.int i2), some (.int i3)]) dX3_nearest_34 (Nat.le_of_ble_eq_true rfl) rfl ?_
        refine jv_aload_n dX3_nearest_35 rfl ?_
        refine gf_3_9 rfl dX3_nearest_36 (kd_P_0 hP) (lt_P hP 0 rfl) (rf_P_0_0 hP) ?_
        refine jv_iload_n dX3_nearest_39 rfl ?_
        refine jm_iaload dX3_nearest_40 (kd_P_1 hP) (lt_P hP 1 rfl) b5 ?_
        refine jv_istore_n (ls' := [some (.ref P), some (.int i3), some (.int (u (P + 1) i3.toNatClampNeg)), some (.int i3)]) dX3_nearest_41 (Nat.le_of_ble_eq_true rfl) rfl ?_
        exact key7 _ _ (Eq.trans (Eq.trans rfl (if_neg c9).symm) (if_pos c8).symm) (Eq.trans (Eq.trans rfl (if_neg c9).symm) (if_pos c8).symm)
theorem g_X3_goOn_0 {E : JE} {u : JM} {K : JM → Prop} {P : Nat} (hP : isPaths P) {N : Nat} (hN : isNet N) {rows router nd : Int32}
    (h : JVu E 1 YX3_goOn K 15 [some (.ref P), some (.ref N), some (.int rows), some (.int router), some (.int nd), some (.ref (N + 1)), some (.ref (N + 9)), some (.int 0), none, none, none, none] [] u)
    : JVu E 1 YX3_goOn K 0 [some (.ref P), some (.ref N), some (.int rows), some (.int router), some (.int nd), none, none, none, none, none, none, none] [] u := by
  refine jv_aload_n dX3_goOn_0 rfl ?_
  refine gf_3_34 rfl dX3_goOn_1 (kd_N_0 hN) (lt_N hN 0 rfl) (rf_N_0_0 hN) ?_
  refine jv_astore (ls' := [some (.ref P), some (.ref N), some (.int rows), some (.int router), some (.int nd), some (.ref (N + 1)), none, none, none, none, none, none]) dX3_goOn_4 (Nat.le_of_ble_eq_true rfl) rfl ?_
  refine jv_aload_n dX3_goOn_6 rfl ?_
  refine gf_3_40 rfl dX3_goOn_7 (kd_N_0 hN) (lt_N hN 0 rfl) (rf_N_0_1 hN) ?_
  refine jv_astore (ls' := [some (.ref P), some (.ref N), some (.int rows), some (.int router), some (.int nd), some (.ref (N + 1)), some (.ref (N + 9)), none, none, none, none, none]) dX3_goOn_10 (Nat.le_of_ble_eq_true rfl) rfl ?_
  refine jv_iconst dX3_goOn_12 ci_iconst_0 ?_
  refine jv_istore (ls' := [some (.ref P), some (.ref N), some (.int rows), some (.int router), some (.int nd), some (.ref (N + 1)), some (.ref (N + 9)), some (.int 0), none, none, none, none]) dX3_goOn_13 (Nat.le_of_ble_eq_true rfl) rfl ?_
  exact h
theorem g_X3_goOn_15 {E : JE} {u : JM} {K : JM → Prop} {P : Nat} (hP : isPaths P) {N : Nat} (hN : isNet N) {rows router nd i7 : Int32}
    (h : (((u (N + 1) 0) ≤ i7 → K u) ∧
 (¬ (u (N + 1) 0) ≤ i7 → vp_in i7 12 ∧
  ∀ v_1 : Int32, v_1 = (if (u (N + 2) i7.toNatClampNeg) = nd then (u (N + 3) i7.toNatClampNeg) else (u (N + 2) i7.toNatClampNeg)) →
  vp_in (rows + nd) 192 ∧
  vp_in (rows + v_1) 192 ∧
  ∀ i9_2 : Int32, i9_2 = (u (N + 12) (rows + nd).toNatClampNeg) &&& (u (N + 12) (rows + v_1).toNatClampNeg) →
  ((((i9_2 >>> (i7 &&& 31)) &&& 1) = 0 → JVu E 1 YX3_goOn K 15 [some (.ref P), some (.ref N), some (.int rows), some (.int router), some (.int nd), some (.ref (N + 1)), some (.ref (N + 9)), some (.int (i7 + 1)), none, none, none, none] [] u) ∧
  (¬ ((i9_2 >>> (i7 &&& 31)) &&& 1) = 0 → vp_in nd 8 ∧
   vp_in (((rows + nd) * 12) + i7) 2304 ∧
   ∀ i10_3 : Int32, i10_3 = (u (P + 1) nd.toNatClampNeg) + (u (N + 13) (((rows + nd) * 12) + i7).toNatClampNeg) →
   ∀ v_4 : Int32, v_4 = (if nd = router then v_1 else (u (P + 2) nd.toNatClampNeg)) →
   vp_in v_1 8 ∧
   ((i10_3 < (u (P + 1) v_1.toNatClampNeg) → ∀ u5, u5 = jw u (P + 1) v_1.toNatClampNeg i10_3 →
    ∀ u6, u6 = jw u5 (P + 2) v_1.toNatClampNeg v_4 →
    JVu E 1 YX3_goOn K 15 [some (.ref P), some (.ref N), some (.int rows), some (.int router), some (.int nd), some (.ref (N + 1)), some (.ref (N + 9)), some (.int (i7 + 1)), none, none, none, none] [] u6) ∧
   (¬ i10_3 < (u (P + 1) v_1.toNatClampNeg) → ((¬ i10_3 = (u (P + 1) v_1.toNatClampNeg) → JVu E 1 YX3_goOn K 15 [some (.ref P), some (.ref N), some (.int rows), some (.int router), some (.int nd), some (.ref (N + 1)), some (.ref (N + 9)), some (.int (i7 + 1)), none, none, none, none] [] u) ∧
    (i10_3 = (u (P + 1) v_1.toNatClampNeg) → (((u (P + 2) v_1.toNatClampNeg) ≤ v_4 → JVu E 1 YX3_goOn K 15 [some (.ref P), some (.ref N), some (.int rows), some (.int router), some (.int nd), some (.ref (N + 1)), some (.ref (N + 9)), some (.int (i7 + 1)), none, none, none, none] [] u) ∧
     (¬ (u (P + 2) v_1.toNatClampNeg) ≤ v_4 → ∀ u7, u7 = jw u (P + 1) v_1.toNatClampNeg i10_3 →
      ∀ u8, u8 = jw u7 (P + 2) v_1.toNatClampNeg v_4 →
      JVu E 1 YX3_goOn K 15 [some (.ref P), some (.ref N), some (.int rows), some (.int router), some (.int nd), some (.ref (N + 1)), some (.ref (N + 9)), some (.int (i7 + 1)), none, none, none, none] [] u8)))))))))))
    : JVu E 1 YX3_goOn K 15 [some (.ref P), some (.ref N), some (.int rows), some (.int router), some (.int nd), some (.ref (N + 1)), some (.ref (N + 9)), some (.int i7), none, none, none, none] [] u := by
  refine jv_iload dX3_goOn_15 rfl ?_
  refine jv_aload dX3_goOn_17 rfl ?_
  refine gf_3_44 rfl dX3_goOn_19 (kd_N_1 hN) (lt_N hN 1 rfl) ?_
  refine jv_icmp_ge (t := 198) dX3_goOn_22 rfl (fun c1 => ?_) (fun c1 => ?_)
  · replace h := h.1 c1
    exact jm_return dX3_goOn_198 rfl h
  · replace h := h.2 c1
    refine jv_aload dX3_goOn_25 rfl ?_
    refine gf_3_50 rfl dX3_goOn_27 (kd_N_1 hN) (lt_N hN 1 rfl) (rf_N_1_1 hN) ?_
    refine jv_iload dX3_goOn_30 rfl ?_
    obtain ⟨b27, h⟩ := h
    refine jm_iaload dX3_goOn_32 (kd_N_2 hN) (lt_N hN 2 rfl) b27 ?_
    refine jv_iload dX3_goOn_33 rfl ?_
    have key50 : ∀ v_1 : Int32, v_1 = (if (u (N + 2) i7.toNatClampNeg) = nd then (u (N + 3) i7.toNatClampNeg) else (u (N + 2) i7.toNatClampNeg)) → JVu E 1 YX3_goOn K 57 [some (.ref P), some (.ref N), some (.int rows), some (.int router), some (.int nd), some (.ref (N + 1)), some (.ref (N + 9)), some (.int i7), none, none, none, none] [.int v_1] u := by
      intro v_1 hv_1
      replace h := h v_1 hv_1
      refine jv_istore (ls' := [some (.ref P), some (.ref N), some (.int rows), some (.int router), some (.int nd), some (.ref (N + 1)), some (.ref (N + 9)), some (.int i7), some (.int v_1), none, none, none]) dX3_goOn_57 (Nat.le_of_ble_eq_true rfl) rfl ?_
      refine jv_aload dX3_goOn_59 rfl ?_
      refine gf_3_56 rfl dX3_goOn_61 (kd_N_9 hN) (lt_N hN 9 rfl) (rf_N_9_2 hN) ?_
      refine jv_iload_n dX3_goOn_64 rfl ?_
      refine jv_iload dX3_goOn_65 rfl ?_
      refine jv_iadd dX3_goOn_67 ?_
      obtain ⟨b29, h⟩ := h
      refine jm_iaload dX3_goOn_68 (kd_N_12 hN) (lt_N hN 12 rfl) b29 ?_
      refine jv_aload dX3_goOn_69 rfl ?_
      refine gf_3_56 rfl dX3_goOn_71 (kd_N_9 hN) (lt_N hN 9 rfl) (rf_N_9_2 hN) ?_
      refine jv_iload_n dX3_goOn_74 rfl ?_
      refine jv_iload dX3_goOn_75 rfl ?_
      refine jv_iadd dX3_goOn_77 ?_
      obtain ⟨b30, h⟩ := h
      refine jm_iaload dX3_goOn_78 (kd_N_12 hN) (lt_N hN 12 rfl) b30 ?_
      refine jv_iand dX3_goOn_79 ?_
      generalize hhi9_2 : (u (N + 12) (rows + nd).toNatClampNeg) &&& (u (N + 12) (rows + v_1).toNatClampNeg) = i9_2
      replace h := h i9_2 hhi9_2.symm
      refine jv_istore (ls' := [some (.ref P), some (.ref N), some (.int rows), some (.int router), some (.int nd), some (.ref (N + 1)), some (.ref (N + 9)), some (.int i7), some (.int v_1), some (.int i9_2), none, none]) dX3_goOn_80 (Nat.le_of_ble_eq_true rfl) rfl ?_
      refine jv_iload dX3_goOn_82 rfl ?_
      refine jv_iload dX3_goOn_84 rfl ?_
      refine jv_ishr dX3_goOn_86 ?_
      refine jv_iconst dX3_goOn_87 ci_iconst_1 ?_
      refine jv_iand dX3_goOn_88 ?_
      refine jv_if_eq (t := 192) dX3_goOn_89 rfl (fun c31 => ?_) (fun c31 => ?_)
      · replace h := h.1 c31
        refine jv_iinc (v := i7 + 1) (ls' := [some (.ref P), some (.ref N), some (.int rows), some (.int router), some (.int nd), some (.ref (N + 1)), some (.ref (N + 9)), some (.int (i7 + 1)), some (.int v_1), some (.int i9_2), none, none]) dX3_goOn_192 (Nat.le_of_ble_eq_true rfl) rfl (by rw [ci_iconst_1]) rfl ?_
        refine jv_goto (t := 15) dX3_goOn_195 rfl ?_
        exact jm_sub (ls' := [some (.ref P), some (.ref N), some (.int rows), some (.int router), some (.int nd), some (.ref (N + 1)), some (.ref (N + 9)), some (.int (i7 + 1)), none, none, none, none]) ⟨rfl, rfl, rfl, rfl, rfl, rfl, rfl, rfl, trivial⟩ h
      · replace h := h.2 c31
        refine jv_aload_n dX3_goOn_92 rfl ?_
        refine gf_3_9 rfl dX3_goOn_93 (kd_P_0 hP) (lt_P hP 0 rfl) (rf_P_0_0 hP) ?_
        refine jv_iload dX3_goOn_96 rfl ?_
        obtain ⟨b41, h⟩ := h
        refine jm_iaload dX3_goOn_98 (kd_P_1 hP) (lt_P hP 1 rfl) b41 ?_
        refine jv_aload dX3_goOn_99 rfl ?_
        refine gf_3_60 rfl dX3_goOn_101 (kd_N_9 hN) (lt_N hN 9 rfl) (rf_N_9_3 hN) ?_
        refine jv_iload_n dX3_goOn_104 rfl ?_
        refine jv_iload dX3_goOn_105 rfl ?_
        refine jv_iadd dX3_goOn_107 ?_
        refine jv_bipush dX3_goOn_108 ci_bipush_12 ?_
        refine jv_imul dX3_goOn_110 ?_
        refine jv_iload dX3_goOn_111 rfl ?_
        refine jv_iadd dX3_goOn_113 ?_
        obtain ⟨b42, h⟩ := h
        refine jm_iaload dX3_goOn_114 (kd_N_13 hN) (lt_N hN 13 rfl) b42 ?_
        refine jv_iadd dX3_goOn_115 ?_
        generalize hhi10_3 : (u (P + 1) nd.toNatClampNeg) + (u (N + 13) (((rows + nd) * 12) + i7).toNatClampNeg) = i10_3
        replace h := h i10_3 hhi10_3.symm
        refine jv_istore (ls' := [some (.ref P), some (.ref N), some (.int rows), some (.int router), some (.int nd), some (.ref (N + 1)), some (.ref (N + 9)), some (.int i7), some (.int v_1), some (.int i9_2), some (.int i10_3), none]) dX3_goOn_116 (Nat.le_of_ble_eq_true rfl) rfl ?_
        refine jv_iload dX3_goOn_118 rfl ?_
        refine jv_iload_n dX3_goOn_120 rfl ?_
        have key48 : ∀ v_4 : Int32, v_4 = (if nd = router then v_1 else (u (P + 2) nd.toNatClampNeg)) → JVu E 1 YX3_goOn K 136 [some (.ref P), some (.ref N), some (.int rows), some (.int router), some (.int nd), some (.ref (N + 1)), some (.ref (N + 9)), some (.int i7), some (.int v_1), some (.int i9_2), some (.int i10_3), none] [.int v_4] u := by
          intro v_4 hv_4
          replace h := h v_4 hv_4
          refine jv_istore (ls' := [some (.ref P), some (.ref N), some (.int rows), some (.int router), some (.int nd), some (.ref (N + 1)), some (.ref (N + 9)), some (.int i7), some (.int v_1), some (.int i9_2), some (.int i10_3), some (.int v_4)]) dX3_goOn_136 (Nat.le_of_ble_eq_true rfl) rfl ?_
          refine jv_iload dX3_goOn_138 rfl ?_
          refine jv_aload_n dX3_goOn_140 rfl ?_
          refine gf_3_9 rfl dX3_goOn_141 (kd_P_0 hP) (lt_P hP 0 rfl) (rf_P_0_0 hP) ?_
          refine jv_iload dX3_goOn_144 rfl ?_
          obtain ⟨b44, h⟩ := h
          refine jm_iaload dX3_goOn_146 (kd_P_1 hP) (lt_P hP 1 rfl) b44 ?_
          refine jv_icmp_lt (t := 174) dX3_goOn_147 rfl (fun c45 => ?_) (fun c45 => ?_)
          · replace h := h.1 c45
            refine jv_aload_n dX3_goOn_174 rfl ?_
            refine gf_3_9 rfl dX3_goOn_175 (kd_P_0 hP) (lt_P hP 0 rfl) (rf_P_0_0 hP) ?_
            refine jv_iload dX3_goOn_178 rfl ?_
            refine jv_iload dX3_goOn_180 rfl ?_
            refine jm_iastore dX3_goOn_182 (kd_P_1 hP) (lt_P hP 1 rfl) b44 ?_
            generalize hhu5 : jw u (P + 1) v_1.toNatClampNeg i10_3 = u5
            replace h := h u5 hhu5.symm
            refine jv_aload_n dX3_goOn_183 rfl ?_
            refine gf_3_15 rfl dX3_goOn_184 (kd_P_0 hP) (lt_P hP 0 rfl) (rf_P_0_1 hP) ?_
            refine jv_iload dX3_goOn_187 rfl ?_
            refine jv_iload dX3_goOn_189 rfl ?_
            refine jm_iastore dX3_goOn_191 (kd_P_2 hP) (lt_P hP 2 rfl) b44 ?_
            generalize hhu6 : jw u5 (P + 2) v_1.toNatClampNeg v_4 = u6
            replace h := h u6 hhu6.symm
            refine jv_iinc (v := i7 + 1) (ls' := [some (.ref P), some (.ref N), some (.int rows), some (.int router), some (.int nd), some (.ref (N + 1)), some (.ref (N + 9)), some (.int (i7 + 1)), some (.int v_1), some (.int i9_2), some (.int i10_3), some (.int v_4)]) dX3_goOn_192 (Nat.le_of_ble_eq_true rfl) rfl (by rw [ci_iconst_1]) rfl ?_
            refine jv_goto (t := 15) dX3_goOn_195 rfl ?_
            exact jm_sub (ls' := [some (.ref P), some (.ref N), some (.int rows), some (.int router), some (.int nd), some (.ref (N + 1)), some (.ref (N + 9)), some (.int (i7 + 1)), none, none, none, none]) ⟨rfl, rfl, rfl, rfl, rfl, rfl, rfl, rfl, trivial⟩ h
          · replace h := h.2 c45
            refine jv_iload dX3_goOn_150 rfl ?_
            refine jv_aload_n dX3_goOn_152 rfl ?_
            refine gf_3_9 rfl dX3_goOn_153 (kd_P_0 hP) (lt_P hP 0 rfl) (rf_P_0_0 hP) ?_
            refine jv_iload dX3_goOn_156 rfl ?_
            refine jm_iaload dX3_goOn_158 (kd_P_1 hP) (lt_P hP 1 rfl) b44 ?_
            refine jv_icmp_ne (t := 192) dX3_goOn_159 rfl (fun c46 => ?_) (fun c46 => ?_)
            · replace h := h.1 c46
              refine jv_iinc (v := i7 + 1) (ls' := [some (.ref P), some (.ref N), some (.int rows), some (.int router), some (.int nd), some (.ref (N + 1)), some (.ref (N + 9)), some (.int (i7 + 1)), some (.int v_1), some (.int i9_2), some (.int i10_3), some (.int v_4)]) dX3_goOn_192 (Nat.le_of_ble_eq_true rfl) rfl (by rw [ci_iconst_1]) rfl ?_
              refine jv_goto (t := 15) dX3_goOn_195 rfl ?_
              exact jm_sub (ls' := [some (.ref P), some (.ref N), some (.int rows), some (.int router), some (.int nd), some (.ref (N + 1)), some (.ref (N + 9)), some (.int (i7 + 1)), none, none, none, none]) ⟨rfl, rfl, rfl, rfl, rfl, rfl, rfl, rfl, trivial⟩ h
            · replace h := h.2 c46
              refine jv_iload dX3_goOn_162 rfl ?_
              refine jv_aload_n dX3_goOn_164 rfl ?_
              refine gf_3_15 rfl dX3_goOn_165 (kd_P_0 hP) (lt_P hP 0 rfl) (rf_P_0_1 hP) ?_
              refine jv_iload dX3_goOn_168 rfl ?_
              refine jm_iaload dX3_goOn_170 (kd_P_2 hP) (lt_P hP 2 rfl) b44 ?_
              refine jv_icmp_ge (t := 192) dX3_goOn_171 rfl (fun c47 => ?_) (fun c47 => ?_)
              · replace h := h.1 c47
                refine jv_iinc (v := i7 + 1) (ls' := [some (.ref P), some (.ref N), some (.int rows), some (.int router), some (.int nd), some (.ref (N + 1)), some (.ref (N + 9)), some (.int (i7 + 1)), some (.int v_1), some (.int i9_2), some (.int i10_3), some (.int v_4)]) dX3_goOn_192 (Nat.le_of_ble_eq_true rfl) rfl (by rw [ci_iconst_1]) rfl ?_
                refine jv_goto (t := 15) dX3_goOn_195 rfl ?_
                exact jm_sub (ls' := [some (.ref P), some (.ref N), some (.int rows), some (.int router), some (.int nd), some (.ref (N + 1)), some (.ref (N + 9)), some (.int (i7 + 1)), none, none, none, none]) ⟨rfl, rfl, rfl, rfl, rfl, rfl, rfl, rfl, trivial⟩ h
              · replace h := h.2 c47
                refine jv_aload_n dX3_goOn_174 rfl ?_
                refine gf_3_9 rfl dX3_goOn_175 (kd_P_0 hP) (lt_P hP 0 rfl) (rf_P_0_0 hP) ?_
                refine jv_iload dX3_goOn_178 rfl ?_
                refine jv_iload dX3_goOn_180 rfl ?_
                refine jm_iastore dX3_goOn_182 (kd_P_1 hP) (lt_P hP 1 rfl) b44 ?_
                generalize hhu7 : jw u (P + 1) v_1.toNatClampNeg i10_3 = u7
                replace h := h u7 hhu7.symm
                refine jv_aload_n dX3_goOn_183 rfl ?_
                refine gf_3_15 rfl dX3_goOn_184 (kd_P_0 hP) (lt_P hP 0 rfl) (rf_P_0_1 hP) ?_
                refine jv_iload dX3_goOn_187 rfl ?_
                refine jv_iload dX3_goOn_189 rfl ?_
                refine jm_iastore dX3_goOn_191 (kd_P_2 hP) (lt_P hP 2 rfl) b44 ?_
                generalize hhu8 : jw u7 (P + 2) v_1.toNatClampNeg v_4 = u8
                replace h := h u8 hhu8.symm
                refine jv_iinc (v := i7 + 1) (ls' := [some (.ref P), some (.ref N), some (.int rows), some (.int router), some (.int nd), some (.ref (N + 1)), some (.ref (N + 9)), some (.int (i7 + 1)), some (.int v_1), some (.int i9_2), some (.int i10_3), some (.int v_4)]) dX3_goOn_192 (Nat.le_of_ble_eq_true rfl) rfl (by rw [ci_iconst_1]) rfl ?_
                refine jv_goto (t := 15) dX3_goOn_195 rfl ?_
                exact jm_sub (ls' := [some (.ref P), some (.ref N), some (.int rows), some (.int router), some (.int nd), some (.ref (N + 1)), some (.ref (N + 9)), some (.int (i7 + 1)), none, none, none, none]) ⟨rfl, rfl, rfl, rfl, rfl, rfl, rfl, rfl, trivial⟩ h
        clear h
        refine jv_icmp_ne (t := 129) dX3_goOn_121 rfl (fun c49 => ?_) (fun c49 => ?_)
        · refine jv_aload_n dX3_goOn_129 rfl ?_
          refine gf_3_15 rfl dX3_goOn_130 (kd_P_0 hP) (lt_P hP 0 rfl) (rf_P_0_1 hP) ?_
          refine jv_iload dX3_goOn_133 rfl ?_
          refine jm_iaload dX3_goOn_135 (kd_P_2 hP) (lt_P hP 2 rfl) b41 ?_
          exact key48 _ (Eq.trans rfl (if_neg c49).symm)
        · refine jv_iload dX3_goOn_124 rfl ?_
          refine jv_goto (t := 136) dX3_goOn_126 rfl ?_
          exact key48 _ (Eq.trans rfl (if_pos c49).symm)
    clear h
    refine jv_icmp_ne (t := 49) dX3_goOn_35 rfl (fun c51 => ?_) (fun c51 => ?_)
    · refine jv_aload dX3_goOn_49 rfl ?_
      refine gf_3_50 rfl dX3_goOn_51 (kd_N_1 hN) (lt_N hN 1 rfl) (rf_N_1_1 hN) ?_
      refine jv_iload dX3_goOn_54 rfl ?_
      refine jm_iaload dX3_goOn_56 (kd_N_2 hN) (lt_N hN 2 rfl) b27 ?_
      exact key50 _ (Eq.trans rfl (if_neg c51).symm)
    · refine jv_aload dX3_goOn_38 rfl ?_
      refine gf_3_53 rfl dX3_goOn_40 (kd_N_1 hN) (lt_N hN 1 rfl) (rf_N_1_2 hN) ?_
      refine jv_iload dX3_goOn_43 rfl ?_
      refine jm_iaload dX3_goOn_45 (kd_N_3 hN) (lt_N hN 3 rfl) b27 ?_
      refine jv_goto (t := 57) dX3_goOn_46 rfl ?_
      exact key50 _ (Eq.trans rfl (if_pos c51).symm)
theorem g_X4_find_0 {E : JE} {u : JM} {K : JM → Prop} {N : Nat} (hN : isNet N) {router : Int32}
    (h : JCi E 2 YX1_areasOf [.ref (N + 1), .int router] (fun x1 u1 =>
 JVu E 4 YX4_find K 12 [some (.ref 109), some (.ref N), some (.int router), some (.int x1), some (.int 0)] [] u1) u)
    : JVu E 4 YX4_find K 0 [some (.ref 109), some (.ref N), some (.int router), none, none] [] u := by
  refine jv_aload_n dX4_find_0 rfl ?_
  refine gf_4_31 rfl dX4_find_1 (kd_N_0 hN) (lt_N hN 0 rfl) (rf_N_0_0 hN) ?_
  refine jv_iload_n dX4_find_4 rfl ?_
  refine jm_callVi [.int router] cw_4_37 dX4_find_5 rfl (Nat.le_of_ble_eq_true rfl) (kd_N_1 hN) (r := (RX1, TX1, 8)) rfl rfl (lt_N hN 1 rfl) (Nat.le_of_ble_eq_true rfl) (JCi.mono h (fun x1 u1 h => ?_))
  refine jv_istore_n (ls' := [some (.ref 109), some (.ref N), some (.int router), some (.int x1), none]) dX4_find_8 (Nat.le_of_ble_eq_true rfl) rfl ?_
  refine jv_iconst dX4_find_9 ci_iconst_0 ?_
  refine jv_istore (ls' := [some (.ref 109), some (.ref N), some (.int router), some (.int x1), some (.int 0)]) dX4_find_10 (Nat.le_of_ble_eq_true rfl) rfl ?_
  exact h
theorem g_X4_find_12 {E : JE} {u : JM} {K : JM → Prop} {N : Nat} (hN : isNet N) {router i3 i4 : Int32}
    (h : ((3 ≤ i4 → JVu E 4 YX4_find K 50 [some (.ref 109), some (.ref N), some (.int router), some (.int i3), some (.int 0)] [] u) ∧
 (¬ 3 ≤ i4 → ((((i3 >>> (i4 &&& 31)) &&& 1) = 0 → JVu E 4 YX4_find K 12 [some (.ref 109), some (.ref N), some (.int router), some (.int i3), some (.int (i4 + 1))] [] u) ∧
  (¬ ((i3 >>> (i4 &&& 31)) &&& 1) = 0 → vp_in i4 3 ∧
   JCu E 2 YX3_measure [.ref (115 + 4 * i4.toNatClampNeg), .ref N, .int router, .int i4] (fun u1 =>
   JVu E 4 YX4_find K 12 [some (.ref 109), some (.ref N), some (.int router), some (.int i3), some (.int (i4 + 1))] [] u1) u)))))
    : JVu E 4 YX4_find K 12 [some (.ref 109), some (.ref N), some (.int router), some (.int i3), some (.int i4)] [] u := by
  refine jv_iload dX4_find_12 rfl ?_
  refine jv_iconst dX4_find_14 ci_iconst_3 ?_
  refine jv_icmp_ge (t := 47) dX4_find_15 rfl (fun c1 => ?_) (fun c1 => ?_)
  · replace h := h.1 c1
    refine jv_iconst dX4_find_47 ci_iconst_0 ?_
    refine jv_istore (ls' := [some (.ref 109), some (.ref N), some (.int router), some (.int i3), some (.int 0)]) dX4_find_48 (Nat.le_of_ble_eq_true rfl) rfl ?_
    exact h
  · replace h := h.2 c1
    refine jv_iload_n dX4_find_18 rfl ?_
    refine jv_iload dX4_find_19 rfl ?_
    refine jv_ishr dX4_find_21 ?_
    refine jv_iconst dX4_find_22 ci_iconst_1 ?_
    refine jv_iand dX4_find_23 ?_
    refine jv_if_eq (t := 41) dX4_find_24 rfl (fun c3 => ?_) (fun c3 => ?_)
    · replace h := h.1 c3
      refine jv_iinc (v := i4 + 1) (ls' := [some (.ref 109), some (.ref N), some (.int router), some (.int i3), some (.int (i4 + 1))]) dX4_find_41 (Nat.le_of_ble_eq_true rfl) rfl (by rw [ci_iconst_1]) rfl ?_
      refine jv_goto (t := 12) dX4_find_44 rfl ?_
      exact h
    · replace h := h.2 c3
      refine jv_aload_n dX4_find_27 rfl ?_
      refine gf_4_27 rfl dX4_find_28 kd_c_109 (lt_c 109 rfl) rf_c_109_4 ?_
      refine jv_iload dX4_find_31 rfl ?_
      obtain ⟨b5, h⟩ := h
      refine jm_aaloadP dX4_find_33 kd_c_114 (lt_c 114 rfl) b5 (rf_r_114 _) ?_
      refine jv_aload_n dX4_find_34 rfl ?_
      refine jv_iload_n dX4_find_35 rfl ?_
      refine jv_iload dX4_find_36 rfl ?_
      refine jm_callVu [.ref N, .int router, .int i4] cw_4_43 dX4_find_38 rfl (Nat.le_of_ble_eq_true rfl) (kd_P_0 (isPaths_R (vp_lt b5))) (r := (RX3, TX3, 3)) rfl rfl (lt_P (isPaths_R (vp_lt b5)) 0 rfl) (Nat.le_of_ble_eq_true rfl) (JCu.mono h (fun u1 h => ?_))
      refine jv_iinc (v := i4 + 1) (ls' := [some (.ref 109), some (.ref N), some (.int router), some (.int i3), some (.int (i4 + 1))]) dX4_find_41 (Nat.le_of_ble_eq_true rfl) rfl (by rw [ci_iconst_1]) rfl ?_
      refine jv_goto (t := 12) dX4_find_44 rfl ?_
      exact h
theorem g_X4_find_50 {E : JE} {u : JM} {K : JM → Prop} {N : Nat} (hN : isNet N) {router i3 i4 : Int32}
    (h : ((8 ≤ i4 → K u) ∧
 (¬ 8 ≤ i4 → ∀ v_1 : Int32, v_1 = (if i4 = router then 0 else (-1)) →
  JCu E 1 YX4_take [.ref 109, .int i4, .int v_1, .int (-1), .int (-1)] (fun u2 =>
  vp_in i4 8 ∧
   ∀ u3, u3 = jw u2 113 i4.toNatClampNeg (-1) →
   ((i4 = router → JVu E 4 YX4_find K 50 [some (.ref 109), some (.ref N), some (.int router), some (.int i3), some (.int (i4 + 1))] [] u3) ∧
   (¬ i4 = router → JCu E 2 YX4_findInside [.ref 109, .int i3, .int i4] (fun u4 =>
    ((¬ (u4 110 i4.toNatClampNeg) = (-1) → JVu E 4 YX4_find K 50 [some (.ref 109), some (.ref N), some (.int router), some (.int i3), some (.int (i4 + 1))] [] u4) ∧
     ((u4 110 i4.toNatClampNeg) = (-1) → ∀ v_5 : Int32, v_5 = (if (jb (¬ i3 &&& 1 = 0 ∧ ¬ i3 = 1)) = 0 then i3 else 1) →
      JCu E 3 YX4_findAcross [.ref 109, .ref N, .int router, .int v_5, .int i4] (fun u6 =>
      JVu E 4 YX4_find K 50 [some (.ref 109), some (.ref N), some (.int router), some (.int i3), some (.int (i4 + 1))] [] u6) u4))) u3))) u)))
    : JVu E 4 YX4_find K 50 [some (.ref 109), some (.ref N), some (.int router), some (.int i3), some (.int i4)] [] u := by
  refine jv_iload dX4_find_50 rfl ?_
  refine jv_bipush dX4_find_52 ci_bipush_8 ?_
  refine jv_icmp_ge (t := 134) dX4_find_54 rfl (fun c1 => ?_) (fun c1 => ?_)
  · replace h := h.1 c1
    exact jm_return dX4_find_134 rfl h
  · replace h := h.2 c1
    refine jv_aload_n dX4_find_57 rfl ?_
    refine jv_iload dX4_find_58 rfl ?_
    refine jv_iload dX4_find_60 rfl ?_
    refine jv_iload_n dX4_find_62 rfl ?_
    have key9 : ∀ v_1 : Int32, v_1 = (if i4 = router then 0 else (-1)) → JVu E 4 YX4_find K 71 [some (.ref 109), some (.ref N), some (.int router), some (.int i3), some (.int i4)] [.int v_1, .int i4, .ref 109] u := by
      intro v_1 hv_1
      replace h := h v_1 hv_1
      refine jv_iconst dX4_find_71 ci_iconst_m1 ?_
      refine jv_iconst dX4_find_72 ci_iconst_m1 ?_
      refine jm_callVu [.int i4, .int v_1, .int (-1), .int (-1)] cw_4_47 dX4_find_73 rfl (Nat.le_of_ble_eq_true rfl) kd_c_109 (r := (RX4, TX4, 5)) rfl rfl (lt_c 109 rfl) (Nat.le_of_ble_eq_true rfl) (JCu.mono h (fun u2 h => ?_))
      refine jv_aload_n dX4_find_76 rfl ?_
      refine gf_4_21 rfl dX4_find_77 kd_c_109 (lt_c 109 rfl) rf_c_109_3 ?_
      refine jv_iload dX4_find_80 rfl ?_
      refine jv_iconst dX4_find_82 ci_iconst_m1 ?_
      obtain ⟨b3, h⟩ := h
      refine jm_iastore dX4_find_83 kd_c_113 (lt_c 113 rfl) b3 ?_
      generalize hhu3 : jw u2 113 i4.toNatClampNeg (-1) = u3
      replace h := h u3 hhu3.symm
      refine jv_iload dX4_find_84 rfl ?_
      refine jv_iload_n dX4_find_86 rfl ?_
      refine jv_icmp_eq (t := 128) dX4_find_87 rfl (fun c4 => ?_) (fun c4 => ?_)
      · replace h := h.1 c4
        refine jv_iinc (v := i4 + 1) (ls' := [some (.ref 109), some (.ref N), some (.int router), some (.int i3), some (.int (i4 + 1))]) dX4_find_128 (Nat.le_of_ble_eq_true rfl) rfl (by rw [ci_iconst_1]) rfl ?_
        refine jv_goto (t := 50) dX4_find_131 rfl ?_
        exact h
      · replace h := h.2 c4
        refine jv_aload_n dX4_find_90 rfl ?_
        refine jv_iload_n dX4_find_91 rfl ?_
        refine jv_iload dX4_find_92 rfl ?_
        refine jm_callVu [.int i3, .int i4] cw_4_51 dX4_find_94 rfl (Nat.le_of_ble_eq_true rfl) kd_c_109 (r := (RX4, TX4, 5)) rfl rfl (lt_c 109 rfl) (Nat.le_of_ble_eq_true rfl) (JCu.mono h (fun u4 h => ?_))
        refine jv_aload_n dX4_find_97 rfl ?_
        refine gf_4_9 rfl dX4_find_98 kd_c_109 (lt_c 109 rfl) rf_c_109_0 ?_
        refine jv_iload dX4_find_101 rfl ?_
        refine jm_iaload dX4_find_103 kd_c_110 (lt_c 110 rfl) b3 ?_
        refine jv_iconst dX4_find_104 ci_iconst_m1 ?_
        refine jv_icmp_ne (t := 128) dX4_find_105 rfl (fun c5 => ?_) (fun c5 => ?_)
        · replace h := h.1 c5
          refine jv_iinc (v := i4 + 1) (ls' := [some (.ref 109), some (.ref N), some (.int router), some (.int i3), some (.int (i4 + 1))]) dX4_find_128 (Nat.le_of_ble_eq_true rfl) rfl (by rw [ci_iconst_1]) rfl ?_
          refine jv_goto (t := 50) dX4_find_131 rfl ?_
          exact h
        · replace h := h.2 c5
          refine jv_aload_n dX4_find_108 rfl ?_
          refine jv_aload_n dX4_find_109 rfl ?_
          refine jv_iload_n dX4_find_110 rfl ?_
          refine jv_iload_n dX4_find_111 rfl ?_
          refine jm_callSNi [.int i3] cw_4_55 dX4_find_112 rfl (Nat.le_of_ble_eq_true rfl) (Nat.le_of_ble_eq_true rfl) (p_X7_isBorder  ?_)
          have key7 : ∀ v_5 : Int32, v_5 = (if (jb (¬ i3 &&& 1 = 0 ∧ ¬ i3 = 1)) = 0 then i3 else 1) → JVu E 4 YX4_find K 123 [some (.ref 109), some (.ref N), some (.int router), some (.int i3), some (.int i4)] [.int v_5, .int router, .ref N, .ref 109] u4 := by
            intro v_5 hv_5
            replace h := h v_5 hv_5
            refine jv_iload dX4_find_123 rfl ?_
            refine jm_callVu [.ref N, .int router, .int v_5, .int i4] cw_4_59 dX4_find_125 rfl (Nat.le_of_ble_eq_true rfl) kd_c_109 (r := (RX4, TX4, 5)) rfl rfl (lt_c 109 rfl) (Nat.le_of_ble_eq_true rfl) (JCu.mono h (fun u6 h => ?_))
            refine jv_iinc (v := i4 + 1) (ls' := [some (.ref 109), some (.ref N), some (.int router), some (.int i3), some (.int (i4 + 1))]) dX4_find_128 (Nat.le_of_ble_eq_true rfl) rfl (by rw [ci_iconst_1]) rfl ?_
            refine jv_goto (t := 50) dX4_find_131 rfl ?_
            exact h
          clear h
          refine jv_if_eq (t := 122) dX4_find_115 rfl (fun c8 => ?_) (fun c8 => ?_)
          · refine jv_iload_n dX4_find_122 rfl ?_
            exact key7 _ (Eq.trans rfl (if_pos c8).symm)
          · refine jv_iconst dX4_find_118 ci_iconst_1 ?_
            refine jv_goto (t := 123) dX4_find_119 rfl ?_
            exact key7 _ (Eq.trans rfl (if_neg c8).symm)
    clear h
    refine jv_icmp_ne (t := 70) dX4_find_63 rfl (fun c10 => ?_) (fun c10 => ?_)
    · refine jv_iconst dX4_find_70 ci_iconst_m1 ?_
      exact key9 _ (Eq.trans rfl (if_neg c10).symm)
    · refine jv_iconst dX4_find_66 ci_iconst_0 ?_
      refine jv_goto (t := 71) dX4_find_67 rfl ?_
      exact key9 _ (Eq.trans rfl (if_pos c10).symm)
theorem g_X4_findInside_0 {E : JE} {u : JM} {K : JM → Prop}  {a1 a2 : Int32}
    (h : JVu E 2 YX4_findInside K 7 [some (.ref 109), some (.int a1), some (.int a2), some (.int 9999), some (.int 0)] [] u)
    : JVu E 2 YX4_findInside K 0 [some (.ref 109), some (.int a1), some (.int a2), none, none] [] u := by
  refine jv_sipush dX4_findInside_0 ci_sipush_9999 ?_
  refine jv_istore_n (ls' := [some (.ref 109), some (.int a1), some (.int a2), some (.int 9999), none]) dX4_findInside_3 (Nat.le_of_ble_eq_true rfl) rfl ?_
  refine jv_iconst dX4_findInside_4 ci_iconst_0 ?_
  refine jv_istore (ls' := [some (.ref 109), some (.int a1), some (.int a2), some (.int 9999), some (.int 0)]) dX4_findInside_5 (Nat.le_of_ble_eq_true rfl) rfl ?_
  exact h
theorem g_X4_findInside_7 {E : JE} {u : JM} {K : JM → Prop}  {a1 a2 i3 i4 : Int32}
    (h : ((3 ≤ i4 → K u) ∧
 (¬ 3 ≤ i4 → ((((a1 >>> (i4 &&& 31)) &&& 1) = 0 → JVu E 2 YX4_findInside K 7 [some (.ref 109), some (.int a1), some (.int a2), some (.int i3), some (.int (i4 + 1))] [] u) ∧
  (¬ ((a1 >>> (i4 &&& 31)) &&& 1) = 0 → vp_in i4 3 ∧
   vp_in a2 8 ∧
   ((i3 ≤ (u ((115 + 4 * i4.toNatClampNeg) + 1) a2.toNatClampNeg) → JVu E 2 YX4_findInside K 7 [some (.ref 109), some (.int a1), some (.int a2), some (.int i3), some (.int (i4 + 1))] [] u) ∧
   (¬ i3 ≤ (u ((115 + 4 * i4.toNatClampNeg) + 1) a2.toNatClampNeg) → ∀ i3_1 : Int32, i3_1 = u ((115 + 4 * i4.toNatClampNeg) + 1) a2.toNatClampNeg →
    JCu E 1 YX4_take [.ref 109, .int a2, .int i3_1, .int (u ((115 + 4 * i4.toNatClampNeg) + 2) a2.toNatClampNeg), .int i4] (fun u2 =>
    JVu E 2 YX4_findInside K 7 [some (.ref 109), some (.int a1), some (.int a2), some (.int i3_1), some (.int (i4 + 1))] [] u2) u)))))))
    : JVu E 2 YX4_findInside K 7 [some (.ref 109), some (.int a1), some (.int a2), some (.int i3), some (.int i4)] [] u := by
  refine jv_iload dX4_findInside_7 rfl ?_
  refine jv_iconst dX4_findInside_9 ci_iconst_3 ?_
  refine jv_icmp_ge (t := 77) dX4_findInside_10 rfl (fun c1 => ?_) (fun c1 => ?_)
  · replace h := h.1 c1
    exact jm_return dX4_findInside_77 rfl h
  · replace h := h.2 c1
    refine jv_iload_n dX4_findInside_13 rfl ?_
    refine jv_iload dX4_findInside_14 rfl ?_
    refine jv_ishr dX4_findInside_16 ?_
    refine jv_iconst dX4_findInside_17 ci_iconst_1 ?_
    refine jv_iand dX4_findInside_18 ?_
    refine jv_if_eq (t := 71) dX4_findInside_19 rfl (fun c6 => ?_) (fun c6 => ?_)
    · replace h := h.1 c6
      refine jv_iinc (v := i4 + 1) (ls' := [some (.ref 109), some (.int a1), some (.int a2), some (.int i3), some (.int (i4 + 1))]) dX4_findInside_71 (Nat.le_of_ble_eq_true rfl) rfl (by rw [ci_iconst_1]) rfl ?_
      refine jv_goto (t := 7) dX4_findInside_74 rfl ?_
      exact h
    · replace h := h.2 c6
      refine jv_aload_n dX4_findInside_22 rfl ?_
      refine gf_4_27 rfl dX4_findInside_23 kd_c_109 (lt_c 109 rfl) rf_c_109_4 ?_
      refine jv_iload dX4_findInside_26 rfl ?_
      obtain ⟨b11, h⟩ := h
      refine jm_aaloadP dX4_findInside_28 kd_c_114 (lt_c 114 rfl) b11 (rf_r_114 _) ?_
      refine gf_4_63 rfl dX4_findInside_29 (kd_P_0 (isPaths_R (vp_lt b11))) (lt_P (isPaths_R (vp_lt b11)) 0 rfl) (rf_P_0_0 (isPaths_R (vp_lt b11))) ?_
      refine jv_iload_n dX4_findInside_32 rfl ?_
      obtain ⟨b12, h⟩ := h
      refine jm_iaload dX4_findInside_33 (kd_P_1 (isPaths_R (vp_lt b11))) (lt_P (isPaths_R (vp_lt b11)) 1 rfl) b12 ?_
      refine jv_iload_n dX4_findInside_34 rfl ?_
      refine jv_icmp_ge (t := 71) dX4_findInside_35 rfl (fun c13 => ?_) (fun c13 => ?_)
      · replace h := h.1 c13
        refine jv_iinc (v := i4 + 1) (ls' := [some (.ref 109), some (.int a1), some (.int a2), some (.int i3), some (.int (i4 + 1))]) dX4_findInside_71 (Nat.le_of_ble_eq_true rfl) rfl (by rw [ci_iconst_1]) rfl ?_
        refine jv_goto (t := 7) dX4_findInside_74 rfl ?_
        exact h
      · replace h := h.2 c13
        refine jv_aload_n dX4_findInside_38 rfl ?_
        refine gf_4_27 rfl dX4_findInside_39 kd_c_109 (lt_c 109 rfl) rf_c_109_4 ?_
        refine jv_iload dX4_findInside_42 rfl ?_
        refine jm_aaloadP dX4_findInside_44 kd_c_114 (lt_c 114 rfl) b11 (rf_r_114 _) ?_
        refine gf_4_63 rfl dX4_findInside_45 (kd_P_0 (isPaths_R (vp_lt b11))) (lt_P (isPaths_R (vp_lt b11)) 0 rfl) (rf_P_0_0 (isPaths_R (vp_lt b11))) ?_
        refine jv_iload_n dX4_findInside_48 rfl ?_
        refine jm_iaload dX4_findInside_49 (kd_P_1 (isPaths_R (vp_lt b11))) (lt_P (isPaths_R (vp_lt b11)) 1 rfl) b12 ?_
        generalize hhi3_1 : u ((115 + 4 * i4.toNatClampNeg) + 1) a2.toNatClampNeg = i3_1
        replace h := h i3_1 hhi3_1.symm
        refine jv_istore_n (ls' := [some (.ref 109), some (.int a1), some (.int a2), some (.int i3_1), some (.int i4)]) dX4_findInside_50 (Nat.le_of_ble_eq_true rfl) rfl ?_
        refine jv_aload_n dX4_findInside_51 rfl ?_
        refine jv_iload_n dX4_findInside_52 rfl ?_
        refine jv_iload_n dX4_findInside_53 rfl ?_
        refine jv_aload_n dX4_findInside_54 rfl ?_
        refine gf_4_27 rfl dX4_findInside_55 kd_c_109 (lt_c 109 rfl) rf_c_109_4 ?_
        refine jv_iload dX4_findInside_58 rfl ?_
        refine jm_aaloadP dX4_findInside_60 kd_c_114 (lt_c 114 rfl) b11 (rf_r_114 _) ?_
        refine gf_4_66 rfl dX4_findInside_61 (kd_P_0 (isPaths_R (vp_lt b11))) (lt_P (isPaths_R (vp_lt b11)) 0 rfl) (rf_P_0_1 (isPaths_R (vp_lt b11))) ?_
        refine jv_iload_n dX4_findInside_64 rfl ?_
        refine jm_iaload dX4_findInside_65 (kd_P_2 (isPaths_R (vp_lt b11))) (lt_P (isPaths_R (vp_lt b11)) 2 rfl) b12 ?_
        refine jv_iload dX4_findInside_66 rfl ?_
        refine jm_callVu [.int a2, .int i3_1, .int (u ((115 + 4 * i4.toNatClampNeg) + 2) a2.toNatClampNeg), .int i4] cw_4_47 dX4_findInside_68 rfl (Nat.le_of_ble_eq_true rfl) kd_c_109 (r := (RX4, TX4, 5)) rfl rfl (lt_c 109 rfl) (Nat.le_of_ble_eq_true rfl) (JCu.mono h (fun u2 h => ?_))
        refine jv_iinc (v := i4 + 1) (ls' := [some (.ref 109), some (.int a1), some (.int a2), some (.int i3_1), some (.int (i4 + 1))]) dX4_findInside_71 (Nat.le_of_ble_eq_true rfl) rfl (by rw [ci_iconst_1]) rfl ?_
        refine jv_goto (t := 7) dX4_findInside_74 rfl ?_
        exact h
theorem g_X4_findAcross_0 {E : JE} {u : JM} {K : JM → Prop} {N : Nat} (hN : isNet N) {router areas to : Int32}
    (h : JVu E 3 YX4_findAcross K 8 [some (.ref 109), some (.ref N), some (.int router), some (.int areas), some (.int to), some (.int 9999), some (.int 0), none, none] [] u)
    : JVu E 3 YX4_findAcross K 0 [some (.ref 109), some (.ref N), some (.int router), some (.int areas), some (.int to), none, none, none, none] [] u := by
  refine jv_sipush dX4_findAcross_0 ci_sipush_9999 ?_
  refine jv_istore (ls' := [some (.ref 109), some (.ref N), some (.int router), some (.int areas), some (.int to), some (.int 9999), none, none, none]) dX4_findAcross_3 (Nat.le_of_ble_eq_true rfl) rfl ?_
  refine jv_iconst dX4_findAcross_5 ci_iconst_0 ?_
  refine jv_istore (ls' := [some (.ref 109), some (.ref N), some (.int router), some (.int areas), some (.int to), some (.int 9999), some (.int 0), none, none]) dX4_findAcross_6 (Nat.le_of_ble_eq_true rfl) rfl ?_
  exact h
theorem g_X4_findAcross_8 {E : JE} {u : JM} {K : JM → Prop} {N : Nat} (hN : isNet N) {router areas to i5 i6 : Int32}
    (h : ((3 ≤ i6 → K u) ∧
 (¬ 3 ≤ i6 → ((((areas >>> (i6 &&& 31)) &&& 1) = 0 → JVu E 3 YX4_findAcross K 8 [some (.ref 109), some (.ref N), some (.int router), some (.int areas), some (.int to), some (.int i5), some (.int (i6 + 1)), none, none] [] u) ∧
  (¬ ((areas >>> (i6 &&& 31)) &&& 1) = 0 → vp_in i6 3 ∧
   JCi E 2 YX2_teller [.ref N, .ref (115 + 4 * i6.toNatClampNeg), .int router, .int i6, .int to] (fun x1 u1 =>
   ((x1 = (-1) → JVu E 3 YX4_findAcross K 8 [some (.ref 109), some (.ref N), some (.int router), some (.int areas), some (.int to), some (.int i5), some (.int (i6 + 1)), none, none] [] u1) ∧
    (¬ x1 = (-1) → vp_in (((router * 3 + i6) * 8 + x1) - ((router * 3 + i6) * 8 + x1) / 8 * 8) 8 ∧
     vp_in (((router * 3 + i6) * 8 + x1) * 8 + to) 1536 ∧
     ∀ i8_2 : Int32, i8_2 = u1 ((115 + 4 * i6.toNatClampNeg) + 1) (((router * 3 + i6) * 8 + x1) - ((router * 3 + i6) * 8 + x1) / 8 * 8).toNatClampNeg + u1 (N + 14) (((router * 3 + i6) * 8 + x1) * 8 + to).toNatClampNeg →
     ((i5 ≤ i8_2 → JVu E 3 YX4_findAcross K 8 [some (.ref 109), some (.ref N), some (.int router), some (.int areas), some (.int to), some (.int i5), some (.int (i6 + 1)), none, none] [] u1) ∧
     (¬ i5 ≤ i8_2 → vp_in x1 8 ∧
      JCu E 1 YX4_take [.ref 109, .int to, .int i8_2, .int (u1 ((115 + 4 * i6.toNatClampNeg) + 2) x1.toNatClampNeg), .int i6] (fun u3 =>
      vp_in to 8 ∧
       ∀ u4, u4 = jw u3 113 to.toNatClampNeg x1 →
       JVu E 3 YX4_findAcross K 8 [some (.ref 109), some (.ref N), some (.int router), some (.int areas), some (.int to), some (.int i8_2), some (.int (i6 + 1)), none, none] [] u4) u1))))) u)))))
    : JVu E 3 YX4_findAcross K 8 [some (.ref 109), some (.ref N), some (.int router), some (.int areas), some (.int to), some (.int i5), some (.int i6), none, none] [] u := by
  refine jv_iload dX4_findAcross_8 rfl ?_
  refine jv_iconst dX4_findAcross_10 ci_iconst_3 ?_
  refine jv_icmp_ge (t := 123) dX4_findAcross_11 rfl (fun c1 => ?_) (fun c1 => ?_)
  · replace h := h.1 c1
    exact jm_return dX4_findAcross_123 rfl h
  · replace h := h.2 c1
    refine jv_iload_n dX4_findAcross_14 rfl ?_
    refine jv_iload dX4_findAcross_15 rfl ?_
    refine jv_ishr dX4_findAcross_17 ?_
    refine jv_iconst dX4_findAcross_18 ci_iconst_1 ?_
    refine jv_iand dX4_findAcross_19 ?_
    refine jv_if_eq (t := 42) dX4_findAcross_20 rfl (fun c3 => ?_) (fun c3 => ?_)
    · replace h := h.1 c3
      refine jv_iconst dX4_findAcross_42 ci_iconst_m1 ?_
      refine jv_istore (ls' := [some (.ref 109), some (.ref N), some (.int router), some (.int areas), some (.int to), some (.int i5), some (.int i6), some (.int (-1)), none]) dX4_findAcross_43 (Nat.le_of_ble_eq_true rfl) rfl ?_
      refine jv_iload dX4_findAcross_45 rfl ?_
      refine jv_iconst dX4_findAcross_47 ci_iconst_m1 ?_
      refine jv_icmp_eq (t := 117) dX4_findAcross_48 rfl (fun c5 => ?_) (fun c5 => ?_)
      · refine jv_iinc (v := i6 + 1) (ls' := [some (.ref 109), some (.ref N), some (.int router), some (.int areas), some (.int to), some (.int i5), some (.int (i6 + 1)), some (.int (-1)), none]) dX4_findAcross_117 (Nat.le_of_ble_eq_true rfl) rfl (by rw [ci_iconst_1]) rfl ?_
        refine jv_goto (t := 8) dX4_findAcross_120 rfl ?_
        exact jm_sub (ls' := [some (.ref 109), some (.ref N), some (.int router), some (.int areas), some (.int to), some (.int i5), some (.int (i6 + 1)), none, none]) ⟨rfl, rfl, rfl, rfl, rfl, rfl, rfl, trivial⟩ h
      · exact False.elim (by revert c5; decide)
    · replace h := h.2 c3
      refine jv_aload_n dX4_findAcross_23 rfl ?_
      refine jv_aload_n dX4_findAcross_24 rfl ?_
      refine gf_4_27 rfl dX4_findAcross_25 kd_c_109 (lt_c 109 rfl) rf_c_109_4 ?_
      refine jv_iload dX4_findAcross_28 rfl ?_
      obtain ⟨b6, h⟩ := h
      refine jm_aaloadP dX4_findAcross_30 kd_c_114 (lt_c 114 rfl) b6 (rf_r_114 _) ?_
      refine jv_iload_n dX4_findAcross_31 rfl ?_
      refine jv_iload dX4_findAcross_32 rfl ?_
      refine jv_iload dX4_findAcross_34 rfl ?_
      refine jm_callVi [.ref (115 + 4 * i6.toNatClampNeg), .int router, .int i6, .int to] cw_4_67 dX4_findAcross_36 rfl (Nat.le_of_ble_eq_true rfl) (kd_N_0 hN) (r := (RX2, TX2, 13)) rfl rfl (lt_N hN 0 rfl) (Nat.le_of_ble_eq_true rfl) (JCi.mono h (fun x1 u1 h => ?_))
      refine jv_goto (t := 43) dX4_findAcross_39 rfl ?_
      refine jv_istore (ls' := [some (.ref 109), some (.ref N), some (.int router), some (.int areas), some (.int to), some (.int i5), some (.int i6), some (.int x1), none]) dX4_findAcross_43 (Nat.le_of_ble_eq_true rfl) rfl ?_
      refine jv_iload dX4_findAcross_45 rfl ?_
      refine jv_iconst dX4_findAcross_47 ci_iconst_m1 ?_
      refine jv_icmp_eq (t := 117) dX4_findAcross_48 rfl (fun c7 => ?_) (fun c7 => ?_)
      · replace h := h.1 c7
        refine jv_iinc (v := i6 + 1) (ls' := [some (.ref 109), some (.ref N), some (.int router), some (.int areas), some (.int to), some (.int i5), some (.int (i6 + 1)), some (.int x1), none]) dX4_findAcross_117 (Nat.le_of_ble_eq_true rfl) rfl (by rw [ci_iconst_1]) rfl ?_
        refine jv_goto (t := 8) dX4_findAcross_120 rfl ?_
        exact jm_sub (ls' := [some (.ref 109), some (.ref N), some (.int router), some (.int areas), some (.int to), some (.int i5), some (.int (i6 + 1)), none, none]) ⟨rfl, rfl, rfl, rfl, rfl, rfl, rfl, trivial⟩ h
      · replace h := h.2 c7
        refine jv_aload_n dX4_findAcross_51 rfl ?_
        refine jv_aload_n dX4_findAcross_52 rfl ?_
        refine gf_4_27 rfl dX4_findAcross_53 kd_c_109 (lt_c 109 rfl) rf_c_109_4 ?_
        refine jv_iload dX4_findAcross_56 rfl ?_
        refine jm_aaloadP dX4_findAcross_58 kd_c_114 (lt_c 114 rfl) b6 (rf_r_114 _) ?_
        refine jv_iload_n dX4_findAcross_59 rfl ?_
        refine jv_iload dX4_findAcross_60 rfl ?_
        refine jv_iload dX4_findAcross_62 rfl ?_
        refine jm_callSNi [.int router, .int i6, .int x1] cw_4_71 dX4_findAcross_64 rfl (Nat.le_of_ble_eq_true rfl) (Nat.le_of_ble_eq_true rfl) (p_X7_rowOf  ?_)
        refine jv_iload dX4_findAcross_67 rfl ?_
        obtain ⟨b11, h⟩ := h
        obtain ⟨b12, h⟩ := h
        refine jm_callVi [.ref (115 + 4 * i6.toNatClampNeg), .int ((router * 3 + i6) * 8 + x1), .int to] cw_4_75 dX4_findAcross_69 rfl (Nat.le_of_ble_eq_true rfl) (kd_N_0 hN) (r := (RX2, TX2, 13)) rfl rfl (lt_N hN 0 rfl) (Nat.le_of_ble_eq_true rfl) (p_X2_costBy hN (isPaths_R (vp_lt b6)) b11 b12 ?_)
        generalize hhi8_2 : u1 ((115 + 4 * i6.toNatClampNeg) + 1) (((router * 3 + i6) * 8 + x1) - ((router * 3 + i6) * 8 + x1) / 8 * 8).toNatClampNeg + u1 (N + 14) (((router * 3 + i6) * 8 + x1) * 8 + to).toNatClampNeg = i8_2
        replace h := h i8_2 hhi8_2.symm
        refine jv_istore (ls' := [some (.ref 109), some (.ref N), some (.int router), some (.int areas), some (.int to), some (.int i5), some (.int i6), some (.int x1), some (.int i8_2)]) dX4_findAcross_72 (Nat.le_of_ble_eq_true rfl) rfl ?_
        refine jv_iload dX4_findAcross_74 rfl ?_
        refine jv_iload dX4_findAcross_76 rfl ?_
        refine jv_icmp_ge (t := 117) dX4_findAcross_78 rfl (fun c13 => ?_) (fun c13 => ?_)
        · replace h := h.1 c13
          refine jv_iinc (v := i6 + 1) (ls' := [some (.ref 109), some (.ref N), some (.int router), some (.int areas), some (.int to), some (.int i5), some (.int (i6 + 1)), some (.int x1), some (.int i8_2)]) dX4_findAcross_117 (Nat.le_of_ble_eq_true rfl) rfl (by rw [ci_iconst_1]) rfl ?_
          refine jv_goto (t := 8) dX4_findAcross_120 rfl ?_
          exact jm_sub (ls' := [some (.ref 109), some (.ref N), some (.int router), some (.int areas), some (.int to), some (.int i5), some (.int (i6 + 1)), none, none]) ⟨rfl, rfl, rfl, rfl, rfl, rfl, rfl, trivial⟩ h
        · replace h := h.2 c13
          refine jv_iload dX4_findAcross_81 rfl ?_
          refine jv_istore (ls' := [some (.ref 109), some (.ref N), some (.int router), some (.int areas), some (.int to), some (.int i8_2), some (.int i6), some (.int x1), some (.int i8_2)]) dX4_findAcross_83 (Nat.le_of_ble_eq_true rfl) rfl ?_
          refine jv_aload_n dX4_findAcross_85 rfl ?_
          refine jv_iload dX4_findAcross_86 rfl ?_
          refine jv_iload dX4_findAcross_88 rfl ?_
          refine jv_aload_n dX4_findAcross_90 rfl ?_
          refine gf_4_27 rfl dX4_findAcross_91 kd_c_109 (lt_c 109 rfl) rf_c_109_4 ?_
          refine jv_iload dX4_findAcross_94 rfl ?_
          refine jm_aaloadP dX4_findAcross_96 kd_c_114 (lt_c 114 rfl) b6 (rf_r_114 _) ?_
          refine gf_4_66 rfl dX4_findAcross_97 (kd_P_0 (isPaths_R (vp_lt b6))) (lt_P (isPaths_R (vp_lt b6)) 0 rfl) (rf_P_0_1 (isPaths_R (vp_lt b6))) ?_
          refine jv_iload dX4_findAcross_100 rfl ?_
          obtain ⟨b15, h⟩ := h
          refine jm_iaload dX4_findAcross_102 (kd_P_2 (isPaths_R (vp_lt b6))) (lt_P (isPaths_R (vp_lt b6)) 2 rfl) b15 ?_
          refine jv_iload dX4_findAcross_103 rfl ?_
          refine jm_callVu [.int to, .int i8_2, .int (u1 ((115 + 4 * i6.toNatClampNeg) + 2) x1.toNatClampNeg), .int i6] cw_4_47 dX4_findAcross_105 rfl (Nat.le_of_ble_eq_true rfl) kd_c_109 (r := (RX4, TX4, 5)) rfl rfl (lt_c 109 rfl) (Nat.le_of_ble_eq_true rfl) (JCu.mono h (fun u3 h => ?_))
          refine jv_aload_n dX4_findAcross_108 rfl ?_
          refine gf_4_21 rfl dX4_findAcross_109 kd_c_109 (lt_c 109 rfl) rf_c_109_3 ?_
          refine jv_iload dX4_findAcross_112 rfl ?_
          refine jv_iload dX4_findAcross_114 rfl ?_
          obtain ⟨b16, h⟩ := h
          refine jm_iastore dX4_findAcross_116 kd_c_113 (lt_c 113 rfl) b16 ?_
          generalize hhu4 : jw u3 113 to.toNatClampNeg x1 = u4
          replace h := h u4 hhu4.symm
          refine jv_iinc (v := i6 + 1) (ls' := [some (.ref 109), some (.ref N), some (.int router), some (.int areas), some (.int to), some (.int i8_2), some (.int (i6 + 1)), some (.int x1), some (.int i8_2)]) dX4_findAcross_117 (Nat.le_of_ble_eq_true rfl) rfl (by rw [ci_iconst_1]) rfl ?_
          refine jv_goto (t := 8) dX4_findAcross_120 rfl ?_
          exact jm_sub (ls' := [some (.ref 109), some (.ref N), some (.int router), some (.int areas), some (.int to), some (.int i8_2), some (.int (i6 + 1)), none, none]) ⟨rfl, rfl, rfl, rfl, rfl, rfl, rfl, trivial⟩ h
theorem g_X4_take_0 {E : JE} {u : JM} {K : JM → Prop}  {a1 a2 a3 a4 : Int32}
    (h : vp_in a1 8 ∧
 ∀ u1, u1 = jw u 110 a1.toNatClampNeg a2 →
 ∀ u2, u2 = jw u1 111 a1.toNatClampNeg a3 →
 ∀ u3, u3 = jw u2 112 a1.toNatClampNeg a4 →
 K u3)
    : JVu E 1 YX4_take K 0 [some (.ref 109), some (.int a1), some (.int a2), some (.int a3), some (.int a4)] [] u := by
  refine jv_aload_n dX4_take_0 rfl ?_
  refine gf_4_9 rfl dX4_take_1 kd_c_109 (lt_c 109 rfl) rf_c_109_0 ?_
  refine jv_iload_n dX4_take_4 rfl ?_
  refine jv_iload_n dX4_take_5 rfl ?_
  obtain ⟨b1, h⟩ := h
  refine jm_iastore dX4_take_6 kd_c_110 (lt_c 110 rfl) b1 ?_
  generalize hhu1 : jw u 110 a1.toNatClampNeg a2 = u1
  replace h := h u1 hhu1.symm
  refine jv_aload_n dX4_take_7 rfl ?_
  refine gf_4_15 rfl dX4_take_8 kd_c_109 (lt_c 109 rfl) rf_c_109_1 ?_
  refine jv_iload_n dX4_take_11 rfl ?_
  refine jv_iload_n dX4_take_12 rfl ?_
  refine jm_iastore dX4_take_13 kd_c_111 (lt_c 111 rfl) b1 ?_
  generalize hhu2 : jw u1 111 a1.toNatClampNeg a3 = u2
  replace h := h u2 hhu2.symm
  refine jv_aload_n dX4_take_14 rfl ?_
  refine gf_4_18 rfl dX4_take_15 kd_c_109 (lt_c 109 rfl) rf_c_109_2 ?_
  refine jv_iload_n dX4_take_18 rfl ?_
  refine jv_iload dX4_take_19 rfl ?_
  refine jm_iastore dX4_take_21 kd_c_112 (lt_c 112 rfl) b1 ?_
  generalize hhu3 : jw u2 112 a1.toNatClampNeg a4 = u3
  replace h := h u3 hhu3.symm
  exact jm_return dX4_take_22 rfl h
theorem g_X5_become_0 {E : JE} {u : JM} {K : JM → Prop}  {a1 a2 a3 : Int32}
    (h : vp_in a1 4 ∧
 ∀ u1, u1 = jw u 130 a1.toNatClampNeg a2 →
 ∀ u2, u2 = jw u1 131 a1.toNatClampNeg a3 →
 JCu E 1 YJ7_fill_53178 [.ref (133 + a1.toNatClampNeg), .int 0] (fun u3 =>
 K u3) u2)
    : JVu E 2 YX5_become K 0 [some (.ref 129), some (.int a1), some (.int a2), some (.int a3)] [] u := by
  refine jv_aload_n dX5_become_0 rfl ?_
  refine gf_5_9 rfl dX5_become_1 kd_c_129 (lt_c 129 rfl) rf_c_129_0 ?_
  refine jv_iload_n dX5_become_4 rfl ?_
  refine jv_iload_n dX5_become_5 rfl ?_
  obtain ⟨b1, h⟩ := h
  refine jm_iastore dX5_become_6 kd_c_130 (lt_c 130 rfl) b1 ?_
  generalize hhu1 : jw u 130 a1.toNatClampNeg a2 = u1
  replace h := h u1 hhu1.symm
  refine jv_aload_n dX5_become_7 rfl ?_
  refine gf_5_15 rfl dX5_become_8 kd_c_129 (lt_c 129 rfl) rf_c_129_1 ?_
  refine jv_iload_n dX5_become_11 rfl ?_
  refine jv_iload_n dX5_become_12 rfl ?_
  refine jm_iastore dX5_become_13 kd_c_131 (lt_c 131 rfl) b1 ?_
  generalize hhu2 : jw u1 131 a1.toNatClampNeg a3 = u2
  replace h := h u2 hhu2.symm
  refine jv_aload_n dX5_become_14 rfl ?_
  refine gf_5_20 rfl dX5_become_15 kd_c_129 (lt_c 129 rfl) rf_c_129_2 ?_
  refine jv_iload_n dX5_become_18 rfl ?_
  refine jm_aaload1 dX5_become_19 kd_c_132 (lt_c 132 rfl) b1 (rf_r_132 _) ?_
  refine jv_iconst dX5_become_20 ci_iconst_0 ?_
  refine jm_callSu [.ref (133 + a1.toNatClampNeg), .int 0] cw_5_23 dX5_become_21 rfl (Nat.le_of_ble_eq_true rfl) (Nat.le_of_ble_eq_true rfl) (JCu.mono h (fun u3 h => ?_))
  exact jm_return dX5_become_24 rfl h
theorem g_X5_put_0 {E : JE} {u : JM} {K : JM → Prop}  {a1 a2 a3 : Int32}
    (h : vp_in a1 4 ∧
 ∀ v_1 : Int32, v_1 = (if (u 130 a1.toNatClampNeg) = 0 then a3.toInt16.toInt32 else a3) →
 vp_in a2 40 ∧
 ∀ u2, u2 = jw u (133 + a1.toNatClampNeg) a2.toNatClampNeg v_1 →
 K u2)
    : JVu E 1 YX5_put K 0 [some (.ref 129), some (.int a1), some (.int a2), some (.int a3)] [] u := by
  refine jv_aload_n dX5_put_0 rfl ?_
  refine gf_5_20 rfl dX5_put_1 kd_c_129 (lt_c 129 rfl) rf_c_129_2 ?_
  refine jv_iload_n dX5_put_4 rfl ?_
  obtain ⟨b1, h⟩ := h
  refine jm_aaload1 dX5_put_5 kd_c_132 (lt_c 132 rfl) b1 (rf_r_132 _) ?_
  refine jv_iload_n dX5_put_6 rfl ?_
  refine jv_aload_n dX5_put_7 rfl ?_
  refine gf_5_9 rfl dX5_put_8 kd_c_129 (lt_c 129 rfl) rf_c_129_0 ?_
  refine jv_iload_n dX5_put_11 rfl ?_
  refine jm_iaload dX5_put_12 kd_c_130 (lt_c 130 rfl) b1 ?_
  have key4 : ∀ v_1 : Int32, v_1 = (if (u 130 a1.toNatClampNeg) = 0 then a3.toInt16.toInt32 else a3) → JVu E 1 YX5_put K 22 [some (.ref 129), some (.int a1), some (.int a2), some (.int a3)] [.int v_1, .int a2, .ref (133 + a1.toNatClampNeg)] u := by
    intro v_1 hv_1
    replace h := h v_1 hv_1
    obtain ⟨b3, h⟩ := h
    refine jm_iastore dX5_put_22 (kd_r_132 (vp_lt b1)) (lt_r_132 (vp_lt b1)) b3 ?_
    generalize hhu2 : jw u (133 + a1.toNatClampNeg) a2.toNatClampNeg v_1 = u2
    replace h := h u2 hhu2.symm
    exact jm_return dX5_put_23 rfl h
  clear h
  refine jv_if_ne (t := 21) dX5_put_13 rfl (fun c5 => ?_) (fun c5 => ?_)
  · refine jv_iload_n dX5_put_21 rfl ?_
    exact key4 _ (Eq.trans rfl (if_neg c5).symm)
  · refine jv_iload_n dX5_put_16 rfl ?_
    refine jv_i2s dX5_put_17 ?_
    refine jv_goto (t := 22) dX5_put_18 rfl ?_
    exact key4 _ (Eq.trans rfl (if_pos c5).symm)
theorem g_X6_go_0 {E : JE} {u : JM} {K : JM → Prop} {N : Nat} (hN : isNet N) {fr to : Int32}
    (h : ∀ u1, u1 = jw u 127 0 0 →
 ∀ u2, u2 = jw u1 127 1 0 →
 ∀ u3, u3 = jw u2 127 2 0 →
 JCu E 1 YJ7_fill_53178 [.ref 128, .int (-1)] (fun u4 =>
 JVu E 5 YX6_go K 29 [some (.ref 127), some (.ref N), some (.ref 109), some (.int fr), some (.int to), some (.int fr), some (.int 0), none, none] [] u4) u3)
    : JVu E 5 YX6_go K 0 [some (.ref 127), some (.ref N), some (.ref 109), some (.int fr), some (.int to), none, none, none, none] [] u := by
  refine jv_aload_n dX6_go_0 rfl ?_
  refine jv_iconst dX6_go_1 ci_iconst_0 ?_
  refine pf_6_15 rfl dX6_go_2 kd_c_127 (lt_c 127 rfl) ?_
  generalize hhu1 : jw u 127 0 0 = u1
  replace h := h u1 hhu1.symm
  refine jv_aload_n dX6_go_5 rfl ?_
  refine jv_iconst dX6_go_6 ci_iconst_0 ?_
  refine pf_6_19 rfl dX6_go_7 kd_c_127 (lt_c 127 rfl) ?_
  generalize hhu2 : jw u1 127 1 0 = u2
  replace h := h u2 hhu2.symm
  refine jv_aload_n dX6_go_10 rfl ?_
  refine jv_iconst dX6_go_11 ci_iconst_0 ?_
  refine pf_6_22 rfl dX6_go_12 kd_c_127 (lt_c 127 rfl) ?_
  generalize hhu3 : jw u2 127 2 0 = u3
  replace h := h u3 hhu3.symm
  refine jv_aload_n dX6_go_15 rfl ?_
  refine gf_6_9 rfl dX6_go_16 kd_c_127 (lt_c 127 rfl) rf_c_127_3 ?_
  refine jv_iconst dX6_go_19 ci_iconst_m1 ?_
  refine jm_callSu [.ref 128, .int (-1)] cw_6_25 dX6_go_20 rfl (Nat.le_of_ble_eq_true rfl) (Nat.le_of_ble_eq_true rfl) (JCu.mono h (fun u4 h => ?_))
  refine jv_iload_n dX6_go_23 rfl ?_
  refine jv_istore (ls' := [some (.ref 127), some (.ref N), some (.ref 109), some (.int fr), some (.int to), some (.int fr), none, none, none]) dX6_go_24 (Nat.le_of_ble_eq_true rfl) rfl ?_
  refine jv_iconst dX6_go_26 ci_iconst_0 ?_
  refine jv_istore (ls' := [some (.ref 127), some (.ref N), some (.ref 109), some (.int fr), some (.int to), some (.int fr), some (.int 0), none, none]) dX6_go_27 (Nat.le_of_ble_eq_true rfl) rfl ?_
  exact h
theorem g_X6_go_29 {E : JE} {u : JM} {K : JM → Prop} {N : Nat} (hN : isNet N) {fr to i5 i6 : Int32}
    (h : ((9 ≤ i6 → ∀ v_1 : Int32, v_1 = (if i5 = to then 1 else 2) →
  ∀ u2, u2 = jw u 127 0 v_1 →
  K u2) ∧
 (¬ 9 ≤ i6 → ((i5 = to → ∀ v_3 : Int32, v_3 = (if i5 = to then 1 else 2) →
   ∀ u4, u4 = jw u 127 0 v_3 →
   K u4) ∧
  (¬ i5 = to → JCu E 4 YX4_find [.ref 109, .ref N, .int i5] (fun u5 =>
   vp_in to 8 ∧
    ∀ i7_6 : Int32, i7_6 = u5 111 to.toNatClampNeg →
    ((¬ i7_6 = (-1) → JCi E 2 YX1_cheapest [.ref (N + 1), .int i5, .int i7_6, .int (u5 112 to.toNatClampNeg)] (fun x7 u7 =>
     ((¬ x7 = (-1) → vp_in x7 12 ∧
       ∀ u8, u8 = jw u7 127 2 ((u7 127 2) + (if u7 (N + 2) x7.toNatClampNeg = i5 then u7 (N + 5) x7.toNatClampNeg else u7 (N + 6) x7.toNatClampNeg)) →
       vp_in i6 9 ∧
       ∀ u9, u9 = jw u8 128 i6.toNatClampNeg i7_6 →
       ∀ u10, u10 = jw u9 127 1 (i6 + 1) →
       JVu E 5 YX6_go K 29 [some (.ref 127), some (.ref N), some (.ref 109), some (.int fr), some (.int to), some (.int i7_6), some (.int (i6 + 1)), none, none] [] u10) ∧
      (x7 = (-1) → K u7))) u5) ∧
    (i7_6 = (-1) → K u5))) u)))))
    : JVu E 5 YX6_go K 29 [some (.ref 127), some (.ref N), some (.ref 109), some (.int fr), some (.int to), some (.int i5), some (.int i6), none, none] [] u := by
  refine jv_iload dX6_go_29 rfl ?_
  refine jv_bipush dX6_go_31 ci_bipush_9 ?_
  refine jv_icmp_ge (t := 143) dX6_go_33 rfl (fun c1 => ?_) (fun c1 => ?_)
  · replace h := h.1 c1
    refine jv_aload_n dX6_go_143 rfl ?_
    refine jv_iload dX6_go_144 rfl ?_
    refine jv_iload dX6_go_146 rfl ?_
    have key3 : ∀ v_1 : Int32, v_1 = (if i5 = to then 1 else 2) → JVu E 5 YX6_go K 156 [some (.ref 127), some (.ref N), some (.ref 109), some (.int fr), some (.int to), some (.int i5), some (.int i6), none, none] [.int v_1, .ref 127] u := by
      intro v_1 hv_1
      replace h := h v_1 hv_1
      refine pf_6_15 rfl dX6_go_156 kd_c_127 (lt_c 127 rfl) ?_
      generalize hhu2 : jw u 127 0 v_1 = u2
      replace h := h u2 hhu2.symm
      exact jm_return dX6_go_159 rfl h
    clear h
    refine jv_icmp_ne (t := 155) dX6_go_148 rfl (fun c4 => ?_) (fun c4 => ?_)
    · refine jv_iconst dX6_go_155 ci_iconst_2 ?_
      exact key3 _ (Eq.trans rfl (if_neg c4).symm)
    · refine jv_iconst dX6_go_151 ci_iconst_1 ?_
      refine jv_goto (t := 156) dX6_go_152 rfl ?_
      exact key3 _ (Eq.trans rfl (if_pos c4).symm)
  · replace h := h.2 c1
    refine jv_iload dX6_go_36 rfl ?_
    refine jv_iload dX6_go_38 rfl ?_
    refine jv_icmp_eq (t := 143) dX6_go_40 rfl (fun c5 => ?_) (fun c5 => ?_)
    · replace h := h.1 c5
      refine jv_aload_n dX6_go_143 rfl ?_
      refine jv_iload dX6_go_144 rfl ?_
      refine jv_iload dX6_go_146 rfl ?_
      have key7 : ∀ v_3 : Int32, v_3 = (if i5 = to then 1 else 2) → JVu E 5 YX6_go K 156 [some (.ref 127), some (.ref N), some (.ref 109), some (.int fr), some (.int to), some (.int i5), some (.int i6), none, none] [.int v_3, .ref 127] u := by
        intro v_3 hv_3
        replace h := h v_3 hv_3
        refine pf_6_15 rfl dX6_go_156 kd_c_127 (lt_c 127 rfl) ?_
        generalize hhu4 : jw u 127 0 v_3 = u4
        replace h := h u4 hhu4.symm
        exact jm_return dX6_go_159 rfl h
      clear h
      refine jv_icmp_ne (t := 155) dX6_go_148 rfl (fun c8 => ?_) (fun c8 => ?_)
      · refine jv_iconst dX6_go_155 ci_iconst_2 ?_
        exact key7 _ (Eq.trans rfl (if_neg c8).symm)
      · refine jv_iconst dX6_go_151 ci_iconst_1 ?_
        refine jv_goto (t := 156) dX6_go_152 rfl ?_
        exact key7 _ (Eq.trans rfl (if_pos c8).symm)
    · replace h := h.2 c5
      refine jv_aload_n dX6_go_43 rfl ?_
      refine jv_aload_n dX6_go_44 rfl ?_
      refine jv_iload dX6_go_45 rfl ?_
      refine jm_callVu [.ref N, .int i5] cw_6_31 dX6_go_47 rfl (Nat.le_of_ble_eq_true rfl) kd_c_109 (r := (RX4, TX4, 5)) rfl rfl (lt_c 109 rfl) (Nat.le_of_ble_eq_true rfl) (JCu.mono h (fun u5 h => ?_))
      refine jv_aload_n dX6_go_50 rfl ?_
      refine gf_6_37 rfl dX6_go_51 kd_c_109 (lt_c 109 rfl) rf_c_109_1 ?_
      refine jv_iload dX6_go_54 rfl ?_
      obtain ⟨b9, h⟩ := h
      refine jm_iaload dX6_go_56 kd_c_111 (lt_c 111 rfl) b9 ?_
      generalize hhi7_6 : u5 111 to.toNatClampNeg = i7_6
      replace h := h i7_6 hhi7_6.symm
      refine jv_istore (ls' := [some (.ref 127), some (.ref N), some (.ref 109), some (.int fr), some (.int to), some (.int i5), some (.int i6), some (.int i7_6), none]) dX6_go_57 (Nat.le_of_ble_eq_true rfl) rfl ?_
      refine jv_iload dX6_go_59 rfl ?_
      refine jv_iconst dX6_go_61 ci_iconst_m1 ?_
      refine jv_icmp_ne (t := 69) dX6_go_62 rfl (fun c10 => ?_) (fun c10 => ?_)
      · replace h := h.1 c10
        refine jv_aload_n dX6_go_69 rfl ?_
        refine gf_6_40 rfl dX6_go_70 (kd_N_0 hN) (lt_N hN 0 rfl) (rf_N_0_0 hN) ?_
        refine jv_iload dX6_go_73 rfl ?_
        refine jv_iload dX6_go_75 rfl ?_
        refine jv_aload_n dX6_go_77 rfl ?_
        refine gf_6_46 rfl dX6_go_78 kd_c_109 (lt_c 109 rfl) rf_c_109_2 ?_
        refine jv_iload dX6_go_81 rfl ?_
        refine jm_iaload dX6_go_83 kd_c_112 (lt_c 112 rfl) b9 ?_
        refine jm_callVi [.int i5, .int i7_6, .int (u5 112 to.toNatClampNeg)] cw_6_49 dX6_go_84 rfl (Nat.le_of_ble_eq_true rfl) (kd_N_1 hN) (r := (RX1, TX1, 8)) rfl rfl (lt_N hN 1 rfl) (Nat.le_of_ble_eq_true rfl) (JCi.mono h (fun x7 u7 h => ?_))
        refine jv_istore (ls' := [some (.ref 127), some (.ref N), some (.ref 109), some (.int fr), some (.int to), some (.int i5), some (.int i6), some (.int i7_6), some (.int x7)]) dX6_go_87 (Nat.le_of_ble_eq_true rfl) rfl ?_
        refine jv_iload dX6_go_89 rfl ?_
        refine jv_iconst dX6_go_91 ci_iconst_m1 ?_
        refine jv_icmp_ne (t := 96) dX6_go_92 rfl (fun c11 => ?_) (fun c11 => ?_)
        · replace h := h.1 c11
          refine jv_aload_n dX6_go_96 rfl ?_
          refine jv_dup dX6_go_97 rfl ?_
          refine gf_6_22 rfl dX6_go_98 kd_c_127 (lt_c 127 rfl) ?_
          refine jv_aload_n dX6_go_101 rfl ?_
          refine gf_6_40 rfl dX6_go_102 (kd_N_0 hN) (lt_N hN 0 rfl) (rf_N_0_0 hN) ?_
          refine jv_iload dX6_go_105 rfl ?_
          refine jv_iload dX6_go_107 rfl ?_
          obtain ⟨b12, h⟩ := h
          refine jm_callVi [.int x7, .int i5] cw_6_55 dX6_go_109 rfl (Nat.le_of_ble_eq_true rfl) (kd_N_1 hN) (r := (RX1, TX1, 8)) rfl rfl (lt_N hN 1 rfl) (Nat.le_of_ble_eq_true rfl) (p_X1_costFrom hN b12 ?_)
          refine jv_iadd dX6_go_112 ?_
          refine pf_6_22 rfl dX6_go_113 kd_c_127 (lt_c 127 rfl) ?_
          generalize hhu8 : jw u7 127 2 ((u7 127 2) + (if u7 (N + 2) x7.toNatClampNeg = i5 then u7 (N + 5) x7.toNatClampNeg else u7 (N + 6) x7.toNatClampNeg)) = u8
          replace h := h u8 hhu8.symm
          refine jv_iload dX6_go_116 rfl ?_
          refine jv_istore (ls' := [some (.ref 127), some (.ref N), some (.ref 109), some (.int fr), some (.int to), some (.int i7_6), some (.int i6), some (.int i7_6), some (.int x7)]) dX6_go_118 (Nat.le_of_ble_eq_true rfl) rfl ?_
          refine jv_aload_n dX6_go_120 rfl ?_
          refine gf_6_9 rfl dX6_go_121 kd_c_127 (lt_c 127 rfl) rf_c_127_3 ?_
          refine jv_iload dX6_go_124 rfl ?_
          refine jv_iload dX6_go_126 rfl ?_
          obtain ⟨b13, h⟩ := h
          refine jm_iastore dX6_go_128 kd_c_128 (lt_c 128 rfl) b13 ?_
          generalize hhu9 : jw u8 128 i6.toNatClampNeg i7_6 = u9
          replace h := h u9 hhu9.symm
          refine jv_aload_n dX6_go_129 rfl ?_
          refine jv_iload dX6_go_130 rfl ?_
          refine jv_iconst dX6_go_132 ci_iconst_1 ?_
          refine jv_iadd dX6_go_133 ?_
          refine pf_6_19 rfl dX6_go_134 kd_c_127 (lt_c 127 rfl) ?_
          generalize hhu10 : jw u9 127 1 (i6 + 1) = u10
          replace h := h u10 hhu10.symm
          refine jv_iinc (v := i6 + 1) (ls' := [some (.ref 127), some (.ref N), some (.ref 109), some (.int fr), some (.int to), some (.int i7_6), some (.int (i6 + 1)), some (.int i7_6), some (.int x7)]) dX6_go_137 (Nat.le_of_ble_eq_true rfl) rfl (by rw [ci_iconst_1]) rfl ?_
          refine jv_goto (t := 29) dX6_go_140 rfl ?_
          exact jm_sub (ls' := [some (.ref 127), some (.ref N), some (.ref 109), some (.int fr), some (.int to), some (.int i7_6), some (.int (i6 + 1)), none, none]) ⟨rfl, rfl, rfl, rfl, rfl, rfl, rfl, trivial⟩ h
        · replace h := h.2 c11
          exact jm_return dX6_go_95 rfl h
      · replace h := h.2 c10
        refine jv_iconst dX6_go_65 ci_iconst_m1 ?_
        refine jv_goto (t := 87) dX6_go_66 rfl ?_
        refine jv_istore (ls' := [some (.ref 127), some (.ref N), some (.ref 109), some (.int fr), some (.int to), some (.int i5), some (.int i6), some (.int i7_6), some (.int (-1))]) dX6_go_87 (Nat.le_of_ble_eq_true rfl) rfl ?_
        refine jv_iload dX6_go_89 rfl ?_
        refine jv_iconst dX6_go_91 ci_iconst_m1 ?_
        refine jv_icmp_ne (t := 96) dX6_go_92 rfl (fun c14 => ?_) (fun c14 => ?_)
        · exact False.elim (by revert c14; decide)
        · exact jm_return dX6_go_95 rfl h
theorem g_J7_fill_53178_0 {E : JE} {u : JM} {K : JM → Prop} {A m : Nat} (hk : jkd A = .inr (.int, m)) (hl : A < NC) {v : Int32}
    (h : JVu E 1 YJ7_fill_53178 K 5 [some (.ref A), some (.int v), some (.int 0), some (.int (Int32.ofNat m))] [] u)
    : JVu E 1 YJ7_fill_53178 K 0 [some (.ref A), some (.int v), none, none] [] u := by
  refine jv_iconst dJ7_fill_53178_0 ci_iconst_0 ?_
  refine jv_istore_n (ls' := [some (.ref A), some (.int v), some (.int 0), none]) dJ7_fill_53178_1 (Nat.le_of_ble_eq_true rfl) rfl ?_
  refine jv_aload_n dJ7_fill_53178_2 rfl ?_
  refine jv_alen dJ7_fill_53178_3 hk hl ?_
  refine jv_istore_n (ls' := [some (.ref A), some (.int v), some (.int 0), some (.int (Int32.ofNat m))]) dJ7_fill_53178_4 (Nat.le_of_ble_eq_true rfl) rfl ?_
  exact h
theorem g_J7_fill_53178_5 {E : JE} {u : JM} {K : JM → Prop} {A m : Nat} (hk : jkd A = .inr (.int, m)) (hl : A < NC) {v i2 i3 : Int32}
    (h : ((i3 ≤ i2 → K u) ∧
 (¬ i3 ≤ i2 → vp_in i2 m ∧
  ∀ u1, u1 = jw u A i2.toNatClampNeg v →
  JVu E 1 YJ7_fill_53178 K 5 [some (.ref A), some (.int v), some (.int (i2 + 1)), some (.int i3)] [] u1)))
    : JVu E 1 YJ7_fill_53178 K 5 [some (.ref A), some (.int v), some (.int i2), some (.int i3)] [] u := by
  refine jv_iload_n dJ7_fill_53178_5 rfl ?_
  refine jv_iload_n dJ7_fill_53178_6 rfl ?_
  refine jv_icmp_ge (t := 20) dJ7_fill_53178_7 rfl (fun c1 => ?_) (fun c1 => ?_)
  · replace h := h.1 c1
    exact jm_return dJ7_fill_53178_20 rfl h
  · replace h := h.2 c1
    refine jv_aload_n dJ7_fill_53178_10 rfl ?_
    refine jv_iload_n dJ7_fill_53178_11 rfl ?_
    refine jv_iload_n dJ7_fill_53178_12 rfl ?_
    obtain ⟨b2, h⟩ := h
    refine jm_iastore dJ7_fill_53178_13 hk hl b2 ?_
    generalize hhu1 : jw u A i2.toNatClampNeg v = u1
    replace h := h u1 hhu1.symm
    refine jv_iinc (v := i2 + 1) (ls' := [some (.ref A), some (.int v), some (.int (i2 + 1)), some (.int i3)]) dJ7_fill_53178_14 (Nat.le_of_ble_eq_true rfl) rfl (by rw [ci_iconst_1]) rfl ?_
    refine jv_goto (t := 5) dJ7_fill_53178_17 rfl ?_
    exact h
theorem g_J6_bitCount_0f7a4_0 {E : JE} {u : JM} {K : Int32 → JM → Prop}  {a1 : Int32}
    (h : ∀ a1_1 : Int32, a1_1 = a1 - (((a1.toUInt32 >>> ((1 : Int32).toUInt32 &&& Int32.toUInt32 31)).toInt32) &&& 1431655765) →
 ∀ a1_2 : Int32, a1_2 = (a1_1 &&& 858993459) + (((a1_1.toUInt32 >>> ((2 : Int32).toUInt32 &&& Int32.toUInt32 31)).toInt32) &&& 858993459) →
 ∀ a1_3 : Int32, a1_3 = (a1_2 + ((a1_2.toUInt32 >>> ((4 : Int32).toUInt32 &&& Int32.toUInt32 31)).toInt32)) &&& 252645135 →
 ∀ a1_4 : Int32, a1_4 = a1_3 + ((a1_3.toUInt32 >>> ((8 : Int32).toUInt32 &&& Int32.toUInt32 31)).toInt32) →
 ∀ a1_5 : Int32, a1_5 = a1_4 + ((a1_4.toUInt32 >>> ((16 : Int32).toUInt32 &&& Int32.toUInt32 31)).toInt32) →
 K (a1_5 &&& 63) u)
    : JVi E 1 YJ6_bitCount_0f7a4 K 0 [some (.int a1)] [] u := by
  refine jv_iload_n dJ6_bitCount_0f7a4_0 rfl ?_
  refine jv_iload_n dJ6_bitCount_0f7a4_1 rfl ?_
  refine jv_iconst dJ6_bitCount_0f7a4_2 ci_iconst_1 ?_
  refine jv_iushr dJ6_bitCount_0f7a4_3 ?_
  refine jv_ldcw cst_J6_265 dJ6_bitCount_0f7a4_4 ?_
  refine jv_iand dJ6_bitCount_0f7a4_7 ?_
  refine jv_isub dJ6_bitCount_0f7a4_8 ?_
  generalize hha1_1 : a1 - (((a1.toUInt32 >>> ((1 : Int32).toUInt32 &&& Int32.toUInt32 31)).toInt32) &&& 1431655765) = a1_1
  replace h := h a1_1 hha1_1.symm
  refine jv_istore_n (ls' := [some (.int a1_1)]) dJ6_bitCount_0f7a4_9 (Nat.le_of_ble_eq_true rfl) rfl ?_
  refine jv_iload_n dJ6_bitCount_0f7a4_10 rfl ?_
  refine jv_ldcw cst_J6_266 dJ6_bitCount_0f7a4_11 ?_
  refine jv_iand dJ6_bitCount_0f7a4_14 ?_
  refine jv_iload_n dJ6_bitCount_0f7a4_15 rfl ?_
  refine jv_iconst dJ6_bitCount_0f7a4_16 ci_iconst_2 ?_
  refine jv_iushr dJ6_bitCount_0f7a4_17 ?_
  refine jv_ldcw cst_J6_266 dJ6_bitCount_0f7a4_18 ?_
  refine jv_iand dJ6_bitCount_0f7a4_21 ?_
  refine jv_iadd dJ6_bitCount_0f7a4_22 ?_
  generalize hha1_2 : (a1_1 &&& 858993459) + (((a1_1.toUInt32 >>> ((2 : Int32).toUInt32 &&& Int32.toUInt32 31)).toInt32) &&& 858993459) = a1_2
  replace h := h a1_2 hha1_2.symm
  refine jv_istore_n (ls' := [some (.int a1_2)]) dJ6_bitCount_0f7a4_23 (Nat.le_of_ble_eq_true rfl) rfl ?_
  refine jv_iload_n dJ6_bitCount_0f7a4_24 rfl ?_
  refine jv_iload_n dJ6_bitCount_0f7a4_25 rfl ?_
  refine jv_iconst dJ6_bitCount_0f7a4_26 ci_iconst_4 ?_
  refine jv_iushr dJ6_bitCount_0f7a4_27 ?_
  refine jv_iadd dJ6_bitCount_0f7a4_28 ?_
  refine jv_ldcw cst_J6_267 dJ6_bitCount_0f7a4_29 ?_
  refine jv_iand dJ6_bitCount_0f7a4_32 ?_
  generalize hha1_3 : (a1_2 + ((a1_2.toUInt32 >>> ((4 : Int32).toUInt32 &&& Int32.toUInt32 31)).toInt32)) &&& 252645135 = a1_3
  replace h := h a1_3 hha1_3.symm
  refine jv_istore_n (ls' := [some (.int a1_3)]) dJ6_bitCount_0f7a4_33 (Nat.le_of_ble_eq_true rfl) rfl ?_
  refine jv_iload_n dJ6_bitCount_0f7a4_34 rfl ?_
  refine jv_iload_n dJ6_bitCount_0f7a4_35 rfl ?_
  refine jv_bipush dJ6_bitCount_0f7a4_36 ci_bipush_8 ?_
  refine jv_iushr dJ6_bitCount_0f7a4_38 ?_
  refine jv_iadd dJ6_bitCount_0f7a4_39 ?_
  generalize hha1_4 : a1_3 + ((a1_3.toUInt32 >>> ((8 : Int32).toUInt32 &&& Int32.toUInt32 31)).toInt32) = a1_4
  replace h := h a1_4 hha1_4.symm
  refine jv_istore_n (ls' := [some (.int a1_4)]) dJ6_bitCount_0f7a4_40 (Nat.le_of_ble_eq_true rfl) rfl ?_
  refine jv_iload_n dJ6_bitCount_0f7a4_41 rfl ?_
  refine jv_iload_n dJ6_bitCount_0f7a4_42 rfl ?_
  refine jv_bipush dJ6_bitCount_0f7a4_43 ci_bipush_16 ?_
  refine jv_iushr dJ6_bitCount_0f7a4_45 ?_
  refine jv_iadd dJ6_bitCount_0f7a4_46 ?_
  generalize hha1_5 : a1_4 + ((a1_4.toUInt32 >>> ((16 : Int32).toUInt32 &&& Int32.toUInt32 31)).toInt32) = a1_5
  replace h := h a1_5 hha1_5.symm
  refine jv_istore_n (ls' := [some (.int a1_5)]) dJ6_bitCount_0f7a4_47 (Nat.le_of_ble_eq_true rfl) rfl ?_
  refine jv_iload_n dJ6_bitCount_0f7a4_48 rfl ?_
  refine jv_bipush dJ6_bitCount_0f7a4_49 ci_bipush_63 ?_
  refine jv_iand dJ6_bitCount_0f7a4_51 ?_
  exact jm_ireturn dJ6_bitCount_0f7a4_52 rfl h 