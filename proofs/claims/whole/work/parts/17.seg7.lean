theorem g_X7_link_0 {E : JE} {u : JM} {K : Int32 → JM → Prop}  {a1 a2 a3 a4 a5 : Int32}
    (h : (((jb (rg a1 0 7)) = 0 → K (-2) u) ∧
 (¬ (jb (rg a1 0 7)) = 0 → (((jb (rg a2 0 7)) = 0 → K (-2) u) ∧
  (¬ (jb (rg a2 0 7)) = 0 → ((a1 = a2 → K (-2) u) ∧
   (¬ a1 = a2 → ((¬ (jb (rg a3 0 2)) = 0 → (((jb (rg a4 1 99)) = 0 → K (-2) u) ∧
     (¬ (jb (rg a4 1 99)) = 0 → ((¬ (jb (rg a5 1 99)) = 0 → (((u 2 0) < 12 → JCi E 1 YX1_add [.ref 2, .int a1, .int a2, .int a3, .int a4, .int a5] (fun x1 u1 =>
        K x1 u1) u) ∧
       (¬ (u 2 0) < 12 → K (-4) u))) ∧
      ((jb (rg a5 1 99)) = 0 → K (-2) u))))) ∧
    ((jb (rg a3 0 2)) = 0 → K (-2) u)))))))))
    : JVi E 2 YX7_link K 0 [some (.ref 0), some (.int a1), some (.int a2), some (.int a3), some (.int a4), some (.int a5)] [] u := by
  refine jv_iload_n dX7_link_0 rfl ?_
  refine jm_callSi [.int a1] cw_7_43 dX7_link_1 rfl (Nat.le_of_ble_eq_true rfl) (Nat.le_of_ble_eq_true rfl) (p_X7_isRouter  ?_)
  refine jv_if_eq (t := 26) dX7_link_4 rfl (fun c1 => ?_) (fun c1 => ?_)
  · replace h := h.1 c1
    refine jv_bipush dX7_link_26 ci_bipush_m2 ?_
    exact jm_ireturn dX7_link_28 rfl h
  · replace h := h.2 c1
    refine jv_iload_n dX7_link_7 rfl ?_
    refine jm_callSi [.int a2] cw_7_43 dX7_link_8 rfl (Nat.le_of_ble_eq_true rfl) (Nat.le_of_ble_eq_true rfl) (p_X7_isRouter  ?_)
    refine jv_if_eq (t := 26) dX7_link_11 rfl (fun c2 => ?_) (fun c2 => ?_)
    · replace h := h.1 c2
      refine jv_bipush dX7_link_26 ci_bipush_m2 ?_
      exact jm_ireturn dX7_link_28 rfl h
    · replace h := h.2 c2
      refine jv_iload_n dX7_link_14 rfl ?_
      refine jv_iload_n dX7_link_15 rfl ?_
      refine jv_icmp_eq (t := 26) dX7_link_16 rfl (fun c3 => ?_) (fun c3 => ?_)
      · replace h := h.1 c3
        refine jv_bipush dX7_link_26 ci_bipush_m2 ?_
        exact jm_ireturn dX7_link_28 rfl h
      · replace h := h.2 c3
        refine jv_iload_n dX7_link_19 rfl ?_
        refine jm_callSi [.int a3] cw_7_47 dX7_link_20 rfl (Nat.le_of_ble_eq_true rfl) (Nat.le_of_ble_eq_true rfl) (p_X7_isArea  ?_)
        refine jv_if_ne (t := 29) dX7_link_23 rfl (fun c4 => ?_) (fun c4 => ?_)
        · replace h := h.1 c4
          refine jv_iload dX7_link_29 rfl ?_
          refine jm_callSi [.int a4] cw_7_50 dX7_link_31 rfl (Nat.le_of_ble_eq_true rfl) (Nat.le_of_ble_eq_true rfl) (p_X7_isCost  ?_)
          refine jv_if_eq (t := 45) dX7_link_34 rfl (fun c5 => ?_) (fun c5 => ?_)
          · replace h := h.1 c5
            refine jv_bipush dX7_link_45 ci_bipush_m2 ?_
            exact jm_ireturn dX7_link_47 rfl h
          · replace h := h.2 c5
            refine jv_iload dX7_link_37 rfl ?_
            refine jm_callSi [.int a5] cw_7_50 dX7_link_39 rfl (Nat.le_of_ble_eq_true rfl) (Nat.le_of_ble_eq_true rfl) (p_X7_isCost  ?_)
            refine jv_if_ne (t := 48) dX7_link_42 rfl (fun c6 => ?_) (fun c6 => ?_)
            · replace h := h.1 c6
              refine jv_aload_n dX7_link_48 rfl ?_
              refine gf_7_10 rfl dX7_link_49 kd_c_0 (lt_c 0 rfl) rf_c_0_0 ?_
              refine gf_7_53 rfl dX7_link_52 (kd_N_0 isNet_1) (lt_N isNet_1 0 rfl) (rf_N_0_0 isNet_1) ?_
              refine gf_7_57 rfl dX7_link_55 (kd_N_1 isNet_1) (lt_N isNet_1 1 rfl) ?_
              refine jv_bipush dX7_link_58 ci_bipush_12 ?_
              refine jv_icmp_lt (t := 66) dX7_link_60 rfl (fun c7 => ?_) (fun c7 => ?_)
              · replace h := h.1 c7
                refine jv_aload_n dX7_link_66 rfl ?_
                refine gf_7_10 rfl dX7_link_67 kd_c_0 (lt_c 0 rfl) rf_c_0_0 ?_
                refine gf_7_53 rfl dX7_link_70 (kd_N_0 isNet_1) (lt_N isNet_1 0 rfl) (rf_N_0_0 isNet_1) ?_
                refine jv_iload_n dX7_link_73 rfl ?_
                refine jv_iload_n dX7_link_74 rfl ?_
                refine jv_iload_n dX7_link_75 rfl ?_
                refine jv_iload dX7_link_76 rfl ?_
                refine jv_iload dX7_link_78 rfl ?_
                refine jm_callVi [.int a1, .int a2, .int a3, .int a4, .int a5] cw_7_63 dX7_link_80 rfl (Nat.le_of_ble_eq_true rfl) (kd_N_1 isNet_1) (r := (RX1, TX1, 8)) rfl rfl (lt_N isNet_1 1 rfl) (Nat.le_of_ble_eq_true rfl) (JCi.mono h (fun x1 u1 h => ?_))
                exact jm_ireturn dX7_link_83 rfl h
              · replace h := h.2 c7
                refine jv_bipush dX7_link_63 ci_bipush_m4 ?_
                exact jm_ireturn dX7_link_65 rfl h
            · replace h := h.2 c6
              refine jv_bipush dX7_link_45 ci_bipush_m2 ?_
              exact jm_ireturn dX7_link_47 rfl h
        · replace h := h.2 c4
          refine jv_bipush dX7_link_26 ci_bipush_m2 ?_
          exact jm_ireturn dX7_link_28 rfl h
theorem g_X7_set_0 {E : JE} {u : JM} {K : Int32 → JM → Prop}  {a1 a2 : Int32}
    (h : (((jb (0 ≤ a1.toInt ∧ a1.toInt < (u 2 0).toInt)) = 0 → K (-2) u) ∧
 (¬ (jb (0 ≤ a1.toInt ∧ a1.toInt < (u 2 0).toInt)) = 0 → ((a2 < 0 → K (-2) u) ∧
  (¬ a2 < 0 → ((a2 ≤ 1 → vp_in a1 12 ∧
    ∀ v_1 : Int32, v_1 = (if (u 8 a1.toNatClampNeg) = 0 then 0 else 1) →
    ∀ v_2 : Int32, v_2 = (if a2 = 1 then 1 else 0) →
    (v_2 = 0 ∨ v_2 = 1) ∧
    ∀ u3, u3 = jw u 8 a1.toNatClampNeg v_2 →
    K v_1 u3) ∧
   (¬ a2 ≤ 1 → K (-2) u)))))))
    : JVi E 2 YX7_set K 0 [some (.ref 0), some (.int a1), some (.int a2), none] [] u := by
  refine jv_aload_n dX7_set_0 rfl ?_
  refine gf_7_10 rfl dX7_set_1 kd_c_0 (lt_c 0 rfl) rf_c_0_0 ?_
  refine gf_7_53 rfl dX7_set_4 (kd_N_0 isNet_1) (lt_N isNet_1 0 rfl) (rf_N_0_0 isNet_1) ?_
  refine jv_iload_n dX7_set_7 rfl ?_
  refine jm_callVi [.int a1] cw_7_67 dX7_set_8 rfl (Nat.le_of_ble_eq_true rfl) (kd_N_1 isNet_1) (r := (RX1, TX1, 8)) rfl rfl (lt_N isNet_1 1 rfl) (Nat.le_of_ble_eq_true rfl) (p_X1_has isNet_1 ?_)
  refine jv_if_eq (t := 23) dX7_set_11 rfl (fun c1 => ?_) (fun c1 => ?_)
  · replace h := h.1 c1
    refine jv_bipush dX7_set_23 ci_bipush_m2 ?_
    exact jm_ireturn dX7_set_25 rfl h
  · replace h := h.2 c1
    refine jv_iload_n dX7_set_14 rfl ?_
    refine jv_if_lt (t := 23) dX7_set_15 rfl (fun c2 => ?_) (fun c2 => ?_)
    · replace h := h.1 c2
      refine jv_bipush dX7_set_23 ci_bipush_m2 ?_
      exact jm_ireturn dX7_set_25 rfl h
    · replace h := h.2 c2
      refine jv_iload_n dX7_set_18 rfl ?_
      refine jv_iconst dX7_set_19 ci_iconst_1 ?_
      refine jv_icmp_le (t := 26) dX7_set_20 rfl (fun c3 => ?_) (fun c3 => ?_)
      · replace h := h.1 c3
        refine jv_aload_n dX7_set_26 rfl ?_
        refine gf_7_10 rfl dX7_set_27 kd_c_0 (lt_c 0 rfl) rf_c_0_0 ?_
        refine gf_7_53 rfl dX7_set_30 (kd_N_0 isNet_1) (lt_N isNet_1 0 rfl) (rf_N_0_0 isNet_1) ?_
        refine gf_7_70 rfl dX7_set_33 (kd_N_1 isNet_1) (lt_N isNet_1 1 rfl) (rf_N_1_6 isNet_1) ?_
        refine jv_iload_n dX7_set_36 rfl ?_
        obtain ⟨b4, h⟩ := h
        refine jm_baload dX7_set_37 (kd_N_7 isNet_1) (lt_N isNet_1 7 rfl) b4 ?_
        have key10 : ∀ v_1 : Int32, v_1 = (if (u 8 a1.toNatClampNeg) = 0 then 0 else 1) → JVi E 2 YX7_set K 46 [some (.ref 0), some (.int a1), some (.int a2), none] [.int v_1] u := by
          intro v_1 hv_1
          replace h := h v_1 hv_1
          refine jv_istore_n (ls' := [some (.ref 0), some (.int a1), some (.int a2), some (.int v_1)]) dX7_set_46 (Nat.le_of_ble_eq_true rfl) rfl ?_
          refine jv_aload_n dX7_set_47 rfl ?_
          refine gf_7_10 rfl dX7_set_48 kd_c_0 (lt_c 0 rfl) rf_c_0_0 ?_
          refine gf_7_53 rfl dX7_set_51 (kd_N_0 isNet_1) (lt_N isNet_1 0 rfl) (rf_N_0_0 isNet_1) ?_
          refine gf_7_70 rfl dX7_set_54 (kd_N_1 isNet_1) (lt_N isNet_1 1 rfl) (rf_N_1_6 isNet_1) ?_
          refine jv_iload_n dX7_set_57 rfl ?_
          refine jv_iload_n dX7_set_58 rfl ?_
          refine jv_iconst dX7_set_59 ci_iconst_1 ?_
          have key8 : ∀ v_2 : Int32, v_2 = (if a2 = 1 then 1 else 0) → JVi E 2 YX7_set K 68 [some (.ref 0), some (.int a1), some (.int a2), some (.int v_1)] [.int v_2, .int a1, .ref 8] u := by
            intro v_2 hv_2
            replace h := h v_2 hv_2
            obtain ⟨b7, h⟩ := h
            refine jm_bastore dX7_set_68 (kd_N_7 isNet_1) (lt_N isNet_1 7 rfl) b4 b7 ?_
            generalize hhu3 : jw u 8 a1.toNatClampNeg v_2 = u3
            replace h := h u3 hhu3.symm
            refine jv_iload_n dX7_set_69 rfl ?_
            exact jm_ireturn dX7_set_70 rfl h
          clear h
          refine jv_icmp_ne (t := 67) dX7_set_60 rfl (fun c9 => ?_) (fun c9 => ?_)
          · refine jv_iconst dX7_set_67 ci_iconst_0 ?_
            exact key8 _ (Eq.trans rfl (if_neg c9).symm)
          · refine jv_iconst dX7_set_63 ci_iconst_1 ?_
            refine jv_goto (t := 68) dX7_set_64 rfl ?_
            exact key8 _ (Eq.trans rfl (if_pos c9).symm)
        clear h
        refine jv_if_eq (t := 45) dX7_set_38 rfl (fun c11 => ?_) (fun c11 => ?_)
        · refine jv_iconst dX7_set_45 ci_iconst_0 ?_
          exact key10 _ (Eq.trans rfl (if_pos c11).symm)
        · refine jv_iconst dX7_set_41 ci_iconst_1 ?_
          refine jv_goto (t := 46) dX7_set_42 rfl ?_
          exact key10 _ (Eq.trans rfl (if_neg c11).symm)
      · replace h := h.2 c3
        refine jv_bipush dX7_set_23 ci_bipush_m2 ?_
        exact jm_ireturn dX7_set_25 rfl h
theorem g_X7_cost_0 {E : JE} {u : JM} {K : Int32 → JM → Prop}  {a1 a2 a3 : Int32}
    (h : (((jb (0 ≤ a1.toInt ∧ a1.toInt < (u 2 0).toInt)) = 0 → K (-2) u) ∧
 (¬ (jb (0 ≤ a1.toInt ∧ a1.toInt < (u 2 0).toInt)) = 0 → ((a2 < 0 → K (-2) u) ∧
  (¬ a2 < 0 → ((1 < a2 → K (-2) u) ∧
   (¬ 1 < a2 → ((¬ (jb (rg a3 1 99)) = 0 → ((¬ a2 = 0 → vp_in a1 12 ∧
      ∀ i5_1 : Int32, i5_1 = u 7 a1.toNatClampNeg →
      ∀ u2, u2 = jw u 7 a1.toNatClampNeg a3 →
      K i5_1 u2) ∧
     (a2 = 0 → vp_in a1 12 ∧
      ∀ i5_3 : Int32, i5_3 = u 6 a1.toNatClampNeg →
      ∀ u4, u4 = jw u 6 a1.toNatClampNeg a3 →
      K i5_3 u4))) ∧
    ((jb (rg a3 1 99)) = 0 → K (-2) u)))))))))
    : JVi E 2 YX7_cost K 0 [some (.ref 0), some (.int a1), some (.int a2), some (.int a3), none, none] [] u := by
  refine jv_aload_n dX7_cost_0 rfl ?_
  refine gf_7_10 rfl dX7_cost_1 kd_c_0 (lt_c 0 rfl) rf_c_0_0 ?_
  refine gf_7_53 rfl dX7_cost_4 (kd_N_0 isNet_1) (lt_N isNet_1 0 rfl) (rf_N_0_0 isNet_1) ?_
  refine jv_iload_n dX7_cost_7 rfl ?_
  refine jm_callVi [.int a1] cw_7_67 dX7_cost_8 rfl (Nat.le_of_ble_eq_true rfl) (kd_N_1 isNet_1) (r := (RX1, TX1, 8)) rfl rfl (lt_N isNet_1 1 rfl) (Nat.le_of_ble_eq_true rfl) (p_X1_has isNet_1 ?_)
  refine jv_if_eq (t := 30) dX7_cost_11 rfl (fun c1 => ?_) (fun c1 => ?_)
  · replace h := h.1 c1
    refine jv_bipush dX7_cost_30 ci_bipush_m2 ?_
    exact jm_ireturn dX7_cost_32 rfl h
  · replace h := h.2 c1
    refine jv_iload_n dX7_cost_14 rfl ?_
    refine jv_if_lt (t := 30) dX7_cost_15 rfl (fun c2 => ?_) (fun c2 => ?_)
    · replace h := h.1 c2
      refine jv_bipush dX7_cost_30 ci_bipush_m2 ?_
      exact jm_ireturn dX7_cost_32 rfl h
    · replace h := h.2 c2
      refine jv_iload_n dX7_cost_18 rfl ?_
      refine jv_iconst dX7_cost_19 ci_iconst_1 ?_
      refine jv_icmp_gt (t := 30) dX7_cost_20 rfl (fun c3 => ?_) (fun c3 => ?_)
      · replace h := h.1 c3
        refine jv_bipush dX7_cost_30 ci_bipush_m2 ?_
        exact jm_ireturn dX7_cost_32 rfl h
      · replace h := h.2 c3
        refine jv_iload_n dX7_cost_23 rfl ?_
        refine jm_callSi [.int a3] cw_7_50 dX7_cost_24 rfl (Nat.le_of_ble_eq_true rfl) (Nat.le_of_ble_eq_true rfl) (p_X7_isCost  ?_)
        refine jv_if_ne (t := 33) dX7_cost_27 rfl (fun c4 => ?_) (fun c4 => ?_)
        · replace h := h.1 c4
          refine jv_iload_n dX7_cost_33 rfl ?_
          refine jv_if_ne (t := 50) dX7_cost_34 rfl (fun c5 => ?_) (fun c5 => ?_)
          · replace h := h.1 c5
            refine jv_aload_n dX7_cost_50 rfl ?_
            refine gf_7_10 rfl dX7_cost_51 kd_c_0 (lt_c 0 rfl) rf_c_0_0 ?_
            refine gf_7_53 rfl dX7_cost_54 (kd_N_0 isNet_1) (lt_N isNet_1 0 rfl) (rf_N_0_0 isNet_1) ?_
            refine gf_7_78 rfl dX7_cost_57 (kd_N_1 isNet_1) (lt_N isNet_1 1 rfl) (rf_N_1_5 isNet_1) ?_
            refine jv_astore (ls' := [some (.ref 0), some (.int a1), some (.int a2), some (.int a3), some (.ref 7), none]) dX7_cost_60 (Nat.le_of_ble_eq_true rfl) rfl ?_
            refine jv_aload dX7_cost_62 rfl ?_
            refine jv_iload_n dX7_cost_64 rfl ?_
            obtain ⟨b6, h⟩ := h
            refine jm_iaload dX7_cost_65 (kd_N_6 isNet_1) (lt_N isNet_1 6 rfl) b6 ?_
            generalize hhi5_1 : u 7 a1.toNatClampNeg = i5_1
            replace h := h i5_1 hhi5_1.symm
            refine jv_istore (ls' := [some (.ref 0), some (.int a1), some (.int a2), some (.int a3), some (.ref 7), some (.int i5_1)]) dX7_cost_66 (Nat.le_of_ble_eq_true rfl) rfl ?_
            refine jv_aload dX7_cost_68 rfl ?_
            refine jv_iload_n dX7_cost_70 rfl ?_
            refine jv_iload_n dX7_cost_71 rfl ?_
            refine jm_iastore dX7_cost_72 (kd_N_6 isNet_1) (lt_N isNet_1 6 rfl) b6 ?_
            generalize hhu2 : jw u 7 a1.toNatClampNeg a3 = u2
            replace h := h u2 hhu2.symm
            refine jv_iload dX7_cost_73 rfl ?_
            exact jm_ireturn dX7_cost_75 rfl h
          · replace h := h.2 c5
            refine jv_aload_n dX7_cost_37 rfl ?_
            refine gf_7_10 rfl dX7_cost_38 kd_c_0 (lt_c 0 rfl) rf_c_0_0 ?_
            refine gf_7_53 rfl dX7_cost_41 (kd_N_0 isNet_1) (lt_N isNet_1 0 rfl) (rf_N_0_0 isNet_1) ?_
            refine gf_7_74 rfl dX7_cost_44 (kd_N_1 isNet_1) (lt_N isNet_1 1 rfl) (rf_N_1_4 isNet_1) ?_
            refine jv_goto (t := 60) dX7_cost_47 rfl ?_
            refine jv_astore (ls' := [some (.ref 0), some (.int a1), some (.int a2), some (.int a3), some (.ref 6), none]) dX7_cost_60 (Nat.le_of_ble_eq_true rfl) rfl ?_
            refine jv_aload dX7_cost_62 rfl ?_
            refine jv_iload_n dX7_cost_64 rfl ?_
            obtain ⟨b7, h⟩ := h
            refine jm_iaload dX7_cost_65 (kd_N_5 isNet_1) (lt_N isNet_1 5 rfl) b7 ?_
            generalize hhi5_3 : u 6 a1.toNatClampNeg = i5_3
            replace h := h i5_3 hhi5_3.symm
            refine jv_istore (ls' := [some (.ref 0), some (.int a1), some (.int a2), some (.int a3), some (.ref 6), some (.int i5_3)]) dX7_cost_66 (Nat.le_of_ble_eq_true rfl) rfl ?_
            refine jv_aload dX7_cost_68 rfl ?_
            refine jv_iload_n dX7_cost_70 rfl ?_
            refine jv_iload_n dX7_cost_71 rfl ?_
            refine jm_iastore dX7_cost_72 (kd_N_5 isNet_1) (lt_N isNet_1 5 rfl) b7 ?_
            generalize hhu4 : jw u 6 a1.toNatClampNeg a3 = u4
            replace h := h u4 hhu4.symm
            refine jv_iload dX7_cost_73 rfl ?_
            exact jm_ireturn dX7_cost_75 rfl h
        · replace h := h.2 c4
          refine jv_bipush dX7_cost_30 ci_bipush_m2 ?_
          exact jm_ireturn dX7_cost_32 rfl h
theorem g_X7_told_0 {E : JE} {u : JM} {K : Int32 → JM → Prop}  {a1 a2 : Int32}
    (h : ((¬ (jb (0 ≤ a1.toInt ∧ a1.toInt < (u 2 0).toInt)) = 0 → ((a2 = 0 → vp_in a1 12 ∧
   K (u 3 a1.toNatClampNeg) u) ∧
  (a2 = 1 → vp_in a1 12 ∧
   K (u 4 a1.toNatClampNeg) u) ∧
  (a2 = 2 → vp_in a1 12 ∧
   K (u 5 a1.toNatClampNeg) u) ∧
  (a2 = 3 → vp_in a1 12 ∧
   K (u 6 a1.toNatClampNeg) u) ∧
  (a2 = 4 → vp_in a1 12 ∧
   K (u 7 a1.toNatClampNeg) u) ∧
  (a2 = 5 → vp_in a1 12 ∧
   (((u 8 a1.toNatClampNeg) = 0 → K 0 u) ∧
   (¬ (u 8 a1.toNatClampNeg) = 0 → K 1 u))) ∧
  (¬ a2 = 0 → ¬ a2 = 1 → ¬ a2 = 2 → ¬ a2 = 3 → ¬ a2 = 4 → ¬ a2 = 5 → K (-2) u))) ∧
 ((jb (0 ≤ a1.toInt ∧ a1.toInt < (u 2 0).toInt)) = 0 → K (-2) u)))
    : JVi E 2 YX7_told K 0 [some (.ref 0), some (.int a1), some (.int a2), none] [] u := by
  refine jv_aload_n dX7_told_0 rfl ?_
  refine gf_7_10 rfl dX7_told_1 kd_c_0 (lt_c 0 rfl) rf_c_0_0 ?_
  refine gf_7_53 rfl dX7_told_4 (kd_N_0 isNet_1) (lt_N isNet_1 0 rfl) (rf_N_0_0 isNet_1) ?_
  refine jv_astore_n (ls' := [some (.ref 0), some (.int a1), some (.int a2), some (.ref 2)]) dX7_told_7 (Nat.le_of_ble_eq_true rfl) rfl ?_
  refine jv_aload_n dX7_told_8 rfl ?_
  refine jv_iload_n dX7_told_9 rfl ?_
  refine jm_callVi [.int a1] cw_7_67 dX7_told_10 rfl (Nat.le_of_ble_eq_true rfl) (kd_N_1 isNet_1) (r := (RX1, TX1, 8)) rfl rfl (lt_N isNet_1 1 rfl) (Nat.le_of_ble_eq_true rfl) (p_X1_has isNet_1 ?_)
  refine jv_if_ne (t := 19) dX7_told_13 rfl (fun c1 => ?_) (fun c1 => ?_)
  · replace h := h.1 c1
    refine jv_iload_n dX7_told_19 rfl ?_
    by_cases c2 : a2 = 0
    · replace h := h.1 c2
      refine jv_tableIn (off := 40) (t := 60) dX7_told_20 (by rw [c2]; decide) (by rw [c2]; decide) (by rw [c2]; rfl) rfl ?_
      refine jv_aload_n dX7_told_60 rfl ?_
      refine gf_7_81 rfl dX7_told_61 (kd_N_1 isNet_1) (lt_N isNet_1 1 rfl) (rf_N_1_1 isNet_1) ?_
      refine jv_iload_n dX7_told_64 rfl ?_
      obtain ⟨b3, h⟩ := h
      refine jm_iaload dX7_told_65 (kd_N_2 isNet_1) (lt_N isNet_1 2 rfl) b3 ?_
      exact jm_ireturn dX7_told_66 rfl h
    by_cases c4 : a2 = 1
    · replace h := h.2.1 c4
      refine jv_tableIn (off := 47) (t := 67) dX7_told_20 (by rw [c4]; decide) (by rw [c4]; decide) (by rw [c4]; rfl) rfl ?_
      refine jv_aload_n dX7_told_67 rfl ?_
      refine gf_7_84 rfl dX7_told_68 (kd_N_1 isNet_1) (lt_N isNet_1 1 rfl) (rf_N_1_2 isNet_1) ?_
      refine jv_iload_n dX7_told_71 rfl ?_
      obtain ⟨b5, h⟩ := h
      refine jm_iaload dX7_told_72 (kd_N_3 isNet_1) (lt_N isNet_1 3 rfl) b5 ?_
      exact jm_ireturn dX7_told_73 rfl h
    by_cases c6 : a2 = 2
    · replace h := h.2.2.1 c6
      refine jv_tableIn (off := 54) (t := 74) dX7_told_20 (by rw [c6]; decide) (by rw [c6]; decide) (by rw [c6]; rfl) rfl ?_
      refine jv_aload_n dX7_told_74 rfl ?_
      refine gf_7_87 rfl dX7_told_75 (kd_N_1 isNet_1) (lt_N isNet_1 1 rfl) (rf_N_1_3 isNet_1) ?_
      refine jv_iload_n dX7_told_78 rfl ?_
      obtain ⟨b7, h⟩ := h
      refine jm_iaload dX7_told_79 (kd_N_4 isNet_1) (lt_N isNet_1 4 rfl) b7 ?_
      exact jm_ireturn dX7_told_80 rfl h
    by_cases c8 : a2 = 3
    · replace h := h.2.2.2.1 c8
      refine jv_tableIn (off := 61) (t := 81) dX7_told_20 (by rw [c8]; decide) (by rw [c8]; decide) (by rw [c8]; rfl) rfl ?_
      refine jv_aload_n dX7_told_81 rfl ?_
      refine gf_7_74 rfl dX7_told_82 (kd_N_1 isNet_1) (lt_N isNet_1 1 rfl) (rf_N_1_4 isNet_1) ?_
      refine jv_iload_n dX7_told_85 rfl ?_
      obtain ⟨b9, h⟩ := h
      refine jm_iaload dX7_told_86 (kd_N_5 isNet_1) (lt_N isNet_1 5 rfl) b9 ?_
      exact jm_ireturn dX7_told_87 rfl h
    by_cases c10 : a2 = 4
    · replace h := h.2.2.2.2.1 c10
      refine jv_tableIn (off := 68) (t := 88) dX7_told_20 (by rw [c10]; decide) (by rw [c10]; decide) (by rw [c10]; rfl) rfl ?_
      refine jv_aload_n dX7_told_88 rfl ?_
      refine gf_7_78 rfl dX7_told_89 (kd_N_1 isNet_1) (lt_N isNet_1 1 rfl) (rf_N_1_5 isNet_1) ?_
      refine jv_iload_n dX7_told_92 rfl ?_
      obtain ⟨b11, h⟩ := h
      refine jm_iaload dX7_told_93 (kd_N_6 isNet_1) (lt_N isNet_1 6 rfl) b11 ?_
      exact jm_ireturn dX7_told_94 rfl h
    by_cases c12 : a2 = 5
    · replace h := h.2.2.2.2.2.1 c12
      refine jv_tableIn (off := 75) (t := 95) dX7_told_20 (by rw [c12]; decide) (by rw [c12]; decide) (by rw [c12]; rfl) rfl ?_
      refine jv_aload_n dX7_told_95 rfl ?_
      refine gf_7_70 rfl dX7_told_96 (kd_N_1 isNet_1) (lt_N isNet_1 1 rfl) (rf_N_1_6 isNet_1) ?_
      refine jv_iload_n dX7_told_99 rfl ?_
      obtain ⟨b13, h⟩ := h
      refine jm_baload dX7_told_100 (kd_N_7 isNet_1) (lt_N isNet_1 7 rfl) b13 ?_
      refine jv_if_eq (t := 108) dX7_told_101 rfl (fun c14 => ?_) (fun c14 => ?_)
      · replace h := h.1 c14
        refine jv_iconst dX7_told_108 ci_iconst_0 ?_
        exact jm_ireturn dX7_told_109 rfl h
      · replace h := h.2 c14
        refine jv_iconst dX7_told_104 ci_iconst_1 ?_
        refine jv_goto (t := 109) dX7_told_105 rfl ?_
        exact jm_ireturn dX7_told_109 rfl h
    replace h := h.2.2.2.2.2.2 c2 c4 c6 c8 c10 c12
    refine jv_tableOut (t := 110) dX7_told_20 (by have q0 := i32_ne c2; have q1 := i32_ne c4; have q2 := i32_ne c6; have q3 := i32_ne c8; have q4 := i32_ne c10; have q5 := i32_ne c12; rw [show (0 : Int32).toInt = 0 from by decide] at q0; rw [show (1 : Int32).toInt = 1 from by decide] at q1; rw [show (2 : Int32).toInt = 2 from by decide] at q2; rw [show (3 : Int32).toInt = 3 from by decide] at q3; rw [show (4 : Int32).toInt = 4 from by decide] at q4; rw [show (5 : Int32).toInt = 5 from by decide] at q5; omega) rfl ?_
    refine jv_bipush dX7_told_110 ci_bipush_m2 ?_
    exact jm_ireturn dX7_told_112 rfl h
  · replace h := h.2 c1
    refine jv_bipush dX7_told_16 ci_bipush_m2 ?_
    exact jm_ireturn dX7_told_18 rfl h
theorem g_X7_router_0 {E : JE} {u : JM} {K : Int32 → JM → Prop}  {a1 a2 : Int32}
    (h : ((¬ (jb (rg a1 0 7)) = 0 → ((a2 = 0 → JCi E 2 YX1_areasOf [.ref 2, .int a1] (fun x1 u1 =>
   K x1 u1) u) ∧
  (a2 = 1 → JCi E 2 YX1_areasOf [.ref 2, .int a1] (fun x2 u2 =>
   (((jb (¬ x2 &&& 1 = 0 ∧ ¬ x2 = 1)) = 0 → K 0 u2) ∧
    (¬ (jb (¬ x2 &&& 1 = 0 ∧ ¬ x2 = 1)) = 0 → K 1 u2))) u) ∧
  (a2 = 2 → JCi E 2 YX2_knownTo [.ref 1, .int a1] (fun x3 u3 =>
   K x3 u3) u) ∧
  (a2 = 3 → JCi E 3 YX2_staleTo [.ref 1, .int a1] (fun x4 u4 =>
   K x4 u4) u) ∧
  (¬ a2 = 0 → ¬ a2 = 1 → ¬ a2 = 2 → ¬ a2 = 3 → K (-2) u))) ∧
 ((jb (rg a1 0 7)) = 0 → K (-2) u)))
    : JVi E 4 YX7_router K 0 [some (.ref 0), some (.int a1), some (.int a2)] [] u := by
  refine jv_iload_n dX7_router_0 rfl ?_
  refine jm_callSi [.int a1] cw_7_43 dX7_router_1 rfl (Nat.le_of_ble_eq_true rfl) (Nat.le_of_ble_eq_true rfl) (p_X7_isRouter  ?_)
  refine jv_if_ne (t := 10) dX7_router_4 rfl (fun c1 => ?_) (fun c1 => ?_)
  · replace h := h.1 c1
    refine jv_iload_n dX7_router_10 rfl ?_
    by_cases c2 : a2 = 0
    · replace h := h.1 c2
      refine jv_tableIn (off := 29) (t := 40) dX7_router_11 (by rw [c2]; decide) (by rw [c2]; decide) (by rw [c2]; rfl) rfl ?_
      refine jv_aload_n dX7_router_40 rfl ?_
      refine gf_7_10 rfl dX7_router_41 kd_c_0 (lt_c 0 rfl) rf_c_0_0 ?_
      refine gf_7_53 rfl dX7_router_44 (kd_N_0 isNet_1) (lt_N isNet_1 0 rfl) (rf_N_0_0 isNet_1) ?_
      refine jv_iload_n dX7_router_47 rfl ?_
      refine jm_callVi [.int a1] cw_7_90 dX7_router_48 rfl (Nat.le_of_ble_eq_true rfl) (kd_N_1 isNet_1) (r := (RX1, TX1, 8)) rfl rfl (lt_N isNet_1 1 rfl) (Nat.le_of_ble_eq_true rfl) (JCi.mono h (fun x1 u1 h => ?_))
      exact jm_ireturn dX7_router_51 rfl h
    by_cases c3 : a2 = 1
    · replace h := h.2.1 c3
      refine jv_tableIn (off := 41) (t := 52) dX7_router_11 (by rw [c3]; decide) (by rw [c3]; decide) (by rw [c3]; rfl) rfl ?_
      refine jv_aload_n dX7_router_52 rfl ?_
      refine gf_7_10 rfl dX7_router_53 kd_c_0 (lt_c 0 rfl) rf_c_0_0 ?_
      refine gf_7_53 rfl dX7_router_56 (kd_N_0 isNet_1) (lt_N isNet_1 0 rfl) (rf_N_0_0 isNet_1) ?_
      refine jv_iload_n dX7_router_59 rfl ?_
      refine jm_callVi [.int a1] cw_7_90 dX7_router_60 rfl (Nat.le_of_ble_eq_true rfl) (kd_N_1 isNet_1) (r := (RX1, TX1, 8)) rfl rfl (lt_N isNet_1 1 rfl) (Nat.le_of_ble_eq_true rfl) (JCi.mono h (fun x2 u2 h => ?_))
      refine jm_callSi [.int x2] cw_7_94 dX7_router_63 rfl (Nat.le_of_ble_eq_true rfl) (Nat.le_of_ble_eq_true rfl) (p_X7_isBorder  ?_)
      refine jv_if_eq (t := 73) dX7_router_66 rfl (fun c4 => ?_) (fun c4 => ?_)
      · replace h := h.1 c4
        refine jv_iconst dX7_router_73 ci_iconst_0 ?_
        exact jm_ireturn dX7_router_74 rfl h
      · replace h := h.2 c4
        refine jv_iconst dX7_router_69 ci_iconst_1 ?_
        refine jv_goto (t := 74) dX7_router_70 rfl ?_
        exact jm_ireturn dX7_router_74 rfl h
    by_cases c5 : a2 = 2
    · replace h := h.2.2.1 c5
      refine jv_tableIn (off := 64) (t := 75) dX7_router_11 (by rw [c5]; decide) (by rw [c5]; decide) (by rw [c5]; rfl) rfl ?_
      refine jv_aload_n dX7_router_75 rfl ?_
      refine gf_7_10 rfl dX7_router_76 kd_c_0 (lt_c 0 rfl) rf_c_0_0 ?_
      refine jv_iload_n dX7_router_79 rfl ?_
      refine jm_callVi [.int a1] cw_7_97 dX7_router_80 rfl (Nat.le_of_ble_eq_true rfl) (kd_N_0 isNet_1) (r := (RX2, TX2, 13)) rfl rfl (lt_N isNet_1 0 rfl) (Nat.le_of_ble_eq_true rfl) (JCi.mono h (fun x3 u3 h => ?_))
      exact jm_ireturn dX7_router_83 rfl h
    by_cases c6 : a2 = 3
    · replace h := h.2.2.2.1 c6
      refine jv_tableIn (off := 73) (t := 84) dX7_router_11 (by rw [c6]; decide) (by rw [c6]; decide) (by rw [c6]; rfl) rfl ?_
      refine jv_aload_n dX7_router_84 rfl ?_
      refine gf_7_10 rfl dX7_router_85 kd_c_0 (lt_c 0 rfl) rf_c_0_0 ?_
      refine jv_iload_n dX7_router_88 rfl ?_
      refine jm_callVi [.int a1] cw_7_100 dX7_router_89 rfl (Nat.le_of_ble_eq_true rfl) (kd_N_0 isNet_1) (r := (RX2, TX2, 13)) rfl rfl (lt_N isNet_1 0 rfl) (Nat.le_of_ble_eq_true rfl) (JCi.mono h (fun x4 u4 h => ?_))
      exact jm_ireturn dX7_router_92 rfl h
    replace h := h.2.2.2.2 c2 c3 c5 c6
    refine jv_tableOut (t := 93) dX7_router_11 (by have q0 := i32_ne c2; have q1 := i32_ne c3; have q2 := i32_ne c5; have q3 := i32_ne c6; rw [show (0 : Int32).toInt = 0 from by decide] at q0; rw [show (1 : Int32).toInt = 1 from by decide] at q1; rw [show (2 : Int32).toInt = 2 from by decide] at q2; rw [show (3 : Int32).toInt = 3 from by decide] at q3; omega) rfl ?_
    refine jv_bipush dX7_router_93 ci_bipush_m2 ?_
    exact jm_ireturn dX7_router_95 rfl h
  · replace h := h.2 c1
    refine jv_bipush dX7_router_7 ci_bipush_m2 ?_
    exact jm_ireturn dX7_router_9 rfl h
theorem g_X7_taken_0 {E : JE} {u : JM} {K : Int32 → JM → Prop}  {a1 a2 : Int32}
    (h : (((jb (rg a1 0 7)) = 0 → K (-2) u) ∧
 (¬ (jb (rg a1 0 7)) = 0 → ((a2 < 0 → K (-2) u) ∧
  (¬ a2 < 0 → ((a2 ≤ 2 → JCi E 2 YX1_areasOf [.ref 2, .int a1] (fun x1 u1 =>
    ∀ v_2 : Int32, v_2 = (if a2 = 0 then (if x1 = 0 then 0 else 1) else (if a2 = 1 then (jb (¬ x1 &&& 1 = 0 ∧ ¬ x1 = 1)) else (if x1 = 1 then 1 else 0))) →
     ((v_2 = 0 → K (-13) u1) ∧
     (¬ v_2 = 0 → JCi E 2 YX1_upOf [.ref 2, .int a1] (fun x3 u3 =>
      K x3 u3) u1))) u) ∧
   (¬ a2 ≤ 2 → K (-2) u)))))))
    : JVi E 3 YX7_taken K 0 [some (.ref 0), some (.int a1), some (.int a2), none, none] [] u := by
  refine jv_iload_n dX7_taken_0 rfl ?_
  refine jm_callSi [.int a1] cw_7_43 dX7_taken_1 rfl (Nat.le_of_ble_eq_true rfl) (Nat.le_of_ble_eq_true rfl) (p_X7_isRouter  ?_)
  refine jv_if_eq (t := 16) dX7_taken_4 rfl (fun c1 => ?_) (fun c1 => ?_)
  · replace h := h.1 c1
    refine jv_bipush dX7_taken_16 ci_bipush_m2 ?_
    exact jm_ireturn dX7_taken_18 rfl h
  · replace h := h.2 c1
    refine jv_iload_n dX7_taken_7 rfl ?_
    refine jv_if_lt (t := 16) dX7_taken_8 rfl (fun c2 => ?_) (fun c2 => ?_)
    · replace h := h.1 c2
      refine jv_bipush dX7_taken_16 ci_bipush_m2 ?_
      exact jm_ireturn dX7_taken_18 rfl h
    · replace h := h.2 c2
      refine jv_iload_n dX7_taken_11 rfl ?_
      refine jv_iconst dX7_taken_12 ci_iconst_2 ?_
      refine jv_icmp_le (t := 19) dX7_taken_13 rfl (fun c3 => ?_) (fun c3 => ?_)
      · replace h := h.1 c3
        refine jv_aload_n dX7_taken_19 rfl ?_
        refine gf_7_10 rfl dX7_taken_20 kd_c_0 (lt_c 0 rfl) rf_c_0_0 ?_
        refine gf_7_53 rfl dX7_taken_23 (kd_N_0 isNet_1) (lt_N isNet_1 0 rfl) (rf_N_0_0 isNet_1) ?_
        refine jv_iload_n dX7_taken_26 rfl ?_
        refine jm_callVi [.int a1] cw_7_90 dX7_taken_27 rfl (Nat.le_of_ble_eq_true rfl) (kd_N_1 isNet_1) (r := (RX1, TX1, 8)) rfl rfl (lt_N isNet_1 1 rfl) (Nat.le_of_ble_eq_true rfl) (JCi.mono h (fun x1 u1 h => ?_))
        refine jv_istore_n (ls' := [some (.ref 0), some (.int a1), some (.int a2), some (.int x1), none]) dX7_taken_30 (Nat.le_of_ble_eq_true rfl) rfl ?_
        refine jv_iload_n dX7_taken_31 rfl ?_
        have key6 : ∀ v_2 : Int32, v_2 = (if a2 = 0 then (if x1 = 0 then 0 else 1) else (if a2 = 1 then (jb (¬ x1 &&& 1 = 0 ∧ ¬ x1 = 1)) else (if x1 = 1 then 1 else 0))) → JVi E 3 YX7_taken K 69 [some (.ref 0), some (.int a1), some (.int a2), some (.int x1), none] [.int v_2] u1 := by
          intro v_2 hv_2
          replace h := h v_2 hv_2
          refine jv_istore (ls' := [some (.ref 0), some (.int a1), some (.int a2), some (.int x1), some (.int v_2)]) dX7_taken_69 (Nat.le_of_ble_eq_true rfl) rfl ?_
          refine jv_iload dX7_taken_71 rfl ?_
          refine jv_if_eq (t := 90) dX7_taken_73 rfl (fun c5 => ?_) (fun c5 => ?_)
          · replace h := h.1 c5
            refine jv_bipush dX7_taken_90 ci_bipush_m13 ?_
            exact jm_ireturn dX7_taken_92 rfl h
          · replace h := h.2 c5
            refine jv_aload_n dX7_taken_76 rfl ?_
            refine gf_7_10 rfl dX7_taken_77 kd_c_0 (lt_c 0 rfl) rf_c_0_0 ?_
            refine gf_7_53 rfl dX7_taken_80 (kd_N_0 isNet_1) (lt_N isNet_1 0 rfl) (rf_N_0_0 isNet_1) ?_
            refine jv_iload_n dX7_taken_83 rfl ?_
            refine jm_callVi [.int a1] cw_7_103 dX7_taken_84 rfl (Nat.le_of_ble_eq_true rfl) (kd_N_1 isNet_1) (r := (RX1, TX1, 8)) rfl rfl (lt_N isNet_1 1 rfl) (Nat.le_of_ble_eq_true rfl) (JCi.mono h (fun x3 u3 h => ?_))
            refine jv_goto (t := 92) dX7_taken_87 rfl ?_
            exact jm_ireturn dX7_taken_92 rfl h
        clear h
        refine jv_if_ne (t := 47) dX7_taken_32 rfl (fun c7 => ?_) (fun c7 => ?_)
        · refine jv_iload_n dX7_taken_47 rfl ?_
          refine jv_iconst dX7_taken_48 ci_iconst_1 ?_
          refine jv_icmp_ne (t := 59) dX7_taken_49 rfl (fun c8 => ?_) (fun c8 => ?_)
          · refine jv_iload_n dX7_taken_59 rfl ?_
            refine jv_iconst dX7_taken_60 ci_iconst_1 ?_
            refine jv_icmp_ne (t := 68) dX7_taken_61 rfl (fun c9 => ?_) (fun c9 => ?_)
            · refine jv_iconst dX7_taken_68 ci_iconst_0 ?_
              exact key6 _ (Eq.trans (Eq.trans (Eq.trans rfl (if_neg c9).symm) (if_neg c8).symm) (if_neg c7).symm)
            · refine jv_iconst dX7_taken_64 ci_iconst_1 ?_
              refine jv_goto (t := 69) dX7_taken_65 rfl ?_
              exact key6 _ (Eq.trans (Eq.trans (Eq.trans rfl (if_pos c9).symm) (if_neg c8).symm) (if_neg c7).symm)
          · refine jv_iload_n dX7_taken_52 rfl ?_
            refine jm_callSi [.int x1] cw_7_94 dX7_taken_53 rfl (Nat.le_of_ble_eq_true rfl) (Nat.le_of_ble_eq_true rfl) (p_X7_isBorder  ?_)
            refine jv_goto (t := 69) dX7_taken_56 rfl ?_
            exact key6 _ (Eq.trans (Eq.trans rfl (if_pos c8).symm) (if_neg c7).symm)
        · refine jv_iload_n dX7_taken_35 rfl ?_
          refine jv_if_eq (t := 43) dX7_taken_36 rfl (fun c10 => ?_) (fun c10 => ?_)
          · refine jv_iconst dX7_taken_43 ci_iconst_0 ?_
            refine jv_goto (t := 69) dX7_taken_44 rfl ?_
            exact key6 _ (Eq.trans (Eq.trans rfl (if_pos c10).symm) (if_pos c7).symm)
          · refine jv_iconst dX7_taken_39 ci_iconst_1 ?_
            refine jv_goto (t := 69) dX7_taken_40 rfl ?_
            exact key6 _ (Eq.trans (Eq.trans rfl (if_neg c10).symm) (if_pos c7).symm)
      · replace h := h.2 c3
        refine jv_bipush dX7_taken_16 ci_bipush_m2 ?_
        exact jm_ireturn dX7_taken_18 rfl h
theorem g_X7_tick_0 {E : JE} {u : JM} {K : Int32 → JM → Prop} 
    (h : JCi E 6 YX2_advance [.ref 1, .int 1] (fun x1 u1 =>
 K x1 u1) u)
    : JVi E 7 YX7_tick K 0 [some (.ref 0)] [] u := by
  refine jv_aload_n dX7_tick_0 rfl ?_
  refine gf_7_10 rfl dX7_tick_1 kd_c_0 (lt_c 0 rfl) rf_c_0_0 ?_
  refine jv_iconst dX7_tick_4 ci_iconst_1 ?_
  refine jm_callVi [.int 1] cw_7_106 dX7_tick_5 rfl (Nat.le_of_ble_eq_true rfl) (kd_N_0 isNet_1) (r := (RX2, TX2, 13)) rfl rfl (lt_N isNet_1 0 rfl) (Nat.le_of_ble_eq_true rfl) (JCi.mono h (fun x1 u1 h => ?_))
  exact jm_ireturn dX7_tick_8 rfl h
theorem g_X7_ticks_0 {E : JE} {u : JM} {K : Int32 → JM → Prop}  {a1 : Int32}
    (h : ((a1 < 0 → K (-2) u) ∧
 (¬ a1 < 0 → ((a1 ≤ 80 → JCi E 6 YX2_advance [.ref 1, .int a1] (fun x1 u1 =>
   K x1 u1) u) ∧
  (¬ a1 ≤ 80 → K (-2) u)))))
    : JVi E 7 YX7_ticks K 0 [some (.ref 0), some (.int a1)] [] u := by
  refine jv_iload_n dX7_ticks_0 rfl ?_
  refine jv_if_lt (t := 10) dX7_ticks_1 rfl (fun c1 => ?_) (fun c1 => ?_)
  · replace h := h.1 c1
    refine jv_bipush dX7_ticks_10 ci_bipush_m2 ?_
    refine jv_goto (t := 23) dX7_ticks_12 rfl ?_
    exact jm_ireturn dX7_ticks_23 rfl h
  · replace h := h.2 c1
    refine jv_iload_n dX7_ticks_4 rfl ?_
    refine jv_bipush dX7_ticks_5 ci_bipush_80 ?_
    refine jv_icmp_le (t := 15) dX7_ticks_7 rfl (fun c2 => ?_) (fun c2 => ?_)
    · replace h := h.1 c2
      refine jv_aload_n dX7_ticks_15 rfl ?_
      refine gf_7_10 rfl dX7_ticks_16 kd_c_0 (lt_c 0 rfl) rf_c_0_0 ?_
      refine jv_iload_n dX7_ticks_19 rfl ?_
      refine jm_callVi [.int a1] cw_7_106 dX7_ticks_20 rfl (Nat.le_of_ble_eq_true rfl) (kd_N_0 isNet_1) (r := (RX2, TX2, 13)) rfl rfl (lt_N isNet_1 0 rfl) (Nat.le_of_ble_eq_true rfl) (JCi.mono h (fun x1 u1 h => ?_))
      exact jm_ireturn dX7_ticks_23 rfl h
    · replace h := h.2 c2
      refine jv_bipush dX7_ticks_10 ci_bipush_m2 ?_
      refine jv_goto (t := 23) dX7_ticks_12 rfl ?_
      exact jm_ireturn dX7_ticks_23 rfl h
theorem g_X7_advert_0 {E : JE} {u : JM} {K : Int32 → JM → Prop}  {a1 a2 a3 a4 : Int32}
    (h : (((jb (rg a1 0 7)) = 0 → K (-2) u) ∧
 (¬ (jb (rg a1 0 7)) = 0 → (((jb (rg a2 0 7)) = 0 → K (-2) u) ∧
  (¬ (jb (rg a2 0 7)) = 0 → (((jb (rg a3 0 2)) = 0 → K (-2) u) ∧
   (¬ (jb (rg a3 0 2)) = 0 → ((¬ (jb (isAdvW a4)) = 0 → ∀ i6_1 : Int32, i6_1 = (a1 * 3 + a3) * 8 + a2 →
     vp_in i6_1 192 ∧
     ((¬ (u 11 i6_1.toNatClampNeg) = 0 → ((a4 = 0 → K (u 11 i6_1.toNatClampNeg) u) ∧
      (a4 = 1 → K (u 12 i6_1.toNatClampNeg) u) ∧
      (a4 = 2 → K (u 13 i6_1.toNatClampNeg) u) ∧
      (¬ a4 = 0 → ¬ a4 = 1 → ¬ a4 = 2 → ((30 ≤ a4 → vp_in (((i6_1 * 8) + a4) - 30) 1536 ∧
        K (u 15 (((i6_1 * 8) + a4) - 30).toNatClampNeg) u) ∧
       (¬ 30 ≤ a4 → vp_in (((i6_1 * 12) + a4) - 10) 2304 ∧
        K (u 14 (((i6_1 * 12) + a4) - 10).toNatClampNeg) u))))) ∧
     ((u 11 i6_1.toNatClampNeg) = 0 → K (-3) u))) ∧
    ((jb (isAdvW a4)) = 0 → K (-2) u)))))))))
    : JVi E 2 YX7_advert K 0 [some (.ref 0), some (.int a1), some (.int a2), some (.int a3), some (.int a4), none, none] [] u := by
  refine jv_iload_n dX7_advert_0 rfl ?_
  refine jm_callSi [.int a1] cw_7_43 dX7_advert_1 rfl (Nat.le_of_ble_eq_true rfl) (Nat.le_of_ble_eq_true rfl) (p_X7_isRouter  ?_)
  refine jv_if_eq (t := 29) dX7_advert_4 rfl (fun c1 => ?_) (fun c1 => ?_)
  · replace h := h.1 c1
    refine jv_bipush dX7_advert_29 ci_bipush_m2 ?_
    exact jm_ireturn dX7_advert_31 rfl h
  · replace h := h.2 c1
    refine jv_iload_n dX7_advert_7 rfl ?_
    refine jm_callSi [.int a2] cw_7_43 dX7_advert_8 rfl (Nat.le_of_ble_eq_true rfl) (Nat.le_of_ble_eq_true rfl) (p_X7_isRouter  ?_)
    refine jv_if_eq (t := 29) dX7_advert_11 rfl (fun c2 => ?_) (fun c2 => ?_)
    · replace h := h.1 c2
      refine jv_bipush dX7_advert_29 ci_bipush_m2 ?_
      exact jm_ireturn dX7_advert_31 rfl h
    · replace h := h.2 c2
      refine jv_iload_n dX7_advert_14 rfl ?_
      refine jm_callSi [.int a3] cw_7_47 dX7_advert_15 rfl (Nat.le_of_ble_eq_true rfl) (Nat.le_of_ble_eq_true rfl) (p_X7_isArea  ?_)
      refine jv_if_eq (t := 29) dX7_advert_18 rfl (fun c3 => ?_) (fun c3 => ?_)
      · replace h := h.1 c3
        refine jv_bipush dX7_advert_29 ci_bipush_m2 ?_
        exact jm_ireturn dX7_advert_31 rfl h
      · replace h := h.2 c3
        refine jv_iload dX7_advert_21 rfl ?_
        refine jm_callSi [.int a4] cw_7_109 dX7_advert_23 rfl (Nat.le_of_ble_eq_true rfl) (Nat.le_of_ble_eq_true rfl) (p_X7_isOfAdvert  ?_)
        refine jv_if_ne (t := 32) dX7_advert_26 rfl (fun c4 => ?_) (fun c4 => ?_)
        · replace h := h.1 c4
          refine jv_aload_n dX7_advert_32 rfl ?_
          refine gf_7_10 rfl dX7_advert_33 kd_c_0 (lt_c 0 rfl) rf_c_0_0 ?_
          refine gf_7_112 rfl dX7_advert_36 (kd_N_0 isNet_1) (lt_N isNet_1 0 rfl) (rf_N_0_1 isNet_1) ?_
          refine jv_astore (ls' := [some (.ref 0), some (.int a1), some (.int a2), some (.int a3), some (.int a4), some (.ref 10), none]) dX7_advert_39 (Nat.le_of_ble_eq_true rfl) rfl ?_
          refine jv_iload_n dX7_advert_41 rfl ?_
          refine jv_iload_n dX7_advert_42 rfl ?_
          refine jv_iload_n dX7_advert_43 rfl ?_
          refine jm_callSi [.int a1, .int a3, .int a2] cw_7_116 dX7_advert_44 rfl (Nat.le_of_ble_eq_true rfl) (Nat.le_of_ble_eq_true rfl) (p_X7_rowOf  ?_)
          generalize hhi6_1 : (a1 * 3 + a3) * 8 + a2 = i6_1
          replace h := h i6_1 hhi6_1.symm
          refine jv_istore (ls' := [some (.ref 0), some (.int a1), some (.int a2), some (.int a3), some (.int a4), some (.ref 10), some (.int i6_1)]) dX7_advert_47 (Nat.le_of_ble_eq_true rfl) rfl ?_
          refine jv_aload dX7_advert_49 rfl ?_
          refine gf_7_120 rfl dX7_advert_51 (kd_N_9 isNet_1) (lt_N isNet_1 9 rfl) (rf_N_9_0 isNet_1) ?_
          refine jv_iload dX7_advert_54 rfl ?_
          obtain ⟨b5, h⟩ := h
          refine jm_iaload dX7_advert_56 (kd_N_10 isNet_1) (lt_N isNet_1 10 rfl) b5 ?_
          refine jv_if_ne (t := 63) dX7_advert_57 rfl (fun c6 => ?_) (fun c6 => ?_)
          · replace h := h.1 c6
            refine jv_iload dX7_advert_63 rfl ?_
            by_cases c7 : a4 = 0
            · replace h := h.1 c7
              refine jv_tableIn (off := 27) (t := 92) dX7_advert_65 (by rw [c7]; decide) (by rw [c7]; decide) (by rw [c7]; rfl) rfl ?_
              refine jv_aload dX7_advert_92 rfl ?_
              refine gf_7_120 rfl dX7_advert_94 (kd_N_9 isNet_1) (lt_N isNet_1 9 rfl) (rf_N_9_0 isNet_1) ?_
              refine jv_iload dX7_advert_97 rfl ?_
              refine jm_iaload dX7_advert_99 (kd_N_10 isNet_1) (lt_N isNet_1 10 rfl) b5 ?_
              exact jm_ireturn dX7_advert_100 rfl h
            by_cases c8 : a4 = 1
            · replace h := h.2.1 c8
              refine jv_tableIn (off := 36) (t := 101) dX7_advert_65 (by rw [c8]; decide) (by rw [c8]; decide) (by rw [c8]; rfl) rfl ?_
              refine jv_aload dX7_advert_101 rfl ?_
              refine gf_7_125 rfl dX7_advert_103 (kd_N_9 isNet_1) (lt_N isNet_1 9 rfl) (rf_N_9_1 isNet_1) ?_
              refine jv_iload dX7_advert_106 rfl ?_
              refine jm_iaload dX7_advert_108 (kd_N_11 isNet_1) (lt_N isNet_1 11 rfl) b5 ?_
              exact jm_ireturn dX7_advert_109 rfl h
            by_cases c9 : a4 = 2
            · replace h := h.2.2.1 c9
              refine jv_tableIn (off := 45) (t := 110) dX7_advert_65 (by rw [c9]; decide) (by rw [c9]; decide) (by rw [c9]; rfl) rfl ?_
              refine jv_aload dX7_advert_110 rfl ?_
              refine gf_7_128 rfl dX7_advert_112 (kd_N_9 isNet_1) (lt_N isNet_1 9 rfl) (rf_N_9_2 isNet_1) ?_
              refine jv_iload dX7_advert_115 rfl ?_
              refine jm_iaload dX7_advert_117 (kd_N_12 isNet_1) (lt_N isNet_1 12 rfl) b5 ?_
              exact jm_ireturn dX7_advert_118 rfl h
            replace h := h.2.2.2 c7 c8 c9
            refine jv_tableOut (t := 119) dX7_advert_65 (by have q0 := i32_ne c7; have q1 := i32_ne c8; have q2 := i32_ne c9; rw [show (0 : Int32).toInt = 0 from by decide] at q0; rw [show (1 : Int32).toInt = 1 from by decide] at q1; rw [show (2 : Int32).toInt = 2 from by decide] at q2; omega) rfl ?_
            refine jv_iload dX7_advert_119 rfl ?_
            refine jv_bipush dX7_advert_121 ci_bipush_30 ?_
            refine jv_icmp_ge (t := 146) dX7_advert_123 rfl (fun c10 => ?_) (fun c10 => ?_)
            · replace h := h.1 c10
              refine jv_aload dX7_advert_146 rfl ?_
              refine gf_7_133 rfl dX7_advert_148 (kd_N_9 isNet_1) (lt_N isNet_1 9 rfl) (rf_N_9_4 isNet_1) ?_
              refine jv_iload dX7_advert_151 rfl ?_
              refine jv_bipush dX7_advert_153 ci_bipush_8 ?_
              refine jv_imul dX7_advert_155 ?_
              refine jv_iload dX7_advert_156 rfl ?_
              refine jv_iadd dX7_advert_158 ?_
              refine jv_bipush dX7_advert_159 ci_bipush_30 ?_
              refine jv_isub dX7_advert_161 ?_
              obtain ⟨b13, h⟩ := h
              refine jm_iaload dX7_advert_162 (kd_N_14 isNet_1) (lt_N isNet_1 14 rfl) b13 ?_
              exact jm_ireturn dX7_advert_163 rfl h
            · replace h := h.2 c10
              refine jv_aload dX7_advert_126 rfl ?_
              refine gf_7_130 rfl dX7_advert_128 (kd_N_9 isNet_1) (lt_N isNet_1 9 rfl) (rf_N_9_3 isNet_1) ?_
              refine jv_iload dX7_advert_131 rfl ?_
              refine jv_bipush dX7_advert_133 ci_bipush_12 ?_
              refine jv_imul dX7_advert_135 ?_
              refine jv_iload dX7_advert_136 rfl ?_
              refine jv_iadd dX7_advert_138 ?_
              refine jv_bipush dX7_advert_139 ci_bipush_10 ?_
              refine jv_isub dX7_advert_141 ?_
              obtain ⟨b14, h⟩ := h
              refine jm_iaload dX7_advert_142 (kd_N_13 isNet_1) (lt_N isNet_1 13 rfl) b14 ?_
              refine jv_goto (t := 163) dX7_advert_143 rfl ?_
              exact jm_ireturn dX7_advert_163 rfl h
          · replace h := h.2 c6
            refine jv_bipush dX7_advert_60 ci_bipush_m3 ?_
            exact jm_ireturn dX7_advert_62 rfl h
        · replace h := h.2 c4
          refine jv_bipush dX7_advert_29 ci_bipush_m2 ?_
          exact jm_ireturn dX7_advert_31 rfl h
theorem g_X7_message_0 {E : JE} {u : JM} {K : Int32 → JM → Prop}  {a1 a2 : Int32}
    (h : ((a2 < 0 → K (-2) u) ∧
 (¬ a2 < 0 → ((a2 ≤ 4 → ((a1 < 0 → K (-12) u) ∧
   (¬ a1 < 0 → ((a1 < (u 1 6) → ((a2 = 0 → vp_in a1 192 ∧
      K (u 22 a1.toNatClampNeg) u) ∧
     (a2 = 1 → vp_in a1 192 ∧
      K (u 23 a1.toNatClampNeg) u) ∧
     (a2 = 2 → vp_in a1 192 ∧
      K (u 24 a1.toNatClampNeg) u) ∧
     (a2 = 3 → vp_in a1 192 ∧
      vp_in (u 22 a1.toNatClampNeg) 12 ∧
      K (u 5 (u 22 a1.toNatClampNeg).toNatClampNeg) u) ∧
     (¬ a2 = 0 → ¬ a2 = 1 → ¬ a2 = 2 → ¬ a2 = 3 → vp_in a1 192 ∧
      K (u 17 a1.toNatClampNeg) u))) ∧
    (¬ a1 < (u 1 6) → K (-12) u))))) ∧
  (¬ a2 ≤ 4 → K (-2) u)))))
    : JVi E 1 YX7_message K 0 [some (.ref 0), some (.int a1), some (.int a2)] [] u := by
  refine jv_iload_n dX7_message_0 rfl ?_
  refine jv_if_lt (t := 9) dX7_message_1 rfl (fun c1 => ?_) (fun c1 => ?_)
  · replace h := h.1 c1
    refine jv_bipush dX7_message_9 ci_bipush_m2 ?_
    exact jm_ireturn dX7_message_11 rfl h
  · replace h := h.2 c1
    refine jv_iload_n dX7_message_4 rfl ?_
    refine jv_iconst dX7_message_5 ci_iconst_4 ?_
    refine jv_icmp_le (t := 12) dX7_message_6 rfl (fun c2 => ?_) (fun c2 => ?_)
    · replace h := h.1 c2
      refine jv_iload_n dX7_message_12 rfl ?_
      refine jv_if_lt (t := 27) dX7_message_13 rfl (fun c3 => ?_) (fun c3 => ?_)
      · replace h := h.1 c3
        refine jv_bipush dX7_message_27 ci_bipush_m12 ?_
        exact jm_ireturn dX7_message_29 rfl h
      · replace h := h.2 c3
        refine jv_iload_n dX7_message_16 rfl ?_
        refine jv_aload_n dX7_message_17 rfl ?_
        refine gf_7_10 rfl dX7_message_18 kd_c_0 (lt_c 0 rfl) rf_c_0_0 ?_
        refine gf_7_136 rfl dX7_message_21 (kd_N_0 isNet_1) (lt_N isNet_1 0 rfl) ?_
        refine jv_icmp_lt (t := 30) dX7_message_24 rfl (fun c4 => ?_) (fun c4 => ?_)
        · replace h := h.1 c4
          refine jv_iload_n dX7_message_30 rfl ?_
          by_cases c5 : a2 = 0
          · replace h := h.1 c5
            refine jv_tableIn (off := 29) (t := 60) dX7_message_31 (by rw [c5]; decide) (by rw [c5]; decide) (by rw [c5]; rfl) rfl ?_
            refine jv_aload_n dX7_message_60 rfl ?_
            refine gf_7_10 rfl dX7_message_61 kd_c_0 (lt_c 0 rfl) rf_c_0_0 ?_
            refine gf_7_139 rfl dX7_message_64 (kd_N_0 isNet_1) (lt_N isNet_1 0 rfl) (rf_N_0_3 isNet_1) ?_
            refine jv_iload_n dX7_message_67 rfl ?_
            obtain ⟨b6, h⟩ := h
            refine jm_iaload dX7_message_68 (kd_N_21 isNet_1) (lt_N isNet_1 21 rfl) b6 ?_
            exact jm_ireturn dX7_message_69 rfl h
          by_cases c7 : a2 = 1
          · replace h := h.2.1 c7
            refine jv_tableIn (off := 39) (t := 70) dX7_message_31 (by rw [c7]; decide) (by rw [c7]; decide) (by rw [c7]; rfl) rfl ?_
            refine jv_aload_n dX7_message_70 rfl ?_
            refine gf_7_10 rfl dX7_message_71 kd_c_0 (lt_c 0 rfl) rf_c_0_0 ?_
            refine gf_7_142 rfl dX7_message_74 (kd_N_0 isNet_1) (lt_N isNet_1 0 rfl) (rf_N_0_4 isNet_1) ?_
            refine jv_iload_n dX7_message_77 rfl ?_
            obtain ⟨b8, h⟩ := h
            refine jm_iaload dX7_message_78 (kd_N_22 isNet_1) (lt_N isNet_1 22 rfl) b8 ?_
            exact jm_ireturn dX7_message_79 rfl h
          by_cases c9 : a2 = 2
          · replace h := h.2.2.1 c9
            refine jv_tableIn (off := 49) (t := 80) dX7_message_31 (by rw [c9]; decide) (by rw [c9]; decide) (by rw [c9]; rfl) rfl ?_
            refine jv_aload_n dX7_message_80 rfl ?_
            refine gf_7_10 rfl dX7_message_81 kd_c_0 (lt_c 0 rfl) rf_c_0_0 ?_
            refine gf_7_145 rfl dX7_message_84 (kd_N_0 isNet_1) (lt_N isNet_1 0 rfl) (rf_N_0_5 isNet_1) ?_
            refine jv_iload_n dX7_message_87 rfl ?_
            obtain ⟨b10, h⟩ := h
            refine jm_iaload dX7_message_88 (kd_N_23 isNet_1) (lt_N isNet_1 23 rfl) b10 ?_
            exact jm_ireturn dX7_message_89 rfl h
          by_cases c11 : a2 = 3
          · replace h := h.2.2.2.1 c11
            refine jv_tableIn (off := 59) (t := 90) dX7_message_31 (by rw [c11]; decide) (by rw [c11]; decide) (by rw [c11]; rfl) rfl ?_
            refine jv_aload_n dX7_message_90 rfl ?_
            refine gf_7_10 rfl dX7_message_91 kd_c_0 (lt_c 0 rfl) rf_c_0_0 ?_
            refine gf_7_53 rfl dX7_message_94 (kd_N_0 isNet_1) (lt_N isNet_1 0 rfl) (rf_N_0_0 isNet_1) ?_
            refine gf_7_87 rfl dX7_message_97 (kd_N_1 isNet_1) (lt_N isNet_1 1 rfl) (rf_N_1_3 isNet_1) ?_
            refine jv_aload_n dX7_message_100 rfl ?_
            refine gf_7_10 rfl dX7_message_101 kd_c_0 (lt_c 0 rfl) rf_c_0_0 ?_
            refine gf_7_139 rfl dX7_message_104 (kd_N_0 isNet_1) (lt_N isNet_1 0 rfl) (rf_N_0_3 isNet_1) ?_
            refine jv_iload_n dX7_message_107 rfl ?_
            obtain ⟨b12, h⟩ := h
            refine jm_iaload dX7_message_108 (kd_N_21 isNet_1) (lt_N isNet_1 21 rfl) b12 ?_
            obtain ⟨b13, h⟩ := h
            refine jm_iaload dX7_message_109 (kd_N_4 isNet_1) (lt_N isNet_1 4 rfl) b13 ?_
            exact jm_ireturn dX7_message_110 rfl h
          replace h := h.2.2.2.2 c5 c7 c9 c11
          refine jv_tableOut (t := 111) dX7_message_31 (by have q0 := i32_ne c5; have q1 := i32_ne c7; have q2 := i32_ne c9; have q3 := i32_ne c11; rw [show (0 : Int32).toInt = 0 from by decide] at q0; rw [show (1 : Int32).toInt = 1 from by decide] at q1; rw [show (2 : Int32).toInt = 2 from by decide] at q2; rw [show (3 : Int32).toInt = 3 from by decide] at q3; omega) rfl ?_
          refine jv_aload_n dX7_message_111 rfl ?_
          refine gf_7_10 rfl dX7_message_112 kd_c_0 (lt_c 0 rfl) rf_c_0_0 ?_
          refine gf_7_148 rfl dX7_message_115 (kd_N_0 isNet_1) (lt_N isNet_1 0 rfl) (rf_N_0_2 isNet_1) ?_
          refine gf_7_120 rfl dX7_message_118 (kd_N_15 isNet_1) (lt_N isNet_1 15 rfl) (rf_N_15_0 isNet_1) ?_
          refine jv_iload_n dX7_message_121 rfl ?_
          obtain ⟨b14, h⟩ := h
          refine jm_iaload dX7_message_122 (kd_N_16 isNet_1) (lt_N isNet_1 16 rfl) b14 ?_
          exact jm_ireturn dX7_message_123 rfl h
        · replace h := h.2 c4
          refine jv_bipush dX7_message_27 ci_bipush_m12 ?_
          exact jm_ireturn dX7_message_29 rfl h
    · replace h := h.2 c2
      refine jv_bipush dX7_message_9 ci_bipush_m2 ?_
      exact jm_ireturn dX7_message_11 rfl h
theorem g_X7_within_0 {E : JE} {u : JM} {K : Int32 → JM → Prop}  {a1 a2 a3 a4 : Int32}
    (h : (((jb (rg a1 0 7)) = 0 → K (-2) u) ∧
 (¬ (jb (rg a1 0 7)) = 0 → (((jb (rg a2 0 7)) = 0 → K (-2) u) ∧
  (¬ (jb (rg a2 0 7)) = 0 → (((jb (rg a3 0 2)) = 0 → K (-2) u) ∧
   (¬ (jb (rg a3 0 2)) = 0 → ((a4 < 0 → K (-2) u) ∧
    (¬ a4 < 0 → ((a4 ≤ 1 → vp_in a3 3 ∧
      JCu E 2 YX3_measure [.ref (115 + 4 * a3.toNatClampNeg), .ref 1, .int a1, .int a3] (fun u1 =>
      ((¬ a4 = 0 → vp_in a2 8 ∧
        K (u1 ((115 + 4 * a3.toNatClampNeg) + 2) a2.toNatClampNeg) u1) ∧
       (a4 = 0 → vp_in a2 8 ∧
        K (u1 ((115 + 4 * a3.toNatClampNeg) + 1) a2.toNatClampNeg) u1))) u) ∧
     (¬ a4 ≤ 1 → K (-2) u)))))))))))
    : JVi E 3 YX7_within K 0 [some (.ref 0), some (.int a1), some (.int a2), some (.int a3), some (.int a4), none] [] u := by
  refine jv_iload_n dX7_within_0 rfl ?_
  refine jm_callSi [.int a1] cw_7_43 dX7_within_1 rfl (Nat.le_of_ble_eq_true rfl) (Nat.le_of_ble_eq_true rfl) (p_X7_isRouter  ?_)
  refine jv_if_eq (t := 32) dX7_within_4 rfl (fun c1 => ?_) (fun c1 => ?_)
  · replace h := h.1 c1
    refine jv_bipush dX7_within_32 ci_bipush_m2 ?_
    exact jm_ireturn dX7_within_34 rfl h
  · replace h := h.2 c1
    refine jv_iload_n dX7_within_7 rfl ?_
    refine jm_callSi [.int a2] cw_7_43 dX7_within_8 rfl (Nat.le_of_ble_eq_true rfl) (Nat.le_of_ble_eq_true rfl) (p_X7_isRouter  ?_)
    refine jv_if_eq (t := 32) dX7_within_11 rfl (fun c2 => ?_) (fun c2 => ?_)
    · replace h := h.1 c2
      refine jv_bipush dX7_within_32 ci_bipush_m2 ?_
      exact jm_ireturn dX7_within_34 rfl h
    · replace h := h.2 c2
      refine jv_iload_n dX7_within_14 rfl ?_
      refine jm_callSi [.int a3] cw_7_47 dX7_within_15 rfl (Nat.le_of_ble_eq_true rfl) (Nat.le_of_ble_eq_true rfl) (p_X7_isArea  ?_)
      refine jv_if_eq (t := 32) dX7_within_18 rfl (fun c3 => ?_) (fun c3 => ?_)
      · replace h := h.1 c3
        refine jv_bipush dX7_within_32 ci_bipush_m2 ?_
        exact jm_ireturn dX7_within_34 rfl h
      · replace h := h.2 c3
        refine jv_iload dX7_within_21 rfl ?_
        refine jv_if_lt (t := 32) dX7_within_23 rfl (fun c4 => ?_) (fun c4 => ?_)
        · replace h := h.1 c4
          refine jv_bipush dX7_within_32 ci_bipush_m2 ?_
          exact jm_ireturn dX7_within_34 rfl h
        · replace h := h.2 c4
          refine jv_iload dX7_within_26 rfl ?_
          refine jv_iconst dX7_within_28 ci_iconst_1 ?_
          refine jv_icmp_le (t := 35) dX7_within_29 rfl (fun c5 => ?_) (fun c5 => ?_)
          · replace h := h.1 c5
            refine jv_aload_n dX7_within_35 rfl ?_
            refine gf_7_25 rfl dX7_within_36 kd_c_0 (lt_c 0 rfl) rf_c_0_4 ?_
            refine gf_7_151 rfl dX7_within_39 kd_c_109 (lt_c 109 rfl) rf_c_109_4 ?_
            refine jv_iload_n dX7_within_42 rfl ?_
            obtain ⟨b6, h⟩ := h
            refine jm_aaloadP dX7_within_43 kd_c_114 (lt_c 114 rfl) b6 (rf_r_114 _) ?_
            refine jv_astore (ls' := [some (.ref 0), some (.int a1), some (.int a2), some (.int a3), some (.int a4), some (.ref (115 + 4 * a3.toNatClampNeg))]) dX7_within_44 (Nat.le_of_ble_eq_true rfl) rfl ?_
            refine jv_aload dX7_within_46 rfl ?_
            refine jv_aload_n dX7_within_48 rfl ?_
            refine gf_7_10 rfl dX7_within_49 kd_c_0 (lt_c 0 rfl) rf_c_0_0 ?_
            refine jv_iload_n dX7_within_52 rfl ?_
            refine jv_iload_n dX7_within_53 rfl ?_
            refine jm_callVu [.ref 1, .int a1, .int a3] cw_7_155 dX7_within_54 rfl (Nat.le_of_ble_eq_true rfl) (kd_P_0 (isPaths_R (vp_lt b6))) (r := (RX3, TX3, 3)) rfl rfl (lt_P (isPaths_R (vp_lt b6)) 0 rfl) (Nat.le_of_ble_eq_true rfl) (JCu.mono h (fun u1 h => ?_))
            refine jv_iload dX7_within_57 rfl ?_
            refine jv_if_ne (t := 72) dX7_within_59 rfl (fun c7 => ?_) (fun c7 => ?_)
            · replace h := h.1 c7
              refine jv_aload dX7_within_72 rfl ?_
              refine gf_7_164 rfl dX7_within_74 (kd_P_0 (isPaths_R (vp_lt b6))) (lt_P (isPaths_R (vp_lt b6)) 0 rfl) (rf_P_0_1 (isPaths_R (vp_lt b6))) ?_
              refine jv_iload_n dX7_within_77 rfl ?_
              obtain ⟨b10, h⟩ := h
              refine jm_iaload dX7_within_78 (kd_P_2 (isPaths_R (vp_lt b6))) (lt_P (isPaths_R (vp_lt b6)) 2 rfl) b10 ?_
              exact jm_ireturn dX7_within_79 rfl h
            · replace h := h.2 c7
              refine jv_aload dX7_within_62 rfl ?_
              refine gf_7_161 rfl dX7_within_64 (kd_P_0 (isPaths_R (vp_lt b6))) (lt_P (isPaths_R (vp_lt b6)) 0 rfl) (rf_P_0_0 (isPaths_R (vp_lt b6))) ?_
              refine jv_iload_n dX7_within_67 rfl ?_
              obtain ⟨b11, h⟩ := h
              refine jm_iaload dX7_within_68 (kd_P_1 (isPaths_R (vp_lt b6))) (lt_P (isPaths_R (vp_lt b6)) 1 rfl) b11 ?_
              refine jv_goto (t := 79) dX7_within_69 rfl ?_
              exact jm_ireturn dX7_within_79 rfl h
          · replace h := h.2 c5
            refine jv_bipush dX7_within_32 ci_bipush_m2 ?_
            exact jm_ireturn dX7_within_34 rfl h
theorem g_X7_route_0 {E : JE} {u : JM} {K : Int32 → JM → Prop}  {a1 a2 a3 : Int32}
    (h : (((jb (rg a1 0 7)) = 0 → K (-2) u) ∧
 (¬ (jb (rg a1 0 7)) = 0 → (((jb (rg a2 0 7)) = 0 → K (-2) u) ∧
  (¬ (jb (rg a2 0 7)) = 0 → ((a3 < 0 → K (-2) u) ∧
   (¬ a3 < 0 → ((a3 ≤ 3 → JCu E 4 YX4_find [.ref 109, .ref 1, .int a1] (fun u1 =>
     ((a3 = 0 → vp_in a2 8 ∧
       K (u1 110 a2.toNatClampNeg) u1) ∧
      (a3 = 1 → vp_in a2 8 ∧
       K (u1 111 a2.toNatClampNeg) u1) ∧
      (a3 = 2 → vp_in a2 8 ∧
       K (u1 112 a2.toNatClampNeg) u1) ∧
      (¬ a3 = 0 → ¬ a3 = 1 → ¬ a3 = 2 → vp_in a2 8 ∧
       K (u1 113 a2.toNatClampNeg) u1))) u) ∧
    (¬ a3 ≤ 3 → K (-2) u)))))))))
    : JVi E 5 YX7_route K 0 [some (.ref 0), some (.int a1), some (.int a2), some (.int a3)] [] u := by
  refine jv_iload_n dX7_route_0 rfl ?_
  refine jm_callSi [.int a1] cw_7_43 dX7_route_1 rfl (Nat.le_of_ble_eq_true rfl) (Nat.le_of_ble_eq_true rfl) (p_X7_isRouter  ?_)
  refine jv_if_eq (t := 23) dX7_route_4 rfl (fun c1 => ?_) (fun c1 => ?_)
  · replace h := h.1 c1
    refine jv_bipush dX7_route_23 ci_bipush_m2 ?_
    exact jm_ireturn dX7_route_25 rfl h
  · replace h := h.2 c1
    refine jv_iload_n dX7_route_7 rfl ?_
    refine jm_callSi [.int a2] cw_7_43 dX7_route_8 rfl (Nat.le_of_ble_eq_true rfl) (Nat.le_of_ble_eq_true rfl) (p_X7_isRouter  ?_)
    refine jv_if_eq (t := 23) dX7_route_11 rfl (fun c2 => ?_) (fun c2 => ?_)
    · replace h := h.1 c2
      refine jv_bipush dX7_route_23 ci_bipush_m2 ?_
      exact jm_ireturn dX7_route_25 rfl h
    · replace h := h.2 c2
      refine jv_iload_n dX7_route_14 rfl ?_
      refine jv_if_lt (t := 23) dX7_route_15 rfl (fun c3 => ?_) (fun c3 => ?_)
      · replace h := h.1 c3
        refine jv_bipush dX7_route_23 ci_bipush_m2 ?_
        exact jm_ireturn dX7_route_25 rfl h
      · replace h := h.2 c3
        refine jv_iload_n dX7_route_18 rfl ?_
        refine jv_iconst dX7_route_19 ci_iconst_3 ?_
        refine jv_icmp_le (t := 26) dX7_route_20 rfl (fun c4 => ?_) (fun c4 => ?_)
        · replace h := h.1 c4
          refine jv_aload_n dX7_route_26 rfl ?_
          refine gf_7_25 rfl dX7_route_27 kd_c_0 (lt_c 0 rfl) rf_c_0_4 ?_
          refine jv_aload_n dX7_route_30 rfl ?_
          refine gf_7_10 rfl dX7_route_31 kd_c_0 (lt_c 0 rfl) rf_c_0_0 ?_
          refine jv_iload_n dX7_route_34 rfl ?_
          refine jm_callVu [.ref 1, .int a1] cw_7_167 dX7_route_35 rfl (Nat.le_of_ble_eq_true rfl) kd_c_109 (r := (RX4, TX4, 5)) rfl rfl (lt_c 109 rfl) (Nat.le_of_ble_eq_true rfl) (JCu.mono h (fun u1 h => ?_))
          refine jv_iload_n dX7_route_38 rfl ?_
          by_cases c5 : a3 = 0
          · replace h := h.1 c5
            refine jv_tableIn (off := 25) (t := 64) dX7_route_39 (by rw [c5]; decide) (by rw [c5]; decide) (by rw [c5]; rfl) rfl ?_
            refine jv_aload_n dX7_route_64 rfl ?_
            refine gf_7_25 rfl dX7_route_65 kd_c_0 (lt_c 0 rfl) rf_c_0_4 ?_
            refine gf_7_171 rfl dX7_route_68 kd_c_109 (lt_c 109 rfl) rf_c_109_0 ?_
            refine jv_iload_n dX7_route_71 rfl ?_
            obtain ⟨b6, h⟩ := h
            refine jm_iaload dX7_route_72 kd_c_110 (lt_c 110 rfl) b6 ?_
            exact jm_ireturn dX7_route_73 rfl h
          by_cases c7 : a3 = 1
          · replace h := h.2.1 c7
            refine jv_tableIn (off := 35) (t := 74) dX7_route_39 (by rw [c7]; decide) (by rw [c7]; decide) (by rw [c7]; rfl) rfl ?_
            refine jv_aload_n dX7_route_74 rfl ?_
            refine gf_7_25 rfl dX7_route_75 kd_c_0 (lt_c 0 rfl) rf_c_0_4 ?_
            refine gf_7_174 rfl dX7_route_78 kd_c_109 (lt_c 109 rfl) rf_c_109_1 ?_
            refine jv_iload_n dX7_route_81 rfl ?_
            obtain ⟨b8, h⟩ := h
            refine jm_iaload dX7_route_82 kd_c_111 (lt_c 111 rfl) b8 ?_
            exact jm_ireturn dX7_route_83 rfl h
          by_cases c9 : a3 = 2
          · replace h := h.2.2.1 c9
            refine jv_tableIn (off := 45) (t := 84) dX7_route_39 (by rw [c9]; decide) (by rw [c9]; decide) (by rw [c9]; rfl) rfl ?_
            refine jv_aload_n dX7_route_84 rfl ?_
            refine gf_7_25 rfl dX7_route_85 kd_c_0 (lt_c 0 rfl) rf_c_0_4 ?_
            refine gf_7_175 rfl dX7_route_88 kd_c_109 (lt_c 109 rfl) rf_c_109_2 ?_
            refine jv_iload_n dX7_route_91 rfl ?_
            obtain ⟨b10, h⟩ := h
            refine jm_iaload dX7_route_92 kd_c_112 (lt_c 112 rfl) b10 ?_
            exact jm_ireturn dX7_route_93 rfl h
          replace h := h.2.2.2 c5 c7 c9
          refine jv_tableOut (t := 94) dX7_route_39 (by have q0 := i32_ne c5; have q1 := i32_ne c7; have q2 := i32_ne c9; rw [show (0 : Int32).toInt = 0 from by decide] at q0; rw [show (1 : Int32).toInt = 1 from by decide] at q1; rw [show (2 : Int32).toInt = 2 from by decide] at q2; omega) rfl ?_
          refine jv_aload_n dX7_route_94 rfl ?_
          refine gf_7_25 rfl dX7_route_95 kd_c_0 (lt_c 0 rfl) rf_c_0_4 ?_
          refine gf_7_176 rfl dX7_route_98 kd_c_109 (lt_c 109 rfl) rf_c_109_3 ?_
          refine jv_iload_n dX7_route_101 rfl ?_
          obtain ⟨b11, h⟩ := h
          refine jm_iaload dX7_route_102 kd_c_113 (lt_c 113 rfl) b11 ?_
          exact jm_ireturn dX7_route_103 rfl h
        · replace h := h.2 c4
          refine jv_bipush dX7_route_23 ci_bipush_m2 ?_
          exact jm_ireturn dX7_route_25 rfl h
theorem g_X7_packet_0 {E : JE} {u : JM} {K : Int32 → JM → Prop}  {a1 a2 a3 : Int32}
    (h : ∀ v_1 : Int32, v_1 = (if a3 < 10 then 0 else (if 19 ≤ a3 then 0 else 1)) →
 (((jb (rg a1 0 7)) = 0 → K (-2) u) ∧
 (¬ (jb (rg a1 0 7)) = 0 → (((jb (rg a2 0 7)) = 0 → K (-2) u) ∧
  (¬ (jb (rg a2 0 7)) = 0 → ((a3 < 0 → K (-2) u) ∧
   (¬ a3 < 0 → ((a3 ≤ 2 → JCu E 5 YX6_go [.ref 127, .ref 1, .ref 109, .int a1, .int a2] (fun u2 =>
     ((a3 = 0 → K (u2 127 0) u2) ∧
      (a3 = 1 → K (u2 127 1) u2) ∧
      (a3 = 2 → K (u2 127 2) u2) ∧
      (¬ a3 = 0 → ¬ a3 = 1 → ¬ a3 = 2 → vp_in (a3 - 10) 9 ∧
       K (u2 128 (a3 - 10).toNatClampNeg) u2))) u) ∧
    (¬ a3 ≤ 2 → ((¬ v_1 = 0 → JCu E 5 YX6_go [.ref 127, .ref 1, .ref 109, .int a1, .int a2] (fun u3 =>
      ((a3 = 0 → K (u3 127 0) u3) ∧
       (a3 = 1 → K (u3 127 1) u3) ∧
       (a3 = 2 → K (u3 127 2) u3) ∧
       (¬ a3 = 0 → ¬ a3 = 1 → ¬ a3 = 2 → vp_in (a3 - 10) 9 ∧
        K (u3 128 (a3 - 10).toNatClampNeg) u3))) u) ∧
     (v_1 = 0 → K (-2) u)))))))))))
    : JVi E 6 YX7_packet K 0 [some (.ref 0), some (.int a1), some (.int a2), some (.int a3), none] [] u := by
  refine jv_iload_n dX7_packet_0 rfl ?_
  refine jv_bipush dX7_packet_1 ci_bipush_10 ?_
  have key15 : ∀ v_1 : Int32, v_1 = (if a3 < 10 then 0 else (if 19 ≤ a3 then 0 else 1)) → JVi E 6 YX7_packet K 17 [some (.ref 0), some (.int a1), some (.int a2), some (.int a3), none] [.int v_1] u := by
    intro v_1 hv_1
    replace h := h v_1 hv_1
    refine jv_istore (ls' := [some (.ref 0), some (.int a1), some (.int a2), some (.int a3), some (.int v_1)]) dX7_packet_17 (Nat.le_of_ble_eq_true rfl) rfl ?_
    refine jv_iload_n dX7_packet_19 rfl ?_
    refine jm_callSi [.int a1] cw_7_43 dX7_packet_20 rfl (Nat.le_of_ble_eq_true rfl) (Nat.le_of_ble_eq_true rfl) (p_X7_isRouter  ?_)
    refine jv_if_eq (t := 47) dX7_packet_23 rfl (fun c2 => ?_) (fun c2 => ?_)
    · replace h := h.1 c2
      refine jv_bipush dX7_packet_47 ci_bipush_m2 ?_
      exact jm_ireturn dX7_packet_49 rfl h
    · replace h := h.2 c2
      refine jv_iload_n dX7_packet_26 rfl ?_
      refine jm_callSi [.int a2] cw_7_43 dX7_packet_27 rfl (Nat.le_of_ble_eq_true rfl) (Nat.le_of_ble_eq_true rfl) (p_X7_isRouter  ?_)
      refine jv_if_eq (t := 47) dX7_packet_30 rfl (fun c3 => ?_) (fun c3 => ?_)
      · replace h := h.1 c3
        refine jv_bipush dX7_packet_47 ci_bipush_m2 ?_
        exact jm_ireturn dX7_packet_49 rfl h
      · replace h := h.2 c3
        refine jv_iload_n dX7_packet_33 rfl ?_
        refine jv_if_lt (t := 47) dX7_packet_34 rfl (fun c4 => ?_) (fun c4 => ?_)
        · replace h := h.1 c4
          refine jv_bipush dX7_packet_47 ci_bipush_m2 ?_
          exact jm_ireturn dX7_packet_49 rfl h
        · replace h := h.2 c4
          refine jv_iload_n dX7_packet_37 rfl ?_
          refine jv_iconst dX7_packet_38 ci_iconst_2 ?_
          refine jv_icmp_le (t := 50) dX7_packet_39 rfl (fun c5 => ?_) (fun c5 => ?_)
          · replace h := h.1 c5
            refine jv_aload_n dX7_packet_50 rfl ?_
            refine gf_7_32 rfl dX7_packet_51 kd_c_0 (lt_c 0 rfl) rf_c_0_5 ?_
            refine jv_aload_n dX7_packet_54 rfl ?_
            refine gf_7_10 rfl dX7_packet_55 kd_c_0 (lt_c 0 rfl) rf_c_0_0 ?_
            refine jv_aload_n dX7_packet_58 rfl ?_
            refine gf_7_25 rfl dX7_packet_59 kd_c_0 (lt_c 0 rfl) rf_c_0_4 ?_
            refine jv_iload_n dX7_packet_62 rfl ?_
            refine jv_iload_n dX7_packet_63 rfl ?_
            refine jm_callVu [.ref 1, .ref 109, .int a1, .int a2] cw_7_179 dX7_packet_64 rfl (Nat.le_of_ble_eq_true rfl) kd_c_127 (r := (RX6, TX6, 4)) rfl rfl (lt_c 127 rfl) (Nat.le_of_ble_eq_true rfl) (JCu.mono h (fun u2 h => ?_))
            refine jv_iload_n dX7_packet_67 rfl ?_
            by_cases c6 : a3 = 0
            · replace h := h.1 c6
              refine jv_tableIn (off := 28) (t := 96) dX7_packet_68 (by rw [c6]; decide) (by rw [c6]; decide) (by rw [c6]; rfl) rfl ?_
              refine jv_aload_n dX7_packet_96 rfl ?_
              refine gf_7_32 rfl dX7_packet_97 kd_c_0 (lt_c 0 rfl) rf_c_0_5 ?_
              refine gf_7_183 rfl dX7_packet_100 kd_c_127 (lt_c 127 rfl) ?_
              exact jm_ireturn dX7_packet_103 rfl h
            by_cases c7 : a3 = 1
            · replace h := h.2.1 c7
              refine jv_tableIn (off := 36) (t := 104) dX7_packet_68 (by rw [c7]; decide) (by rw [c7]; decide) (by rw [c7]; rfl) rfl ?_
              refine jv_aload_n dX7_packet_104 rfl ?_
              refine gf_7_32 rfl dX7_packet_105 kd_c_0 (lt_c 0 rfl) rf_c_0_5 ?_
              refine gf_7_186 rfl dX7_packet_108 kd_c_127 (lt_c 127 rfl) ?_
              exact jm_ireturn dX7_packet_111 rfl h
            by_cases c8 : a3 = 2
            · replace h := h.2.2.1 c8
              refine jv_tableIn (off := 44) (t := 112) dX7_packet_68 (by rw [c8]; decide) (by rw [c8]; decide) (by rw [c8]; rfl) rfl ?_
              refine jv_aload_n dX7_packet_112 rfl ?_
              refine gf_7_32 rfl dX7_packet_113 kd_c_0 (lt_c 0 rfl) rf_c_0_5 ?_
              refine gf_7_189 rfl dX7_packet_116 kd_c_127 (lt_c 127 rfl) ?_
              exact jm_ireturn dX7_packet_119 rfl h
            replace h := h.2.2.2 c6 c7 c8
            refine jv_tableOut (t := 120) dX7_packet_68 (by have q0 := i32_ne c6; have q1 := i32_ne c7; have q2 := i32_ne c8; rw [show (0 : Int32).toInt = 0 from by decide] at q0; rw [show (1 : Int32).toInt = 1 from by decide] at q1; rw [show (2 : Int32).toInt = 2 from by decide] at q2; omega) rfl ?_
            refine jv_aload_n dX7_packet_120 rfl ?_
            refine gf_7_32 rfl dX7_packet_121 kd_c_0 (lt_c 0 rfl) rf_c_0_5 ?_
            refine gf_7_191 rfl dX7_packet_124 kd_c_127 (lt_c 127 rfl) rf_c_127_3 ?_
            refine jv_iload_n dX7_packet_127 rfl ?_
            refine jv_bipush dX7_packet_128 ci_bipush_10 ?_
            refine jv_isub dX7_packet_130 ?_
            obtain ⟨b9, h⟩ := h
            refine jm_iaload dX7_packet_131 kd_c_128 (lt_c 128 rfl) b9 ?_
            exact jm_ireturn dX7_packet_132 rfl h
          · replace h := h.2 c5
            refine jv_iload dX7_packet_42 rfl ?_
            refine jv_if_ne (t := 50) dX7_packet_44 rfl (fun c10 => ?_) (fun c10 => ?_)
            · replace h := h.1 c10
              refine jv_aload_n dX7_packet_50 rfl ?_
              refine gf_7_32 rfl dX7_packet_51 kd_c_0 (lt_c 0 rfl) rf_c_0_5 ?_
              refine jv_aload_n dX7_packet_54 rfl ?_
              refine gf_7_10 rfl dX7_packet_55 kd_c_0 (lt_c 0 rfl) rf_c_0_0 ?_
              refine jv_aload_n dX7_packet_58 rfl ?_
              refine gf_7_25 rfl dX7_packet_59 kd_c_0 (lt_c 0 rfl) rf_c_0_4 ?_
              refine jv_iload_n dX7_packet_62 rfl ?_
              refine jv_iload_n dX7_packet_63 rfl ?_
              refine jm_callVu [.ref 1, .ref 109, .int a1, .int a2] cw_7_179 dX7_packet_64 rfl (Nat.le_of_ble_eq_true rfl) kd_c_127 (r := (RX6, TX6, 4)) rfl rfl (lt_c 127 rfl) (Nat.le_of_ble_eq_true rfl) (JCu.mono h (fun u3 h => ?_))
              refine jv_iload_n dX7_packet_67 rfl ?_
              by_cases c11 : a3 = 0
              · replace h := h.1 c11
                refine jv_tableIn (off := 28) (t := 96) dX7_packet_68 (by rw [c11]; decide) (by rw [c11]; decide) (by rw [c11]; rfl) rfl ?_
                refine jv_aload_n dX7_packet_96 rfl ?_
                refine gf_7_32 rfl dX7_packet_97 kd_c_0 (lt_c 0 rfl) rf_c_0_5 ?_
                refine gf_7_183 rfl dX7_packet_100 kd_c_127 (lt_c 127 rfl) ?_
                exact jm_ireturn dX7_packet_103 rfl h
              by_cases c12 : a3 = 1
              · replace h := h.2.1 c12
                refine jv_tableIn (off := 36) (t := 104) dX7_packet_68 (by rw [c12]; decide) (by rw [c12]; decide) (by rw [c12]; rfl) rfl ?_
                refine jv_aload_n dX7_packet_104 rfl ?_
                refine gf_7_32 rfl dX7_packet_105 kd_c_0 (lt_c 0 rfl) rf_c_0_5 ?_
                refine gf_7_186 rfl dX7_packet_108 kd_c_127 (lt_c 127 rfl) ?_
                exact jm_ireturn dX7_packet_111 rfl h
              by_cases c13 : a3 = 2
              · replace h := h.2.2.1 c13
                refine jv_tableIn (off := 44) (t := 112) dX7_packet_68 (by rw [c13]; decide) (by rw [c13]; decide) (by rw [c13]; rfl) rfl ?_
                refine jv_aload_n dX7_packet_112 rfl ?_
                refine gf_7_32 rfl dX7_packet_113 kd_c_0 (lt_c 0 rfl) rf_c_0_5 ?_
                refine gf_7_189 rfl dX7_packet_116 kd_c_127 (lt_c 127 rfl) ?_
                exact jm_ireturn dX7_packet_119 rfl h
              replace h := h.2.2.2 c11 c12 c13
              refine jv_tableOut (t := 120) dX7_packet_68 (by have q0 := i32_ne c11; have q1 := i32_ne c12; have q2 := i32_ne c13; rw [show (0 : Int32).toInt = 0 from by decide] at q0; rw [show (1 : Int32).toInt = 1 from by decide] at q1; rw [show (2 : Int32).toInt = 2 from by decide] at q2; omega) rfl ?_
              refine jv_aload_n dX7_packet_120 rfl ?_
              refine gf_7_32 rfl dX7_packet_121 kd_c_0 (lt_c 0 rfl) rf_c_0_5 ?_
              refine gf_7_191 rfl dX7_packet_124 kd_c_127 (lt_c 127 rfl) rf_c_127_3 ?_
              refine jv_iload_n dX7_packet_127 rfl ?_
              refine jv_bipush dX7_packet_128 ci_bipush_10 ?_
              refine jv_isub dX7_packet_130 ?_
              obtain ⟨b14, h⟩ := h
              refine jm_iaload dX7_packet_131 kd_c_128 (lt_c 128 rfl) b14 ?_
              exact jm_ireturn dX7_packet_132 rfl h
            · replace h := h.2 c10
              refine jv_bipush dX7_packet_47 ci_bipush_m2 ?_
              exact jm_ireturn dX7_packet_49 rfl h
  clear h
  refine jv_icmp_lt (t := 16) dX7_packet_3 rfl (fun c16 => ?_) (fun c16 => ?_)
  · refine jv_iconst dX7_packet_16 ci_iconst_0 ?_
    exact key15 _ (Eq.trans rfl (if_pos c16).symm)
  · refine jv_iload_n dX7_packet_6 rfl ?_
    refine jv_bipush dX7_packet_7 ci_bipush_19 ?_
    refine jv_icmp_ge (t := 16) dX7_packet_9 rfl (fun c17 => ?_) (fun c17 => ?_)
    · refine jv_iconst dX7_packet_16 ci_iconst_0 ?_
      exact key15 _ (Eq.trans (Eq.trans rfl (if_pos c17).symm) (if_neg c16).symm)
    · refine jv_iconst dX7_packet_12 ci_iconst_1 ?_
      refine jv_goto (t := 17) dX7_packet_13 rfl ?_
      exact key15 _ (Eq.trans (Eq.trans rfl (if_neg c17).symm) (if_neg c16).symm)
theorem g_X7_truly_0 {E : JE} {u : JM} {K : Int32 → JM → Prop}  {a1 a2 : Int32}
    (h : (((jb (rg a1 0 7)) = 0 → K (-2) u) ∧
 (¬ (jb (rg a1 0 7)) = 0 → ((¬ (jb (rg a2 0 7)) = 0 → JCi E 3 YX1_leastCost [.ref 2, .int a1, .int a2, .int (-1)] (fun x1 u1 =>
   K x1 u1) u) ∧
  ((jb (rg a2 0 7)) = 0 → K (-2) u)))))
    : JVi E 4 YX7_truly K 0 [some (.ref 0), some (.int a1), some (.int a2)] [] u := by
  refine jv_iload_n dX7_truly_0 rfl ?_
  refine jm_callSi [.int a1] cw_7_43 dX7_truly_1 rfl (Nat.le_of_ble_eq_true rfl) (Nat.le_of_ble_eq_true rfl) (p_X7_isRouter  ?_)
  refine jv_if_eq (t := 14) dX7_truly_4 rfl (fun c1 => ?_) (fun c1 => ?_)
  · replace h := h.1 c1
    refine jv_bipush dX7_truly_14 ci_bipush_m2 ?_
    exact jm_ireturn dX7_truly_16 rfl h
  · replace h := h.2 c1
    refine jv_iload_n dX7_truly_7 rfl ?_
    refine jm_callSi [.int a2] cw_7_43 dX7_truly_8 rfl (Nat.le_of_ble_eq_true rfl) (Nat.le_of_ble_eq_true rfl) (p_X7_isRouter  ?_)
    refine jv_if_ne (t := 17) dX7_truly_11 rfl (fun c2 => ?_) (fun c2 => ?_)
    · replace h := h.1 c2
      refine jv_aload_n dX7_truly_17 rfl ?_
      refine gf_7_10 rfl dX7_truly_18 kd_c_0 (lt_c 0 rfl) rf_c_0_0 ?_
      refine gf_7_53 rfl dX7_truly_21 (kd_N_0 isNet_1) (lt_N isNet_1 0 rfl) (rf_N_0_0 isNet_1) ?_
      refine jv_iload_n dX7_truly_24 rfl ?_
      refine jv_iload_n dX7_truly_25 rfl ?_
      refine jv_iconst dX7_truly_26 ci_iconst_m1 ?_
      refine jm_callVi [.int a1, .int a2, .int (-1)] cw_7_194 dX7_truly_27 rfl (Nat.le_of_ble_eq_true rfl) (kd_N_1 isNet_1) (r := (RX1, TX1, 8)) rfl rfl (lt_N isNet_1 1 rfl) (Nat.le_of_ble_eq_true rfl) (JCi.mono h (fun x1 u1 h => ?_))
      exact jm_ireturn dX7_truly_30 rfl h
    · replace h := h.2 c2
      refine jv_bipush dX7_truly_14 ci_bipush_m2 ?_
      exact jm_ireturn dX7_truly_16 rfl h
theorem g_X7_cuts_0 {E : JE} {u : JM} {K : Int32 → JM → Prop}  {a1 a2 : Int32}
    (h : (((jb (rg a1 0 7)) = 0 → K (-2) u) ∧
 (¬ (jb (rg a1 0 7)) = 0 → ((¬ (jb (rg a2 0 7)) = 0 → JCi E 3 YX1_leastCost [.ref 2, .int a1, .int a2, .int (-1)] (fun x1 u1 =>
   ((9999 ≤ x1 → K 0 u1) ∧
    (¬ 9999 ≤ x1 → JVi E 4 YX7_cuts K 44 [some (.ref 0), some (.int a1), some (.int a2), some (.ref 2), some (.int 0), some (.int 0)] [] u1))) u) ∧
  ((jb (rg a2 0 7)) = 0 → K (-2) u)))))
    : JVi E 4 YX7_cuts K 0 [some (.ref 0), some (.int a1), some (.int a2), none, none, none] [] u := by
  refine jv_iload_n dX7_cuts_0 rfl ?_
  refine jm_callSi [.int a1] cw_7_43 dX7_cuts_1 rfl (Nat.le_of_ble_eq_true rfl) (Nat.le_of_ble_eq_true rfl) (p_X7_isRouter  ?_)
  refine jv_if_eq (t := 14) dX7_cuts_4 rfl (fun c1 => ?_) (fun c1 => ?_)
  · replace h := h.1 c1
    refine jv_bipush dX7_cuts_14 ci_bipush_m2 ?_
    exact jm_ireturn dX7_cuts_16 rfl h
  · replace h := h.2 c1
    refine jv_iload_n dX7_cuts_7 rfl ?_
    refine jm_callSi [.int a2] cw_7_43 dX7_cuts_8 rfl (Nat.le_of_ble_eq_true rfl) (Nat.le_of_ble_eq_true rfl) (p_X7_isRouter  ?_)
    refine jv_if_ne (t := 17) dX7_cuts_11 rfl (fun c2 => ?_) (fun c2 => ?_)
    · replace h := h.1 c2
      refine jv_aload_n dX7_cuts_17 rfl ?_
      refine gf_7_10 rfl dX7_cuts_18 kd_c_0 (lt_c 0 rfl) rf_c_0_0 ?_
      refine gf_7_53 rfl dX7_cuts_21 (kd_N_0 isNet_1) (lt_N isNet_1 0 rfl) (rf_N_0_0 isNet_1) ?_
      refine jv_astore_n (ls' := [some (.ref 0), some (.int a1), some (.int a2), some (.ref 2), none, none]) dX7_cuts_24 (Nat.le_of_ble_eq_true rfl) rfl ?_
      refine jv_iconst dX7_cuts_25 ci_iconst_0 ?_
      refine jv_istore (ls' := [some (.ref 0), some (.int a1), some (.int a2), some (.ref 2), some (.int 0), none]) dX7_cuts_26 (Nat.le_of_ble_eq_true rfl) rfl ?_
      refine jv_aload_n dX7_cuts_28 rfl ?_
      refine jv_iload_n dX7_cuts_29 rfl ?_
      refine jv_iload_n dX7_cuts_30 rfl ?_
      refine jv_iconst dX7_cuts_31 ci_iconst_m1 ?_
      refine jm_callVi [.int a1, .int a2, .int (-1)] cw_7_194 dX7_cuts_32 rfl (Nat.le_of_ble_eq_true rfl) (kd_N_1 isNet_1) (r := (RX1, TX1, 8)) rfl rfl (lt_N isNet_1 1 rfl) (Nat.le_of_ble_eq_true rfl) (JCi.mono h (fun x1 u1 h => ?_))
      refine jv_sipush dX7_cuts_35 ci_sipush_9999 ?_
      refine jv_icmp_ge (t := 92) dX7_cuts_38 rfl (fun c3 => ?_) (fun c3 => ?_)
      · replace h := h.1 c3
        refine jv_iload dX7_cuts_92 rfl ?_
        exact jm_ireturn dX7_cuts_94 rfl h
      · replace h := h.2 c3
        refine jv_iconst dX7_cuts_41 ci_iconst_0 ?_
        refine jv_istore (ls' := [some (.ref 0), some (.int a1), some (.int a2), some (.ref 2), some (.int 0), some (.int 0)]) dX7_cuts_42 (Nat.le_of_ble_eq_true rfl) rfl ?_
        exact h
    · replace h := h.2 c2
      refine jv_bipush dX7_cuts_14 ci_bipush_m2 ?_
      exact jm_ireturn dX7_cuts_16 rfl h
theorem g_X7_cuts_44 {E : JE} {u : JM} {K : Int32 → JM → Prop}  {a1 a2 i4 i5 : Int32}
    (h : (((u 2 0) ≤ i5 → K i4 u) ∧
 (¬ (u 2 0) ≤ i5 → vp_in i5 12 ∧
  (((u 8 i5.toNatClampNeg) = 0 → JVi E 4 YX7_cuts K 44 [some (.ref 0), some (.int a1), some (.int a2), some (.ref 2), some (.int i4), some (.int (i5 + 1))] [] u) ∧
  (¬ (u 8 i5.toNatClampNeg) = 0 → JCi E 3 YX1_leastCost [.ref 2, .int a1, .int a2, .int i5] (fun x1 u1 =>
   ∀ i4_2 : Int32, i4_2 = (if x1 < 9999 then i4 else (i4 ||| ((1 : Int32) <<< (i5 &&& 31)))) →
    JVi E 4 YX7_cuts K 44 [some (.ref 0), some (.int a1), some (.int a2), some (.ref 2), some (.int i4_2), some (.int (i5 + 1))] [] u1) u)))))
    : JVi E 4 YX7_cuts K 44 [some (.ref 0), some (.int a1), some (.int a2), some (.ref 2), some (.int i4), some (.int i5)] [] u := by
  refine jv_iload dX7_cuts_44 rfl ?_
  refine jv_aload_n dX7_cuts_46 rfl ?_
  refine gf_7_57 rfl dX7_cuts_47 (kd_N_1 isNet_1) (lt_N isNet_1 1 rfl) ?_
  refine jv_icmp_ge (t := 92) dX7_cuts_50 rfl (fun c1 => ?_) (fun c1 => ?_)
  · replace h := h.1 c1
    refine jv_iload dX7_cuts_92 rfl ?_
    exact jm_ireturn dX7_cuts_94 rfl h
  · replace h := h.2 c1
    refine jv_aload_n dX7_cuts_53 rfl ?_
    refine gf_7_70 rfl dX7_cuts_54 (kd_N_1 isNet_1) (lt_N isNet_1 1 rfl) (rf_N_1_6 isNet_1) ?_
    refine jv_iload dX7_cuts_57 rfl ?_
    obtain ⟨b3, h⟩ := h
    refine jm_baload dX7_cuts_59 (kd_N_7 isNet_1) (lt_N isNet_1 7 rfl) b3 ?_
    refine jv_if_eq (t := 86) dX7_cuts_60 rfl (fun c4 => ?_) (fun c4 => ?_)
    · replace h := h.1 c4
      refine jv_iinc (v := i5 + 1) (ls' := [some (.ref 0), some (.int a1), some (.int a2), some (.ref 2), some (.int i4), some (.int (i5 + 1))]) dX7_cuts_86 (Nat.le_of_ble_eq_true rfl) rfl (by rw [ci_iconst_1]) rfl ?_
      refine jv_goto (t := 44) dX7_cuts_89 rfl ?_
      exact h
    · replace h := h.2 c4
      refine jv_aload_n dX7_cuts_63 rfl ?_
      refine jv_iload_n dX7_cuts_64 rfl ?_
      refine jv_iload_n dX7_cuts_65 rfl ?_
      refine jv_iload dX7_cuts_66 rfl ?_
      refine jm_callVi [.int a1, .int a2, .int i5] cw_7_194 dX7_cuts_68 rfl (Nat.le_of_ble_eq_true rfl) (kd_N_1 isNet_1) (r := (RX1, TX1, 8)) rfl rfl (lt_N isNet_1 1 rfl) (Nat.le_of_ble_eq_true rfl) (JCi.mono h (fun x1 u1 h => ?_))
      refine jv_sipush dX7_cuts_71 ci_sipush_9999 ?_
      have key6 : ∀ i4_2 : Int32, i4_2 = (if x1 < 9999 then i4 else (i4 ||| ((1 : Int32) <<< (i5 &&& 31)))) → JVi E 4 YX7_cuts K 86 [some (.ref 0), some (.int a1), some (.int a2), some (.ref 2), some (.int i4_2), some (.int i5)] [] u1 := by
        intro i4_2 hi4_2
        replace h := h i4_2 hi4_2
        refine jv_iinc (v := i5 + 1) (ls' := [some (.ref 0), some (.int a1), some (.int a2), some (.ref 2), some (.int i4_2), some (.int (i5 + 1))]) dX7_cuts_86 (Nat.le_of_ble_eq_true rfl) rfl (by rw [ci_iconst_1]) rfl ?_
        refine jv_goto (t := 44) dX7_cuts_89 rfl ?_
        exact h
      clear h
      refine jv_icmp_lt (t := 86) dX7_cuts_74 rfl (fun c7 => ?_) (fun c7 => ?_)
      · exact key6 _ (Eq.trans rfl (if_pos c7).symm)
      · refine jv_iload dX7_cuts_77 rfl ?_
        refine jv_iconst dX7_cuts_79 ci_iconst_1 ?_
        refine jv_iload dX7_cuts_80 rfl ?_
        refine jv_ishl dX7_cuts_82 ?_
        refine jv_ior dX7_cuts_83 ?_
        refine jv_istore (ls' := [some (.ref 0), some (.int a1), some (.int a2), some (.ref 2), some (.int (i4 ||| ((1 : Int32) <<< (i5 &&& 31)))), some (.int i5)]) dX7_cuts_84 (Nat.le_of_ble_eq_true rfl) rfl ?_
        exact key6 _ (Eq.trans rfl (if_neg c7).symm)
theorem g_X7_settled_0 {E : JE} {u : JM} {K : Int32 → JM → Prop}  {a1 : Int32}
    (h : ((a1 < 0 → K (-2) u) ∧
 (¬ a1 < 0 → ((a1 ≤ 2 → JCu E 2 YX2_takeOver [.ref 37, .ref 1] (fun u1 =>
   JCi E 7 YX2_advanceTillQuiet [.ref 37] (fun x2 u2 =>
    ((a1 = 0 → K x2 u2) ∧
     (a1 = 1 → K ((u2 37 8) - (u2 1 8)) u2) ∧
     (¬ a1 = 0 → ¬ a1 = 1 → JCi E 4 YX2_staleToAll [.ref 37] (fun x3 u3 =>
      K x3 u3) u2))) u1) u) ∧
  (¬ a1 ≤ 2 → K (-2) u)))))
    : JVi E 8 YX7_settled K 0 [some (.ref 0), some (.int a1), none] [] u := by
  refine jv_iload_n dX7_settled_0 rfl ?_
  refine jv_if_lt (t := 9) dX7_settled_1 rfl (fun c1 => ?_) (fun c1 => ?_)
  · replace h := h.1 c1
    refine jv_bipush dX7_settled_9 ci_bipush_m2 ?_
    exact jm_ireturn dX7_settled_11 rfl h
  · replace h := h.2 c1
    refine jv_iload_n dX7_settled_4 rfl ?_
    refine jv_iconst dX7_settled_5 ci_iconst_2 ?_
    refine jv_icmp_le (t := 12) dX7_settled_6 rfl (fun c2 => ?_) (fun c2 => ?_)
    · replace h := h.1 c2
      refine jv_aload_n dX7_settled_12 rfl ?_
      refine gf_7_16 rfl dX7_settled_13 kd_c_0 (lt_c 0 rfl) rf_c_0_1 ?_
      refine jv_aload_n dX7_settled_16 rfl ?_
      refine gf_7_10 rfl dX7_settled_17 kd_c_0 (lt_c 0 rfl) rf_c_0_0 ?_
      refine jm_callVu [.ref 1] cw_7_197 dX7_settled_20 rfl (Nat.le_of_ble_eq_true rfl) (kd_N_0 isNet_37) (r := (RX2, TX2, 13)) rfl rfl (lt_N isNet_37 0 rfl) (Nat.le_of_ble_eq_true rfl) (JCu.mono h (fun u1 h => ?_))
      refine jv_aload_n dX7_settled_23 rfl ?_
      refine gf_7_16 rfl dX7_settled_24 kd_c_0 (lt_c 0 rfl) rf_c_0_1 ?_
      refine jm_callVi [] cw_7_201 dX7_settled_27 rfl (Nat.le_of_ble_eq_true rfl) (kd_N_0 isNet_37) (r := (RX2, TX2, 13)) rfl rfl (lt_N isNet_37 0 rfl) (Nat.le_of_ble_eq_true rfl) (JCi.mono h (fun x2 u2 h => ?_))
      refine jv_istore_n (ls' := [some (.ref 0), some (.int a1), some (.int x2)]) dX7_settled_30 (Nat.le_of_ble_eq_true rfl) rfl ?_
      refine jv_iload_n dX7_settled_31 rfl ?_
      by_cases c3 : a1 = 0
      · replace h := h.1 c3
        refine jv_lookup (off := 28) (t := 60) dX7_settled_32 (by decide) (by rw [c3]; decide) rfl ?_
        refine jv_iload_n dX7_settled_60 rfl ?_
        exact jm_ireturn dX7_settled_61 rfl h
      by_cases c4 : a1 = 1
      · replace h := h.2.1 c4
        refine jv_lookup (off := 30) (t := 62) dX7_settled_32 (by decide) (by rw [c4]; decide) rfl ?_
        refine jv_aload_n dX7_settled_62 rfl ?_
        refine gf_7_16 rfl dX7_settled_63 kd_c_0 (lt_c 0 rfl) rf_c_0_1 ?_
        refine gf_7_205 rfl dX7_settled_66 (kd_N_0 isNet_37) (lt_N isNet_37 0 rfl) ?_
        refine jv_aload_n dX7_settled_69 rfl ?_
        refine gf_7_10 rfl dX7_settled_70 kd_c_0 (lt_c 0 rfl) rf_c_0_0 ?_
        refine gf_7_205 rfl dX7_settled_73 (kd_N_0 isNet_1) (lt_N isNet_1 0 rfl) ?_
        refine jv_isub dX7_settled_76 ?_
        exact jm_ireturn dX7_settled_77 rfl h
      replace h := h.2.2 c3 c4
      refine jv_lookup (off := 46) (t := 78) dX7_settled_32 (by decide) (by rw [lv_osw c3 (by decide)]; rw [lv_osw c4 (by decide)]; rfl) rfl ?_
      refine jv_aload_n dX7_settled_78 rfl ?_
      refine gf_7_16 rfl dX7_settled_79 kd_c_0 (lt_c 0 rfl) rf_c_0_1 ?_
      refine jm_callVi [] cw_7_208 dX7_settled_82 rfl (Nat.le_of_ble_eq_true rfl) (kd_N_0 isNet_37) (r := (RX2, TX2, 13)) rfl rfl (lt_N isNet_37 0 rfl) (Nat.le_of_ble_eq_true rfl) (JCi.mono h (fun x3 u3 h => ?_))
      exact jm_ireturn dX7_settled_85 rfl h
    · replace h := h.2 c2
      refine jv_bipush dX7_settled_9 ci_bipush_m2 ?_
      exact jm_ireturn dX7_settled_11 rfl h
theorem g_X7_broken_0 {E : JE} {u : JM} {K : Int32 → JM → Prop}  {a1 a2 a3 : Int32}
    (h : (((jb (0 ≤ a1.toInt ∧ a1.toInt < (u 2 0).toInt)) = 0 → K (-2) u) ∧
 (¬ (jb (0 ≤ a1.toInt ∧ a1.toInt < (u 2 0).toInt)) = 0 → (((jb (rg a2 0 7)) = 0 → K (-2) u) ∧
  (¬ (jb (rg a2 0 7)) = 0 → ((¬ (jb (rg a3 0 7)) = 0 → vp_in a1 12 ∧
    ((¬ (u 8 a1.toNatClampNeg) = 0 → JCu E 3 YX7_breakInThought [.ref 0, .int a1] (fun u1 =>
     JCi E 6 YX2_advance [.ref 37, .int 40] (fun x2 u2 =>
      JCu E 4 YX4_find [.ref 109, .ref 37, .int a2] (fun u3 =>
       vp_in a3 8 ∧
        K (u3 110 a3.toNatClampNeg) u3) u2) u1) u) ∧
    ((u 8 a1.toNatClampNeg) = 0 → K (-3) u))) ∧
   ((jb (rg a3 0 7)) = 0 → K (-2) u)))))))
    : JVi E 7 YX7_broken K 0 [some (.ref 0), some (.int a1), some (.int a2), some (.int a3)] [] u := by
  refine jv_aload_n dX7_broken_0 rfl ?_
  refine gf_7_10 rfl dX7_broken_1 kd_c_0 (lt_c 0 rfl) rf_c_0_0 ?_
  refine gf_7_53 rfl dX7_broken_4 (kd_N_0 isNet_1) (lt_N isNet_1 0 rfl) (rf_N_0_0 isNet_1) ?_
  refine jv_iload_n dX7_broken_7 rfl ?_
  refine jm_callVi [.int a1] cw_7_67 dX7_broken_8 rfl (Nat.le_of_ble_eq_true rfl) (kd_N_1 isNet_1) (r := (RX1, TX1, 8)) rfl rfl (lt_N isNet_1 1 rfl) (Nat.le_of_ble_eq_true rfl) (p_X1_has isNet_1 ?_)
  refine jv_if_eq (t := 28) dX7_broken_11 rfl (fun c1 => ?_) (fun c1 => ?_)
  · replace h := h.1 c1
    refine jv_bipush dX7_broken_28 ci_bipush_m2 ?_
    exact jm_ireturn dX7_broken_30 rfl h
  · replace h := h.2 c1
    refine jv_iload_n dX7_broken_14 rfl ?_
    refine jm_callSi [.int a2] cw_7_43 dX7_broken_15 rfl (Nat.le_of_ble_eq_true rfl) (Nat.le_of_ble_eq_true rfl) (p_X7_isRouter  ?_)
    refine jv_if_eq (t := 28) dX7_broken_18 rfl (fun c2 => ?_) (fun c2 => ?_)
    · replace h := h.1 c2
      refine jv_bipush dX7_broken_28 ci_bipush_m2 ?_
      exact jm_ireturn dX7_broken_30 rfl h
    · replace h := h.2 c2
      refine jv_iload_n dX7_broken_21 rfl ?_
      refine jm_callSi [.int a3] cw_7_43 dX7_broken_22 rfl (Nat.le_of_ble_eq_true rfl) (Nat.le_of_ble_eq_true rfl) (p_X7_isRouter  ?_)
      refine jv_if_ne (t := 31) dX7_broken_25 rfl (fun c3 => ?_) (fun c3 => ?_)
      · replace h := h.1 c3
        refine jv_aload_n dX7_broken_31 rfl ?_
        refine gf_7_10 rfl dX7_broken_32 kd_c_0 (lt_c 0 rfl) rf_c_0_0 ?_
        refine gf_7_53 rfl dX7_broken_35 (kd_N_0 isNet_1) (lt_N isNet_1 0 rfl) (rf_N_0_0 isNet_1) ?_
        refine gf_7_70 rfl dX7_broken_38 (kd_N_1 isNet_1) (lt_N isNet_1 1 rfl) (rf_N_1_6 isNet_1) ?_
        refine jv_iload_n dX7_broken_41 rfl ?_
        obtain ⟨b4, h⟩ := h
        refine jm_baload dX7_broken_42 (kd_N_7 isNet_1) (lt_N isNet_1 7 rfl) b4 ?_
        refine jv_if_ne (t := 49) dX7_broken_43 rfl (fun c5 => ?_) (fun c5 => ?_)
        · replace h := h.1 c5
          refine jv_aload_n dX7_broken_49 rfl ?_
          refine jv_iload_n dX7_broken_50 rfl ?_
          refine jm_callVu [.int a1] cw_7_211 dX7_broken_51 rfl (Nat.le_of_ble_eq_true rfl) kd_c_0 (r := (RX7, TX7, 7)) rfl rfl (lt_c 0 rfl) (Nat.le_of_ble_eq_true rfl) (JCu.mono h (fun u1 h => ?_))
          refine jv_aload_n dX7_broken_54 rfl ?_
          refine gf_7_16 rfl dX7_broken_55 kd_c_0 (lt_c 0 rfl) rf_c_0_1 ?_
          refine jv_bipush dX7_broken_58 ci_bipush_40 ?_
          refine jm_callVi [.int 40] cw_7_106 dX7_broken_60 rfl (Nat.le_of_ble_eq_true rfl) (kd_N_0 isNet_37) (r := (RX2, TX2, 13)) rfl rfl (lt_N isNet_37 0 rfl) (Nat.le_of_ble_eq_true rfl) (JCi.mono h (fun x2 u2 h => ?_))
          refine jv_pop dX7_broken_63 rfl ?_
          refine jv_aload_n dX7_broken_64 rfl ?_
          refine gf_7_25 rfl dX7_broken_65 kd_c_0 (lt_c 0 rfl) rf_c_0_4 ?_
          refine jv_aload_n dX7_broken_68 rfl ?_
          refine gf_7_16 rfl dX7_broken_69 kd_c_0 (lt_c 0 rfl) rf_c_0_1 ?_
          refine jv_iload_n dX7_broken_72 rfl ?_
          refine jm_callVu [.ref 37, .int a2] cw_7_167 dX7_broken_73 rfl (Nat.le_of_ble_eq_true rfl) kd_c_109 (r := (RX4, TX4, 5)) rfl rfl (lt_c 109 rfl) (Nat.le_of_ble_eq_true rfl) (JCu.mono h (fun u3 h => ?_))
          refine jv_aload_n dX7_broken_76 rfl ?_
          refine gf_7_25 rfl dX7_broken_77 kd_c_0 (lt_c 0 rfl) rf_c_0_4 ?_
          refine gf_7_171 rfl dX7_broken_80 kd_c_109 (lt_c 109 rfl) rf_c_109_0 ?_
          refine jv_iload_n dX7_broken_83 rfl ?_
          obtain ⟨b6, h⟩ := h
          refine jm_iaload dX7_broken_84 kd_c_110 (lt_c 110 rfl) b6 ?_
          exact jm_ireturn dX7_broken_85 rfl h
        · replace h := h.2 c5
          refine jv_bipush dX7_broken_46 ci_bipush_m3 ?_
          exact jm_ireturn dX7_broken_48 rfl h
      · replace h := h.2 c3
        refine jv_bipush dX7_broken_28 ci_bipush_m2 ?_
        exact jm_ireturn dX7_broken_30 rfl h
theorem g_X7_drawn_0 {E : JE} {u : JM} {K : Int32 → JM → Prop}  {a1 a2 : Int32}
    (h : ((¬ (jb (rg a1 0 7)) = 0 → JCu E 3 YX7_drawInThought [.ref 0, .int a2] (fun u1 =>
  JCi E 6 YX2_advance [.ref 37, .int 40] (fun x2 u2 =>
   JCi E 5 YX7_reached [.ref 0, .int a1] (fun x3 u3 =>
    JCi E 1 YJ6_bitCount_0f7a4 [.int x3] (fun x4 u4 =>
     K x4 u4) u3) u2) u1) u) ∧
 ((jb (rg a1 0 7)) = 0 → K (-2) u)))
    : JVi E 7 YX7_drawn K 0 [some (.ref 0), some (.int a1), some (.int a2)] [] u := by
  refine jv_iload_n dX7_drawn_0 rfl ?_
  refine jm_callSi [.int a1] cw_7_43 dX7_drawn_1 rfl (Nat.le_of_ble_eq_true rfl) (Nat.le_of_ble_eq_true rfl) (p_X7_isRouter  ?_)
  refine jv_if_ne (t := 10) dX7_drawn_4 rfl (fun c1 => ?_) (fun c1 => ?_)
  · replace h := h.1 c1
    refine jv_aload_n dX7_drawn_10 rfl ?_
    refine jv_iload_n dX7_drawn_11 rfl ?_
    refine jm_callVu [.int a2] cw_7_215 dX7_drawn_12 rfl (Nat.le_of_ble_eq_true rfl) kd_c_0 (r := (RX7, TX7, 7)) rfl rfl (lt_c 0 rfl) (Nat.le_of_ble_eq_true rfl) (JCu.mono h (fun u1 h => ?_))
    refine jv_aload_n dX7_drawn_15 rfl ?_
    refine gf_7_16 rfl dX7_drawn_16 kd_c_0 (lt_c 0 rfl) rf_c_0_1 ?_
    refine jv_bipush dX7_drawn_19 ci_bipush_40 ?_
    refine jm_callVi [.int 40] cw_7_106 dX7_drawn_21 rfl (Nat.le_of_ble_eq_true rfl) (kd_N_0 isNet_37) (r := (RX2, TX2, 13)) rfl rfl (lt_N isNet_37 0 rfl) (Nat.le_of_ble_eq_true rfl) (JCi.mono h (fun x2 u2 h => ?_))
    refine jv_pop dX7_drawn_24 rfl ?_
    refine jv_aload_n dX7_drawn_25 rfl ?_
    refine jv_iload_n dX7_drawn_26 rfl ?_
    refine jm_callVi [.int a1] cw_7_218 dX7_drawn_27 rfl (Nat.le_of_ble_eq_true rfl) kd_c_0 (r := (RX7, TX7, 7)) rfl rfl (lt_c 0 rfl) (Nat.le_of_ble_eq_true rfl) (JCi.mono h (fun x3 u3 h => ?_))
    refine jm_callSi [.int x3] cw_7_221 dX7_drawn_30 rfl (Nat.le_of_ble_eq_true rfl) (Nat.le_of_ble_eq_true rfl) (JCi.mono h (fun x4 u4 h => ?_))
    exact jm_ireturn dX7_drawn_33 rfl h
  · replace h := h.2 c1
    refine jv_bipush dX7_drawn_7 ci_bipush_m2 ?_
    exact jm_ireturn dX7_drawn_9 rfl h
theorem g_X7_chance_0 {E : JE} {u : JM} {K : Int32 → JM → Prop}  {a1 a2 a3 a4 : Int32}
    (h : (((jb (rg a1 0 7)) = 0 → K (-2) u) ∧
 (¬ (jb (rg a1 0 7)) = 0 → ((a3 < 1 → K (-2) u) ∧
  (¬ a3 < 1 → ((6 < a3 → K (-2) u) ∧
   (¬ 6 < a3 → ((a4 < 0 → K (-2) u) ∧
    (¬ a4 < 0 → ((a4 ≤ 1 → JVi E 7 YX7_chance K 38 [some (.ref 0), some (.int a1), some (.int a2), some (.int a3), some (.int a4), some (.int 0), some (.int 0)] [] u) ∧
     (¬ a4 ≤ 1 → K (-2) u)))))))))))
    : JVi E 7 YX7_chance K 0 [some (.ref 0), some (.int a1), some (.int a2), some (.int a3), some (.int a4), none, none] [] u := by
  refine jv_iload_n dX7_chance_0 rfl ?_
  refine jm_callSi [.int a1] cw_7_43 dX7_chance_1 rfl (Nat.le_of_ble_eq_true rfl) (Nat.le_of_ble_eq_true rfl) (p_X7_isRouter  ?_)
  refine jv_if_eq (t := 29) dX7_chance_4 rfl (fun c1 => ?_) (fun c1 => ?_)
  · replace h := h.1 c1
    refine jv_bipush dX7_chance_29 ci_bipush_m2 ?_
    exact jm_ireturn dX7_chance_31 rfl h
  · replace h := h.2 c1
    refine jv_iload_n dX7_chance_7 rfl ?_
    refine jv_iconst dX7_chance_8 ci_iconst_1 ?_
    refine jv_icmp_lt (t := 29) dX7_chance_9 rfl (fun c2 => ?_) (fun c2 => ?_)
    · replace h := h.1 c2
      refine jv_bipush dX7_chance_29 ci_bipush_m2 ?_
      exact jm_ireturn dX7_chance_31 rfl h
    · replace h := h.2 c2
      refine jv_iload_n dX7_chance_12 rfl ?_
      refine jv_bipush dX7_chance_13 ci_bipush_6 ?_
      refine jv_icmp_gt (t := 29) dX7_chance_15 rfl (fun c3 => ?_) (fun c3 => ?_)
      · replace h := h.1 c3
        refine jv_bipush dX7_chance_29 ci_bipush_m2 ?_
        exact jm_ireturn dX7_chance_31 rfl h
      · replace h := h.2 c3
        refine jv_iload dX7_chance_18 rfl ?_
        refine jv_if_lt (t := 29) dX7_chance_20 rfl (fun c4 => ?_) (fun c4 => ?_)
        · replace h := h.1 c4
          refine jv_bipush dX7_chance_29 ci_bipush_m2 ?_
          exact jm_ireturn dX7_chance_31 rfl h
        · replace h := h.2 c4
          refine jv_iload dX7_chance_23 rfl ?_
          refine jv_iconst dX7_chance_25 ci_iconst_1 ?_
          refine jv_icmp_le (t := 32) dX7_chance_26 rfl (fun c5 => ?_) (fun c5 => ?_)
          · replace h := h.1 c5
            refine jv_iconst dX7_chance_32 ci_iconst_0 ?_
            refine jv_istore (ls' := [some (.ref 0), some (.int a1), some (.int a2), some (.int a3), some (.int a4), some (.int 0), none]) dX7_chance_33 (Nat.le_of_ble_eq_true rfl) rfl ?_
            refine jv_iconst dX7_chance_35 ci_iconst_0 ?_
            refine jv_istore (ls' := [some (.ref 0), some (.int a1), some (.int a2), some (.int a3), some (.int a4), some (.int 0), some (.int 0)]) dX7_chance_36 (Nat.le_of_ble_eq_true rfl) rfl ?_
            exact h
          · replace h := h.2 c5
            refine jv_bipush dX7_chance_29 ci_bipush_m2 ?_
            exact jm_ireturn dX7_chance_31 rfl h
theorem g_X7_chance_38 {E : JE} {u : JM} {K : Int32 → JM → Prop}  {a1 a2 a3 a4 i5 i6 : Int32}
    (h : ((a3 ≤ i6 → JCi E 1 YX7_commonDivisor [.int i5, .int a3] (fun x1 u1 =>
  ((¬ a4 = 0 → ¬ x1 = 0 ∧
    K (a3 / x1) u1) ∧
   (a4 = 0 → ¬ x1 = 0 ∧
    K (i5 / x1) u1))) u) ∧
 (¬ a3 ≤ i6 → JCu E 3 YX7_drawInThought [.ref 0, .int (a2 + i6)] (fun u2 =>
  JCi E 6 YX2_advance [.ref 37, .int 40] (fun x3 u3 =>
   JCi E 5 YX7_reached [.ref 0, .int a1] (fun x4 u4 =>
    JCi E 3 YX1_joinedTo [.ref 38, .int a1] (fun x5 u5 =>
     ∀ i5_6 : Int32, i5_6 = (if x4 = x5 then (i5 + 1) else i5) →
      JVi E 7 YX7_chance K 38 [some (.ref 0), some (.int a1), some (.int a2), some (.int a3), some (.int a4), some (.int i5_6), some (.int (i6 + 1))] [] u5) u4) u3) u2) u)))
    : JVi E 7 YX7_chance K 38 [some (.ref 0), some (.int a1), some (.int a2), some (.int a3), some (.int a4), some (.int i5), some (.int i6)] [] u := by
  refine jv_iload dX7_chance_38 rfl ?_
  refine jv_iload_n dX7_chance_40 rfl ?_
  refine jv_icmp_ge (t := 90) dX7_chance_41 rfl (fun c1 => ?_) (fun c1 => ?_)
  · replace h := h.1 c1
    refine jv_iload dX7_chance_90 rfl ?_
    refine jv_iload_n dX7_chance_92 rfl ?_
    refine jm_callSi [.int i5, .int a3] cw_7_229 dX7_chance_93 rfl (Nat.le_of_ble_eq_true rfl) (Nat.le_of_ble_eq_true rfl) (JCi.mono h (fun x1 u1 h => ?_))
    refine jv_istore (ls' := [some (.ref 0), some (.int a1), some (.int a2), some (.int a3), some (.int a4), some (.int i5), some (.int x1)]) dX7_chance_96 (Nat.le_of_ble_eq_true rfl) rfl ?_
    refine jv_iload dX7_chance_98 rfl ?_
    refine jv_if_ne (t := 111) dX7_chance_100 rfl (fun c2 => ?_) (fun c2 => ?_)
    · replace h := h.1 c2
      refine jv_iload_n dX7_chance_111 rfl ?_
      refine jv_iload dX7_chance_112 rfl ?_
      obtain ⟨b3, h⟩ := h
      refine jv_idiv dX7_chance_114 b3 ?_
      exact jm_ireturn dX7_chance_115 rfl h
    · replace h := h.2 c2
      refine jv_iload dX7_chance_103 rfl ?_
      refine jv_iload dX7_chance_105 rfl ?_
      obtain ⟨b4, h⟩ := h
      refine jv_idiv dX7_chance_107 b4 ?_
      refine jv_goto (t := 115) dX7_chance_108 rfl ?_
      exact jm_ireturn dX7_chance_115 rfl h
  · replace h := h.2 c1
    refine jv_aload_n dX7_chance_44 rfl ?_
    refine jv_iload_n dX7_chance_45 rfl ?_
    refine jv_iload dX7_chance_46 rfl ?_
    refine jv_iadd dX7_chance_48 ?_
    refine jm_callVu [.int (a2 + i6)] cw_7_215 dX7_chance_49 rfl (Nat.le_of_ble_eq_true rfl) kd_c_0 (r := (RX7, TX7, 7)) rfl rfl (lt_c 0 rfl) (Nat.le_of_ble_eq_true rfl) (JCu.mono h (fun u2 h => ?_))
    refine jv_aload_n dX7_chance_52 rfl ?_
    refine gf_7_16 rfl dX7_chance_53 kd_c_0 (lt_c 0 rfl) rf_c_0_1 ?_
    refine jv_bipush dX7_chance_56 ci_bipush_40 ?_
    refine jm_callVi [.int 40] cw_7_106 dX7_chance_58 rfl (Nat.le_of_ble_eq_true rfl) (kd_N_0 isNet_37) (r := (RX2, TX2, 13)) rfl rfl (lt_N isNet_37 0 rfl) (Nat.le_of_ble_eq_true rfl) (JCi.mono h (fun x3 u3 h => ?_))
    refine jv_pop dX7_chance_61 rfl ?_
    refine jv_aload_n dX7_chance_62 rfl ?_
    refine jv_iload_n dX7_chance_63 rfl ?_
    refine jm_callVi [.int a1] cw_7_218 dX7_chance_64 rfl (Nat.le_of_ble_eq_true rfl) kd_c_0 (r := (RX7, TX7, 7)) rfl rfl (lt_c 0 rfl) (Nat.le_of_ble_eq_true rfl) (JCi.mono h (fun x4 u4 h => ?_))
    refine jv_aload_n dX7_chance_67 rfl ?_
    refine gf_7_16 rfl dX7_chance_68 kd_c_0 (lt_c 0 rfl) rf_c_0_1 ?_
    refine gf_7_53 rfl dX7_chance_71 (kd_N_0 isNet_37) (lt_N isNet_37 0 rfl) (rf_N_0_0 isNet_37) ?_
    refine jv_iload_n dX7_chance_74 rfl ?_
    refine jm_callVi [.int a1] cw_7_226 dX7_chance_75 rfl (Nat.le_of_ble_eq_true rfl) (kd_N_1 isNet_37) (r := (RX1, TX1, 8)) rfl rfl (lt_N isNet_37 1 rfl) (Nat.le_of_ble_eq_true rfl) (JCi.mono h (fun x5 u5 h => ?_))
    have key6 : ∀ i5_6 : Int32, i5_6 = (if x4 = x5 then (i5 + 1) else i5) → JVi E 7 YX7_chance K 84 [some (.ref 0), some (.int a1), some (.int a2), some (.int a3), some (.int a4), some (.int i5_6), some (.int i6)] [] u5 := by
      intro i5_6 hi5_6
      replace h := h i5_6 hi5_6
      refine jv_iinc (v := i6 + 1) (ls' := [some (.ref 0), some (.int a1), some (.int a2), some (.int a3), some (.int a4), some (.int i5_6), some (.int (i6 + 1))]) dX7_chance_84 (Nat.le_of_ble_eq_true rfl) rfl (by rw [ci_iconst_1]) rfl ?_
      refine jv_goto (t := 38) dX7_chance_87 rfl ?_
      exact h
    clear h
    refine jv_icmp_ne (t := 84) dX7_chance_78 rfl (fun c7 => ?_) (fun c7 => ?_)
    · exact key6 _ (Eq.trans rfl (if_neg c7).symm)
    · refine jv_iinc (v := i5 + 1) (ls' := [some (.ref 0), some (.int a1), some (.int a2), some (.int a3), some (.int a4), some (.int (i5 + 1)), some (.int i6)]) dX7_chance_81 (Nat.le_of_ble_eq_true rfl) rfl (by rw [ci_iconst_1]) rfl ?_
      exact key6 _ (Eq.trans rfl (if_pos c7).symm)
theorem g_X7_tells_0 {E : JE} {u : JM} {K : Int32 → JM → Prop}  {a1 a2 a3 : Int32}
    (h : (((jb (rg a1 0 3)) = 0 → K (-2) u) ∧
 (¬ (jb (rg a1 0 3)) = 0 → (((jb (rg a2 0 7)) = 0 → K (-2) u) ∧
  (¬ (jb (rg a2 0 7)) = 0 → ((¬ (jb (isTldW a3)) = 0 → ((a3 < 4 → vp_in a1 4 ∧
     (((jb (u 130 a1.toNatClampNeg = -1)) = 0 → (((u 131 a1.toNatClampNeg) ≤ 8 → ((a3 = 0 → JCi E 5 YX7_firstOtherwise [.ref 0, .ref 1, .int a1, .int a2] (fun x1 u1 =>
        K x1 u1) u) ∧
       (a3 = 1 → JCi E 6 YX7_routersToldSo [.ref 0, .int a1] (fun x2 u2 =>
        K x2 u2) u) ∧
       (a3 = 2 → JCi E 7 YX7_linksToldSo [.ref 0, .int a1, .int a2] (fun x3 u3 =>
        K x3 u3) u) ∧
       (¬ a3 = 0 → ¬ a3 = 1 → ¬ a3 = 2 → JCi E 7 YX7_costsToldSo [.ref 0, .int a1, .int a2, .int ((a3 / 4) - 1)] (fun x4 u4 =>
        ((¬ (a3 - a3 / 4 * 4) = 0 → JCi E 1 YX7_leastBit [.int x4] (fun x5 u5 =>
          K x5 u5) u4) ∧
         ((a3 - a3 / 4 * 4) = 0 → JCi E 1 YJ6_bitCount_0f7a4 [.int x4] (fun x6 u6 =>
          K x6 u6) u4))) u))) ∧
      (¬ (u 131 a1.toNatClampNeg) ≤ 8 → K (-2) u))) ∧
     (¬ (jb (u 130 a1.toNatClampNeg = -1)) = 0 → K (-11) u))) ∧
    (¬ a3 < 4 → ((¬ (jb (0 ≤ ((a3 / 4) - 1).toInt ∧ ((a3 / 4) - 1).toInt < (u 2 0).toInt)) = 0 → vp_in a1 4 ∧
      (((jb (u 130 a1.toNatClampNeg = -1)) = 0 → (((u 131 a1.toNatClampNeg) ≤ 8 → ((a3 = 0 → JCi E 5 YX7_firstOtherwise [.ref 0, .ref 1, .int a1, .int a2] (fun x7 u7 =>
         K x7 u7) u) ∧
        (a3 = 1 → JCi E 6 YX7_routersToldSo [.ref 0, .int a1] (fun x8 u8 =>
         K x8 u8) u) ∧
        (a3 = 2 → JCi E 7 YX7_linksToldSo [.ref 0, .int a1, .int a2] (fun x9 u9 =>
         K x9 u9) u) ∧
        (¬ a3 = 0 → ¬ a3 = 1 → ¬ a3 = 2 → JCi E 7 YX7_costsToldSo [.ref 0, .int a1, .int a2, .int ((a3 / 4) - 1)] (fun x10 u10 =>
         ((¬ (a3 - a3 / 4 * 4) = 0 → JCi E 1 YX7_leastBit [.int x10] (fun x11 u11 =>
           K x11 u11) u10) ∧
          ((a3 - a3 / 4 * 4) = 0 → JCi E 1 YJ6_bitCount_0f7a4 [.int x10] (fun x12 u12 =>
           K x12 u12) u10))) u))) ∧
       (¬ (u 131 a1.toNatClampNeg) ≤ 8 → K (-2) u))) ∧
      (¬ (jb (u 130 a1.toNatClampNeg = -1)) = 0 → K (-11) u))) ∧
     ((jb (0 ≤ ((a3 / 4) - 1).toInt ∧ ((a3 / 4) - 1).toInt < (u 2 0).toInt)) = 0 → K (-12) u))))) ∧
   ((jb (isTldW a3)) = 0 → K (-2) u)))))))
    : JVi E 8 YX7_tells K 0 [some (.ref 0), some (.int a1), some (.int a2), some (.int a3), none, none] [] u := by
  refine jv_aload_n dX7_tells_0 rfl ?_
  refine gf_7_39 rfl dX7_tells_1 kd_c_0 (lt_c 0 rfl) rf_c_0_6 ?_
  refine jv_iload_n dX7_tells_4 rfl ?_
  refine jm_callVi [.int a1] cw_7_233 dX7_tells_5 rfl (Nat.le_of_ble_eq_true rfl) kd_c_129 (r := (RX5, TX5, 3)) rfl rfl (lt_c 129 rfl) (Nat.le_of_ble_eq_true rfl) (p_X5_has  ?_)
  refine jv_if_eq (t := 25) dX7_tells_8 rfl (fun c1 => ?_) (fun c1 => ?_)
  · replace h := h.1 c1
    refine jv_bipush dX7_tells_25 ci_bipush_m2 ?_
    exact jm_ireturn dX7_tells_27 rfl h
  · replace h := h.2 c1
    refine jv_iload_n dX7_tells_11 rfl ?_
    refine jm_callSi [.int a2] cw_7_43 dX7_tells_12 rfl (Nat.le_of_ble_eq_true rfl) (Nat.le_of_ble_eq_true rfl) (p_X7_isRouter  ?_)
    refine jv_if_eq (t := 25) dX7_tells_15 rfl (fun c2 => ?_) (fun c2 => ?_)
    · replace h := h.1 c2
      refine jv_bipush dX7_tells_25 ci_bipush_m2 ?_
      exact jm_ireturn dX7_tells_27 rfl h
    · replace h := h.2 c2
      refine jv_iload_n dX7_tells_18 rfl ?_
      refine jm_callSi [.int a3] cw_7_234 dX7_tells_19 rfl (Nat.le_of_ble_eq_true rfl) (Nat.le_of_ble_eq_true rfl) (p_X7_isOfTold  ?_)
      refine jv_if_ne (t := 28) dX7_tells_22 rfl (fun c3 => ?_) (fun c3 => ?_)
      · replace h := h.1 c3
        refine jv_iload_n dX7_tells_28 rfl ?_
        refine jv_iconst dX7_tells_29 ci_iconst_4 ?_
        refine jv_idiv dX7_tells_30 (by decide) ?_
        refine jv_iconst dX7_tells_31 ci_iconst_1 ?_
        refine jv_isub dX7_tells_32 ?_
        refine jv_istore (ls' := [some (.ref 0), some (.int a1), some (.int a2), some (.int a3), some (.int ((a3 / 4) - 1)), none]) dX7_tells_33 (Nat.le_of_ble_eq_true rfl) rfl ?_
        refine jv_iload_n dX7_tells_35 rfl ?_
        refine jv_iconst dX7_tells_36 ci_iconst_4 ?_
        refine jv_icmp_lt (t := 58) dX7_tells_37 rfl (fun c4 => ?_) (fun c4 => ?_)
        · replace h := h.1 c4
          refine jv_aload_n dX7_tells_58 rfl ?_
          refine gf_7_39 rfl dX7_tells_59 kd_c_0 (lt_c 0 rfl) rf_c_0_6 ?_
          refine jv_iload_n dX7_tells_62 rfl ?_
          obtain ⟨b5, h⟩ := h
          refine jm_callVi [.int a1] cw_7_237 dX7_tells_63 rfl (Nat.le_of_ble_eq_true rfl) kd_c_129 (r := (RX5, TX5, 3)) rfl rfl (lt_c 129 rfl) (Nat.le_of_ble_eq_true rfl) (p_X5_isMissing b5 ?_)
          refine jv_if_eq (t := 72) dX7_tells_66 rfl (fun c6 => ?_) (fun c6 => ?_)
          · replace h := h.1 c6
            refine jv_aload_n dX7_tells_72 rfl ?_
            refine gf_7_39 rfl dX7_tells_73 kd_c_0 (lt_c 0 rfl) rf_c_0_6 ?_
            refine gf_7_240 rfl dX7_tells_76 kd_c_129 (lt_c 129 rfl) rf_c_129_1 ?_
            refine jv_iload_n dX7_tells_79 rfl ?_
            refine jm_iaload dX7_tells_80 kd_c_131 (lt_c 131 rfl) b5 ?_
            refine jv_bipush dX7_tells_81 ci_bipush_8 ?_
            refine jv_icmp_le (t := 89) dX7_tells_83 rfl (fun c7 => ?_) (fun c7 => ?_)
            · replace h := h.1 c7
              refine jv_iload_n dX7_tells_89 rfl ?_
              by_cases c8 : a3 = 0
              · replace h := h.1 c8
                refine jv_tableIn (off := 26) (t := 116) dX7_tells_90 (by rw [c8]; decide) (by rw [c8]; decide) (by rw [c8]; rfl) rfl ?_
                refine jv_aload_n dX7_tells_116 rfl ?_
                refine jv_aload_n dX7_tells_117 rfl ?_
                refine gf_7_10 rfl dX7_tells_118 kd_c_0 (lt_c 0 rfl) rf_c_0_0 ?_
                refine jv_iload_n dX7_tells_121 rfl ?_
                refine jv_iload_n dX7_tells_122 rfl ?_
                refine jm_callVi [.ref 1, .int a1, .int a2] cw_7_242 dX7_tells_123 rfl (Nat.le_of_ble_eq_true rfl) kd_c_0 (r := (RX7, TX7, 7)) rfl rfl (lt_c 0 rfl) (Nat.le_of_ble_eq_true rfl) (JCi.mono h (fun x1 u1 h => ?_))
                exact jm_ireturn dX7_tells_126 rfl h
              by_cases c9 : a3 = 1
              · replace h := h.2.1 c9
                refine jv_tableIn (off := 37) (t := 127) dX7_tells_90 (by rw [c9]; decide) (by rw [c9]; decide) (by rw [c9]; rfl) rfl ?_
                refine jv_aload_n dX7_tells_127 rfl ?_
                refine jv_iload_n dX7_tells_128 rfl ?_
                refine jm_callVi [.int a1] cw_7_246 dX7_tells_129 rfl (Nat.le_of_ble_eq_true rfl) kd_c_0 (r := (RX7, TX7, 7)) rfl rfl (lt_c 0 rfl) (Nat.le_of_ble_eq_true rfl) (JCi.mono h (fun x2 u2 h => ?_))
                exact jm_ireturn dX7_tells_132 rfl h
              by_cases c10 : a3 = 2
              · replace h := h.2.2.1 c10
                refine jv_tableIn (off := 43) (t := 133) dX7_tells_90 (by rw [c10]; decide) (by rw [c10]; decide) (by rw [c10]; rfl) rfl ?_
                refine jv_aload_n dX7_tells_133 rfl ?_
                refine jv_iload_n dX7_tells_134 rfl ?_
                refine jv_iload_n dX7_tells_135 rfl ?_
                refine jm_callVi [.int a1, .int a2] cw_7_249 dX7_tells_136 rfl (Nat.le_of_ble_eq_true rfl) kd_c_0 (r := (RX7, TX7, 7)) rfl rfl (lt_c 0 rfl) (Nat.le_of_ble_eq_true rfl) (JCi.mono h (fun x3 u3 h => ?_))
                exact jm_ireturn dX7_tells_139 rfl h
              replace h := h.2.2.2 c8 c9 c10
              refine jv_tableOut (t := 140) dX7_tells_90 (by have q0 := i32_ne c8; have q1 := i32_ne c9; have q2 := i32_ne c10; rw [show (0 : Int32).toInt = 0 from by decide] at q0; rw [show (1 : Int32).toInt = 1 from by decide] at q1; rw [show (2 : Int32).toInt = 2 from by decide] at q2; omega) rfl ?_
              refine jv_aload_n dX7_tells_140 rfl ?_
              refine jv_iload_n dX7_tells_141 rfl ?_
              refine jv_iload_n dX7_tells_142 rfl ?_
              refine jv_iload dX7_tells_143 rfl ?_
              refine jm_callVi [.int a1, .int a2, .int ((a3 / 4) - 1)] cw_7_252 dX7_tells_145 rfl (Nat.le_of_ble_eq_true rfl) kd_c_0 (r := (RX7, TX7, 7)) rfl rfl (lt_c 0 rfl) (Nat.le_of_ble_eq_true rfl) (JCi.mono h (fun x4 u4 h => ?_))
              refine jv_istore (ls' := [some (.ref 0), some (.int a1), some (.int a2), some (.int a3), some (.int ((a3 / 4) - 1)), some (.int x4)]) dX7_tells_148 (Nat.le_of_ble_eq_true rfl) rfl ?_
              refine jv_iload_n dX7_tells_150 rfl ?_
              refine jv_iconst dX7_tells_151 ci_iconst_4 ?_
              refine jv_irem dX7_tells_152 (by decide) ?_
              refine jv_if_ne (t := 162) dX7_tells_153 rfl (fun c11 => ?_) (fun c11 => ?_)
              · replace h := h.1 c11
                refine jv_iload dX7_tells_162 rfl ?_
                refine jm_callSi [.int x4] cw_7_255 dX7_tells_164 rfl (Nat.le_of_ble_eq_true rfl) (Nat.le_of_ble_eq_true rfl) (JCi.mono h (fun x5 u5 h => ?_))
                exact jm_ireturn dX7_tells_167 rfl h
              · replace h := h.2 c11
                refine jv_iload dX7_tells_156 rfl ?_
                refine jm_callSi [.int x4] cw_7_221 dX7_tells_158 rfl (Nat.le_of_ble_eq_true rfl) (Nat.le_of_ble_eq_true rfl) (JCi.mono h (fun x6 u6 h => ?_))
                exact jm_ireturn dX7_tells_161 rfl h
            · replace h := h.2 c7
              refine jv_bipush dX7_tells_86 ci_bipush_m2 ?_
              exact jm_ireturn dX7_tells_88 rfl h
          · replace h := h.2 c6
            refine jv_bipush dX7_tells_69 ci_bipush_m11 ?_
            exact jm_ireturn dX7_tells_71 rfl h
        · replace h := h.2 c4
          refine jv_aload_n dX7_tells_40 rfl ?_
          refine gf_7_10 rfl dX7_tells_41 kd_c_0 (lt_c 0 rfl) rf_c_0_0 ?_
          refine gf_7_53 rfl dX7_tells_44 (kd_N_0 isNet_1) (lt_N isNet_1 0 rfl) (rf_N_0_0 isNet_1) ?_
          refine jv_iload dX7_tells_47 rfl ?_
          refine jm_callVi [.int ((a3 / 4) - 1)] cw_7_67 dX7_tells_49 rfl (Nat.le_of_ble_eq_true rfl) (kd_N_1 isNet_1) (r := (RX1, TX1, 8)) rfl rfl (lt_N isNet_1 1 rfl) (Nat.le_of_ble_eq_true rfl) (p_X1_has isNet_1 ?_)
          refine jv_if_ne (t := 58) dX7_tells_52 rfl (fun c12 => ?_) (fun c12 => ?_)
          · replace h := h.1 c12
            refine jv_aload_n dX7_tells_58 rfl ?_
            refine gf_7_39 rfl dX7_tells_59 kd_c_0 (lt_c 0 rfl) rf_c_0_6 ?_
            refine jv_iload_n dX7_tells_62 rfl ?_
            obtain ⟨b13, h⟩ := h
            refine jm_callVi [.int a1] cw_7_237 dX7_tells_63 rfl (Nat.le_of_ble_eq_true rfl) kd_c_129 (r := (RX5, TX5, 3)) rfl rfl (lt_c 129 rfl) (Nat.le_of_ble_eq_true rfl) (p_X5_isMissing b13 ?_)
            refine jv_if_eq (t := 72) dX7_tells_66 rfl (fun c14 => ?_) (fun c14 => ?_)
            · replace h := h.1 c14
              refine jv_aload_n dX7_tells_72 rfl ?_
              refine gf_7_39 rfl dX7_tells_73 kd_c_0 (lt_c 0 rfl) rf_c_0_6 ?_
              refine gf_7_240 rfl dX7_tells_76 kd_c_129 (lt_c 129 rfl) rf_c_129_1 ?_
              refine jv_iload_n dX7_tells_79 rfl ?_
              refine jm_iaload dX7_tells_80 kd_c_131 (lt_c 131 rfl) b13 ?_
              refine jv_bipush dX7_tells_81 ci_bipush_8 ?_
              refine jv_icmp_le (t := 89) dX7_tells_83 rfl (fun c15 => ?_) (fun c15 => ?_)
              · replace h := h.1 c15
                refine jv_iload_n dX7_tells_89 rfl ?_
                by_cases c16 : a3 = 0
                · replace h := h.1 c16
                  refine jv_tableIn (off := 26) (t := 116) dX7_tells_90 (by rw [c16]; decide) (by rw [c16]; decide) (by rw [c16]; rfl) rfl ?_
                  refine jv_aload_n dX7_tells_116 rfl ?_
                  refine jv_aload_n dX7_tells_117 rfl ?_
                  refine gf_7_10 rfl dX7_tells_118 kd_c_0 (lt_c 0 rfl) rf_c_0_0 ?_
                  refine jv_iload_n dX7_tells_121 rfl ?_
                  refine jv_iload_n dX7_tells_122 rfl ?_
                  refine jm_callVi [.ref 1, .int a1, .int a2] cw_7_242 dX7_tells_123 rfl (Nat.le_of_ble_eq_true rfl) kd_c_0 (r := (RX7, TX7, 7)) rfl rfl (lt_c 0 rfl) (Nat.le_of_ble_eq_true rfl) (JCi.mono h (fun x7 u7 h => ?_))
                  exact jm_ireturn dX7_tells_126 rfl h
                by_cases c17 : a3 = 1
                · replace h := h.2.1 c17
                  refine jv_tableIn (off := 37) (t := 127) dX7_tells_90 (by rw [c17]; decide) (by rw [c17]; decide) (by rw [c17]; rfl) rfl ?_
                  refine jv_aload_n dX7_tells_127 rfl ?_
                  refine jv_iload_n dX7_tells_128 rfl ?_
                  refine jm_callVi [.int a1] cw_7_246 dX7_tells_129 rfl (Nat.le_of_ble_eq_true rfl) kd_c_0 (r := (RX7, TX7, 7)) rfl rfl (lt_c 0 rfl) (Nat.le_of_ble_eq_true rfl) (JCi.mono h (fun x8 u8 h => ?_))
                  exact jm_ireturn dX7_tells_132 rfl h
                by_cases c18 : a3 = 2
                · replace h := h.2.2.1 c18
                  refine jv_tableIn (off := 43) (t := 133) dX7_tells_90 (by rw [c18]; decide) (by rw [c18]; decide) (by rw [c18]; rfl) rfl ?_
                  refine jv_aload_n dX7_tells_133 rfl ?_
                  refine jv_iload_n dX7_tells_134 rfl ?_
                  refine jv_iload_n dX7_tells_135 rfl ?_
                  refine jm_callVi [.int a1, .int a2] cw_7_249 dX7_tells_136 rfl (Nat.le_of_ble_eq_true rfl) kd_c_0 (r := (RX7, TX7, 7)) rfl rfl (lt_c 0 rfl) (Nat.le_of_ble_eq_true rfl) (JCi.mono h (fun x9 u9 h => ?_))
                  exact jm_ireturn dX7_tells_139 rfl h
                replace h := h.2.2.2 c16 c17 c18
                refine jv_tableOut (t := 140) dX7_tells_90 (by have q0 := i32_ne c16; have q1 := i32_ne c17; have q2 := i32_ne c18; rw [show (0 : Int32).toInt = 0 from by decide] at q0; rw [show (1 : Int32).toInt = 1 from by decide] at q1; rw [show (2 : Int32).toInt = 2 from by decide] at q2; omega) rfl ?_
                refine jv_aload_n dX7_tells_140 rfl ?_
                refine jv_iload_n dX7_tells_141 rfl ?_
                refine jv_iload_n dX7_tells_142 rfl ?_
                refine jv_iload dX7_tells_143 rfl ?_
                refine jm_callVi [.int a1, .int a2, .int ((a3 / 4) - 1)] cw_7_252 dX7_tells_145 rfl (Nat.le_of_ble_eq_true rfl) kd_c_0 (r := (RX7, TX7, 7)) rfl rfl (lt_c 0 rfl) (Nat.le_of_ble_eq_true rfl) (JCi.mono h (fun x10 u10 h => ?_))
                refine jv_istore (ls' := [some (.ref 0), some (.int a1), some (.int a2), some (.int a3), some (.int ((a3 / 4) - 1)), some (.int x10)]) dX7_tells_148 (Nat.le_of_ble_eq_true rfl) rfl ?_
                refine jv_iload_n dX7_tells_150 rfl ?_
                refine jv_iconst dX7_tells_151 ci_iconst_4 ?_
                refine jv_irem dX7_tells_152 (by decide) ?_
                refine jv_if_ne (t := 162) dX7_tells_153 rfl (fun c19 => ?_) (fun c19 => ?_)
                · replace h := h.1 c19
                  refine jv_iload dX7_tells_162 rfl ?_
                  refine jm_callSi [.int x10] cw_7_255 dX7_tells_164 rfl (Nat.le_of_ble_eq_true rfl) (Nat.le_of_ble_eq_true rfl) (JCi.mono h (fun x11 u11 h => ?_))
                  exact jm_ireturn dX7_tells_167 rfl h
                · replace h := h.2 c19
                  refine jv_iload dX7_tells_156 rfl ?_
                  refine jm_callSi [.int x10] cw_7_221 dX7_tells_158 rfl (Nat.le_of_ble_eq_true rfl) (Nat.le_of_ble_eq_true rfl) (JCi.mono h (fun x12 u12 h => ?_))
                  exact jm_ireturn dX7_tells_161 rfl h
              · replace h := h.2 c15
                refine jv_bipush dX7_tells_86 ci_bipush_m2 ?_
                exact jm_ireturn dX7_tells_88 rfl h
            · replace h := h.2 c14
              refine jv_bipush dX7_tells_69 ci_bipush_m11 ?_
              exact jm_ireturn dX7_tells_71 rfl h
          · replace h := h.2 c12
            refine jv_bipush dX7_tells_55 ci_bipush_m12 ?_
            exact jm_ireturn dX7_tells_57 rfl h
      · replace h := h.2 c3
        refine jv_bipush dX7_tells_25 ci_bipush_m2 ?_
        exact jm_ireturn dX7_tells_27 rfl h
theorem g_X7_film_0 {E : JE} {u : JM} {K : Int32 → JM → Prop}  {a1 a2 : Int32}
    (h : (((jb (rg a1 0 3)) = 0 → K (-2) u) ∧
 (¬ (jb (rg a1 0 3)) = 0 → ((¬ (jb (rg a2 0 7)) = 0 → JCu E 4 YX4_find [.ref 109, .ref 1, .int a2] (fun u1 =>
   JCu E 2 YX5_become [.ref 129, .int a1, .int 1, .int 8] (fun u2 =>
    JVi E 5 YX7_film K 46 [some (.ref 0), some (.int a1), some (.int a2), some (.int 0)] [] u2) u1) u) ∧
  ((jb (rg a2 0 7)) = 0 → K (-2) u)))))
    : JVi E 5 YX7_film K 0 [some (.ref 0), some (.int a1), some (.int a2), none] [] u := by
  refine jv_aload_n dX7_film_0 rfl ?_
  refine gf_7_39 rfl dX7_film_1 kd_c_0 (lt_c 0 rfl) rf_c_0_6 ?_
  refine jv_iload_n dX7_film_4 rfl ?_
  refine jm_callVi [.int a1] cw_7_233 dX7_film_5 rfl (Nat.le_of_ble_eq_true rfl) kd_c_129 (r := (RX5, TX5, 3)) rfl rfl (lt_c 129 rfl) (Nat.le_of_ble_eq_true rfl) (p_X5_has  ?_)
  refine jv_if_eq (t := 18) dX7_film_8 rfl (fun c1 => ?_) (fun c1 => ?_)
  · replace h := h.1 c1
    refine jv_bipush dX7_film_18 ci_bipush_m2 ?_
    exact jm_ireturn dX7_film_20 rfl h
  · replace h := h.2 c1
    refine jv_iload_n dX7_film_11 rfl ?_
    refine jm_callSi [.int a2] cw_7_43 dX7_film_12 rfl (Nat.le_of_ble_eq_true rfl) (Nat.le_of_ble_eq_true rfl) (p_X7_isRouter  ?_)
    refine jv_if_ne (t := 21) dX7_film_15 rfl (fun c2 => ?_) (fun c2 => ?_)
    · replace h := h.1 c2
      refine jv_aload_n dX7_film_21 rfl ?_
      refine gf_7_25 rfl dX7_film_22 kd_c_0 (lt_c 0 rfl) rf_c_0_4 ?_
      refine jv_aload_n dX7_film_25 rfl ?_
      refine gf_7_10 rfl dX7_film_26 kd_c_0 (lt_c 0 rfl) rf_c_0_0 ?_
      refine jv_iload_n dX7_film_29 rfl ?_
      refine jm_callVu [.ref 1, .int a2] cw_7_167 dX7_film_30 rfl (Nat.le_of_ble_eq_true rfl) kd_c_109 (r := (RX4, TX4, 5)) rfl rfl (lt_c 109 rfl) (Nat.le_of_ble_eq_true rfl) (JCu.mono h (fun u1 h => ?_))
      refine jv_aload_n dX7_film_33 rfl ?_
      refine gf_7_39 rfl dX7_film_34 kd_c_0 (lt_c 0 rfl) rf_c_0_6 ?_
      refine jv_iload_n dX7_film_37 rfl ?_
      refine jv_iconst dX7_film_38 ci_iconst_1 ?_
      refine jv_bipush dX7_film_39 ci_bipush_8 ?_
      refine jm_callVu [.int a1, .int 1, .int 8] cw_7_258 dX7_film_41 rfl (Nat.le_of_ble_eq_true rfl) kd_c_129 (r := (RX5, TX5, 3)) rfl rfl (lt_c 129 rfl) (Nat.le_of_ble_eq_true rfl) (JCu.mono h (fun u2 h => ?_))
      refine jv_iconst dX7_film_44 ci_iconst_0 ?_
      refine jv_istore_n (ls' := [some (.ref 0), some (.int a1), some (.int a2), some (.int 0)]) dX7_film_45 (Nat.le_of_ble_eq_true rfl) rfl ?_
      exact h
    · replace h := h.2 c2
      refine jv_bipush dX7_film_18 ci_bipush_m2 ?_
      exact jm_ireturn dX7_film_20 rfl h
theorem g_X7_film_46 {E : JE} {u : JM} {K : Int32 → JM → Prop}  {a1 a2 i3 : Int32}
    (h : ((8 ≤ i3 → K 8 u) ∧
 (¬ 8 ≤ i3 → vp_in i3 8 ∧
  JCu E 1 YX5_put [.ref 129, .int a1, .int i3, .int (u 110 i3.toNatClampNeg)] (fun u1 =>
  JVi E 5 YX7_film K 46 [some (.ref 0), some (.int a1), some (.int a2), some (.int (i3 + 1))] [] u1) u)))
    : JVi E 5 YX7_film K 46 [some (.ref 0), some (.int a1), some (.int a2), some (.int i3)] [] u := by
  refine jv_iload_n dX7_film_46 rfl ?_
  refine jv_bipush dX7_film_47 ci_bipush_8 ?_
  refine jv_icmp_ge (t := 76) dX7_film_49 rfl (fun c1 => ?_) (fun c1 => ?_)
  · replace h := h.1 c1
    refine jv_bipush dX7_film_76 ci_bipush_8 ?_
    exact jm_ireturn dX7_film_78 rfl h
  · replace h := h.2 c1
    refine jv_aload_n dX7_film_52 rfl ?_
    refine gf_7_39 rfl dX7_film_53 kd_c_0 (lt_c 0 rfl) rf_c_0_6 ?_
    refine jv_iload_n dX7_film_56 rfl ?_
    refine jv_iload_n dX7_film_57 rfl ?_
    refine jv_aload_n dX7_film_58 rfl ?_
    refine gf_7_25 rfl dX7_film_59 kd_c_0 (lt_c 0 rfl) rf_c_0_4 ?_
    refine gf_7_171 rfl dX7_film_62 kd_c_109 (lt_c 109 rfl) rf_c_109_0 ?_
    refine jv_iload_n dX7_film_65 rfl ?_
    obtain ⟨b3, h⟩ := h
    refine jm_iaload dX7_film_66 kd_c_110 (lt_c 110 rfl) b3 ?_
    refine jm_callVu [.int a1, .int i3, .int (u 110 i3.toNatClampNeg)] cw_7_262 dX7_film_67 rfl (Nat.le_of_ble_eq_true rfl) kd_c_129 (r := (RX5, TX5, 3)) rfl rfl (lt_c 129 rfl) (Nat.le_of_ble_eq_true rfl) (JCu.mono h (fun u1 h => ?_))
    refine jv_iinc (v := i3 + 1) (ls' := [some (.ref 0), some (.int a1), some (.int a2), some (.int (i3 + 1))]) dX7_film_70 (Nat.le_of_ble_eq_true rfl) rfl (by rw [ci_iconst_1]) rfl ?_
    refine jv_goto (t := 46) dX7_film_73 rfl ?_
    exact h
theorem g_X7_image_0 {E : JE} {u : JM} {K : Int32 → JM → Prop} 
    (h : JCu E 2 YX2_takeOver [.ref 73, .ref 1] (fun u1 =>
 ∀ u2, u2 = jw u1 0 3 1 →
  K (u2 2 0) u2) u)
    : JVi E 3 YX7_image K 0 [some (.ref 0)] [] u := by
  refine jv_aload_n dX7_image_0 rfl ?_
  refine gf_7_19 rfl dX7_image_1 kd_c_0 (lt_c 0 rfl) rf_c_0_2 ?_
  refine jv_aload_n dX7_image_4 rfl ?_
  refine gf_7_10 rfl dX7_image_5 kd_c_0 (lt_c 0 rfl) rf_c_0_0 ?_
  refine jm_callVu [.ref 1] cw_7_197 dX7_image_8 rfl (Nat.le_of_ble_eq_true rfl) (kd_N_0 isNet_73) (r := (RX2, TX2, 13)) rfl rfl (lt_N isNet_73 0 rfl) (Nat.le_of_ble_eq_true rfl) (JCu.mono h (fun u1 h => ?_))
  refine jv_aload_n dX7_image_11 rfl ?_
  refine jv_iconst dX7_image_12 ci_iconst_1 ?_
  refine pf_7_265 rfl dX7_image_13 kd_c_0 (lt_c 0 rfl) (Or.inr rfl) ?_
  generalize hhu2 : jw u1 0 3 1 = u2
  replace h := h u2 hhu2.symm
  refine jv_aload_n dX7_image_16 rfl ?_
  refine gf_7_10 rfl dX7_image_17 kd_c_0 (lt_c 0 rfl) rf_c_0_0 ?_
  refine gf_7_53 rfl dX7_image_20 (kd_N_0 isNet_1) (lt_N isNet_1 0 rfl) (rf_N_0_0 isNet_1) ?_
  refine gf_7_57 rfl dX7_image_23 (kd_N_1 isNet_1) (lt_N isNet_1 1 rfl) ?_
  exact jm_ireturn dX7_image_26 rfl h
theorem g_X7_back_0 {E : JE} {u : JM} {K : Int32 → JM → Prop} 
    (h : ((¬ (u 0 3) = 0 → JCu E 2 YX2_takeOver [.ref 1, .ref 73] (fun u1 =>
  K (u1 2 0) u1) u) ∧
 ((u 0 3) = 0 → K (-3) u)))
    : JVi E 3 YX7_back K 0 [some (.ref 0)] [] u := by
  refine jv_aload_n dX7_back_0 rfl ?_
  refine gf_7_265 rfl dX7_back_1 kd_c_0 (lt_c 0 rfl) ?_
  refine jv_if_ne (t := 10) dX7_back_4 rfl (fun c1 => ?_) (fun c1 => ?_)
  · replace h := h.1 c1
    refine jv_aload_n dX7_back_10 rfl ?_
    refine gf_7_10 rfl dX7_back_11 kd_c_0 (lt_c 0 rfl) rf_c_0_0 ?_
    refine jv_aload_n dX7_back_14 rfl ?_
    refine gf_7_19 rfl dX7_back_15 kd_c_0 (lt_c 0 rfl) rf_c_0_2 ?_
    refine jm_callVu [.ref 73] cw_7_197 dX7_back_18 rfl (Nat.le_of_ble_eq_true rfl) (kd_N_0 isNet_1) (r := (RX2, TX2, 13)) rfl rfl (lt_N isNet_1 0 rfl) (Nat.le_of_ble_eq_true rfl) (JCu.mono h (fun u1 h => ?_))
    refine jv_aload_n dX7_back_21 rfl ?_
    refine gf_7_10 rfl dX7_back_22 kd_c_0 (lt_c 0 rfl) rf_c_0_0 ?_
    refine gf_7_53 rfl dX7_back_25 (kd_N_0 isNet_1) (lt_N isNet_1 0 rfl) (rf_N_0_0 isNet_1) ?_
    refine gf_7_57 rfl dX7_back_28 (kd_N_1 isNet_1) (lt_N isNet_1 1 rfl) ?_
    exact jm_ireturn dX7_back_31 rfl h
  · replace h := h.2 c1
    refine jv_bipush dX7_back_7 ci_bipush_m3 ?_
    exact jm_ireturn dX7_back_9 rfl h
theorem g_X7_count_0 {E : JE} {u : JM} {K : Int32 → JM → Prop}  {a1 : Int32}
    (h : ((a1 = 0 → K (u 2 0) u) ∧
 (a1 = 1 → JCi E 1 YX1_upInAll [.ref 2] (fun x1 u1 =>
  K x1 u1) u) ∧
 (a1 = 2 → K (u 1 7) u) ∧
 (a1 = 3 → K (u 1 8) u) ∧
 (a1 = 4 → K (u 1 6) u) ∧
 (a1 = 5 → JCi E 3 YX2_knownToAll [.ref 1] (fun x2 u2 =>
  K x2 u2) u) ∧
 (¬ a1 = 0 → ¬ a1 = 1 → ¬ a1 = 2 → ¬ a1 = 3 → ¬ a1 = 4 → ¬ a1 = 5 → K (-2) u)))
    : JVi E 4 YX7_count K 0 [some (.ref 0), some (.int a1)] [] u := by
  refine jv_iload_n dX7_count_0 rfl ?_
  by_cases c1 : a1 = 0
  · replace h := h.1 c1
    refine jv_tableIn (off := 39) (t := 40) dX7_count_1 (by rw [c1]; decide) (by rw [c1]; decide) (by rw [c1]; rfl) rfl ?_
    refine jv_aload_n dX7_count_40 rfl ?_
    refine gf_7_10 rfl dX7_count_41 kd_c_0 (lt_c 0 rfl) rf_c_0_0 ?_
    refine gf_7_53 rfl dX7_count_44 (kd_N_0 isNet_1) (lt_N isNet_1 0 rfl) (rf_N_0_0 isNet_1) ?_
    refine gf_7_57 rfl dX7_count_47 (kd_N_1 isNet_1) (lt_N isNet_1 1 rfl) ?_
    exact jm_ireturn dX7_count_50 rfl h
  by_cases c2 : a1 = 1
  · replace h := h.2.1 c2
    refine jv_tableIn (off := 50) (t := 51) dX7_count_1 (by rw [c2]; decide) (by rw [c2]; decide) (by rw [c2]; rfl) rfl ?_
    refine jv_aload_n dX7_count_51 rfl ?_
    refine gf_7_10 rfl dX7_count_52 kd_c_0 (lt_c 0 rfl) rf_c_0_0 ?_
    refine gf_7_53 rfl dX7_count_55 (kd_N_0 isNet_1) (lt_N isNet_1 0 rfl) (rf_N_0_0 isNet_1) ?_
    refine jm_callVi [] cw_7_269 dX7_count_58 rfl (Nat.le_of_ble_eq_true rfl) (kd_N_1 isNet_1) (r := (RX1, TX1, 8)) rfl rfl (lt_N isNet_1 1 rfl) (Nat.le_of_ble_eq_true rfl) (JCi.mono h (fun x1 u1 h => ?_))
    exact jm_ireturn dX7_count_61 rfl h
  by_cases c3 : a1 = 2
  · replace h := h.2.2.1 c3
    refine jv_tableIn (off := 61) (t := 62) dX7_count_1 (by rw [c3]; decide) (by rw [c3]; decide) (by rw [c3]; rfl) rfl ?_
    refine jv_aload_n dX7_count_62 rfl ?_
    refine gf_7_10 rfl dX7_count_63 kd_c_0 (lt_c 0 rfl) rf_c_0_0 ?_
    refine gf_7_272 rfl dX7_count_66 (kd_N_0 isNet_1) (lt_N isNet_1 0 rfl) ?_
    exact jm_ireturn dX7_count_69 rfl h
  by_cases c4 : a1 = 3
  · replace h := h.2.2.2.1 c4
    refine jv_tableIn (off := 69) (t := 70) dX7_count_1 (by rw [c4]; decide) (by rw [c4]; decide) (by rw [c4]; rfl) rfl ?_
    refine jv_aload_n dX7_count_70 rfl ?_
    refine gf_7_10 rfl dX7_count_71 kd_c_0 (lt_c 0 rfl) rf_c_0_0 ?_
    refine gf_7_205 rfl dX7_count_74 (kd_N_0 isNet_1) (lt_N isNet_1 0 rfl) ?_
    exact jm_ireturn dX7_count_77 rfl h
  by_cases c5 : a1 = 4
  · replace h := h.2.2.2.2.1 c5
    refine jv_tableIn (off := 77) (t := 78) dX7_count_1 (by rw [c5]; decide) (by rw [c5]; decide) (by rw [c5]; rfl) rfl ?_
    refine jv_aload_n dX7_count_78 rfl ?_
    refine gf_7_10 rfl dX7_count_79 kd_c_0 (lt_c 0 rfl) rf_c_0_0 ?_
    refine gf_7_136 rfl dX7_count_82 (kd_N_0 isNet_1) (lt_N isNet_1 0 rfl) ?_
    exact jm_ireturn dX7_count_85 rfl h
  by_cases c6 : a1 = 5
  · replace h := h.2.2.2.2.2.1 c6
    refine jv_tableIn (off := 85) (t := 86) dX7_count_1 (by rw [c6]; decide) (by rw [c6]; decide) (by rw [c6]; rfl) rfl ?_
    refine jv_aload_n dX7_count_86 rfl ?_
    refine gf_7_10 rfl dX7_count_87 kd_c_0 (lt_c 0 rfl) rf_c_0_0 ?_
    refine jm_callVi [] cw_7_275 dX7_count_90 rfl (Nat.le_of_ble_eq_true rfl) (kd_N_0 isNet_1) (r := (RX2, TX2, 13)) rfl rfl (lt_N isNet_1 0 rfl) (Nat.le_of_ble_eq_true rfl) (JCi.mono h (fun x2 u2 h => ?_))
    exact jm_ireturn dX7_count_93 rfl h
  replace h := h.2.2.2.2.2.2 c1 c2 c3 c4 c5 c6
  refine jv_tableOut (t := 94) dX7_count_1 (by have q0 := i32_ne c1; have q1 := i32_ne c2; have q2 := i32_ne c3; have q3 := i32_ne c4; have q4 := i32_ne c5; have q5 := i32_ne c6; rw [show (0 : Int32).toInt = 0 from by decide] at q0; rw [show (1 : Int32).toInt = 1 from by decide] at q1; rw [show (2 : Int32).toInt = 2 from by decide] at q2; rw [show (3 : Int32).toInt = 3 from by decide] at q3; rw [show (4 : Int32).toInt = 4 from by decide] at q4; rw [show (5 : Int32).toInt = 5 from by decide] at q5; omega) rfl ?_
  refine jv_bipush dX7_count_94 ci_bipush_m2 ?_
  exact jm_ireturn dX7_count_96 rfl h
theorem g_X7_sheet_0 {E : JE} {u : JM} {K : Int32 → JM → Prop}  {a1 a2 a3 : Int32}
    (h : (((jb (rg a1 0 3)) = 0 → K (-2) u) ∧
 (¬ (jb (rg a1 0 3)) = 0 → ((a2 < (-1) → K (-2) u) ∧
  (¬ a2 < (-1) → ((a2 ≤ 1 → ((¬ a2 = (-1) → ((a3 ≤ 40 → ((0 ≤ a3 → JCu E 2 YX5_become [.ref 129, .int a1, .int a2, .int a3] (fun u1 =>
       K 1 u1) u) ∧
      (¬ 0 ≤ a3 → K (-14) u))) ∧
     (¬ a3 ≤ 40 → K (-2) u))) ∧
    (a2 = (-1) → JCu E 2 YX5_become [.ref 129, .int a1, .int (-1), .int 0] (fun u2 =>
     K 1 u2) u))) ∧
   (¬ a2 ≤ 1 → K (-2) u)))))))
    : JVi E 3 YX7_sheet K 0 [some (.ref 0), some (.int a1), some (.int a2), some (.int a3)] [] u := by
  refine jv_aload_n dX7_sheet_0 rfl ?_
  refine gf_7_39 rfl dX7_sheet_1 kd_c_0 (lt_c 0 rfl) rf_c_0_6 ?_
  refine jv_iload_n dX7_sheet_4 rfl ?_
  refine jm_callVi [.int a1] cw_7_233 dX7_sheet_5 rfl (Nat.le_of_ble_eq_true rfl) kd_c_129 (r := (RX5, TX5, 3)) rfl rfl (lt_c 129 rfl) (Nat.le_of_ble_eq_true rfl) (p_X5_has  ?_)
  refine jv_if_eq (t := 21) dX7_sheet_8 rfl (fun c1 => ?_) (fun c1 => ?_)
  · replace h := h.1 c1
    refine jv_bipush dX7_sheet_21 ci_bipush_m2 ?_
    exact jm_ireturn dX7_sheet_23 rfl h
  · replace h := h.2 c1
    refine jv_iload_n dX7_sheet_11 rfl ?_
    refine jv_iconst dX7_sheet_12 ci_iconst_m1 ?_
    refine jv_icmp_lt (t := 21) dX7_sheet_13 rfl (fun c2 => ?_) (fun c2 => ?_)
    · replace h := h.1 c2
      refine jv_bipush dX7_sheet_21 ci_bipush_m2 ?_
      exact jm_ireturn dX7_sheet_23 rfl h
    · replace h := h.2 c2
      refine jv_iload_n dX7_sheet_16 rfl ?_
      refine jv_iconst dX7_sheet_17 ci_iconst_1 ?_
      refine jv_icmp_le (t := 24) dX7_sheet_18 rfl (fun c3 => ?_) (fun c3 => ?_)
      · replace h := h.1 c3
        refine jv_iload_n dX7_sheet_24 rfl ?_
        refine jv_iconst dX7_sheet_25 ci_iconst_m1 ?_
        refine jv_icmp_ne (t := 41) dX7_sheet_26 rfl (fun c4 => ?_) (fun c4 => ?_)
        · replace h := h.1 c4
          refine jv_iload_n dX7_sheet_41 rfl ?_
          refine jv_bipush dX7_sheet_42 ci_bipush_40 ?_
          refine jv_icmp_le (t := 50) dX7_sheet_44 rfl (fun c5 => ?_) (fun c5 => ?_)
          · replace h := h.1 c5
            refine jv_iload_n dX7_sheet_50 rfl ?_
            refine jv_if_ge (t := 57) dX7_sheet_51 rfl (fun c6 => ?_) (fun c6 => ?_)
            · replace h := h.1 c6
              refine jv_aload_n dX7_sheet_57 rfl ?_
              refine gf_7_39 rfl dX7_sheet_58 kd_c_0 (lt_c 0 rfl) rf_c_0_6 ?_
              refine jv_iload_n dX7_sheet_61 rfl ?_
              refine jv_iload_n dX7_sheet_62 rfl ?_
              refine jv_iload_n dX7_sheet_63 rfl ?_
              refine jm_callVu [.int a1, .int a2, .int a3] cw_7_258 dX7_sheet_64 rfl (Nat.le_of_ble_eq_true rfl) kd_c_129 (r := (RX5, TX5, 3)) rfl rfl (lt_c 129 rfl) (Nat.le_of_ble_eq_true rfl) (JCu.mono h (fun u1 h => ?_))
              refine jv_iconst dX7_sheet_67 ci_iconst_1 ?_
              exact jm_ireturn dX7_sheet_68 rfl h
            · replace h := h.2 c6
              refine jv_bipush dX7_sheet_54 ci_bipush_m14 ?_
              exact jm_ireturn dX7_sheet_56 rfl h
          · replace h := h.2 c5
            refine jv_bipush dX7_sheet_47 ci_bipush_m2 ?_
            exact jm_ireturn dX7_sheet_49 rfl h
        · replace h := h.2 c4
          refine jv_aload_n dX7_sheet_29 rfl ?_
          refine gf_7_39 rfl dX7_sheet_30 kd_c_0 (lt_c 0 rfl) rf_c_0_6 ?_
          refine jv_iload_n dX7_sheet_33 rfl ?_
          refine jv_iconst dX7_sheet_34 ci_iconst_m1 ?_
          refine jv_iconst dX7_sheet_35 ci_iconst_0 ?_
          refine jm_callVu [.int a1, .int (-1), .int 0] cw_7_258 dX7_sheet_36 rfl (Nat.le_of_ble_eq_true rfl) kd_c_129 (r := (RX5, TX5, 3)) rfl rfl (lt_c 129 rfl) (Nat.le_of_ble_eq_true rfl) (JCu.mono h (fun u2 h => ?_))
          refine jv_iconst dX7_sheet_39 ci_iconst_1 ?_
          exact jm_ireturn dX7_sheet_40 rfl h
      · replace h := h.2 c3
        refine jv_bipush dX7_sheet_21 ci_bipush_m2 ?_
        exact jm_ireturn dX7_sheet_23 rfl h
theorem g_X7_cell_0 {E : JE} {u : JM} {K : Int32 → JM → Prop}  {a1 a2 a3 : Int32}
    (h : ((¬ (jb (rg a1 0 3)) = 0 → vp_in a1 4 ∧
  (((jb (u 130 a1.toNatClampNeg = -1)) = 0 → ((a2 < 0 → K (-12) u) ∧
   (¬ a2 < 0 → ((a2 < (u 131 a1.toNatClampNeg) → JCu E 1 YX5_put [.ref 129, .int a1, .int a2, .int a3] (fun u1 =>
     K 1 u1) u) ∧
    (¬ a2 < (u 131 a1.toNatClampNeg) → K (-12) u))))) ∧
  (¬ (jb (u 130 a1.toNatClampNeg = -1)) = 0 → K (-11) u))) ∧
 ((jb (rg a1 0 3)) = 0 → K (-2) u)))
    : JVi E 2 YX7_cell K 0 [some (.ref 0), some (.int a1), some (.int a2), some (.int a3)] [] u := by
  refine jv_aload_n dX7_cell_0 rfl ?_
  refine gf_7_39 rfl dX7_cell_1 kd_c_0 (lt_c 0 rfl) rf_c_0_6 ?_
  refine jv_iload_n dX7_cell_4 rfl ?_
  refine jm_callVi [.int a1] cw_7_233 dX7_cell_5 rfl (Nat.le_of_ble_eq_true rfl) kd_c_129 (r := (RX5, TX5, 3)) rfl rfl (lt_c 129 rfl) (Nat.le_of_ble_eq_true rfl) (p_X5_has  ?_)
  refine jv_if_ne (t := 14) dX7_cell_8 rfl (fun c1 => ?_) (fun c1 => ?_)
  · replace h := h.1 c1
    refine jv_aload_n dX7_cell_14 rfl ?_
    refine gf_7_39 rfl dX7_cell_15 kd_c_0 (lt_c 0 rfl) rf_c_0_6 ?_
    refine jv_iload_n dX7_cell_18 rfl ?_
    obtain ⟨b2, h⟩ := h
    refine jm_callVi [.int a1] cw_7_237 dX7_cell_19 rfl (Nat.le_of_ble_eq_true rfl) kd_c_129 (r := (RX5, TX5, 3)) rfl rfl (lt_c 129 rfl) (Nat.le_of_ble_eq_true rfl) (p_X5_isMissing b2 ?_)
    refine jv_if_eq (t := 28) dX7_cell_22 rfl (fun c3 => ?_) (fun c3 => ?_)
    · replace h := h.1 c3
      refine jv_iload_n dX7_cell_28 rfl ?_
      refine jv_if_lt (t := 45) dX7_cell_29 rfl (fun c4 => ?_) (fun c4 => ?_)
      · replace h := h.1 c4
        refine jv_bipush dX7_cell_45 ci_bipush_m12 ?_
        exact jm_ireturn dX7_cell_47 rfl h
      · replace h := h.2 c4
        refine jv_iload_n dX7_cell_32 rfl ?_
        refine jv_aload_n dX7_cell_33 rfl ?_
        refine gf_7_39 rfl dX7_cell_34 kd_c_0 (lt_c 0 rfl) rf_c_0_6 ?_
        refine gf_7_240 rfl dX7_cell_37 kd_c_129 (lt_c 129 rfl) rf_c_129_1 ?_
        refine jv_iload_n dX7_cell_40 rfl ?_
        refine jm_iaload dX7_cell_41 kd_c_131 (lt_c 131 rfl) b2 ?_
        refine jv_icmp_lt (t := 48) dX7_cell_42 rfl (fun c5 => ?_) (fun c5 => ?_)
        · replace h := h.1 c5
          refine jv_aload_n dX7_cell_48 rfl ?_
          refine gf_7_39 rfl dX7_cell_49 kd_c_0 (lt_c 0 rfl) rf_c_0_6 ?_
          refine jv_iload_n dX7_cell_52 rfl ?_
          refine jv_iload_n dX7_cell_53 rfl ?_
          refine jv_iload_n dX7_cell_54 rfl ?_
          refine jm_callVu [.int a1, .int a2, .int a3] cw_7_262 dX7_cell_55 rfl (Nat.le_of_ble_eq_true rfl) kd_c_129 (r := (RX5, TX5, 3)) rfl rfl (lt_c 129 rfl) (Nat.le_of_ble_eq_true rfl) (JCu.mono h (fun u1 h => ?_))
          refine jv_iconst dX7_cell_58 ci_iconst_1 ?_
          exact jm_ireturn dX7_cell_59 rfl h
        · replace h := h.2 c5
          refine jv_bipush dX7_cell_45 ci_bipush_m12 ?_
          exact jm_ireturn dX7_cell_47 rfl h
    · replace h := h.2 c3
      refine jv_bipush dX7_cell_25 ci_bipush_m11 ?_
      exact jm_ireturn dX7_cell_27 rfl h
  · replace h := h.2 c1
    refine jv_bipush dX7_cell_11 ci_bipush_m2 ?_
    exact jm_ireturn dX7_cell_13 rfl h
theorem g_X7_copy_0 {E : JE} {u : JM} {K : Int32 → JM → Prop}  {a1 a2 a3 a4 a5 : Int32}
    (h : (((jb (rg a1 0 3)) = 0 → K (-2) u) ∧
 (¬ (jb (rg a1 0 3)) = 0 → ((¬ (jb (rg a3 0 3)) = 0 → vp_in a1 4 ∧
   ((¬ (jb (u 130 a1.toNatClampNeg = -1)) = 0 → K (-11) u) ∧
   ((jb (u 130 a1.toNatClampNeg = -1)) = 0 → vp_in a3 4 ∧
    (((jb (u 130 a3.toNatClampNeg = -1)) = 0 → (((u 130 a1.toNatClampNeg) = (u 130 a3.toNatClampNeg) → (((jb (¬ a2 < 0 ∧ ¬ a5 < 0 ∧ ¬ u 131 a1.toNatClampNeg < a5 ∧ ¬ (u 131 a1.toNatClampNeg - a5) < a2)) = 0 → K (-12) u) ∧
      (¬ (jb (¬ a2 < 0 ∧ ¬ a5 < 0 ∧ ¬ u 131 a1.toNatClampNeg < a5 ∧ ¬ (u 131 a1.toNatClampNeg - a5) < a2)) = 0 → ((¬ (jb (¬ a4 < 0 ∧ ¬ a5 < 0 ∧ ¬ u 131 a3.toNatClampNeg < a5 ∧ ¬ (u 131 a3.toNatClampNeg - a5) < a4)) = 0 → (¬ a2 < 0 ∧ ¬ a4 < 0 ∧ ¬ a5 < 0 ∧ a2.toNatClampNeg + a5.toNatClampNeg ≤ 40 ∧ a4.toNatClampNeg + a5.toNatClampNeg ≤ 40) ∧
        ∀ u1, u1 = jcp u (133 + a1.toNatClampNeg) a2.toNatClampNeg (133 + a3.toNatClampNeg) a4.toNatClampNeg a5.toNatClampNeg →
        K a5 u1) ∧
       ((jb (¬ a4 < 0 ∧ ¬ a5 < 0 ∧ ¬ u 131 a3.toNatClampNeg < a5 ∧ ¬ (u 131 a3.toNatClampNeg - a5) < a4)) = 0 → K (-12) u))))) ∧
     (¬ (u 130 a1.toNatClampNeg) = (u 130 a3.toNatClampNeg) → K (-13) u))) ∧
    (¬ (jb (u 130 a3.toNatClampNeg = -1)) = 0 → K (-11) u))))) ∧
  ((jb (rg a3 0 3)) = 0 → K (-2) u)))))
    : JVi E 2 YX7_copy K 0 [some (.ref 0), some (.int a1), some (.int a2), some (.int a3), some (.int a4), some (.int a5)] [] u := by
  refine jv_aload_n dX7_copy_0 rfl ?_
  refine gf_7_39 rfl dX7_copy_1 kd_c_0 (lt_c 0 rfl) rf_c_0_6 ?_
  refine jv_iload_n dX7_copy_4 rfl ?_
  refine jm_callVi [.int a1] cw_7_233 dX7_copy_5 rfl (Nat.le_of_ble_eq_true rfl) kd_c_129 (r := (RX5, TX5, 3)) rfl rfl (lt_c 129 rfl) (Nat.le_of_ble_eq_true rfl) (p_X5_has  ?_)
  refine jv_if_eq (t := 22) dX7_copy_8 rfl (fun c1 => ?_) (fun c1 => ?_)
  · replace h := h.1 c1
    refine jv_bipush dX7_copy_22 ci_bipush_m2 ?_
    exact jm_ireturn dX7_copy_24 rfl h
  · replace h := h.2 c1
    refine jv_aload_n dX7_copy_11 rfl ?_
    refine gf_7_39 rfl dX7_copy_12 kd_c_0 (lt_c 0 rfl) rf_c_0_6 ?_
    refine jv_iload_n dX7_copy_15 rfl ?_
    refine jm_callVi [.int a3] cw_7_233 dX7_copy_16 rfl (Nat.le_of_ble_eq_true rfl) kd_c_129 (r := (RX5, TX5, 3)) rfl rfl (lt_c 129 rfl) (Nat.le_of_ble_eq_true rfl) (p_X5_has  ?_)
    refine jv_if_ne (t := 25) dX7_copy_19 rfl (fun c2 => ?_) (fun c2 => ?_)
    · replace h := h.1 c2
      refine jv_aload_n dX7_copy_25 rfl ?_
      refine gf_7_39 rfl dX7_copy_26 kd_c_0 (lt_c 0 rfl) rf_c_0_6 ?_
      refine jv_iload_n dX7_copy_29 rfl ?_
      obtain ⟨b3, h⟩ := h
      refine jm_callVi [.int a1] cw_7_237 dX7_copy_30 rfl (Nat.le_of_ble_eq_true rfl) kd_c_129 (r := (RX5, TX5, 3)) rfl rfl (lt_c 129 rfl) (Nat.le_of_ble_eq_true rfl) (p_X5_isMissing b3 ?_)
      refine jv_if_ne (t := 47) dX7_copy_33 rfl (fun c4 => ?_) (fun c4 => ?_)
      · replace h := h.1 c4
        refine jv_bipush dX7_copy_47 ci_bipush_m11 ?_
        exact jm_ireturn dX7_copy_49 rfl h
      · replace h := h.2 c4
        refine jv_aload_n dX7_copy_36 rfl ?_
        refine gf_7_39 rfl dX7_copy_37 kd_c_0 (lt_c 0 rfl) rf_c_0_6 ?_
        refine jv_iload_n dX7_copy_40 rfl ?_
        obtain ⟨b5, h⟩ := h
        refine jm_callVi [.int a3] cw_7_237 dX7_copy_41 rfl (Nat.le_of_ble_eq_true rfl) kd_c_129 (r := (RX5, TX5, 3)) rfl rfl (lt_c 129 rfl) (Nat.le_of_ble_eq_true rfl) (p_X5_isMissing b5 ?_)
        refine jv_if_eq (t := 50) dX7_copy_44 rfl (fun c6 => ?_) (fun c6 => ?_)
        · replace h := h.1 c6
          refine jv_aload_n dX7_copy_50 rfl ?_
          refine gf_7_39 rfl dX7_copy_51 kd_c_0 (lt_c 0 rfl) rf_c_0_6 ?_
          refine gf_7_278 rfl dX7_copy_54 kd_c_129 (lt_c 129 rfl) rf_c_129_0 ?_
          refine jv_iload_n dX7_copy_57 rfl ?_
          refine jm_iaload dX7_copy_58 kd_c_130 (lt_c 130 rfl) b3 ?_
          refine jv_aload_n dX7_copy_59 rfl ?_
          refine gf_7_39 rfl dX7_copy_60 kd_c_0 (lt_c 0 rfl) rf_c_0_6 ?_
          refine gf_7_278 rfl dX7_copy_63 kd_c_129 (lt_c 129 rfl) rf_c_129_0 ?_
          refine jv_iload_n dX7_copy_66 rfl ?_
          refine jm_iaload dX7_copy_67 kd_c_130 (lt_c 130 rfl) b5 ?_
          refine jv_icmp_eq (t := 74) dX7_copy_68 rfl (fun c7 => ?_) (fun c7 => ?_)
          · replace h := h.1 c7
            refine jv_aload_n dX7_copy_74 rfl ?_
            refine gf_7_39 rfl dX7_copy_75 kd_c_0 (lt_c 0 rfl) rf_c_0_6 ?_
            refine jv_iload_n dX7_copy_78 rfl ?_
            refine jv_iload_n dX7_copy_79 rfl ?_
            refine jv_iload dX7_copy_80 rfl ?_
            refine jm_callVi [.int a1, .int a2, .int a5] cw_7_281 dX7_copy_82 rfl (Nat.le_of_ble_eq_true rfl) kd_c_129 (r := (RX5, TX5, 3)) rfl rfl (lt_c 129 rfl) (Nat.le_of_ble_eq_true rfl) (p_X5_holds b3 ?_)
            refine jv_if_eq (t := 103) dX7_copy_85 rfl (fun c8 => ?_) (fun c8 => ?_)
            · replace h := h.1 c8
              refine jv_bipush dX7_copy_103 ci_bipush_m12 ?_
              exact jm_ireturn dX7_copy_105 rfl h
            · replace h := h.2 c8
              refine jv_aload_n dX7_copy_88 rfl ?_
              refine gf_7_39 rfl dX7_copy_89 kd_c_0 (lt_c 0 rfl) rf_c_0_6 ?_
              refine jv_iload_n dX7_copy_92 rfl ?_
              refine jv_iload dX7_copy_93 rfl ?_
              refine jv_iload dX7_copy_95 rfl ?_
              refine jm_callVi [.int a3, .int a4, .int a5] cw_7_281 dX7_copy_97 rfl (Nat.le_of_ble_eq_true rfl) kd_c_129 (r := (RX5, TX5, 3)) rfl rfl (lt_c 129 rfl) (Nat.le_of_ble_eq_true rfl) (p_X5_holds b5 ?_)
              refine jv_if_ne (t := 106) dX7_copy_100 rfl (fun c9 => ?_) (fun c9 => ?_)
              · replace h := h.1 c9
                refine jv_aload_n dX7_copy_106 rfl ?_
                refine gf_7_39 rfl dX7_copy_107 kd_c_0 (lt_c 0 rfl) rf_c_0_6 ?_
                refine gf_7_285 rfl dX7_copy_110 kd_c_129 (lt_c 129 rfl) rf_c_129_2 ?_
                refine jv_iload_n dX7_copy_113 rfl ?_
                refine jm_aaload1 dX7_copy_114 kd_c_132 (lt_c 132 rfl) b3 (rf_r_132 _) ?_
                refine jv_iload_n dX7_copy_115 rfl ?_
                refine jv_aload_n dX7_copy_116 rfl ?_
                refine gf_7_39 rfl dX7_copy_117 kd_c_0 (lt_c 0 rfl) rf_c_0_6 ?_
                refine gf_7_285 rfl dX7_copy_120 kd_c_129 (lt_c 129 rfl) rf_c_129_2 ?_
                refine jv_iload_n dX7_copy_123 rfl ?_
                refine jm_aaload1 dX7_copy_124 kd_c_132 (lt_c 132 rfl) b5 (rf_r_132 _) ?_
                refine jv_iload dX7_copy_125 rfl ?_
                refine jv_iload dX7_copy_127 rfl ?_
                obtain ⟨b10, h⟩ := h
                refine jm_acopy ac_7_289 dX7_copy_129 (kd_r_132 (vp_lt b3)) (kd_r_132 (vp_lt b5)) (lt_r_132 (vp_lt b3)) (lt_r_132 (vp_lt b5)) rfl (Nat.le_of_ble_eq_true rfl) (Nat.le_of_ble_eq_true rfl) b10.1 b10.2.1 b10.2.2.1 b10.2.2.2.1 b10.2.2.2.2 ?_
                generalize hhu1 : jcp u (133 + a1.toNatClampNeg) a2.toNatClampNeg (133 + a3.toNatClampNeg) a4.toNatClampNeg a5.toNatClampNeg = u1
                replace h := h u1 hhu1.symm
                refine jv_iload dX7_copy_132 rfl ?_
                exact jm_ireturn dX7_copy_134 rfl h
              · replace h := h.2 c9
                refine jv_bipush dX7_copy_103 ci_bipush_m12 ?_
                exact jm_ireturn dX7_copy_105 rfl h
          · replace h := h.2 c7
            refine jv_bipush dX7_copy_71 ci_bipush_m13 ?_
            exact jm_ireturn dX7_copy_73 rfl h
        · replace h := h.2 c6
          refine jv_bipush dX7_copy_47 ci_bipush_m11 ?_
          exact jm_ireturn dX7_copy_49 rfl h
    · replace h := h.2 c2
      refine jv_bipush dX7_copy_22 ci_bipush_m2 ?_
      exact jm_ireturn dX7_copy_24 rfl h
theorem g_X7_breakInThought_0 {E : JE} {u : JM} {K : JM → Prop}  {a1 : Int32}
    (h : JCu E 2 YX2_takeOver [.ref 37, .ref 1] (fun u1 =>
 vp_in a1 12 ∧
  ∀ u2, u2 = jw u1 44 a1.toNatClampNeg 0 →
  K u2) u)
    : JVu E 3 YX7_breakInThought K 0 [some (.ref 0), some (.int a1)] [] u := by
  refine jv_aload_n dX7_breakInThought_0 rfl ?_
  refine gf_7_16 rfl dX7_breakInThought_1 kd_c_0 (lt_c 0 rfl) rf_c_0_1 ?_
  refine jv_aload_n dX7_breakInThought_4 rfl ?_
  refine gf_7_10 rfl dX7_breakInThought_5 kd_c_0 (lt_c 0 rfl) rf_c_0_0 ?_
  refine jm_callVu [.ref 1] cw_7_197 dX7_breakInThought_8 rfl (Nat.le_of_ble_eq_true rfl) (kd_N_0 isNet_37) (r := (RX2, TX2, 13)) rfl rfl (lt_N isNet_37 0 rfl) (Nat.le_of_ble_eq_true rfl) (JCu.mono h (fun u1 h => ?_))
  refine jv_aload_n dX7_breakInThought_11 rfl ?_
  refine gf_7_16 rfl dX7_breakInThought_12 kd_c_0 (lt_c 0 rfl) rf_c_0_1 ?_
  refine gf_7_53 rfl dX7_breakInThought_15 (kd_N_0 isNet_37) (lt_N isNet_37 0 rfl) (rf_N_0_0 isNet_37) ?_
  refine gf_7_70 rfl dX7_breakInThought_18 (kd_N_1 isNet_37) (lt_N isNet_37 1 rfl) (rf_N_1_6 isNet_37) ?_
  refine jv_iload_n dX7_breakInThought_21 rfl ?_
  refine jv_iconst dX7_breakInThought_22 ci_iconst_0 ?_
  obtain ⟨b1, h⟩ := h
  refine jm_bastore dX7_breakInThought_23 (kd_N_7 isNet_37) (lt_N isNet_37 7 rfl) b1 (Or.inl rfl) ?_
  generalize hhu2 : jw u1 44 a1.toNatClampNeg 0 = u2
  replace h := h u2 hhu2.symm
  exact jm_return dX7_breakInThought_24 rfl h
theorem g_X7_drawInThought_0 {E : JE} {u : JM} {K : JM → Prop}  {a1 : Int32}
    (h : JCu E 2 YX2_takeOver [.ref 37, .ref 1] (fun u1 =>
 JVu E 3 YX7_drawInThought K 15 [some (.ref 0), some (.int a1), some (.int a1), some (.int 0)] [] u1) u)
    : JVu E 3 YX7_drawInThought K 0 [some (.ref 0), some (.int a1), none, none] [] u := by
  refine jv_aload_n dX7_drawInThought_0 rfl ?_
  refine gf_7_16 rfl dX7_drawInThought_1 kd_c_0 (lt_c 0 rfl) rf_c_0_1 ?_
  refine jv_aload_n dX7_drawInThought_4 rfl ?_
  refine gf_7_10 rfl dX7_drawInThought_5 kd_c_0 (lt_c 0 rfl) rf_c_0_0 ?_
  refine jm_callVu [.ref 1] cw_7_197 dX7_drawInThought_8 rfl (Nat.le_of_ble_eq_true rfl) (kd_N_0 isNet_37) (r := (RX2, TX2, 13)) rfl rfl (lt_N isNet_37 0 rfl) (Nat.le_of_ble_eq_true rfl) (JCu.mono h (fun u1 h => ?_))
  refine jv_iload_n dX7_drawInThought_11 rfl ?_
  refine jv_istore_n (ls' := [some (.ref 0), some (.int a1), some (.int a1), none]) dX7_drawInThought_12 (Nat.le_of_ble_eq_true rfl) rfl ?_
  refine jv_iconst dX7_drawInThought_13 ci_iconst_0 ?_
  refine jv_istore_n (ls' := [some (.ref 0), some (.int a1), some (.int a1), some (.int 0)]) dX7_drawInThought_14 (Nat.le_of_ble_eq_true rfl) rfl ?_
  exact h
theorem g_X7_drawInThought_15 {E : JE} {u : JM} {K : JM → Prop}  {a1 i2 i3 : Int32}
    (h : (((u 38 0) ≤ i3 → K u) ∧
 (¬ (u 38 0) ≤ i3 → ∀ i2_1 : Int32, i2_1 = (i2 * 1103515245) + 12345 →
  ((¬ (((i2_1.toUInt32 >>> ((9 : Int32).toUInt32 &&& Int32.toUInt32 31)).toInt32) - ((i2_1.toUInt32 >>> ((9 : Int32).toUInt32 &&& Int32.toUInt32 31)).toInt32) / 4 * 4) = 0 → JVu E 3 YX7_drawInThought K 15 [some (.ref 0), some (.int a1), some (.int i2_1), some (.int (i3 + 1))] [] u) ∧
  ((((i2_1.toUInt32 >>> ((9 : Int32).toUInt32 &&& Int32.toUInt32 31)).toInt32) - ((i2_1.toUInt32 >>> ((9 : Int32).toUInt32 &&& Int32.toUInt32 31)).toInt32) / 4 * 4) = 0 → vp_in i3 12 ∧
   ∀ u2, u2 = jw u 44 i3.toNatClampNeg 0 →
   JVu E 3 YX7_drawInThought K 15 [some (.ref 0), some (.int a1), some (.int i2_1), some (.int (i3 + 1))] [] u2)))))
    : JVu E 3 YX7_drawInThought K 15 [some (.ref 0), some (.int a1), some (.int i2), some (.int i3)] [] u := by
  refine jv_iload_n dX7_drawInThought_15 rfl ?_
  refine jv_aload_n dX7_drawInThought_16 rfl ?_
  refine gf_7_16 rfl dX7_drawInThought_17 kd_c_0 (lt_c 0 rfl) rf_c_0_1 ?_
  refine gf_7_53 rfl dX7_drawInThought_20 (kd_N_0 isNet_37) (lt_N isNet_37 0 rfl) (rf_N_0_0 isNet_37) ?_
  refine gf_7_57 rfl dX7_drawInThought_23 (kd_N_1 isNet_37) (lt_N isNet_37 1 rfl) ?_
  refine jv_icmp_ge (t := 67) dX7_drawInThought_26 rfl (fun c1 => ?_) (fun c1 => ?_)
  · replace h := h.1 c1
    exact jm_return dX7_drawInThought_67 rfl h
  · replace h := h.2 c1
    refine jv_iload_n dX7_drawInThought_29 rfl ?_
    refine jv_ldcw cst_X7_295 dX7_drawInThought_30 ?_
    refine jv_imul dX7_drawInThought_33 ?_
    refine jv_sipush dX7_drawInThought_34 ci_sipush_12345 ?_
    refine jv_iadd dX7_drawInThought_37 ?_
    generalize hhi2_1 : (i2 * 1103515245) + 12345 = i2_1
    replace h := h i2_1 hhi2_1.symm
    refine jv_istore_n (ls' := [some (.ref 0), some (.int a1), some (.int i2_1), some (.int i3)]) dX7_drawInThought_38 (Nat.le_of_ble_eq_true rfl) rfl ?_
    refine jv_iload_n dX7_drawInThought_39 rfl ?_
    refine jv_bipush dX7_drawInThought_40 ci_bipush_9 ?_
    refine jv_iushr dX7_drawInThought_42 ?_
    refine jv_iconst dX7_drawInThought_43 ci_iconst_4 ?_
    refine jv_irem dX7_drawInThought_44 (by decide) ?_
    refine jv_if_ne (t := 61) dX7_drawInThought_45 rfl (fun c2 => ?_) (fun c2 => ?_)
    · replace h := h.1 c2
      refine jv_iinc (v := i3 + 1) (ls' := [some (.ref 0), some (.int a1), some (.int i2_1), some (.int (i3 + 1))]) dX7_drawInThought_61 (Nat.le_of_ble_eq_true rfl) rfl (by rw [ci_iconst_1]) rfl ?_
      refine jv_goto (t := 15) dX7_drawInThought_64 rfl ?_
      exact h
    · replace h := h.2 c2
      refine jv_aload_n dX7_drawInThought_48 rfl ?_
      refine gf_7_16 rfl dX7_drawInThought_49 kd_c_0 (lt_c 0 rfl) rf_c_0_1 ?_
      refine gf_7_53 rfl dX7_drawInThought_52 (kd_N_0 isNet_37) (lt_N isNet_37 0 rfl) (rf_N_0_0 isNet_37) ?_
      refine gf_7_70 rfl dX7_drawInThought_55 (kd_N_1 isNet_37) (lt_N isNet_37 1 rfl) (rf_N_1_6 isNet_37) ?_
      refine jv_iload_n dX7_drawInThought_58 rfl ?_
      refine jv_iconst dX7_drawInThought_59 ci_iconst_0 ?_
      obtain ⟨b3, h⟩ := h
      refine jm_bastore dX7_drawInThought_60 (kd_N_7 isNet_37) (lt_N isNet_37 7 rfl) b3 (Or.inl rfl) ?_
      generalize hhu2 : jw u 44 i3.toNatClampNeg 0 = u2
      replace h := h u2 hhu2.symm
      refine jv_iinc (v := i3 + 1) (ls' := [some (.ref 0), some (.int a1), some (.int i2_1), some (.int (i3 + 1))]) dX7_drawInThought_61 (Nat.le_of_ble_eq_true rfl) rfl (by rw [ci_iconst_1]) rfl ?_
      refine jv_goto (t := 15) dX7_drawInThought_64 rfl ?_
      exact h
theorem g_X7_costInThought_0 {E : JE} {u : JM} {K : JM → Prop}  {a1 a2 : Int32}
    (h : JCu E 2 YX2_takeOver [.ref 37, .ref 1] (fun u1 =>
 vp_in a1 12 ∧
  ∀ u2, u2 = jw u1 42 a1.toNatClampNeg a2 →
  K u2) u)
    : JVu E 3 YX7_costInThought K 0 [some (.ref 0), some (.int a1), some (.int a2)] [] u := by
  refine jv_aload_n dX7_costInThought_0 rfl ?_
  refine gf_7_16 rfl dX7_costInThought_1 kd_c_0 (lt_c 0 rfl) rf_c_0_1 ?_
  refine jv_aload_n dX7_costInThought_4 rfl ?_
  refine gf_7_10 rfl dX7_costInThought_5 kd_c_0 (lt_c 0 rfl) rf_c_0_0 ?_
  refine jm_callVu [.ref 1] cw_7_197 dX7_costInThought_8 rfl (Nat.le_of_ble_eq_true rfl) (kd_N_0 isNet_37) (r := (RX2, TX2, 13)) rfl rfl (lt_N isNet_37 0 rfl) (Nat.le_of_ble_eq_true rfl) (JCu.mono h (fun u1 h => ?_))
  refine jv_aload_n dX7_costInThought_11 rfl ?_
  refine gf_7_16 rfl dX7_costInThought_12 kd_c_0 (lt_c 0 rfl) rf_c_0_1 ?_
  refine gf_7_53 rfl dX7_costInThought_15 (kd_N_0 isNet_37) (lt_N isNet_37 0 rfl) (rf_N_0_0 isNet_37) ?_
  refine gf_7_74 rfl dX7_costInThought_18 (kd_N_1 isNet_37) (lt_N isNet_37 1 rfl) (rf_N_1_4 isNet_37) ?_
  refine jv_iload_n dX7_costInThought_21 rfl ?_
  refine jv_iload_n dX7_costInThought_22 rfl ?_
  obtain ⟨b1, h⟩ := h
  refine jm_iastore dX7_costInThought_23 (kd_N_5 isNet_37) (lt_N isNet_37 5 rfl) b1 ?_
  generalize hhu2 : jw u1 42 a1.toNatClampNeg a2 = u2
  replace h := h u2 hhu2.symm
  exact jm_return dX7_costInThought_24 rfl h
theorem g_X7_reached_0 {E : JE} {u : JM} {K : Int32 → JM → Prop}  {a1 : Int32}
    (h : JCu E 4 YX4_find [.ref 109, .ref 37, .int a1] (fun u1 =>
 JVi E 5 YX7_reached K 16 [some (.ref 0), some (.int a1), some (.int 0), some (.int 0)] [] u1) u)
    : JVi E 5 YX7_reached K 0 [some (.ref 0), some (.int a1), none, none] [] u := by
  refine jv_aload_n dX7_reached_0 rfl ?_
  refine gf_7_25 rfl dX7_reached_1 kd_c_0 (lt_c 0 rfl) rf_c_0_4 ?_
  refine jv_aload_n dX7_reached_4 rfl ?_
  refine gf_7_16 rfl dX7_reached_5 kd_c_0 (lt_c 0 rfl) rf_c_0_1 ?_
  refine jv_iload_n dX7_reached_8 rfl ?_
  refine jm_callVu [.ref 37, .int a1] cw_7_167 dX7_reached_9 rfl (Nat.le_of_ble_eq_true rfl) kd_c_109 (r := (RX4, TX4, 5)) rfl rfl (lt_c 109 rfl) (Nat.le_of_ble_eq_true rfl) (JCu.mono h (fun u1 h => ?_))
  refine jv_iconst dX7_reached_12 ci_iconst_0 ?_
  refine jv_istore_n (ls' := [some (.ref 0), some (.int a1), some (.int 0), none]) dX7_reached_13 (Nat.le_of_ble_eq_true rfl) rfl ?_
  refine jv_iconst dX7_reached_14 ci_iconst_0 ?_
  refine jv_istore_n (ls' := [some (.ref 0), some (.int a1), some (.int 0), some (.int 0)]) dX7_reached_15 (Nat.le_of_ble_eq_true rfl) rfl ?_
  exact h
theorem g_X7_reached_16 {E : JE} {u : JM} {K : Int32 → JM → Prop}  {a1 i2 i3 : Int32}
    (h : ((8 ≤ i3 → K i2 u) ∧
 (¬ 8 ≤ i3 → vp_in i3 8 ∧
  ∀ i2_1 : Int32, i2_1 = (if (u 110 i3.toNatClampNeg) = (-1) then i2 else (i2 ||| ((1 : Int32) <<< (i3 &&& 31)))) →
  JVi E 5 YX7_reached K 16 [some (.ref 0), some (.int a1), some (.int i2_1), some (.int (i3 + 1))] [] u)))
    : JVi E 5 YX7_reached K 16 [some (.ref 0), some (.int a1), some (.int i2), some (.int i3)] [] u := by
  refine jv_iload_n dX7_reached_16 rfl ?_
  refine jv_bipush dX7_reached_17 ci_bipush_8 ?_
  refine jv_icmp_ge (t := 47) dX7_reached_19 rfl (fun c1 => ?_) (fun c1 => ?_)
  · replace h := h.1 c1
    refine jv_iload_n dX7_reached_47 rfl ?_
    exact jm_ireturn dX7_reached_48 rfl h
  · replace h := h.2 c1
    refine jv_aload_n dX7_reached_22 rfl ?_
    refine gf_7_25 rfl dX7_reached_23 kd_c_0 (lt_c 0 rfl) rf_c_0_4 ?_
    refine gf_7_171 rfl dX7_reached_26 kd_c_109 (lt_c 109 rfl) rf_c_109_0 ?_
    refine jv_iload_n dX7_reached_29 rfl ?_
    obtain ⟨b3, h⟩ := h
    refine jm_iaload dX7_reached_30 kd_c_110 (lt_c 110 rfl) b3 ?_
    refine jv_iconst dX7_reached_31 ci_iconst_m1 ?_
    have key5 : ∀ i2_1 : Int32, i2_1 = (if (u 110 i3.toNatClampNeg) = (-1) then i2 else (i2 ||| ((1 : Int32) <<< (i3 &&& 31)))) → JVi E 5 YX7_reached K 41 [some (.ref 0), some (.int a1), some (.int i2_1), some (.int i3)] [] u := by
      intro i2_1 hi2_1
      replace h := h i2_1 hi2_1
      refine jv_iinc (v := i3 + 1) (ls' := [some (.ref 0), some (.int a1), some (.int i2_1), some (.int (i3 + 1))]) dX7_reached_41 (Nat.le_of_ble_eq_true rfl) rfl (by rw [ci_iconst_1]) rfl ?_
      refine jv_goto (t := 16) dX7_reached_44 rfl ?_
      exact h
    clear h
    refine jv_icmp_eq (t := 41) dX7_reached_32 rfl (fun c6 => ?_) (fun c6 => ?_)
    · exact key5 _ (Eq.trans rfl (if_pos c6).symm)
    · refine jv_iload_n dX7_reached_35 rfl ?_
      refine jv_iconst dX7_reached_36 ci_iconst_1 ?_
      refine jv_iload_n dX7_reached_37 rfl ?_
      refine jv_ishl dX7_reached_38 ?_
      refine jv_ior dX7_reached_39 ?_
      refine jv_istore_n (ls' := [some (.ref 0), some (.int a1), some (.int (i2 ||| ((1 : Int32) <<< (i3 &&& 31)))), some (.int i3)]) dX7_reached_40 (Nat.le_of_ble_eq_true rfl) rfl ?_
      exact key5 _ (Eq.trans rfl (if_neg c6).symm)
theorem g_X7_firstOtherwise_0 {E : JE} {u : JM} {K : Int32 → JM → Prop} {N : Nat} (hN : isNet N) {sheet router : Int32}
    (h : JCu E 4 YX4_find [.ref 109, .ref N, .int router] (fun u1 =>
 vp_in sheet 4 ∧
  ∀ i5_2 : Int32, i5_2 = (if (u1 131 sheet.toNatClampNeg) ≤ 8 then (u1 131 sheet.toNatClampNeg) else 8) →
  JVi E 5 YX7_firstOtherwise K 39 [some (.ref 0), some (.ref N), some (.int sheet), some (.int router), some (.ref (133 + sheet.toNatClampNeg)), some (.int i5_2), some (.int 0)] [] u1) u)
    : JVi E 5 YX7_firstOtherwise K 0 [some (.ref 0), some (.ref N), some (.int sheet), some (.int router), none, none, none] [] u := by
  refine jv_aload_n dX7_firstOtherwise_0 rfl ?_
  refine gf_7_25 rfl dX7_firstOtherwise_1 kd_c_0 (lt_c 0 rfl) rf_c_0_4 ?_
  refine jv_aload_n dX7_firstOtherwise_4 rfl ?_
  refine jv_iload_n dX7_firstOtherwise_5 rfl ?_
  refine jm_callVu [.ref N, .int router] cw_7_167 dX7_firstOtherwise_6 rfl (Nat.le_of_ble_eq_true rfl) kd_c_109 (r := (RX4, TX4, 5)) rfl rfl (lt_c 109 rfl) (Nat.le_of_ble_eq_true rfl) (JCu.mono h (fun u1 h => ?_))
  refine jv_aload_n dX7_firstOtherwise_9 rfl ?_
  refine gf_7_39 rfl dX7_firstOtherwise_10 kd_c_0 (lt_c 0 rfl) rf_c_0_6 ?_
  refine gf_7_285 rfl dX7_firstOtherwise_13 kd_c_129 (lt_c 129 rfl) rf_c_129_2 ?_
  refine jv_iload_n dX7_firstOtherwise_16 rfl ?_
  obtain ⟨b1, h⟩ := h
  refine jm_aaload1 dX7_firstOtherwise_17 kd_c_132 (lt_c 132 rfl) b1 (rf_r_132 _) ?_
  refine jv_astore (ls' := [some (.ref 0), some (.ref N), some (.int sheet), some (.int router), some (.ref (133 + sheet.toNatClampNeg)), none, none]) dX7_firstOtherwise_18 (Nat.le_of_ble_eq_true rfl) rfl ?_
  refine jv_aload_n dX7_firstOtherwise_20 rfl ?_
  refine gf_7_39 rfl dX7_firstOtherwise_21 kd_c_0 (lt_c 0 rfl) rf_c_0_6 ?_
  refine gf_7_240 rfl dX7_firstOtherwise_24 kd_c_129 (lt_c 129 rfl) rf_c_129_1 ?_
  refine jv_iload_n dX7_firstOtherwise_27 rfl ?_
  refine jm_iaload dX7_firstOtherwise_28 kd_c_131 (lt_c 131 rfl) b1 ?_
  refine jv_bipush dX7_firstOtherwise_29 ci_bipush_8 ?_
  refine jm_callSi [.int (u1 131 sheet.toNatClampNeg), .int 8] cw_7_296 dX7_firstOtherwise_31 rfl (Nat.le_of_ble_eq_true rfl) (Nat.le_of_ble_eq_true rfl) (p_J9_min_7cf53  ?_)
  generalize hhi5_2 : (if (u1 131 sheet.toNatClampNeg) ≤ 8 then (u1 131 sheet.toNatClampNeg) else 8) = i5_2
  replace h := h i5_2 hhi5_2.symm
  refine jv_istore (ls' := [some (.ref 0), some (.ref N), some (.int sheet), some (.int router), some (.ref (133 + sheet.toNatClampNeg)), some (.int i5_2), none]) dX7_firstOtherwise_34 (Nat.le_of_ble_eq_true rfl) rfl ?_
  refine jv_iconst dX7_firstOtherwise_36 ci_iconst_0 ?_
  refine jv_istore (ls' := [some (.ref 0), some (.ref N), some (.int sheet), some (.int router), some (.ref (133 + sheet.toNatClampNeg)), some (.int i5_2), some (.int 0)]) dX7_firstOtherwise_37 (Nat.le_of_ble_eq_true rfl) rfl ?_
  exact h
theorem g_X7_firstOtherwise_39 {E : JE} {u : JM} {K : Int32 → JM → Prop} {N : Nat} (hN : isNet N) {sheet router i5 i6 : Int32} (hq : sheet.toNatClampNeg < 4)
    (h : ((i5 ≤ i6 → K (-1) u) ∧
 (¬ i5 ≤ i6 → vp_in i6 40 ∧
  vp_in i6 8 ∧
  (((u (133 + sheet.toNatClampNeg) i6.toNatClampNeg) = (u 110 i6.toNatClampNeg) → JVi E 5 YX7_firstOtherwise K 39 [some (.ref 0), some (.ref N), some (.int sheet), some (.int router), some (.ref (133 + sheet.toNatClampNeg)), some (.int i5), some (.int (i6 + 1))] [] u) ∧
  (¬ (u (133 + sheet.toNatClampNeg) i6.toNatClampNeg) = (u 110 i6.toNatClampNeg) → K i6 u)))))
    : JVi E 5 YX7_firstOtherwise K 39 [some (.ref 0), some (.ref N), some (.int sheet), some (.int router), some (.ref (133 + sheet.toNatClampNeg)), some (.int i5), some (.int i6)] [] u := by
  refine jv_iload dX7_firstOtherwise_39 rfl ?_
  refine jv_iload dX7_firstOtherwise_41 rfl ?_
  refine jv_icmp_ge (t := 73) dX7_firstOtherwise_43 rfl (fun c1 => ?_) (fun c1 => ?_)
  · replace h := h.1 c1
    refine jv_iconst dX7_firstOtherwise_73 ci_iconst_m1 ?_
    exact jm_ireturn dX7_firstOtherwise_74 rfl h
  · replace h := h.2 c1
    refine jv_aload dX7_firstOtherwise_46 rfl ?_
    refine jv_iload dX7_firstOtherwise_48 rfl ?_
    obtain ⟨b2, h⟩ := h
    refine jm_iaload dX7_firstOtherwise_50 (kd_r_132 hq) (lt_r_132 hq) b2 ?_
    refine jv_aload_n dX7_firstOtherwise_51 rfl ?_
    refine gf_7_25 rfl dX7_firstOtherwise_52 kd_c_0 (lt_c 0 rfl) rf_c_0_4 ?_
    refine gf_7_171 rfl dX7_firstOtherwise_55 kd_c_109 (lt_c 109 rfl) rf_c_109_0 ?_
    refine jv_iload dX7_firstOtherwise_58 rfl ?_
    obtain ⟨b3, h⟩ := h
    refine jm_iaload dX7_firstOtherwise_60 kd_c_110 (lt_c 110 rfl) b3 ?_
    refine jv_icmp_eq (t := 67) dX7_firstOtherwise_61 rfl (fun c4 => ?_) (fun c4 => ?_)
    · replace h := h.1 c4
      refine jv_iinc (v := i6 + 1) (ls' := [some (.ref 0), some (.ref N), some (.int sheet), some (.int router), some (.ref (133 + sheet.toNatClampNeg)), some (.int i5), some (.int (i6 + 1))]) dX7_firstOtherwise_67 (Nat.le_of_ble_eq_true rfl) rfl (by rw [ci_iconst_1]) rfl ?_
      refine jv_goto (t := 39) dX7_firstOtherwise_70 rfl ?_
      exact h
    · replace h := h.2 c4
      refine jv_iload dX7_firstOtherwise_64 rfl ?_
      exact jm_ireturn dX7_firstOtherwise_66 rfl h
theorem g_X7_routersToldSo_0 {E : JE} {u : JM} {K : Int32 → JM → Prop}  {a1 : Int32}
    (h : JVi E 6 YX7_routersToldSo K 4 [some (.ref 0), some (.int a1), some (.int 0), some (.int 0)] [] u)
    : JVi E 6 YX7_routersToldSo K 0 [some (.ref 0), some (.int a1), none, none] [] u := by
  refine jv_iconst dX7_routersToldSo_0 ci_iconst_0 ?_
  refine jv_istore_n (ls' := [some (.ref 0), some (.int a1), some (.int 0), none]) dX7_routersToldSo_1 (Nat.le_of_ble_eq_true rfl) rfl ?_
  refine jv_iconst dX7_routersToldSo_2 ci_iconst_0 ?_
  refine jv_istore_n (ls' := [some (.ref 0), some (.int a1), some (.int 0), some (.int 0)]) dX7_routersToldSo_3 (Nat.le_of_ble_eq_true rfl) rfl ?_
  exact h
theorem g_X7_routersToldSo_4 {E : JE} {u : JM} {K : Int32 → JM → Prop}  {a1 i2 i3 : Int32}
    (h : ((8 ≤ i3 → K i2 u) ∧
 (¬ 8 ≤ i3 → JCi E 5 YX7_firstOtherwise [.ref 0, .ref 1, .int a1, .int i3] (fun x1 u1 =>
  ∀ i2_2 : Int32, i2_2 = (if x1 = (-1) then (i2 ||| ((1 : Int32) <<< (i3 &&& 31))) else i2) →
   JVi E 6 YX7_routersToldSo K 4 [some (.ref 0), some (.int a1), some (.int i2_2), some (.int (i3 + 1))] [] u1) u)))
    : JVi E 6 YX7_routersToldSo K 4 [some (.ref 0), some (.int a1), some (.int i2), some (.int i3)] [] u := by
  refine jv_iload_n dX7_routersToldSo_4 rfl ?_
  refine jv_bipush dX7_routersToldSo_5 ci_bipush_8 ?_
  refine jv_icmp_ge (t := 36) dX7_routersToldSo_7 rfl (fun c1 => ?_) (fun c1 => ?_)
  · replace h := h.1 c1
    refine jv_iload_n dX7_routersToldSo_36 rfl ?_
    exact jm_ireturn dX7_routersToldSo_37 rfl h
  · replace h := h.2 c1
    refine jv_aload_n dX7_routersToldSo_10 rfl ?_
    refine jv_aload_n dX7_routersToldSo_11 rfl ?_
    refine gf_7_10 rfl dX7_routersToldSo_12 kd_c_0 (lt_c 0 rfl) rf_c_0_0 ?_
    refine jv_iload_n dX7_routersToldSo_15 rfl ?_
    refine jv_iload_n dX7_routersToldSo_16 rfl ?_
    refine jm_callVi [.ref 1, .int a1, .int i3] cw_7_242 dX7_routersToldSo_17 rfl (Nat.le_of_ble_eq_true rfl) kd_c_0 (r := (RX7, TX7, 7)) rfl rfl (lt_c 0 rfl) (Nat.le_of_ble_eq_true rfl) (JCi.mono h (fun x1 u1 h => ?_))
    refine jv_iconst dX7_routersToldSo_20 ci_iconst_m1 ?_
    have key3 : ∀ i2_2 : Int32, i2_2 = (if x1 = (-1) then (i2 ||| ((1 : Int32) <<< (i3 &&& 31))) else i2) → JVi E 6 YX7_routersToldSo K 30 [some (.ref 0), some (.int a1), some (.int i2_2), some (.int i3)] [] u1 := by
      intro i2_2 hi2_2
      replace h := h i2_2 hi2_2
      refine jv_iinc (v := i3 + 1) (ls' := [some (.ref 0), some (.int a1), some (.int i2_2), some (.int (i3 + 1))]) dX7_routersToldSo_30 (Nat.le_of_ble_eq_true rfl) rfl (by rw [ci_iconst_1]) rfl ?_
      refine jv_goto (t := 4) dX7_routersToldSo_33 rfl ?_
      exact h
    clear h
    refine jv_icmp_ne (t := 30) dX7_routersToldSo_21 rfl (fun c4 => ?_) (fun c4 => ?_)
    · exact key3 _ (Eq.trans rfl (if_neg c4).symm)
    · refine jv_iload_n dX7_routersToldSo_24 rfl ?_
      refine jv_iconst dX7_routersToldSo_25 ci_iconst_1 ?_
      refine jv_iload_n dX7_routersToldSo_26 rfl ?_
      refine jv_ishl dX7_routersToldSo_27 ?_
      refine jv_ior dX7_routersToldSo_28 ?_
      refine jv_istore_n (ls' := [some (.ref 0), some (.int a1), some (.int (i2 ||| ((1 : Int32) <<< (i3 &&& 31)))), some (.int i3)]) dX7_routersToldSo_29 (Nat.le_of_ble_eq_true rfl) rfl ?_
      exact key3 _ (Eq.trans rfl (if_pos c4).symm)
theorem g_X7_linksToldSo_0 {E : JE} {u : JM} {K : Int32 → JM → Prop}  {a1 a2 : Int32}
    (h : JVi E 7 YX7_linksToldSo K 5 [some (.ref 0), some (.int a1), some (.int a2), some (.int 0), some (.int 0)] [] u)
    : JVi E 7 YX7_linksToldSo K 0 [some (.ref 0), some (.int a1), some (.int a2), none, none] [] u := by
  refine jv_iconst dX7_linksToldSo_0 ci_iconst_0 ?_
  refine jv_istore_n (ls' := [some (.ref 0), some (.int a1), some (.int a2), some (.int 0), none]) dX7_linksToldSo_1 (Nat.le_of_ble_eq_true rfl) rfl ?_
  refine jv_iconst dX7_linksToldSo_2 ci_iconst_0 ?_
  refine jv_istore (ls' := [some (.ref 0), some (.int a1), some (.int a2), some (.int 0), some (.int 0)]) dX7_linksToldSo_3 (Nat.le_of_ble_eq_true rfl) rfl ?_
  exact h
theorem g_X7_linksToldSo_5 {E : JE} {u : JM} {K : Int32 → JM → Prop}  {a1 a2 i3 i4 : Int32}
    (h : (((u 2 0) ≤ i4 → K i3 u) ∧
 (¬ (u 2 0) ≤ i4 → vp_in i4 12 ∧
  (((u 8 i4.toNatClampNeg) = 0 → JVi E 7 YX7_linksToldSo K 5 [some (.ref 0), some (.int a1), some (.int a2), some (.int i3), some (.int (i4 + 1))] [] u) ∧
  (¬ (u 8 i4.toNatClampNeg) = 0 → JCu E 3 YX7_breakInThought [.ref 0, .int i4] (fun u1 =>
   JCi E 6 YX2_advance [.ref 37, .int 40] (fun x2 u2 =>
    JCi E 5 YX7_firstOtherwise [.ref 0, .ref 37, .int a1, .int a2] (fun x3 u3 =>
     ∀ i3_4 : Int32, i3_4 = (if x3 = (-1) then (i3 ||| ((1 : Int32) <<< (i4 &&& 31))) else i3) →
      JVi E 7 YX7_linksToldSo K 5 [some (.ref 0), some (.int a1), some (.int a2), some (.int i3_4), some (.int (i4 + 1))] [] u3) u2) u1) u)))))
    : JVi E 7 YX7_linksToldSo K 5 [some (.ref 0), some (.int a1), some (.int a2), some (.int i3), some (.int i4)] [] u := by
  refine jv_iload dX7_linksToldSo_5 rfl ?_
  refine jv_aload_n dX7_linksToldSo_7 rfl ?_
  refine gf_7_10 rfl dX7_linksToldSo_8 kd_c_0 (lt_c 0 rfl) rf_c_0_0 ?_
  refine gf_7_53 rfl dX7_linksToldSo_11 (kd_N_0 isNet_1) (lt_N isNet_1 0 rfl) (rf_N_0_0 isNet_1) ?_
  refine gf_7_57 rfl dX7_linksToldSo_14 (kd_N_1 isNet_1) (lt_N isNet_1 1 rfl) ?_
  refine jv_icmp_ge (t := 79) dX7_linksToldSo_17 rfl (fun c1 => ?_) (fun c1 => ?_)
  · replace h := h.1 c1
    refine jv_iload_n dX7_linksToldSo_79 rfl ?_
    exact jm_ireturn dX7_linksToldSo_80 rfl h
  · replace h := h.2 c1
    refine jv_aload_n dX7_linksToldSo_20 rfl ?_
    refine gf_7_10 rfl dX7_linksToldSo_21 kd_c_0 (lt_c 0 rfl) rf_c_0_0 ?_
    refine gf_7_53 rfl dX7_linksToldSo_24 (kd_N_0 isNet_1) (lt_N isNet_1 0 rfl) (rf_N_0_0 isNet_1) ?_
    refine gf_7_70 rfl dX7_linksToldSo_27 (kd_N_1 isNet_1) (lt_N isNet_1 1 rfl) (rf_N_1_6 isNet_1) ?_
    refine jv_iload dX7_linksToldSo_30 rfl ?_
    obtain ⟨b3, h⟩ := h
    refine jm_baload dX7_linksToldSo_32 (kd_N_7 isNet_1) (lt_N isNet_1 7 rfl) b3 ?_
    refine jv_if_eq (t := 73) dX7_linksToldSo_33 rfl (fun c4 => ?_) (fun c4 => ?_)
    · replace h := h.1 c4
      refine jv_iinc (v := i4 + 1) (ls' := [some (.ref 0), some (.int a1), some (.int a2), some (.int i3), some (.int (i4 + 1))]) dX7_linksToldSo_73 (Nat.le_of_ble_eq_true rfl) rfl (by rw [ci_iconst_1]) rfl ?_
      refine jv_goto (t := 5) dX7_linksToldSo_76 rfl ?_
      exact h
    · replace h := h.2 c4
      refine jv_aload_n dX7_linksToldSo_36 rfl ?_
      refine jv_iload dX7_linksToldSo_37 rfl ?_
      refine jm_callVu [.int i4] cw_7_211 dX7_linksToldSo_39 rfl (Nat.le_of_ble_eq_true rfl) kd_c_0 (r := (RX7, TX7, 7)) rfl rfl (lt_c 0 rfl) (Nat.le_of_ble_eq_true rfl) (JCu.mono h (fun u1 h => ?_))
      refine jv_aload_n dX7_linksToldSo_42 rfl ?_
      refine gf_7_16 rfl dX7_linksToldSo_43 kd_c_0 (lt_c 0 rfl) rf_c_0_1 ?_
      refine jv_bipush dX7_linksToldSo_46 ci_bipush_40 ?_
      refine jm_callVi [.int 40] cw_7_106 dX7_linksToldSo_48 rfl (Nat.le_of_ble_eq_true rfl) (kd_N_0 isNet_37) (r := (RX2, TX2, 13)) rfl rfl (lt_N isNet_37 0 rfl) (Nat.le_of_ble_eq_true rfl) (JCi.mono h (fun x2 u2 h => ?_))
      refine jv_pop dX7_linksToldSo_51 rfl ?_
      refine jv_aload_n dX7_linksToldSo_52 rfl ?_
      refine jv_aload_n dX7_linksToldSo_53 rfl ?_
      refine gf_7_16 rfl dX7_linksToldSo_54 kd_c_0 (lt_c 0 rfl) rf_c_0_1 ?_
      refine jv_iload_n dX7_linksToldSo_57 rfl ?_
      refine jv_iload_n dX7_linksToldSo_58 rfl ?_
      refine jm_callVi [.ref 37, .int a1, .int a2] cw_7_242 dX7_linksToldSo_59 rfl (Nat.le_of_ble_eq_true rfl) kd_c_0 (r := (RX7, TX7, 7)) rfl rfl (lt_c 0 rfl) (Nat.le_of_ble_eq_true rfl) (JCi.mono h (fun x3 u3 h => ?_))
      refine jv_iconst dX7_linksToldSo_62 ci_iconst_m1 ?_
      have key6 : ∀ i3_4 : Int32, i3_4 = (if x3 = (-1) then (i3 ||| ((1 : Int32) <<< (i4 &&& 31))) else i3) → JVi E 7 YX7_linksToldSo K 73 [some (.ref 0), some (.int a1), some (.int a2), some (.int i3_4), some (.int i4)] [] u3 := by
        intro i3_4 hi3_4
        replace h := h i3_4 hi3_4
        refine jv_iinc (v := i4 + 1) (ls' := [some (.ref 0), some (.int a1), some (.int a2), some (.int i3_4), some (.int (i4 + 1))]) dX7_linksToldSo_73 (Nat.le_of_ble_eq_true rfl) rfl (by rw [ci_iconst_1]) rfl ?_
        refine jv_goto (t := 5) dX7_linksToldSo_76 rfl ?_
        exact h
      clear h
      refine jv_icmp_ne (t := 73) dX7_linksToldSo_63 rfl (fun c7 => ?_) (fun c7 => ?_)
      · exact key6 _ (Eq.trans rfl (if_neg c7).symm)
      · refine jv_iload_n dX7_linksToldSo_66 rfl ?_
        refine jv_iconst dX7_linksToldSo_67 ci_iconst_1 ?_
        refine jv_iload dX7_linksToldSo_68 rfl ?_
        refine jv_ishl dX7_linksToldSo_70 ?_
        refine jv_ior dX7_linksToldSo_71 ?_
        refine jv_istore_n (ls' := [some (.ref 0), some (.int a1), some (.int a2), some (.int (i3 ||| ((1 : Int32) <<< (i4 &&& 31)))), some (.int i4)]) dX7_linksToldSo_72 (Nat.le_of_ble_eq_true rfl) rfl ?_
        exact key6 _ (Eq.trans rfl (if_pos c7).symm)
theorem g_X7_costsToldSo_0 {E : JE} {u : JM} {K : Int32 → JM → Prop}  {a1 a2 a3 : Int32}
    (h : JVi E 7 YX7_costsToldSo K 6 [some (.ref 0), some (.int a1), some (.int a2), some (.int a3), some (.int 0), some (.int 1)] [] u)
    : JVi E 7 YX7_costsToldSo K 0 [some (.ref 0), some (.int a1), some (.int a2), some (.int a3), none, none] [] u := by
  refine jv_iconst dX7_costsToldSo_0 ci_iconst_0 ?_
  refine jv_istore (ls' := [some (.ref 0), some (.int a1), some (.int a2), some (.int a3), some (.int 0), none]) dX7_costsToldSo_1 (Nat.le_of_ble_eq_true rfl) rfl ?_
  refine jv_iconst dX7_costsToldSo_3 ci_iconst_1 ?_
  refine jv_istore (ls' := [some (.ref 0), some (.int a1), some (.int a2), some (.int a3), some (.int 0), some (.int 1)]) dX7_costsToldSo_4 (Nat.le_of_ble_eq_true rfl) rfl ?_
  exact h
theorem g_X7_costsToldSo_6 {E : JE} {u : JM} {K : Int32 → JM → Prop}  {a1 a2 a3 i4 i5 : Int32}
    (h : ((12 < i5 → K i4 u) ∧
 (¬ 12 < i5 → JCu E 3 YX7_costInThought [.ref 0, .int a3, .int i5] (fun u1 =>
  JCi E 6 YX2_advance [.ref 37, .int 40] (fun x2 u2 =>
   JCi E 5 YX7_firstOtherwise [.ref 0, .ref 37, .int a1, .int a2] (fun x3 u3 =>
    ∀ i4_4 : Int32, i4_4 = (if x3 = (-1) then (i4 ||| ((1 : Int32) <<< (i5 &&& 31))) else i4) →
     JVi E 7 YX7_costsToldSo K 6 [some (.ref 0), some (.int a1), some (.int a2), some (.int a3), some (.int i4_4), some (.int (i5 + 1))] [] u3) u2) u1) u)))
    : JVi E 7 YX7_costsToldSo K 6 [some (.ref 0), some (.int a1), some (.int a2), some (.int a3), some (.int i4), some (.int i5)] [] u := by
  refine jv_iload dX7_costsToldSo_6 rfl ?_
  refine jv_bipush dX7_costsToldSo_8 ci_bipush_12 ?_
  refine jv_icmp_gt (t := 59) dX7_costsToldSo_10 rfl (fun c1 => ?_) (fun c1 => ?_)
  · replace h := h.1 c1
    refine jv_iload dX7_costsToldSo_59 rfl ?_
    exact jm_ireturn dX7_costsToldSo_61 rfl h
  · replace h := h.2 c1
    refine jv_aload_n dX7_costsToldSo_13 rfl ?_
    refine jv_iload_n dX7_costsToldSo_14 rfl ?_
    refine jv_iload dX7_costsToldSo_15 rfl ?_
    refine jm_callVu [.int a3, .int i5] cw_7_301 dX7_costsToldSo_17 rfl (Nat.le_of_ble_eq_true rfl) kd_c_0 (r := (RX7, TX7, 7)) rfl rfl (lt_c 0 rfl) (Nat.le_of_ble_eq_true rfl) (JCu.mono h (fun u1 h => ?_))
    refine jv_aload_n dX7_costsToldSo_20 rfl ?_
    refine gf_7_16 rfl dX7_costsToldSo_21 kd_c_0 (lt_c 0 rfl) rf_c_0_1 ?_
    refine jv_bipush dX7_costsToldSo_24 ci_bipush_40 ?_
    refine jm_callVi [.int 40] cw_7_106 dX7_costsToldSo_26 rfl (Nat.le_of_ble_eq_true rfl) (kd_N_0 isNet_37) (r := (RX2, TX2, 13)) rfl rfl (lt_N isNet_37 0 rfl) (Nat.le_of_ble_eq_true rfl) (JCi.mono h (fun x2 u2 h => ?_))
    refine jv_pop dX7_costsToldSo_29 rfl ?_
    refine jv_aload_n dX7_costsToldSo_30 rfl ?_
    refine jv_aload_n dX7_costsToldSo_31 rfl ?_
    refine gf_7_16 rfl dX7_costsToldSo_32 kd_c_0 (lt_c 0 rfl) rf_c_0_1 ?_
    refine jv_iload_n dX7_costsToldSo_35 rfl ?_
    refine jv_iload_n dX7_costsToldSo_36 rfl ?_
    refine jm_callVi [.ref 37, .int a1, .int a2] cw_7_242 dX7_costsToldSo_37 rfl (Nat.le_of_ble_eq_true rfl) kd_c_0 (r := (RX7, TX7, 7)) rfl rfl (lt_c 0 rfl) (Nat.le_of_ble_eq_true rfl) (JCi.mono h (fun x3 u3 h => ?_))
    refine jv_iconst dX7_costsToldSo_40 ci_iconst_m1 ?_
    have key3 : ∀ i4_4 : Int32, i4_4 = (if x3 = (-1) then (i4 ||| ((1 : Int32) <<< (i5 &&& 31))) else i4) → JVi E 7 YX7_costsToldSo K 53 [some (.ref 0), some (.int a1), some (.int a2), some (.int a3), some (.int i4_4), some (.int i5)] [] u3 := by
      intro i4_4 hi4_4
      replace h := h i4_4 hi4_4
      refine jv_iinc (v := i5 + 1) (ls' := [some (.ref 0), some (.int a1), some (.int a2), some (.int a3), some (.int i4_4), some (.int (i5 + 1))]) dX7_costsToldSo_53 (Nat.le_of_ble_eq_true rfl) rfl (by rw [ci_iconst_1]) rfl ?_
      refine jv_goto (t := 6) dX7_costsToldSo_56 rfl ?_
      exact h
    clear h
    refine jv_icmp_ne (t := 53) dX7_costsToldSo_41 rfl (fun c4 => ?_) (fun c4 => ?_)
    · exact key3 _ (Eq.trans rfl (if_neg c4).symm)
    · refine jv_iload dX7_costsToldSo_44 rfl ?_
      refine jv_iconst dX7_costsToldSo_46 ci_iconst_1 ?_
      refine jv_iload dX7_costsToldSo_47 rfl ?_
      refine jv_ishl dX7_costsToldSo_49 ?_
      refine jv_ior dX7_costsToldSo_50 ?_
      refine jv_istore (ls' := [some (.ref 0), some (.int a1), some (.int a2), some (.int a3), some (.int (i4 ||| ((1 : Int32) <<< (i5 &&& 31)))), some (.int i5)]) dX7_costsToldSo_51 (Nat.le_of_ble_eq_true rfl) rfl ?_
      exact key3 _ (Eq.trans rfl (if_pos c4).symm)
theorem g_X7_leastBit_0 {E : JE} {u : JM} {K : Int32 → JM → Prop}  {a1 : Int32}
    (h : JVi E 1 YX7_leastBit K 2 [some (.int a1), some (.int 0)] [] u)
    : JVi E 1 YX7_leastBit K 0 [some (.int a1), none] [] u := by
  refine jv_iconst dX7_leastBit_0 ci_iconst_0 ?_
  refine jv_istore_n (ls' := [some (.int a1), some (.int 0)]) dX7_leastBit_1 (Nat.le_of_ble_eq_true rfl) rfl ?_
  exact h
theorem g_X7_leastBit_2 {E : JE} {u : JM} {K : Int32 → JM → Prop}  {a1 i1 : Int32}
    (h : ((12 < i1 → K (-1) u) ∧
 (¬ 12 < i1 → ((((a1 >>> (i1 &&& 31)) &&& 1) = 0 → JVi E 1 YX7_leastBit K 2 [some (.int a1), some (.int (i1 + 1))] [] u) ∧
  (¬ ((a1 >>> (i1 &&& 31)) &&& 1) = 0 → K i1 u)))))
    : JVi E 1 YX7_leastBit K 2 [some (.int a1), some (.int i1)] [] u := by
  refine jv_iload_n dX7_leastBit_2 rfl ?_
  refine jv_bipush dX7_leastBit_3 ci_bipush_12 ?_
  refine jv_icmp_gt (t := 24) dX7_leastBit_5 rfl (fun c1 => ?_) (fun c1 => ?_)
  · replace h := h.1 c1
    refine jv_iconst dX7_leastBit_24 ci_iconst_m1 ?_
    exact jm_ireturn dX7_leastBit_25 rfl h
  · replace h := h.2 c1
    refine jv_iload_n dX7_leastBit_8 rfl ?_
    refine jv_iload_n dX7_leastBit_9 rfl ?_
    refine jv_ishr dX7_leastBit_10 ?_
    refine jv_iconst dX7_leastBit_11 ci_iconst_1 ?_
    refine jv_iand dX7_leastBit_12 ?_
    refine jv_if_eq (t := 18) dX7_leastBit_13 rfl (fun c2 => ?_) (fun c2 => ?_)
    · replace h := h.1 c2
      refine jv_iinc (v := i1 + 1) (ls' := [some (.int a1), some (.int (i1 + 1))]) dX7_leastBit_18 (Nat.le_of_ble_eq_true rfl) rfl (by rw [ci_iconst_1]) rfl ?_
      refine jv_goto (t := 2) dX7_leastBit_21 rfl ?_
      exact h
    · replace h := h.2 c2
      refine jv_iload_n dX7_leastBit_16 rfl ?_
      exact jm_ireturn dX7_leastBit_17 rfl h
theorem g_X7_commonDivisor_0 {E : JE} {u : JM} {K : Int32 → JM → Prop}  {a1 a2 : Int32}
    (h : JVi E 1 YX7_commonDivisor K 2 [some (.int a1), some (.int a2), some (.int a2)] [] u)
    : JVi E 1 YX7_commonDivisor K 0 [some (.int a1), some (.int a2), none] [] u := by
  refine jv_iload_n dX7_commonDivisor_0 rfl ?_
  refine jv_istore_n (ls' := [some (.int a1), some (.int a2), some (.int a2)]) dX7_commonDivisor_1 (Nat.le_of_ble_eq_true rfl) rfl ?_
  exact h
theorem g_X7_commonDivisor_2 {E : JE} {u : JM} {K : Int32 → JM → Prop}  {a1 a2 i2 : Int32}
    (h : ((i2 ≤ 1 → K 1 u) ∧
 (¬ i2 ≤ 1 → ¬ i2 = 0 ∧
  ((¬ (a1 - a1 / i2 * i2) = 0 → JVi E 1 YX7_commonDivisor K 2 [some (.int a1), some (.int a2), some (.int (i2 + (-1)))] [] u) ∧
  ((a1 - a1 / i2 * i2) = 0 → ¬ i2 = 0 ∧
   ((¬ (a2 - a2 / i2 * i2) = 0 → JVi E 1 YX7_commonDivisor K 2 [some (.int a1), some (.int a2), some (.int (i2 + (-1)))] [] u) ∧
   ((a2 - a2 / i2 * i2) = 0 → K i2 u)))))))
    : JVi E 1 YX7_commonDivisor K 2 [some (.int a1), some (.int a2), some (.int i2)] [] u := by
  refine jv_iload_n dX7_commonDivisor_2 rfl ?_
  refine jv_iconst dX7_commonDivisor_3 ci_iconst_1 ?_
  refine jv_icmp_le (t := 27) dX7_commonDivisor_4 rfl (fun c1 => ?_) (fun c1 => ?_)
  · replace h := h.1 c1
    refine jv_iconst dX7_commonDivisor_27 ci_iconst_1 ?_
    exact jm_ireturn dX7_commonDivisor_28 rfl h
  · replace h := h.2 c1
    refine jv_iload_n dX7_commonDivisor_7 rfl ?_
    refine jv_iload_n dX7_commonDivisor_8 rfl ?_
    obtain ⟨b2, h⟩ := h
    refine jv_irem dX7_commonDivisor_9 b2 ?_
    refine jv_if_ne (t := 21) dX7_commonDivisor_10 rfl (fun c3 => ?_) (fun c3 => ?_)
    · replace h := h.1 c3
      refine jv_iinc (v := i2 + (-1)) (ls' := [some (.int a1), some (.int a2), some (.int (i2 + (-1)))]) dX7_commonDivisor_21 (Nat.le_of_ble_eq_true rfl) rfl (by rw [ci_iconst_m1]) rfl ?_
      refine jv_goto (t := 2) dX7_commonDivisor_24 rfl ?_
      exact h
    · replace h := h.2 c3
      refine jv_iload_n dX7_commonDivisor_13 rfl ?_
      refine jv_iload_n dX7_commonDivisor_14 rfl ?_
      obtain ⟨b4, h⟩ := h
      refine jv_irem dX7_commonDivisor_15 b4 ?_
      refine jv_if_ne (t := 21) dX7_commonDivisor_16 rfl (fun c5 => ?_) (fun c5 => ?_)
      · replace h := h.1 c5
        refine jv_iinc (v := i2 + (-1)) (ls' := [some (.int a1), some (.int a2), some (.int (i2 + (-1)))]) dX7_commonDivisor_21 (Nat.le_of_ble_eq_true rfl) rfl (by rw [ci_iconst_m1]) rfl ?_
        refine jv_goto (t := 2) dX7_commonDivisor_24 rfl ?_
        exact h
      · replace h := h.2 c5
        refine jv_iload_n dX7_commonDivisor_19 rfl ?_
        exact jm_ireturn dX7_commonDivisor_20 rfl h
