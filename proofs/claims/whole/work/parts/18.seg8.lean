theorem g_X8_isRouter_0 {E : JE} {u : JM} {K : Int32 → JM → Prop}  {a1 : Int32}
    (h : ((jb (rg a1 (0 : Int32).toInt (7 : Int32).toInt) = 0 ∨ jb (rg a1 (0 : Int32).toInt (7 : Int32).toInt) = 1) ∧ K (jb (rg a1 (0 : Int32).toInt (7 : Int32).toInt)) u))
    : JVi E 2 YX8_isRouter K 0 [some (.int a1)] [] u := by
  refine jv_iload_n dX8_isRouter_0 rfl ?_
  refine jv_iconst dX8_isRouter_1 ci_iconst_0 ?_
  refine jv_bipush dX8_isRouter_2 ci_bipush_7 ?_
  refine jm_callSi [.int a1, .int 0, .int 7] cw_8_125 dX8_isRouter_4 rfl (Nat.le_of_ble_eq_true rfl) (Nat.le_of_ble_eq_true rfl) (p_X8_in  ?_)
  exact jm_zreturn dX8_isRouter_7 rfl h.1 h.2
theorem g_X8_isArea_0 {E : JE} {u : JM} {K : Int32 → JM → Prop}  {a1 : Int32}
    (h : ((jb (rg a1 (0 : Int32).toInt (2 : Int32).toInt) = 0 ∨ jb (rg a1 (0 : Int32).toInt (2 : Int32).toInt) = 1) ∧ K (jb (rg a1 (0 : Int32).toInt (2 : Int32).toInt)) u))
    : JVi E 2 YX8_isArea K 0 [some (.int a1)] [] u := by
  refine jv_iload_n dX8_isArea_0 rfl ?_
  refine jv_iconst dX8_isArea_1 ci_iconst_0 ?_
  refine jv_iconst dX8_isArea_2 ci_iconst_2 ?_
  refine jm_callSi [.int a1, .int 0, .int 2] cw_8_125 dX8_isArea_3 rfl (Nat.le_of_ble_eq_true rfl) (Nat.le_of_ble_eq_true rfl) (p_X8_in  ?_)
  exact jm_zreturn dX8_isArea_6 rfl h.1 h.2
theorem g_X8_isLink_0 {E : JE} {u : JM} {K : Int32 → JM → Prop}  {a1 : Int32}
    (h : ((jb (rg a1 (0 : Int32).toInt ((u 137 0) - 1).toInt) = 0 ∨ jb (rg a1 (0 : Int32).toInt ((u 137 0) - 1).toInt) = 1) ∧ K (jb (rg a1 (0 : Int32).toInt ((u 137 0) - 1).toInt)) u))
    : JVi E 2 YX8_isLink K 0 [some (.ref 137), some (.int a1)] [] u := by
  refine jv_iload_n dX8_isLink_0 rfl ?_
  refine jv_iconst dX8_isLink_1 ci_iconst_0 ?_
  refine jv_aload_n dX8_isLink_2 rfl ?_
  refine gf_8_129 rfl dX8_isLink_3 kd_c_137 (lt_c 137 rfl) ?_
  refine jv_iconst dX8_isLink_6 ci_iconst_1 ?_
  refine jv_isub dX8_isLink_7 ?_
  refine jm_callSi [.int a1, .int 0, .int ((u 137 0) - 1)] cw_8_125 dX8_isLink_8 rfl (Nat.le_of_ble_eq_true rfl) (Nat.le_of_ble_eq_true rfl) (p_X8_in  ?_)
  exact jm_zreturn dX8_isLink_11 rfl h.1 h.2
theorem g_X8_areasOf_0 {E : JE} {u : JM} {K : Int32 → JM → Prop}  {a1 : Int32}
    (h : JVi E 2 YX8_areasOf K 4 [some (.ref 137), some (.int a1), some (.int 0), some (.int 0)] [] u)
    : JVi E 2 YX8_areasOf K 0 [some (.ref 137), some (.int a1), none, none] [] u := by
  refine jv_iconst dX8_areasOf_0 ci_iconst_0 ?_
  refine jv_istore_n (ls' := [some (.ref 137), some (.int a1), some (.int 0), none]) dX8_areasOf_1 (Nat.le_of_ble_eq_true rfl) rfl ?_
  refine jv_iconst dX8_areasOf_2 ci_iconst_0 ?_
  refine jv_istore_n (ls' := [some (.ref 137), some (.int a1), some (.int 0), some (.int 0)]) dX8_areasOf_3 (Nat.le_of_ble_eq_true rfl) rfl ?_
  exact h
theorem g_X8_areasOf_4 {E : JE} {u : JM} {K : Int32 → JM → Prop}  {a1 i2 i3 : Int32}
    (h : (((u 137 0) ≤ i3 → K i2 u) ∧
 (¬ (u 137 0) ≤ i3 → vp_in i3 12 ∧
  ∀ i2_1 : Int32, i2_1 = (if (u 141 i3.toNatClampNeg) = 1 then (if (jb (u 138 i3.toNatClampNeg = a1 ∨ u 139 i3.toNatClampNeg = a1)) = 0 then i2 else (i2 ||| ((1 : Int32) <<< ((u 140 i3.toNatClampNeg) &&& 31)))) else i2) →
  JVi E 2 YX8_areasOf K 4 [some (.ref 137), some (.int a1), some (.int i2_1), some (.int (i3 + 1))] [] u)))
    : JVi E 2 YX8_areasOf K 4 [some (.ref 137), some (.int a1), some (.int i2), some (.int i3)] [] u := by
  refine jv_iload_n dX8_areasOf_4 rfl ?_
  refine jv_aload_n dX8_areasOf_5 rfl ?_
  refine gf_8_129 rfl dX8_areasOf_6 kd_c_137 (lt_c 137 rfl) ?_
  refine jv_icmp_ge (t := 48) dX8_areasOf_9 rfl (fun c1 => ?_) (fun c1 => ?_)
  · replace h := h.1 c1
    refine jv_iload_n dX8_areasOf_48 rfl ?_
    exact jm_ireturn dX8_areasOf_49 rfl h
  · replace h := h.2 c1
    refine jv_aload_n dX8_areasOf_12 rfl ?_
    refine gf_8_19 rfl dX8_areasOf_13 kd_c_137 (lt_c 137 rfl) rf_c_137_4 ?_
    refine jv_iload_n dX8_areasOf_16 rfl ?_
    obtain ⟨b5, h⟩ := h
    refine jm_iaload dX8_areasOf_17 kd_c_141 (lt_c 141 rfl) b5 ?_
    refine jv_iconst dX8_areasOf_18 ci_iconst_1 ?_
    have key7 : ∀ i2_1 : Int32, i2_1 = (if (u 141 i3.toNatClampNeg) = 1 then (if (jb (u 138 i3.toNatClampNeg = a1 ∨ u 139 i3.toNatClampNeg = a1)) = 0 then i2 else (i2 ||| ((1 : Int32) <<< ((u 140 i3.toNatClampNeg) &&& 31)))) else i2) → JVi E 2 YX8_areasOf K 42 [some (.ref 137), some (.int a1), some (.int i2_1), some (.int i3)] [] u := by
      intro i2_1 hi2_1
      replace h := h i2_1 hi2_1
      refine jv_iinc (v := i3 + 1) (ls' := [some (.ref 137), some (.int a1), some (.int i2_1), some (.int (i3 + 1))]) dX8_areasOf_42 (Nat.le_of_ble_eq_true rfl) rfl (by rw [ci_iconst_1]) rfl ?_
      refine jv_goto (t := 4) dX8_areasOf_45 rfl ?_
      exact h
    clear h
    refine jv_icmp_ne (t := 42) dX8_areasOf_19 rfl (fun c8 => ?_) (fun c8 => ?_)
    · exact key7 _ (Eq.trans rfl (if_neg c8).symm)
    · refine jv_aload_n dX8_areasOf_22 rfl ?_
      refine jv_iload_n dX8_areasOf_23 rfl ?_
      refine jv_iload_n dX8_areasOf_24 rfl ?_
      refine jm_callVi [.int i3, .int a1] cw_8_133 dX8_areasOf_25 rfl (Nat.le_of_ble_eq_true rfl) kd_c_137 (r := (RX8, TX8, 48)) rfl rfl (lt_c 137 rfl) (Nat.le_of_ble_eq_true rfl) (p_X8_isEnd b5 ?_)
      refine jv_if_eq (t := 42) dX8_areasOf_28 rfl (fun c9 => ?_) (fun c9 => ?_)
      · exact key7 _ (Eq.trans (Eq.trans rfl (if_pos c9).symm) (if_pos c8).symm)
      · refine jv_iload_n dX8_areasOf_31 rfl ?_
        refine jv_iconst dX8_areasOf_32 ci_iconst_1 ?_
        refine jv_aload_n dX8_areasOf_33 rfl ?_
        refine gf_8_16 rfl dX8_areasOf_34 kd_c_137 (lt_c 137 rfl) rf_c_137_3 ?_
        refine jv_iload_n dX8_areasOf_37 rfl ?_
        refine jm_iaload dX8_areasOf_38 kd_c_140 (lt_c 140 rfl) b5 ?_
        refine jv_ishl dX8_areasOf_39 ?_
        refine jv_ior dX8_areasOf_40 ?_
        refine jv_istore_n (ls' := [some (.ref 137), some (.int a1), some (.int (i2 ||| ((1 : Int32) <<< ((u 140 i3.toNatClampNeg) &&& 31)))), some (.int i3)]) dX8_areasOf_41 (Nat.le_of_ble_eq_true rfl) rfl ?_
        exact key7 _ (Eq.trans (Eq.trans rfl (if_neg c9).symm) (if_pos c8).symm)
theorem g_X8_isBorder_0 {E : JE} {u : JM} {K : Int32 → JM → Prop}  {a1 : Int32}
    (h : JCi E 2 YX8_areasOf [.ref 137, .int a1] (fun x1 u1 =>
 ((¬ (x1 &&& 1) = 1 → K 0 u1) ∧
  ((x1 &&& 1) = 1 → ((x1 ≤ 1 → K 0 u1) ∧
   (¬ x1 ≤ 1 → K 1 u1))))) u)
    : JVi E 3 YX8_isBorder K 0 [some (.ref 137), some (.int a1), none] [] u := by
  refine jv_aload_n dX8_isBorder_0 rfl ?_
  refine jv_iload_n dX8_isBorder_1 rfl ?_
  refine jm_callVi [.int a1] cw_8_137 dX8_isBorder_2 rfl (Nat.le_of_ble_eq_true rfl) kd_c_137 (r := (RX8, TX8, 48)) rfl rfl (lt_c 137 rfl) (Nat.le_of_ble_eq_true rfl) (JCi.mono h (fun x1 u1 h => ?_))
  refine jv_istore_n (ls' := [some (.ref 137), some (.int a1), some (.int x1)]) dX8_isBorder_5 (Nat.le_of_ble_eq_true rfl) rfl ?_
  refine jv_iload_n dX8_isBorder_6 rfl ?_
  refine jv_iconst dX8_isBorder_7 ci_iconst_1 ?_
  refine jv_iand dX8_isBorder_8 ?_
  refine jv_iconst dX8_isBorder_9 ci_iconst_1 ?_
  refine jv_icmp_ne (t := 22) dX8_isBorder_10 rfl (fun c1 => ?_) (fun c1 => ?_)
  · replace h := h.1 c1
    refine jv_iconst dX8_isBorder_22 ci_iconst_0 ?_
    exact jm_zreturn dX8_isBorder_23 rfl (Or.inl rfl) h
  · replace h := h.2 c1
    refine jv_iload_n dX8_isBorder_13 rfl ?_
    refine jv_iconst dX8_isBorder_14 ci_iconst_1 ?_
    refine jv_icmp_le (t := 22) dX8_isBorder_15 rfl (fun c2 => ?_) (fun c2 => ?_)
    · replace h := h.1 c2
      refine jv_iconst dX8_isBorder_22 ci_iconst_0 ?_
      exact jm_zreturn dX8_isBorder_23 rfl (Or.inl rfl) h
    · replace h := h.2 c2
      refine jv_iconst dX8_isBorder_18 ci_iconst_1 ?_
      refine jv_goto (t := 23) dX8_isBorder_19 rfl ?_
      exact jm_zreturn dX8_isBorder_23 rfl (Or.inr rfl) h
theorem g_X8_link_0 {E : JE} {u : JM} {K : Int32 → JM → Prop}  {a1 a2 a3 a4 a5 : Int32}
    (h : JCi E 2 YX8_isRouter [.int a1] (fun x1 u1 =>
 ((x1 = 0 → K (-2) u1) ∧
  (¬ x1 = 0 → JCi E 2 YX8_isRouter [.int a2] (fun x2 u2 =>
   ((x2 = 0 → K (-2) u2) ∧
    (¬ x2 = 0 → ((a1 = a2 → K (-2) u2) ∧
     (¬ a1 = a2 → JCi E 2 YX8_isArea [.int a3] (fun x3 u3 =>
      ((x3 = 0 → K (-2) u3) ∧
       (¬ x3 = 0 → (((jb (rg a4 (1 : Int32).toInt (99 : Int32).toInt)) = 0 → K (-2) u3) ∧
        (¬ (jb (rg a4 (1 : Int32).toInt (99 : Int32).toInt)) = 0 → ((¬ (jb (rg a5 (1 : Int32).toInt (99 : Int32).toInt)) = 0 → ((¬ (u3 137 0) = 12 → vp_in (u3 137 0) 12 ∧
           ∀ u4, u4 = jw u3 138 (u3 137 0).toNatClampNeg a1 →
           vp_in (u4 137 0) 12 ∧
           ∀ u5, u5 = jw u4 139 (u4 137 0).toNatClampNeg a2 →
           vp_in (u5 137 0) 12 ∧
           ∀ u6, u6 = jw u5 140 (u5 137 0).toNatClampNeg a3 →
           vp_in (u6 137 0) 12 ∧
           ∀ u7, u7 = jw u6 141 (u6 137 0).toNatClampNeg 1 →
           vp_in (2 * (u7 137 0)) 24 ∧
           ∀ u8, u8 = jw u7 142 (2 * (u7 137 0)).toNatClampNeg a4 →
           vp_in ((2 * (u8 137 0)) + 1) 24 ∧
           ∀ u9, u9 = jw u8 142 ((2 * (u8 137 0)) + 1).toNatClampNeg a5 →
           ∀ u10, u10 = jw u9 137 0 ((u9 137 0) + 1) →
           K ((u10 137 0) - 1) u10) ∧
          ((u3 137 0) = 12 → K (-4) u3))) ∧
         ((jb (rg a5 (1 : Int32).toInt (99 : Int32).toInt)) = 0 → K (-2) u3))))))) u2))))) u1))) u)
    : JVi E 3 YX8_link K 0 [some (.ref 137), some (.int a1), some (.int a2), some (.int a3), some (.int a4), some (.int a5)] [] u := by
  refine jv_iload_n dX8_link_0 rfl ?_
  refine jm_callSi [.int a1] cw_8_141 dX8_link_1 rfl (Nat.le_of_ble_eq_true rfl) (Nat.le_of_ble_eq_true rfl) (JCi.mono h (fun x1 u1 h => ?_))
  refine jv_if_eq (t := 48) dX8_link_4 rfl (fun c1 => ?_) (fun c1 => ?_)
  · replace h := h.1 c1
    refine jv_bipush dX8_link_48 ci_bipush_m2 ?_
    exact jm_ireturn dX8_link_50 rfl h
  · replace h := h.2 c1
    refine jv_iload_n dX8_link_7 rfl ?_
    refine jm_callSi [.int a2] cw_8_141 dX8_link_8 rfl (Nat.le_of_ble_eq_true rfl) (Nat.le_of_ble_eq_true rfl) (JCi.mono h (fun x2 u2 h => ?_))
    refine jv_if_eq (t := 48) dX8_link_11 rfl (fun c2 => ?_) (fun c2 => ?_)
    · replace h := h.1 c2
      refine jv_bipush dX8_link_48 ci_bipush_m2 ?_
      exact jm_ireturn dX8_link_50 rfl h
    · replace h := h.2 c2
      refine jv_iload_n dX8_link_14 rfl ?_
      refine jv_iload_n dX8_link_15 rfl ?_
      refine jv_icmp_eq (t := 48) dX8_link_16 rfl (fun c3 => ?_) (fun c3 => ?_)
      · replace h := h.1 c3
        refine jv_bipush dX8_link_48 ci_bipush_m2 ?_
        exact jm_ireturn dX8_link_50 rfl h
      · replace h := h.2 c3
        refine jv_iload_n dX8_link_19 rfl ?_
        refine jm_callSi [.int a3] cw_8_145 dX8_link_20 rfl (Nat.le_of_ble_eq_true rfl) (Nat.le_of_ble_eq_true rfl) (JCi.mono h (fun x3 u3 h => ?_))
        refine jv_if_eq (t := 48) dX8_link_23 rfl (fun c4 => ?_) (fun c4 => ?_)
        · replace h := h.1 c4
          refine jv_bipush dX8_link_48 ci_bipush_m2 ?_
          exact jm_ireturn dX8_link_50 rfl h
        · replace h := h.2 c4
          refine jv_iload dX8_link_26 rfl ?_
          refine jv_iconst dX8_link_28 ci_iconst_1 ?_
          refine jv_bipush dX8_link_29 ci_bipush_99 ?_
          refine jm_callSi [.int a4, .int 1, .int 99] cw_8_125 dX8_link_31 rfl (Nat.le_of_ble_eq_true rfl) (Nat.le_of_ble_eq_true rfl) (p_X8_in  ?_)
          refine jv_if_eq (t := 48) dX8_link_34 rfl (fun c5 => ?_) (fun c5 => ?_)
          · replace h := h.1 c5
            refine jv_bipush dX8_link_48 ci_bipush_m2 ?_
            exact jm_ireturn dX8_link_50 rfl h
          · replace h := h.2 c5
            refine jv_iload dX8_link_37 rfl ?_
            refine jv_iconst dX8_link_39 ci_iconst_1 ?_
            refine jv_bipush dX8_link_40 ci_bipush_99 ?_
            refine jm_callSi [.int a5, .int 1, .int 99] cw_8_125 dX8_link_42 rfl (Nat.le_of_ble_eq_true rfl) (Nat.le_of_ble_eq_true rfl) (p_X8_in  ?_)
            refine jv_if_ne (t := 51) dX8_link_45 rfl (fun c6 => ?_) (fun c6 => ?_)
            · replace h := h.1 c6
              refine jv_aload_n dX8_link_51 rfl ?_
              refine gf_8_129 rfl dX8_link_52 kd_c_137 (lt_c 137 rfl) ?_
              refine jv_bipush dX8_link_55 ci_bipush_12 ?_
              refine jv_icmp_ne (t := 63) dX8_link_57 rfl (fun c7 => ?_) (fun c7 => ?_)
              · replace h := h.1 c7
                refine jv_aload_n dX8_link_63 rfl ?_
                refine gf_8_9 rfl dX8_link_64 kd_c_137 (lt_c 137 rfl) rf_c_137_1 ?_
                refine jv_aload_n dX8_link_67 rfl ?_
                refine gf_8_129 rfl dX8_link_68 kd_c_137 (lt_c 137 rfl) ?_
                refine jv_iload_n dX8_link_71 rfl ?_
                obtain ⟨b8, h⟩ := h
                refine jm_iastore dX8_link_72 kd_c_138 (lt_c 138 rfl) b8 ?_
                generalize hhu4 : jw u3 138 (u3 137 0).toNatClampNeg a1 = u4
                replace h := h u4 hhu4.symm
                refine jv_aload_n dX8_link_73 rfl ?_
                refine gf_8_13 rfl dX8_link_74 kd_c_137 (lt_c 137 rfl) rf_c_137_2 ?_
                refine jv_aload_n dX8_link_77 rfl ?_
                refine gf_8_129 rfl dX8_link_78 kd_c_137 (lt_c 137 rfl) ?_
                refine jv_iload_n dX8_link_81 rfl ?_
                obtain ⟨b9, h⟩ := h
                refine jm_iastore dX8_link_82 kd_c_139 (lt_c 139 rfl) b9 ?_
                generalize hhu5 : jw u4 139 (u4 137 0).toNatClampNeg a2 = u5
                replace h := h u5 hhu5.symm
                refine jv_aload_n dX8_link_83 rfl ?_
                refine gf_8_16 rfl dX8_link_84 kd_c_137 (lt_c 137 rfl) rf_c_137_3 ?_
                refine jv_aload_n dX8_link_87 rfl ?_
                refine gf_8_129 rfl dX8_link_88 kd_c_137 (lt_c 137 rfl) ?_
                refine jv_iload_n dX8_link_91 rfl ?_
                obtain ⟨b10, h⟩ := h
                refine jm_iastore dX8_link_92 kd_c_140 (lt_c 140 rfl) b10 ?_
                generalize hhu6 : jw u5 140 (u5 137 0).toNatClampNeg a3 = u6
                replace h := h u6 hhu6.symm
                refine jv_aload_n dX8_link_93 rfl ?_
                refine gf_8_19 rfl dX8_link_94 kd_c_137 (lt_c 137 rfl) rf_c_137_4 ?_
                refine jv_aload_n dX8_link_97 rfl ?_
                refine gf_8_129 rfl dX8_link_98 kd_c_137 (lt_c 137 rfl) ?_
                refine jv_iconst dX8_link_101 ci_iconst_1 ?_
                obtain ⟨b11, h⟩ := h
                refine jm_iastore dX8_link_102 kd_c_141 (lt_c 141 rfl) b11 ?_
                generalize hhu7 : jw u6 141 (u6 137 0).toNatClampNeg 1 = u7
                replace h := h u7 hhu7.symm
                refine jv_aload_n dX8_link_103 rfl ?_
                refine gf_8_22 rfl dX8_link_104 kd_c_137 (lt_c 137 rfl) rf_c_137_5 ?_
                refine jv_iconst dX8_link_107 ci_iconst_2 ?_
                refine jv_aload_n dX8_link_108 rfl ?_
                refine gf_8_129 rfl dX8_link_109 kd_c_137 (lt_c 137 rfl) ?_
                refine jv_imul dX8_link_112 ?_
                refine jv_iload dX8_link_113 rfl ?_
                obtain ⟨b12, h⟩ := h
                refine jm_iastore dX8_link_115 kd_c_142 (lt_c 142 rfl) b12 ?_
                generalize hhu8 : jw u7 142 (2 * (u7 137 0)).toNatClampNeg a4 = u8
                replace h := h u8 hhu8.symm
                refine jv_aload_n dX8_link_116 rfl ?_
                refine gf_8_22 rfl dX8_link_117 kd_c_137 (lt_c 137 rfl) rf_c_137_5 ?_
                refine jv_iconst dX8_link_120 ci_iconst_2 ?_
                refine jv_aload_n dX8_link_121 rfl ?_
                refine gf_8_129 rfl dX8_link_122 kd_c_137 (lt_c 137 rfl) ?_
                refine jv_imul dX8_link_125 ?_
                refine jv_iconst dX8_link_126 ci_iconst_1 ?_
                refine jv_iadd dX8_link_127 ?_
                refine jv_iload dX8_link_128 rfl ?_
                obtain ⟨b13, h⟩ := h
                refine jm_iastore dX8_link_130 kd_c_142 (lt_c 142 rfl) b13 ?_
                generalize hhu9 : jw u8 142 ((2 * (u8 137 0)) + 1).toNatClampNeg a5 = u9
                replace h := h u9 hhu9.symm
                refine jv_aload_n dX8_link_131 rfl ?_
                refine jv_dup dX8_link_132 rfl ?_
                refine gf_8_129 rfl dX8_link_133 kd_c_137 (lt_c 137 rfl) ?_
                refine jv_iconst dX8_link_136 ci_iconst_1 ?_
                refine jv_iadd dX8_link_137 ?_
                refine pf_8_129 rfl dX8_link_138 kd_c_137 (lt_c 137 rfl) ?_
                generalize hhu10 : jw u9 137 0 ((u9 137 0) + 1) = u10
                replace h := h u10 hhu10.symm
                refine jv_aload_n dX8_link_141 rfl ?_
                refine gf_8_129 rfl dX8_link_142 kd_c_137 (lt_c 137 rfl) ?_
                refine jv_iconst dX8_link_145 ci_iconst_1 ?_
                refine jv_isub dX8_link_146 ?_
                exact jm_ireturn dX8_link_147 rfl h
              · replace h := h.2 c7
                refine jv_bipush dX8_link_60 ci_bipush_m4 ?_
                exact jm_ireturn dX8_link_62 rfl h
            · replace h := h.2 c6
              refine jv_bipush dX8_link_48 ci_bipush_m2 ?_
              exact jm_ireturn dX8_link_50 rfl h
theorem g_X8_set_0 {E : JE} {u : JM} {K : Int32 → JM → Prop}  {a1 a2 : Int32}
    (h : JCi E 2 YX8_isLink [.ref 137, .int a1] (fun x1 u1 =>
 ((x1 = 0 → K (-2) u1) ∧
  (¬ x1 = 0 → ((¬ (jb (rg a2 (0 : Int32).toInt (1 : Int32).toInt)) = 0 → vp_in a1 12 ∧
    ∀ i3_2 : Int32, i3_2 = u1 141 a1.toNatClampNeg →
    ∀ u3, u3 = jw u1 141 a1.toNatClampNeg a2 →
    K i3_2 u3) ∧
   ((jb (rg a2 (0 : Int32).toInt (1 : Int32).toInt)) = 0 → K (-2) u1))))) u)
    : JVi E 3 YX8_set K 0 [some (.ref 137), some (.int a1), some (.int a2), none] [] u := by
  refine jv_aload_n dX8_set_0 rfl ?_
  refine jv_iload_n dX8_set_1 rfl ?_
  refine jm_callVi [.int a1] cw_8_148 dX8_set_2 rfl (Nat.le_of_ble_eq_true rfl) kd_c_137 (r := (RX8, TX8, 48)) rfl rfl (lt_c 137 rfl) (Nat.le_of_ble_eq_true rfl) (JCi.mono h (fun x1 u1 h => ?_))
  refine jv_if_eq (t := 17) dX8_set_5 rfl (fun c1 => ?_) (fun c1 => ?_)
  · replace h := h.1 c1
    refine jv_bipush dX8_set_17 ci_bipush_m2 ?_
    exact jm_ireturn dX8_set_19 rfl h
  · replace h := h.2 c1
    refine jv_iload_n dX8_set_8 rfl ?_
    refine jv_iconst dX8_set_9 ci_iconst_0 ?_
    refine jv_iconst dX8_set_10 ci_iconst_1 ?_
    refine jm_callSi [.int a2, .int 0, .int 1] cw_8_125 dX8_set_11 rfl (Nat.le_of_ble_eq_true rfl) (Nat.le_of_ble_eq_true rfl) (p_X8_in  ?_)
    refine jv_if_ne (t := 20) dX8_set_14 rfl (fun c2 => ?_) (fun c2 => ?_)
    · replace h := h.1 c2
      refine jv_aload_n dX8_set_20 rfl ?_
      refine gf_8_19 rfl dX8_set_21 kd_c_137 (lt_c 137 rfl) rf_c_137_4 ?_
      refine jv_iload_n dX8_set_24 rfl ?_
      obtain ⟨b3, h⟩ := h
      refine jm_iaload dX8_set_25 kd_c_141 (lt_c 141 rfl) b3 ?_
      generalize hhi3_2 : u1 141 a1.toNatClampNeg = i3_2
      replace h := h i3_2 hhi3_2.symm
      refine jv_istore_n (ls' := [some (.ref 137), some (.int a1), some (.int a2), some (.int i3_2)]) dX8_set_26 (Nat.le_of_ble_eq_true rfl) rfl ?_
      refine jv_aload_n dX8_set_27 rfl ?_
      refine gf_8_19 rfl dX8_set_28 kd_c_137 (lt_c 137 rfl) rf_c_137_4 ?_
      refine jv_iload_n dX8_set_31 rfl ?_
      refine jv_iload_n dX8_set_32 rfl ?_
      refine jm_iastore dX8_set_33 kd_c_141 (lt_c 141 rfl) b3 ?_
      generalize hhu3 : jw u1 141 a1.toNatClampNeg a2 = u3
      replace h := h u3 hhu3.symm
      refine jv_iload_n dX8_set_34 rfl ?_
      exact jm_ireturn dX8_set_35 rfl h
    · replace h := h.2 c2
      refine jv_bipush dX8_set_17 ci_bipush_m2 ?_
      exact jm_ireturn dX8_set_19 rfl h
theorem g_X8_cost_0 {E : JE} {u : JM} {K : Int32 → JM → Prop}  {a1 a2 a3 : Int32}
    (h : JCi E 2 YX8_isLink [.ref 137, .int a1] (fun x1 u1 =>
 ((x1 = 0 → K (-2) u1) ∧
  (¬ x1 = 0 → (((jb (rg a2 (0 : Int32).toInt (1 : Int32).toInt)) = 0 → K (-2) u1) ∧
   (¬ (jb (rg a2 (0 : Int32).toInt (1 : Int32).toInt)) = 0 → ((¬ (jb (rg a3 (1 : Int32).toInt (99 : Int32).toInt)) = 0 → vp_in ((2 * a1) + a2) 24 ∧
     ∀ i4_2 : Int32, i4_2 = u1 142 ((2 * a1) + a2).toNatClampNeg →
     ∀ u3, u3 = jw u1 142 ((2 * a1) + a2).toNatClampNeg a3 →
     K i4_2 u3) ∧
    ((jb (rg a3 (1 : Int32).toInt (99 : Int32).toInt)) = 0 → K (-2) u1))))))) u)
    : JVi E 3 YX8_cost K 0 [some (.ref 137), some (.int a1), some (.int a2), some (.int a3), none] [] u := by
  refine jv_aload_n dX8_cost_0 rfl ?_
  refine jv_iload_n dX8_cost_1 rfl ?_
  refine jm_callVi [.int a1] cw_8_148 dX8_cost_2 rfl (Nat.le_of_ble_eq_true rfl) kd_c_137 (r := (RX8, TX8, 48)) rfl rfl (lt_c 137 rfl) (Nat.le_of_ble_eq_true rfl) (JCi.mono h (fun x1 u1 h => ?_))
  refine jv_if_eq (t := 27) dX8_cost_5 rfl (fun c1 => ?_) (fun c1 => ?_)
  · replace h := h.1 c1
    refine jv_bipush dX8_cost_27 ci_bipush_m2 ?_
    exact jm_ireturn dX8_cost_29 rfl h
  · replace h := h.2 c1
    refine jv_iload_n dX8_cost_8 rfl ?_
    refine jv_iconst dX8_cost_9 ci_iconst_0 ?_
    refine jv_iconst dX8_cost_10 ci_iconst_1 ?_
    refine jm_callSi [.int a2, .int 0, .int 1] cw_8_125 dX8_cost_11 rfl (Nat.le_of_ble_eq_true rfl) (Nat.le_of_ble_eq_true rfl) (p_X8_in  ?_)
    refine jv_if_eq (t := 27) dX8_cost_14 rfl (fun c2 => ?_) (fun c2 => ?_)
    · replace h := h.1 c2
      refine jv_bipush dX8_cost_27 ci_bipush_m2 ?_
      exact jm_ireturn dX8_cost_29 rfl h
    · replace h := h.2 c2
      refine jv_iload_n dX8_cost_17 rfl ?_
      refine jv_iconst dX8_cost_18 ci_iconst_1 ?_
      refine jv_bipush dX8_cost_19 ci_bipush_99 ?_
      refine jm_callSi [.int a3, .int 1, .int 99] cw_8_125 dX8_cost_21 rfl (Nat.le_of_ble_eq_true rfl) (Nat.le_of_ble_eq_true rfl) (p_X8_in  ?_)
      refine jv_if_ne (t := 30) dX8_cost_24 rfl (fun c3 => ?_) (fun c3 => ?_)
      · replace h := h.1 c3
        refine jv_aload_n dX8_cost_30 rfl ?_
        refine gf_8_22 rfl dX8_cost_31 kd_c_137 (lt_c 137 rfl) rf_c_137_5 ?_
        refine jv_iconst dX8_cost_34 ci_iconst_2 ?_
        refine jv_iload_n dX8_cost_35 rfl ?_
        refine jv_imul dX8_cost_36 ?_
        refine jv_iload_n dX8_cost_37 rfl ?_
        refine jv_iadd dX8_cost_38 ?_
        obtain ⟨b4, h⟩ := h
        refine jm_iaload dX8_cost_39 kd_c_142 (lt_c 142 rfl) b4 ?_
        generalize hhi4_2 : u1 142 ((2 * a1) + a2).toNatClampNeg = i4_2
        replace h := h i4_2 hhi4_2.symm
        refine jv_istore (ls' := [some (.ref 137), some (.int a1), some (.int a2), some (.int a3), some (.int i4_2)]) dX8_cost_40 (Nat.le_of_ble_eq_true rfl) rfl ?_
        refine jv_aload_n dX8_cost_42 rfl ?_
        refine gf_8_22 rfl dX8_cost_43 kd_c_137 (lt_c 137 rfl) rf_c_137_5 ?_
        refine jv_iconst dX8_cost_46 ci_iconst_2 ?_
        refine jv_iload_n dX8_cost_47 rfl ?_
        refine jv_imul dX8_cost_48 ?_
        refine jv_iload_n dX8_cost_49 rfl ?_
        refine jv_iadd dX8_cost_50 ?_
        refine jv_iload_n dX8_cost_51 rfl ?_
        refine jm_iastore dX8_cost_52 kd_c_142 (lt_c 142 rfl) b4 ?_
        generalize hhu3 : jw u1 142 ((2 * a1) + a2).toNatClampNeg a3 = u3
        replace h := h u3 hhu3.symm
        refine jv_iload dX8_cost_53 rfl ?_
        exact jm_ireturn dX8_cost_55 rfl h
      · replace h := h.2 c3
        refine jv_bipush dX8_cost_27 ci_bipush_m2 ?_
        exact jm_ireturn dX8_cost_29 rfl h
theorem g_X8_told_0 {E : JE} {u : JM} {K : Int32 → JM → Prop}  {a1 a2 : Int32}
    (h : JCi E 2 YX8_isLink [.ref 137, .int a1] (fun x1 u1 =>
 ((x1 = 0 → K (-2) u1) ∧
  (¬ x1 = 0 → ((¬ (jb (rg a2 (0 : Int32).toInt (5 : Int32).toInt)) = 0 → ((¬ a2 = 0 → ((¬ a2 = 1 → ((¬ a2 = 2 → ((5 ≤ a2 → vp_in a1 12 ∧
        K (u1 141 a1.toNatClampNeg) u1) ∧
       (¬ 5 ≤ a2 → vp_in (((2 * a1) + a2) - 3) 24 ∧
        K (u1 142 (((2 * a1) + a2) - 3).toNatClampNeg) u1))) ∧
      (a2 = 2 → vp_in a1 12 ∧
       K (u1 140 a1.toNatClampNeg) u1))) ∧
     (a2 = 1 → vp_in a1 12 ∧
      K (u1 139 a1.toNatClampNeg) u1))) ∧
    (a2 = 0 → vp_in a1 12 ∧
     K (u1 138 a1.toNatClampNeg) u1))) ∧
   ((jb (rg a2 (0 : Int32).toInt (5 : Int32).toInt)) = 0 → K (-2) u1))))) u)
    : JVi E 3 YX8_told K 0 [some (.ref 137), some (.int a1), some (.int a2)] [] u := by
  refine jv_aload_n dX8_told_0 rfl ?_
  refine jv_iload_n dX8_told_1 rfl ?_
  refine jm_callVi [.int a1] cw_8_148 dX8_told_2 rfl (Nat.le_of_ble_eq_true rfl) kd_c_137 (r := (RX8, TX8, 48)) rfl rfl (lt_c 137 rfl) (Nat.le_of_ble_eq_true rfl) (JCi.mono h (fun x1 u1 h => ?_))
  refine jv_if_eq (t := 17) dX8_told_5 rfl (fun c1 => ?_) (fun c1 => ?_)
  · replace h := h.1 c1
    refine jv_bipush dX8_told_17 ci_bipush_m2 ?_
    exact jm_ireturn dX8_told_19 rfl h
  · replace h := h.2 c1
    refine jv_iload_n dX8_told_8 rfl ?_
    refine jv_iconst dX8_told_9 ci_iconst_0 ?_
    refine jv_iconst dX8_told_10 ci_iconst_5 ?_
    refine jm_callSi [.int a2, .int 0, .int 5] cw_8_125 dX8_told_11 rfl (Nat.le_of_ble_eq_true rfl) (Nat.le_of_ble_eq_true rfl) (p_X8_in  ?_)
    refine jv_if_ne (t := 20) dX8_told_14 rfl (fun c2 => ?_) (fun c2 => ?_)
    · replace h := h.1 c2
      refine jv_iload_n dX8_told_20 rfl ?_
      refine jv_if_ne (t := 33) dX8_told_21 rfl (fun c3 => ?_) (fun c3 => ?_)
      · replace h := h.1 c3
        refine jv_iload_n dX8_told_33 rfl ?_
        refine jv_iconst dX8_told_34 ci_iconst_1 ?_
        refine jv_icmp_ne (t := 47) dX8_told_35 rfl (fun c9 => ?_) (fun c9 => ?_)
        · replace h := h.1 c9
          refine jv_iload_n dX8_told_47 rfl ?_
          refine jv_iconst dX8_told_48 ci_iconst_2 ?_
          refine jv_icmp_ne (t := 61) dX8_told_49 rfl (fun c14 => ?_) (fun c14 => ?_)
          · replace h := h.1 c14
            refine jv_iload_n dX8_told_61 rfl ?_
            refine jv_iconst dX8_told_62 ci_iconst_5 ?_
            refine jv_icmp_ge (t := 81) dX8_told_63 rfl (fun c18 => ?_) (fun c18 => ?_)
            · replace h := h.1 c18
              refine jv_aload_n dX8_told_81 rfl ?_
              refine gf_8_19 rfl dX8_told_82 kd_c_137 (lt_c 137 rfl) rf_c_137_4 ?_
              refine jv_iload_n dX8_told_85 rfl ?_
              obtain ⟨b21, h⟩ := h
              refine jm_iaload dX8_told_86 kd_c_141 (lt_c 141 rfl) b21 ?_
              exact jm_ireturn dX8_told_87 rfl h
            · replace h := h.2 c18
              refine jv_aload_n dX8_told_66 rfl ?_
              refine gf_8_22 rfl dX8_told_67 kd_c_137 (lt_c 137 rfl) rf_c_137_5 ?_
              refine jv_iconst dX8_told_70 ci_iconst_2 ?_
              refine jv_iload_n dX8_told_71 rfl ?_
              refine jv_imul dX8_told_72 ?_
              refine jv_iload_n dX8_told_73 rfl ?_
              refine jv_iadd dX8_told_74 ?_
              refine jv_iconst dX8_told_75 ci_iconst_3 ?_
              refine jv_isub dX8_told_76 ?_
              obtain ⟨b22, h⟩ := h
              refine jm_iaload dX8_told_77 kd_c_142 (lt_c 142 rfl) b22 ?_
              refine jv_goto (t := 87) dX8_told_78 rfl ?_
              exact jm_ireturn dX8_told_87 rfl h
          · replace h := h.2 c14
            refine jv_aload_n dX8_told_52 rfl ?_
            refine gf_8_16 rfl dX8_told_53 kd_c_137 (lt_c 137 rfl) rf_c_137_3 ?_
            refine jv_iload_n dX8_told_56 rfl ?_
            obtain ⟨b23, h⟩ := h
            refine jm_iaload dX8_told_57 kd_c_140 (lt_c 140 rfl) b23 ?_
            refine jv_goto (t := 87) dX8_told_58 rfl ?_
            exact jm_ireturn dX8_told_87 rfl h
        · replace h := h.2 c9
          refine jv_aload_n dX8_told_38 rfl ?_
          refine gf_8_13 rfl dX8_told_39 kd_c_137 (lt_c 137 rfl) rf_c_137_2 ?_
          refine jv_iload_n dX8_told_42 rfl ?_
          obtain ⟨b24, h⟩ := h
          refine jm_iaload dX8_told_43 kd_c_139 (lt_c 139 rfl) b24 ?_
          refine jv_goto (t := 87) dX8_told_44 rfl ?_
          exact jm_ireturn dX8_told_87 rfl h
      · replace h := h.2 c3
        refine jv_aload_n dX8_told_24 rfl ?_
        refine gf_8_9 rfl dX8_told_25 kd_c_137 (lt_c 137 rfl) rf_c_137_1 ?_
        refine jv_iload_n dX8_told_28 rfl ?_
        obtain ⟨b25, h⟩ := h
        refine jm_iaload dX8_told_29 kd_c_138 (lt_c 138 rfl) b25 ?_
        refine jv_goto (t := 87) dX8_told_30 rfl ?_
        exact jm_ireturn dX8_told_87 rfl h
    · replace h := h.2 c2
      refine jv_bipush dX8_told_17 ci_bipush_m2 ?_
      exact jm_ireturn dX8_told_19 rfl h
theorem g_X8_isStale_0 {E : JE} {u : JM} {K : Int32 → JM → Prop}  {a1 a2 : Int32}
    (h : JVi E 2 YX8_isStale K 2 [some (.ref 137), some (.int a1), some (.int a2), some (.int 0)] [] u)
    : JVi E 2 YX8_isStale K 0 [some (.ref 137), some (.int a1), some (.int a2), none] [] u := by
  refine jv_iconst dX8_isStale_0 ci_iconst_0 ?_
  refine jv_istore_n (ls' := [some (.ref 137), some (.int a1), some (.int a2), some (.int 0)]) dX8_isStale_1 (Nat.le_of_ble_eq_true rfl) rfl ?_
  exact h
theorem g_X8_isStale_2 {E : JE} {u : JM} {K : Int32 → JM → Prop}  {a1 a2 i3 : Int32}
    (h : (((u 137 0) ≤ i3 → K 0 u) ∧
 (¬ (u 137 0) ≤ i3 → vp_in a1 192 ∧
  vp_in i3 12 ∧
  (((u (148 + a1.toNatClampNeg) i3.toNatClampNeg) ≤ 0 → JVi E 2 YX8_isStale K 2 [some (.ref 137), some (.int a1), some (.int a2), some (.int (i3 + 1))] [] u) ∧
  (¬ (u (148 + a1.toNatClampNeg) i3.toNatClampNeg) ≤ 0 → (((u 141 i3.toNatClampNeg) = 0 → K 1 u) ∧
   (¬ (u 141 i3.toNatClampNeg) = 0 → (((u (148 + a1.toNatClampNeg) i3.toNatClampNeg) = (u 142 (2 * i3 + (if u 138 i3.toNatClampNeg = a2 then 0 else 1)).toNatClampNeg) → JVi E 2 YX8_isStale K 2 [some (.ref 137), some (.int a1), some (.int a2), some (.int (i3 + 1))] [] u) ∧
    (¬ (u (148 + a1.toNatClampNeg) i3.toNatClampNeg) = (u 142 (2 * i3 + (if u 138 i3.toNatClampNeg = a2 then 0 else 1)).toNatClampNeg) → K 1 u)))))))))
    : JVi E 2 YX8_isStale K 2 [some (.ref 137), some (.int a1), some (.int a2), some (.int i3)] [] u := by
  refine jv_iload_n dX8_isStale_2 rfl ?_
  refine jv_aload_n dX8_isStale_3 rfl ?_
  refine gf_8_129 rfl dX8_isStale_4 kd_c_137 (lt_c 137 rfl) ?_
  refine jv_icmp_ge (t := 55) dX8_isStale_7 rfl (fun c1 => ?_) (fun c1 => ?_)
  · replace h := h.1 c1
    refine jv_iconst dX8_isStale_55 ci_iconst_0 ?_
    exact jm_zreturn dX8_isStale_56 rfl (Or.inl rfl) h
  · replace h := h.2 c1
    refine jv_aload_n dX8_isStale_10 rfl ?_
    refine gf_8_39 rfl dX8_isStale_11 kd_c_137 (lt_c 137 rfl) rf_c_137_10 ?_
    refine jv_iload_n dX8_isStale_14 rfl ?_
    obtain ⟨b2, h⟩ := h
    refine jm_aaload1 dX8_isStale_15 kd_c_147 (lt_c 147 rfl) b2 (rf_r_147 _) ?_
    refine jv_iload_n dX8_isStale_16 rfl ?_
    obtain ⟨b3, h⟩ := h
    refine jm_iaload dX8_isStale_17 (kd_r_147 (vp_lt b2)) (lt_r_147 (vp_lt b2)) b3 ?_
    refine jv_if_le (t := 49) dX8_isStale_18 rfl (fun c4 => ?_) (fun c4 => ?_)
    · replace h := h.1 c4
      refine jv_iinc (v := i3 + 1) (ls' := [some (.ref 137), some (.int a1), some (.int a2), some (.int (i3 + 1))]) dX8_isStale_49 (Nat.le_of_ble_eq_true rfl) rfl (by rw [ci_iconst_1]) rfl ?_
      refine jv_goto (t := 2) dX8_isStale_52 rfl ?_
      exact h
    · replace h := h.2 c4
      refine jv_aload_n dX8_isStale_21 rfl ?_
      refine gf_8_19 rfl dX8_isStale_22 kd_c_137 (lt_c 137 rfl) rf_c_137_4 ?_
      refine jv_iload_n dX8_isStale_25 rfl ?_
      refine jm_iaload dX8_isStale_26 kd_c_141 (lt_c 141 rfl) b3 ?_
      refine jv_if_eq (t := 47) dX8_isStale_27 rfl (fun c5 => ?_) (fun c5 => ?_)
      · replace h := h.1 c5
        refine jv_iconst dX8_isStale_47 ci_iconst_1 ?_
        exact jm_zreturn dX8_isStale_48 rfl (Or.inr rfl) h
      · replace h := h.2 c5
        refine jv_aload_n dX8_isStale_30 rfl ?_
        refine gf_8_39 rfl dX8_isStale_31 kd_c_137 (lt_c 137 rfl) rf_c_137_10 ?_
        refine jv_iload_n dX8_isStale_34 rfl ?_
        refine jm_aaload1 dX8_isStale_35 kd_c_147 (lt_c 147 rfl) b2 (rf_r_147 _) ?_
        refine jv_iload_n dX8_isStale_36 rfl ?_
        refine jm_iaload dX8_isStale_37 (kd_r_147 (vp_lt b2)) (lt_r_147 (vp_lt b2)) b3 ?_
        refine jv_aload_n dX8_isStale_38 rfl ?_
        refine jv_iload_n dX8_isStale_39 rfl ?_
        refine jv_iload_n dX8_isStale_40 rfl ?_
        refine jm_callVi [.int i3, .int a2] cw_8_151 dX8_isStale_41 rfl (Nat.le_of_ble_eq_true rfl) kd_c_137 (r := (RX8, TX8, 48)) rfl rfl (lt_c 137 rfl) (Nat.le_of_ble_eq_true rfl) (p_X8_priceFrom b3 ?_)
        refine jv_icmp_eq (t := 49) dX8_isStale_44 rfl (fun c6 => ?_) (fun c6 => ?_)
        · replace h := h.1 c6
          refine jv_iinc (v := i3 + 1) (ls' := [some (.ref 137), some (.int a1), some (.int a2), some (.int (i3 + 1))]) dX8_isStale_49 (Nat.le_of_ble_eq_true rfl) rfl (by rw [ci_iconst_1]) rfl ?_
          refine jv_goto (t := 2) dX8_isStale_52 rfl ?_
          exact h
        · replace h := h.2 c6
          refine jv_iconst dX8_isStale_47 ci_iconst_1 ?_
          exact jm_zreturn dX8_isStale_48 rfl (Or.inr rfl) h
theorem g_X8_knows_0 {E : JE} {u : JM} {K : Int32 → JM → Prop}  {a1 a2 : Int32}
    (h : JVi E 3 YX8_knows K 5 [some (.ref 137), some (.int a1), some (.int a2), some (.int 0), some (.int 0), none, none] [] u)
    : JVi E 3 YX8_knows K 0 [some (.ref 137), some (.int a1), some (.int a2), none, none, none, none] [] u := by
  refine jv_iconst dX8_knows_0 ci_iconst_0 ?_
  refine jv_istore_n (ls' := [some (.ref 137), some (.int a1), some (.int a2), some (.int 0), none, none, none]) dX8_knows_1 (Nat.le_of_ble_eq_true rfl) rfl ?_
  refine jv_iconst dX8_knows_2 ci_iconst_0 ?_
  refine jv_istore (ls' := [some (.ref 137), some (.int a1), some (.int a2), some (.int 0), some (.int 0), none, none]) dX8_knows_3 (Nat.le_of_ble_eq_true rfl) rfl ?_
  exact h
theorem g_X8_knows_5 {E : JE} {u : JM} {K : Int32 → JM → Prop}  {a1 a2 i3 i4 : Int32}
    (h : ((8 ≤ i4 → K i3 u) ∧
 (¬ 8 ≤ i4 → JVi E 3 YX8_knows K 15 [some (.ref 137), some (.int a1), some (.int a2), some (.int i3), some (.int i4), some (.int 0), none] [] u)))
    : JVi E 3 YX8_knows K 5 [some (.ref 137), some (.int a1), some (.int a2), some (.int i3), some (.int i4), none, none] [] u := by
  refine jv_iload dX8_knows_5 rfl ?_
  refine jv_bipush dX8_knows_7 ci_bipush_8 ?_
  refine jv_icmp_ge (t := 71) dX8_knows_9 rfl (fun c1 => ?_) (fun c1 => ?_)
  · replace h := h.1 c1
    refine jv_iload_n dX8_knows_71 rfl ?_
    exact jm_ireturn dX8_knows_72 rfl h
  · replace h := h.2 c1
    refine jv_iconst dX8_knows_12 ci_iconst_0 ?_
    refine jv_istore (ls' := [some (.ref 137), some (.int a1), some (.int a2), some (.int i3), some (.int i4), some (.int 0), none]) dX8_knows_13 (Nat.le_of_ble_eq_true rfl) rfl ?_
    exact h
theorem g_X8_knows_15 {E : JE} {u : JM} {K : Int32 → JM → Prop}  {a1 a2 i3 i4 i5 : Int32}
    (h : ((3 ≤ i5 → JVi E 3 YX8_knows K 5 [some (.ref 137), some (.int a1), some (.int a2), some (.int i3), some (.int (i4 + 1)), none, none] [] u) ∧
 (¬ 3 ≤ i5 → ∀ i6_1 : Int32, i6_1 = (a1 * 8 + i4) * 3 + i5 →
  vp_in i6_1 192 ∧
  (((u 143 i6_1.toNatClampNeg) ≤ 0 → JVi E 3 YX8_knows K 15 [some (.ref 137), some (.int a1), some (.int a2), some (.int i3), some (.int i4), some (.int (i5 + 1)), none] [] u) ∧
  (¬ (u 143 i6_1.toNatClampNeg) ≤ 0 → ((a2 = 0 → JVi E 3 YX8_knows K 15 [some (.ref 137), some (.int a1), some (.int a2), some (.int (i3 + 1)), some (.int i4), some (.int (i5 + 1)), none] [] u) ∧
   (¬ a2 = 0 → JCi E 2 YX8_isStale [.ref 137, .int i6_1, .int i4] (fun x2 u2 =>
    ∀ i3_3 : Int32, i3_3 = (if x2 = 0 then i3 else (i3 + 1)) →
     JVi E 3 YX8_knows K 15 [some (.ref 137), some (.int a1), some (.int a2), some (.int i3_3), some (.int i4), some (.int (i5 + 1)), none] [] u2) u)))))))
    : JVi E 3 YX8_knows K 15 [some (.ref 137), some (.int a1), some (.int a2), some (.int i3), some (.int i4), some (.int i5), none] [] u := by
  refine jv_iload dX8_knows_15 rfl ?_
  refine jv_iconst dX8_knows_17 ci_iconst_3 ?_
  refine jv_icmp_ge (t := 65) dX8_knows_18 rfl (fun c1 => ?_) (fun c1 => ?_)
  · replace h := h.1 c1
    refine jv_iinc (v := i4 + 1) (ls' := [some (.ref 137), some (.int a1), some (.int a2), some (.int i3), some (.int (i4 + 1)), some (.int i5), none]) dX8_knows_65 (Nat.le_of_ble_eq_true rfl) rfl (by rw [ci_iconst_1]) rfl ?_
    refine jv_goto (t := 5) dX8_knows_68 rfl ?_
    exact jm_sub (ls' := [some (.ref 137), some (.int a1), some (.int a2), some (.int i3), some (.int (i4 + 1)), none, none]) ⟨rfl, rfl, rfl, rfl, rfl, trivial⟩ h
  · replace h := h.2 c1
    refine jv_iload_n dX8_knows_21 rfl ?_
    refine jv_iload dX8_knows_22 rfl ?_
    refine jv_iload dX8_knows_24 rfl ?_
    refine jm_callSi [.int a1, .int i4, .int i5] cw_8_155 dX8_knows_26 rfl (Nat.le_of_ble_eq_true rfl) (Nat.le_of_ble_eq_true rfl) (p_X8_place  ?_)
    generalize hhi6_1 : (a1 * 8 + i4) * 3 + i5 = i6_1
    replace h := h i6_1 hhi6_1.symm
    refine jv_istore (ls' := [some (.ref 137), some (.int a1), some (.int a2), some (.int i3), some (.int i4), some (.int i5), some (.int i6_1)]) dX8_knows_29 (Nat.le_of_ble_eq_true rfl) rfl ?_
    refine jv_aload_n dX8_knows_31 rfl ?_
    refine gf_8_25 rfl dX8_knows_32 kd_c_137 (lt_c 137 rfl) rf_c_137_6 ?_
    refine jv_iload dX8_knows_35 rfl ?_
    obtain ⟨b3, h⟩ := h
    refine jm_iaload dX8_knows_37 kd_c_143 (lt_c 143 rfl) b3 ?_
    refine jv_if_le (t := 59) dX8_knows_38 rfl (fun c4 => ?_) (fun c4 => ?_)
    · replace h := h.1 c4
      refine jv_iinc (v := i5 + 1) (ls' := [some (.ref 137), some (.int a1), some (.int a2), some (.int i3), some (.int i4), some (.int (i5 + 1)), some (.int i6_1)]) dX8_knows_59 (Nat.le_of_ble_eq_true rfl) rfl (by rw [ci_iconst_1]) rfl ?_
      refine jv_goto (t := 15) dX8_knows_62 rfl ?_
      exact jm_sub (ls' := [some (.ref 137), some (.int a1), some (.int a2), some (.int i3), some (.int i4), some (.int (i5 + 1)), none]) ⟨rfl, rfl, rfl, rfl, rfl, rfl, trivial⟩ h
    · replace h := h.2 c4
      refine jv_iload_n dX8_knows_41 rfl ?_
      refine jv_if_eq (t := 56) dX8_knows_42 rfl (fun c5 => ?_) (fun c5 => ?_)
      · replace h := h.1 c5
        refine jv_iinc (v := i3 + 1) (ls' := [some (.ref 137), some (.int a1), some (.int a2), some (.int (i3 + 1)), some (.int i4), some (.int i5), some (.int i6_1)]) dX8_knows_56 (Nat.le_of_ble_eq_true rfl) rfl (by rw [ci_iconst_1]) rfl ?_
        refine jv_iinc (v := i5 + 1) (ls' := [some (.ref 137), some (.int a1), some (.int a2), some (.int (i3 + 1)), some (.int i4), some (.int (i5 + 1)), some (.int i6_1)]) dX8_knows_59 (Nat.le_of_ble_eq_true rfl) rfl (by rw [ci_iconst_1]) rfl ?_
        refine jv_goto (t := 15) dX8_knows_62 rfl ?_
        exact jm_sub (ls' := [some (.ref 137), some (.int a1), some (.int a2), some (.int (i3 + 1)), some (.int i4), some (.int (i5 + 1)), none]) ⟨rfl, rfl, rfl, rfl, rfl, rfl, trivial⟩ h
      · replace h := h.2 c5
        refine jv_aload_n dX8_knows_45 rfl ?_
        refine jv_iload dX8_knows_46 rfl ?_
        refine jv_iload dX8_knows_48 rfl ?_
        refine jm_callVi [.int i6_1, .int i4] cw_8_159 dX8_knows_50 rfl (Nat.le_of_ble_eq_true rfl) kd_c_137 (r := (RX8, TX8, 48)) rfl rfl (lt_c 137 rfl) (Nat.le_of_ble_eq_true rfl) (JCi.mono h (fun x2 u2 h => ?_))
        have key7 : ∀ i3_3 : Int32, i3_3 = (if x2 = 0 then i3 else (i3 + 1)) → JVi E 3 YX8_knows K 59 [some (.ref 137), some (.int a1), some (.int a2), some (.int i3_3), some (.int i4), some (.int i5), some (.int i6_1)] [] u2 := by
          intro i3_3 hi3_3
          replace h := h i3_3 hi3_3
          refine jv_iinc (v := i5 + 1) (ls' := [some (.ref 137), some (.int a1), some (.int a2), some (.int i3_3), some (.int i4), some (.int (i5 + 1)), some (.int i6_1)]) dX8_knows_59 (Nat.le_of_ble_eq_true rfl) rfl (by rw [ci_iconst_1]) rfl ?_
          refine jv_goto (t := 15) dX8_knows_62 rfl ?_
          exact jm_sub (ls' := [some (.ref 137), some (.int a1), some (.int a2), some (.int i3_3), some (.int i4), some (.int (i5 + 1)), none]) ⟨rfl, rfl, rfl, rfl, rfl, rfl, trivial⟩ h
        clear h
        refine jv_if_eq (t := 59) dX8_knows_53 rfl (fun c8 => ?_) (fun c8 => ?_)
        · exact key7 _ (Eq.trans rfl (if_pos c8).symm)
        · refine jv_iinc (v := i3 + 1) (ls' := [some (.ref 137), some (.int a1), some (.int a2), some (.int (i3 + 1)), some (.int i4), some (.int i5), some (.int i6_1)]) dX8_knows_56 (Nat.le_of_ble_eq_true rfl) rfl (by rw [ci_iconst_1]) rfl ?_
          exact key7 _ (Eq.trans rfl (if_neg c8).symm)
theorem g_X8_router_0 {E : JE} {u : JM} {K : Int32 → JM → Prop}  {a1 a2 : Int32}
    (h : JCi E 2 YX8_isRouter [.int a1] (fun x1 u1 =>
 ((x1 = 0 → K (-2) u1) ∧
  (¬ x1 = 0 → ((¬ (jb (rg a2 (0 : Int32).toInt (3 : Int32).toInt)) = 0 → ((¬ a2 = 0 → ((¬ a2 = 1 → ∀ v_2 : Int32, v_2 = (if a2 = 3 then 1 else 0) →
      JCi E 3 YX8_knows [.ref 137, .int a1, .int v_2] (fun x3 u3 =>
      K x3 u3) u1) ∧
     (a2 = 1 → JCi E 3 YX8_isBorder [.ref 137, .int a1] (fun x4 u4 =>
      ((x4 = 0 → K 0 u4) ∧
       (¬ x4 = 0 → K 1 u4))) u1))) ∧
    (a2 = 0 → JCi E 2 YX8_areasOf [.ref 137, .int a1] (fun x5 u5 =>
     K x5 u5) u1))) ∧
   ((jb (rg a2 (0 : Int32).toInt (3 : Int32).toInt)) = 0 → K (-2) u1))))) u)
    : JVi E 4 YX8_router K 0 [some (.ref 137), some (.int a1), some (.int a2)] [] u := by
  refine jv_iload_n dX8_router_0 rfl ?_
  refine jm_callSi [.int a1] cw_8_141 dX8_router_1 rfl (Nat.le_of_ble_eq_true rfl) (Nat.le_of_ble_eq_true rfl) (JCi.mono h (fun x1 u1 h => ?_))
  refine jv_if_eq (t := 16) dX8_router_4 rfl (fun c1 => ?_) (fun c1 => ?_)
  · replace h := h.1 c1
    refine jv_bipush dX8_router_16 ci_bipush_m2 ?_
    exact jm_ireturn dX8_router_18 rfl h
  · replace h := h.2 c1
    refine jv_iload_n dX8_router_7 rfl ?_
    refine jv_iconst dX8_router_8 ci_iconst_0 ?_
    refine jv_iconst dX8_router_9 ci_iconst_3 ?_
    refine jm_callSi [.int a2, .int 0, .int 3] cw_8_125 dX8_router_10 rfl (Nat.le_of_ble_eq_true rfl) (Nat.le_of_ble_eq_true rfl) (p_X8_in  ?_)
    refine jv_if_ne (t := 19) dX8_router_13 rfl (fun c2 => ?_) (fun c2 => ?_)
    · replace h := h.1 c2
      refine jv_iload_n dX8_router_19 rfl ?_
      refine jv_if_ne (t := 31) dX8_router_20 rfl (fun c3 => ?_) (fun c3 => ?_)
      · replace h := h.1 c3
        refine jv_iload_n dX8_router_31 rfl ?_
        refine jv_iconst dX8_router_32 ci_iconst_1 ?_
        refine jv_icmp_ne (t := 52) dX8_router_33 rfl (fun c4 => ?_) (fun c4 => ?_)
        · replace h := h.1 c4
          refine jv_aload_n dX8_router_52 rfl ?_
          refine jv_iload_n dX8_router_53 rfl ?_
          refine jv_iload_n dX8_router_54 rfl ?_
          refine jv_iconst dX8_router_55 ci_iconst_3 ?_
          have key6 : ∀ v_2 : Int32, v_2 = (if a2 = 3 then 1 else 0) → JVi E 4 YX8_router K 64 [some (.ref 137), some (.int a1), some (.int a2)] [.int v_2, .int a1, .ref 137] u1 := by
            intro v_2 hv_2
            replace h := h v_2 hv_2
            refine jm_callVi [.int a1, .int v_2] cw_8_165 dX8_router_64 rfl (Nat.le_of_ble_eq_true rfl) kd_c_137 (r := (RX8, TX8, 48)) rfl rfl (lt_c 137 rfl) (Nat.le_of_ble_eq_true rfl) (JCi.mono h (fun x3 u3 h => ?_))
            exact jm_ireturn dX8_router_67 rfl h
          clear h
          refine jv_icmp_ne (t := 63) dX8_router_56 rfl (fun c7 => ?_) (fun c7 => ?_)
          · refine jv_iconst dX8_router_63 ci_iconst_0 ?_
            exact key6 _ (Eq.trans rfl (if_neg c7).symm)
          · refine jv_iconst dX8_router_59 ci_iconst_1 ?_
            refine jv_goto (t := 64) dX8_router_60 rfl ?_
            exact key6 _ (Eq.trans rfl (if_pos c7).symm)
        · replace h := h.2 c4
          refine jv_aload_n dX8_router_36 rfl ?_
          refine jv_iload_n dX8_router_37 rfl ?_
          refine jm_callVi [.int a1] cw_8_162 dX8_router_38 rfl (Nat.le_of_ble_eq_true rfl) kd_c_137 (r := (RX8, TX8, 48)) rfl rfl (lt_c 137 rfl) (Nat.le_of_ble_eq_true rfl) (JCi.mono h (fun x4 u4 h => ?_))
          refine jv_if_eq (t := 48) dX8_router_41 rfl (fun c8 => ?_) (fun c8 => ?_)
          · replace h := h.1 c8
            refine jv_iconst dX8_router_48 ci_iconst_0 ?_
            refine jv_goto (t := 67) dX8_router_49 rfl ?_
            exact jm_ireturn dX8_router_67 rfl h
          · replace h := h.2 c8
            refine jv_iconst dX8_router_44 ci_iconst_1 ?_
            refine jv_goto (t := 67) dX8_router_45 rfl ?_
            exact jm_ireturn dX8_router_67 rfl h
      · replace h := h.2 c3
        refine jv_aload_n dX8_router_23 rfl ?_
        refine jv_iload_n dX8_router_24 rfl ?_
        refine jm_callVi [.int a1] cw_8_137 dX8_router_25 rfl (Nat.le_of_ble_eq_true rfl) kd_c_137 (r := (RX8, TX8, 48)) rfl rfl (lt_c 137 rfl) (Nat.le_of_ble_eq_true rfl) (JCi.mono h (fun x5 u5 h => ?_))
        refine jv_goto (t := 67) dX8_router_28 rfl ?_
        exact jm_ireturn dX8_router_67 rfl h
    · replace h := h.2 c2
      refine jv_bipush dX8_router_16 ci_bipush_m2 ?_
      exact jm_ireturn dX8_router_18 rfl h
theorem g_X8_taken_0 {E : JE} {u : JM} {K : Int32 → JM → Prop}  {a1 a2 : Int32}
    (h : JCi E 2 YX8_isRouter [.int a1] (fun x1 u1 =>
 ((x1 = 0 → K (-2) u1) ∧
  (¬ x1 = 0 → ((¬ (jb (rg a2 (0 : Int32).toInt (2 : Int32).toInt)) = 0 → JCi E 2 YX8_areasOf [.ref 137, .int a1] (fun x2 u2 =>
    ((¬ a2 = 0 → ((¬ a2 = 1 → ∀ v_3 : Int32, v_3 = (if x2 = 1 then 1 else 0) →
       JVi E 4 YX8_taken K 72 [some (.ref 137), some (.int a1), some (.int a2), some (.int x2), some (.int v_3), some (.int 0), some (.int 0)] [] u2) ∧
      (a2 = 1 → JCi E 3 YX8_isBorder [.ref 137, .int a1] (fun x4 u4 =>
       JVi E 4 YX8_taken K 72 [some (.ref 137), some (.int a1), some (.int a2), some (.int x2), some (.int x4), some (.int 0), some (.int 0)] [] u4) u2))) ∧
     (a2 = 0 → ∀ v_5 : Int32, v_5 = (if x2 = 0 then 0 else 1) →
      JVi E 4 YX8_taken K 72 [some (.ref 137), some (.int a1), some (.int a2), some (.int x2), some (.int v_5), some (.int 0), some (.int 0)] [] u2))) u1) ∧
   ((jb (rg a2 (0 : Int32).toInt (2 : Int32).toInt)) = 0 → K (-2) u1))))) u)
    : JVi E 4 YX8_taken K 0 [some (.ref 137), some (.int a1), some (.int a2), none, none, none, none] [] u := by
  refine jv_iload_n dX8_taken_0 rfl ?_
  refine jm_callSi [.int a1] cw_8_141 dX8_taken_1 rfl (Nat.le_of_ble_eq_true rfl) (Nat.le_of_ble_eq_true rfl) (JCi.mono h (fun x1 u1 h => ?_))
  refine jv_if_eq (t := 16) dX8_taken_4 rfl (fun c1 => ?_) (fun c1 => ?_)
  · replace h := h.1 c1
    refine jv_bipush dX8_taken_16 ci_bipush_m2 ?_
    exact jm_ireturn dX8_taken_18 rfl h
  · replace h := h.2 c1
    refine jv_iload_n dX8_taken_7 rfl ?_
    refine jv_iconst dX8_taken_8 ci_iconst_0 ?_
    refine jv_iconst dX8_taken_9 ci_iconst_2 ?_
    refine jm_callSi [.int a2, .int 0, .int 2] cw_8_125 dX8_taken_10 rfl (Nat.le_of_ble_eq_true rfl) (Nat.le_of_ble_eq_true rfl) (p_X8_in  ?_)
    refine jv_if_ne (t := 19) dX8_taken_13 rfl (fun c2 => ?_) (fun c2 => ?_)
    · replace h := h.1 c2
      refine jv_aload_n dX8_taken_19 rfl ?_
      refine jv_iload_n dX8_taken_20 rfl ?_
      refine jm_callVi [.int a1] cw_8_137 dX8_taken_21 rfl (Nat.le_of_ble_eq_true rfl) kd_c_137 (r := (RX8, TX8, 48)) rfl rfl (lt_c 137 rfl) (Nat.le_of_ble_eq_true rfl) (JCi.mono h (fun x2 u2 h => ?_))
      refine jv_istore_n (ls' := [some (.ref 137), some (.int a1), some (.int a2), some (.int x2), none, none, none]) dX8_taken_24 (Nat.le_of_ble_eq_true rfl) rfl ?_
      refine jv_iload_n dX8_taken_25 rfl ?_
      refine jv_if_ne (t := 41) dX8_taken_26 rfl (fun c3 => ?_) (fun c3 => ?_)
      · replace h := h.1 c3
        refine jv_iload_n dX8_taken_41 rfl ?_
        refine jv_iconst dX8_taken_42 ci_iconst_1 ?_
        refine jv_icmp_ne (t := 54) dX8_taken_43 rfl (fun c4 => ?_) (fun c4 => ?_)
        · replace h := h.1 c4
          refine jv_iload_n dX8_taken_54 rfl ?_
          refine jv_iconst dX8_taken_55 ci_iconst_1 ?_
          have key6 : ∀ v_3 : Int32, v_3 = (if x2 = 1 then 1 else 0) → JVi E 4 YX8_taken K 64 [some (.ref 137), some (.int a1), some (.int a2), some (.int x2), none, none, none] [.int v_3] u2 := by
            intro v_3 hv_3
            replace h := h v_3 hv_3
            refine jv_istore (ls' := [some (.ref 137), some (.int a1), some (.int a2), some (.int x2), some (.int v_3), none, none]) dX8_taken_64 (Nat.le_of_ble_eq_true rfl) rfl ?_
            refine jv_iconst dX8_taken_66 ci_iconst_0 ?_
            refine jv_istore (ls' := [some (.ref 137), some (.int a1), some (.int a2), some (.int x2), some (.int v_3), some (.int 0), none]) dX8_taken_67 (Nat.le_of_ble_eq_true rfl) rfl ?_
            refine jv_iconst dX8_taken_69 ci_iconst_0 ?_
            refine jv_istore (ls' := [some (.ref 137), some (.int a1), some (.int a2), some (.int x2), some (.int v_3), some (.int 0), some (.int 0)]) dX8_taken_70 (Nat.le_of_ble_eq_true rfl) rfl ?_
            exact h
          clear h
          refine jv_icmp_ne (t := 63) dX8_taken_56 rfl (fun c7 => ?_) (fun c7 => ?_)
          · refine jv_iconst dX8_taken_63 ci_iconst_0 ?_
            exact key6 _ (Eq.trans rfl (if_neg c7).symm)
          · refine jv_iconst dX8_taken_59 ci_iconst_1 ?_
            refine jv_goto (t := 64) dX8_taken_60 rfl ?_
            exact key6 _ (Eq.trans rfl (if_pos c7).symm)
        · replace h := h.2 c4
          refine jv_aload_n dX8_taken_46 rfl ?_
          refine jv_iload_n dX8_taken_47 rfl ?_
          refine jm_callVi [.int a1] cw_8_162 dX8_taken_48 rfl (Nat.le_of_ble_eq_true rfl) kd_c_137 (r := (RX8, TX8, 48)) rfl rfl (lt_c 137 rfl) (Nat.le_of_ble_eq_true rfl) (JCi.mono h (fun x4 u4 h => ?_))
          refine jv_goto (t := 64) dX8_taken_51 rfl ?_
          refine jv_istore (ls' := [some (.ref 137), some (.int a1), some (.int a2), some (.int x2), some (.int x4), none, none]) dX8_taken_64 (Nat.le_of_ble_eq_true rfl) rfl ?_
          refine jv_iconst dX8_taken_66 ci_iconst_0 ?_
          refine jv_istore (ls' := [some (.ref 137), some (.int a1), some (.int a2), some (.int x2), some (.int x4), some (.int 0), none]) dX8_taken_67 (Nat.le_of_ble_eq_true rfl) rfl ?_
          refine jv_iconst dX8_taken_69 ci_iconst_0 ?_
          refine jv_istore (ls' := [some (.ref 137), some (.int a1), some (.int a2), some (.int x2), some (.int x4), some (.int 0), some (.int 0)]) dX8_taken_70 (Nat.le_of_ble_eq_true rfl) rfl ?_
          exact h
      · replace h := h.2 c3
        refine jv_iload_n dX8_taken_29 rfl ?_
        have key9 : ∀ v_5 : Int32, v_5 = (if x2 = 0 then 0 else 1) → JVi E 4 YX8_taken K 64 [some (.ref 137), some (.int a1), some (.int a2), some (.int x2), none, none, none] [.int v_5] u2 := by
          intro v_5 hv_5
          replace h := h v_5 hv_5
          refine jv_istore (ls' := [some (.ref 137), some (.int a1), some (.int a2), some (.int x2), some (.int v_5), none, none]) dX8_taken_64 (Nat.le_of_ble_eq_true rfl) rfl ?_
          refine jv_iconst dX8_taken_66 ci_iconst_0 ?_
          refine jv_istore (ls' := [some (.ref 137), some (.int a1), some (.int a2), some (.int x2), some (.int v_5), some (.int 0), none]) dX8_taken_67 (Nat.le_of_ble_eq_true rfl) rfl ?_
          refine jv_iconst dX8_taken_69 ci_iconst_0 ?_
          refine jv_istore (ls' := [some (.ref 137), some (.int a1), some (.int a2), some (.int x2), some (.int v_5), some (.int 0), some (.int 0)]) dX8_taken_70 (Nat.le_of_ble_eq_true rfl) rfl ?_
          exact h
        clear h
        refine jv_if_eq (t := 37) dX8_taken_30 rfl (fun c10 => ?_) (fun c10 => ?_)
        · refine jv_iconst dX8_taken_37 ci_iconst_0 ?_
          refine jv_goto (t := 64) dX8_taken_38 rfl ?_
          exact key9 _ (Eq.trans rfl (if_pos c10).symm)
        · refine jv_iconst dX8_taken_33 ci_iconst_1 ?_
          refine jv_goto (t := 64) dX8_taken_34 rfl ?_
          exact key9 _ (Eq.trans rfl (if_neg c10).symm)
    · replace h := h.2 c2
      refine jv_bipush dX8_taken_16 ci_bipush_m2 ?_
      exact jm_ireturn dX8_taken_18 rfl h
theorem g_X8_taken_72 {E : JE} {u : JM} {K : Int32 → JM → Prop}  {a1 a2 i3 i4 i5 i6 : Int32}
    (h : (((u 137 0) ≤ i6 → ((i4 = 0 → K (-13) u) ∧
  (¬ i4 = 0 → K i5 u))) ∧
 (¬ (u 137 0) ≤ i6 → vp_in i6 12 ∧
  ∀ i5_1 : Int32, i5_1 = (if (u 141 i6.toNatClampNeg) = 1 then (if (jb (u 138 i6.toNatClampNeg = a1 ∨ u 139 i6.toNatClampNeg = a1)) = 0 then i5 else (i5 + 1)) else i5) →
  JVi E 4 YX8_taken K 72 [some (.ref 137), some (.int a1), some (.int a2), some (.int i3), some (.int i4), some (.int i5_1), some (.int (i6 + 1))] [] u)))
    : JVi E 4 YX8_taken K 72 [some (.ref 137), some (.int a1), some (.int a2), some (.int i3), some (.int i4), some (.int i5), some (.int i6)] [] u := by
  refine jv_iload dX8_taken_72 rfl ?_
  refine jv_aload_n dX8_taken_74 rfl ?_
  refine gf_8_129 rfl dX8_taken_75 kd_c_137 (lt_c 137 rfl) ?_
  refine jv_icmp_ge (t := 111) dX8_taken_78 rfl (fun c1 => ?_) (fun c1 => ?_)
  · replace h := h.1 c1
    refine jv_iload dX8_taken_111 rfl ?_
    refine jv_if_eq (t := 121) dX8_taken_113 rfl (fun c4 => ?_) (fun c4 => ?_)
    · replace h := h.1 c4
      refine jv_bipush dX8_taken_121 ci_bipush_m13 ?_
      exact jm_ireturn dX8_taken_123 rfl h
    · replace h := h.2 c4
      refine jv_iload dX8_taken_116 rfl ?_
      refine jv_goto (t := 123) dX8_taken_118 rfl ?_
      exact jm_ireturn dX8_taken_123 rfl h
  · replace h := h.2 c1
    refine jv_aload_n dX8_taken_81 rfl ?_
    refine gf_8_19 rfl dX8_taken_82 kd_c_137 (lt_c 137 rfl) rf_c_137_4 ?_
    refine jv_iload dX8_taken_85 rfl ?_
    obtain ⟨b5, h⟩ := h
    refine jm_iaload dX8_taken_87 kd_c_141 (lt_c 141 rfl) b5 ?_
    refine jv_iconst dX8_taken_88 ci_iconst_1 ?_
    have key7 : ∀ i5_1 : Int32, i5_1 = (if (u 141 i6.toNatClampNeg) = 1 then (if (jb (u 138 i6.toNatClampNeg = a1 ∨ u 139 i6.toNatClampNeg = a1)) = 0 then i5 else (i5 + 1)) else i5) → JVi E 4 YX8_taken K 105 [some (.ref 137), some (.int a1), some (.int a2), some (.int i3), some (.int i4), some (.int i5_1), some (.int i6)] [] u := by
      intro i5_1 hi5_1
      replace h := h i5_1 hi5_1
      refine jv_iinc (v := i6 + 1) (ls' := [some (.ref 137), some (.int a1), some (.int a2), some (.int i3), some (.int i4), some (.int i5_1), some (.int (i6 + 1))]) dX8_taken_105 (Nat.le_of_ble_eq_true rfl) rfl (by rw [ci_iconst_1]) rfl ?_
      refine jv_goto (t := 72) dX8_taken_108 rfl ?_
      exact h
    clear h
    refine jv_icmp_ne (t := 105) dX8_taken_89 rfl (fun c8 => ?_) (fun c8 => ?_)
    · exact key7 _ (Eq.trans rfl (if_neg c8).symm)
    · refine jv_aload_n dX8_taken_92 rfl ?_
      refine jv_iload dX8_taken_93 rfl ?_
      refine jv_iload_n dX8_taken_95 rfl ?_
      refine jm_callVi [.int i6, .int a1] cw_8_133 dX8_taken_96 rfl (Nat.le_of_ble_eq_true rfl) kd_c_137 (r := (RX8, TX8, 48)) rfl rfl (lt_c 137 rfl) (Nat.le_of_ble_eq_true rfl) (p_X8_isEnd b5 ?_)
      refine jv_if_eq (t := 105) dX8_taken_99 rfl (fun c9 => ?_) (fun c9 => ?_)
      · exact key7 _ (Eq.trans (Eq.trans rfl (if_pos c9).symm) (if_pos c8).symm)
      · refine jv_iinc (v := i5 + 1) (ls' := [some (.ref 137), some (.int a1), some (.int a2), some (.int i3), some (.int i4), some (.int (i5 + 1)), some (.int i6)]) dX8_taken_102 (Nat.le_of_ble_eq_true rfl) rfl (by rw [ci_iconst_1]) rfl ?_
        exact key7 _ (Eq.trans (Eq.trans rfl (if_neg c9).symm) (if_pos c8).symm)
theorem g_X8_edge_0 {E : JE} {u : JM} {K : Int32 → JM → Prop}  {a1 a2 a3 a4 : Int32}
    (h : ∀ i5_1 : Int32, i5_1 = (a1 * 8 + a4) * 3 + a2 →
 vp_in a3 12 ∧
 ∀ i6_2 : Int32, i6_2 = (a1 * 8 + (if u 138 a3.toNatClampNeg = a4 then u 139 a3.toNatClampNeg else u 138 a3.toNatClampNeg)) * 3 + a2 →
 vp_in i5_1 192 ∧
 (((u 143 i5_1.toNatClampNeg) ≤ 0 → K 0 u) ∧
 (¬ (u 143 i5_1.toNatClampNeg) ≤ 0 → vp_in i6_2 192 ∧
  (((u 143 i6_2.toNatClampNeg) ≤ 0 → K 0 u) ∧
  (¬ (u 143 i6_2.toNatClampNeg) ≤ 0 → (((u (148 + i6_2.toNatClampNeg) a3.toNatClampNeg) ≤ 0 → K 0 u) ∧
   (¬ (u (148 + i6_2.toNatClampNeg) a3.toNatClampNeg) ≤ 0 → K (u (148 + i5_1.toNatClampNeg) a3.toNatClampNeg) u)))))))
    : JVi E 2 YX8_edge K 0 [some (.ref 137), some (.int a1), some (.int a2), some (.int a3), some (.int a4), none, none] [] u := by
  refine jv_iload_n dX8_edge_0 rfl ?_
  refine jv_iload dX8_edge_1 rfl ?_
  refine jv_iload_n dX8_edge_3 rfl ?_
  refine jm_callSi [.int a1, .int a4, .int a2] cw_8_155 dX8_edge_4 rfl (Nat.le_of_ble_eq_true rfl) (Nat.le_of_ble_eq_true rfl) (p_X8_place  ?_)
  generalize hhi5_1 : (a1 * 8 + a4) * 3 + a2 = i5_1
  replace h := h i5_1 hhi5_1.symm
  refine jv_istore (ls' := [some (.ref 137), some (.int a1), some (.int a2), some (.int a3), some (.int a4), some (.int i5_1), none]) dX8_edge_7 (Nat.le_of_ble_eq_true rfl) rfl ?_
  refine jv_iload_n dX8_edge_9 rfl ?_
  refine jv_aload_n dX8_edge_10 rfl ?_
  refine jv_iload_n dX8_edge_11 rfl ?_
  refine jv_iload dX8_edge_12 rfl ?_
  obtain ⟨b1, h⟩ := h
  refine jm_callVi [.int a3, .int a4] cw_8_169 dX8_edge_14 rfl (Nat.le_of_ble_eq_true rfl) kd_c_137 (r := (RX8, TX8, 48)) rfl rfl (lt_c 137 rfl) (Nat.le_of_ble_eq_true rfl) (p_X8_otherEnd b1 ?_)
  refine jv_iload_n dX8_edge_17 rfl ?_
  refine jm_callSi [.int a1, .int (if u 138 a3.toNatClampNeg = a4 then u 139 a3.toNatClampNeg else u 138 a3.toNatClampNeg), .int a2] cw_8_155 dX8_edge_18 rfl (Nat.le_of_ble_eq_true rfl) (Nat.le_of_ble_eq_true rfl) (p_X8_place  ?_)
  generalize hhi6_2 : (a1 * 8 + (if u 138 a3.toNatClampNeg = a4 then u 139 a3.toNatClampNeg else u 138 a3.toNatClampNeg)) * 3 + a2 = i6_2
  replace h := h i6_2 hhi6_2.symm
  refine jv_istore (ls' := [some (.ref 137), some (.int a1), some (.int a2), some (.int a3), some (.int a4), some (.int i5_1), some (.int i6_2)]) dX8_edge_21 (Nat.le_of_ble_eq_true rfl) rfl ?_
  refine jv_aload_n dX8_edge_23 rfl ?_
  refine gf_8_25 rfl dX8_edge_24 kd_c_137 (lt_c 137 rfl) rf_c_137_6 ?_
  refine jv_iload dX8_edge_27 rfl ?_
  obtain ⟨b2, h⟩ := h
  refine jm_iaload dX8_edge_29 kd_c_143 (lt_c 143 rfl) b2 ?_
  refine jv_if_le (t := 67) dX8_edge_30 rfl (fun c3 => ?_) (fun c3 => ?_)
  · replace h := h.1 c3
    refine jv_iconst dX8_edge_67 ci_iconst_0 ?_
    exact jm_ireturn dX8_edge_68 rfl h
  · replace h := h.2 c3
    refine jv_aload_n dX8_edge_33 rfl ?_
    refine gf_8_25 rfl dX8_edge_34 kd_c_137 (lt_c 137 rfl) rf_c_137_6 ?_
    refine jv_iload dX8_edge_37 rfl ?_
    obtain ⟨b6, h⟩ := h
    refine jm_iaload dX8_edge_39 kd_c_143 (lt_c 143 rfl) b6 ?_
    refine jv_if_le (t := 67) dX8_edge_40 rfl (fun c7 => ?_) (fun c7 => ?_)
    · replace h := h.1 c7
      refine jv_iconst dX8_edge_67 ci_iconst_0 ?_
      exact jm_ireturn dX8_edge_68 rfl h
    · replace h := h.2 c7
      refine jv_aload_n dX8_edge_43 rfl ?_
      refine gf_8_39 rfl dX8_edge_44 kd_c_137 (lt_c 137 rfl) rf_c_137_10 ?_
      refine jv_iload dX8_edge_47 rfl ?_
      refine jm_aaload1 dX8_edge_49 kd_c_147 (lt_c 147 rfl) b6 (rf_r_147 _) ?_
      refine jv_iload_n dX8_edge_50 rfl ?_
      refine jm_iaload dX8_edge_51 (kd_r_147 (vp_lt b6)) (lt_r_147 (vp_lt b6)) b1 ?_
      refine jv_if_le (t := 67) dX8_edge_52 rfl (fun c8 => ?_) (fun c8 => ?_)
      · replace h := h.1 c8
        refine jv_iconst dX8_edge_67 ci_iconst_0 ?_
        exact jm_ireturn dX8_edge_68 rfl h
      · replace h := h.2 c8
        refine jv_aload_n dX8_edge_55 rfl ?_
        refine gf_8_39 rfl dX8_edge_56 kd_c_137 (lt_c 137 rfl) rf_c_137_10 ?_
        refine jv_iload dX8_edge_59 rfl ?_
        refine jm_aaload1 dX8_edge_61 kd_c_147 (lt_c 147 rfl) b2 (rf_r_147 _) ?_
        refine jv_iload_n dX8_edge_62 rfl ?_
        refine jm_iaload dX8_edge_63 (kd_r_147 (vp_lt b2)) (lt_r_147 (vp_lt b2)) b1 ?_
        refine jv_goto (t := 68) dX8_edge_64 rfl ?_
        exact jm_ireturn dX8_edge_68 rfl h
theorem g_X8_tellWithin_0 {E : JE} {u : JM} {K : JM → Prop}  {a1 a2 : Int32}
    (h : JVu E 4 YX8_tellWithin K 2 [some (.ref 137), some (.int a1), some (.int a2), some (.int 0), none, none, none, none, none] [] u)
    : JVu E 4 YX8_tellWithin K 0 [some (.ref 137), some (.int a1), some (.int a2), none, none, none, none, none, none] [] u := by
  refine jv_iconst dX8_tellWithin_0 ci_iconst_0 ?_
  refine jv_istore_n (ls' := [some (.ref 137), some (.int a1), some (.int a2), some (.int 0), none, none, none, none, none]) dX8_tellWithin_1 (Nat.le_of_ble_eq_true rfl) rfl ?_
  exact h
theorem g_X8_tellWithin_2 {E : JE} {u : JM} {K : JM → Prop}  {a1 a2 i3 : Int32}
    (h : ((8 ≤ i3 → JVu E 4 YX8_tellWithin K 34 [some (.ref 137), some (.int a1), some (.int a2), some (.int 0), none, none, none, none, none] [] u) ∧
 (¬ 8 ≤ i3 → ∀ v_1 : Int32, v_1 = (if i3 = a1 then 0 else 9999) →
  vp_in i3 8 ∧
  ∀ u2, u2 = jw u 1341 i3.toNatClampNeg v_1 →
  JVu E 4 YX8_tellWithin K 2 [some (.ref 137), some (.int a1), some (.int a2), some (.int (i3 + 1)), none, none, none, none, none] [] u2)))
    : JVu E 4 YX8_tellWithin K 2 [some (.ref 137), some (.int a1), some (.int a2), some (.int i3), none, none, none, none, none] [] u := by
  refine jv_iload_n dX8_tellWithin_2 rfl ?_
  refine jv_bipush dX8_tellWithin_3 ci_bipush_8 ?_
  refine jv_icmp_ge (t := 32) dX8_tellWithin_5 rfl (fun c1 => ?_) (fun c1 => ?_)
  · replace h := h.1 c1
    refine jv_iconst dX8_tellWithin_32 ci_iconst_0 ?_
    refine jv_istore_n (ls' := [some (.ref 137), some (.int a1), some (.int a2), some (.int 0), none, none, none, none, none]) dX8_tellWithin_33 (Nat.le_of_ble_eq_true rfl) rfl ?_
    exact h
  · replace h := h.2 c1
    refine jv_aload_n dX8_tellWithin_8 rfl ?_
    refine gf_8_69 rfl dX8_tellWithin_9 kd_c_137 (lt_c 137 rfl) rf_c_137_23 ?_
    refine jv_iload_n dX8_tellWithin_12 rfl ?_
    refine jv_iload_n dX8_tellWithin_13 rfl ?_
    refine jv_iload_n dX8_tellWithin_14 rfl ?_
    have key4 : ∀ v_1 : Int32, v_1 = (if i3 = a1 then 0 else 9999) → JVu E 4 YX8_tellWithin K 25 [some (.ref 137), some (.int a1), some (.int a2), some (.int i3), none, none, none, none, none] [.int v_1, .int i3, .ref 1341] u := by
      intro v_1 hv_1
      replace h := h v_1 hv_1
      obtain ⟨b3, h⟩ := h
      refine jm_iastore dX8_tellWithin_25 kd_c_1341 (lt_c 1341 rfl) b3 ?_
      generalize hhu2 : jw u 1341 i3.toNatClampNeg v_1 = u2
      replace h := h u2 hhu2.symm
      refine jv_iinc (v := i3 + 1) (ls' := [some (.ref 137), some (.int a1), some (.int a2), some (.int (i3 + 1)), none, none, none, none, none]) dX8_tellWithin_26 (Nat.le_of_ble_eq_true rfl) rfl (by rw [ci_iconst_1]) rfl ?_
      refine jv_goto (t := 2) dX8_tellWithin_29 rfl ?_
      exact h
    clear h
    refine jv_icmp_ne (t := 22) dX8_tellWithin_15 rfl (fun c5 => ?_) (fun c5 => ?_)
    · refine jv_sipush dX8_tellWithin_22 ci_sipush_9999 ?_
      exact key4 _ (Eq.trans rfl (if_neg c5).symm)
    · refine jv_iconst dX8_tellWithin_18 ci_iconst_0 ?_
      refine jv_goto (t := 25) dX8_tellWithin_19 rfl ?_
      exact key4 _ (Eq.trans rfl (if_pos c5).symm)
theorem g_X8_tellWithin_34 {E : JE} {u : JM} {K : JM → Prop}  {a1 a2 i3 : Int32}
    (h : ((8 ≤ i3 → JVu E 4 YX8_tellWithin K 169 [some (.ref 137), some (.int a1), some (.int a2), some (.int 0), none, none, none, none, none] [] u) ∧
 (¬ 8 ≤ i3 → JVu E 4 YX8_tellWithin K 43 [some (.ref 137), some (.int a1), some (.int a2), some (.int i3), some (.int 0), none, none, none, none] [] u)))
    : JVu E 4 YX8_tellWithin K 34 [some (.ref 137), some (.int a1), some (.int a2), some (.int i3), none, none, none, none, none] [] u := by
  refine jv_iload_n dX8_tellWithin_34 rfl ?_
  refine jv_bipush dX8_tellWithin_35 ci_bipush_8 ?_
  refine jv_icmp_ge (t := 167) dX8_tellWithin_37 rfl (fun c1 => ?_) (fun c1 => ?_)
  · replace h := h.1 c1
    refine jv_iconst dX8_tellWithin_167 ci_iconst_0 ?_
    refine jv_istore_n (ls' := [some (.ref 137), some (.int a1), some (.int a2), some (.int 0), none, none, none, none, none]) dX8_tellWithin_168 (Nat.le_of_ble_eq_true rfl) rfl ?_
    exact h
  · replace h := h.2 c1
    refine jv_iconst dX8_tellWithin_40 ci_iconst_0 ?_
    refine jv_istore (ls' := [some (.ref 137), some (.int a1), some (.int a2), some (.int i3), some (.int 0), none, none, none, none]) dX8_tellWithin_41 (Nat.le_of_ble_eq_true rfl) rfl ?_
    exact h
theorem g_X8_tellWithin_43 {E : JE} {u : JM} {K : JM → Prop}  {a1 a2 i3 i4 : Int32}
    (h : (((u 137 0) ≤ i4 → JVu E 4 YX8_tellWithin K 34 [some (.ref 137), some (.int a1), some (.int a2), some (.int (i3 + 1)), none, none, none, none, none] [] u) ∧
 (¬ (u 137 0) ≤ i4 → JVu E 4 YX8_tellWithin K 55 [some (.ref 137), some (.int a1), some (.int a2), some (.int i3), some (.int i4), some (.int 0), none, none, none] [] u)))
    : JVu E 4 YX8_tellWithin K 43 [some (.ref 137), some (.int a1), some (.int a2), some (.int i3), some (.int i4), none, none, none, none] [] u := by
  refine jv_iload dX8_tellWithin_43 rfl ?_
  refine jv_aload_n dX8_tellWithin_45 rfl ?_
  refine gf_8_129 rfl dX8_tellWithin_46 kd_c_137 (lt_c 137 rfl) ?_
  refine jv_icmp_ge (t := 161) dX8_tellWithin_49 rfl (fun c1 => ?_) (fun c1 => ?_)
  · replace h := h.1 c1
    refine jv_iinc (v := i3 + 1) (ls' := [some (.ref 137), some (.int a1), some (.int a2), some (.int (i3 + 1)), some (.int i4), none, none, none, none]) dX8_tellWithin_161 (Nat.le_of_ble_eq_true rfl) rfl (by rw [ci_iconst_1]) rfl ?_
    refine jv_goto (t := 34) dX8_tellWithin_164 rfl ?_
    exact jm_sub (ls' := [some (.ref 137), some (.int a1), some (.int a2), some (.int (i3 + 1)), none, none, none, none, none]) ⟨rfl, rfl, rfl, rfl, trivial⟩ h
  · replace h := h.2 c1
    refine jv_iconst dX8_tellWithin_52 ci_iconst_0 ?_
    refine jv_istore (ls' := [some (.ref 137), some (.int a1), some (.int a2), some (.int i3), some (.int i4), some (.int 0), none, none, none]) dX8_tellWithin_53 (Nat.le_of_ble_eq_true rfl) rfl ?_
    exact h
theorem g_X8_tellWithin_55 {E : JE} {u : JM} {K : JM → Prop}  {a1 a2 i3 i4 i5 : Int32}
    (h : ((2 ≤ i5 → JVu E 4 YX8_tellWithin K 43 [some (.ref 137), some (.int a1), some (.int a2), some (.int i3), some (.int (i4 + 1)), none, none, none, none] [] u) ∧
 (¬ 2 ≤ i5 → ((¬ i5 = 0 → (vp_in i4 12 ∧ True)) ∧ (i5 = 0 → (vp_in i4 12 ∧ True))) ∧
  ∀ v_1 : Int32, v_1 = (if i5 = 0 then (u 138 i4.toNatClampNeg) else (u 139 i4.toNatClampNeg)) →
  vp_in i4 12 ∧
  ∀ i7_2 : Int32, i7_2 = (if u 138 i4.toNatClampNeg = v_1 then u 139 i4.toNatClampNeg else u 138 i4.toNatClampNeg) →
  JCi E 2 YX8_edge [.ref 137, .int a1, .int a2, .int i4, .int v_1] (fun x3 u3 =>
  ((x3 ≤ 0 → JVu E 4 YX8_tellWithin K 55 [some (.ref 137), some (.int a1), some (.int a2), some (.int i3), some (.int i4), some (.int (i5 + 1)), none, none, none] [] u3) ∧
   (¬ x3 ≤ 0 → vp_in v_1 8 ∧
    vp_in i7_2 8 ∧
    (((u3 1341 i7_2.toNatClampNeg) ≤ ((u3 1341 v_1.toNatClampNeg) + x3) → JVu E 4 YX8_tellWithin K 55 [some (.ref 137), some (.int a1), some (.int a2), some (.int i3), some (.int i4), some (.int (i5 + 1)), none, none, none] [] u3) ∧
    (¬ (u3 1341 i7_2.toNatClampNeg) ≤ ((u3 1341 v_1.toNatClampNeg) + x3) → ∀ u4, u4 = jw u3 1341 i7_2.toNatClampNeg ((u3 1341 v_1.toNatClampNeg) + x3) →
     JVu E 4 YX8_tellWithin K 55 [some (.ref 137), some (.int a1), some (.int a2), some (.int i3), some (.int i4), some (.int (i5 + 1)), none, none, none] [] u4))))) u)))
    : JVu E 4 YX8_tellWithin K 55 [some (.ref 137), some (.int a1), some (.int a2), some (.int i3), some (.int i4), some (.int i5), none, none, none] [] u := by
  refine jv_iload dX8_tellWithin_55 rfl ?_
  refine jv_iconst dX8_tellWithin_57 ci_iconst_2 ?_
  refine jv_icmp_ge (t := 155) dX8_tellWithin_58 rfl (fun c1 => ?_) (fun c1 => ?_)
  · replace h := h.1 c1
    refine jv_iinc (v := i4 + 1) (ls' := [some (.ref 137), some (.int a1), some (.int a2), some (.int i3), some (.int (i4 + 1)), some (.int i5), none, none, none]) dX8_tellWithin_155 (Nat.le_of_ble_eq_true rfl) rfl (by rw [ci_iconst_1]) rfl ?_
    refine jv_goto (t := 43) dX8_tellWithin_158 rfl ?_
    exact jm_sub (ls' := [some (.ref 137), some (.int a1), some (.int a2), some (.int i3), some (.int (i4 + 1)), none, none, none, none]) ⟨rfl, rfl, rfl, rfl, rfl, trivial⟩ h
  · replace h := h.2 c1
    refine jv_iload dX8_tellWithin_61 rfl ?_
    obtain ⟨hob, h⟩ := h
    have key15 : ∀ v_1 : Int32, v_1 = (if i5 = 0 then (u 138 i4.toNatClampNeg) else (u 139 i4.toNatClampNeg)) → JVu E 4 YX8_tellWithin K 83 [some (.ref 137), some (.int a1), some (.int a2), some (.int i3), some (.int i4), some (.int i5), none, none, none] [.int v_1] u := by
      intro v_1 hv_1
      replace h := h v_1 hv_1
      refine jv_istore (ls' := [some (.ref 137), some (.int a1), some (.int a2), some (.int i3), some (.int i4), some (.int i5), some (.int v_1), none, none]) dX8_tellWithin_83 (Nat.le_of_ble_eq_true rfl) rfl ?_
      refine jv_aload_n dX8_tellWithin_85 rfl ?_
      refine jv_iload dX8_tellWithin_86 rfl ?_
      refine jv_iload dX8_tellWithin_88 rfl ?_
      obtain ⟨b7, h⟩ := h
      refine jm_callVi [.int i4, .int v_1] cw_8_169 dX8_tellWithin_90 rfl (Nat.le_of_ble_eq_true rfl) kd_c_137 (r := (RX8, TX8, 48)) rfl rfl (lt_c 137 rfl) (Nat.le_of_ble_eq_true rfl) (p_X8_otherEnd b7 ?_)
      generalize hhi7_2 : (if u 138 i4.toNatClampNeg = v_1 then u 139 i4.toNatClampNeg else u 138 i4.toNatClampNeg) = i7_2
      replace h := h i7_2 hhi7_2.symm
      refine jv_istore (ls' := [some (.ref 137), some (.int a1), some (.int a2), some (.int i3), some (.int i4), some (.int i5), some (.int v_1), some (.int i7_2), none]) dX8_tellWithin_93 (Nat.le_of_ble_eq_true rfl) rfl ?_
      refine jv_aload_n dX8_tellWithin_95 rfl ?_
      refine jv_iload_n dX8_tellWithin_96 rfl ?_
      refine jv_iload_n dX8_tellWithin_97 rfl ?_
      refine jv_iload dX8_tellWithin_98 rfl ?_
      refine jv_iload dX8_tellWithin_100 rfl ?_
      refine jm_callVi [.int a1, .int a2, .int i4, .int v_1] cw_8_172 dX8_tellWithin_102 rfl (Nat.le_of_ble_eq_true rfl) kd_c_137 (r := (RX8, TX8, 48)) rfl rfl (lt_c 137 rfl) (Nat.le_of_ble_eq_true rfl) (JCi.mono h (fun x3 u3 h => ?_))
      refine jv_istore (ls' := [some (.ref 137), some (.int a1), some (.int a2), some (.int i3), some (.int i4), some (.int i5), some (.int v_1), some (.int i7_2), some (.int x3)]) dX8_tellWithin_105 (Nat.le_of_ble_eq_true rfl) rfl ?_
      refine jv_iload dX8_tellWithin_107 rfl ?_
      refine jv_if_le (t := 149) dX8_tellWithin_109 rfl (fun c8 => ?_) (fun c8 => ?_)
      · replace h := h.1 c8
        refine jv_iinc (v := i5 + 1) (ls' := [some (.ref 137), some (.int a1), some (.int a2), some (.int i3), some (.int i4), some (.int (i5 + 1)), some (.int v_1), some (.int i7_2), some (.int x3)]) dX8_tellWithin_149 (Nat.le_of_ble_eq_true rfl) rfl (by rw [ci_iconst_1]) rfl ?_
        refine jv_goto (t := 55) dX8_tellWithin_152 rfl ?_
        exact jm_sub (ls' := [some (.ref 137), some (.int a1), some (.int a2), some (.int i3), some (.int i4), some (.int (i5 + 1)), none, none, none]) ⟨rfl, rfl, rfl, rfl, rfl, rfl, trivial⟩ h
      · replace h := h.2 c8
        refine jv_aload_n dX8_tellWithin_112 rfl ?_
        refine gf_8_69 rfl dX8_tellWithin_113 kd_c_137 (lt_c 137 rfl) rf_c_137_23 ?_
        refine jv_iload dX8_tellWithin_116 rfl ?_
        obtain ⟨b12, h⟩ := h
        refine jm_iaload dX8_tellWithin_118 kd_c_1341 (lt_c 1341 rfl) b12 ?_
        refine jv_iload dX8_tellWithin_119 rfl ?_
        refine jv_iadd dX8_tellWithin_121 ?_
        refine jv_aload_n dX8_tellWithin_122 rfl ?_
        refine gf_8_69 rfl dX8_tellWithin_123 kd_c_137 (lt_c 137 rfl) rf_c_137_23 ?_
        refine jv_iload dX8_tellWithin_126 rfl ?_
        obtain ⟨b13, h⟩ := h
        refine jm_iaload dX8_tellWithin_128 kd_c_1341 (lt_c 1341 rfl) b13 ?_
        refine jv_icmp_ge (t := 149) dX8_tellWithin_129 rfl (fun c14 => ?_) (fun c14 => ?_)
        · replace h := h.1 c14
          refine jv_iinc (v := i5 + 1) (ls' := [some (.ref 137), some (.int a1), some (.int a2), some (.int i3), some (.int i4), some (.int (i5 + 1)), some (.int v_1), some (.int i7_2), some (.int x3)]) dX8_tellWithin_149 (Nat.le_of_ble_eq_true rfl) rfl (by rw [ci_iconst_1]) rfl ?_
          refine jv_goto (t := 55) dX8_tellWithin_152 rfl ?_
          exact jm_sub (ls' := [some (.ref 137), some (.int a1), some (.int a2), some (.int i3), some (.int i4), some (.int (i5 + 1)), none, none, none]) ⟨rfl, rfl, rfl, rfl, rfl, rfl, trivial⟩ h
        · replace h := h.2 c14
          refine jv_aload_n dX8_tellWithin_132 rfl ?_
          refine gf_8_69 rfl dX8_tellWithin_133 kd_c_137 (lt_c 137 rfl) rf_c_137_23 ?_
          refine jv_iload dX8_tellWithin_136 rfl ?_
          refine jv_aload_n dX8_tellWithin_138 rfl ?_
          refine gf_8_69 rfl dX8_tellWithin_139 kd_c_137 (lt_c 137 rfl) rf_c_137_23 ?_
          refine jv_iload dX8_tellWithin_142 rfl ?_
          refine jm_iaload dX8_tellWithin_144 kd_c_1341 (lt_c 1341 rfl) b12 ?_
          refine jv_iload dX8_tellWithin_145 rfl ?_
          refine jv_iadd dX8_tellWithin_147 ?_
          refine jm_iastore dX8_tellWithin_148 kd_c_1341 (lt_c 1341 rfl) b13 ?_
          generalize hhu4 : jw u3 1341 i7_2.toNatClampNeg ((u3 1341 v_1.toNatClampNeg) + x3) = u4
          replace h := h u4 hhu4.symm
          refine jv_iinc (v := i5 + 1) (ls' := [some (.ref 137), some (.int a1), some (.int a2), some (.int i3), some (.int i4), some (.int (i5 + 1)), some (.int v_1), some (.int i7_2), some (.int x3)]) dX8_tellWithin_149 (Nat.le_of_ble_eq_true rfl) rfl (by rw [ci_iconst_1]) rfl ?_
          refine jv_goto (t := 55) dX8_tellWithin_152 rfl ?_
          exact jm_sub (ls' := [some (.ref 137), some (.int a1), some (.int a2), some (.int i3), some (.int i4), some (.int (i5 + 1)), none, none, none]) ⟨rfl, rfl, rfl, rfl, rfl, rfl, trivial⟩ h
    clear h
    have h := hob
    refine jv_if_ne (t := 76) dX8_tellWithin_63 rfl (fun c16 => ?_) (fun c16 => ?_)
    · replace h := h.1 c16
      refine jv_aload_n dX8_tellWithin_76 rfl ?_
      refine gf_8_13 rfl dX8_tellWithin_77 kd_c_137 (lt_c 137 rfl) rf_c_137_2 ?_
      refine jv_iload dX8_tellWithin_80 rfl ?_
      obtain ⟨b5, h⟩ := h
      refine jm_iaload dX8_tellWithin_82 kd_c_139 (lt_c 139 rfl) b5 ?_
      exact key15 _ (Eq.trans rfl (if_neg c16).symm)
    · replace h := h.2 c16
      refine jv_aload_n dX8_tellWithin_66 rfl ?_
      refine gf_8_9 rfl dX8_tellWithin_67 kd_c_137 (lt_c 137 rfl) rf_c_137_1 ?_
      refine jv_iload dX8_tellWithin_70 rfl ?_
      obtain ⟨b6, h⟩ := h
      refine jm_iaload dX8_tellWithin_72 kd_c_138 (lt_c 138 rfl) b6 ?_
      refine jv_goto (t := 83) dX8_tellWithin_73 rfl ?_
      exact key15 _ (Eq.trans rfl (if_pos c16).symm)
theorem g_X8_tellWithin_169 {E : JE} {u : JM} {K : JM → Prop}  {a1 a2 i3 : Int32}
    (h : ((8 ≤ i3 → JVu E 4 YX8_tellWithin K 191 [some (.ref 137), some (.int a1), some (.int a2), some (.int 7), none, none, none, none, none] [] u) ∧
 (¬ 8 ≤ i3 → vp_in i3 8 ∧
  ∀ u1, u1 = jw u 1342 i3.toNatClampNeg (-1) →
  JVu E 4 YX8_tellWithin K 169 [some (.ref 137), some (.int a1), some (.int a2), some (.int (i3 + 1)), none, none, none, none, none] [] u1)))
    : JVu E 4 YX8_tellWithin K 169 [some (.ref 137), some (.int a1), some (.int a2), some (.int i3), none, none, none, none, none] [] u := by
  refine jv_iload_n dX8_tellWithin_169 rfl ?_
  refine jv_bipush dX8_tellWithin_170 ci_bipush_8 ?_
  refine jv_icmp_ge (t := 188) dX8_tellWithin_172 rfl (fun c1 => ?_) (fun c1 => ?_)
  · replace h := h.1 c1
    refine jv_bipush dX8_tellWithin_188 ci_bipush_7 ?_
    refine jv_istore_n (ls' := [some (.ref 137), some (.int a1), some (.int a2), some (.int 7), none, none, none, none, none]) dX8_tellWithin_190 (Nat.le_of_ble_eq_true rfl) rfl ?_
    exact h
  · replace h := h.2 c1
    refine jv_aload_n dX8_tellWithin_175 rfl ?_
    refine gf_8_72 rfl dX8_tellWithin_176 kd_c_137 (lt_c 137 rfl) rf_c_137_24 ?_
    refine jv_iload_n dX8_tellWithin_179 rfl ?_
    refine jv_iconst dX8_tellWithin_180 ci_iconst_m1 ?_
    obtain ⟨b2, h⟩ := h
    refine jm_iastore dX8_tellWithin_181 kd_c_1342 (lt_c 1342 rfl) b2 ?_
    generalize hhu1 : jw u 1342 i3.toNatClampNeg (-1) = u1
    replace h := h u1 hhu1.symm
    refine jv_iinc (v := i3 + 1) (ls' := [some (.ref 137), some (.int a1), some (.int a2), some (.int (i3 + 1)), none, none, none, none, none]) dX8_tellWithin_182 (Nat.le_of_ble_eq_true rfl) rfl (by rw [ci_iconst_1]) rfl ?_
    refine jv_goto (t := 169) dX8_tellWithin_185 rfl ?_
    exact h
theorem g_X8_tellWithin_191 {E : JE} {u : JM} {K : JM → Prop}  {a1 a2 i3 : Int32}
    (h : ((i3 < 0 → K u) ∧
 (¬ i3 < 0 → JCi E 3 YX8_isNext [.ref 137, .int a1, .int a2, .int i3] (fun x1 u1 =>
  ((x1 = 0 → JVu E 4 YX8_tellWithin K 191 [some (.ref 137), some (.int a1), some (.int a2), some (.int (i3 + (-1))), none, none, none, none, none] [] u1) ∧
   (¬ x1 = 0 → JCu E 3 YX8_handsOn [.ref 137, .int a1, .int a2, .int i3] (fun u2 =>
    JVu E 4 YX8_tellWithin K 191 [some (.ref 137), some (.int a1), some (.int a2), some (.int (i3 + (-1))), none, none, none, none, none] [] u2) u1))) u)))
    : JVu E 4 YX8_tellWithin K 191 [some (.ref 137), some (.int a1), some (.int a2), some (.int i3), none, none, none, none, none] [] u := by
  refine jv_iload_n dX8_tellWithin_191 rfl ?_
  refine jv_if_lt (t := 218) dX8_tellWithin_192 rfl (fun c1 => ?_) (fun c1 => ?_)
  · replace h := h.1 c1
    exact jm_return dX8_tellWithin_218 rfl h
  · replace h := h.2 c1
    refine jv_aload_n dX8_tellWithin_195 rfl ?_
    refine jv_iload_n dX8_tellWithin_196 rfl ?_
    refine jv_iload_n dX8_tellWithin_197 rfl ?_
    refine jv_iload_n dX8_tellWithin_198 rfl ?_
    refine jm_callVi [.int a1, .int a2, .int i3] cw_8_176 dX8_tellWithin_199 rfl (Nat.le_of_ble_eq_true rfl) kd_c_137 (r := (RX8, TX8, 48)) rfl rfl (lt_c 137 rfl) (Nat.le_of_ble_eq_true rfl) (JCi.mono h (fun x1 u1 h => ?_))
    refine jv_if_eq (t := 212) dX8_tellWithin_202 rfl (fun c2 => ?_) (fun c2 => ?_)
    · replace h := h.1 c2
      refine jv_iinc (v := i3 + (-1)) (ls' := [some (.ref 137), some (.int a1), some (.int a2), some (.int (i3 + (-1))), none, none, none, none, none]) dX8_tellWithin_212 (Nat.le_of_ble_eq_true rfl) rfl (by rw [ci_iconst_m1]) rfl ?_
      refine jv_goto (t := 191) dX8_tellWithin_215 rfl ?_
      exact h
    · replace h := h.2 c2
      refine jv_aload_n dX8_tellWithin_205 rfl ?_
      refine jv_iload_n dX8_tellWithin_206 rfl ?_
      refine jv_iload_n dX8_tellWithin_207 rfl ?_
      refine jv_iload_n dX8_tellWithin_208 rfl ?_
      refine jm_callVu [.int a1, .int a2, .int i3] cw_8_179 dX8_tellWithin_209 rfl (Nat.le_of_ble_eq_true rfl) kd_c_137 (r := (RX8, TX8, 48)) rfl rfl (lt_c 137 rfl) (Nat.le_of_ble_eq_true rfl) (JCu.mono h (fun u2 h => ?_))
      refine jv_iinc (v := i3 + (-1)) (ls' := [some (.ref 137), some (.int a1), some (.int a2), some (.int (i3 + (-1))), none, none, none, none, none]) dX8_tellWithin_212 (Nat.le_of_ble_eq_true rfl) rfl (by rw [ci_iconst_m1]) rfl ?_
      refine jv_goto (t := 191) dX8_tellWithin_215 rfl ?_
      exact h
theorem g_X8_isNext_0 {E : JE} {u : JM} {K : Int32 → JM → Prop}  {a1 a2 a3 : Int32}
    (h : JVi E 3 YX8_isNext K 3 [some (.ref 137), some (.int a1), some (.int a2), some (.int a3), some (.int 0)] [] u)
    : JVi E 3 YX8_isNext K 0 [some (.ref 137), some (.int a1), some (.int a2), some (.int a3), none] [] u := by
  refine jv_iconst dX8_isNext_0 ci_iconst_0 ?_
  refine jv_istore (ls' := [some (.ref 137), some (.int a1), some (.int a2), some (.int a3), some (.int 0)]) dX8_isNext_1 (Nat.le_of_ble_eq_true rfl) rfl ?_
  exact h
theorem g_X8_isNext_3 {E : JE} {u : JM} {K : Int32 → JM → Prop}  {a1 a2 a3 i4 : Int32}
    (h : (((u 137 0) ≤ i4 → K 0 u) ∧
 (¬ (u 137 0) ≤ i4 → vp_in i4 12 ∧
  (((jb (u 138 i4.toNatClampNeg = a1 ∨ u 139 i4.toNatClampNeg = a1)) = 0 → JVi E 3 YX8_isNext K 3 [some (.ref 137), some (.int a1), some (.int a2), some (.int a3), some (.int (i4 + 1))] [] u) ∧
  (¬ (jb (u 138 i4.toNatClampNeg = a1 ∨ u 139 i4.toNatClampNeg = a1)) = 0 → ((¬ (if u 138 i4.toNatClampNeg = a1 then u 139 i4.toNatClampNeg else u 138 i4.toNatClampNeg) = a3 → JVi E 3 YX8_isNext K 3 [some (.ref 137), some (.int a1), some (.int a2), some (.int a3), some (.int (i4 + 1))] [] u) ∧
   ((if u 138 i4.toNatClampNeg = a1 then u 139 i4.toNatClampNeg else u 138 i4.toNatClampNeg) = a3 → JCi E 2 YX8_edge [.ref 137, .int a1, .int a2, .int i4, .int a1] (fun x1 u1 =>
    ((x1 ≤ 0 → JVi E 3 YX8_isNext K 3 [some (.ref 137), some (.int a1), some (.int a2), some (.int a3), some (.int (i4 + 1))] [] u1) ∧
     (¬ x1 ≤ 0 → JCi E 2 YX8_edge [.ref 137, .int a1, .int a2, .int i4, .int a1] (fun x2 u2 =>
      vp_in a3 8 ∧
       ((¬ x2 = (u2 1341 a3.toNatClampNeg) → JVi E 3 YX8_isNext K 3 [some (.ref 137), some (.int a1), some (.int a2), some (.int a3), some (.int (i4 + 1))] [] u2) ∧
       (x2 = (u2 1341 a3.toNatClampNeg) → K 1 u2))) u1))) u)))))))
    : JVi E 3 YX8_isNext K 3 [some (.ref 137), some (.int a1), some (.int a2), some (.int a3), some (.int i4)] [] u := by
  refine jv_iload dX8_isNext_3 rfl ?_
  refine jv_aload_n dX8_isNext_5 rfl ?_
  refine gf_8_129 rfl dX8_isNext_6 kd_c_137 (lt_c 137 rfl) ?_
  refine jv_icmp_ge (t := 71) dX8_isNext_9 rfl (fun c1 => ?_) (fun c1 => ?_)
  · replace h := h.1 c1
    refine jv_iconst dX8_isNext_71 ci_iconst_0 ?_
    exact jm_zreturn dX8_isNext_72 rfl (Or.inl rfl) h
  · replace h := h.2 c1
    refine jv_aload_n dX8_isNext_12 rfl ?_
    refine jv_iload dX8_isNext_13 rfl ?_
    refine jv_iload_n dX8_isNext_15 rfl ?_
    obtain ⟨b2, h⟩ := h
    refine jm_callVi [.int i4, .int a1] cw_8_133 dX8_isNext_16 rfl (Nat.le_of_ble_eq_true rfl) kd_c_137 (r := (RX8, TX8, 48)) rfl rfl (lt_c 137 rfl) (Nat.le_of_ble_eq_true rfl) (p_X8_isEnd b2 ?_)
    refine jv_if_eq (t := 65) dX8_isNext_19 rfl (fun c3 => ?_) (fun c3 => ?_)
    · replace h := h.1 c3
      refine jv_iinc (v := i4 + 1) (ls' := [some (.ref 137), some (.int a1), some (.int a2), some (.int a3), some (.int (i4 + 1))]) dX8_isNext_65 (Nat.le_of_ble_eq_true rfl) rfl (by rw [ci_iconst_1]) rfl ?_
      refine jv_goto (t := 3) dX8_isNext_68 rfl ?_
      exact h
    · replace h := h.2 c3
      refine jv_aload_n dX8_isNext_22 rfl ?_
      refine jv_iload dX8_isNext_23 rfl ?_
      refine jv_iload_n dX8_isNext_25 rfl ?_
      refine jm_callVi [.int i4, .int a1] cw_8_169 dX8_isNext_26 rfl (Nat.le_of_ble_eq_true rfl) kd_c_137 (r := (RX8, TX8, 48)) rfl rfl (lt_c 137 rfl) (Nat.le_of_ble_eq_true rfl) (p_X8_otherEnd b2 ?_)
      refine jv_iload_n dX8_isNext_29 rfl ?_
      refine jv_icmp_ne (t := 65) dX8_isNext_30 rfl (fun c4 => ?_) (fun c4 => ?_)
      · replace h := h.1 c4
        refine jv_iinc (v := i4 + 1) (ls' := [some (.ref 137), some (.int a1), some (.int a2), some (.int a3), some (.int (i4 + 1))]) dX8_isNext_65 (Nat.le_of_ble_eq_true rfl) rfl (by rw [ci_iconst_1]) rfl ?_
        refine jv_goto (t := 3) dX8_isNext_68 rfl ?_
        exact h
      · replace h := h.2 c4
        refine jv_aload_n dX8_isNext_33 rfl ?_
        refine jv_iload_n dX8_isNext_34 rfl ?_
        refine jv_iload_n dX8_isNext_35 rfl ?_
        refine jv_iload dX8_isNext_36 rfl ?_
        refine jv_iload_n dX8_isNext_38 rfl ?_
        refine jm_callVi [.int a1, .int a2, .int i4, .int a1] cw_8_172 dX8_isNext_39 rfl (Nat.le_of_ble_eq_true rfl) kd_c_137 (r := (RX8, TX8, 48)) rfl rfl (lt_c 137 rfl) (Nat.le_of_ble_eq_true rfl) (JCi.mono h (fun x1 u1 h => ?_))
        refine jv_if_le (t := 65) dX8_isNext_42 rfl (fun c5 => ?_) (fun c5 => ?_)
        · replace h := h.1 c5
          refine jv_iinc (v := i4 + 1) (ls' := [some (.ref 137), some (.int a1), some (.int a2), some (.int a3), some (.int (i4 + 1))]) dX8_isNext_65 (Nat.le_of_ble_eq_true rfl) rfl (by rw [ci_iconst_1]) rfl ?_
          refine jv_goto (t := 3) dX8_isNext_68 rfl ?_
          exact h
        · replace h := h.2 c5
          refine jv_aload_n dX8_isNext_45 rfl ?_
          refine jv_iload_n dX8_isNext_46 rfl ?_
          refine jv_iload_n dX8_isNext_47 rfl ?_
          refine jv_iload dX8_isNext_48 rfl ?_
          refine jv_iload_n dX8_isNext_50 rfl ?_
          refine jm_callVi [.int a1, .int a2, .int i4, .int a1] cw_8_172 dX8_isNext_51 rfl (Nat.le_of_ble_eq_true rfl) kd_c_137 (r := (RX8, TX8, 48)) rfl rfl (lt_c 137 rfl) (Nat.le_of_ble_eq_true rfl) (JCi.mono h (fun x2 u2 h => ?_))
          refine jv_aload_n dX8_isNext_54 rfl ?_
          refine gf_8_69 rfl dX8_isNext_55 kd_c_137 (lt_c 137 rfl) rf_c_137_23 ?_
          refine jv_iload_n dX8_isNext_58 rfl ?_
          obtain ⟨b6, h⟩ := h
          refine jm_iaload dX8_isNext_59 kd_c_1341 (lt_c 1341 rfl) b6 ?_
          refine jv_icmp_ne (t := 65) dX8_isNext_60 rfl (fun c7 => ?_) (fun c7 => ?_)
          · replace h := h.1 c7
            refine jv_iinc (v := i4 + 1) (ls' := [some (.ref 137), some (.int a1), some (.int a2), some (.int a3), some (.int (i4 + 1))]) dX8_isNext_65 (Nat.le_of_ble_eq_true rfl) rfl (by rw [ci_iconst_1]) rfl ?_
            refine jv_goto (t := 3) dX8_isNext_68 rfl ?_
            exact h
          · replace h := h.2 c7
            refine jv_iconst dX8_isNext_63 ci_iconst_1 ?_
            exact jm_zreturn dX8_isNext_64 rfl (Or.inr rfl) h
theorem g_X8_handsOn_0 {E : JE} {u : JM} {K : JM → Prop}  {a1 a2 a3 : Int32}
    (h : ∀ i4_1 : Int32, i4_1 = (1 : Int32) <<< (a3 &&& 31) →
 JVu E 3 YX8_handsOn K 8 [some (.ref 137), some (.int a1), some (.int a2), some (.int a3), some (.int i4_1), some (.int 0), none, none, none, none, none] [] u)
    : JVu E 3 YX8_handsOn K 0 [some (.ref 137), some (.int a1), some (.int a2), some (.int a3), none, none, none, none, none, none, none] [] u := by
  refine jv_iconst dX8_handsOn_0 ci_iconst_1 ?_
  refine jv_iload_n dX8_handsOn_1 rfl ?_
  refine jv_ishl dX8_handsOn_2 ?_
  generalize hhi4_1 : (1 : Int32) <<< (a3 &&& 31) = i4_1
  replace h := h i4_1 hhi4_1.symm
  refine jv_istore (ls' := [some (.ref 137), some (.int a1), some (.int a2), some (.int a3), some (.int i4_1), none, none, none, none, none, none]) dX8_handsOn_3 (Nat.le_of_ble_eq_true rfl) rfl ?_
  refine jv_iconst dX8_handsOn_5 ci_iconst_0 ?_
  refine jv_istore (ls' := [some (.ref 137), some (.int a1), some (.int a2), some (.int a3), some (.int i4_1), some (.int 0), none, none, none, none, none]) dX8_handsOn_6 (Nat.le_of_ble_eq_true rfl) rfl ?_
  exact h
theorem g_X8_handsOn_8 {E : JE} {u : JM} {K : JM → Prop}  {a1 a2 a3 i4 i5 : Int32}
    (h : ((i4 = i5 → JVu E 3 YX8_handsOn K 149 [some (.ref 137), some (.int a1), some (.int a2), some (.int a3), some (.int i4), some (.int i5), some (.int 0), none, none, none, none] [] u) ∧
 (¬ i4 = i5 → JVu E 3 YX8_handsOn K 22 [some (.ref 137), some (.int a1), some (.int a2), some (.int a3), some (.int i4), some (.int i4), some (.int 0), none, none, none, none] [] u)))
    : JVu E 3 YX8_handsOn K 8 [some (.ref 137), some (.int a1), some (.int a2), some (.int a3), some (.int i4), some (.int i5), none, none, none, none, none] [] u := by
  refine jv_iload dX8_handsOn_8 rfl ?_
  refine jv_iload dX8_handsOn_10 rfl ?_
  refine jv_icmp_eq (t := 146) dX8_handsOn_12 rfl (fun c1 => ?_) (fun c1 => ?_)
  · replace h := h.1 c1
    refine jv_iconst dX8_handsOn_146 ci_iconst_0 ?_
    refine jv_istore (ls' := [some (.ref 137), some (.int a1), some (.int a2), some (.int a3), some (.int i4), some (.int i5), some (.int 0), none, none, none, none]) dX8_handsOn_147 (Nat.le_of_ble_eq_true rfl) rfl ?_
    exact h
  · replace h := h.2 c1
    refine jv_iload dX8_handsOn_15 rfl ?_
    refine jv_istore (ls' := [some (.ref 137), some (.int a1), some (.int a2), some (.int a3), some (.int i4), some (.int i4), none, none, none, none, none]) dX8_handsOn_17 (Nat.le_of_ble_eq_true rfl) rfl ?_
    refine jv_iconst dX8_handsOn_19 ci_iconst_0 ?_
    refine jv_istore (ls' := [some (.ref 137), some (.int a1), some (.int a2), some (.int a3), some (.int i4), some (.int i4), some (.int 0), none, none, none, none]) dX8_handsOn_20 (Nat.le_of_ble_eq_true rfl) rfl ?_
    exact h
theorem g_X8_handsOn_22 {E : JE} {u : JM} {K : JM → Prop}  {a1 a2 a3 i4 i5 i6 : Int32}
    (h : (((u 137 0) ≤ i6 → JVu E 3 YX8_handsOn K 8 [some (.ref 137), some (.int a1), some (.int a2), some (.int a3), some (.int i4), some (.int i5), none, none, none, none, none] [] u) ∧
 (¬ (u 137 0) ≤ i6 → JVu E 3 YX8_handsOn K 34 [some (.ref 137), some (.int a1), some (.int a2), some (.int a3), some (.int i4), some (.int i5), some (.int i6), some (.int 0), none, none, none] [] u)))
    : JVu E 3 YX8_handsOn K 22 [some (.ref 137), some (.int a1), some (.int a2), some (.int a3), some (.int i4), some (.int i5), some (.int i6), none, none, none, none] [] u := by
  refine jv_iload dX8_handsOn_22 rfl ?_
  refine jv_aload_n dX8_handsOn_24 rfl ?_
  refine gf_8_129 rfl dX8_handsOn_25 kd_c_137 (lt_c 137 rfl) ?_
  refine jv_icmp_ge (t := 143) dX8_handsOn_28 rfl (fun c1 => ?_) (fun c1 => ?_)
  · replace h := h.1 c1
    refine jv_goto (t := 8) dX8_handsOn_143 rfl ?_
    exact jm_sub (ls' := [some (.ref 137), some (.int a1), some (.int a2), some (.int a3), some (.int i4), some (.int i5), none, none, none, none, none]) ⟨rfl, rfl, rfl, rfl, rfl, rfl, trivial⟩ h
  · replace h := h.2 c1
    refine jv_iconst dX8_handsOn_31 ci_iconst_0 ?_
    refine jv_istore (ls' := [some (.ref 137), some (.int a1), some (.int a2), some (.int a3), some (.int i4), some (.int i5), some (.int i6), some (.int 0), none, none, none]) dX8_handsOn_32 (Nat.le_of_ble_eq_true rfl) rfl ?_
    exact h
theorem g_X8_handsOn_34 {E : JE} {u : JM} {K : JM → Prop}  {a1 a2 a3 i4 i5 i6 i7 : Int32}
    (h : ((2 ≤ i7 → JVu E 3 YX8_handsOn K 22 [some (.ref 137), some (.int a1), some (.int a2), some (.int a3), some (.int i4), some (.int i5), some (.int (i6 + 1)), none, none, none, none] [] u) ∧
 (¬ 2 ≤ i7 → ((¬ i7 = 0 → (vp_in i6 12 ∧ True)) ∧ (i7 = 0 → (vp_in i6 12 ∧ True))) ∧
  ∀ v_1 : Int32, v_1 = (if i7 = 0 then (u 138 i6.toNatClampNeg) else (u 139 i6.toNatClampNeg)) →
  vp_in i6 12 ∧
  ∀ i9_2 : Int32, i9_2 = (if u 138 i6.toNatClampNeg = v_1 then u 139 i6.toNatClampNeg else u 138 i6.toNatClampNeg) →
  JCi E 2 YX8_edge [.ref 137, .int a1, .int a2, .int i6, .int v_1] (fun x3 u3 =>
  ((¬ ((i4 >>> (v_1 &&& 31)) &&& 1) = 1 → True) ∧ (((i4 >>> (v_1 &&& 31)) &&& 1) = 1 → ((x3 ≤ 0 → True) ∧ (¬ x3 ≤ 0 → (vp_in v_1 8 ∧ (vp_in i9_2 8 ∧ True)))))) ∧
   ∀ i4_4 : Int32, i4_4 = (if ((i4 >>> (v_1 &&& 31)) &&& 1) = 1 then (if x3 ≤ 0 then i4 else (if ((u3 1341 v_1.toNatClampNeg) + x3) = (u3 1341 i9_2.toNatClampNeg) then (i4 ||| ((1 : Int32) <<< (i9_2 &&& 31))) else i4)) else i4) →
   JVu E 3 YX8_handsOn K 34 [some (.ref 137), some (.int a1), some (.int a2), some (.int a3), some (.int i4_4), some (.int i5), some (.int i6), some (.int (i7 + 1)), none, none, none] [] u3) u)))
    : JVu E 3 YX8_handsOn K 34 [some (.ref 137), some (.int a1), some (.int a2), some (.int a3), some (.int i4), some (.int i5), some (.int i6), some (.int i7), none, none, none] [] u := by
  refine jv_iload dX8_handsOn_34 rfl ?_
  refine jv_iconst dX8_handsOn_36 ci_iconst_2 ?_
  refine jv_icmp_ge (t := 137) dX8_handsOn_37 rfl (fun c1 => ?_) (fun c1 => ?_)
  · replace h := h.1 c1
    refine jv_iinc (v := i6 + 1) (ls' := [some (.ref 137), some (.int a1), some (.int a2), some (.int a3), some (.int i4), some (.int i5), some (.int (i6 + 1)), some (.int i7), none, none, none]) dX8_handsOn_137 (Nat.le_of_ble_eq_true rfl) rfl (by rw [ci_iconst_1]) rfl ?_
    refine jv_goto (t := 22) dX8_handsOn_140 rfl ?_
    exact jm_sub (ls' := [some (.ref 137), some (.int a1), some (.int a2), some (.int a3), some (.int i4), some (.int i5), some (.int (i6 + 1)), none, none, none, none]) ⟨rfl, rfl, rfl, rfl, rfl, rfl, rfl, trivial⟩ h
  · replace h := h.2 c1
    refine jv_iload dX8_handsOn_40 rfl ?_
    obtain ⟨hob, h⟩ := h
    have key15 : ∀ v_1 : Int32, v_1 = (if i7 = 0 then (u 138 i6.toNatClampNeg) else (u 139 i6.toNatClampNeg)) → JVu E 3 YX8_handsOn K 62 [some (.ref 137), some (.int a1), some (.int a2), some (.int a3), some (.int i4), some (.int i5), some (.int i6), some (.int i7), none, none, none] [.int v_1] u := by
      intro v_1 hv_1
      replace h := h v_1 hv_1
      refine jv_istore (ls' := [some (.ref 137), some (.int a1), some (.int a2), some (.int a3), some (.int i4), some (.int i5), some (.int i6), some (.int i7), some (.int v_1), none, none]) dX8_handsOn_62 (Nat.le_of_ble_eq_true rfl) rfl ?_
      refine jv_aload_n dX8_handsOn_64 rfl ?_
      refine jv_iload dX8_handsOn_65 rfl ?_
      refine jv_iload dX8_handsOn_67 rfl ?_
      obtain ⟨b7, h⟩ := h
      refine jm_callVi [.int i6, .int v_1] cw_8_169 dX8_handsOn_69 rfl (Nat.le_of_ble_eq_true rfl) kd_c_137 (r := (RX8, TX8, 48)) rfl rfl (lt_c 137 rfl) (Nat.le_of_ble_eq_true rfl) (p_X8_otherEnd b7 ?_)
      generalize hhi9_2 : (if u 138 i6.toNatClampNeg = v_1 then u 139 i6.toNatClampNeg else u 138 i6.toNatClampNeg) = i9_2
      replace h := h i9_2 hhi9_2.symm
      refine jv_istore (ls' := [some (.ref 137), some (.int a1), some (.int a2), some (.int a3), some (.int i4), some (.int i5), some (.int i6), some (.int i7), some (.int v_1), some (.int i9_2), none]) dX8_handsOn_72 (Nat.le_of_ble_eq_true rfl) rfl ?_
      refine jv_aload_n dX8_handsOn_74 rfl ?_
      refine jv_iload_n dX8_handsOn_75 rfl ?_
      refine jv_iload_n dX8_handsOn_76 rfl ?_
      refine jv_iload dX8_handsOn_77 rfl ?_
      refine jv_iload dX8_handsOn_79 rfl ?_
      refine jm_callVi [.int a1, .int a2, .int i6, .int v_1] cw_8_172 dX8_handsOn_81 rfl (Nat.le_of_ble_eq_true rfl) kd_c_137 (r := (RX8, TX8, 48)) rfl rfl (lt_c 137 rfl) (Nat.le_of_ble_eq_true rfl) (JCi.mono h (fun x3 u3 h => ?_))
      refine jv_istore (ls' := [some (.ref 137), some (.int a1), some (.int a2), some (.int a3), some (.int i4), some (.int i5), some (.int i6), some (.int i7), some (.int v_1), some (.int i9_2), some (.int x3)]) dX8_handsOn_84 (Nat.le_of_ble_eq_true rfl) rfl ?_
      refine jv_iload dX8_handsOn_86 rfl ?_
      refine jv_iload dX8_handsOn_88 rfl ?_
      refine jv_ishr dX8_handsOn_90 ?_
      refine jv_iconst dX8_handsOn_91 ci_iconst_1 ?_
      refine jv_iand dX8_handsOn_92 ?_
      refine jv_iconst dX8_handsOn_93 ci_iconst_1 ?_
      obtain ⟨hob, h⟩ := h
      have key11 : ∀ i4_4 : Int32, i4_4 = (if ((i4 >>> (v_1 &&& 31)) &&& 1) = 1 then (if x3 ≤ 0 then i4 else (if ((u3 1341 v_1.toNatClampNeg) + x3) = (u3 1341 i9_2.toNatClampNeg) then (i4 ||| ((1 : Int32) <<< (i9_2 &&& 31))) else i4)) else i4) → JVu E 3 YX8_handsOn K 131 [some (.ref 137), some (.int a1), some (.int a2), some (.int a3), some (.int i4_4), some (.int i5), some (.int i6), some (.int i7), some (.int v_1), some (.int i9_2), some (.int x3)] [] u3 := by
        intro i4_4 hi4_4
        replace h := h i4_4 hi4_4
        refine jv_iinc (v := i7 + 1) (ls' := [some (.ref 137), some (.int a1), some (.int a2), some (.int a3), some (.int i4_4), some (.int i5), some (.int i6), some (.int (i7 + 1)), some (.int v_1), some (.int i9_2), some (.int x3)]) dX8_handsOn_131 (Nat.le_of_ble_eq_true rfl) rfl (by rw [ci_iconst_1]) rfl ?_
        refine jv_goto (t := 34) dX8_handsOn_134 rfl ?_
        exact jm_sub (ls' := [some (.ref 137), some (.int a1), some (.int a2), some (.int a3), some (.int i4_4), some (.int i5), some (.int i6), some (.int (i7 + 1)), none, none, none]) ⟨rfl, rfl, rfl, rfl, rfl, rfl, rfl, rfl, trivial⟩ h
      clear h
      have h := hob
      refine jv_icmp_ne (t := 131) dX8_handsOn_94 rfl (fun c12 => ?_) (fun c12 => ?_)
      · replace h := h.1 c12
        exact key11 _ (Eq.trans rfl (if_neg c12).symm)
      · replace h := h.2 c12
        refine jv_iload dX8_handsOn_97 rfl ?_
        refine jv_if_le (t := 131) dX8_handsOn_99 rfl (fun c13 => ?_) (fun c13 => ?_)
        · replace h := h.1 c13
          exact key11 _ (Eq.trans (Eq.trans rfl (if_pos c13).symm) (if_pos c12).symm)
        · replace h := h.2 c13
          refine jv_aload_n dX8_handsOn_102 rfl ?_
          refine gf_8_69 rfl dX8_handsOn_103 kd_c_137 (lt_c 137 rfl) rf_c_137_23 ?_
          refine jv_iload dX8_handsOn_106 rfl ?_
          obtain ⟨b9, h⟩ := h
          refine jm_iaload dX8_handsOn_108 kd_c_1341 (lt_c 1341 rfl) b9 ?_
          refine jv_iload dX8_handsOn_109 rfl ?_
          refine jv_iadd dX8_handsOn_111 ?_
          refine jv_aload_n dX8_handsOn_112 rfl ?_
          refine gf_8_69 rfl dX8_handsOn_113 kd_c_137 (lt_c 137 rfl) rf_c_137_23 ?_
          refine jv_iload dX8_handsOn_116 rfl ?_
          obtain ⟨b10, h⟩ := h
          refine jm_iaload dX8_handsOn_118 kd_c_1341 (lt_c 1341 rfl) b10 ?_
          refine jv_icmp_ne (t := 131) dX8_handsOn_119 rfl (fun c14 => ?_) (fun c14 => ?_)
          · exact key11 _ (Eq.trans (Eq.trans (Eq.trans rfl (if_neg c14).symm) (if_neg c13).symm) (if_pos c12).symm)
          · refine jv_iload dX8_handsOn_122 rfl ?_
            refine jv_iconst dX8_handsOn_124 ci_iconst_1 ?_
            refine jv_iload dX8_handsOn_125 rfl ?_
            refine jv_ishl dX8_handsOn_127 ?_
            refine jv_ior dX8_handsOn_128 ?_
            refine jv_istore (ls' := [some (.ref 137), some (.int a1), some (.int a2), some (.int a3), some (.int (i4 ||| ((1 : Int32) <<< (i9_2 &&& 31)))), some (.int i5), some (.int i6), some (.int i7), some (.int v_1), some (.int i9_2), some (.int x3)]) dX8_handsOn_129 (Nat.le_of_ble_eq_true rfl) rfl ?_
            exact key11 _ (Eq.trans (Eq.trans (Eq.trans rfl (if_pos c14).symm) (if_neg c13).symm) (if_pos c12).symm)
    clear h
    have h := hob
    refine jv_if_ne (t := 55) dX8_handsOn_42 rfl (fun c16 => ?_) (fun c16 => ?_)
    · replace h := h.1 c16
      refine jv_aload_n dX8_handsOn_55 rfl ?_
      refine gf_8_13 rfl dX8_handsOn_56 kd_c_137 (lt_c 137 rfl) rf_c_137_2 ?_
      refine jv_iload dX8_handsOn_59 rfl ?_
      obtain ⟨b5, h⟩ := h
      refine jm_iaload dX8_handsOn_61 kd_c_139 (lt_c 139 rfl) b5 ?_
      exact key15 _ (Eq.trans rfl (if_neg c16).symm)
    · replace h := h.2 c16
      refine jv_aload_n dX8_handsOn_45 rfl ?_
      refine gf_8_9 rfl dX8_handsOn_46 kd_c_137 (lt_c 137 rfl) rf_c_137_1 ?_
      refine jv_iload dX8_handsOn_49 rfl ?_
      obtain ⟨b6, h⟩ := h
      refine jm_iaload dX8_handsOn_51 kd_c_138 (lt_c 138 rfl) b6 ?_
      refine jv_goto (t := 62) dX8_handsOn_52 rfl ?_
      exact key15 _ (Eq.trans rfl (if_pos c16).symm)
theorem g_X8_handsOn_149 {E : JE} {u : JM} {K : JM → Prop}  {a1 a2 a3 i4 i5 i6 : Int32}
    (h : ((8 ≤ i6 → K u) ∧
 (¬ 8 ≤ i6 → ((¬ ((i4 >>> (i6 &&& 31)) &&& 1) = 1 → JVu E 3 YX8_handsOn K 149 [some (.ref 137), some (.int a1), some (.int a2), some (.int a3), some (.int i4), some (.int i5), some (.int (i6 + 1)), none, none, none, none] [] u) ∧
  (((i4 >>> (i6 &&& 31)) &&& 1) = 1 → ((i6 = a1 → JVu E 3 YX8_handsOn K 149 [some (.ref 137), some (.int a1), some (.int a2), some (.int a3), some (.int i4), some (.int i5), some (.int (i6 + 1)), none, none, none, none] [] u) ∧
   (¬ i6 = a1 → vp_in i6 8 ∧
    ∀ u1, u1 = jw u 1342 i6.toNatClampNeg a3 →
    JVu E 3 YX8_handsOn K 149 [some (.ref 137), some (.int a1), some (.int a2), some (.int a3), some (.int i4), some (.int i5), some (.int (i6 + 1)), none, none, none, none] [] u1)))))))
    : JVu E 3 YX8_handsOn K 149 [some (.ref 137), some (.int a1), some (.int a2), some (.int a3), some (.int i4), some (.int i5), some (.int i6), none, none, none, none] [] u := by
  refine jv_iload dX8_handsOn_149 rfl ?_
  refine jv_bipush dX8_handsOn_151 ci_bipush_8 ?_
  refine jv_icmp_ge (t := 187) dX8_handsOn_153 rfl (fun c1 => ?_) (fun c1 => ?_)
  · replace h := h.1 c1
    exact jm_return dX8_handsOn_187 rfl h
  · replace h := h.2 c1
    refine jv_iload dX8_handsOn_156 rfl ?_
    refine jv_iload dX8_handsOn_158 rfl ?_
    refine jv_ishr dX8_handsOn_160 ?_
    refine jv_iconst dX8_handsOn_161 ci_iconst_1 ?_
    refine jv_iand dX8_handsOn_162 ?_
    refine jv_iconst dX8_handsOn_163 ci_iconst_1 ?_
    refine jv_icmp_ne (t := 181) dX8_handsOn_164 rfl (fun c2 => ?_) (fun c2 => ?_)
    · replace h := h.1 c2
      refine jv_iinc (v := i6 + 1) (ls' := [some (.ref 137), some (.int a1), some (.int a2), some (.int a3), some (.int i4), some (.int i5), some (.int (i6 + 1)), none, none, none, none]) dX8_handsOn_181 (Nat.le_of_ble_eq_true rfl) rfl (by rw [ci_iconst_1]) rfl ?_
      refine jv_goto (t := 149) dX8_handsOn_184 rfl ?_
      exact h
    · replace h := h.2 c2
      refine jv_iload dX8_handsOn_167 rfl ?_
      refine jv_iload_n dX8_handsOn_169 rfl ?_
      refine jv_icmp_eq (t := 181) dX8_handsOn_170 rfl (fun c3 => ?_) (fun c3 => ?_)
      · replace h := h.1 c3
        refine jv_iinc (v := i6 + 1) (ls' := [some (.ref 137), some (.int a1), some (.int a2), some (.int a3), some (.int i4), some (.int i5), some (.int (i6 + 1)), none, none, none, none]) dX8_handsOn_181 (Nat.le_of_ble_eq_true rfl) rfl (by rw [ci_iconst_1]) rfl ?_
        refine jv_goto (t := 149) dX8_handsOn_184 rfl ?_
        exact h
      · replace h := h.2 c3
        refine jv_aload_n dX8_handsOn_173 rfl ?_
        refine gf_8_72 rfl dX8_handsOn_174 kd_c_137 (lt_c 137 rfl) rf_c_137_24 ?_
        refine jv_iload dX8_handsOn_177 rfl ?_
        refine jv_iload_n dX8_handsOn_179 rfl ?_
        obtain ⟨b4, h⟩ := h
        refine jm_iastore dX8_handsOn_180 kd_c_1342 (lt_c 1342 rfl) b4 ?_
        generalize hhu1 : jw u 1342 i6.toNatClampNeg a3 = u1
        replace h := h u1 hhu1.symm
        refine jv_iinc (v := i6 + 1) (ls' := [some (.ref 137), some (.int a1), some (.int a2), some (.int a3), some (.int i4), some (.int i5), some (.int (i6 + 1)), none, none, none, none]) dX8_handsOn_181 (Nat.le_of_ble_eq_true rfl) rfl (by rw [ci_iconst_1]) rfl ?_
        refine jv_goto (t := 149) dX8_handsOn_184 rfl ?_
        exact h
theorem g_X8_noRoute_0 {E : JE} {u : JM} {K : JM → Prop} 
    (h : ∀ u1, u1 = jw u 137 25 9999 →
 ∀ u2, u2 = jw u1 137 26 (-1) →
 ∀ u3, u3 = jw u2 137 27 (-1) →
 ∀ u4, u4 = jw u3 137 28 (-1) →
 K u4)
    : JVu E 1 YX8_noRoute K 0 [some (.ref 137)] [] u := by
  refine jv_aload_n dX8_noRoute_0 rfl ?_
  refine jv_sipush dX8_noRoute_1 ci_sipush_9999 ?_
  refine pf_8_183 rfl dX8_noRoute_4 kd_c_137 (lt_c 137 rfl) ?_
  generalize hhu1 : jw u 137 25 9999 = u1
  replace h := h u1 hhu1.symm
  refine jv_aload_n dX8_noRoute_7 rfl ?_
  refine jv_iconst dX8_noRoute_8 ci_iconst_m1 ?_
  refine pf_8_186 rfl dX8_noRoute_9 kd_c_137 (lt_c 137 rfl) ?_
  generalize hhu2 : jw u1 137 26 (-1) = u2
  replace h := h u2 hhu2.symm
  refine jv_aload_n dX8_noRoute_12 rfl ?_
  refine jv_iconst dX8_noRoute_13 ci_iconst_m1 ?_
  refine pf_8_189 rfl dX8_noRoute_14 kd_c_137 (lt_c 137 rfl) ?_
  generalize hhu3 : jw u2 137 27 (-1) = u3
  replace h := h u3 hhu3.symm
  refine jv_aload_n dX8_noRoute_17 rfl ?_
  refine jv_iconst dX8_noRoute_18 ci_iconst_m1 ?_
  refine pf_8_192 rfl dX8_noRoute_19 kd_c_137 (lt_c 137 rfl) ?_
  generalize hhu4 : jw u3 137 28 (-1) = u4
  replace h := h u4 hhu4.symm
  exact jm_return dX8_noRoute_22 rfl h
theorem g_X8_inside_0 {E : JE} {u : JM} {K : JM → Prop}  {a1 a2 : Int32}
    (h : JCi E 2 YX8_areasOf [.ref 137, .int a1] (fun x1 u1 =>
 JVu E 5 YX8_inside K 9 [some (.ref 137), some (.int a1), some (.int a2), some (.int x1), some (.int 0)] [] u1) u)
    : JVu E 5 YX8_inside K 0 [some (.ref 137), some (.int a1), some (.int a2), none, none] [] u := by
  refine jv_aload_n dX8_inside_0 rfl ?_
  refine jv_iload_n dX8_inside_1 rfl ?_
  refine jm_callVi [.int a1] cw_8_137 dX8_inside_2 rfl (Nat.le_of_ble_eq_true rfl) kd_c_137 (r := (RX8, TX8, 48)) rfl rfl (lt_c 137 rfl) (Nat.le_of_ble_eq_true rfl) (JCi.mono h (fun x1 u1 h => ?_))
  refine jv_istore_n (ls' := [some (.ref 137), some (.int a1), some (.int a2), some (.int x1), none]) dX8_inside_5 (Nat.le_of_ble_eq_true rfl) rfl ?_
  refine jv_iconst dX8_inside_6 ci_iconst_0 ?_
  refine jv_istore (ls' := [some (.ref 137), some (.int a1), some (.int a2), some (.int x1), some (.int 0)]) dX8_inside_7 (Nat.le_of_ble_eq_true rfl) rfl ?_
  exact h
theorem g_X8_inside_9 {E : JE} {u : JM} {K : JM → Prop}  {a1 a2 i3 i4 : Int32}
    (h : ((3 ≤ i4 → K u) ∧
 (¬ 3 ≤ i4 → ((¬ ((i3 >>> (i4 &&& 31)) &&& 1) = 0 → JCu E 4 YX8_tellWithin [.ref 137, .int a1, .int i4] (fun u1 =>
   vp_in a2 8 ∧
    (((u1 1341 a2.toNatClampNeg) < (u1 137 25) → ∀ u2, u2 = jw u1 137 25 (u1 1341 a2.toNatClampNeg) →
     ∀ u3, u3 = jw u2 137 26 (u2 1342 a2.toNatClampNeg) →
     ∀ u4, u4 = jw u3 137 27 i4 →
     JVu E 5 YX8_inside K 9 [some (.ref 137), some (.int a1), some (.int a2), some (.int i3), some (.int (i4 + 1))] [] u4) ∧
    (¬ (u1 1341 a2.toNatClampNeg) < (u1 137 25) → JVu E 5 YX8_inside K 9 [some (.ref 137), some (.int a1), some (.int a2), some (.int i3), some (.int (i4 + 1))] [] u1))) u) ∧
  (((i3 >>> (i4 &&& 31)) &&& 1) = 0 → JVu E 5 YX8_inside K 9 [some (.ref 137), some (.int a1), some (.int a2), some (.int i3), some (.int (i4 + 1))] [] u)))))
    : JVu E 5 YX8_inside K 9 [some (.ref 137), some (.int a1), some (.int a2), some (.int i3), some (.int i4)] [] u := by
  refine jv_iload dX8_inside_9 rfl ?_
  refine jv_iconst dX8_inside_11 ci_iconst_3 ?_
  refine jv_icmp_ge (t := 82) dX8_inside_12 rfl (fun c1 => ?_) (fun c1 => ?_)
  · replace h := h.1 c1
    exact jm_return dX8_inside_82 rfl h
  · replace h := h.2 c1
    refine jv_iload_n dX8_inside_15 rfl ?_
    refine jv_iload dX8_inside_16 rfl ?_
    refine jv_ishr dX8_inside_18 ?_
    refine jv_iconst dX8_inside_19 ci_iconst_1 ?_
    refine jv_iand dX8_inside_20 ?_
    refine jv_if_ne (t := 27) dX8_inside_21 rfl (fun c2 => ?_) (fun c2 => ?_)
    · replace h := h.1 c2
      refine jv_aload_n dX8_inside_27 rfl ?_
      refine jv_iload_n dX8_inside_28 rfl ?_
      refine jv_iload dX8_inside_29 rfl ?_
      refine jm_callVu [.int a1, .int i4] cw_8_195 dX8_inside_31 rfl (Nat.le_of_ble_eq_true rfl) kd_c_137 (r := (RX8, TX8, 48)) rfl rfl (lt_c 137 rfl) (Nat.le_of_ble_eq_true rfl) (JCu.mono h (fun u1 h => ?_))
      refine jv_aload_n dX8_inside_34 rfl ?_
      refine gf_8_69 rfl dX8_inside_35 kd_c_137 (lt_c 137 rfl) rf_c_137_23 ?_
      refine jv_iload_n dX8_inside_38 rfl ?_
      obtain ⟨b3, h⟩ := h
      refine jm_iaload dX8_inside_39 kd_c_1341 (lt_c 1341 rfl) b3 ?_
      refine jv_aload_n dX8_inside_40 rfl ?_
      refine gf_8_183 rfl dX8_inside_41 kd_c_137 (lt_c 137 rfl) ?_
      refine jv_icmp_lt (t := 50) dX8_inside_44 rfl (fun c4 => ?_) (fun c4 => ?_)
      · replace h := h.1 c4
        refine jv_aload_n dX8_inside_50 rfl ?_
        refine jv_aload_n dX8_inside_51 rfl ?_
        refine gf_8_69 rfl dX8_inside_52 kd_c_137 (lt_c 137 rfl) rf_c_137_23 ?_
        refine jv_iload_n dX8_inside_55 rfl ?_
        refine jm_iaload dX8_inside_56 kd_c_1341 (lt_c 1341 rfl) b3 ?_
        refine pf_8_183 rfl dX8_inside_57 kd_c_137 (lt_c 137 rfl) ?_
        generalize hhu2 : jw u1 137 25 (u1 1341 a2.toNatClampNeg) = u2
        replace h := h u2 hhu2.symm
        refine jv_aload_n dX8_inside_60 rfl ?_
        refine jv_aload_n dX8_inside_61 rfl ?_
        refine gf_8_72 rfl dX8_inside_62 kd_c_137 (lt_c 137 rfl) rf_c_137_24 ?_
        refine jv_iload_n dX8_inside_65 rfl ?_
        refine jm_iaload dX8_inside_66 kd_c_1342 (lt_c 1342 rfl) b3 ?_
        refine pf_8_186 rfl dX8_inside_67 kd_c_137 (lt_c 137 rfl) ?_
        generalize hhu3 : jw u2 137 26 (u2 1342 a2.toNatClampNeg) = u3
        replace h := h u3 hhu3.symm
        refine jv_aload_n dX8_inside_70 rfl ?_
        refine jv_iload dX8_inside_71 rfl ?_
        refine pf_8_189 rfl dX8_inside_73 kd_c_137 (lt_c 137 rfl) ?_
        generalize hhu4 : jw u3 137 27 i4 = u4
        replace h := h u4 hhu4.symm
        refine jv_iinc (v := i4 + 1) (ls' := [some (.ref 137), some (.int a1), some (.int a2), some (.int i3), some (.int (i4 + 1))]) dX8_inside_76 (Nat.le_of_ble_eq_true rfl) rfl (by rw [ci_iconst_1]) rfl ?_
        refine jv_goto (t := 9) dX8_inside_79 rfl ?_
        exact h
      · replace h := h.2 c4
        refine jv_goto (t := 76) dX8_inside_47 rfl ?_
        refine jv_iinc (v := i4 + 1) (ls' := [some (.ref 137), some (.int a1), some (.int a2), some (.int i3), some (.int (i4 + 1))]) dX8_inside_76 (Nat.le_of_ble_eq_true rfl) rfl (by rw [ci_iconst_1]) rfl ?_
        refine jv_goto (t := 9) dX8_inside_79 rfl ?_
        exact h
    · replace h := h.2 c2
      refine jv_goto (t := 76) dX8_inside_24 rfl ?_
      refine jv_iinc (v := i4 + 1) (ls' := [some (.ref 137), some (.int a1), some (.int a2), some (.int i3), some (.int (i4 + 1))]) dX8_inside_76 (Nat.le_of_ble_eq_true rfl) rfl (by rw [ci_iconst_1]) rfl ?_
      refine jv_goto (t := 9) dX8_inside_79 rfl ?_
      exact h
theorem g_X8_across_0 {E : JE} {u : JM} {K : JM → Prop}  {a1 a2 a3 : Int32}
    (h : JCu E 4 YX8_tellWithin [.ref 137, .int a1, .int a3] (fun u1 =>
 JVu E 5 YX8_across K 9 [some (.ref 137), some (.int a1), some (.int a2), some (.int a3), some (.int 0), none] [] u1) u)
    : JVu E 5 YX8_across K 0 [some (.ref 137), some (.int a1), some (.int a2), some (.int a3), none, none] [] u := by
  refine jv_aload_n dX8_across_0 rfl ?_
  refine jv_iload_n dX8_across_1 rfl ?_
  refine jv_iload_n dX8_across_2 rfl ?_
  refine jm_callVu [.int a1, .int a3] cw_8_195 dX8_across_3 rfl (Nat.le_of_ble_eq_true rfl) kd_c_137 (r := (RX8, TX8, 48)) rfl rfl (lt_c 137 rfl) (Nat.le_of_ble_eq_true rfl) (JCu.mono h (fun u1 h => ?_))
  refine jv_iconst dX8_across_6 ci_iconst_0 ?_
  refine jv_istore (ls' := [some (.ref 137), some (.int a1), some (.int a2), some (.int a3), some (.int 0), none]) dX8_across_7 (Nat.le_of_ble_eq_true rfl) rfl ?_
  exact h
theorem g_X8_across_9 {E : JE} {u : JM} {K : JM → Prop}  {a1 a2 a3 i4 : Int32}
    (h : ((8 ≤ i4 → K u) ∧
 (¬ 8 ≤ i4 → ∀ i5_1 : Int32, i5_1 = (a1 * 8 + i4) * 3 + a3 →
  ((i4 = a1 → JVu E 5 YX8_across K 9 [some (.ref 137), some (.int a1), some (.int a2), some (.int a3), some (.int (i4 + 1)), none] [] u) ∧
  (¬ i4 = a1 → vp_in i5_1 192 ∧
   (((u 143 i5_1.toNatClampNeg) = 0 → JVu E 5 YX8_across K 9 [some (.ref 137), some (.int a1), some (.int a2), some (.int a3), some (.int (i4 + 1)), none] [] u) ∧
   (¬ (u 143 i5_1.toNatClampNeg) = 0 → vp_in a2 8 ∧
    (((u (341 + i5_1.toNatClampNeg) a2.toNatClampNeg) = 9999 → JVu E 5 YX8_across K 9 [some (.ref 137), some (.int a1), some (.int a2), some (.int a3), some (.int (i4 + 1)), none] [] u) ∧
    (¬ (u (341 + i5_1.toNatClampNeg) a2.toNatClampNeg) = 9999 → vp_in i4 8 ∧
     (((u 1341 i4.toNatClampNeg) = 9999 → JVu E 5 YX8_across K 9 [some (.ref 137), some (.int a1), some (.int a2), some (.int a3), some (.int (i4 + 1)), none] [] u) ∧
     (¬ (u 1341 i4.toNatClampNeg) = 9999 → ((((u 1341 i4.toNatClampNeg) + (u (341 + i5_1.toNatClampNeg) a2.toNatClampNeg)) < (u 137 25) → ∀ u2, u2 = jw u 137 25 ((u 1341 i4.toNatClampNeg) + (u (341 + i5_1.toNatClampNeg) a2.toNatClampNeg)) →
       ∀ u3, u3 = jw u2 137 26 (u2 1342 i4.toNatClampNeg) →
       ∀ u4, u4 = jw u3 137 27 a3 →
       ∀ u5, u5 = jw u4 137 28 i4 →
       JVu E 5 YX8_across K 9 [some (.ref 137), some (.int a1), some (.int a2), some (.int a3), some (.int (i4 + 1)), none] [] u5) ∧
      (¬ ((u 1341 i4.toNatClampNeg) + (u (341 + i5_1.toNatClampNeg) a2.toNatClampNeg)) < (u 137 25) → JVu E 5 YX8_across K 9 [some (.ref 137), some (.int a1), some (.int a2), some (.int a3), some (.int (i4 + 1)), none] [] u)))))))))))))
    : JVu E 5 YX8_across K 9 [some (.ref 137), some (.int a1), some (.int a2), some (.int a3), some (.int i4), none] [] u := by
  refine jv_iload dX8_across_9 rfl ?_
  refine jv_bipush dX8_across_11 ci_bipush_8 ?_
  refine jv_icmp_ge (t := 145) dX8_across_13 rfl (fun c1 => ?_) (fun c1 => ?_)
  · replace h := h.1 c1
    exact jm_return dX8_across_145 rfl h
  · replace h := h.2 c1
    refine jv_iload_n dX8_across_16 rfl ?_
    refine jv_iload dX8_across_17 rfl ?_
    refine jv_iload_n dX8_across_19 rfl ?_
    refine jm_callSi [.int a1, .int i4, .int a3] cw_8_155 dX8_across_20 rfl (Nat.le_of_ble_eq_true rfl) (Nat.le_of_ble_eq_true rfl) (p_X8_place  ?_)
    generalize hhi5_1 : (a1 * 8 + i4) * 3 + a3 = i5_1
    replace h := h i5_1 hhi5_1.symm
    refine jv_istore (ls' := [some (.ref 137), some (.int a1), some (.int a2), some (.int a3), some (.int i4), some (.int i5_1)]) dX8_across_23 (Nat.le_of_ble_eq_true rfl) rfl ?_
    refine jv_iload dX8_across_25 rfl ?_
    refine jv_iload_n dX8_across_27 rfl ?_
    refine jv_icmp_eq (t := 139) dX8_across_28 rfl (fun c12 => ?_) (fun c12 => ?_)
    · replace h := h.1 c12
      refine jv_iinc (v := i4 + 1) (ls' := [some (.ref 137), some (.int a1), some (.int a2), some (.int a3), some (.int (i4 + 1)), some (.int i5_1)]) dX8_across_139 (Nat.le_of_ble_eq_true rfl) rfl (by rw [ci_iconst_1]) rfl ?_
      refine jv_goto (t := 9) dX8_across_142 rfl ?_
      exact jm_sub (ls' := [some (.ref 137), some (.int a1), some (.int a2), some (.int a3), some (.int (i4 + 1)), none]) ⟨rfl, rfl, rfl, rfl, rfl, trivial⟩ h
    · replace h := h.2 c12
      refine jv_aload_n dX8_across_31 rfl ?_
      refine gf_8_25 rfl dX8_across_32 kd_c_137 (lt_c 137 rfl) rf_c_137_6 ?_
      refine jv_iload dX8_across_35 rfl ?_
      obtain ⟨b23, h⟩ := h
      refine jm_iaload dX8_across_37 kd_c_143 (lt_c 143 rfl) b23 ?_
      refine jv_if_eq (t := 139) dX8_across_38 rfl (fun c24 => ?_) (fun c24 => ?_)
      · replace h := h.1 c24
        refine jv_iinc (v := i4 + 1) (ls' := [some (.ref 137), some (.int a1), some (.int a2), some (.int a3), some (.int (i4 + 1)), some (.int i5_1)]) dX8_across_139 (Nat.le_of_ble_eq_true rfl) rfl (by rw [ci_iconst_1]) rfl ?_
        refine jv_goto (t := 9) dX8_across_142 rfl ?_
        exact jm_sub (ls' := [some (.ref 137), some (.int a1), some (.int a2), some (.int a3), some (.int (i4 + 1)), none]) ⟨rfl, rfl, rfl, rfl, rfl, trivial⟩ h
      · replace h := h.2 c24
        refine jv_aload_n dX8_across_41 rfl ?_
        refine gf_8_42 rfl dX8_across_42 kd_c_137 (lt_c 137 rfl) rf_c_137_11 ?_
        refine jv_iload dX8_across_45 rfl ?_
        refine jm_aaload1 dX8_across_47 kd_c_340 (lt_c 340 rfl) b23 (rf_r_340 _) ?_
        refine jv_iload_n dX8_across_48 rfl ?_
        obtain ⟨b31, h⟩ := h
        refine jm_iaload dX8_across_49 (kd_r_340 (vp_lt b23)) (lt_r_340 (vp_lt b23)) b31 ?_
        refine jv_sipush dX8_across_50 ci_sipush_9999 ?_
        refine jv_icmp_eq (t := 139) dX8_across_53 rfl (fun c32 => ?_) (fun c32 => ?_)
        · replace h := h.1 c32
          refine jv_iinc (v := i4 + 1) (ls' := [some (.ref 137), some (.int a1), some (.int a2), some (.int a3), some (.int (i4 + 1)), some (.int i5_1)]) dX8_across_139 (Nat.le_of_ble_eq_true rfl) rfl (by rw [ci_iconst_1]) rfl ?_
          refine jv_goto (t := 9) dX8_across_142 rfl ?_
          exact jm_sub (ls' := [some (.ref 137), some (.int a1), some (.int a2), some (.int a3), some (.int (i4 + 1)), none]) ⟨rfl, rfl, rfl, rfl, rfl, trivial⟩ h
        · replace h := h.2 c32
          refine jv_aload_n dX8_across_56 rfl ?_
          refine gf_8_69 rfl dX8_across_57 kd_c_137 (lt_c 137 rfl) rf_c_137_23 ?_
          refine jv_iload dX8_across_60 rfl ?_
          obtain ⟨b36, h⟩ := h
          refine jm_iaload dX8_across_62 kd_c_1341 (lt_c 1341 rfl) b36 ?_
          refine jv_sipush dX8_across_63 ci_sipush_9999 ?_
          refine jv_icmp_eq (t := 139) dX8_across_66 rfl (fun c37 => ?_) (fun c37 => ?_)
          · replace h := h.1 c37
            refine jv_iinc (v := i4 + 1) (ls' := [some (.ref 137), some (.int a1), some (.int a2), some (.int a3), some (.int (i4 + 1)), some (.int i5_1)]) dX8_across_139 (Nat.le_of_ble_eq_true rfl) rfl (by rw [ci_iconst_1]) rfl ?_
            refine jv_goto (t := 9) dX8_across_142 rfl ?_
            exact jm_sub (ls' := [some (.ref 137), some (.int a1), some (.int a2), some (.int a3), some (.int (i4 + 1)), none]) ⟨rfl, rfl, rfl, rfl, rfl, trivial⟩ h
          · replace h := h.2 c37
            refine jv_aload_n dX8_across_69 rfl ?_
            refine gf_8_69 rfl dX8_across_70 kd_c_137 (lt_c 137 rfl) rf_c_137_23 ?_
            refine jv_iload dX8_across_73 rfl ?_
            refine jm_iaload dX8_across_75 kd_c_1341 (lt_c 1341 rfl) b36 ?_
            refine jv_aload_n dX8_across_76 rfl ?_
            refine gf_8_42 rfl dX8_across_77 kd_c_137 (lt_c 137 rfl) rf_c_137_11 ?_
            refine jv_iload dX8_across_80 rfl ?_
            refine jm_aaload1 dX8_across_82 kd_c_340 (lt_c 340 rfl) b23 (rf_r_340 _) ?_
            refine jv_iload_n dX8_across_83 rfl ?_
            refine jm_iaload dX8_across_84 (kd_r_340 (vp_lt b23)) (lt_r_340 (vp_lt b23)) b31 ?_
            refine jv_iadd dX8_across_85 ?_
            refine jv_aload_n dX8_across_86 rfl ?_
            refine gf_8_183 rfl dX8_across_87 kd_c_137 (lt_c 137 rfl) ?_
            refine jv_icmp_lt (t := 96) dX8_across_90 rfl (fun c38 => ?_) (fun c38 => ?_)
            · replace h := h.1 c38
              refine jv_aload_n dX8_across_96 rfl ?_
              refine jv_aload_n dX8_across_97 rfl ?_
              refine gf_8_69 rfl dX8_across_98 kd_c_137 (lt_c 137 rfl) rf_c_137_23 ?_
              refine jv_iload dX8_across_101 rfl ?_
              refine jm_iaload dX8_across_103 kd_c_1341 (lt_c 1341 rfl) b36 ?_
              refine jv_aload_n dX8_across_104 rfl ?_
              refine gf_8_42 rfl dX8_across_105 kd_c_137 (lt_c 137 rfl) rf_c_137_11 ?_
              refine jv_iload dX8_across_108 rfl ?_
              refine jm_aaload1 dX8_across_110 kd_c_340 (lt_c 340 rfl) b23 (rf_r_340 _) ?_
              refine jv_iload_n dX8_across_111 rfl ?_
              refine jm_iaload dX8_across_112 (kd_r_340 (vp_lt b23)) (lt_r_340 (vp_lt b23)) b31 ?_
              refine jv_iadd dX8_across_113 ?_
              refine pf_8_183 rfl dX8_across_114 kd_c_137 (lt_c 137 rfl) ?_
              generalize hhu2 : jw u 137 25 ((u 1341 i4.toNatClampNeg) + (u (341 + i5_1.toNatClampNeg) a2.toNatClampNeg)) = u2
              replace h := h u2 hhu2.symm
              refine jv_aload_n dX8_across_117 rfl ?_
              refine jv_aload_n dX8_across_118 rfl ?_
              refine gf_8_72 rfl dX8_across_119 kd_c_137 (lt_c 137 rfl) rf_c_137_24 ?_
              refine jv_iload dX8_across_122 rfl ?_
              refine jm_iaload dX8_across_124 kd_c_1342 (lt_c 1342 rfl) b36 ?_
              refine pf_8_186 rfl dX8_across_125 kd_c_137 (lt_c 137 rfl) ?_
              generalize hhu3 : jw u2 137 26 (u2 1342 i4.toNatClampNeg) = u3
              replace h := h u3 hhu3.symm
              refine jv_aload_n dX8_across_128 rfl ?_
              refine jv_iload_n dX8_across_129 rfl ?_
              refine pf_8_189 rfl dX8_across_130 kd_c_137 (lt_c 137 rfl) ?_
              generalize hhu4 : jw u3 137 27 a3 = u4
              replace h := h u4 hhu4.symm
              refine jv_aload_n dX8_across_133 rfl ?_
              refine jv_iload dX8_across_134 rfl ?_
              refine pf_8_192 rfl dX8_across_136 kd_c_137 (lt_c 137 rfl) ?_
              generalize hhu5 : jw u4 137 28 i4 = u5
              replace h := h u5 hhu5.symm
              refine jv_iinc (v := i4 + 1) (ls' := [some (.ref 137), some (.int a1), some (.int a2), some (.int a3), some (.int (i4 + 1)), some (.int i5_1)]) dX8_across_139 (Nat.le_of_ble_eq_true rfl) rfl (by rw [ci_iconst_1]) rfl ?_
              refine jv_goto (t := 9) dX8_across_142 rfl ?_
              exact jm_sub (ls' := [some (.ref 137), some (.int a1), some (.int a2), some (.int a3), some (.int (i4 + 1)), none]) ⟨rfl, rfl, rfl, rfl, rfl, trivial⟩ h
            · replace h := h.2 c38
              refine jv_goto (t := 139) dX8_across_93 rfl ?_
              refine jv_iinc (v := i4 + 1) (ls' := [some (.ref 137), some (.int a1), some (.int a2), some (.int a3), some (.int (i4 + 1)), some (.int i5_1)]) dX8_across_139 (Nat.le_of_ble_eq_true rfl) rfl (by rw [ci_iconst_1]) rfl ?_
              refine jv_goto (t := 9) dX8_across_142 rfl ?_
              exact jm_sub (ls' := [some (.ref 137), some (.int a1), some (.int a2), some (.int a3), some (.int (i4 + 1)), none]) ⟨rfl, rfl, rfl, rfl, rfl, trivial⟩ h
theorem g_X8_tellRoute_0 {E : JE} {u : JM} {K : JM → Prop}  {a1 a2 : Int32}
    (h : JCu E 1 YX8_noRoute [.ref 137] (fun u1 =>
 JCu E 5 YX8_inside [.ref 137, .int a1, .int a2] (fun u2 =>
  ((9999 ≤ (u2 137 25) → JCi E 3 YX8_isBorder [.ref 137, .int a1] (fun x3 u3 =>
    ((x3 = 0 → JCi E 2 YX8_areasOf [.ref 137, .int a1] (fun x4 u4 =>
      JVu E 6 YX8_tellRoute K 42 [some (.ref 137), some (.int a1), some (.int a2), some (.int x4), some (.int 0)] [] u4) u3) ∧
     (¬ x3 = 0 → JVu E 6 YX8_tellRoute K 42 [some (.ref 137), some (.int a1), some (.int a2), some (.int 1), some (.int 0)] [] u3))) u2) ∧
   (¬ 9999 ≤ (u2 137 25) → K u2))) u1) u)
    : JVu E 6 YX8_tellRoute K 0 [some (.ref 137), some (.int a1), some (.int a2), none, none] [] u := by
  refine jv_aload_n dX8_tellRoute_0 rfl ?_
  refine jm_callVu [] cw_8_199 dX8_tellRoute_1 rfl (Nat.le_of_ble_eq_true rfl) kd_c_137 (r := (RX8, TX8, 48)) rfl rfl (lt_c 137 rfl) (Nat.le_of_ble_eq_true rfl) (JCu.mono h (fun u1 h => ?_))
  refine jv_aload_n dX8_tellRoute_4 rfl ?_
  refine jv_iload_n dX8_tellRoute_5 rfl ?_
  refine jv_iload_n dX8_tellRoute_6 rfl ?_
  refine jm_callVu [.int a1, .int a2] cw_8_202 dX8_tellRoute_7 rfl (Nat.le_of_ble_eq_true rfl) kd_c_137 (r := (RX8, TX8, 48)) rfl rfl (lt_c 137 rfl) (Nat.le_of_ble_eq_true rfl) (JCu.mono h (fun u2 h => ?_))
  refine jv_aload_n dX8_tellRoute_10 rfl ?_
  refine gf_8_183 rfl dX8_tellRoute_11 kd_c_137 (lt_c 137 rfl) ?_
  refine jv_sipush dX8_tellRoute_14 ci_sipush_9999 ?_
  refine jv_icmp_ge (t := 21) dX8_tellRoute_17 rfl (fun c1 => ?_) (fun c1 => ?_)
  · replace h := h.1 c1
    refine jv_aload_n dX8_tellRoute_21 rfl ?_
    refine jv_iload_n dX8_tellRoute_22 rfl ?_
    refine jm_callVi [.int a1] cw_8_162 dX8_tellRoute_23 rfl (Nat.le_of_ble_eq_true rfl) kd_c_137 (r := (RX8, TX8, 48)) rfl rfl (lt_c 137 rfl) (Nat.le_of_ble_eq_true rfl) (JCi.mono h (fun x3 u3 h => ?_))
    refine jv_if_eq (t := 33) dX8_tellRoute_26 rfl (fun c2 => ?_) (fun c2 => ?_)
    · replace h := h.1 c2
      refine jv_aload_n dX8_tellRoute_33 rfl ?_
      refine jv_iload_n dX8_tellRoute_34 rfl ?_
      refine jm_callVi [.int a1] cw_8_137 dX8_tellRoute_35 rfl (Nat.le_of_ble_eq_true rfl) kd_c_137 (r := (RX8, TX8, 48)) rfl rfl (lt_c 137 rfl) (Nat.le_of_ble_eq_true rfl) (JCi.mono h (fun x4 u4 h => ?_))
      refine jv_istore_n (ls' := [some (.ref 137), some (.int a1), some (.int a2), some (.int x4), none]) dX8_tellRoute_38 (Nat.le_of_ble_eq_true rfl) rfl ?_
      refine jv_iconst dX8_tellRoute_39 ci_iconst_0 ?_
      refine jv_istore (ls' := [some (.ref 137), some (.int a1), some (.int a2), some (.int x4), some (.int 0)]) dX8_tellRoute_40 (Nat.le_of_ble_eq_true rfl) rfl ?_
      exact h
    · replace h := h.2 c2
      refine jv_iconst dX8_tellRoute_29 ci_iconst_1 ?_
      refine jv_goto (t := 38) dX8_tellRoute_30 rfl ?_
      refine jv_istore_n (ls' := [some (.ref 137), some (.int a1), some (.int a2), some (.int 1), none]) dX8_tellRoute_38 (Nat.le_of_ble_eq_true rfl) rfl ?_
      refine jv_iconst dX8_tellRoute_39 ci_iconst_0 ?_
      refine jv_istore (ls' := [some (.ref 137), some (.int a1), some (.int a2), some (.int 1), some (.int 0)]) dX8_tellRoute_40 (Nat.le_of_ble_eq_true rfl) rfl ?_
      exact h
  · replace h := h.2 c1
    exact jm_return dX8_tellRoute_20 rfl h
theorem g_X8_tellRoute_42 {E : JE} {u : JM} {K : JM → Prop}  {a1 a2 i3 i4 : Int32}
    (h : ((3 ≤ i4 → K u) ∧
 (¬ 3 ≤ i4 → ((¬ ((i3 >>> (i4 &&& 31)) &&& 1) = 1 → JVu E 6 YX8_tellRoute K 42 [some (.ref 137), some (.int a1), some (.int a2), some (.int i3), some (.int (i4 + 1))] [] u) ∧
  (((i3 >>> (i4 &&& 31)) &&& 1) = 1 → JCu E 5 YX8_across [.ref 137, .int a1, .int a2, .int i4] (fun u1 =>
   JVu E 6 YX8_tellRoute K 42 [some (.ref 137), some (.int a1), some (.int a2), some (.int i3), some (.int (i4 + 1))] [] u1) u)))))
    : JVu E 6 YX8_tellRoute K 42 [some (.ref 137), some (.int a1), some (.int a2), some (.int i3), some (.int i4)] [] u := by
  refine jv_iload dX8_tellRoute_42 rfl ?_
  refine jv_iconst dX8_tellRoute_44 ci_iconst_3 ?_
  refine jv_icmp_ge (t := 72) dX8_tellRoute_45 rfl (fun c1 => ?_) (fun c1 => ?_)
  · replace h := h.1 c1
    exact jm_return dX8_tellRoute_72 rfl h
  · replace h := h.2 c1
    refine jv_iload_n dX8_tellRoute_48 rfl ?_
    refine jv_iload dX8_tellRoute_49 rfl ?_
    refine jv_ishr dX8_tellRoute_51 ?_
    refine jv_iconst dX8_tellRoute_52 ci_iconst_1 ?_
    refine jv_iand dX8_tellRoute_53 ?_
    refine jv_iconst dX8_tellRoute_54 ci_iconst_1 ?_
    refine jv_icmp_ne (t := 66) dX8_tellRoute_55 rfl (fun c2 => ?_) (fun c2 => ?_)
    · replace h := h.1 c2
      refine jv_iinc (v := i4 + 1) (ls' := [some (.ref 137), some (.int a1), some (.int a2), some (.int i3), some (.int (i4 + 1))]) dX8_tellRoute_66 (Nat.le_of_ble_eq_true rfl) rfl (by rw [ci_iconst_1]) rfl ?_
      refine jv_goto (t := 42) dX8_tellRoute_69 rfl ?_
      exact h
    · replace h := h.2 c2
      refine jv_aload_n dX8_tellRoute_58 rfl ?_
      refine jv_iload_n dX8_tellRoute_59 rfl ?_
      refine jv_iload_n dX8_tellRoute_60 rfl ?_
      refine jv_iload dX8_tellRoute_61 rfl ?_
      refine jm_callVu [.int a1, .int a2, .int i4] cw_8_205 dX8_tellRoute_63 rfl (Nat.le_of_ble_eq_true rfl) kd_c_137 (r := (RX8, TX8, 48)) rfl rfl (lt_c 137 rfl) (Nat.le_of_ble_eq_true rfl) (JCu.mono h (fun u1 h => ?_))
      refine jv_iinc (v := i4 + 1) (ls' := [some (.ref 137), some (.int a1), some (.int a2), some (.int i3), some (.int (i4 + 1))]) dX8_tellRoute_66 (Nat.le_of_ble_eq_true rfl) rfl (by rw [ci_iconst_1]) rfl ?_
      refine jv_goto (t := 42) dX8_tellRoute_69 rfl ?_
      exact h
theorem g_X8_sumOf_0 {E : JE} {u : JM} {K : Int32 → JM → Prop}  {a1 a2 a3 : Int32}
    (h : ((a2 = a1 → K 9999 u) ∧
 (¬ a2 = a1 → JCi E 3 YX8_isBorder [.ref 137, .int a1] (fun x1 u1 =>
  ((¬ x1 = 0 → JCi E 2 YX8_areasOf [.ref 137, .int a1] (fun x2 u2 =>
    ((¬ a3 = 0 → JCu E 4 YX8_tellWithin [.ref 137, .int a1, .int 0] (fun u3 =>
      vp_in a2 8 ∧
       ((9999 ≤ (u3 1341 a2.toNatClampNeg) → JCu E 1 YX8_noRoute [.ref 137] (fun u4 =>
        JCu E 5 YX8_across [.ref 137, .int a1, .int a2, .int 0] (fun u5 =>
         K (u5 137 25) u5) u4) u3) ∧
       (¬ 9999 ≤ (u3 1341 a2.toNatClampNeg) → K (u3 1341 a2.toNatClampNeg) u3))) u2) ∧
     (a3 = 0 → JVi E 6 YX8_sumOf K 36 [some (.ref 137), some (.int a1), some (.int a2), some (.int a3), some (.int 9999), some (.int x2), some (.int 1)] [] u2))) u1) ∧
   (x1 = 0 → K 9999 u1))) u)))
    : JVi E 6 YX8_sumOf K 0 [some (.ref 137), some (.int a1), some (.int a2), some (.int a3), none, none, none] [] u := by
  refine jv_iload_n dX8_sumOf_0 rfl ?_
  refine jv_iload_n dX8_sumOf_1 rfl ?_
  refine jv_icmp_eq (t := 13) dX8_sumOf_2 rfl (fun c1 => ?_) (fun c1 => ?_)
  · replace h := h.1 c1
    refine jv_sipush dX8_sumOf_13 ci_sipush_9999 ?_
    exact jm_ireturn dX8_sumOf_16 rfl h
  · replace h := h.2 c1
    refine jv_aload_n dX8_sumOf_5 rfl ?_
    refine jv_iload_n dX8_sumOf_6 rfl ?_
    refine jm_callVi [.int a1] cw_8_162 dX8_sumOf_7 rfl (Nat.le_of_ble_eq_true rfl) kd_c_137 (r := (RX8, TX8, 48)) rfl rfl (lt_c 137 rfl) (Nat.le_of_ble_eq_true rfl) (JCi.mono h (fun x1 u1 h => ?_))
    refine jv_if_ne (t := 17) dX8_sumOf_10 rfl (fun c2 => ?_) (fun c2 => ?_)
    · replace h := h.1 c2
      refine jv_sipush dX8_sumOf_17 ci_sipush_9999 ?_
      refine jv_istore (ls' := [some (.ref 137), some (.int a1), some (.int a2), some (.int a3), some (.int 9999), none, none]) dX8_sumOf_20 (Nat.le_of_ble_eq_true rfl) rfl ?_
      refine jv_aload_n dX8_sumOf_22 rfl ?_
      refine jv_iload_n dX8_sumOf_23 rfl ?_
      refine jm_callVi [.int a1] cw_8_137 dX8_sumOf_24 rfl (Nat.le_of_ble_eq_true rfl) kd_c_137 (r := (RX8, TX8, 48)) rfl rfl (lt_c 137 rfl) (Nat.le_of_ble_eq_true rfl) (JCi.mono h (fun x2 u2 h => ?_))
      refine jv_istore (ls' := [some (.ref 137), some (.int a1), some (.int a2), some (.int a3), some (.int 9999), some (.int x2), none]) dX8_sumOf_27 (Nat.le_of_ble_eq_true rfl) rfl ?_
      refine jv_iload_n dX8_sumOf_29 rfl ?_
      refine jv_if_ne (t := 84) dX8_sumOf_30 rfl (fun c3 => ?_) (fun c3 => ?_)
      · replace h := h.1 c3
        refine jv_aload_n dX8_sumOf_84 rfl ?_
        refine jv_iload_n dX8_sumOf_85 rfl ?_
        refine jv_iconst dX8_sumOf_86 ci_iconst_0 ?_
        refine jm_callVu [.int a1, .int 0] cw_8_195 dX8_sumOf_87 rfl (Nat.le_of_ble_eq_true rfl) kd_c_137 (r := (RX8, TX8, 48)) rfl rfl (lt_c 137 rfl) (Nat.le_of_ble_eq_true rfl) (JCu.mono h (fun u3 h => ?_))
        refine jv_aload_n dX8_sumOf_90 rfl ?_
        refine gf_8_69 rfl dX8_sumOf_91 kd_c_137 (lt_c 137 rfl) rf_c_137_23 ?_
        refine jv_iload_n dX8_sumOf_94 rfl ?_
        obtain ⟨b4, h⟩ := h
        refine jm_iaload dX8_sumOf_95 kd_c_1341 (lt_c 1341 rfl) b4 ?_
        refine jv_sipush dX8_sumOf_96 ci_sipush_9999 ?_
        refine jv_icmp_ge (t := 109) dX8_sumOf_99 rfl (fun c5 => ?_) (fun c5 => ?_)
        · replace h := h.1 c5
          refine jv_aload_n dX8_sumOf_109 rfl ?_
          refine jm_callVu [] cw_8_199 dX8_sumOf_110 rfl (Nat.le_of_ble_eq_true rfl) kd_c_137 (r := (RX8, TX8, 48)) rfl rfl (lt_c 137 rfl) (Nat.le_of_ble_eq_true rfl) (JCu.mono h (fun u4 h => ?_))
          refine jv_aload_n dX8_sumOf_113 rfl ?_
          refine jv_iload_n dX8_sumOf_114 rfl ?_
          refine jv_iload_n dX8_sumOf_115 rfl ?_
          refine jv_iconst dX8_sumOf_116 ci_iconst_0 ?_
          refine jm_callVu [.int a1, .int a2, .int 0] cw_8_205 dX8_sumOf_117 rfl (Nat.le_of_ble_eq_true rfl) kd_c_137 (r := (RX8, TX8, 48)) rfl rfl (lt_c 137 rfl) (Nat.le_of_ble_eq_true rfl) (JCu.mono h (fun u5 h => ?_))
          refine jv_aload_n dX8_sumOf_120 rfl ?_
          refine gf_8_183 rfl dX8_sumOf_121 kd_c_137 (lt_c 137 rfl) ?_
          exact jm_ireturn dX8_sumOf_124 rfl h
        · replace h := h.2 c5
          refine jv_aload_n dX8_sumOf_102 rfl ?_
          refine gf_8_69 rfl dX8_sumOf_103 kd_c_137 (lt_c 137 rfl) rf_c_137_23 ?_
          refine jv_iload_n dX8_sumOf_106 rfl ?_
          refine jm_iaload dX8_sumOf_107 kd_c_1341 (lt_c 1341 rfl) b4 ?_
          exact jm_ireturn dX8_sumOf_108 rfl h
      · replace h := h.2 c3
        refine jv_iconst dX8_sumOf_33 ci_iconst_1 ?_
        refine jv_istore (ls' := [some (.ref 137), some (.int a1), some (.int a2), some (.int a3), some (.int 9999), some (.int x2), some (.int 1)]) dX8_sumOf_34 (Nat.le_of_ble_eq_true rfl) rfl ?_
        exact h
    · replace h := h.2 c2
      refine jv_sipush dX8_sumOf_13 ci_sipush_9999 ?_
      exact jm_ireturn dX8_sumOf_16 rfl h
theorem g_X8_sumOf_36 {E : JE} {u : JM} {K : Int32 → JM → Prop}  {a1 a2 a3 i4 i5 i6 : Int32}
    (h : ((3 ≤ i6 → K i4 u) ∧
 (¬ 3 ≤ i6 → ((¬ ((i5 >>> (i6 &&& 31)) &&& 1) = 0 → JCu E 4 YX8_tellWithin [.ref 137, .int a1, .int i6] (fun u1 =>
   vp_in a2 8 ∧
    ∀ i4_2 : Int32, i4_2 = (if i4 ≤ (u1 1341 a2.toNatClampNeg) then i4 else (u1 1341 a2.toNatClampNeg)) →
    JVi E 6 YX8_sumOf K 36 [some (.ref 137), some (.int a1), some (.int a2), some (.int a3), some (.int i4_2), some (.int i5), some (.int (i6 + 1))] [] u1) u) ∧
  (((i5 >>> (i6 &&& 31)) &&& 1) = 0 → JVi E 6 YX8_sumOf K 36 [some (.ref 137), some (.int a1), some (.int a2), some (.int a3), some (.int i4), some (.int i5), some (.int (i6 + 1))] [] u)))))
    : JVi E 6 YX8_sumOf K 36 [some (.ref 137), some (.int a1), some (.int a2), some (.int a3), some (.int i4), some (.int i5), some (.int i6)] [] u := by
  refine jv_iload dX8_sumOf_36 rfl ?_
  refine jv_iconst dX8_sumOf_38 ci_iconst_3 ?_
  refine jv_icmp_ge (t := 81) dX8_sumOf_39 rfl (fun c1 => ?_) (fun c1 => ?_)
  · replace h := h.1 c1
    refine jv_iload dX8_sumOf_81 rfl ?_
    exact jm_ireturn dX8_sumOf_83 rfl h
  · replace h := h.2 c1
    refine jv_iload dX8_sumOf_42 rfl ?_
    refine jv_iload dX8_sumOf_44 rfl ?_
    refine jv_ishr dX8_sumOf_46 ?_
    refine jv_iconst dX8_sumOf_47 ci_iconst_1 ?_
    refine jv_iand dX8_sumOf_48 ?_
    refine jv_if_ne (t := 55) dX8_sumOf_49 rfl (fun c2 => ?_) (fun c2 => ?_)
    · replace h := h.1 c2
      refine jv_aload_n dX8_sumOf_55 rfl ?_
      refine jv_iload_n dX8_sumOf_56 rfl ?_
      refine jv_iload dX8_sumOf_57 rfl ?_
      refine jm_callVu [.int a1, .int i6] cw_8_195 dX8_sumOf_59 rfl (Nat.le_of_ble_eq_true rfl) kd_c_137 (r := (RX8, TX8, 48)) rfl rfl (lt_c 137 rfl) (Nat.le_of_ble_eq_true rfl) (JCu.mono h (fun u1 h => ?_))
      refine jv_iload dX8_sumOf_62 rfl ?_
      refine jv_aload_n dX8_sumOf_64 rfl ?_
      refine gf_8_69 rfl dX8_sumOf_65 kd_c_137 (lt_c 137 rfl) rf_c_137_23 ?_
      refine jv_iload_n dX8_sumOf_68 rfl ?_
      obtain ⟨b3, h⟩ := h
      refine jm_iaload dX8_sumOf_69 kd_c_1341 (lt_c 1341 rfl) b3 ?_
      refine jm_callSi [.int i4, .int (u1 1341 a2.toNatClampNeg)] cw_8_208 dX8_sumOf_70 rfl (Nat.le_of_ble_eq_true rfl) (Nat.le_of_ble_eq_true rfl) (p_J9_min_7cf53  ?_)
      generalize hhi4_2 : (if i4 ≤ (u1 1341 a2.toNatClampNeg) then i4 else (u1 1341 a2.toNatClampNeg)) = i4_2
      replace h := h i4_2 hhi4_2.symm
      refine jv_istore (ls' := [some (.ref 137), some (.int a1), some (.int a2), some (.int a3), some (.int i4_2), some (.int i5), some (.int i6)]) dX8_sumOf_73 (Nat.le_of_ble_eq_true rfl) rfl ?_
      refine jv_iinc (v := i6 + 1) (ls' := [some (.ref 137), some (.int a1), some (.int a2), some (.int a3), some (.int i4_2), some (.int i5), some (.int (i6 + 1))]) dX8_sumOf_75 (Nat.le_of_ble_eq_true rfl) rfl (by rw [ci_iconst_1]) rfl ?_
      refine jv_goto (t := 36) dX8_sumOf_78 rfl ?_
      exact h
    · replace h := h.2 c2
      refine jv_goto (t := 75) dX8_sumOf_52 rfl ?_
      refine jv_iinc (v := i6 + 1) (ls' := [some (.ref 137), some (.int a1), some (.int a2), some (.int a3), some (.int i4), some (.int i5), some (.int (i6 + 1))]) dX8_sumOf_75 (Nat.le_of_ble_eq_true rfl) rfl (by rw [ci_iconst_1]) rfl ?_
      refine jv_goto (t := 36) dX8_sumOf_78 rfl ?_
      exact h
theorem g_X8_arrives_0 {E : JE} {u : JM} {K : JM → Prop}  {a1 : Int32}
    (h : vp_in a1 400 ∧
 ∀ i2_1 : Int32, i2_1 = u 533 a1.toNatClampNeg →
 ∀ i3_2 : Int32, i3_2 = u 534 a1.toNatClampNeg →
 vp_in i2_1 12 ∧
 (((u 141 i2_1.toNatClampNeg) = 0 → K u) ∧
 (¬ (u 141 i2_1.toNatClampNeg) = 0 → ((¬ (u 535 a1.toNatClampNeg) = i3_2 → ∀ i4_3 : Int32, i4_3 = (i3_2 * 8 + (u 535 a1.toNatClampNeg)) * 3 + (u 536 a1.toNatClampNeg) →
   vp_in i4_3 192 ∧
   ((¬ (u 143 i4_3.toNatClampNeg) = (u 537 a1.toNatClampNeg) → (((u 143 i4_3.toNatClampNeg) < (u 537 a1.toNatClampNeg) → ∀ u4, u4 = jw u 143 i4_3.toNatClampNeg (u 537 a1.toNatClampNeg) →
     ∀ u5, u5 = jw u4 144 i4_3.toNatClampNeg (u4 538 a1.toNatClampNeg) →
     ∀ u6, u6 = jw u5 145 i4_3.toNatClampNeg 1 →
     ∀ u7, u7 = jw u6 146 i4_3.toNatClampNeg ((1 : Int32) <<< (i2_1 &&& 31)) →
     (¬ (0 : Int32) < 0 ∧ ¬ (0 : Int32) < 0 ∧ ¬ (12 : Int32) < 0 ∧ (0 : Int32).toNatClampNeg + (12 : Int32).toNatClampNeg ≤ 12 ∧ (0 : Int32).toNatClampNeg + (12 : Int32).toNatClampNeg ≤ 12) ∧
     ∀ u8, u8 = jcp u7 (540 + a1.toNatClampNeg) (0 : Int32).toNatClampNeg (148 + i4_3.toNatClampNeg) (0 : Int32).toNatClampNeg (12 : Int32).toNatClampNeg →
     (¬ (0 : Int32) < 0 ∧ ¬ (0 : Int32) < 0 ∧ ¬ (8 : Int32) < 0 ∧ (0 : Int32).toNatClampNeg + (8 : Int32).toNatClampNeg ≤ 8 ∧ (0 : Int32).toNatClampNeg + (8 : Int32).toNatClampNeg ≤ 8) ∧
     ∀ u9, u9 = jcp u8 (941 + a1.toNatClampNeg) (0 : Int32).toNatClampNeg (341 + i4_3.toNatClampNeg) (0 : Int32).toNatClampNeg (8 : Int32).toNatClampNeg →
     K u9) ∧
    (¬ (u 143 i4_3.toNatClampNeg) < (u 537 a1.toNatClampNeg) → K u))) ∧
   ((u 143 i4_3.toNatClampNeg) = (u 537 a1.toNatClampNeg) → ((¬ (u 145 i4_3.toNatClampNeg) = 1 → (((u 143 i4_3.toNatClampNeg) < (u 537 a1.toNatClampNeg) → ∀ u10, u10 = jw u 143 i4_3.toNatClampNeg (u 537 a1.toNatClampNeg) →
      ∀ u11, u11 = jw u10 144 i4_3.toNatClampNeg (u10 538 a1.toNatClampNeg) →
      ∀ u12, u12 = jw u11 145 i4_3.toNatClampNeg 1 →
      ∀ u13, u13 = jw u12 146 i4_3.toNatClampNeg ((1 : Int32) <<< (i2_1 &&& 31)) →
      (¬ (0 : Int32) < 0 ∧ ¬ (0 : Int32) < 0 ∧ ¬ (12 : Int32) < 0 ∧ (0 : Int32).toNatClampNeg + (12 : Int32).toNatClampNeg ≤ 12 ∧ (0 : Int32).toNatClampNeg + (12 : Int32).toNatClampNeg ≤ 12) ∧
      ∀ u14, u14 = jcp u13 (540 + a1.toNatClampNeg) (0 : Int32).toNatClampNeg (148 + i4_3.toNatClampNeg) (0 : Int32).toNatClampNeg (12 : Int32).toNatClampNeg →
      (¬ (0 : Int32) < 0 ∧ ¬ (0 : Int32) < 0 ∧ ¬ (8 : Int32) < 0 ∧ (0 : Int32).toNatClampNeg + (8 : Int32).toNatClampNeg ≤ 8 ∧ (0 : Int32).toNatClampNeg + (8 : Int32).toNatClampNeg ≤ 8) ∧
      ∀ u15, u15 = jcp u14 (941 + a1.toNatClampNeg) (0 : Int32).toNatClampNeg (341 + i4_3.toNatClampNeg) (0 : Int32).toNatClampNeg (8 : Int32).toNatClampNeg →
      K u15) ∧
     (¬ (u 143 i4_3.toNatClampNeg) < (u 537 a1.toNatClampNeg) → K u))) ∧
    ((u 145 i4_3.toNatClampNeg) = 1 → ∀ u16, u16 = jw u 146 i4_3.toNatClampNeg ((u 146 i4_3.toNatClampNeg) ||| ((1 : Int32) <<< (i2_1 &&& 31))) →
     (((u16 143 i4_3.toNatClampNeg) < (u16 537 a1.toNatClampNeg) → ∀ u17, u17 = jw u16 143 i4_3.toNatClampNeg (u16 537 a1.toNatClampNeg) →
      ∀ u18, u18 = jw u17 144 i4_3.toNatClampNeg (u17 538 a1.toNatClampNeg) →
      ∀ u19, u19 = jw u18 145 i4_3.toNatClampNeg 1 →
      ∀ u20, u20 = jw u19 146 i4_3.toNatClampNeg ((1 : Int32) <<< (i2_1 &&& 31)) →
      (¬ (0 : Int32) < 0 ∧ ¬ (0 : Int32) < 0 ∧ ¬ (12 : Int32) < 0 ∧ (0 : Int32).toNatClampNeg + (12 : Int32).toNatClampNeg ≤ 12 ∧ (0 : Int32).toNatClampNeg + (12 : Int32).toNatClampNeg ≤ 12) ∧
      ∀ u21, u21 = jcp u20 (540 + a1.toNatClampNeg) (0 : Int32).toNatClampNeg (148 + i4_3.toNatClampNeg) (0 : Int32).toNatClampNeg (12 : Int32).toNatClampNeg →
      (¬ (0 : Int32) < 0 ∧ ¬ (0 : Int32) < 0 ∧ ¬ (8 : Int32) < 0 ∧ (0 : Int32).toNatClampNeg + (8 : Int32).toNatClampNeg ≤ 8 ∧ (0 : Int32).toNatClampNeg + (8 : Int32).toNatClampNeg ≤ 8) ∧
      ∀ u22, u22 = jcp u21 (941 + a1.toNatClampNeg) (0 : Int32).toNatClampNeg (341 + i4_3.toNatClampNeg) (0 : Int32).toNatClampNeg (8 : Int32).toNatClampNeg →
      K u22) ∧
     (¬ (u16 143 i4_3.toNatClampNeg) < (u16 537 a1.toNatClampNeg) → K u16))))))) ∧
  ((u 535 a1.toNatClampNeg) = i3_2 → K u)))))
    : JVu E 2 YX8_arrives K 0 [some (.ref 137), some (.int a1), none, none, none] [] u := by
  refine jv_aload_n dX8_arrives_0 rfl ?_
  refine gf_8_45 rfl dX8_arrives_1 kd_c_137 (lt_c 137 rfl) rf_c_137_15 ?_
  refine jv_iload_n dX8_arrives_4 rfl ?_
  obtain ⟨b1, h⟩ := h
  refine jm_iaload dX8_arrives_5 kd_c_533 (lt_c 533 rfl) b1 ?_
  generalize hhi2_1 : u 533 a1.toNatClampNeg = i2_1
  replace h := h i2_1 hhi2_1.symm
  refine jv_istore_n (ls' := [some (.ref 137), some (.int a1), some (.int i2_1), none, none]) dX8_arrives_6 (Nat.le_of_ble_eq_true rfl) rfl ?_
  refine jv_aload_n dX8_arrives_7 rfl ?_
  refine gf_8_48 rfl dX8_arrives_8 kd_c_137 (lt_c 137 rfl) rf_c_137_16 ?_
  refine jv_iload_n dX8_arrives_11 rfl ?_
  refine jm_iaload dX8_arrives_12 kd_c_534 (lt_c 534 rfl) b1 ?_
  generalize hhi3_2 : u 534 a1.toNatClampNeg = i3_2
  replace h := h i3_2 hhi3_2.symm
  refine jv_istore_n (ls' := [some (.ref 137), some (.int a1), some (.int i2_1), some (.int i3_2), none]) dX8_arrives_13 (Nat.le_of_ble_eq_true rfl) rfl ?_
  refine jv_aload_n dX8_arrives_14 rfl ?_
  refine gf_8_19 rfl dX8_arrives_15 kd_c_137 (lt_c 137 rfl) rf_c_137_4 ?_
  refine jv_iload_n dX8_arrives_18 rfl ?_
  obtain ⟨b2, h⟩ := h
  refine jm_iaload dX8_arrives_19 kd_c_141 (lt_c 141 rfl) b2 ?_
  refine jv_if_eq (t := 33) dX8_arrives_20 rfl (fun c3 => ?_) (fun c3 => ?_)
  · replace h := h.1 c3
    exact jm_return dX8_arrives_33 rfl h
  · replace h := h.2 c3
    refine jv_aload_n dX8_arrives_23 rfl ?_
    refine gf_8_51 rfl dX8_arrives_24 kd_c_137 (lt_c 137 rfl) rf_c_137_17 ?_
    refine jv_iload_n dX8_arrives_27 rfl ?_
    refine jm_iaload dX8_arrives_28 kd_c_535 (lt_c 535 rfl) b1 ?_
    refine jv_iload_n dX8_arrives_29 rfl ?_
    refine jv_icmp_ne (t := 34) dX8_arrives_30 rfl (fun c4 => ?_) (fun c4 => ?_)
    · replace h := h.1 c4
      refine jv_iload_n dX8_arrives_34 rfl ?_
      refine jv_aload_n dX8_arrives_35 rfl ?_
      refine gf_8_51 rfl dX8_arrives_36 kd_c_137 (lt_c 137 rfl) rf_c_137_17 ?_
      refine jv_iload_n dX8_arrives_39 rfl ?_
      refine jm_iaload dX8_arrives_40 kd_c_535 (lt_c 535 rfl) b1 ?_
      refine jv_aload_n dX8_arrives_41 rfl ?_
      refine gf_8_54 rfl dX8_arrives_42 kd_c_137 (lt_c 137 rfl) rf_c_137_18 ?_
      refine jv_iload_n dX8_arrives_45 rfl ?_
      refine jm_iaload dX8_arrives_46 kd_c_536 (lt_c 536 rfl) b1 ?_
      refine jm_callSi [.int i3_2, .int (u 535 a1.toNatClampNeg), .int (u 536 a1.toNatClampNeg)] cw_8_155 dX8_arrives_47 rfl (Nat.le_of_ble_eq_true rfl) (Nat.le_of_ble_eq_true rfl) (p_X8_place  ?_)
      generalize hhi4_3 : (i3_2 * 8 + (u 535 a1.toNatClampNeg)) * 3 + (u 536 a1.toNatClampNeg) = i4_3
      replace h := h i4_3 hhi4_3.symm
      refine jv_istore (ls' := [some (.ref 137), some (.int a1), some (.int i2_1), some (.int i3_2), some (.int i4_3)]) dX8_arrives_50 (Nat.le_of_ble_eq_true rfl) rfl ?_
      refine jv_aload_n dX8_arrives_52 rfl ?_
      refine gf_8_25 rfl dX8_arrives_53 kd_c_137 (lt_c 137 rfl) rf_c_137_6 ?_
      refine jv_iload dX8_arrives_56 rfl ?_
      obtain ⟨b5, h⟩ := h
      refine jm_iaload dX8_arrives_58 kd_c_143 (lt_c 143 rfl) b5 ?_
      refine jv_aload_n dX8_arrives_59 rfl ?_
      refine gf_8_57 rfl dX8_arrives_60 kd_c_137 (lt_c 137 rfl) rf_c_137_19 ?_
      refine jv_iload_n dX8_arrives_63 rfl ?_
      refine jm_iaload dX8_arrives_64 kd_c_537 (lt_c 537 rfl) b1 ?_
      refine jv_icmp_ne (t := 92) dX8_arrives_65 rfl (fun c6 => ?_) (fun c6 => ?_)
      · replace h := h.1 c6
        refine jv_aload_n dX8_arrives_92 rfl ?_
        refine gf_8_25 rfl dX8_arrives_93 kd_c_137 (lt_c 137 rfl) rf_c_137_6 ?_
        refine jv_iload dX8_arrives_96 rfl ?_
        refine jm_iaload dX8_arrives_98 kd_c_143 (lt_c 143 rfl) b5 ?_
        refine jv_aload_n dX8_arrives_99 rfl ?_
        refine gf_8_57 rfl dX8_arrives_100 kd_c_137 (lt_c 137 rfl) rf_c_137_19 ?_
        refine jv_iload_n dX8_arrives_103 rfl ?_
        refine jm_iaload dX8_arrives_104 kd_c_537 (lt_c 537 rfl) b1 ?_
        refine jv_icmp_lt (t := 109) dX8_arrives_105 rfl (fun c7 => ?_) (fun c7 => ?_)
        · replace h := h.1 c7
          refine jv_aload_n dX8_arrives_109 rfl ?_
          refine gf_8_25 rfl dX8_arrives_110 kd_c_137 (lt_c 137 rfl) rf_c_137_6 ?_
          refine jv_iload dX8_arrives_113 rfl ?_
          refine jv_aload_n dX8_arrives_115 rfl ?_
          refine gf_8_57 rfl dX8_arrives_116 kd_c_137 (lt_c 137 rfl) rf_c_137_19 ?_
          refine jv_iload_n dX8_arrives_119 rfl ?_
          refine jm_iaload dX8_arrives_120 kd_c_537 (lt_c 537 rfl) b1 ?_
          refine jm_iastore dX8_arrives_121 kd_c_143 (lt_c 143 rfl) b5 ?_
          generalize hhu4 : jw u 143 i4_3.toNatClampNeg (u 537 a1.toNatClampNeg) = u4
          replace h := h u4 hhu4.symm
          refine jv_aload_n dX8_arrives_122 rfl ?_
          refine gf_8_28 rfl dX8_arrives_123 kd_c_137 (lt_c 137 rfl) rf_c_137_7 ?_
          refine jv_iload dX8_arrives_126 rfl ?_
          refine jv_aload_n dX8_arrives_128 rfl ?_
          refine gf_8_60 rfl dX8_arrives_129 kd_c_137 (lt_c 137 rfl) rf_c_137_20 ?_
          refine jv_iload_n dX8_arrives_132 rfl ?_
          refine jm_iaload dX8_arrives_133 kd_c_538 (lt_c 538 rfl) b1 ?_
          refine jm_iastore dX8_arrives_134 kd_c_144 (lt_c 144 rfl) b5 ?_
          generalize hhu5 : jw u4 144 i4_3.toNatClampNeg (u4 538 a1.toNatClampNeg) = u5
          replace h := h u5 hhu5.symm
          refine jv_aload_n dX8_arrives_135 rfl ?_
          refine gf_8_31 rfl dX8_arrives_136 kd_c_137 (lt_c 137 rfl) rf_c_137_8 ?_
          refine jv_iload dX8_arrives_139 rfl ?_
          refine jv_iconst dX8_arrives_141 ci_iconst_1 ?_
          refine jm_iastore dX8_arrives_142 kd_c_145 (lt_c 145 rfl) b5 ?_
          generalize hhu6 : jw u5 145 i4_3.toNatClampNeg 1 = u6
          replace h := h u6 hhu6.symm
          refine jv_aload_n dX8_arrives_143 rfl ?_
          refine gf_8_34 rfl dX8_arrives_144 kd_c_137 (lt_c 137 rfl) rf_c_137_9 ?_
          refine jv_iload dX8_arrives_147 rfl ?_
          refine jv_iconst dX8_arrives_149 ci_iconst_1 ?_
          refine jv_iload_n dX8_arrives_150 rfl ?_
          refine jv_ishl dX8_arrives_151 ?_
          refine jm_iastore dX8_arrives_152 kd_c_146 (lt_c 146 rfl) b5 ?_
          generalize hhu7 : jw u6 146 i4_3.toNatClampNeg ((1 : Int32) <<< (i2_1 &&& 31)) = u7
          replace h := h u7 hhu7.symm
          refine jv_aload_n dX8_arrives_153 rfl ?_
          refine gf_8_63 rfl dX8_arrives_154 kd_c_137 (lt_c 137 rfl) rf_c_137_21 ?_
          refine jv_iload_n dX8_arrives_157 rfl ?_
          refine jm_aaload1 dX8_arrives_158 kd_c_539 (lt_c 539 rfl) b1 (rf_r_539 _) ?_
          refine jv_iconst dX8_arrives_159 ci_iconst_0 ?_
          refine jv_aload_n dX8_arrives_160 rfl ?_
          refine gf_8_39 rfl dX8_arrives_161 kd_c_137 (lt_c 137 rfl) rf_c_137_10 ?_
          refine jv_iload dX8_arrives_164 rfl ?_
          refine jm_aaload1 dX8_arrives_166 kd_c_147 (lt_c 147 rfl) b5 (rf_r_147 _) ?_
          refine jv_iconst dX8_arrives_167 ci_iconst_0 ?_
          refine jv_bipush dX8_arrives_168 ci_bipush_12 ?_
          obtain ⟨b8, h⟩ := h
          refine jm_acopy ac_8_213 dX8_arrives_170 (kd_r_539 (vp_lt b1)) (kd_r_147 (vp_lt b5)) (lt_r_539 (vp_lt b1)) (lt_r_147 (vp_lt b5)) rfl (Nat.le_of_ble_eq_true rfl) (Nat.le_of_ble_eq_true rfl) b8.1 b8.2.1 b8.2.2.1 b8.2.2.2.1 b8.2.2.2.2 ?_
          generalize hhu8 : jcp u7 (540 + a1.toNatClampNeg) (0 : Int32).toNatClampNeg (148 + i4_3.toNatClampNeg) (0 : Int32).toNatClampNeg (12 : Int32).toNatClampNeg = u8
          replace h := h u8 hhu8.symm
          refine jv_aload_n dX8_arrives_173 rfl ?_
          refine gf_8_66 rfl dX8_arrives_174 kd_c_137 (lt_c 137 rfl) rf_c_137_22 ?_
          refine jv_iload_n dX8_arrives_177 rfl ?_
          refine jm_aaload1 dX8_arrives_178 kd_c_940 (lt_c 940 rfl) b1 (rf_r_940 _) ?_
          refine jv_iconst dX8_arrives_179 ci_iconst_0 ?_
          refine jv_aload_n dX8_arrives_180 rfl ?_
          refine gf_8_42 rfl dX8_arrives_181 kd_c_137 (lt_c 137 rfl) rf_c_137_11 ?_
          refine jv_iload dX8_arrives_184 rfl ?_
          refine jm_aaload1 dX8_arrives_186 kd_c_340 (lt_c 340 rfl) b5 (rf_r_340 _) ?_
          refine jv_iconst dX8_arrives_187 ci_iconst_0 ?_
          refine jv_bipush dX8_arrives_188 ci_bipush_8 ?_
          obtain ⟨b9, h⟩ := h
          refine jm_acopy ac_8_213 dX8_arrives_190 (kd_r_940 (vp_lt b1)) (kd_r_340 (vp_lt b5)) (lt_r_940 (vp_lt b1)) (lt_r_340 (vp_lt b5)) rfl (Nat.le_of_ble_eq_true rfl) (Nat.le_of_ble_eq_true rfl) b9.1 b9.2.1 b9.2.2.1 b9.2.2.2.1 b9.2.2.2.2 ?_
          generalize hhu9 : jcp u8 (941 + a1.toNatClampNeg) (0 : Int32).toNatClampNeg (341 + i4_3.toNatClampNeg) (0 : Int32).toNatClampNeg (8 : Int32).toNatClampNeg = u9
          replace h := h u9 hhu9.symm
          exact jm_return dX8_arrives_193 rfl h
        · replace h := h.2 c7
          exact jm_return dX8_arrives_108 rfl h
      · replace h := h.2 c6
        refine jv_aload_n dX8_arrives_68 rfl ?_
        refine gf_8_31 rfl dX8_arrives_69 kd_c_137 (lt_c 137 rfl) rf_c_137_8 ?_
        refine jv_iload dX8_arrives_72 rfl ?_
        refine jm_iaload dX8_arrives_74 kd_c_145 (lt_c 145 rfl) b5 ?_
        refine jv_iconst dX8_arrives_75 ci_iconst_1 ?_
        refine jv_icmp_ne (t := 92) dX8_arrives_76 rfl (fun c10 => ?_) (fun c10 => ?_)
        · replace h := h.1 c10
          refine jv_aload_n dX8_arrives_92 rfl ?_
          refine gf_8_25 rfl dX8_arrives_93 kd_c_137 (lt_c 137 rfl) rf_c_137_6 ?_
          refine jv_iload dX8_arrives_96 rfl ?_
          refine jm_iaload dX8_arrives_98 kd_c_143 (lt_c 143 rfl) b5 ?_
          refine jv_aload_n dX8_arrives_99 rfl ?_
          refine gf_8_57 rfl dX8_arrives_100 kd_c_137 (lt_c 137 rfl) rf_c_137_19 ?_
          refine jv_iload_n dX8_arrives_103 rfl ?_
          refine jm_iaload dX8_arrives_104 kd_c_537 (lt_c 537 rfl) b1 ?_
          refine jv_icmp_lt (t := 109) dX8_arrives_105 rfl (fun c11 => ?_) (fun c11 => ?_)
          · replace h := h.1 c11
            refine jv_aload_n dX8_arrives_109 rfl ?_
            refine gf_8_25 rfl dX8_arrives_110 kd_c_137 (lt_c 137 rfl) rf_c_137_6 ?_
            refine jv_iload dX8_arrives_113 rfl ?_
            refine jv_aload_n dX8_arrives_115 rfl ?_
            refine gf_8_57 rfl dX8_arrives_116 kd_c_137 (lt_c 137 rfl) rf_c_137_19 ?_
            refine jv_iload_n dX8_arrives_119 rfl ?_
            refine jm_iaload dX8_arrives_120 kd_c_537 (lt_c 537 rfl) b1 ?_
            refine jm_iastore dX8_arrives_121 kd_c_143 (lt_c 143 rfl) b5 ?_
            generalize hhu10 : jw u 143 i4_3.toNatClampNeg (u 537 a1.toNatClampNeg) = u10
            replace h := h u10 hhu10.symm
            refine jv_aload_n dX8_arrives_122 rfl ?_
            refine gf_8_28 rfl dX8_arrives_123 kd_c_137 (lt_c 137 rfl) rf_c_137_7 ?_
            refine jv_iload dX8_arrives_126 rfl ?_
            refine jv_aload_n dX8_arrives_128 rfl ?_
            refine gf_8_60 rfl dX8_arrives_129 kd_c_137 (lt_c 137 rfl) rf_c_137_20 ?_
            refine jv_iload_n dX8_arrives_132 rfl ?_
            refine jm_iaload dX8_arrives_133 kd_c_538 (lt_c 538 rfl) b1 ?_
            refine jm_iastore dX8_arrives_134 kd_c_144 (lt_c 144 rfl) b5 ?_
            generalize hhu11 : jw u10 144 i4_3.toNatClampNeg (u10 538 a1.toNatClampNeg) = u11
            replace h := h u11 hhu11.symm
            refine jv_aload_n dX8_arrives_135 rfl ?_
            refine gf_8_31 rfl dX8_arrives_136 kd_c_137 (lt_c 137 rfl) rf_c_137_8 ?_
            refine jv_iload dX8_arrives_139 rfl ?_
            refine jv_iconst dX8_arrives_141 ci_iconst_1 ?_
            refine jm_iastore dX8_arrives_142 kd_c_145 (lt_c 145 rfl) b5 ?_
            generalize hhu12 : jw u11 145 i4_3.toNatClampNeg 1 = u12
            replace h := h u12 hhu12.symm
            refine jv_aload_n dX8_arrives_143 rfl ?_
            refine gf_8_34 rfl dX8_arrives_144 kd_c_137 (lt_c 137 rfl) rf_c_137_9 ?_
            refine jv_iload dX8_arrives_147 rfl ?_
            refine jv_iconst dX8_arrives_149 ci_iconst_1 ?_
            refine jv_iload_n dX8_arrives_150 rfl ?_
            refine jv_ishl dX8_arrives_151 ?_
            refine jm_iastore dX8_arrives_152 kd_c_146 (lt_c 146 rfl) b5 ?_
            generalize hhu13 : jw u12 146 i4_3.toNatClampNeg ((1 : Int32) <<< (i2_1 &&& 31)) = u13
            replace h := h u13 hhu13.symm
            refine jv_aload_n dX8_arrives_153 rfl ?_
            refine gf_8_63 rfl dX8_arrives_154 kd_c_137 (lt_c 137 rfl) rf_c_137_21 ?_
            refine jv_iload_n dX8_arrives_157 rfl ?_
            refine jm_aaload1 dX8_arrives_158 kd_c_539 (lt_c 539 rfl) b1 (rf_r_539 _) ?_
            refine jv_iconst dX8_arrives_159 ci_iconst_0 ?_
            refine jv_aload_n dX8_arrives_160 rfl ?_
            refine gf_8_39 rfl dX8_arrives_161 kd_c_137 (lt_c 137 rfl) rf_c_137_10 ?_
            refine jv_iload dX8_arrives_164 rfl ?_
            refine jm_aaload1 dX8_arrives_166 kd_c_147 (lt_c 147 rfl) b5 (rf_r_147 _) ?_
            refine jv_iconst dX8_arrives_167 ci_iconst_0 ?_
            refine jv_bipush dX8_arrives_168 ci_bipush_12 ?_
            obtain ⟨b12, h⟩ := h
            refine jm_acopy ac_8_213 dX8_arrives_170 (kd_r_539 (vp_lt b1)) (kd_r_147 (vp_lt b5)) (lt_r_539 (vp_lt b1)) (lt_r_147 (vp_lt b5)) rfl (Nat.le_of_ble_eq_true rfl) (Nat.le_of_ble_eq_true rfl) b12.1 b12.2.1 b12.2.2.1 b12.2.2.2.1 b12.2.2.2.2 ?_
            generalize hhu14 : jcp u13 (540 + a1.toNatClampNeg) (0 : Int32).toNatClampNeg (148 + i4_3.toNatClampNeg) (0 : Int32).toNatClampNeg (12 : Int32).toNatClampNeg = u14
            replace h := h u14 hhu14.symm
            refine jv_aload_n dX8_arrives_173 rfl ?_
            refine gf_8_66 rfl dX8_arrives_174 kd_c_137 (lt_c 137 rfl) rf_c_137_22 ?_
            refine jv_iload_n dX8_arrives_177 rfl ?_
            refine jm_aaload1 dX8_arrives_178 kd_c_940 (lt_c 940 rfl) b1 (rf_r_940 _) ?_
            refine jv_iconst dX8_arrives_179 ci_iconst_0 ?_
            refine jv_aload_n dX8_arrives_180 rfl ?_
            refine gf_8_42 rfl dX8_arrives_181 kd_c_137 (lt_c 137 rfl) rf_c_137_11 ?_
            refine jv_iload dX8_arrives_184 rfl ?_
            refine jm_aaload1 dX8_arrives_186 kd_c_340 (lt_c 340 rfl) b5 (rf_r_340 _) ?_
            refine jv_iconst dX8_arrives_187 ci_iconst_0 ?_
            refine jv_bipush dX8_arrives_188 ci_bipush_8 ?_
            obtain ⟨b13, h⟩ := h
            refine jm_acopy ac_8_213 dX8_arrives_190 (kd_r_940 (vp_lt b1)) (kd_r_340 (vp_lt b5)) (lt_r_940 (vp_lt b1)) (lt_r_340 (vp_lt b5)) rfl (Nat.le_of_ble_eq_true rfl) (Nat.le_of_ble_eq_true rfl) b13.1 b13.2.1 b13.2.2.1 b13.2.2.2.1 b13.2.2.2.2 ?_
            generalize hhu15 : jcp u14 (941 + a1.toNatClampNeg) (0 : Int32).toNatClampNeg (341 + i4_3.toNatClampNeg) (0 : Int32).toNatClampNeg (8 : Int32).toNatClampNeg = u15
            replace h := h u15 hhu15.symm
            exact jm_return dX8_arrives_193 rfl h
          · replace h := h.2 c11
            exact jm_return dX8_arrives_108 rfl h
        · replace h := h.2 c10
          refine jv_aload_n dX8_arrives_79 rfl ?_
          refine gf_8_34 rfl dX8_arrives_80 kd_c_137 (lt_c 137 rfl) rf_c_137_9 ?_
          refine jv_iload dX8_arrives_83 rfl ?_
          refine jv_dup2 dX8_arrives_85 rfl rfl ?_
          refine jm_iaload dX8_arrives_86 kd_c_146 (lt_c 146 rfl) b5 ?_
          refine jv_iconst dX8_arrives_87 ci_iconst_1 ?_
          refine jv_iload_n dX8_arrives_88 rfl ?_
          refine jv_ishl dX8_arrives_89 ?_
          refine jv_ior dX8_arrives_90 ?_
          refine jm_iastore dX8_arrives_91 kd_c_146 (lt_c 146 rfl) b5 ?_
          generalize hhu16 : jw u 146 i4_3.toNatClampNeg ((u 146 i4_3.toNatClampNeg) ||| ((1 : Int32) <<< (i2_1 &&& 31))) = u16
          replace h := h u16 hhu16.symm
          refine jv_aload_n dX8_arrives_92 rfl ?_
          refine gf_8_25 rfl dX8_arrives_93 kd_c_137 (lt_c 137 rfl) rf_c_137_6 ?_
          refine jv_iload dX8_arrives_96 rfl ?_
          refine jm_iaload dX8_arrives_98 kd_c_143 (lt_c 143 rfl) b5 ?_
          refine jv_aload_n dX8_arrives_99 rfl ?_
          refine gf_8_57 rfl dX8_arrives_100 kd_c_137 (lt_c 137 rfl) rf_c_137_19 ?_
          refine jv_iload_n dX8_arrives_103 rfl ?_
          refine jm_iaload dX8_arrives_104 kd_c_537 (lt_c 537 rfl) b1 ?_
          refine jv_icmp_lt (t := 109) dX8_arrives_105 rfl (fun c14 => ?_) (fun c14 => ?_)
          · replace h := h.1 c14
            refine jv_aload_n dX8_arrives_109 rfl ?_
            refine gf_8_25 rfl dX8_arrives_110 kd_c_137 (lt_c 137 rfl) rf_c_137_6 ?_
            refine jv_iload dX8_arrives_113 rfl ?_
            refine jv_aload_n dX8_arrives_115 rfl ?_
            refine gf_8_57 rfl dX8_arrives_116 kd_c_137 (lt_c 137 rfl) rf_c_137_19 ?_
            refine jv_iload_n dX8_arrives_119 rfl ?_
            refine jm_iaload dX8_arrives_120 kd_c_537 (lt_c 537 rfl) b1 ?_
            refine jm_iastore dX8_arrives_121 kd_c_143 (lt_c 143 rfl) b5 ?_
            generalize hhu17 : jw u16 143 i4_3.toNatClampNeg (u16 537 a1.toNatClampNeg) = u17
            replace h := h u17 hhu17.symm
            refine jv_aload_n dX8_arrives_122 rfl ?_
            refine gf_8_28 rfl dX8_arrives_123 kd_c_137 (lt_c 137 rfl) rf_c_137_7 ?_
            refine jv_iload dX8_arrives_126 rfl ?_
            refine jv_aload_n dX8_arrives_128 rfl ?_
            refine gf_8_60 rfl dX8_arrives_129 kd_c_137 (lt_c 137 rfl) rf_c_137_20 ?_
            refine jv_iload_n dX8_arrives_132 rfl ?_
            refine jm_iaload dX8_arrives_133 kd_c_538 (lt_c 538 rfl) b1 ?_
            refine jm_iastore dX8_arrives_134 kd_c_144 (lt_c 144 rfl) b5 ?_
            generalize hhu18 : jw u17 144 i4_3.toNatClampNeg (u17 538 a1.toNatClampNeg) = u18
            replace h := h u18 hhu18.symm
            refine jv_aload_n dX8_arrives_135 rfl ?_
            refine gf_8_31 rfl dX8_arrives_136 kd_c_137 (lt_c 137 rfl) rf_c_137_8 ?_
            refine jv_iload dX8_arrives_139 rfl ?_
            refine jv_iconst dX8_arrives_141 ci_iconst_1 ?_
            refine jm_iastore dX8_arrives_142 kd_c_145 (lt_c 145 rfl) b5 ?_
            generalize hhu19 : jw u18 145 i4_3.toNatClampNeg 1 = u19
            replace h := h u19 hhu19.symm
            refine jv_aload_n dX8_arrives_143 rfl ?_
            refine gf_8_34 rfl dX8_arrives_144 kd_c_137 (lt_c 137 rfl) rf_c_137_9 ?_
            refine jv_iload dX8_arrives_147 rfl ?_
            refine jv_iconst dX8_arrives_149 ci_iconst_1 ?_
            refine jv_iload_n dX8_arrives_150 rfl ?_
            refine jv_ishl dX8_arrives_151 ?_
            refine jm_iastore dX8_arrives_152 kd_c_146 (lt_c 146 rfl) b5 ?_
            generalize hhu20 : jw u19 146 i4_3.toNatClampNeg ((1 : Int32) <<< (i2_1 &&& 31)) = u20
            replace h := h u20 hhu20.symm
            refine jv_aload_n dX8_arrives_153 rfl ?_
            refine gf_8_63 rfl dX8_arrives_154 kd_c_137 (lt_c 137 rfl) rf_c_137_21 ?_
            refine jv_iload_n dX8_arrives_157 rfl ?_
            refine jm_aaload1 dX8_arrives_158 kd_c_539 (lt_c 539 rfl) b1 (rf_r_539 _) ?_
            refine jv_iconst dX8_arrives_159 ci_iconst_0 ?_
            refine jv_aload_n dX8_arrives_160 rfl ?_
            refine gf_8_39 rfl dX8_arrives_161 kd_c_137 (lt_c 137 rfl) rf_c_137_10 ?_
            refine jv_iload dX8_arrives_164 rfl ?_
            refine jm_aaload1 dX8_arrives_166 kd_c_147 (lt_c 147 rfl) b5 (rf_r_147 _) ?_
            refine jv_iconst dX8_arrives_167 ci_iconst_0 ?_
            refine jv_bipush dX8_arrives_168 ci_bipush_12 ?_
            obtain ⟨b15, h⟩ := h
            refine jm_acopy ac_8_213 dX8_arrives_170 (kd_r_539 (vp_lt b1)) (kd_r_147 (vp_lt b5)) (lt_r_539 (vp_lt b1)) (lt_r_147 (vp_lt b5)) rfl (Nat.le_of_ble_eq_true rfl) (Nat.le_of_ble_eq_true rfl) b15.1 b15.2.1 b15.2.2.1 b15.2.2.2.1 b15.2.2.2.2 ?_
            generalize hhu21 : jcp u20 (540 + a1.toNatClampNeg) (0 : Int32).toNatClampNeg (148 + i4_3.toNatClampNeg) (0 : Int32).toNatClampNeg (12 : Int32).toNatClampNeg = u21
            replace h := h u21 hhu21.symm
            refine jv_aload_n dX8_arrives_173 rfl ?_
            refine gf_8_66 rfl dX8_arrives_174 kd_c_137 (lt_c 137 rfl) rf_c_137_22 ?_
            refine jv_iload_n dX8_arrives_177 rfl ?_
            refine jm_aaload1 dX8_arrives_178 kd_c_940 (lt_c 940 rfl) b1 (rf_r_940 _) ?_
            refine jv_iconst dX8_arrives_179 ci_iconst_0 ?_
            refine jv_aload_n dX8_arrives_180 rfl ?_
            refine gf_8_42 rfl dX8_arrives_181 kd_c_137 (lt_c 137 rfl) rf_c_137_11 ?_
            refine jv_iload dX8_arrives_184 rfl ?_
            refine jm_aaload1 dX8_arrives_186 kd_c_340 (lt_c 340 rfl) b5 (rf_r_340 _) ?_
            refine jv_iconst dX8_arrives_187 ci_iconst_0 ?_
            refine jv_bipush dX8_arrives_188 ci_bipush_8 ?_
            obtain ⟨b16, h⟩ := h
            refine jm_acopy ac_8_213 dX8_arrives_190 (kd_r_940 (vp_lt b1)) (kd_r_340 (vp_lt b5)) (lt_r_940 (vp_lt b1)) (lt_r_340 (vp_lt b5)) rfl (Nat.le_of_ble_eq_true rfl) (Nat.le_of_ble_eq_true rfl) b16.1 b16.2.1 b16.2.2.1 b16.2.2.2.1 b16.2.2.2.2 ?_
            generalize hhu22 : jcp u21 (941 + a1.toNatClampNeg) (0 : Int32).toNatClampNeg (341 + i4_3.toNatClampNeg) (0 : Int32).toNatClampNeg (8 : Int32).toNatClampNeg = u22
            replace h := h u22 hhu22.symm
            exact jm_return dX8_arrives_193 rfl h
          · replace h := h.2 c14
            exact jm_return dX8_arrives_108 rfl h
    · replace h := h.2 c4
      exact jm_return dX8_arrives_33 rfl h
theorem g_X8_grows_0 {E : JE} {u : JM} {K : JM → Prop} 
    (h : JVu E 2 YX8_grows K 2 [some (.ref 137), some (.int 0), none, none, none] [] u)
    : JVu E 2 YX8_grows K 0 [some (.ref 137), none, none, none, none] [] u := by
  refine jv_iconst dX8_grows_0 ci_iconst_0 ?_
  refine jv_istore_n (ls' := [some (.ref 137), some (.int 0), none, none, none]) dX8_grows_1 (Nat.le_of_ble_eq_true rfl) rfl ?_
  exact h
theorem g_X8_grows_2 {E : JE} {u : JM} {K : JM → Prop}  {i1 : Int32}
    (h : ((8 ≤ i1 → K u) ∧
 (¬ 8 ≤ i1 → JVu E 2 YX8_grows K 10 [some (.ref 137), some (.int i1), some (.int 0), none, none] [] u)))
    : JVu E 2 YX8_grows K 2 [some (.ref 137), some (.int i1), none, none, none] [] u := by
  refine jv_iload_n dX8_grows_2 rfl ?_
  refine jv_bipush dX8_grows_3 ci_bipush_8 ?_
  refine jv_icmp_ge (t := 109) dX8_grows_5 rfl (fun c1 => ?_) (fun c1 => ?_)
  · replace h := h.1 c1
    exact jm_return dX8_grows_109 rfl h
  · replace h := h.2 c1
    refine jv_iconst dX8_grows_8 ci_iconst_0 ?_
    refine jv_istore_n (ls' := [some (.ref 137), some (.int i1), some (.int 0), none, none]) dX8_grows_9 (Nat.le_of_ble_eq_true rfl) rfl ?_
    exact h
theorem g_X8_grows_10 {E : JE} {u : JM} {K : JM → Prop}  {i1 i2 : Int32}
    (h : ((8 ≤ i2 → JVu E 2 YX8_grows K 2 [some (.ref 137), some (.int (i1 + 1)), none, none, none] [] u) ∧
 (¬ 8 ≤ i2 → JVu E 2 YX8_grows K 18 [some (.ref 137), some (.int i1), some (.int i2), some (.int 0), none] [] u)))
    : JVu E 2 YX8_grows K 10 [some (.ref 137), some (.int i1), some (.int i2), none, none] [] u := by
  refine jv_iload_n dX8_grows_10 rfl ?_
  refine jv_bipush dX8_grows_11 ci_bipush_8 ?_
  refine jv_icmp_ge (t := 103) dX8_grows_13 rfl (fun c1 => ?_) (fun c1 => ?_)
  · replace h := h.1 c1
    refine jv_iinc (v := i1 + 1) (ls' := [some (.ref 137), some (.int (i1 + 1)), some (.int i2), none, none]) dX8_grows_103 (Nat.le_of_ble_eq_true rfl) rfl (by rw [ci_iconst_1]) rfl ?_
    refine jv_goto (t := 2) dX8_grows_106 rfl ?_
    exact jm_sub (ls' := [some (.ref 137), some (.int (i1 + 1)), none, none, none]) ⟨rfl, rfl, trivial⟩ h
  · replace h := h.2 c1
    refine jv_iconst dX8_grows_16 ci_iconst_0 ?_
    refine jv_istore_n (ls' := [some (.ref 137), some (.int i1), some (.int i2), some (.int 0), none]) dX8_grows_17 (Nat.le_of_ble_eq_true rfl) rfl ?_
    exact h
theorem g_X8_grows_18 {E : JE} {u : JM} {K : JM → Prop}  {i1 i2 i3 : Int32}
    (h : ((3 ≤ i3 → JVu E 2 YX8_grows K 10 [some (.ref 137), some (.int i1), some (.int (i2 + 1)), none, none] [] u) ∧
 (¬ 3 ≤ i3 → ∀ i4_1 : Int32, i4_1 = (i1 * 8 + i2) * 3 + i3 →
  vp_in i4_1 192 ∧
  ((¬ (u 143 i4_1.toNatClampNeg) = 0 → ∀ u2, u2 = jw u 144 i4_1.toNatClampNeg ((u 144 i4_1.toNatClampNeg) + 1) →
   (((u2 144 i4_1.toNatClampNeg) < 60 → JVu E 2 YX8_grows K 18 [some (.ref 137), some (.int i1), some (.int i2), some (.int (i3 + 1)), none] [] u2) ∧
   (¬ (u2 144 i4_1.toNatClampNeg) < 60 → ((¬ i1 = i2 → ∀ u3, u3 = jw u2 143 i4_1.toNatClampNeg 0 →
     ∀ u4, u4 = jw u3 145 i4_1.toNatClampNeg 0 →
     JVu E 2 YX8_grows K 18 [some (.ref 137), some (.int i1), some (.int i2), some (.int (i3 + 1)), none] [] u4) ∧
    (i1 = i2 → JVu E 2 YX8_grows K 18 [some (.ref 137), some (.int i1), some (.int i2), some (.int (i3 + 1)), none] [] u2))))) ∧
  ((u 143 i4_1.toNatClampNeg) = 0 → JVu E 2 YX8_grows K 18 [some (.ref 137), some (.int i1), some (.int i2), some (.int (i3 + 1)), none] [] u)))))
    : JVu E 2 YX8_grows K 18 [some (.ref 137), some (.int i1), some (.int i2), some (.int i3), none] [] u := by
  refine jv_iload_n dX8_grows_18 rfl ?_
  refine jv_iconst dX8_grows_19 ci_iconst_3 ?_
  refine jv_icmp_ge (t := 97) dX8_grows_20 rfl (fun c1 => ?_) (fun c1 => ?_)
  · replace h := h.1 c1
    refine jv_iinc (v := i2 + 1) (ls' := [some (.ref 137), some (.int i1), some (.int (i2 + 1)), some (.int i3), none]) dX8_grows_97 (Nat.le_of_ble_eq_true rfl) rfl (by rw [ci_iconst_1]) rfl ?_
    refine jv_goto (t := 10) dX8_grows_100 rfl ?_
    exact jm_sub (ls' := [some (.ref 137), some (.int i1), some (.int (i2 + 1)), none, none]) ⟨rfl, rfl, rfl, trivial⟩ h
  · replace h := h.2 c1
    refine jv_iload_n dX8_grows_23 rfl ?_
    refine jv_iload_n dX8_grows_24 rfl ?_
    refine jv_iload_n dX8_grows_25 rfl ?_
    refine jm_callSi [.int i1, .int i2, .int i3] cw_8_155 dX8_grows_26 rfl (Nat.le_of_ble_eq_true rfl) (Nat.le_of_ble_eq_true rfl) (p_X8_place  ?_)
    generalize hhi4_1 : (i1 * 8 + i2) * 3 + i3 = i4_1
    replace h := h i4_1 hhi4_1.symm
    refine jv_istore (ls' := [some (.ref 137), some (.int i1), some (.int i2), some (.int i3), some (.int i4_1)]) dX8_grows_29 (Nat.le_of_ble_eq_true rfl) rfl ?_
    refine jv_aload_n dX8_grows_31 rfl ?_
    refine gf_8_25 rfl dX8_grows_32 kd_c_137 (lt_c 137 rfl) rf_c_137_6 ?_
    refine jv_iload dX8_grows_35 rfl ?_
    obtain ⟨b3, h⟩ := h
    refine jm_iaload dX8_grows_37 kd_c_143 (lt_c 143 rfl) b3 ?_
    refine jv_if_ne (t := 44) dX8_grows_38 rfl (fun c4 => ?_) (fun c4 => ?_)
    · replace h := h.1 c4
      refine jv_aload_n dX8_grows_44 rfl ?_
      refine gf_8_28 rfl dX8_grows_45 kd_c_137 (lt_c 137 rfl) rf_c_137_7 ?_
      refine jv_iload dX8_grows_48 rfl ?_
      refine jv_dup2 dX8_grows_50 rfl rfl ?_
      refine jm_iaload dX8_grows_51 kd_c_144 (lt_c 144 rfl) b3 ?_
      refine jv_iconst dX8_grows_52 ci_iconst_1 ?_
      refine jv_iadd dX8_grows_53 ?_
      refine jm_iastore dX8_grows_54 kd_c_144 (lt_c 144 rfl) b3 ?_
      generalize hhu2 : jw u 144 i4_1.toNatClampNeg ((u 144 i4_1.toNatClampNeg) + 1) = u2
      replace h := h u2 hhu2.symm
      refine jv_aload_n dX8_grows_55 rfl ?_
      refine gf_8_28 rfl dX8_grows_56 kd_c_137 (lt_c 137 rfl) rf_c_137_7 ?_
      refine jv_iload dX8_grows_59 rfl ?_
      refine jm_iaload dX8_grows_61 kd_c_144 (lt_c 144 rfl) b3 ?_
      refine jv_bipush dX8_grows_62 ci_bipush_60 ?_
      refine jv_icmp_lt (t := 91) dX8_grows_64 rfl (fun c5 => ?_) (fun c5 => ?_)
      · replace h := h.1 c5
        refine jv_iinc (v := i3 + 1) (ls' := [some (.ref 137), some (.int i1), some (.int i2), some (.int (i3 + 1)), some (.int i4_1)]) dX8_grows_91 (Nat.le_of_ble_eq_true rfl) rfl (by rw [ci_iconst_1]) rfl ?_
        refine jv_goto (t := 18) dX8_grows_94 rfl ?_
        exact jm_sub (ls' := [some (.ref 137), some (.int i1), some (.int i2), some (.int (i3 + 1)), none]) ⟨rfl, rfl, rfl, rfl, trivial⟩ h
      · replace h := h.2 c5
        refine jv_iload_n dX8_grows_67 rfl ?_
        refine jv_iload_n dX8_grows_68 rfl ?_
        refine jv_icmp_ne (t := 75) dX8_grows_69 rfl (fun c6 => ?_) (fun c6 => ?_)
        · replace h := h.1 c6
          refine jv_aload_n dX8_grows_75 rfl ?_
          refine gf_8_25 rfl dX8_grows_76 kd_c_137 (lt_c 137 rfl) rf_c_137_6 ?_
          refine jv_iload dX8_grows_79 rfl ?_
          refine jv_iconst dX8_grows_81 ci_iconst_0 ?_
          refine jm_iastore dX8_grows_82 kd_c_143 (lt_c 143 rfl) b3 ?_
          generalize hhu3 : jw u2 143 i4_1.toNatClampNeg 0 = u3
          replace h := h u3 hhu3.symm
          refine jv_aload_n dX8_grows_83 rfl ?_
          refine gf_8_31 rfl dX8_grows_84 kd_c_137 (lt_c 137 rfl) rf_c_137_8 ?_
          refine jv_iload dX8_grows_87 rfl ?_
          refine jv_iconst dX8_grows_89 ci_iconst_0 ?_
          refine jm_iastore dX8_grows_90 kd_c_145 (lt_c 145 rfl) b3 ?_
          generalize hhu4 : jw u3 145 i4_1.toNatClampNeg 0 = u4
          replace h := h u4 hhu4.symm
          refine jv_iinc (v := i3 + 1) (ls' := [some (.ref 137), some (.int i1), some (.int i2), some (.int (i3 + 1)), some (.int i4_1)]) dX8_grows_91 (Nat.le_of_ble_eq_true rfl) rfl (by rw [ci_iconst_1]) rfl ?_
          refine jv_goto (t := 18) dX8_grows_94 rfl ?_
          exact jm_sub (ls' := [some (.ref 137), some (.int i1), some (.int i2), some (.int (i3 + 1)), none]) ⟨rfl, rfl, rfl, rfl, trivial⟩ h
        · replace h := h.2 c6
          refine jv_goto (t := 91) dX8_grows_72 rfl ?_
          refine jv_iinc (v := i3 + 1) (ls' := [some (.ref 137), some (.int i1), some (.int i2), some (.int (i3 + 1)), some (.int i4_1)]) dX8_grows_91 (Nat.le_of_ble_eq_true rfl) rfl (by rw [ci_iconst_1]) rfl ?_
          refine jv_goto (t := 18) dX8_grows_94 rfl ?_
          exact jm_sub (ls' := [some (.ref 137), some (.int i1), some (.int i2), some (.int (i3 + 1)), none]) ⟨rfl, rfl, rfl, rfl, trivial⟩ h
    · replace h := h.2 c4
      refine jv_goto (t := 91) dX8_grows_41 rfl ?_
      refine jv_iinc (v := i3 + 1) (ls' := [some (.ref 137), some (.int i1), some (.int i2), some (.int (i3 + 1)), some (.int i4_1)]) dX8_grows_91 (Nat.le_of_ble_eq_true rfl) rfl (by rw [ci_iconst_1]) rfl ?_
      refine jv_goto (t := 18) dX8_grows_94 rfl ?_
      exact jm_sub (ls' := [some (.ref 137), some (.int i1), some (.int i2), some (.int (i3 + 1)), none]) ⟨rfl, rfl, rfl, rfl, trivial⟩ h
theorem g_X8_isOther_0 {E : JE} {u : JM} {K : Int32 → JM → Prop}  {a1 : Int32}
    (h : JVi E 1 YX8_isOther K 2 [some (.ref 137), some (.int a1), some (.int 0)] [] u)
    : JVi E 1 YX8_isOther K 0 [some (.ref 137), some (.int a1), none] [] u := by
  refine jv_iconst dX8_isOther_0 ci_iconst_0 ?_
  refine jv_istore_n (ls' := [some (.ref 137), some (.int a1), some (.int 0)]) dX8_isOther_1 (Nat.le_of_ble_eq_true rfl) rfl ?_
  exact h
theorem g_X8_isOther_2 {E : JE} {u : JM} {K : Int32 → JM → Prop}  {a1 i2 : Int32}
    (h : ((12 ≤ i2 → JVi E 1 YX8_isOther K 35 [some (.ref 137), some (.int a1), some (.int 0)] [] u) ∧
 (¬ 12 ≤ i2 → vp_in a1 192 ∧
  vp_in i2 12 ∧
  (((u (148 + a1.toNatClampNeg) i2.toNatClampNeg) = (u 1343 i2.toNatClampNeg) → JVi E 1 YX8_isOther K 2 [some (.ref 137), some (.int a1), some (.int (i2 + 1))] [] u) ∧
  (¬ (u (148 + a1.toNatClampNeg) i2.toNatClampNeg) = (u 1343 i2.toNatClampNeg) → K 1 u)))))
    : JVi E 1 YX8_isOther K 2 [some (.ref 137), some (.int a1), some (.int i2)] [] u := by
  refine jv_iload_n dX8_isOther_2 rfl ?_
  refine jv_bipush dX8_isOther_3 ci_bipush_12 ?_
  refine jv_icmp_ge (t := 33) dX8_isOther_5 rfl (fun c1 => ?_) (fun c1 => ?_)
  · replace h := h.1 c1
    refine jv_iconst dX8_isOther_33 ci_iconst_0 ?_
    refine jv_istore_n (ls' := [some (.ref 137), some (.int a1), some (.int 0)]) dX8_isOther_34 (Nat.le_of_ble_eq_true rfl) rfl ?_
    exact h
  · replace h := h.2 c1
    refine jv_aload_n dX8_isOther_8 rfl ?_
    refine gf_8_39 rfl dX8_isOther_9 kd_c_137 (lt_c 137 rfl) rf_c_137_10 ?_
    refine jv_iload_n dX8_isOther_12 rfl ?_
    obtain ⟨b2, h⟩ := h
    refine jm_aaload1 dX8_isOther_13 kd_c_147 (lt_c 147 rfl) b2 (rf_r_147 _) ?_
    refine jv_iload_n dX8_isOther_14 rfl ?_
    obtain ⟨b3, h⟩ := h
    refine jm_iaload dX8_isOther_15 (kd_r_147 (vp_lt b2)) (lt_r_147 (vp_lt b2)) b3 ?_
    refine jv_aload_n dX8_isOther_16 rfl ?_
    refine gf_8_75 rfl dX8_isOther_17 kd_c_137 (lt_c 137 rfl) rf_c_137_29 ?_
    refine jv_iload_n dX8_isOther_20 rfl ?_
    refine jm_iaload dX8_isOther_21 kd_c_1343 (lt_c 1343 rfl) b3 ?_
    refine jv_icmp_eq (t := 27) dX8_isOther_22 rfl (fun c4 => ?_) (fun c4 => ?_)
    · replace h := h.1 c4
      refine jv_iinc (v := i2 + 1) (ls' := [some (.ref 137), some (.int a1), some (.int (i2 + 1))]) dX8_isOther_27 (Nat.le_of_ble_eq_true rfl) rfl (by rw [ci_iconst_1]) rfl ?_
      refine jv_goto (t := 2) dX8_isOther_30 rfl ?_
      exact h
    · replace h := h.2 c4
      refine jv_iconst dX8_isOther_25 ci_iconst_1 ?_
      exact jm_zreturn dX8_isOther_26 rfl (Or.inr rfl) h
theorem g_X8_isOther_35 {E : JE} {u : JM} {K : Int32 → JM → Prop}  {a1 i2 : Int32}
    (h : ((8 ≤ i2 → K 0 u) ∧
 (¬ 8 ≤ i2 → vp_in a1 192 ∧
  vp_in i2 8 ∧
  (((u (341 + a1.toNatClampNeg) i2.toNatClampNeg) = (u 1344 i2.toNatClampNeg) → JVi E 1 YX8_isOther K 35 [some (.ref 137), some (.int a1), some (.int (i2 + 1))] [] u) ∧
  (¬ (u (341 + a1.toNatClampNeg) i2.toNatClampNeg) = (u 1344 i2.toNatClampNeg) → K 1 u)))))
    : JVi E 1 YX8_isOther K 35 [some (.ref 137), some (.int a1), some (.int i2)] [] u := by
  refine jv_iload_n dX8_isOther_35 rfl ?_
  refine jv_bipush dX8_isOther_36 ci_bipush_8 ?_
  refine jv_icmp_ge (t := 66) dX8_isOther_38 rfl (fun c1 => ?_) (fun c1 => ?_)
  · replace h := h.1 c1
    refine jv_iconst dX8_isOther_66 ci_iconst_0 ?_
    exact jm_zreturn dX8_isOther_67 rfl (Or.inl rfl) h
  · replace h := h.2 c1
    refine jv_aload_n dX8_isOther_41 rfl ?_
    refine gf_8_42 rfl dX8_isOther_42 kd_c_137 (lt_c 137 rfl) rf_c_137_11 ?_
    refine jv_iload_n dX8_isOther_45 rfl ?_
    obtain ⟨b2, h⟩ := h
    refine jm_aaload1 dX8_isOther_46 kd_c_340 (lt_c 340 rfl) b2 (rf_r_340 _) ?_
    refine jv_iload_n dX8_isOther_47 rfl ?_
    obtain ⟨b3, h⟩ := h
    refine jm_iaload dX8_isOther_48 (kd_r_340 (vp_lt b2)) (lt_r_340 (vp_lt b2)) b3 ?_
    refine jv_aload_n dX8_isOther_49 rfl ?_
    refine gf_8_78 rfl dX8_isOther_50 kd_c_137 (lt_c 137 rfl) rf_c_137_30 ?_
    refine jv_iload_n dX8_isOther_53 rfl ?_
    refine jm_iaload dX8_isOther_54 kd_c_1344 (lt_c 1344 rfl) b3 ?_
    refine jv_icmp_eq (t := 60) dX8_isOther_55 rfl (fun c4 => ?_) (fun c4 => ?_)
    · replace h := h.1 c4
      refine jv_iinc (v := i2 + 1) (ls' := [some (.ref 137), some (.int a1), some (.int (i2 + 1))]) dX8_isOther_60 (Nat.le_of_ble_eq_true rfl) rfl (by rw [ci_iconst_1]) rfl ?_
      refine jv_goto (t := 35) dX8_isOther_63 rfl ?_
      exact h
    · replace h := h.2 c4
      refine jv_iconst dX8_isOther_58 ci_iconst_1 ?_
      exact jm_zreturn dX8_isOther_59 rfl (Or.inr rfl) h
theorem g_X8_tells_0 {E : JE} {u : JM} {K : JM → Prop}  {a1 a2 : Int32}
    (h : ∀ i3_1 : Int32, i3_1 = (a1 * 8 + a1) * 3 + a2 →
 vp_in i3_1 192 ∧
 ((¬ (u 143 i3_1.toNatClampNeg) = 0 → JVu E 7 YX8_tells K 32 [some (.ref 137), some (.int a1), some (.int a2), some (.int i3_1), some (.int 0)] [] u) ∧
 ((u 143 i3_1.toNatClampNeg) = 0 → JCi E 2 YX8_areasOf [.ref 137, .int a1] (fun x2 u2 =>
  ((¬ ((x2 >>> (a2 &&& 31)) &&& 1) = 0 → JVu E 7 YX8_tells K 32 [some (.ref 137), some (.int a1), some (.int a2), some (.int i3_1), some (.int 0)] [] u2) ∧
   (((x2 >>> (a2 &&& 31)) &&& 1) = 0 → K u2))) u)))
    : JVu E 7 YX8_tells K 0 [some (.ref 137), some (.int a1), some (.int a2), none, none] [] u := by
  refine jv_iload_n dX8_tells_0 rfl ?_
  refine jv_iload_n dX8_tells_1 rfl ?_
  refine jv_iload_n dX8_tells_2 rfl ?_
  refine jm_callSi [.int a1, .int a1, .int a2] cw_8_155 dX8_tells_3 rfl (Nat.le_of_ble_eq_true rfl) (Nat.le_of_ble_eq_true rfl) (p_X8_place  ?_)
  generalize hhi3_1 : (a1 * 8 + a1) * 3 + a2 = i3_1
  replace h := h i3_1 hhi3_1.symm
  refine jv_istore_n (ls' := [some (.ref 137), some (.int a1), some (.int a2), some (.int i3_1), none]) dX8_tells_6 (Nat.le_of_ble_eq_true rfl) rfl ?_
  refine jv_aload_n dX8_tells_7 rfl ?_
  refine gf_8_25 rfl dX8_tells_8 kd_c_137 (lt_c 137 rfl) rf_c_137_6 ?_
  refine jv_iload_n dX8_tells_11 rfl ?_
  obtain ⟨b1, h⟩ := h
  refine jm_iaload dX8_tells_12 kd_c_143 (lt_c 143 rfl) b1 ?_
  refine jv_if_ne (t := 29) dX8_tells_13 rfl (fun c2 => ?_) (fun c2 => ?_)
  · replace h := h.1 c2
    refine jv_iconst dX8_tells_29 ci_iconst_0 ?_
    refine jv_istore (ls' := [some (.ref 137), some (.int a1), some (.int a2), some (.int i3_1), some (.int 0)]) dX8_tells_30 (Nat.le_of_ble_eq_true rfl) rfl ?_
    exact h
  · replace h := h.2 c2
    refine jv_aload_n dX8_tells_16 rfl ?_
    refine jv_iload_n dX8_tells_17 rfl ?_
    refine jm_callVi [.int a1] cw_8_137 dX8_tells_18 rfl (Nat.le_of_ble_eq_true rfl) kd_c_137 (r := (RX8, TX8, 48)) rfl rfl (lt_c 137 rfl) (Nat.le_of_ble_eq_true rfl) (JCi.mono h (fun x2 u2 h => ?_))
    refine jv_iload_n dX8_tells_21 rfl ?_
    refine jv_ishr dX8_tells_22 ?_
    refine jv_iconst dX8_tells_23 ci_iconst_1 ?_
    refine jv_iand dX8_tells_24 ?_
    refine jv_if_ne (t := 29) dX8_tells_25 rfl (fun c3 => ?_) (fun c3 => ?_)
    · replace h := h.1 c3
      refine jv_iconst dX8_tells_29 ci_iconst_0 ?_
      refine jv_istore (ls' := [some (.ref 137), some (.int a1), some (.int a2), some (.int i3_1), some (.int 0)]) dX8_tells_30 (Nat.le_of_ble_eq_true rfl) rfl ?_
      exact h
    · replace h := h.2 c3
      exact jm_return dX8_tells_28 rfl h
theorem g_X8_tells_32 {E : JE} {u : JM} {K : JM → Prop}  {a1 a2 i3 i4 : Int32}
    (h : ((12 ≤ i4 → JVu E 7 YX8_tells K 107 [some (.ref 137), some (.int a1), some (.int a2), some (.int i3), some (.int 0)] [] u) ∧
 (¬ 12 ≤ i4 → (((u 137 0) ≤ i4 → True) ∧ (¬ (u 137 0) ≤ i4 → (vp_in i4 12 ∧ ((¬ (u 140 i4.toNatClampNeg) = a2 → True) ∧ ((u 140 i4.toNatClampNeg) = a2 → (vp_in i4 12 ∧ ((¬ (u 141 i4.toNatClampNeg) = 1 → True) ∧ ((u 141 i4.toNatClampNeg) = 1 → (vp_in i4 12 ∧ (((jb (u 138 i4.toNatClampNeg = a1 ∨ u 139 i4.toNatClampNeg = a1)) = 0 → True) ∧ (¬ (jb (u 138 i4.toNatClampNeg = a1 ∨ u 139 i4.toNatClampNeg = a1)) = 0 → (vp_in i4 12 ∧ True)))))))))))) ∧
  ∀ v_1 : Int32, v_1 = (if (u 137 0) ≤ i4 then 0 else (if (u 140 i4.toNatClampNeg) = a2 then (if (u 141 i4.toNatClampNeg) = 1 then (if (jb (u 138 i4.toNatClampNeg = a1 ∨ u 139 i4.toNatClampNeg = a1)) = 0 then 0 else (u 142 (2 * i4 + (if u 138 i4.toNatClampNeg = a1 then 0 else 1)).toNatClampNeg)) else 0) else 0)) →
  vp_in i4 12 ∧
  ∀ u2, u2 = jw u 1343 i4.toNatClampNeg v_1 →
  JVu E 7 YX8_tells K 32 [some (.ref 137), some (.int a1), some (.int a2), some (.int i3), some (.int (i4 + 1))] [] u2)))
    : JVu E 7 YX8_tells K 32 [some (.ref 137), some (.int a1), some (.int a2), some (.int i3), some (.int i4)] [] u := by
  refine jv_iload dX8_tells_32 rfl ?_
  refine jv_bipush dX8_tells_34 ci_bipush_12 ?_
  refine jv_icmp_ge (t := 104) dX8_tells_36 rfl (fun c1 => ?_) (fun c1 => ?_)
  · replace h := h.1 c1
    refine jv_iconst dX8_tells_104 ci_iconst_0 ?_
    refine jv_istore (ls' := [some (.ref 137), some (.int a1), some (.int a2), some (.int i3), some (.int 0)]) dX8_tells_105 (Nat.le_of_ble_eq_true rfl) rfl ?_
    exact h
  · replace h := h.2 c1
    refine jv_aload_n dX8_tells_39 rfl ?_
    refine gf_8_75 rfl dX8_tells_40 kd_c_137 (lt_c 137 rfl) rf_c_137_29 ?_
    refine jv_iload dX8_tells_43 rfl ?_
    refine jv_iload dX8_tells_45 rfl ?_
    refine jv_aload_n dX8_tells_47 rfl ?_
    refine gf_8_129 rfl dX8_tells_48 kd_c_137 (lt_c 137 rfl) ?_
    obtain ⟨hob, h⟩ := h
    have key12 : ∀ v_1 : Int32, v_1 = (if (u 137 0) ≤ i4 then 0 else (if (u 140 i4.toNatClampNeg) = a2 then (if (u 141 i4.toNatClampNeg) = 1 then (if (jb (u 138 i4.toNatClampNeg = a1 ∨ u 139 i4.toNatClampNeg = a1)) = 0 then 0 else (u 142 (2 * i4 + (if u 138 i4.toNatClampNeg = a1 then 0 else 1)).toNatClampNeg)) else 0) else 0)) → JVu E 7 YX8_tells K 97 [some (.ref 137), some (.int a1), some (.int a2), some (.int i3), some (.int i4)] [.int v_1, .int i4, .ref 1343] u := by
      intro v_1 hv_1
      replace h := h v_1 hv_1
      obtain ⟨b11, h⟩ := h
      refine jm_iastore dX8_tells_97 kd_c_1343 (lt_c 1343 rfl) b11 ?_
      generalize hhu2 : jw u 1343 i4.toNatClampNeg v_1 = u2
      replace h := h u2 hhu2.symm
      refine jv_iinc (v := i4 + 1) (ls' := [some (.ref 137), some (.int a1), some (.int a2), some (.int i3), some (.int (i4 + 1))]) dX8_tells_98 (Nat.le_of_ble_eq_true rfl) rfl (by rw [ci_iconst_1]) rfl ?_
      refine jv_goto (t := 32) dX8_tells_101 rfl ?_
      exact h
    clear h
    have h := hob
    refine jv_icmp_ge (t := 96) dX8_tells_51 rfl (fun c13 => ?_) (fun c13 => ?_)
    · replace h := h.1 c13
      refine jv_iconst dX8_tells_96 ci_iconst_0 ?_
      exact key12 _ (Eq.trans rfl (if_pos c13).symm)
    · replace h := h.2 c13
      refine jv_aload_n dX8_tells_54 rfl ?_
      refine gf_8_16 rfl dX8_tells_55 kd_c_137 (lt_c 137 rfl) rf_c_137_3 ?_
      refine jv_iload dX8_tells_58 rfl ?_
      obtain ⟨b7, h⟩ := h
      refine jm_iaload dX8_tells_60 kd_c_140 (lt_c 140 rfl) b7 ?_
      refine jv_iload_n dX8_tells_61 rfl ?_
      refine jv_icmp_ne (t := 96) dX8_tells_62 rfl (fun c14 => ?_) (fun c14 => ?_)
      · replace h := h.1 c14
        refine jv_iconst dX8_tells_96 ci_iconst_0 ?_
        exact key12 _ (Eq.trans (Eq.trans rfl (if_neg c14).symm) (if_neg c13).symm)
      · replace h := h.2 c14
        refine jv_aload_n dX8_tells_65 rfl ?_
        refine gf_8_19 rfl dX8_tells_66 kd_c_137 (lt_c 137 rfl) rf_c_137_4 ?_
        refine jv_iload dX8_tells_69 rfl ?_
        obtain ⟨b8, h⟩ := h
        refine jm_iaload dX8_tells_71 kd_c_141 (lt_c 141 rfl) b8 ?_
        refine jv_iconst dX8_tells_72 ci_iconst_1 ?_
        refine jv_icmp_ne (t := 96) dX8_tells_73 rfl (fun c15 => ?_) (fun c15 => ?_)
        · replace h := h.1 c15
          refine jv_iconst dX8_tells_96 ci_iconst_0 ?_
          exact key12 _ (Eq.trans (Eq.trans (Eq.trans rfl (if_neg c15).symm) (if_pos c14).symm) (if_neg c13).symm)
        · replace h := h.2 c15
          refine jv_aload_n dX8_tells_76 rfl ?_
          refine jv_iload dX8_tells_77 rfl ?_
          refine jv_iload_n dX8_tells_79 rfl ?_
          obtain ⟨b9, h⟩ := h
          refine jm_callVi [.int i4, .int a1] cw_8_133 dX8_tells_80 rfl (Nat.le_of_ble_eq_true rfl) kd_c_137 (r := (RX8, TX8, 48)) rfl rfl (lt_c 137 rfl) (Nat.le_of_ble_eq_true rfl) (p_X8_isEnd b9 ?_)
          refine jv_if_eq (t := 96) dX8_tells_83 rfl (fun c16 => ?_) (fun c16 => ?_)
          · replace h := h.1 c16
            refine jv_iconst dX8_tells_96 ci_iconst_0 ?_
            exact key12 _ (Eq.trans (Eq.trans (Eq.trans (Eq.trans rfl (if_pos c16).symm) (if_pos c15).symm) (if_pos c14).symm) (if_neg c13).symm)
          · replace h := h.2 c16
            refine jv_aload_n dX8_tells_86 rfl ?_
            refine jv_iload dX8_tells_87 rfl ?_
            refine jv_iload_n dX8_tells_89 rfl ?_
            obtain ⟨b10, h⟩ := h
            refine jm_callVi [.int i4, .int a1] cw_8_151 dX8_tells_90 rfl (Nat.le_of_ble_eq_true rfl) kd_c_137 (r := (RX8, TX8, 48)) rfl rfl (lt_c 137 rfl) (Nat.le_of_ble_eq_true rfl) (p_X8_priceFrom b10 ?_)
            refine jv_goto (t := 97) dX8_tells_93 rfl ?_
            exact key12 _ (Eq.trans (Eq.trans (Eq.trans (Eq.trans rfl (if_neg c16).symm) (if_pos c15).symm) (if_pos c14).symm) (if_neg c13).symm)
theorem g_X8_tells_107 {E : JE} {u : JM} {K : JM → Prop}  {a1 a2 i3 i4 : Int32}
    (h : ((8 ≤ i4 → vp_in i3 192 ∧
  (((u 143 i3.toNatClampNeg) ≤ 0 → ∀ u1, u1 = jw u 143 i3.toNatClampNeg ((u 143 i3.toNatClampNeg) + 1) →
   ∀ u2, u2 = jw u1 144 i3.toNatClampNeg 0 →
   ∀ u3, u3 = jw u2 145 i3.toNatClampNeg 1 →
   ∀ u4, u4 = jw u3 146 i3.toNatClampNeg 0 →
   (¬ (0 : Int32) < 0 ∧ ¬ (0 : Int32) < 0 ∧ ¬ (12 : Int32) < 0 ∧ (0 : Int32).toNatClampNeg + (12 : Int32).toNatClampNeg ≤ 12 ∧ (0 : Int32).toNatClampNeg + (12 : Int32).toNatClampNeg ≤ 12) ∧
   ∀ u5, u5 = jcp u4 1343 (0 : Int32).toNatClampNeg (148 + i3.toNatClampNeg) (0 : Int32).toNatClampNeg (12 : Int32).toNatClampNeg →
   (¬ (0 : Int32) < 0 ∧ ¬ (0 : Int32) < 0 ∧ ¬ (8 : Int32) < 0 ∧ (0 : Int32).toNatClampNeg + (8 : Int32).toNatClampNeg ≤ 8 ∧ (0 : Int32).toNatClampNeg + (8 : Int32).toNatClampNeg ≤ 8) ∧
   ∀ u6, u6 = jcp u5 1344 (0 : Int32).toNatClampNeg (341 + i3.toNatClampNeg) (0 : Int32).toNatClampNeg (8 : Int32).toNatClampNeg →
   K u6) ∧
  (¬ (u 143 i3.toNatClampNeg) ≤ 0 → ((20 ≤ (u 144 i3.toNatClampNeg) → ∀ u7, u7 = jw u 143 i3.toNatClampNeg ((u 143 i3.toNatClampNeg) + 1) →
    ∀ u8, u8 = jw u7 144 i3.toNatClampNeg 0 →
    ∀ u9, u9 = jw u8 145 i3.toNatClampNeg 1 →
    ∀ u10, u10 = jw u9 146 i3.toNatClampNeg 0 →
    (¬ (0 : Int32) < 0 ∧ ¬ (0 : Int32) < 0 ∧ ¬ (12 : Int32) < 0 ∧ (0 : Int32).toNatClampNeg + (12 : Int32).toNatClampNeg ≤ 12 ∧ (0 : Int32).toNatClampNeg + (12 : Int32).toNatClampNeg ≤ 12) ∧
    ∀ u11, u11 = jcp u10 1343 (0 : Int32).toNatClampNeg (148 + i3.toNatClampNeg) (0 : Int32).toNatClampNeg (12 : Int32).toNatClampNeg →
    (¬ (0 : Int32) < 0 ∧ ¬ (0 : Int32) < 0 ∧ ¬ (8 : Int32) < 0 ∧ (0 : Int32).toNatClampNeg + (8 : Int32).toNatClampNeg ≤ 8 ∧ (0 : Int32).toNatClampNeg + (8 : Int32).toNatClampNeg ≤ 8) ∧
    ∀ u12, u12 = jcp u11 1344 (0 : Int32).toNatClampNeg (341 + i3.toNatClampNeg) (0 : Int32).toNatClampNeg (8 : Int32).toNatClampNeg →
    K u12) ∧
   (¬ 20 ≤ (u 144 i3.toNatClampNeg) → JCi E 1 YX8_isOther [.ref 137, .int i3] (fun x13 u13 =>
    ((¬ x13 = 0 → ∀ u14, u14 = jw u13 143 i3.toNatClampNeg ((u13 143 i3.toNatClampNeg) + 1) →
      ∀ u15, u15 = jw u14 144 i3.toNatClampNeg 0 →
      ∀ u16, u16 = jw u15 145 i3.toNatClampNeg 1 →
      ∀ u17, u17 = jw u16 146 i3.toNatClampNeg 0 →
      (¬ (0 : Int32) < 0 ∧ ¬ (0 : Int32) < 0 ∧ ¬ (12 : Int32) < 0 ∧ (0 : Int32).toNatClampNeg + (12 : Int32).toNatClampNeg ≤ 12 ∧ (0 : Int32).toNatClampNeg + (12 : Int32).toNatClampNeg ≤ 12) ∧
      ∀ u18, u18 = jcp u17 1343 (0 : Int32).toNatClampNeg (148 + i3.toNatClampNeg) (0 : Int32).toNatClampNeg (12 : Int32).toNatClampNeg →
      (¬ (0 : Int32) < 0 ∧ ¬ (0 : Int32) < 0 ∧ ¬ (8 : Int32) < 0 ∧ (0 : Int32).toNatClampNeg + (8 : Int32).toNatClampNeg ≤ 8 ∧ (0 : Int32).toNatClampNeg + (8 : Int32).toNatClampNeg ≤ 8) ∧
      ∀ u19, u19 = jcp u18 1344 (0 : Int32).toNatClampNeg (341 + i3.toNatClampNeg) (0 : Int32).toNatClampNeg (8 : Int32).toNatClampNeg →
      K u19) ∧
     (x13 = 0 → K u13))) u))))) ∧
 (¬ 8 ≤ i4 → JCi E 6 YX8_sumOf [.ref 137, .int a1, .int i4, .int a2] (fun x20 u20 =>
  vp_in i4 8 ∧
   ∀ u21, u21 = jw u20 1344 i4.toNatClampNeg x20 →
   JVu E 7 YX8_tells K 107 [some (.ref 137), some (.int a1), some (.int a2), some (.int i3), some (.int (i4 + 1))] [] u21) u)))
    : JVu E 7 YX8_tells K 107 [some (.ref 137), some (.int a1), some (.int a2), some (.int i3), some (.int i4)] [] u := by
  refine jv_iload dX8_tells_107 rfl ?_
  refine jv_bipush dX8_tells_109 ci_bipush_8 ?_
  refine jv_icmp_ge (t := 135) dX8_tells_111 rfl (fun c1 => ?_) (fun c1 => ?_)
  · replace h := h.1 c1
    refine jv_aload_n dX8_tells_135 rfl ?_
    refine gf_8_25 rfl dX8_tells_136 kd_c_137 (lt_c 137 rfl) rf_c_137_6 ?_
    refine jv_iload_n dX8_tells_139 rfl ?_
    obtain ⟨b2, h⟩ := h
    refine jm_iaload dX8_tells_140 kd_c_143 (lt_c 143 rfl) b2 ?_
    refine jv_if_le (t := 164) dX8_tells_141 rfl (fun c3 => ?_) (fun c3 => ?_)
    · replace h := h.1 c3
      refine jv_aload_n dX8_tells_164 rfl ?_
      refine gf_8_25 rfl dX8_tells_165 kd_c_137 (lt_c 137 rfl) rf_c_137_6 ?_
      refine jv_iload_n dX8_tells_168 rfl ?_
      refine jv_dup2 dX8_tells_169 rfl rfl ?_
      refine jm_iaload dX8_tells_170 kd_c_143 (lt_c 143 rfl) b2 ?_
      refine jv_iconst dX8_tells_171 ci_iconst_1 ?_
      refine jv_iadd dX8_tells_172 ?_
      refine jm_iastore dX8_tells_173 kd_c_143 (lt_c 143 rfl) b2 ?_
      generalize hhu1 : jw u 143 i3.toNatClampNeg ((u 143 i3.toNatClampNeg) + 1) = u1
      replace h := h u1 hhu1.symm
      refine jv_aload_n dX8_tells_174 rfl ?_
      refine gf_8_28 rfl dX8_tells_175 kd_c_137 (lt_c 137 rfl) rf_c_137_7 ?_
      refine jv_iload_n dX8_tells_178 rfl ?_
      refine jv_iconst dX8_tells_179 ci_iconst_0 ?_
      refine jm_iastore dX8_tells_180 kd_c_144 (lt_c 144 rfl) b2 ?_
      generalize hhu2 : jw u1 144 i3.toNatClampNeg 0 = u2
      replace h := h u2 hhu2.symm
      refine jv_aload_n dX8_tells_181 rfl ?_
      refine gf_8_31 rfl dX8_tells_182 kd_c_137 (lt_c 137 rfl) rf_c_137_8 ?_
      refine jv_iload_n dX8_tells_185 rfl ?_
      refine jv_iconst dX8_tells_186 ci_iconst_1 ?_
      refine jm_iastore dX8_tells_187 kd_c_145 (lt_c 145 rfl) b2 ?_
      generalize hhu3 : jw u2 145 i3.toNatClampNeg 1 = u3
      replace h := h u3 hhu3.symm
      refine jv_aload_n dX8_tells_188 rfl ?_
      refine gf_8_34 rfl dX8_tells_189 kd_c_137 (lt_c 137 rfl) rf_c_137_9 ?_
      refine jv_iload_n dX8_tells_192 rfl ?_
      refine jv_iconst dX8_tells_193 ci_iconst_0 ?_
      refine jm_iastore dX8_tells_194 kd_c_146 (lt_c 146 rfl) b2 ?_
      generalize hhu4 : jw u3 146 i3.toNatClampNeg 0 = u4
      replace h := h u4 hhu4.symm
      refine jv_aload_n dX8_tells_195 rfl ?_
      refine gf_8_75 rfl dX8_tells_196 kd_c_137 (lt_c 137 rfl) rf_c_137_29 ?_
      refine jv_iconst dX8_tells_199 ci_iconst_0 ?_
      refine jv_aload_n dX8_tells_200 rfl ?_
      refine gf_8_39 rfl dX8_tells_201 kd_c_137 (lt_c 137 rfl) rf_c_137_10 ?_
      refine jv_iload_n dX8_tells_204 rfl ?_
      refine jm_aaload1 dX8_tells_205 kd_c_147 (lt_c 147 rfl) b2 (rf_r_147 _) ?_
      refine jv_iconst dX8_tells_206 ci_iconst_0 ?_
      refine jv_bipush dX8_tells_207 ci_bipush_12 ?_
      obtain ⟨b4, h⟩ := h
      refine jm_acopy ac_8_213 dX8_tells_209 kd_c_1343 (kd_r_147 (vp_lt b2)) (lt_c 1343 rfl) (lt_r_147 (vp_lt b2)) rfl (Nat.le_of_ble_eq_true rfl) (Nat.le_of_ble_eq_true rfl) b4.1 b4.2.1 b4.2.2.1 b4.2.2.2.1 b4.2.2.2.2 ?_
      generalize hhu5 : jcp u4 1343 (0 : Int32).toNatClampNeg (148 + i3.toNatClampNeg) (0 : Int32).toNatClampNeg (12 : Int32).toNatClampNeg = u5
      replace h := h u5 hhu5.symm
      refine jv_aload_n dX8_tells_212 rfl ?_
      refine gf_8_78 rfl dX8_tells_213 kd_c_137 (lt_c 137 rfl) rf_c_137_30 ?_
      refine jv_iconst dX8_tells_216 ci_iconst_0 ?_
      refine jv_aload_n dX8_tells_217 rfl ?_
      refine gf_8_42 rfl dX8_tells_218 kd_c_137 (lt_c 137 rfl) rf_c_137_11 ?_
      refine jv_iload_n dX8_tells_221 rfl ?_
      refine jm_aaload1 dX8_tells_222 kd_c_340 (lt_c 340 rfl) b2 (rf_r_340 _) ?_
      refine jv_iconst dX8_tells_223 ci_iconst_0 ?_
      refine jv_bipush dX8_tells_224 ci_bipush_8 ?_
      obtain ⟨b5, h⟩ := h
      refine jm_acopy ac_8_213 dX8_tells_226 kd_c_1344 (kd_r_340 (vp_lt b2)) (lt_c 1344 rfl) (lt_r_340 (vp_lt b2)) rfl (Nat.le_of_ble_eq_true rfl) (Nat.le_of_ble_eq_true rfl) b5.1 b5.2.1 b5.2.2.1 b5.2.2.2.1 b5.2.2.2.2 ?_
      generalize hhu6 : jcp u5 1344 (0 : Int32).toNatClampNeg (341 + i3.toNatClampNeg) (0 : Int32).toNatClampNeg (8 : Int32).toNatClampNeg = u6
      replace h := h u6 hhu6.symm
      exact jm_return dX8_tells_229 rfl h
    · replace h := h.2 c3
      refine jv_aload_n dX8_tells_144 rfl ?_
      refine gf_8_28 rfl dX8_tells_145 kd_c_137 (lt_c 137 rfl) rf_c_137_7 ?_
      refine jv_iload_n dX8_tells_148 rfl ?_
      refine jm_iaload dX8_tells_149 kd_c_144 (lt_c 144 rfl) b2 ?_
      refine jv_bipush dX8_tells_150 ci_bipush_20 ?_
      refine jv_icmp_ge (t := 164) dX8_tells_152 rfl (fun c6 => ?_) (fun c6 => ?_)
      · replace h := h.1 c6
        refine jv_aload_n dX8_tells_164 rfl ?_
        refine gf_8_25 rfl dX8_tells_165 kd_c_137 (lt_c 137 rfl) rf_c_137_6 ?_
        refine jv_iload_n dX8_tells_168 rfl ?_
        refine jv_dup2 dX8_tells_169 rfl rfl ?_
        refine jm_iaload dX8_tells_170 kd_c_143 (lt_c 143 rfl) b2 ?_
        refine jv_iconst dX8_tells_171 ci_iconst_1 ?_
        refine jv_iadd dX8_tells_172 ?_
        refine jm_iastore dX8_tells_173 kd_c_143 (lt_c 143 rfl) b2 ?_
        generalize hhu7 : jw u 143 i3.toNatClampNeg ((u 143 i3.toNatClampNeg) + 1) = u7
        replace h := h u7 hhu7.symm
        refine jv_aload_n dX8_tells_174 rfl ?_
        refine gf_8_28 rfl dX8_tells_175 kd_c_137 (lt_c 137 rfl) rf_c_137_7 ?_
        refine jv_iload_n dX8_tells_178 rfl ?_
        refine jv_iconst dX8_tells_179 ci_iconst_0 ?_
        refine jm_iastore dX8_tells_180 kd_c_144 (lt_c 144 rfl) b2 ?_
        generalize hhu8 : jw u7 144 i3.toNatClampNeg 0 = u8
        replace h := h u8 hhu8.symm
        refine jv_aload_n dX8_tells_181 rfl ?_
        refine gf_8_31 rfl dX8_tells_182 kd_c_137 (lt_c 137 rfl) rf_c_137_8 ?_
        refine jv_iload_n dX8_tells_185 rfl ?_
        refine jv_iconst dX8_tells_186 ci_iconst_1 ?_
        refine jm_iastore dX8_tells_187 kd_c_145 (lt_c 145 rfl) b2 ?_
        generalize hhu9 : jw u8 145 i3.toNatClampNeg 1 = u9
        replace h := h u9 hhu9.symm
        refine jv_aload_n dX8_tells_188 rfl ?_
        refine gf_8_34 rfl dX8_tells_189 kd_c_137 (lt_c 137 rfl) rf_c_137_9 ?_
        refine jv_iload_n dX8_tells_192 rfl ?_
        refine jv_iconst dX8_tells_193 ci_iconst_0 ?_
        refine jm_iastore dX8_tells_194 kd_c_146 (lt_c 146 rfl) b2 ?_
        generalize hhu10 : jw u9 146 i3.toNatClampNeg 0 = u10
        replace h := h u10 hhu10.symm
        refine jv_aload_n dX8_tells_195 rfl ?_
        refine gf_8_75 rfl dX8_tells_196 kd_c_137 (lt_c 137 rfl) rf_c_137_29 ?_
        refine jv_iconst dX8_tells_199 ci_iconst_0 ?_
        refine jv_aload_n dX8_tells_200 rfl ?_
        refine gf_8_39 rfl dX8_tells_201 kd_c_137 (lt_c 137 rfl) rf_c_137_10 ?_
        refine jv_iload_n dX8_tells_204 rfl ?_
        refine jm_aaload1 dX8_tells_205 kd_c_147 (lt_c 147 rfl) b2 (rf_r_147 _) ?_
        refine jv_iconst dX8_tells_206 ci_iconst_0 ?_
        refine jv_bipush dX8_tells_207 ci_bipush_12 ?_
        obtain ⟨b7, h⟩ := h
        refine jm_acopy ac_8_213 dX8_tells_209 kd_c_1343 (kd_r_147 (vp_lt b2)) (lt_c 1343 rfl) (lt_r_147 (vp_lt b2)) rfl (Nat.le_of_ble_eq_true rfl) (Nat.le_of_ble_eq_true rfl) b7.1 b7.2.1 b7.2.2.1 b7.2.2.2.1 b7.2.2.2.2 ?_
        generalize hhu11 : jcp u10 1343 (0 : Int32).toNatClampNeg (148 + i3.toNatClampNeg) (0 : Int32).toNatClampNeg (12 : Int32).toNatClampNeg = u11
        replace h := h u11 hhu11.symm
        refine jv_aload_n dX8_tells_212 rfl ?_
        refine gf_8_78 rfl dX8_tells_213 kd_c_137 (lt_c 137 rfl) rf_c_137_30 ?_
        refine jv_iconst dX8_tells_216 ci_iconst_0 ?_
        refine jv_aload_n dX8_tells_217 rfl ?_
        refine gf_8_42 rfl dX8_tells_218 kd_c_137 (lt_c 137 rfl) rf_c_137_11 ?_
        refine jv_iload_n dX8_tells_221 rfl ?_
        refine jm_aaload1 dX8_tells_222 kd_c_340 (lt_c 340 rfl) b2 (rf_r_340 _) ?_
        refine jv_iconst dX8_tells_223 ci_iconst_0 ?_
        refine jv_bipush dX8_tells_224 ci_bipush_8 ?_
        obtain ⟨b8, h⟩ := h
        refine jm_acopy ac_8_213 dX8_tells_226 kd_c_1344 (kd_r_340 (vp_lt b2)) (lt_c 1344 rfl) (lt_r_340 (vp_lt b2)) rfl (Nat.le_of_ble_eq_true rfl) (Nat.le_of_ble_eq_true rfl) b8.1 b8.2.1 b8.2.2.1 b8.2.2.2.1 b8.2.2.2.2 ?_
        generalize hhu12 : jcp u11 1344 (0 : Int32).toNatClampNeg (341 + i3.toNatClampNeg) (0 : Int32).toNatClampNeg (8 : Int32).toNatClampNeg = u12
        replace h := h u12 hhu12.symm
        exact jm_return dX8_tells_229 rfl h
      · replace h := h.2 c6
        refine jv_aload_n dX8_tells_155 rfl ?_
        refine jv_iload_n dX8_tells_156 rfl ?_
        refine jm_callVi [.int i3] cw_8_222 dX8_tells_157 rfl (Nat.le_of_ble_eq_true rfl) kd_c_137 (r := (RX8, TX8, 48)) rfl rfl (lt_c 137 rfl) (Nat.le_of_ble_eq_true rfl) (JCi.mono h (fun x13 u13 h => ?_))
        refine jv_if_ne (t := 164) dX8_tells_160 rfl (fun c9 => ?_) (fun c9 => ?_)
        · replace h := h.1 c9
          refine jv_aload_n dX8_tells_164 rfl ?_
          refine gf_8_25 rfl dX8_tells_165 kd_c_137 (lt_c 137 rfl) rf_c_137_6 ?_
          refine jv_iload_n dX8_tells_168 rfl ?_
          refine jv_dup2 dX8_tells_169 rfl rfl ?_
          refine jm_iaload dX8_tells_170 kd_c_143 (lt_c 143 rfl) b2 ?_
          refine jv_iconst dX8_tells_171 ci_iconst_1 ?_
          refine jv_iadd dX8_tells_172 ?_
          refine jm_iastore dX8_tells_173 kd_c_143 (lt_c 143 rfl) b2 ?_
          generalize hhu14 : jw u13 143 i3.toNatClampNeg ((u13 143 i3.toNatClampNeg) + 1) = u14
          replace h := h u14 hhu14.symm
          refine jv_aload_n dX8_tells_174 rfl ?_
          refine gf_8_28 rfl dX8_tells_175 kd_c_137 (lt_c 137 rfl) rf_c_137_7 ?_
          refine jv_iload_n dX8_tells_178 rfl ?_
          refine jv_iconst dX8_tells_179 ci_iconst_0 ?_
          refine jm_iastore dX8_tells_180 kd_c_144 (lt_c 144 rfl) b2 ?_
          generalize hhu15 : jw u14 144 i3.toNatClampNeg 0 = u15
          replace h := h u15 hhu15.symm
          refine jv_aload_n dX8_tells_181 rfl ?_
          refine gf_8_31 rfl dX8_tells_182 kd_c_137 (lt_c 137 rfl) rf_c_137_8 ?_
          refine jv_iload_n dX8_tells_185 rfl ?_
          refine jv_iconst dX8_tells_186 ci_iconst_1 ?_
          refine jm_iastore dX8_tells_187 kd_c_145 (lt_c 145 rfl) b2 ?_
          generalize hhu16 : jw u15 145 i3.toNatClampNeg 1 = u16
          replace h := h u16 hhu16.symm
          refine jv_aload_n dX8_tells_188 rfl ?_
          refine gf_8_34 rfl dX8_tells_189 kd_c_137 (lt_c 137 rfl) rf_c_137_9 ?_
          refine jv_iload_n dX8_tells_192 rfl ?_
          refine jv_iconst dX8_tells_193 ci_iconst_0 ?_
          refine jm_iastore dX8_tells_194 kd_c_146 (lt_c 146 rfl) b2 ?_
          generalize hhu17 : jw u16 146 i3.toNatClampNeg 0 = u17
          replace h := h u17 hhu17.symm
          refine jv_aload_n dX8_tells_195 rfl ?_
          refine gf_8_75 rfl dX8_tells_196 kd_c_137 (lt_c 137 rfl) rf_c_137_29 ?_
          refine jv_iconst dX8_tells_199 ci_iconst_0 ?_
          refine jv_aload_n dX8_tells_200 rfl ?_
          refine gf_8_39 rfl dX8_tells_201 kd_c_137 (lt_c 137 rfl) rf_c_137_10 ?_
          refine jv_iload_n dX8_tells_204 rfl ?_
          refine jm_aaload1 dX8_tells_205 kd_c_147 (lt_c 147 rfl) b2 (rf_r_147 _) ?_
          refine jv_iconst dX8_tells_206 ci_iconst_0 ?_
          refine jv_bipush dX8_tells_207 ci_bipush_12 ?_
          obtain ⟨b10, h⟩ := h
          refine jm_acopy ac_8_213 dX8_tells_209 kd_c_1343 (kd_r_147 (vp_lt b2)) (lt_c 1343 rfl) (lt_r_147 (vp_lt b2)) rfl (Nat.le_of_ble_eq_true rfl) (Nat.le_of_ble_eq_true rfl) b10.1 b10.2.1 b10.2.2.1 b10.2.2.2.1 b10.2.2.2.2 ?_
          generalize hhu18 : jcp u17 1343 (0 : Int32).toNatClampNeg (148 + i3.toNatClampNeg) (0 : Int32).toNatClampNeg (12 : Int32).toNatClampNeg = u18
          replace h := h u18 hhu18.symm
          refine jv_aload_n dX8_tells_212 rfl ?_
          refine gf_8_78 rfl dX8_tells_213 kd_c_137 (lt_c 137 rfl) rf_c_137_30 ?_
          refine jv_iconst dX8_tells_216 ci_iconst_0 ?_
          refine jv_aload_n dX8_tells_217 rfl ?_
          refine gf_8_42 rfl dX8_tells_218 kd_c_137 (lt_c 137 rfl) rf_c_137_11 ?_
          refine jv_iload_n dX8_tells_221 rfl ?_
          refine jm_aaload1 dX8_tells_222 kd_c_340 (lt_c 340 rfl) b2 (rf_r_340 _) ?_
          refine jv_iconst dX8_tells_223 ci_iconst_0 ?_
          refine jv_bipush dX8_tells_224 ci_bipush_8 ?_
          obtain ⟨b11, h⟩ := h
          refine jm_acopy ac_8_213 dX8_tells_226 kd_c_1344 (kd_r_340 (vp_lt b2)) (lt_c 1344 rfl) (lt_r_340 (vp_lt b2)) rfl (Nat.le_of_ble_eq_true rfl) (Nat.le_of_ble_eq_true rfl) b11.1 b11.2.1 b11.2.2.1 b11.2.2.2.1 b11.2.2.2.2 ?_
          generalize hhu19 : jcp u18 1344 (0 : Int32).toNatClampNeg (341 + i3.toNatClampNeg) (0 : Int32).toNatClampNeg (8 : Int32).toNatClampNeg = u19
          replace h := h u19 hhu19.symm
          exact jm_return dX8_tells_229 rfl h
        · replace h := h.2 c9
          exact jm_return dX8_tells_163 rfl h
  · replace h := h.2 c1
    refine jv_aload_n dX8_tells_114 rfl ?_
    refine gf_8_78 rfl dX8_tells_115 kd_c_137 (lt_c 137 rfl) rf_c_137_30 ?_
    refine jv_iload dX8_tells_118 rfl ?_
    refine jv_aload_n dX8_tells_120 rfl ?_
    refine jv_iload_n dX8_tells_121 rfl ?_
    refine jv_iload dX8_tells_122 rfl ?_
    refine jv_iload_n dX8_tells_124 rfl ?_
    refine jm_callVi [.int a1, .int i4, .int a2] cw_8_219 dX8_tells_125 rfl (Nat.le_of_ble_eq_true rfl) kd_c_137 (r := (RX8, TX8, 48)) rfl rfl (lt_c 137 rfl) (Nat.le_of_ble_eq_true rfl) (JCi.mono h (fun x20 u20 h => ?_))
    obtain ⟨b12, h⟩ := h
    refine jm_iastore dX8_tells_128 kd_c_1344 (lt_c 1344 rfl) b12 ?_
    generalize hhu21 : jw u20 1344 i4.toNatClampNeg x20 = u21
    replace h := h u21 hhu21.symm
    refine jv_iinc (v := i4 + 1) (ls' := [some (.ref 137), some (.int a1), some (.int a2), some (.int i3), some (.int (i4 + 1))]) dX8_tells_129 (Nat.le_of_ble_eq_true rfl) rfl (by rw [ci_iconst_1]) rfl ?_
    refine jv_goto (t := 107) dX8_tells_132 rfl ?_
    exact h
theorem g_X8_sends_0 {E : JE} {u : JM} {K : JM → Prop}  {a1 a2 a3 : Int32}
    (h : ∀ i4_1 : Int32, i4_1 = (a1 * 8 + a2) * 3 + a3 →
 vp_in i4_1 192 ∧
 (((u 143 i4_1.toNatClampNeg) = 0 → K u) ∧
 (¬ (u 143 i4_1.toNatClampNeg) = 0 → ((¬ (u 145 i4_1.toNatClampNeg) = 0 → JVu E 2 YX8_sends K 32 [some (.ref 137), some (.int a1), some (.int a2), some (.int a3), some (.int i4_1), some (.int 0)] [] u) ∧
  ((u 145 i4_1.toNatClampNeg) = 0 → K u)))))
    : JVu E 2 YX8_sends K 0 [some (.ref 137), some (.int a1), some (.int a2), some (.int a3), none, none] [] u := by
  refine jv_iload_n dX8_sends_0 rfl ?_
  refine jv_iload_n dX8_sends_1 rfl ?_
  refine jv_iload_n dX8_sends_2 rfl ?_
  refine jm_callSi [.int a1, .int a2, .int a3] cw_8_155 dX8_sends_3 rfl (Nat.le_of_ble_eq_true rfl) (Nat.le_of_ble_eq_true rfl) (p_X8_place  ?_)
  generalize hhi4_1 : (a1 * 8 + a2) * 3 + a3 = i4_1
  replace h := h i4_1 hhi4_1.symm
  refine jv_istore (ls' := [some (.ref 137), some (.int a1), some (.int a2), some (.int a3), some (.int i4_1), none]) dX8_sends_6 (Nat.le_of_ble_eq_true rfl) rfl ?_
  refine jv_aload_n dX8_sends_8 rfl ?_
  refine gf_8_25 rfl dX8_sends_9 kd_c_137 (lt_c 137 rfl) rf_c_137_6 ?_
  refine jv_iload dX8_sends_12 rfl ?_
  obtain ⟨b1, h⟩ := h
  refine jm_iaload dX8_sends_14 kd_c_143 (lt_c 143 rfl) b1 ?_
  refine jv_if_eq (t := 28) dX8_sends_15 rfl (fun c2 => ?_) (fun c2 => ?_)
  · replace h := h.1 c2
    exact jm_return dX8_sends_28 rfl h
  · replace h := h.2 c2
    refine jv_aload_n dX8_sends_18 rfl ?_
    refine gf_8_31 rfl dX8_sends_19 kd_c_137 (lt_c 137 rfl) rf_c_137_8 ?_
    refine jv_iload dX8_sends_22 rfl ?_
    refine jm_iaload dX8_sends_24 kd_c_145 (lt_c 145 rfl) b1 ?_
    refine jv_if_ne (t := 29) dX8_sends_25 rfl (fun c3 => ?_) (fun c3 => ?_)
    · replace h := h.1 c3
      refine jv_iconst dX8_sends_29 ci_iconst_0 ?_
      refine jv_istore (ls' := [some (.ref 137), some (.int a1), some (.int a2), some (.int a3), some (.int i4_1), some (.int 0)]) dX8_sends_30 (Nat.le_of_ble_eq_true rfl) rfl ?_
      exact h
    · replace h := h.2 c3
      exact jm_return dX8_sends_28 rfl h
theorem g_X8_sends_32 {E : JE} {u : JM} {K : JM → Prop}  {a1 a2 a3 i4 i5 : Int32}
    (h : (((u 137 0) ≤ i5 → K u) ∧
 (¬ (u 137 0) ≤ i5 → vp_in i5 12 ∧
  ((¬ (u 140 i5.toNatClampNeg) = a3 → JVu E 2 YX8_sends K 32 [some (.ref 137), some (.int a1), some (.int a2), some (.int a3), some (.int i4), some (.int (i5 + 1))] [] u) ∧
  ((u 140 i5.toNatClampNeg) = a3 → (((u 141 i5.toNatClampNeg) = 0 → JVu E 2 YX8_sends K 32 [some (.ref 137), some (.int a1), some (.int a2), some (.int a3), some (.int i4), some (.int (i5 + 1))] [] u) ∧
   (¬ (u 141 i5.toNatClampNeg) = 0 → (((jb (u 138 i5.toNatClampNeg = a1 ∨ u 139 i5.toNatClampNeg = a1)) = 0 → JVu E 2 YX8_sends K 32 [some (.ref 137), some (.int a1), some (.int a2), some (.int a3), some (.int i4), some (.int (i5 + 1))] [] u) ∧
    (¬ (jb (u 138 i5.toNatClampNeg = a1 ∨ u 139 i5.toNatClampNeg = a1)) = 0 → vp_in i4 192 ∧
     ((¬ (((u 146 i4.toNatClampNeg) >>> (i5 &&& 31)) &&& 1) = 1 → vp_in (u 137 12) 400 ∧
      ∀ u1, u1 = jw u 533 (u 137 12).toNatClampNeg i5 →
      vp_in (u1 137 12) 400 ∧
      ∀ u2, u2 = jw u1 534 (u1 137 12).toNatClampNeg (if u1 138 i5.toNatClampNeg = a1 then u1 139 i5.toNatClampNeg else u1 138 i5.toNatClampNeg) →
      vp_in (u2 137 12) 400 ∧
      ∀ u3, u3 = jw u2 535 (u2 137 12).toNatClampNeg a2 →
      vp_in (u3 137 12) 400 ∧
      ∀ u4, u4 = jw u3 536 (u3 137 12).toNatClampNeg a3 →
      vp_in (u4 137 12) 400 ∧
      ∀ u5, u5 = jw u4 537 (u4 137 12).toNatClampNeg (u4 143 i4.toNatClampNeg) →
      vp_in (u5 137 12) 400 ∧
      ∀ u6, u6 = jw u5 538 (u5 137 12).toNatClampNeg (u5 144 i4.toNatClampNeg) →
      vp_in (u6 137 12) 400 ∧
      (¬ (0 : Int32) < 0 ∧ ¬ (0 : Int32) < 0 ∧ ¬ (12 : Int32) < 0 ∧ (0 : Int32).toNatClampNeg + (12 : Int32).toNatClampNeg ≤ 12 ∧ (0 : Int32).toNatClampNeg + (12 : Int32).toNatClampNeg ≤ 12) ∧
      ∀ u7, u7 = jcp u6 (148 + i4.toNatClampNeg) (0 : Int32).toNatClampNeg (540 + (u6 137 12).toNatClampNeg) (0 : Int32).toNatClampNeg (12 : Int32).toNatClampNeg →
      vp_in (u7 137 12) 400 ∧
      (¬ (0 : Int32) < 0 ∧ ¬ (0 : Int32) < 0 ∧ ¬ (8 : Int32) < 0 ∧ (0 : Int32).toNatClampNeg + (8 : Int32).toNatClampNeg ≤ 8 ∧ (0 : Int32).toNatClampNeg + (8 : Int32).toNatClampNeg ≤ 8) ∧
      ∀ u8, u8 = jcp u7 (341 + i4.toNatClampNeg) (0 : Int32).toNatClampNeg (941 + (u7 137 12).toNatClampNeg) (0 : Int32).toNatClampNeg (8 : Int32).toNatClampNeg →
      ∀ u9, u9 = jw u8 137 12 ((u8 137 12) + 1) →
      JVu E 2 YX8_sends K 32 [some (.ref 137), some (.int a1), some (.int a2), some (.int a3), some (.int i4), some (.int (i5 + 1))] [] u9) ∧
     ((((u 146 i4.toNatClampNeg) >>> (i5 &&& 31)) &&& 1) = 1 → JVu E 2 YX8_sends K 32 [some (.ref 137), some (.int a1), some (.int a2), some (.int a3), some (.int i4), some (.int (i5 + 1))] [] u)))))))))))
    : JVu E 2 YX8_sends K 32 [some (.ref 137), some (.int a1), some (.int a2), some (.int a3), some (.int i4), some (.int i5)] [] u := by
  refine jv_iload dX8_sends_32 rfl ?_
  refine jv_aload_n dX8_sends_34 rfl ?_
  refine gf_8_129 rfl dX8_sends_35 kd_c_137 (lt_c 137 rfl) ?_
  refine jv_icmp_ge (t := 232) dX8_sends_38 rfl (fun c1 => ?_) (fun c1 => ?_)
  · replace h := h.1 c1
    exact jm_return dX8_sends_232 rfl h
  · replace h := h.2 c1
    refine jv_aload_n dX8_sends_41 rfl ?_
    refine gf_8_16 rfl dX8_sends_42 kd_c_137 (lt_c 137 rfl) rf_c_137_3 ?_
    refine jv_iload dX8_sends_45 rfl ?_
    obtain ⟨b6, h⟩ := h
    refine jm_iaload dX8_sends_47 kd_c_140 (lt_c 140 rfl) b6 ?_
    refine jv_iload_n dX8_sends_48 rfl ?_
    refine jv_icmp_ne (t := 226) dX8_sends_49 rfl (fun c7 => ?_) (fun c7 => ?_)
    · replace h := h.1 c7
      refine jv_iinc (v := i5 + 1) (ls' := [some (.ref 137), some (.int a1), some (.int a2), some (.int a3), some (.int i4), some (.int (i5 + 1))]) dX8_sends_226 (Nat.le_of_ble_eq_true rfl) rfl (by rw [ci_iconst_1]) rfl ?_
      refine jv_goto (t := 32) dX8_sends_229 rfl ?_
      exact h
    · replace h := h.2 c7
      refine jv_aload_n dX8_sends_52 rfl ?_
      refine gf_8_19 rfl dX8_sends_53 kd_c_137 (lt_c 137 rfl) rf_c_137_4 ?_
      refine jv_iload dX8_sends_56 rfl ?_
      refine jm_iaload dX8_sends_58 kd_c_141 (lt_c 141 rfl) b6 ?_
      refine jv_if_eq (t := 226) dX8_sends_59 rfl (fun c9 => ?_) (fun c9 => ?_)
      · replace h := h.1 c9
        refine jv_iinc (v := i5 + 1) (ls' := [some (.ref 137), some (.int a1), some (.int a2), some (.int a3), some (.int i4), some (.int (i5 + 1))]) dX8_sends_226 (Nat.le_of_ble_eq_true rfl) rfl (by rw [ci_iconst_1]) rfl ?_
        refine jv_goto (t := 32) dX8_sends_229 rfl ?_
        exact h
      · replace h := h.2 c9
        refine jv_aload_n dX8_sends_62 rfl ?_
        refine jv_iload dX8_sends_63 rfl ?_
        refine jv_iload_n dX8_sends_65 rfl ?_
        refine jm_callVi [.int i5, .int a1] cw_8_133 dX8_sends_66 rfl (Nat.le_of_ble_eq_true rfl) kd_c_137 (r := (RX8, TX8, 48)) rfl rfl (lt_c 137 rfl) (Nat.le_of_ble_eq_true rfl) (p_X8_isEnd b6 ?_)
        refine jv_if_eq (t := 226) dX8_sends_69 rfl (fun c11 => ?_) (fun c11 => ?_)
        · replace h := h.1 c11
          refine jv_iinc (v := i5 + 1) (ls' := [some (.ref 137), some (.int a1), some (.int a2), some (.int a3), some (.int i4), some (.int (i5 + 1))]) dX8_sends_226 (Nat.le_of_ble_eq_true rfl) rfl (by rw [ci_iconst_1]) rfl ?_
          refine jv_goto (t := 32) dX8_sends_229 rfl ?_
          exact h
        · replace h := h.2 c11
          refine jv_aload_n dX8_sends_72 rfl ?_
          refine gf_8_34 rfl dX8_sends_73 kd_c_137 (lt_c 137 rfl) rf_c_137_9 ?_
          refine jv_iload dX8_sends_76 rfl ?_
          obtain ⟨b13, h⟩ := h
          refine jm_iaload dX8_sends_78 kd_c_146 (lt_c 146 rfl) b13 ?_
          refine jv_iload dX8_sends_79 rfl ?_
          refine jv_ishr dX8_sends_81 ?_
          refine jv_iconst dX8_sends_82 ci_iconst_1 ?_
          refine jv_iand dX8_sends_83 ?_
          refine jv_iconst dX8_sends_84 ci_iconst_1 ?_
          refine jv_icmp_ne (t := 91) dX8_sends_85 rfl (fun c14 => ?_) (fun c14 => ?_)
          · replace h := h.1 c14
            refine jv_aload_n dX8_sends_91 rfl ?_
            refine gf_8_45 rfl dX8_sends_92 kd_c_137 (lt_c 137 rfl) rf_c_137_15 ?_
            refine jv_aload_n dX8_sends_95 rfl ?_
            refine gf_8_225 rfl dX8_sends_96 kd_c_137 (lt_c 137 rfl) ?_
            refine jv_iload dX8_sends_99 rfl ?_
            obtain ⟨b15, h⟩ := h
            refine jm_iastore dX8_sends_101 kd_c_533 (lt_c 533 rfl) b15 ?_
            generalize hhu1 : jw u 533 (u 137 12).toNatClampNeg i5 = u1
            replace h := h u1 hhu1.symm
            refine jv_aload_n dX8_sends_102 rfl ?_
            refine gf_8_48 rfl dX8_sends_103 kd_c_137 (lt_c 137 rfl) rf_c_137_16 ?_
            refine jv_aload_n dX8_sends_106 rfl ?_
            refine gf_8_225 rfl dX8_sends_107 kd_c_137 (lt_c 137 rfl) ?_
            refine jv_aload_n dX8_sends_110 rfl ?_
            refine jv_iload dX8_sends_111 rfl ?_
            refine jv_iload_n dX8_sends_113 rfl ?_
            refine jm_callVi [.int i5, .int a1] cw_8_169 dX8_sends_114 rfl (Nat.le_of_ble_eq_true rfl) kd_c_137 (r := (RX8, TX8, 48)) rfl rfl (lt_c 137 rfl) (Nat.le_of_ble_eq_true rfl) (p_X8_otherEnd b6 ?_)
            obtain ⟨b16, h⟩ := h
            refine jm_iastore dX8_sends_117 kd_c_534 (lt_c 534 rfl) b16 ?_
            generalize hhu2 : jw u1 534 (u1 137 12).toNatClampNeg (if u1 138 i5.toNatClampNeg = a1 then u1 139 i5.toNatClampNeg else u1 138 i5.toNatClampNeg) = u2
            replace h := h u2 hhu2.symm
            refine jv_aload_n dX8_sends_118 rfl ?_
            refine gf_8_51 rfl dX8_sends_119 kd_c_137 (lt_c 137 rfl) rf_c_137_17 ?_
            refine jv_aload_n dX8_sends_122 rfl ?_
            refine gf_8_225 rfl dX8_sends_123 kd_c_137 (lt_c 137 rfl) ?_
            refine jv_iload_n dX8_sends_126 rfl ?_
            obtain ⟨b17, h⟩ := h
            refine jm_iastore dX8_sends_127 kd_c_535 (lt_c 535 rfl) b17 ?_
            generalize hhu3 : jw u2 535 (u2 137 12).toNatClampNeg a2 = u3
            replace h := h u3 hhu3.symm
            refine jv_aload_n dX8_sends_128 rfl ?_
            refine gf_8_54 rfl dX8_sends_129 kd_c_137 (lt_c 137 rfl) rf_c_137_18 ?_
            refine jv_aload_n dX8_sends_132 rfl ?_
            refine gf_8_225 rfl dX8_sends_133 kd_c_137 (lt_c 137 rfl) ?_
            refine jv_iload_n dX8_sends_136 rfl ?_
            obtain ⟨b18, h⟩ := h
            refine jm_iastore dX8_sends_137 kd_c_536 (lt_c 536 rfl) b18 ?_
            generalize hhu4 : jw u3 536 (u3 137 12).toNatClampNeg a3 = u4
            replace h := h u4 hhu4.symm
            refine jv_aload_n dX8_sends_138 rfl ?_
            refine gf_8_57 rfl dX8_sends_139 kd_c_137 (lt_c 137 rfl) rf_c_137_19 ?_
            refine jv_aload_n dX8_sends_142 rfl ?_
            refine gf_8_225 rfl dX8_sends_143 kd_c_137 (lt_c 137 rfl) ?_
            refine jv_aload_n dX8_sends_146 rfl ?_
            refine gf_8_25 rfl dX8_sends_147 kd_c_137 (lt_c 137 rfl) rf_c_137_6 ?_
            refine jv_iload dX8_sends_150 rfl ?_
            refine jm_iaload dX8_sends_152 kd_c_143 (lt_c 143 rfl) b13 ?_
            obtain ⟨b19, h⟩ := h
            refine jm_iastore dX8_sends_153 kd_c_537 (lt_c 537 rfl) b19 ?_
            generalize hhu5 : jw u4 537 (u4 137 12).toNatClampNeg (u4 143 i4.toNatClampNeg) = u5
            replace h := h u5 hhu5.symm
            refine jv_aload_n dX8_sends_154 rfl ?_
            refine gf_8_60 rfl dX8_sends_155 kd_c_137 (lt_c 137 rfl) rf_c_137_20 ?_
            refine jv_aload_n dX8_sends_158 rfl ?_
            refine gf_8_225 rfl dX8_sends_159 kd_c_137 (lt_c 137 rfl) ?_
            refine jv_aload_n dX8_sends_162 rfl ?_
            refine gf_8_28 rfl dX8_sends_163 kd_c_137 (lt_c 137 rfl) rf_c_137_7 ?_
            refine jv_iload dX8_sends_166 rfl ?_
            refine jm_iaload dX8_sends_168 kd_c_144 (lt_c 144 rfl) b13 ?_
            obtain ⟨b20, h⟩ := h
            refine jm_iastore dX8_sends_169 kd_c_538 (lt_c 538 rfl) b20 ?_
            generalize hhu6 : jw u5 538 (u5 137 12).toNatClampNeg (u5 144 i4.toNatClampNeg) = u6
            replace h := h u6 hhu6.symm
            refine jv_aload_n dX8_sends_170 rfl ?_
            refine gf_8_39 rfl dX8_sends_171 kd_c_137 (lt_c 137 rfl) rf_c_137_10 ?_
            refine jv_iload dX8_sends_174 rfl ?_
            refine jm_aaload1 dX8_sends_176 kd_c_147 (lt_c 147 rfl) b13 (rf_r_147 _) ?_
            refine jv_iconst dX8_sends_177 ci_iconst_0 ?_
            refine jv_aload_n dX8_sends_178 rfl ?_
            refine gf_8_63 rfl dX8_sends_179 kd_c_137 (lt_c 137 rfl) rf_c_137_21 ?_
            refine jv_aload_n dX8_sends_182 rfl ?_
            refine gf_8_225 rfl dX8_sends_183 kd_c_137 (lt_c 137 rfl) ?_
            obtain ⟨b21, h⟩ := h
            refine jm_aaload1 dX8_sends_186 kd_c_539 (lt_c 539 rfl) b21 (rf_r_539 _) ?_
            refine jv_iconst dX8_sends_187 ci_iconst_0 ?_
            refine jv_bipush dX8_sends_188 ci_bipush_12 ?_
            obtain ⟨b22, h⟩ := h
            refine jm_acopy ac_8_213 dX8_sends_190 (kd_r_147 (vp_lt b13)) (kd_r_539 (vp_lt b21)) (lt_r_147 (vp_lt b13)) (lt_r_539 (vp_lt b21)) rfl (Nat.le_of_ble_eq_true rfl) (Nat.le_of_ble_eq_true rfl) b22.1 b22.2.1 b22.2.2.1 b22.2.2.2.1 b22.2.2.2.2 ?_
            generalize hhu7 : jcp u6 (148 + i4.toNatClampNeg) (0 : Int32).toNatClampNeg (540 + (u6 137 12).toNatClampNeg) (0 : Int32).toNatClampNeg (12 : Int32).toNatClampNeg = u7
            replace h := h u7 hhu7.symm
            refine jv_aload_n dX8_sends_193 rfl ?_
            refine gf_8_42 rfl dX8_sends_194 kd_c_137 (lt_c 137 rfl) rf_c_137_11 ?_
            refine jv_iload dX8_sends_197 rfl ?_
            refine jm_aaload1 dX8_sends_199 kd_c_340 (lt_c 340 rfl) b13 (rf_r_340 _) ?_
            refine jv_iconst dX8_sends_200 ci_iconst_0 ?_
            refine jv_aload_n dX8_sends_201 rfl ?_
            refine gf_8_66 rfl dX8_sends_202 kd_c_137 (lt_c 137 rfl) rf_c_137_22 ?_
            refine jv_aload_n dX8_sends_205 rfl ?_
            refine gf_8_225 rfl dX8_sends_206 kd_c_137 (lt_c 137 rfl) ?_
            obtain ⟨b23, h⟩ := h
            refine jm_aaload1 dX8_sends_209 kd_c_940 (lt_c 940 rfl) b23 (rf_r_940 _) ?_
            refine jv_iconst dX8_sends_210 ci_iconst_0 ?_
            refine jv_bipush dX8_sends_211 ci_bipush_8 ?_
            obtain ⟨b24, h⟩ := h
            refine jm_acopy ac_8_213 dX8_sends_213 (kd_r_340 (vp_lt b13)) (kd_r_940 (vp_lt b23)) (lt_r_340 (vp_lt b13)) (lt_r_940 (vp_lt b23)) rfl (Nat.le_of_ble_eq_true rfl) (Nat.le_of_ble_eq_true rfl) b24.1 b24.2.1 b24.2.2.1 b24.2.2.2.1 b24.2.2.2.2 ?_
            generalize hhu8 : jcp u7 (341 + i4.toNatClampNeg) (0 : Int32).toNatClampNeg (941 + (u7 137 12).toNatClampNeg) (0 : Int32).toNatClampNeg (8 : Int32).toNatClampNeg = u8
            replace h := h u8 hhu8.symm
            refine jv_aload_n dX8_sends_216 rfl ?_
            refine jv_dup dX8_sends_217 rfl ?_
            refine gf_8_225 rfl dX8_sends_218 kd_c_137 (lt_c 137 rfl) ?_
            refine jv_iconst dX8_sends_221 ci_iconst_1 ?_
            refine jv_iadd dX8_sends_222 ?_
            refine pf_8_225 rfl dX8_sends_223 kd_c_137 (lt_c 137 rfl) ?_
            generalize hhu9 : jw u8 137 12 ((u8 137 12) + 1) = u9
            replace h := h u9 hhu9.symm
            refine jv_iinc (v := i5 + 1) (ls' := [some (.ref 137), some (.int a1), some (.int a2), some (.int a3), some (.int i4), some (.int (i5 + 1))]) dX8_sends_226 (Nat.le_of_ble_eq_true rfl) rfl (by rw [ci_iconst_1]) rfl ?_
            refine jv_goto (t := 32) dX8_sends_229 rfl ?_
            exact h
          · replace h := h.2 c14
            refine jv_goto (t := 226) dX8_sends_88 rfl ?_
            refine jv_iinc (v := i5 + 1) (ls' := [some (.ref 137), some (.int a1), some (.int a2), some (.int a3), some (.int i4), some (.int (i5 + 1))]) dX8_sends_226 (Nat.le_of_ble_eq_true rfl) rfl (by rw [ci_iconst_1]) rfl ?_
            refine jv_goto (t := 32) dX8_sends_229 rfl ?_
            exact h
theorem g_X8_goes_0 {E : JE} {u : JM} {K : Int32 → JM → Prop} 
    (h : JVi E 8 YX8_goes K 2 [some (.ref 137), some (.int 0), none, none] [] u)
    : JVi E 8 YX8_goes K 0 [some (.ref 137), none, none, none] [] u := by
  refine jv_iconst dX8_goes_0 ci_iconst_0 ?_
  refine jv_istore_n (ls' := [some (.ref 137), some (.int 0), none, none]) dX8_goes_1 (Nat.le_of_ble_eq_true rfl) rfl ?_
  exact h
theorem g_X8_goes_2 {E : JE} {u : JM} {K : Int32 → JM → Prop}  {i1 : Int32}
    (h : (((u 137 12) ≤ i1 → ∀ u1, u1 = jw u 137 12 0 →
  JCu E 2 YX8_grows [.ref 137] (fun u2 =>
  JVi E 8 YX8_goes K 32 [some (.ref 137), some (.int 0), none, none] [] u2) u1) ∧
 (¬ (u 137 12) ≤ i1 → JCu E 2 YX8_arrives [.ref 137, .int i1] (fun u3 =>
  JVi E 8 YX8_goes K 2 [some (.ref 137), some (.int (i1 + 1)), none, none] [] u3) u)))
    : JVi E 8 YX8_goes K 2 [some (.ref 137), some (.int i1), none, none] [] u := by
  refine jv_iload_n dX8_goes_2 rfl ?_
  refine jv_aload_n dX8_goes_3 rfl ?_
  refine gf_8_225 rfl dX8_goes_4 kd_c_137 (lt_c 137 rfl) ?_
  refine jv_icmp_ge (t := 21) dX8_goes_7 rfl (fun c1 => ?_) (fun c1 => ?_)
  · replace h := h.1 c1
    refine jv_aload_n dX8_goes_21 rfl ?_
    refine jv_iconst dX8_goes_22 ci_iconst_0 ?_
    refine pf_8_225 rfl dX8_goes_23 kd_c_137 (lt_c 137 rfl) ?_
    generalize hhu1 : jw u 137 12 0 = u1
    replace h := h u1 hhu1.symm
    refine jv_aload_n dX8_goes_26 rfl ?_
    refine jm_callVu [] cw_8_232 dX8_goes_27 rfl (Nat.le_of_ble_eq_true rfl) kd_c_137 (r := (RX8, TX8, 48)) rfl rfl (lt_c 137 rfl) (Nat.le_of_ble_eq_true rfl) (JCu.mono h (fun u2 h => ?_))
    refine jv_iconst dX8_goes_30 ci_iconst_0 ?_
    refine jv_istore_n (ls' := [some (.ref 137), some (.int 0), none, none]) dX8_goes_31 (Nat.le_of_ble_eq_true rfl) rfl ?_
    exact h
  · replace h := h.2 c1
    refine jv_aload_n dX8_goes_10 rfl ?_
    refine jv_iload_n dX8_goes_11 rfl ?_
    refine jm_callVu [.int i1] cw_8_228 dX8_goes_12 rfl (Nat.le_of_ble_eq_true rfl) kd_c_137 (r := (RX8, TX8, 48)) rfl rfl (lt_c 137 rfl) (Nat.le_of_ble_eq_true rfl) (JCu.mono h (fun u3 h => ?_))
    refine jv_iinc (v := i1 + 1) (ls' := [some (.ref 137), some (.int (i1 + 1)), none, none]) dX8_goes_15 (Nat.le_of_ble_eq_true rfl) rfl (by rw [ci_iconst_1]) rfl ?_
    refine jv_goto (t := 2) dX8_goes_18 rfl ?_
    exact h
theorem g_X8_goes_32 {E : JE} {u : JM} {K : Int32 → JM → Prop}  {i1 : Int32}
    (h : ((8 ≤ i1 → JVi E 8 YX8_goes K 65 [some (.ref 137), some (.int 0), none, none] [] u) ∧
 (¬ 8 ≤ i1 → JVi E 8 YX8_goes K 40 [some (.ref 137), some (.int i1), some (.int 0), none] [] u)))
    : JVi E 8 YX8_goes K 32 [some (.ref 137), some (.int i1), none, none] [] u := by
  refine jv_iload_n dX8_goes_32 rfl ?_
  refine jv_bipush dX8_goes_33 ci_bipush_8 ?_
  refine jv_icmp_ge (t := 63) dX8_goes_35 rfl (fun c1 => ?_) (fun c1 => ?_)
  · replace h := h.1 c1
    refine jv_iconst dX8_goes_63 ci_iconst_0 ?_
    refine jv_istore_n (ls' := [some (.ref 137), some (.int 0), none, none]) dX8_goes_64 (Nat.le_of_ble_eq_true rfl) rfl ?_
    exact h
  · replace h := h.2 c1
    refine jv_iconst dX8_goes_38 ci_iconst_0 ?_
    refine jv_istore_n (ls' := [some (.ref 137), some (.int i1), some (.int 0), none]) dX8_goes_39 (Nat.le_of_ble_eq_true rfl) rfl ?_
    exact h
theorem g_X8_goes_40 {E : JE} {u : JM} {K : Int32 → JM → Prop}  {i1 i2 : Int32}
    (h : ((3 ≤ i2 → JVi E 8 YX8_goes K 32 [some (.ref 137), some (.int (i1 + 1)), none, none] [] u) ∧
 (¬ 3 ≤ i2 → JCu E 7 YX8_tells [.ref 137, .int i1, .int i2] (fun u1 =>
  JVi E 8 YX8_goes K 40 [some (.ref 137), some (.int i1), some (.int (i2 + 1)), none] [] u1) u)))
    : JVi E 8 YX8_goes K 40 [some (.ref 137), some (.int i1), some (.int i2), none] [] u := by
  refine jv_iload_n dX8_goes_40 rfl ?_
  refine jv_iconst dX8_goes_41 ci_iconst_3 ?_
  refine jv_icmp_ge (t := 57) dX8_goes_42 rfl (fun c1 => ?_) (fun c1 => ?_)
  · replace h := h.1 c1
    refine jv_iinc (v := i1 + 1) (ls' := [some (.ref 137), some (.int (i1 + 1)), some (.int i2), none]) dX8_goes_57 (Nat.le_of_ble_eq_true rfl) rfl (by rw [ci_iconst_1]) rfl ?_
    refine jv_goto (t := 32) dX8_goes_60 rfl ?_
    exact jm_sub (ls' := [some (.ref 137), some (.int (i1 + 1)), none, none]) ⟨rfl, rfl, trivial⟩ h
  · replace h := h.2 c1
    refine jv_aload_n dX8_goes_45 rfl ?_
    refine jv_iload_n dX8_goes_46 rfl ?_
    refine jv_iload_n dX8_goes_47 rfl ?_
    refine jm_callVu [.int i1, .int i2] cw_8_235 dX8_goes_48 rfl (Nat.le_of_ble_eq_true rfl) kd_c_137 (r := (RX8, TX8, 48)) rfl rfl (lt_c 137 rfl) (Nat.le_of_ble_eq_true rfl) (JCu.mono h (fun u1 h => ?_))
    refine jv_iinc (v := i2 + 1) (ls' := [some (.ref 137), some (.int i1), some (.int (i2 + 1)), none]) dX8_goes_51 (Nat.le_of_ble_eq_true rfl) rfl (by rw [ci_iconst_1]) rfl ?_
    refine jv_goto (t := 40) dX8_goes_54 rfl ?_
    exact h
theorem g_X8_goes_65 {E : JE} {u : JM} {K : Int32 → JM → Prop}  {i1 : Int32}
    (h : ((8 ≤ i1 → JVi E 8 YX8_goes K 113 [some (.ref 137), some (.int 0), none, none] [] u) ∧
 (¬ 8 ≤ i1 → JVi E 8 YX8_goes K 73 [some (.ref 137), some (.int i1), some (.int 0), none] [] u)))
    : JVi E 8 YX8_goes K 65 [some (.ref 137), some (.int i1), none, none] [] u := by
  refine jv_iload_n dX8_goes_65 rfl ?_
  refine jv_bipush dX8_goes_66 ci_bipush_8 ?_
  refine jv_icmp_ge (t := 111) dX8_goes_68 rfl (fun c1 => ?_) (fun c1 => ?_)
  · replace h := h.1 c1
    refine jv_iconst dX8_goes_111 ci_iconst_0 ?_
    refine jv_istore_n (ls' := [some (.ref 137), some (.int 0), none, none]) dX8_goes_112 (Nat.le_of_ble_eq_true rfl) rfl ?_
    exact h
  · replace h := h.2 c1
    refine jv_iconst dX8_goes_71 ci_iconst_0 ?_
    refine jv_istore_n (ls' := [some (.ref 137), some (.int i1), some (.int 0), none]) dX8_goes_72 (Nat.le_of_ble_eq_true rfl) rfl ?_
    exact h
theorem g_X8_goes_73 {E : JE} {u : JM} {K : Int32 → JM → Prop}  {i1 i2 : Int32}
    (h : ((3 ≤ i2 → JVi E 8 YX8_goes K 65 [some (.ref 137), some (.int (i1 + 1)), none, none] [] u) ∧
 (¬ 3 ≤ i2 → JVi E 8 YX8_goes K 80 [some (.ref 137), some (.int i1), some (.int i2), some (.int 0)] [] u)))
    : JVi E 8 YX8_goes K 73 [some (.ref 137), some (.int i1), some (.int i2), none] [] u := by
  refine jv_iload_n dX8_goes_73 rfl ?_
  refine jv_iconst dX8_goes_74 ci_iconst_3 ?_
  refine jv_icmp_ge (t := 105) dX8_goes_75 rfl (fun c1 => ?_) (fun c1 => ?_)
  · replace h := h.1 c1
    refine jv_iinc (v := i1 + 1) (ls' := [some (.ref 137), some (.int (i1 + 1)), some (.int i2), none]) dX8_goes_105 (Nat.le_of_ble_eq_true rfl) rfl (by rw [ci_iconst_1]) rfl ?_
    refine jv_goto (t := 65) dX8_goes_108 rfl ?_
    exact jm_sub (ls' := [some (.ref 137), some (.int (i1 + 1)), none, none]) ⟨rfl, rfl, trivial⟩ h
  · replace h := h.2 c1
    refine jv_iconst dX8_goes_78 ci_iconst_0 ?_
    refine jv_istore_n (ls' := [some (.ref 137), some (.int i1), some (.int i2), some (.int 0)]) dX8_goes_79 (Nat.le_of_ble_eq_true rfl) rfl ?_
    exact h
theorem g_X8_goes_80 {E : JE} {u : JM} {K : Int32 → JM → Prop}  {i1 i2 i3 : Int32}
    (h : ((8 ≤ i3 → JVi E 8 YX8_goes K 73 [some (.ref 137), some (.int i1), some (.int (i2 + 1)), none] [] u) ∧
 (¬ 8 ≤ i3 → JCu E 2 YX8_sends [.ref 137, .int i1, .int i3, .int i2] (fun u1 =>
  JVi E 8 YX8_goes K 80 [some (.ref 137), some (.int i1), some (.int i2), some (.int (i3 + 1))] [] u1) u)))
    : JVi E 8 YX8_goes K 80 [some (.ref 137), some (.int i1), some (.int i2), some (.int i3)] [] u := by
  refine jv_iload_n dX8_goes_80 rfl ?_
  refine jv_bipush dX8_goes_81 ci_bipush_8 ?_
  refine jv_icmp_ge (t := 99) dX8_goes_83 rfl (fun c1 => ?_) (fun c1 => ?_)
  · replace h := h.1 c1
    refine jv_iinc (v := i2 + 1) (ls' := [some (.ref 137), some (.int i1), some (.int (i2 + 1)), some (.int i3)]) dX8_goes_99 (Nat.le_of_ble_eq_true rfl) rfl (by rw [ci_iconst_1]) rfl ?_
    refine jv_goto (t := 73) dX8_goes_102 rfl ?_
    exact jm_sub (ls' := [some (.ref 137), some (.int i1), some (.int (i2 + 1)), none]) ⟨rfl, rfl, rfl, trivial⟩ h
  · replace h := h.2 c1
    refine jv_aload_n dX8_goes_86 rfl ?_
    refine jv_iload_n dX8_goes_87 rfl ?_
    refine jv_iload_n dX8_goes_88 rfl ?_
    refine jv_iload_n dX8_goes_89 rfl ?_
    refine jm_callVu [.int i1, .int i3, .int i2] cw_8_238 dX8_goes_90 rfl (Nat.le_of_ble_eq_true rfl) kd_c_137 (r := (RX8, TX8, 48)) rfl rfl (lt_c 137 rfl) (Nat.le_of_ble_eq_true rfl) (JCu.mono h (fun u1 h => ?_))
    refine jv_iinc (v := i3 + 1) (ls' := [some (.ref 137), some (.int i1), some (.int i2), some (.int (i3 + 1))]) dX8_goes_93 (Nat.le_of_ble_eq_true rfl) rfl (by rw [ci_iconst_1]) rfl ?_
    refine jv_goto (t := 80) dX8_goes_96 rfl ?_
    exact h
theorem g_X8_goes_113 {E : JE} {u : JM} {K : Int32 → JM → Prop}  {i1 : Int32}
    (h : ((192 ≤ i1 → ∀ u1, u1 = jw u 137 13 ((u 137 13) + 1) →
  ∀ u2, u2 = jw u1 137 14 ((u1 137 14) + (u1 137 12)) →
  K (u2 137 12) u2) ∧
 (¬ 192 ≤ i1 → vp_in i1 192 ∧
  ∀ u3, u3 = jw u 145 i1.toNatClampNeg 0 →
  JVi E 8 YX8_goes K 113 [some (.ref 137), some (.int (i1 + 1)), none, none] [] u3)))
    : JVi E 8 YX8_goes K 113 [some (.ref 137), some (.int i1), none, none] [] u := by
  refine jv_iload_n dX8_goes_113 rfl ?_
  refine jv_sipush dX8_goes_114 ci_sipush_192 ?_
  refine jv_icmp_ge (t := 133) dX8_goes_117 rfl (fun c1 => ?_) (fun c1 => ?_)
  · replace h := h.1 c1
    refine jv_aload_n dX8_goes_133 rfl ?_
    refine jv_dup dX8_goes_134 rfl ?_
    refine gf_8_241 rfl dX8_goes_135 kd_c_137 (lt_c 137 rfl) ?_
    refine jv_iconst dX8_goes_138 ci_iconst_1 ?_
    refine jv_iadd dX8_goes_139 ?_
    refine pf_8_241 rfl dX8_goes_140 kd_c_137 (lt_c 137 rfl) ?_
    generalize hhu1 : jw u 137 13 ((u 137 13) + 1) = u1
    replace h := h u1 hhu1.symm
    refine jv_aload_n dX8_goes_143 rfl ?_
    refine jv_dup dX8_goes_144 rfl ?_
    refine gf_8_244 rfl dX8_goes_145 kd_c_137 (lt_c 137 rfl) ?_
    refine jv_aload_n dX8_goes_148 rfl ?_
    refine gf_8_225 rfl dX8_goes_149 kd_c_137 (lt_c 137 rfl) ?_
    refine jv_iadd dX8_goes_152 ?_
    refine pf_8_244 rfl dX8_goes_153 kd_c_137 (lt_c 137 rfl) ?_
    generalize hhu2 : jw u1 137 14 ((u1 137 14) + (u1 137 12)) = u2
    replace h := h u2 hhu2.symm
    refine jv_aload_n dX8_goes_156 rfl ?_
    refine gf_8_225 rfl dX8_goes_157 kd_c_137 (lt_c 137 rfl) ?_
    exact jm_ireturn dX8_goes_160 rfl h
  · replace h := h.2 c1
    refine jv_aload_n dX8_goes_120 rfl ?_
    refine gf_8_31 rfl dX8_goes_121 kd_c_137 (lt_c 137 rfl) rf_c_137_8 ?_
    refine jv_iload_n dX8_goes_124 rfl ?_
    refine jv_iconst dX8_goes_125 ci_iconst_0 ?_
    obtain ⟨b2, h⟩ := h
    refine jm_iastore dX8_goes_126 kd_c_145 (lt_c 145 rfl) b2 ?_
    generalize hhu3 : jw u 145 i1.toNatClampNeg 0 = u3
    replace h := h u3 hhu3.symm
    refine jv_iinc (v := i1 + 1) (ls' := [some (.ref 137), some (.int (i1 + 1)), none, none]) dX8_goes_127 (Nat.le_of_ble_eq_true rfl) rfl (by rw [ci_iconst_1]) rfl ?_
    refine jv_goto (t := 113) dX8_goes_130 rfl ?_
    exact h
theorem g_X8_tick_0 {E : JE} {u : JM} {K : Int32 → JM → Prop} 
    (h : JCi E 8 YX8_goes [.ref 137] (fun x1 u1 =>
 K x1 u1) u)
    : JVi E 9 YX8_tick K 0 [some (.ref 137)] [] u := by
  refine jv_aload_n dX8_tick_0 rfl ?_
  refine jm_callVi [] cw_8_247 dX8_tick_1 rfl (Nat.le_of_ble_eq_true rfl) kd_c_137 (r := (RX8, TX8, 48)) rfl rfl (lt_c 137 rfl) (Nat.le_of_ble_eq_true rfl) (JCi.mono h (fun x1 u1 h => ?_))
  exact jm_ireturn dX8_tick_4 rfl h
theorem g_X8_ticks_0 {E : JE} {u : JM} {K : Int32 → JM → Prop}  {a1 : Int32}
    (h : ((¬ (jb (rg a1 (0 : Int32).toInt (80 : Int32).toInt)) = 0 → JVi E 9 YX8_ticks K 17 [some (.ref 137), some (.int a1), some (.int 0), some (.int 0)] [] u) ∧
 ((jb (rg a1 (0 : Int32).toInt (80 : Int32).toInt)) = 0 → K (-2) u)))
    : JVi E 9 YX8_ticks K 0 [some (.ref 137), some (.int a1), none, none] [] u := by
  refine jv_iload_n dX8_ticks_0 rfl ?_
  refine jv_iconst dX8_ticks_1 ci_iconst_0 ?_
  refine jv_bipush dX8_ticks_2 ci_bipush_80 ?_
  refine jm_callSi [.int a1, .int 0, .int 80] cw_8_125 dX8_ticks_4 rfl (Nat.le_of_ble_eq_true rfl) (Nat.le_of_ble_eq_true rfl) (p_X8_in  ?_)
  refine jv_if_ne (t := 13) dX8_ticks_7 rfl (fun c1 => ?_) (fun c1 => ?_)
  · replace h := h.1 c1
    refine jv_iconst dX8_ticks_13 ci_iconst_0 ?_
    refine jv_istore_n (ls' := [some (.ref 137), some (.int a1), some (.int 0), none]) dX8_ticks_14 (Nat.le_of_ble_eq_true rfl) rfl ?_
    refine jv_iconst dX8_ticks_15 ci_iconst_0 ?_
    refine jv_istore_n (ls' := [some (.ref 137), some (.int a1), some (.int 0), some (.int 0)]) dX8_ticks_16 (Nat.le_of_ble_eq_true rfl) rfl ?_
    exact h
  · replace h := h.2 c1
    refine jv_bipush dX8_ticks_10 ci_bipush_m2 ?_
    exact jm_ireturn dX8_ticks_12 rfl h
theorem g_X8_ticks_17 {E : JE} {u : JM} {K : Int32 → JM → Prop}  {a1 i2 i3 : Int32}
    (h : ((a1 ≤ i3 → K i2 u) ∧
 (¬ a1 ≤ i3 → JCi E 8 YX8_goes [.ref 137] (fun x1 u1 =>
  JVi E 9 YX8_ticks K 17 [some (.ref 137), some (.int a1), some (.int (i2 + x1)), some (.int (i3 + 1))] [] u1) u)))
    : JVi E 9 YX8_ticks K 17 [some (.ref 137), some (.int a1), some (.int i2), some (.int i3)] [] u := by
  refine jv_iload_n dX8_ticks_17 rfl ?_
  refine jv_iload_n dX8_ticks_18 rfl ?_
  refine jv_icmp_ge (t := 35) dX8_ticks_19 rfl (fun c1 => ?_) (fun c1 => ?_)
  · replace h := h.1 c1
    refine jv_iload_n dX8_ticks_35 rfl ?_
    exact jm_ireturn dX8_ticks_36 rfl h
  · replace h := h.2 c1
    refine jv_iload_n dX8_ticks_22 rfl ?_
    refine jv_aload_n dX8_ticks_23 rfl ?_
    refine jm_callVi [] cw_8_247 dX8_ticks_24 rfl (Nat.le_of_ble_eq_true rfl) kd_c_137 (r := (RX8, TX8, 48)) rfl rfl (lt_c 137 rfl) (Nat.le_of_ble_eq_true rfl) (JCi.mono h (fun x1 u1 h => ?_))
    refine jv_iadd dX8_ticks_27 ?_
    refine jv_istore_n (ls' := [some (.ref 137), some (.int a1), some (.int (i2 + x1)), some (.int i3)]) dX8_ticks_28 (Nat.le_of_ble_eq_true rfl) rfl ?_
    refine jv_iinc (v := i3 + 1) (ls' := [some (.ref 137), some (.int a1), some (.int (i2 + x1)), some (.int (i3 + 1))]) dX8_ticks_29 (Nat.le_of_ble_eq_true rfl) rfl (by rw [ci_iconst_1]) rfl ?_
    refine jv_goto (t := 17) dX8_ticks_32 rfl ?_
    exact h
theorem g_X8_linksTold_0 {E : JE} {u : JM} {K : Int32 → JM → Prop}  {a1 : Int32}
    (h : JVi E 1 YX8_linksTold K 4 [some (.ref 137), some (.int a1), some (.int 0), some (.int 0)] [] u)
    : JVi E 1 YX8_linksTold K 0 [some (.ref 137), some (.int a1), none, none] [] u := by
  refine jv_iconst dX8_linksTold_0 ci_iconst_0 ?_
  refine jv_istore_n (ls' := [some (.ref 137), some (.int a1), some (.int 0), none]) dX8_linksTold_1 (Nat.le_of_ble_eq_true rfl) rfl ?_
  refine jv_iconst dX8_linksTold_2 ci_iconst_0 ?_
  refine jv_istore_n (ls' := [some (.ref 137), some (.int a1), some (.int 0), some (.int 0)]) dX8_linksTold_3 (Nat.le_of_ble_eq_true rfl) rfl ?_
  exact h
theorem g_X8_linksTold_4 {E : JE} {u : JM} {K : Int32 → JM → Prop}  {a1 i2 i3 : Int32}
    (h : ((12 ≤ i3 → K i2 u) ∧
 (¬ 12 ≤ i3 → vp_in a1 192 ∧
  vp_in i3 12 ∧
  ∀ i2_1 : Int32, i2_1 = (if (u (148 + a1.toNatClampNeg) i3.toNatClampNeg) ≤ 0 then i2 else (i2 ||| ((1 : Int32) <<< (i3 &&& 31)))) →
  JVi E 1 YX8_linksTold K 4 [some (.ref 137), some (.int a1), some (.int i2_1), some (.int (i3 + 1))] [] u)))
    : JVi E 1 YX8_linksTold K 4 [some (.ref 137), some (.int a1), some (.int i2), some (.int i3)] [] u := by
  refine jv_iload_n dX8_linksTold_4 rfl ?_
  refine jv_bipush dX8_linksTold_5 ci_bipush_12 ?_
  refine jv_icmp_ge (t := 33) dX8_linksTold_7 rfl (fun c1 => ?_) (fun c1 => ?_)
  · replace h := h.1 c1
    refine jv_iload_n dX8_linksTold_33 rfl ?_
    exact jm_ireturn dX8_linksTold_34 rfl h
  · replace h := h.2 c1
    refine jv_aload_n dX8_linksTold_10 rfl ?_
    refine gf_8_39 rfl dX8_linksTold_11 kd_c_137 (lt_c 137 rfl) rf_c_137_10 ?_
    refine jv_iload_n dX8_linksTold_14 rfl ?_
    obtain ⟨b4, h⟩ := h
    refine jm_aaload1 dX8_linksTold_15 kd_c_147 (lt_c 147 rfl) b4 (rf_r_147 _) ?_
    refine jv_iload_n dX8_linksTold_16 rfl ?_
    obtain ⟨b5, h⟩ := h
    refine jm_iaload dX8_linksTold_17 (kd_r_147 (vp_lt b4)) (lt_r_147 (vp_lt b4)) b5 ?_
    have key7 : ∀ i2_1 : Int32, i2_1 = (if (u (148 + a1.toNatClampNeg) i3.toNatClampNeg) ≤ 0 then i2 else (i2 ||| ((1 : Int32) <<< (i3 &&& 31)))) → JVi E 1 YX8_linksTold K 27 [some (.ref 137), some (.int a1), some (.int i2_1), some (.int i3)] [] u := by
      intro i2_1 hi2_1
      replace h := h i2_1 hi2_1
      refine jv_iinc (v := i3 + 1) (ls' := [some (.ref 137), some (.int a1), some (.int i2_1), some (.int (i3 + 1))]) dX8_linksTold_27 (Nat.le_of_ble_eq_true rfl) rfl (by rw [ci_iconst_1]) rfl ?_
      refine jv_goto (t := 4) dX8_linksTold_30 rfl ?_
      exact h
    clear h
    refine jv_if_le (t := 27) dX8_linksTold_18 rfl (fun c8 => ?_) (fun c8 => ?_)
    · exact key7 _ (Eq.trans rfl (if_pos c8).symm)
    · refine jv_iload_n dX8_linksTold_21 rfl ?_
      refine jv_iconst dX8_linksTold_22 ci_iconst_1 ?_
      refine jv_iload_n dX8_linksTold_23 rfl ?_
      refine jv_ishl dX8_linksTold_24 ?_
      refine jv_ior dX8_linksTold_25 ?_
      refine jv_istore_n (ls' := [some (.ref 137), some (.int a1), some (.int (i2 ||| ((1 : Int32) <<< (i3 &&& 31)))), some (.int i3)]) dX8_linksTold_26 (Nat.le_of_ble_eq_true rfl) rfl ?_
      exact key7 _ (Eq.trans rfl (if_neg c8).symm)
theorem g_X8_advert_0 {E : JE} {u : JM} {K : Int32 → JM → Prop}  {a1 a2 a3 a4 : Int32}
    (h : JCi E 2 YX8_isRouter [.int a1] (fun x1 u1 =>
 ((x1 = 0 → K (-2) u1) ∧
  (¬ x1 = 0 → JCi E 2 YX8_isRouter [.int a2] (fun x2 u2 =>
   ((x2 = 0 → K (-2) u2) ∧
    (¬ x2 = 0 → JCi E 2 YX8_isArea [.int a3] (fun x3 u3 =>
     ((x3 = 0 → K (-2) u3) ∧
      (¬ x3 = 0 → ((¬ (jb (rg a4 (0 : Int32).toInt (2 : Int32).toInt)) = 0 → ∀ i5_4 : Int32, i5_4 = (a1 * 8 + a2) * 3 + a3 →
        vp_in i5_4 192 ∧
        ((¬ (u3 143 i5_4.toNatClampNeg) = 0 → ((2 ≤ a4 → ((¬ a4 = 2 → ((a4 < 30 → vp_in (a4 - 10) 12 ∧
            (((u3 (148 + i5_4.toNatClampNeg) (a4 - 10).toNatClampNeg) ≤ 0 → K (-1) u3) ∧
            (¬ (u3 (148 + i5_4.toNatClampNeg) (a4 - 10).toNatClampNeg) ≤ 0 → K (u3 (148 + i5_4.toNatClampNeg) (a4 - 10).toNatClampNeg) u3))) ∧
           (¬ a4 < 30 → vp_in (a4 - 30) 8 ∧
            K (u3 (341 + i5_4.toNatClampNeg) (a4 - 30).toNatClampNeg) u3))) ∧
          (a4 = 2 → JCi E 1 YX8_linksTold [.ref 137, .int i5_4] (fun x5 u5 =>
           K x5 u5) u3))) ∧
         (¬ 2 ≤ a4 → ((¬ a4 = 0 → K (u3 144 i5_4.toNatClampNeg) u3) ∧
          (a4 = 0 → K (u3 143 i5_4.toNatClampNeg) u3))))) ∧
        ((u3 143 i5_4.toNatClampNeg) = 0 → K (-3) u3))) ∧
       ((jb (rg a4 (0 : Int32).toInt (2 : Int32).toInt)) = 0 → ((¬ (jb (rg a4 (10 : Int32).toInt (21 : Int32).toInt)) = 0 → ∀ i5_6 : Int32, i5_6 = (a1 * 8 + a2) * 3 + a3 →
         vp_in i5_6 192 ∧
         ((¬ (u3 143 i5_6.toNatClampNeg) = 0 → ((2 ≤ a4 → ((¬ a4 = 2 → ((a4 < 30 → vp_in (a4 - 10) 12 ∧
             (((u3 (148 + i5_6.toNatClampNeg) (a4 - 10).toNatClampNeg) ≤ 0 → K (-1) u3) ∧
             (¬ (u3 (148 + i5_6.toNatClampNeg) (a4 - 10).toNatClampNeg) ≤ 0 → K (u3 (148 + i5_6.toNatClampNeg) (a4 - 10).toNatClampNeg) u3))) ∧
            (¬ a4 < 30 → vp_in (a4 - 30) 8 ∧
             K (u3 (341 + i5_6.toNatClampNeg) (a4 - 30).toNatClampNeg) u3))) ∧
           (a4 = 2 → JCi E 1 YX8_linksTold [.ref 137, .int i5_6] (fun x7 u7 =>
            K x7 u7) u3))) ∧
          (¬ 2 ≤ a4 → ((¬ a4 = 0 → K (u3 144 i5_6.toNatClampNeg) u3) ∧
           (a4 = 0 → K (u3 143 i5_6.toNatClampNeg) u3))))) ∧
         ((u3 143 i5_6.toNatClampNeg) = 0 → K (-3) u3))) ∧
        ((jb (rg a4 (10 : Int32).toInt (21 : Int32).toInt)) = 0 → ((¬ (jb (rg a4 (30 : Int32).toInt (37 : Int32).toInt)) = 0 → ∀ i5_8 : Int32, i5_8 = (a1 * 8 + a2) * 3 + a3 →
          vp_in i5_8 192 ∧
          ((¬ (u3 143 i5_8.toNatClampNeg) = 0 → ((2 ≤ a4 → ((¬ a4 = 2 → ((a4 < 30 → vp_in (a4 - 10) 12 ∧
              (((u3 (148 + i5_8.toNatClampNeg) (a4 - 10).toNatClampNeg) ≤ 0 → K (-1) u3) ∧
              (¬ (u3 (148 + i5_8.toNatClampNeg) (a4 - 10).toNatClampNeg) ≤ 0 → K (u3 (148 + i5_8.toNatClampNeg) (a4 - 10).toNatClampNeg) u3))) ∧
             (¬ a4 < 30 → vp_in (a4 - 30) 8 ∧
              K (u3 (341 + i5_8.toNatClampNeg) (a4 - 30).toNatClampNeg) u3))) ∧
            (a4 = 2 → JCi E 1 YX8_linksTold [.ref 137, .int i5_8] (fun x9 u9 =>
             K x9 u9) u3))) ∧
           (¬ 2 ≤ a4 → ((¬ a4 = 0 → K (u3 144 i5_8.toNatClampNeg) u3) ∧
            (a4 = 0 → K (u3 143 i5_8.toNatClampNeg) u3))))) ∧
          ((u3 143 i5_8.toNatClampNeg) = 0 → K (-3) u3))) ∧
         ((jb (rg a4 (30 : Int32).toInt (37 : Int32).toInt)) = 0 → K (-2) u3))))))))) u2))) u1))) u)
    : JVi E 3 YX8_advert K 0 [some (.ref 137), some (.int a1), some (.int a2), some (.int a3), some (.int a4), none] [] u := by
  refine jv_iload_n dX8_advert_0 rfl ?_
  refine jm_callSi [.int a1] cw_8_141 dX8_advert_1 rfl (Nat.le_of_ble_eq_true rfl) (Nat.le_of_ble_eq_true rfl) (JCi.mono h (fun x1 u1 h => ?_))
  refine jv_if_eq (t := 55) dX8_advert_4 rfl (fun c1 => ?_) (fun c1 => ?_)
  · replace h := h.1 c1
    refine jv_bipush dX8_advert_55 ci_bipush_m2 ?_
    exact jm_ireturn dX8_advert_57 rfl h
  · replace h := h.2 c1
    refine jv_iload_n dX8_advert_7 rfl ?_
    refine jm_callSi [.int a2] cw_8_141 dX8_advert_8 rfl (Nat.le_of_ble_eq_true rfl) (Nat.le_of_ble_eq_true rfl) (JCi.mono h (fun x2 u2 h => ?_))
    refine jv_if_eq (t := 55) dX8_advert_11 rfl (fun c2 => ?_) (fun c2 => ?_)
    · replace h := h.1 c2
      refine jv_bipush dX8_advert_55 ci_bipush_m2 ?_
      exact jm_ireturn dX8_advert_57 rfl h
    · replace h := h.2 c2
      refine jv_iload_n dX8_advert_14 rfl ?_
      refine jm_callSi [.int a3] cw_8_145 dX8_advert_15 rfl (Nat.le_of_ble_eq_true rfl) (Nat.le_of_ble_eq_true rfl) (JCi.mono h (fun x3 u3 h => ?_))
      refine jv_if_eq (t := 55) dX8_advert_18 rfl (fun c3 => ?_) (fun c3 => ?_)
      · replace h := h.1 c3
        refine jv_bipush dX8_advert_55 ci_bipush_m2 ?_
        exact jm_ireturn dX8_advert_57 rfl h
      · replace h := h.2 c3
        refine jv_iload dX8_advert_21 rfl ?_
        refine jv_iconst dX8_advert_23 ci_iconst_0 ?_
        refine jv_iconst dX8_advert_24 ci_iconst_2 ?_
        refine jm_callSi [.int a4, .int 0, .int 2] cw_8_125 dX8_advert_25 rfl (Nat.le_of_ble_eq_true rfl) (Nat.le_of_ble_eq_true rfl) (p_X8_in  ?_)
        refine jv_if_ne (t := 58) dX8_advert_28 rfl (fun c4 => ?_) (fun c4 => ?_)
        · replace h := h.1 c4
          refine jv_iload_n dX8_advert_58 rfl ?_
          refine jv_iload_n dX8_advert_59 rfl ?_
          refine jv_iload_n dX8_advert_60 rfl ?_
          refine jm_callSi [.int a1, .int a2, .int a3] cw_8_155 dX8_advert_61 rfl (Nat.le_of_ble_eq_true rfl) (Nat.le_of_ble_eq_true rfl) (p_X8_place  ?_)
          generalize hhi5_4 : (a1 * 8 + a2) * 3 + a3 = i5_4
          replace h := h i5_4 hhi5_4.symm
          refine jv_istore (ls' := [some (.ref 137), some (.int a1), some (.int a2), some (.int a3), some (.int a4), some (.int i5_4)]) dX8_advert_64 (Nat.le_of_ble_eq_true rfl) rfl ?_
          refine jv_aload_n dX8_advert_66 rfl ?_
          refine gf_8_25 rfl dX8_advert_67 kd_c_137 (lt_c 137 rfl) rf_c_137_6 ?_
          refine jv_iload dX8_advert_70 rfl ?_
          obtain ⟨b5, h⟩ := h
          refine jm_iaload dX8_advert_72 kd_c_143 (lt_c 143 rfl) b5 ?_
          refine jv_if_ne (t := 79) dX8_advert_73 rfl (fun c6 => ?_) (fun c6 => ?_)
          · replace h := h.1 c6
            refine jv_iload dX8_advert_79 rfl ?_
            refine jv_iconst dX8_advert_81 ci_iconst_2 ?_
            refine jv_icmp_ge (t := 108) dX8_advert_82 rfl (fun c7 => ?_) (fun c7 => ?_)
            · replace h := h.1 c7
              refine jv_iload dX8_advert_108 rfl ?_
              refine jv_iconst dX8_advert_110 ci_iconst_2 ?_
              refine jv_icmp_ne (t := 121) dX8_advert_111 rfl (fun c8 => ?_) (fun c8 => ?_)
              · replace h := h.1 c8
                refine jv_iload dX8_advert_121 rfl ?_
                refine jv_bipush dX8_advert_123 ci_bipush_30 ?_
                refine jv_icmp_lt (t := 142) dX8_advert_125 rfl (fun c9 => ?_) (fun c9 => ?_)
                · replace h := h.1 c9
                  refine jv_aload_n dX8_advert_142 rfl ?_
                  refine gf_8_39 rfl dX8_advert_143 kd_c_137 (lt_c 137 rfl) rf_c_137_10 ?_
                  refine jv_iload dX8_advert_146 rfl ?_
                  refine jm_aaload1 dX8_advert_148 kd_c_147 (lt_c 147 rfl) b5 (rf_r_147 _) ?_
                  refine jv_iload dX8_advert_149 rfl ?_
                  refine jv_bipush dX8_advert_151 ci_bipush_10 ?_
                  refine jv_isub dX8_advert_153 ?_
                  obtain ⟨b10, h⟩ := h
                  refine jm_iaload dX8_advert_154 (kd_r_147 (vp_lt b5)) (lt_r_147 (vp_lt b5)) b10 ?_
                  refine jv_if_le (t := 174) dX8_advert_155 rfl (fun c11 => ?_) (fun c11 => ?_)
                  · replace h := h.1 c11
                    refine jv_iconst dX8_advert_174 ci_iconst_m1 ?_
                    exact jm_ireturn dX8_advert_175 rfl h
                  · replace h := h.2 c11
                    refine jv_aload_n dX8_advert_158 rfl ?_
                    refine gf_8_39 rfl dX8_advert_159 kd_c_137 (lt_c 137 rfl) rf_c_137_10 ?_
                    refine jv_iload dX8_advert_162 rfl ?_
                    refine jm_aaload1 dX8_advert_164 kd_c_147 (lt_c 147 rfl) b5 (rf_r_147 _) ?_
                    refine jv_iload dX8_advert_165 rfl ?_
                    refine jv_bipush dX8_advert_167 ci_bipush_10 ?_
                    refine jv_isub dX8_advert_169 ?_
                    refine jm_iaload dX8_advert_170 (kd_r_147 (vp_lt b5)) (lt_r_147 (vp_lt b5)) b10 ?_
                    refine jv_goto (t := 175) dX8_advert_171 rfl ?_
                    exact jm_ireturn dX8_advert_175 rfl h
                · replace h := h.2 c9
                  refine jv_aload_n dX8_advert_128 rfl ?_
                  refine gf_8_42 rfl dX8_advert_129 kd_c_137 (lt_c 137 rfl) rf_c_137_11 ?_
                  refine jv_iload dX8_advert_132 rfl ?_
                  refine jm_aaload1 dX8_advert_134 kd_c_340 (lt_c 340 rfl) b5 (rf_r_340 _) ?_
                  refine jv_iload dX8_advert_135 rfl ?_
                  refine jv_bipush dX8_advert_137 ci_bipush_30 ?_
                  refine jv_isub dX8_advert_139 ?_
                  obtain ⟨b12, h⟩ := h
                  refine jm_iaload dX8_advert_140 (kd_r_340 (vp_lt b5)) (lt_r_340 (vp_lt b5)) b12 ?_
                  exact jm_ireturn dX8_advert_141 rfl h
              · replace h := h.2 c8
                refine jv_aload_n dX8_advert_114 rfl ?_
                refine jv_iload dX8_advert_115 rfl ?_
                refine jm_callVi [.int i5_4] cw_8_251 dX8_advert_117 rfl (Nat.le_of_ble_eq_true rfl) kd_c_137 (r := (RX8, TX8, 48)) rfl rfl (lt_c 137 rfl) (Nat.le_of_ble_eq_true rfl) (JCi.mono h (fun x5 u5 h => ?_))
                exact jm_ireturn dX8_advert_120 rfl h
            · replace h := h.2 c7
              refine jv_iload dX8_advert_85 rfl ?_
              refine jv_if_ne (t := 100) dX8_advert_87 rfl (fun c13 => ?_) (fun c13 => ?_)
              · replace h := h.1 c13
                refine jv_aload_n dX8_advert_100 rfl ?_
                refine gf_8_28 rfl dX8_advert_101 kd_c_137 (lt_c 137 rfl) rf_c_137_7 ?_
                refine jv_iload dX8_advert_104 rfl ?_
                refine jm_iaload dX8_advert_106 kd_c_144 (lt_c 144 rfl) b5 ?_
                exact jm_ireturn dX8_advert_107 rfl h
              · replace h := h.2 c13
                refine jv_aload_n dX8_advert_90 rfl ?_
                refine gf_8_25 rfl dX8_advert_91 kd_c_137 (lt_c 137 rfl) rf_c_137_6 ?_
                refine jv_iload dX8_advert_94 rfl ?_
                refine jm_iaload dX8_advert_96 kd_c_143 (lt_c 143 rfl) b5 ?_
                refine jv_goto (t := 107) dX8_advert_97 rfl ?_
                exact jm_ireturn dX8_advert_107 rfl h
          · replace h := h.2 c6
            refine jv_bipush dX8_advert_76 ci_bipush_m3 ?_
            exact jm_ireturn dX8_advert_78 rfl h
        · replace h := h.2 c4
          refine jv_iload dX8_advert_31 rfl ?_
          refine jv_bipush dX8_advert_33 ci_bipush_10 ?_
          refine jv_bipush dX8_advert_35 ci_bipush_21 ?_
          refine jm_callSi [.int a4, .int 10, .int 21] cw_8_125 dX8_advert_37 rfl (Nat.le_of_ble_eq_true rfl) (Nat.le_of_ble_eq_true rfl) (p_X8_in  ?_)
          refine jv_if_ne (t := 58) dX8_advert_40 rfl (fun c14 => ?_) (fun c14 => ?_)
          · replace h := h.1 c14
            refine jv_iload_n dX8_advert_58 rfl ?_
            refine jv_iload_n dX8_advert_59 rfl ?_
            refine jv_iload_n dX8_advert_60 rfl ?_
            refine jm_callSi [.int a1, .int a2, .int a3] cw_8_155 dX8_advert_61 rfl (Nat.le_of_ble_eq_true rfl) (Nat.le_of_ble_eq_true rfl) (p_X8_place  ?_)
            generalize hhi5_6 : (a1 * 8 + a2) * 3 + a3 = i5_6
            replace h := h i5_6 hhi5_6.symm
            refine jv_istore (ls' := [some (.ref 137), some (.int a1), some (.int a2), some (.int a3), some (.int a4), some (.int i5_6)]) dX8_advert_64 (Nat.le_of_ble_eq_true rfl) rfl ?_
            refine jv_aload_n dX8_advert_66 rfl ?_
            refine gf_8_25 rfl dX8_advert_67 kd_c_137 (lt_c 137 rfl) rf_c_137_6 ?_
            refine jv_iload dX8_advert_70 rfl ?_
            obtain ⟨b15, h⟩ := h
            refine jm_iaload dX8_advert_72 kd_c_143 (lt_c 143 rfl) b15 ?_
            refine jv_if_ne (t := 79) dX8_advert_73 rfl (fun c16 => ?_) (fun c16 => ?_)
            · replace h := h.1 c16
              refine jv_iload dX8_advert_79 rfl ?_
              refine jv_iconst dX8_advert_81 ci_iconst_2 ?_
              refine jv_icmp_ge (t := 108) dX8_advert_82 rfl (fun c17 => ?_) (fun c17 => ?_)
              · replace h := h.1 c17
                refine jv_iload dX8_advert_108 rfl ?_
                refine jv_iconst dX8_advert_110 ci_iconst_2 ?_
                refine jv_icmp_ne (t := 121) dX8_advert_111 rfl (fun c18 => ?_) (fun c18 => ?_)
                · replace h := h.1 c18
                  refine jv_iload dX8_advert_121 rfl ?_
                  refine jv_bipush dX8_advert_123 ci_bipush_30 ?_
                  refine jv_icmp_lt (t := 142) dX8_advert_125 rfl (fun c19 => ?_) (fun c19 => ?_)
                  · replace h := h.1 c19
                    refine jv_aload_n dX8_advert_142 rfl ?_
                    refine gf_8_39 rfl dX8_advert_143 kd_c_137 (lt_c 137 rfl) rf_c_137_10 ?_
                    refine jv_iload dX8_advert_146 rfl ?_
                    refine jm_aaload1 dX8_advert_148 kd_c_147 (lt_c 147 rfl) b15 (rf_r_147 _) ?_
                    refine jv_iload dX8_advert_149 rfl ?_
                    refine jv_bipush dX8_advert_151 ci_bipush_10 ?_
                    refine jv_isub dX8_advert_153 ?_
                    obtain ⟨b20, h⟩ := h
                    refine jm_iaload dX8_advert_154 (kd_r_147 (vp_lt b15)) (lt_r_147 (vp_lt b15)) b20 ?_
                    refine jv_if_le (t := 174) dX8_advert_155 rfl (fun c21 => ?_) (fun c21 => ?_)
                    · replace h := h.1 c21
                      refine jv_iconst dX8_advert_174 ci_iconst_m1 ?_
                      exact jm_ireturn dX8_advert_175 rfl h
                    · replace h := h.2 c21
                      refine jv_aload_n dX8_advert_158 rfl ?_
                      refine gf_8_39 rfl dX8_advert_159 kd_c_137 (lt_c 137 rfl) rf_c_137_10 ?_
                      refine jv_iload dX8_advert_162 rfl ?_
                      refine jm_aaload1 dX8_advert_164 kd_c_147 (lt_c 147 rfl) b15 (rf_r_147 _) ?_
                      refine jv_iload dX8_advert_165 rfl ?_
                      refine jv_bipush dX8_advert_167 ci_bipush_10 ?_
                      refine jv_isub dX8_advert_169 ?_
                      refine jm_iaload dX8_advert_170 (kd_r_147 (vp_lt b15)) (lt_r_147 (vp_lt b15)) b20 ?_
                      refine jv_goto (t := 175) dX8_advert_171 rfl ?_
                      exact jm_ireturn dX8_advert_175 rfl h
                  · replace h := h.2 c19
                    refine jv_aload_n dX8_advert_128 rfl ?_
                    refine gf_8_42 rfl dX8_advert_129 kd_c_137 (lt_c 137 rfl) rf_c_137_11 ?_
                    refine jv_iload dX8_advert_132 rfl ?_
                    refine jm_aaload1 dX8_advert_134 kd_c_340 (lt_c 340 rfl) b15 (rf_r_340 _) ?_
                    refine jv_iload dX8_advert_135 rfl ?_
                    refine jv_bipush dX8_advert_137 ci_bipush_30 ?_
                    refine jv_isub dX8_advert_139 ?_
                    obtain ⟨b22, h⟩ := h
                    refine jm_iaload dX8_advert_140 (kd_r_340 (vp_lt b15)) (lt_r_340 (vp_lt b15)) b22 ?_
                    exact jm_ireturn dX8_advert_141 rfl h
                · replace h := h.2 c18
                  refine jv_aload_n dX8_advert_114 rfl ?_
                  refine jv_iload dX8_advert_115 rfl ?_
                  refine jm_callVi [.int i5_6] cw_8_251 dX8_advert_117 rfl (Nat.le_of_ble_eq_true rfl) kd_c_137 (r := (RX8, TX8, 48)) rfl rfl (lt_c 137 rfl) (Nat.le_of_ble_eq_true rfl) (JCi.mono h (fun x7 u7 h => ?_))
                  exact jm_ireturn dX8_advert_120 rfl h
              · replace h := h.2 c17
                refine jv_iload dX8_advert_85 rfl ?_
                refine jv_if_ne (t := 100) dX8_advert_87 rfl (fun c23 => ?_) (fun c23 => ?_)
                · replace h := h.1 c23
                  refine jv_aload_n dX8_advert_100 rfl ?_
                  refine gf_8_28 rfl dX8_advert_101 kd_c_137 (lt_c 137 rfl) rf_c_137_7 ?_
                  refine jv_iload dX8_advert_104 rfl ?_
                  refine jm_iaload dX8_advert_106 kd_c_144 (lt_c 144 rfl) b15 ?_
                  exact jm_ireturn dX8_advert_107 rfl h
                · replace h := h.2 c23
                  refine jv_aload_n dX8_advert_90 rfl ?_
                  refine gf_8_25 rfl dX8_advert_91 kd_c_137 (lt_c 137 rfl) rf_c_137_6 ?_
                  refine jv_iload dX8_advert_94 rfl ?_
                  refine jm_iaload dX8_advert_96 kd_c_143 (lt_c 143 rfl) b15 ?_
                  refine jv_goto (t := 107) dX8_advert_97 rfl ?_
                  exact jm_ireturn dX8_advert_107 rfl h
            · replace h := h.2 c16
              refine jv_bipush dX8_advert_76 ci_bipush_m3 ?_
              exact jm_ireturn dX8_advert_78 rfl h
          · replace h := h.2 c14
            refine jv_iload dX8_advert_43 rfl ?_
            refine jv_bipush dX8_advert_45 ci_bipush_30 ?_
            refine jv_bipush dX8_advert_47 ci_bipush_37 ?_
            refine jm_callSi [.int a4, .int 30, .int 37] cw_8_125 dX8_advert_49 rfl (Nat.le_of_ble_eq_true rfl) (Nat.le_of_ble_eq_true rfl) (p_X8_in  ?_)
            refine jv_if_ne (t := 58) dX8_advert_52 rfl (fun c24 => ?_) (fun c24 => ?_)
            · replace h := h.1 c24
              refine jv_iload_n dX8_advert_58 rfl ?_
              refine jv_iload_n dX8_advert_59 rfl ?_
              refine jv_iload_n dX8_advert_60 rfl ?_
              refine jm_callSi [.int a1, .int a2, .int a3] cw_8_155 dX8_advert_61 rfl (Nat.le_of_ble_eq_true rfl) (Nat.le_of_ble_eq_true rfl) (p_X8_place  ?_)
              generalize hhi5_8 : (a1 * 8 + a2) * 3 + a3 = i5_8
              replace h := h i5_8 hhi5_8.symm
              refine jv_istore (ls' := [some (.ref 137), some (.int a1), some (.int a2), some (.int a3), some (.int a4), some (.int i5_8)]) dX8_advert_64 (Nat.le_of_ble_eq_true rfl) rfl ?_
              refine jv_aload_n dX8_advert_66 rfl ?_
              refine gf_8_25 rfl dX8_advert_67 kd_c_137 (lt_c 137 rfl) rf_c_137_6 ?_
              refine jv_iload dX8_advert_70 rfl ?_
              obtain ⟨b25, h⟩ := h
              refine jm_iaload dX8_advert_72 kd_c_143 (lt_c 143 rfl) b25 ?_
              refine jv_if_ne (t := 79) dX8_advert_73 rfl (fun c26 => ?_) (fun c26 => ?_)
              · replace h := h.1 c26
                refine jv_iload dX8_advert_79 rfl ?_
                refine jv_iconst dX8_advert_81 ci_iconst_2 ?_
                refine jv_icmp_ge (t := 108) dX8_advert_82 rfl (fun c27 => ?_) (fun c27 => ?_)
                · replace h := h.1 c27
                  refine jv_iload dX8_advert_108 rfl ?_
                  refine jv_iconst dX8_advert_110 ci_iconst_2 ?_
                  refine jv_icmp_ne (t := 121) dX8_advert_111 rfl (fun c28 => ?_) (fun c28 => ?_)
                  · replace h := h.1 c28
                    refine jv_iload dX8_advert_121 rfl ?_
                    refine jv_bipush dX8_advert_123 ci_bipush_30 ?_
                    refine jv_icmp_lt (t := 142) dX8_advert_125 rfl (fun c29 => ?_) (fun c29 => ?_)
                    · replace h := h.1 c29
                      refine jv_aload_n dX8_advert_142 rfl ?_
                      refine gf_8_39 rfl dX8_advert_143 kd_c_137 (lt_c 137 rfl) rf_c_137_10 ?_
                      refine jv_iload dX8_advert_146 rfl ?_
                      refine jm_aaload1 dX8_advert_148 kd_c_147 (lt_c 147 rfl) b25 (rf_r_147 _) ?_
                      refine jv_iload dX8_advert_149 rfl ?_
                      refine jv_bipush dX8_advert_151 ci_bipush_10 ?_
                      refine jv_isub dX8_advert_153 ?_
                      obtain ⟨b30, h⟩ := h
                      refine jm_iaload dX8_advert_154 (kd_r_147 (vp_lt b25)) (lt_r_147 (vp_lt b25)) b30 ?_
                      refine jv_if_le (t := 174) dX8_advert_155 rfl (fun c31 => ?_) (fun c31 => ?_)
                      · replace h := h.1 c31
                        refine jv_iconst dX8_advert_174 ci_iconst_m1 ?_
                        exact jm_ireturn dX8_advert_175 rfl h
                      · replace h := h.2 c31
                        refine jv_aload_n dX8_advert_158 rfl ?_
                        refine gf_8_39 rfl dX8_advert_159 kd_c_137 (lt_c 137 rfl) rf_c_137_10 ?_
                        refine jv_iload dX8_advert_162 rfl ?_
                        refine jm_aaload1 dX8_advert_164 kd_c_147 (lt_c 147 rfl) b25 (rf_r_147 _) ?_
                        refine jv_iload dX8_advert_165 rfl ?_
                        refine jv_bipush dX8_advert_167 ci_bipush_10 ?_
                        refine jv_isub dX8_advert_169 ?_
                        refine jm_iaload dX8_advert_170 (kd_r_147 (vp_lt b25)) (lt_r_147 (vp_lt b25)) b30 ?_
                        refine jv_goto (t := 175) dX8_advert_171 rfl ?_
                        exact jm_ireturn dX8_advert_175 rfl h
                    · replace h := h.2 c29
                      refine jv_aload_n dX8_advert_128 rfl ?_
                      refine gf_8_42 rfl dX8_advert_129 kd_c_137 (lt_c 137 rfl) rf_c_137_11 ?_
                      refine jv_iload dX8_advert_132 rfl ?_
                      refine jm_aaload1 dX8_advert_134 kd_c_340 (lt_c 340 rfl) b25 (rf_r_340 _) ?_
                      refine jv_iload dX8_advert_135 rfl ?_
                      refine jv_bipush dX8_advert_137 ci_bipush_30 ?_
                      refine jv_isub dX8_advert_139 ?_
                      obtain ⟨b32, h⟩ := h
                      refine jm_iaload dX8_advert_140 (kd_r_340 (vp_lt b25)) (lt_r_340 (vp_lt b25)) b32 ?_
                      exact jm_ireturn dX8_advert_141 rfl h
                  · replace h := h.2 c28
                    refine jv_aload_n dX8_advert_114 rfl ?_
                    refine jv_iload dX8_advert_115 rfl ?_
                    refine jm_callVi [.int i5_8] cw_8_251 dX8_advert_117 rfl (Nat.le_of_ble_eq_true rfl) kd_c_137 (r := (RX8, TX8, 48)) rfl rfl (lt_c 137 rfl) (Nat.le_of_ble_eq_true rfl) (JCi.mono h (fun x9 u9 h => ?_))
                    exact jm_ireturn dX8_advert_120 rfl h
                · replace h := h.2 c27
                  refine jv_iload dX8_advert_85 rfl ?_
                  refine jv_if_ne (t := 100) dX8_advert_87 rfl (fun c33 => ?_) (fun c33 => ?_)
                  · replace h := h.1 c33
                    refine jv_aload_n dX8_advert_100 rfl ?_
                    refine gf_8_28 rfl dX8_advert_101 kd_c_137 (lt_c 137 rfl) rf_c_137_7 ?_
                    refine jv_iload dX8_advert_104 rfl ?_
                    refine jm_iaload dX8_advert_106 kd_c_144 (lt_c 144 rfl) b25 ?_
                    exact jm_ireturn dX8_advert_107 rfl h
                  · replace h := h.2 c33
                    refine jv_aload_n dX8_advert_90 rfl ?_
                    refine gf_8_25 rfl dX8_advert_91 kd_c_137 (lt_c 137 rfl) rf_c_137_6 ?_
                    refine jv_iload dX8_advert_94 rfl ?_
                    refine jm_iaload dX8_advert_96 kd_c_143 (lt_c 143 rfl) b25 ?_
                    refine jv_goto (t := 107) dX8_advert_97 rfl ?_
                    exact jm_ireturn dX8_advert_107 rfl h
              · replace h := h.2 c26
                refine jv_bipush dX8_advert_76 ci_bipush_m3 ?_
                exact jm_ireturn dX8_advert_78 rfl h
            · replace h := h.2 c24
              refine jv_bipush dX8_advert_55 ci_bipush_m2 ?_
              exact jm_ireturn dX8_advert_57 rfl h
theorem g_X8_message_0 {E : JE} {u : JM} {K : Int32 → JM → Prop}  {a1 a2 : Int32}
    (h : ((¬ (jb (rg a2 (0 : Int32).toInt (4 : Int32).toInt)) = 0 → ((¬ (jb (rg a1 (0 : Int32).toInt ((u 137 12) - 1).toInt)) = 0 → ((¬ a2 = 0 → ((¬ a2 = 1 → ((¬ a2 = 2 → ((¬ a2 = 3 → vp_in a1 400 ∧
       K (u 537 a1.toNatClampNeg) u) ∧
      (a2 = 3 → vp_in a1 400 ∧
       K (u 536 a1.toNatClampNeg) u))) ∧
     (a2 = 2 → vp_in a1 400 ∧
      K (u 535 a1.toNatClampNeg) u))) ∧
    (a2 = 1 → vp_in a1 400 ∧
     K (u 534 a1.toNatClampNeg) u))) ∧
   (a2 = 0 → vp_in a1 400 ∧
    K (u 533 a1.toNatClampNeg) u))) ∧
  ((jb (rg a1 (0 : Int32).toInt ((u 137 12) - 1).toInt)) = 0 → K (-12) u))) ∧
 ((jb (rg a2 (0 : Int32).toInt (4 : Int32).toInt)) = 0 → K (-2) u)))
    : JVi E 2 YX8_message K 0 [some (.ref 137), some (.int a1), some (.int a2)] [] u := by
  refine jv_iload_n dX8_message_0 rfl ?_
  refine jv_iconst dX8_message_1 ci_iconst_0 ?_
  refine jv_iconst dX8_message_2 ci_iconst_4 ?_
  refine jm_callSi [.int a2, .int 0, .int 4] cw_8_125 dX8_message_3 rfl (Nat.le_of_ble_eq_true rfl) (Nat.le_of_ble_eq_true rfl) (p_X8_in  ?_)
  refine jv_if_ne (t := 12) dX8_message_6 rfl (fun c1 => ?_) (fun c1 => ?_)
  · replace h := h.1 c1
    refine jv_iload_n dX8_message_12 rfl ?_
    refine jv_iconst dX8_message_13 ci_iconst_0 ?_
    refine jv_aload_n dX8_message_14 rfl ?_
    refine gf_8_225 rfl dX8_message_15 kd_c_137 (lt_c 137 rfl) ?_
    refine jv_iconst dX8_message_18 ci_iconst_1 ?_
    refine jv_isub dX8_message_19 ?_
    refine jm_callSi [.int a1, .int 0, .int ((u 137 12) - 1)] cw_8_125 dX8_message_20 rfl (Nat.le_of_ble_eq_true rfl) (Nat.le_of_ble_eq_true rfl) (p_X8_in  ?_)
    refine jv_if_ne (t := 29) dX8_message_23 rfl (fun c2 => ?_) (fun c2 => ?_)
    · replace h := h.1 c2
      refine jv_iload_n dX8_message_29 rfl ?_
      refine jv_if_ne (t := 42) dX8_message_30 rfl (fun c3 => ?_) (fun c3 => ?_)
      · replace h := h.1 c3
        refine jv_iload_n dX8_message_42 rfl ?_
        refine jv_iconst dX8_message_43 ci_iconst_1 ?_
        refine jv_icmp_ne (t := 56) dX8_message_44 rfl (fun c9 => ?_) (fun c9 => ?_)
        · replace h := h.1 c9
          refine jv_iload_n dX8_message_56 rfl ?_
          refine jv_iconst dX8_message_57 ci_iconst_2 ?_
          refine jv_icmp_ne (t := 70) dX8_message_58 rfl (fun c14 => ?_) (fun c14 => ?_)
          · replace h := h.1 c14
            refine jv_iload_n dX8_message_70 rfl ?_
            refine jv_iconst dX8_message_71 ci_iconst_3 ?_
            refine jv_icmp_ne (t := 84) dX8_message_72 rfl (fun c18 => ?_) (fun c18 => ?_)
            · replace h := h.1 c18
              refine jv_aload_n dX8_message_84 rfl ?_
              refine gf_8_57 rfl dX8_message_85 kd_c_137 (lt_c 137 rfl) rf_c_137_19 ?_
              refine jv_iload_n dX8_message_88 rfl ?_
              obtain ⟨b21, h⟩ := h
              refine jm_iaload dX8_message_89 kd_c_537 (lt_c 537 rfl) b21 ?_
              exact jm_ireturn dX8_message_90 rfl h
            · replace h := h.2 c18
              refine jv_aload_n dX8_message_75 rfl ?_
              refine gf_8_54 rfl dX8_message_76 kd_c_137 (lt_c 137 rfl) rf_c_137_18 ?_
              refine jv_iload_n dX8_message_79 rfl ?_
              obtain ⟨b22, h⟩ := h
              refine jm_iaload dX8_message_80 kd_c_536 (lt_c 536 rfl) b22 ?_
              refine jv_goto (t := 90) dX8_message_81 rfl ?_
              exact jm_ireturn dX8_message_90 rfl h
          · replace h := h.2 c14
            refine jv_aload_n dX8_message_61 rfl ?_
            refine gf_8_51 rfl dX8_message_62 kd_c_137 (lt_c 137 rfl) rf_c_137_17 ?_
            refine jv_iload_n dX8_message_65 rfl ?_
            obtain ⟨b23, h⟩ := h
            refine jm_iaload dX8_message_66 kd_c_535 (lt_c 535 rfl) b23 ?_
            refine jv_goto (t := 90) dX8_message_67 rfl ?_
            exact jm_ireturn dX8_message_90 rfl h
        · replace h := h.2 c9
          refine jv_aload_n dX8_message_47 rfl ?_
          refine gf_8_48 rfl dX8_message_48 kd_c_137 (lt_c 137 rfl) rf_c_137_16 ?_
          refine jv_iload_n dX8_message_51 rfl ?_
          obtain ⟨b24, h⟩ := h
          refine jm_iaload dX8_message_52 kd_c_534 (lt_c 534 rfl) b24 ?_
          refine jv_goto (t := 90) dX8_message_53 rfl ?_
          exact jm_ireturn dX8_message_90 rfl h
      · replace h := h.2 c3
        refine jv_aload_n dX8_message_33 rfl ?_
        refine gf_8_45 rfl dX8_message_34 kd_c_137 (lt_c 137 rfl) rf_c_137_15 ?_
        refine jv_iload_n dX8_message_37 rfl ?_
        obtain ⟨b25, h⟩ := h
        refine jm_iaload dX8_message_38 kd_c_533 (lt_c 533 rfl) b25 ?_
        refine jv_goto (t := 90) dX8_message_39 rfl ?_
        exact jm_ireturn dX8_message_90 rfl h
    · replace h := h.2 c2
      refine jv_bipush dX8_message_26 ci_bipush_m12 ?_
      exact jm_ireturn dX8_message_28 rfl h
  · replace h := h.2 c1
    refine jv_bipush dX8_message_9 ci_bipush_m2 ?_
    exact jm_ireturn dX8_message_11 rfl h
theorem g_X8_within_0 {E : JE} {u : JM} {K : Int32 → JM → Prop}  {a1 a2 a3 a4 : Int32}
    (h : JCi E 2 YX8_isRouter [.int a1] (fun x1 u1 =>
 ((x1 = 0 → K (-2) u1) ∧
  (¬ x1 = 0 → JCi E 2 YX8_isRouter [.int a2] (fun x2 u2 =>
   ((x2 = 0 → K (-2) u2) ∧
    (¬ x2 = 0 → JCi E 2 YX8_isArea [.int a3] (fun x3 u3 =>
     ((x3 = 0 → K (-2) u3) ∧
      (¬ x3 = 0 → ((¬ (jb (rg a4 (0 : Int32).toInt (1 : Int32).toInt)) = 0 → JCu E 4 YX8_tellWithin [.ref 137, .int a1, .int a3] (fun u4 =>
        ((¬ a4 = 0 → vp_in a2 8 ∧
          K (u4 1342 a2.toNatClampNeg) u4) ∧
         (a4 = 0 → vp_in a2 8 ∧
          K (u4 1341 a2.toNatClampNeg) u4))) u3) ∧
       ((jb (rg a4 (0 : Int32).toInt (1 : Int32).toInt)) = 0 → K (-2) u3))))) u2))) u1))) u)
    : JVi E 5 YX8_within K 0 [some (.ref 137), some (.int a1), some (.int a2), some (.int a3), some (.int a4)] [] u := by
  refine jv_iload_n dX8_within_0 rfl ?_
  refine jm_callSi [.int a1] cw_8_141 dX8_within_1 rfl (Nat.le_of_ble_eq_true rfl) (Nat.le_of_ble_eq_true rfl) (JCi.mono h (fun x1 u1 h => ?_))
  refine jv_if_eq (t := 31) dX8_within_4 rfl (fun c1 => ?_) (fun c1 => ?_)
  · replace h := h.1 c1
    refine jv_bipush dX8_within_31 ci_bipush_m2 ?_
    exact jm_ireturn dX8_within_33 rfl h
  · replace h := h.2 c1
    refine jv_iload_n dX8_within_7 rfl ?_
    refine jm_callSi [.int a2] cw_8_141 dX8_within_8 rfl (Nat.le_of_ble_eq_true rfl) (Nat.le_of_ble_eq_true rfl) (JCi.mono h (fun x2 u2 h => ?_))
    refine jv_if_eq (t := 31) dX8_within_11 rfl (fun c2 => ?_) (fun c2 => ?_)
    · replace h := h.1 c2
      refine jv_bipush dX8_within_31 ci_bipush_m2 ?_
      exact jm_ireturn dX8_within_33 rfl h
    · replace h := h.2 c2
      refine jv_iload_n dX8_within_14 rfl ?_
      refine jm_callSi [.int a3] cw_8_145 dX8_within_15 rfl (Nat.le_of_ble_eq_true rfl) (Nat.le_of_ble_eq_true rfl) (JCi.mono h (fun x3 u3 h => ?_))
      refine jv_if_eq (t := 31) dX8_within_18 rfl (fun c3 => ?_) (fun c3 => ?_)
      · replace h := h.1 c3
        refine jv_bipush dX8_within_31 ci_bipush_m2 ?_
        exact jm_ireturn dX8_within_33 rfl h
      · replace h := h.2 c3
        refine jv_iload dX8_within_21 rfl ?_
        refine jv_iconst dX8_within_23 ci_iconst_0 ?_
        refine jv_iconst dX8_within_24 ci_iconst_1 ?_
        refine jm_callSi [.int a4, .int 0, .int 1] cw_8_125 dX8_within_25 rfl (Nat.le_of_ble_eq_true rfl) (Nat.le_of_ble_eq_true rfl) (p_X8_in  ?_)
        refine jv_if_ne (t := 34) dX8_within_28 rfl (fun c4 => ?_) (fun c4 => ?_)
        · replace h := h.1 c4
          refine jv_aload_n dX8_within_34 rfl ?_
          refine jv_iload_n dX8_within_35 rfl ?_
          refine jv_iload_n dX8_within_36 rfl ?_
          refine jm_callVu [.int a1, .int a3] cw_8_195 dX8_within_37 rfl (Nat.le_of_ble_eq_true rfl) kd_c_137 (r := (RX8, TX8, 48)) rfl rfl (lt_c 137 rfl) (Nat.le_of_ble_eq_true rfl) (JCu.mono h (fun u4 h => ?_))
          refine jv_iload dX8_within_40 rfl ?_
          refine jv_if_ne (t := 54) dX8_within_42 rfl (fun c5 => ?_) (fun c5 => ?_)
          · replace h := h.1 c5
            refine jv_aload_n dX8_within_54 rfl ?_
            refine gf_8_72 rfl dX8_within_55 kd_c_137 (lt_c 137 rfl) rf_c_137_24 ?_
            refine jv_iload_n dX8_within_58 rfl ?_
            obtain ⟨b8, h⟩ := h
            refine jm_iaload dX8_within_59 kd_c_1342 (lt_c 1342 rfl) b8 ?_
            exact jm_ireturn dX8_within_60 rfl h
          · replace h := h.2 c5
            refine jv_aload_n dX8_within_45 rfl ?_
            refine gf_8_69 rfl dX8_within_46 kd_c_137 (lt_c 137 rfl) rf_c_137_23 ?_
            refine jv_iload_n dX8_within_49 rfl ?_
            obtain ⟨b9, h⟩ := h
            refine jm_iaload dX8_within_50 kd_c_1341 (lt_c 1341 rfl) b9 ?_
            refine jv_goto (t := 60) dX8_within_51 rfl ?_
            exact jm_ireturn dX8_within_60 rfl h
        · replace h := h.2 c4
          refine jv_bipush dX8_within_31 ci_bipush_m2 ?_
          exact jm_ireturn dX8_within_33 rfl h
theorem g_X8_costNow_0 {E : JE} {u : JM} {K : Int32 → JM → Prop}  {a1 a2 : Int32}
    (h : ((¬ a1 = a2 → JCu E 6 YX8_tellRoute [.ref 137, .int a1, .int a2] (fun u1 =>
  ((9999 ≤ (u1 137 25) → K (-1) u1) ∧
   (¬ 9999 ≤ (u1 137 25) → K (u1 137 25) u1))) u) ∧
 (a1 = a2 → K 0 u)))
    : JVi E 7 YX8_costNow K 0 [some (.ref 137), some (.int a1), some (.int a2)] [] u := by
  refine jv_iload_n dX8_costNow_0 rfl ?_
  refine jv_iload_n dX8_costNow_1 rfl ?_
  refine jv_icmp_ne (t := 7) dX8_costNow_2 rfl (fun c1 => ?_) (fun c1 => ?_)
  · replace h := h.1 c1
    refine jv_aload_n dX8_costNow_7 rfl ?_
    refine jv_iload_n dX8_costNow_8 rfl ?_
    refine jv_iload_n dX8_costNow_9 rfl ?_
    refine jm_callVu [.int a1, .int a2] cw_8_254 dX8_costNow_10 rfl (Nat.le_of_ble_eq_true rfl) kd_c_137 (r := (RX8, TX8, 48)) rfl rfl (lt_c 137 rfl) (Nat.le_of_ble_eq_true rfl) (JCu.mono h (fun u1 h => ?_))
    refine jv_aload_n dX8_costNow_13 rfl ?_
    refine gf_8_183 rfl dX8_costNow_14 kd_c_137 (lt_c 137 rfl) ?_
    refine jv_sipush dX8_costNow_17 ci_sipush_9999 ?_
    refine jv_icmp_ge (t := 30) dX8_costNow_20 rfl (fun c2 => ?_) (fun c2 => ?_)
    · replace h := h.1 c2
      refine jv_iconst dX8_costNow_30 ci_iconst_m1 ?_
      exact jm_ireturn dX8_costNow_31 rfl h
    · replace h := h.2 c2
      refine jv_aload_n dX8_costNow_23 rfl ?_
      refine gf_8_183 rfl dX8_costNow_24 kd_c_137 (lt_c 137 rfl) ?_
      refine jv_goto (t := 31) dX8_costNow_27 rfl ?_
      exact jm_ireturn dX8_costNow_31 rfl h
  · replace h := h.2 c1
    refine jv_iconst dX8_costNow_5 ci_iconst_0 ?_
    exact jm_ireturn dX8_costNow_6 rfl h
theorem g_X8_route_0 {E : JE} {u : JM} {K : Int32 → JM → Prop}  {a1 a2 a3 : Int32}
    (h : JCi E 2 YX8_isRouter [.int a1] (fun x1 u1 =>
 ((x1 = 0 → K (-2) u1) ∧
  (¬ x1 = 0 → JCi E 2 YX8_isRouter [.int a2] (fun x2 u2 =>
   ((x2 = 0 → K (-2) u2) ∧
    (¬ x2 = 0 → ((¬ (jb (rg a3 (0 : Int32).toInt (3 : Int32).toInt)) = 0 → ((¬ a1 = a2 → JCu E 6 YX8_tellRoute [.ref 137, .int a1, .int a2] (fun u3 =>
       (((u3 137 25) < 9999 → ((¬ a3 = 0 → ((¬ a3 = 1 → ((¬ a3 = 2 → K (u3 137 28) u3) ∧
           (a3 = 2 → K (u3 137 27) u3))) ∧
          (a3 = 1 → K (u3 137 26) u3))) ∧
         (a3 = 0 → K (u3 137 25) u3))) ∧
        (¬ (u3 137 25) < 9999 → K (-1) u3))) u2) ∧
      (a1 = a2 → ((¬ a3 = 0 → K (-1) u2) ∧
       (a3 = 0 → K 0 u2))))) ∧
     ((jb (rg a3 (0 : Int32).toInt (3 : Int32).toInt)) = 0 → K (-2) u2))))) u1))) u)
    : JVi E 7 YX8_route K 0 [some (.ref 137), some (.int a1), some (.int a2), some (.int a3)] [] u := by
  refine jv_iload_n dX8_route_0 rfl ?_
  refine jm_callSi [.int a1] cw_8_141 dX8_route_1 rfl (Nat.le_of_ble_eq_true rfl) (Nat.le_of_ble_eq_true rfl) (JCi.mono h (fun x1 u1 h => ?_))
  refine jv_if_eq (t := 23) dX8_route_4 rfl (fun c1 => ?_) (fun c1 => ?_)
  · replace h := h.1 c1
    refine jv_bipush dX8_route_23 ci_bipush_m2 ?_
    exact jm_ireturn dX8_route_25 rfl h
  · replace h := h.2 c1
    refine jv_iload_n dX8_route_7 rfl ?_
    refine jm_callSi [.int a2] cw_8_141 dX8_route_8 rfl (Nat.le_of_ble_eq_true rfl) (Nat.le_of_ble_eq_true rfl) (JCi.mono h (fun x2 u2 h => ?_))
    refine jv_if_eq (t := 23) dX8_route_11 rfl (fun c2 => ?_) (fun c2 => ?_)
    · replace h := h.1 c2
      refine jv_bipush dX8_route_23 ci_bipush_m2 ?_
      exact jm_ireturn dX8_route_25 rfl h
    · replace h := h.2 c2
      refine jv_iload_n dX8_route_14 rfl ?_
      refine jv_iconst dX8_route_15 ci_iconst_0 ?_
      refine jv_iconst dX8_route_16 ci_iconst_3 ?_
      refine jm_callSi [.int a3, .int 0, .int 3] cw_8_125 dX8_route_17 rfl (Nat.le_of_ble_eq_true rfl) (Nat.le_of_ble_eq_true rfl) (p_X8_in  ?_)
      refine jv_if_ne (t := 26) dX8_route_20 rfl (fun c3 => ?_) (fun c3 => ?_)
      · replace h := h.1 c3
        refine jv_iload_n dX8_route_26 rfl ?_
        refine jv_iload_n dX8_route_27 rfl ?_
        refine jv_icmp_ne (t := 41) dX8_route_28 rfl (fun c4 => ?_) (fun c4 => ?_)
        · replace h := h.1 c4
          refine jv_aload_n dX8_route_41 rfl ?_
          refine jv_iload_n dX8_route_42 rfl ?_
          refine jv_iload_n dX8_route_43 rfl ?_
          refine jm_callVu [.int a1, .int a2] cw_8_254 dX8_route_44 rfl (Nat.le_of_ble_eq_true rfl) kd_c_137 (r := (RX8, TX8, 48)) rfl rfl (lt_c 137 rfl) (Nat.le_of_ble_eq_true rfl) (JCu.mono h (fun u3 h => ?_))
          refine jv_aload_n dX8_route_47 rfl ?_
          refine gf_8_183 rfl dX8_route_48 kd_c_137 (lt_c 137 rfl) ?_
          refine jv_sipush dX8_route_51 ci_sipush_9999 ?_
          refine jv_icmp_lt (t := 59) dX8_route_54 rfl (fun c5 => ?_) (fun c5 => ?_)
          · replace h := h.1 c5
            refine jv_iload_n dX8_route_59 rfl ?_
            refine jv_if_ne (t := 70) dX8_route_60 rfl (fun c6 => ?_) (fun c6 => ?_)
            · replace h := h.1 c6
              refine jv_iload_n dX8_route_70 rfl ?_
              refine jv_iconst dX8_route_71 ci_iconst_1 ?_
              refine jv_icmp_ne (t := 82) dX8_route_72 rfl (fun c7 => ?_) (fun c7 => ?_)
              · replace h := h.1 c7
                refine jv_iload_n dX8_route_82 rfl ?_
                refine jv_iconst dX8_route_83 ci_iconst_2 ?_
                refine jv_icmp_ne (t := 94) dX8_route_84 rfl (fun c8 => ?_) (fun c8 => ?_)
                · replace h := h.1 c8
                  refine jv_aload_n dX8_route_94 rfl ?_
                  refine gf_8_192 rfl dX8_route_95 kd_c_137 (lt_c 137 rfl) ?_
                  exact jm_ireturn dX8_route_98 rfl h
                · replace h := h.2 c8
                  refine jv_aload_n dX8_route_87 rfl ?_
                  refine gf_8_189 rfl dX8_route_88 kd_c_137 (lt_c 137 rfl) ?_
                  refine jv_goto (t := 98) dX8_route_91 rfl ?_
                  exact jm_ireturn dX8_route_98 rfl h
              · replace h := h.2 c7
                refine jv_aload_n dX8_route_75 rfl ?_
                refine gf_8_186 rfl dX8_route_76 kd_c_137 (lt_c 137 rfl) ?_
                refine jv_goto (t := 98) dX8_route_79 rfl ?_
                exact jm_ireturn dX8_route_98 rfl h
            · replace h := h.2 c6
              refine jv_aload_n dX8_route_63 rfl ?_
              refine gf_8_183 rfl dX8_route_64 kd_c_137 (lt_c 137 rfl) ?_
              refine jv_goto (t := 98) dX8_route_67 rfl ?_
              exact jm_ireturn dX8_route_98 rfl h
          · replace h := h.2 c5
            refine jv_iconst dX8_route_57 ci_iconst_m1 ?_
            exact jm_ireturn dX8_route_58 rfl h
        · replace h := h.2 c4
          refine jv_iload_n dX8_route_31 rfl ?_
          refine jv_if_ne (t := 39) dX8_route_32 rfl (fun c9 => ?_) (fun c9 => ?_)
          · replace h := h.1 c9
            refine jv_iconst dX8_route_39 ci_iconst_m1 ?_
            exact jm_ireturn dX8_route_40 rfl h
          · replace h := h.2 c9
            refine jv_iconst dX8_route_35 ci_iconst_0 ?_
            refine jv_goto (t := 40) dX8_route_36 rfl ?_
            exact jm_ireturn dX8_route_40 rfl h
      · replace h := h.2 c3
        refine jv_bipush dX8_route_23 ci_bipush_m2 ?_
        exact jm_ireturn dX8_route_25 rfl h
theorem g_X8_overLink_0 {E : JE} {u : JM} {K : Int32 → JM → Prop}  {a1 a2 a3 : Int32}
    (h : JVi E 2 YX8_overLink K 6 [some (.ref 137), some (.int a1), some (.int a2), some (.int a3), some (.int (-1)), some (.int 0)] [] u)
    : JVi E 2 YX8_overLink K 0 [some (.ref 137), some (.int a1), some (.int a2), some (.int a3), none, none] [] u := by
  refine jv_iconst dX8_overLink_0 ci_iconst_m1 ?_
  refine jv_istore (ls' := [some (.ref 137), some (.int a1), some (.int a2), some (.int a3), some (.int (-1)), none]) dX8_overLink_1 (Nat.le_of_ble_eq_true rfl) rfl ?_
  refine jv_iconst dX8_overLink_3 ci_iconst_0 ?_
  refine jv_istore (ls' := [some (.ref 137), some (.int a1), some (.int a2), some (.int a3), some (.int (-1)), some (.int 0)]) dX8_overLink_4 (Nat.le_of_ble_eq_true rfl) rfl ?_
  exact h
theorem g_X8_overLink_6 {E : JE} {u : JM} {K : Int32 → JM → Prop}  {a1 a2 a3 i4 i5 : Int32}
    (h : (((u 137 0) ≤ i5 → K i4 u) ∧
 (¬ (u 137 0) ≤ i5 → vp_in i5 12 ∧
  ((¬ (u 141 i5.toNatClampNeg) = 1 → True) ∧ ((u 141 i5.toNatClampNeg) = 1 → ((¬ (u 140 i5.toNatClampNeg) = a3 → True) ∧ ((u 140 i5.toNatClampNeg) = a3 → (((jb (u 138 i5.toNatClampNeg = a1 ∨ u 139 i5.toNatClampNeg = a1)) = 0 → True) ∧ (¬ (jb (u 138 i5.toNatClampNeg = a1 ∨ u 139 i5.toNatClampNeg = a1)) = 0 → ((¬ (if u 138 i5.toNatClampNeg = a1 then u 139 i5.toNatClampNeg else u 138 i5.toNatClampNeg) = a2 → True) ∧ ((if u 138 i5.toNatClampNeg = a1 then u 139 i5.toNatClampNeg else u 138 i5.toNatClampNeg) = a2 → ((i4 = (-1) → True) ∧ (¬ i4 = (-1) → (vp_in i4 12 ∧ True))))))))))) ∧
  ∀ i4_1 : Int32, i4_1 = (if (u 141 i5.toNatClampNeg) = 1 then (if (u 140 i5.toNatClampNeg) = a3 then (if (jb (u 138 i5.toNatClampNeg = a1 ∨ u 139 i5.toNatClampNeg = a1)) = 0 then i4 else (if (if u 138 i5.toNatClampNeg = a1 then u 139 i5.toNatClampNeg else u 138 i5.toNatClampNeg) = a2 then (if i4 = (-1) then i5 else (if (u 142 (2 * i4 + (if u 138 i4.toNatClampNeg = a1 then 0 else 1)).toNatClampNeg) ≤ (u 142 (2 * i5 + (if u 138 i5.toNatClampNeg = a1 then 0 else 1)).toNatClampNeg) then i4 else i5)) else i4)) else i4) else i4) →
  JVi E 2 YX8_overLink K 6 [some (.ref 137), some (.int a1), some (.int a2), some (.int a3), some (.int i4_1), some (.int (i5 + 1))] [] u)))
    : JVi E 2 YX8_overLink K 6 [some (.ref 137), some (.int a1), some (.int a2), some (.int a3), some (.int i4), some (.int i5)] [] u := by
  refine jv_iload dX8_overLink_6 rfl ?_
  refine jv_aload_n dX8_overLink_8 rfl ?_
  refine gf_8_129 rfl dX8_overLink_9 kd_c_137 (lt_c 137 rfl) ?_
  refine jv_icmp_ge (t := 91) dX8_overLink_12 rfl (fun c1 => ?_) (fun c1 => ?_)
  · replace h := h.1 c1
    refine jv_iload dX8_overLink_91 rfl ?_
    exact jm_ireturn dX8_overLink_93 rfl h
  · replace h := h.2 c1
    refine jv_aload_n dX8_overLink_15 rfl ?_
    refine gf_8_19 rfl dX8_overLink_16 kd_c_137 (lt_c 137 rfl) rf_c_137_4 ?_
    refine jv_iload dX8_overLink_19 rfl ?_
    obtain ⟨b8, h⟩ := h
    refine jm_iaload dX8_overLink_21 kd_c_141 (lt_c 141 rfl) b8 ?_
    refine jv_iconst dX8_overLink_22 ci_iconst_1 ?_
    obtain ⟨hob, h⟩ := h
    have key11 : ∀ i4_1 : Int32, i4_1 = (if (u 141 i5.toNatClampNeg) = 1 then (if (u 140 i5.toNatClampNeg) = a3 then (if (jb (u 138 i5.toNatClampNeg = a1 ∨ u 139 i5.toNatClampNeg = a1)) = 0 then i4 else (if (if u 138 i5.toNatClampNeg = a1 then u 139 i5.toNatClampNeg else u 138 i5.toNatClampNeg) = a2 then (if i4 = (-1) then i5 else (if (u 142 (2 * i4 + (if u 138 i4.toNatClampNeg = a1 then 0 else 1)).toNatClampNeg) ≤ (u 142 (2 * i5 + (if u 138 i5.toNatClampNeg = a1 then 0 else 1)).toNatClampNeg) then i4 else i5)) else i4)) else i4) else i4) → JVi E 2 YX8_overLink K 85 [some (.ref 137), some (.int a1), some (.int a2), some (.int a3), some (.int i4_1), some (.int i5)] [] u := by
      intro i4_1 hi4_1
      replace h := h i4_1 hi4_1
      refine jv_iinc (v := i5 + 1) (ls' := [some (.ref 137), some (.int a1), some (.int a2), some (.int a3), some (.int i4_1), some (.int (i5 + 1))]) dX8_overLink_85 (Nat.le_of_ble_eq_true rfl) rfl (by rw [ci_iconst_1]) rfl ?_
      refine jv_goto (t := 6) dX8_overLink_88 rfl ?_
      exact h
    clear h
    have h := hob
    refine jv_icmp_ne (t := 85) dX8_overLink_23 rfl (fun c12 => ?_) (fun c12 => ?_)
    · replace h := h.1 c12
      exact key11 _ (Eq.trans rfl (if_neg c12).symm)
    · replace h := h.2 c12
      refine jv_aload_n dX8_overLink_26 rfl ?_
      refine gf_8_16 rfl dX8_overLink_27 kd_c_137 (lt_c 137 rfl) rf_c_137_3 ?_
      refine jv_iload dX8_overLink_30 rfl ?_
      refine jm_iaload dX8_overLink_32 kd_c_140 (lt_c 140 rfl) b8 ?_
      refine jv_iload_n dX8_overLink_33 rfl ?_
      refine jv_icmp_ne (t := 85) dX8_overLink_34 rfl (fun c13 => ?_) (fun c13 => ?_)
      · replace h := h.1 c13
        exact key11 _ (Eq.trans (Eq.trans rfl (if_neg c13).symm) (if_pos c12).symm)
      · replace h := h.2 c13
        refine jv_aload_n dX8_overLink_37 rfl ?_
        refine jv_iload dX8_overLink_38 rfl ?_
        refine jv_iload_n dX8_overLink_40 rfl ?_
        refine jm_callVi [.int i5, .int a1] cw_8_133 dX8_overLink_41 rfl (Nat.le_of_ble_eq_true rfl) kd_c_137 (r := (RX8, TX8, 48)) rfl rfl (lt_c 137 rfl) (Nat.le_of_ble_eq_true rfl) (p_X8_isEnd b8 ?_)
        refine jv_if_eq (t := 85) dX8_overLink_44 rfl (fun c14 => ?_) (fun c14 => ?_)
        · replace h := h.1 c14
          exact key11 _ (Eq.trans (Eq.trans (Eq.trans rfl (if_pos c14).symm) (if_pos c13).symm) (if_pos c12).symm)
        · replace h := h.2 c14
          refine jv_aload_n dX8_overLink_47 rfl ?_
          refine jv_iload dX8_overLink_48 rfl ?_
          refine jv_iload_n dX8_overLink_50 rfl ?_
          refine jm_callVi [.int i5, .int a1] cw_8_169 dX8_overLink_51 rfl (Nat.le_of_ble_eq_true rfl) kd_c_137 (r := (RX8, TX8, 48)) rfl rfl (lt_c 137 rfl) (Nat.le_of_ble_eq_true rfl) (p_X8_otherEnd b8 ?_)
          refine jv_iload_n dX8_overLink_54 rfl ?_
          refine jv_icmp_ne (t := 85) dX8_overLink_55 rfl (fun c15 => ?_) (fun c15 => ?_)
          · replace h := h.1 c15
            exact key11 _ (Eq.trans (Eq.trans (Eq.trans (Eq.trans rfl (if_neg c15).symm) (if_neg c14).symm) (if_pos c13).symm) (if_pos c12).symm)
          · replace h := h.2 c15
            refine jv_iload dX8_overLink_58 rfl ?_
            refine jv_iconst dX8_overLink_60 ci_iconst_m1 ?_
            refine jv_icmp_eq (t := 81) dX8_overLink_61 rfl (fun c16 => ?_) (fun c16 => ?_)
            · replace h := h.1 c16
              refine jv_iload dX8_overLink_81 rfl ?_
              refine jv_istore (ls' := [some (.ref 137), some (.int a1), some (.int a2), some (.int a3), some (.int i5), some (.int i5)]) dX8_overLink_83 (Nat.le_of_ble_eq_true rfl) rfl ?_
              exact key11 _ (Eq.trans (Eq.trans (Eq.trans (Eq.trans (Eq.trans rfl (if_pos c16).symm) (if_pos c15).symm) (if_neg c14).symm) (if_pos c13).symm) (if_pos c12).symm)
            · replace h := h.2 c16
              refine jv_aload_n dX8_overLink_64 rfl ?_
              refine jv_iload dX8_overLink_65 rfl ?_
              refine jv_iload_n dX8_overLink_67 rfl ?_
              refine jm_callVi [.int i5, .int a1] cw_8_151 dX8_overLink_68 rfl (Nat.le_of_ble_eq_true rfl) kd_c_137 (r := (RX8, TX8, 48)) rfl rfl (lt_c 137 rfl) (Nat.le_of_ble_eq_true rfl) (p_X8_priceFrom b8 ?_)
              refine jv_aload_n dX8_overLink_71 rfl ?_
              refine jv_iload dX8_overLink_72 rfl ?_
              refine jv_iload_n dX8_overLink_74 rfl ?_
              obtain ⟨b10, h⟩ := h
              refine jm_callVi [.int i4, .int a1] cw_8_151 dX8_overLink_75 rfl (Nat.le_of_ble_eq_true rfl) kd_c_137 (r := (RX8, TX8, 48)) rfl rfl (lt_c 137 rfl) (Nat.le_of_ble_eq_true rfl) (p_X8_priceFrom b10 ?_)
              refine jv_icmp_ge (t := 85) dX8_overLink_78 rfl (fun c17 => ?_) (fun c17 => ?_)
              · exact key11 _ (Eq.trans (Eq.trans (Eq.trans (Eq.trans (Eq.trans (Eq.trans rfl (if_pos c17).symm) (if_neg c16).symm) (if_pos c15).symm) (if_neg c14).symm) (if_pos c13).symm) (if_pos c12).symm)
              · refine jv_iload dX8_overLink_81 rfl ?_
                refine jv_istore (ls' := [some (.ref 137), some (.int a1), some (.int a2), some (.int a3), some (.int i5), some (.int i5)]) dX8_overLink_83 (Nat.le_of_ble_eq_true rfl) rfl ?_
                exact key11 _ (Eq.trans (Eq.trans (Eq.trans (Eq.trans (Eq.trans (Eq.trans rfl (if_neg c17).symm) (if_neg c16).symm) (if_pos c15).symm) (if_neg c14).symm) (if_pos c13).symm) (if_pos c12).symm)
theorem g_X8_packet_0 {E : JE} {u : JM} {K : Int32 → JM → Prop}  {a1 a2 a3 : Int32}
    (h : JCi E 2 YX8_isRouter [.int a1] (fun x1 u1 =>
 ((x1 = 0 → K (-2) u1) ∧
  (¬ x1 = 0 → JCi E 2 YX8_isRouter [.int a2] (fun x2 u2 =>
   ((x2 = 0 → K (-2) u2) ∧
    (¬ x2 = 0 → ((¬ (jb (rg a3 (0 : Int32).toInt (2 : Int32).toInt)) = 0 → JVi E 7 YX8_packet K 49 [some (.ref 137), some (.int a1), some (.int a2), some (.int a3), some (.int a1), some (.int 0), some (.int 0), some (.int 1), none] [] u2) ∧
     ((jb (rg a3 (0 : Int32).toInt (2 : Int32).toInt)) = 0 → ((¬ (jb (rg a3 (10 : Int32).toInt (18 : Int32).toInt)) = 0 → JVi E 7 YX8_packet K 49 [some (.ref 137), some (.int a1), some (.int a2), some (.int a3), some (.int a1), some (.int 0), some (.int 0), some (.int 1), none] [] u2) ∧
      ((jb (rg a3 (10 : Int32).toInt (18 : Int32).toInt)) = 0 → K (-2) u2))))))) u1))) u)
    : JVi E 7 YX8_packet K 0 [some (.ref 137), some (.int a1), some (.int a2), some (.int a3), none, none, none, none, none] [] u := by
  refine jv_iload_n dX8_packet_0 rfl ?_
  refine jm_callSi [.int a1] cw_8_141 dX8_packet_1 rfl (Nat.le_of_ble_eq_true rfl) (Nat.le_of_ble_eq_true rfl) (JCi.mono h (fun x1 u1 h => ?_))
  refine jv_if_eq (t := 34) dX8_packet_4 rfl (fun c1 => ?_) (fun c1 => ?_)
  · replace h := h.1 c1
    refine jv_bipush dX8_packet_34 ci_bipush_m2 ?_
    exact jm_ireturn dX8_packet_36 rfl h
  · replace h := h.2 c1
    refine jv_iload_n dX8_packet_7 rfl ?_
    refine jm_callSi [.int a2] cw_8_141 dX8_packet_8 rfl (Nat.le_of_ble_eq_true rfl) (Nat.le_of_ble_eq_true rfl) (JCi.mono h (fun x2 u2 h => ?_))
    refine jv_if_eq (t := 34) dX8_packet_11 rfl (fun c2 => ?_) (fun c2 => ?_)
    · replace h := h.1 c2
      refine jv_bipush dX8_packet_34 ci_bipush_m2 ?_
      exact jm_ireturn dX8_packet_36 rfl h
    · replace h := h.2 c2
      refine jv_iload_n dX8_packet_14 rfl ?_
      refine jv_iconst dX8_packet_15 ci_iconst_0 ?_
      refine jv_iconst dX8_packet_16 ci_iconst_2 ?_
      refine jm_callSi [.int a3, .int 0, .int 2] cw_8_125 dX8_packet_17 rfl (Nat.le_of_ble_eq_true rfl) (Nat.le_of_ble_eq_true rfl) (p_X8_in  ?_)
      refine jv_if_ne (t := 37) dX8_packet_20 rfl (fun c3 => ?_) (fun c3 => ?_)
      · replace h := h.1 c3
        refine jv_iload_n dX8_packet_37 rfl ?_
        refine jv_istore (ls' := [some (.ref 137), some (.int a1), some (.int a2), some (.int a3), some (.int a1), none, none, none, none]) dX8_packet_38 (Nat.le_of_ble_eq_true rfl) rfl ?_
        refine jv_iconst dX8_packet_40 ci_iconst_0 ?_
        refine jv_istore (ls' := [some (.ref 137), some (.int a1), some (.int a2), some (.int a3), some (.int a1), some (.int 0), none, none, none]) dX8_packet_41 (Nat.le_of_ble_eq_true rfl) rfl ?_
        refine jv_iconst dX8_packet_43 ci_iconst_0 ?_
        refine jv_istore (ls' := [some (.ref 137), some (.int a1), some (.int a2), some (.int a3), some (.int a1), some (.int 0), some (.int 0), none, none]) dX8_packet_44 (Nat.le_of_ble_eq_true rfl) rfl ?_
        refine jv_iconst dX8_packet_46 ci_iconst_1 ?_
        refine jv_istore (ls' := [some (.ref 137), some (.int a1), some (.int a2), some (.int a3), some (.int a1), some (.int 0), some (.int 0), some (.int 1), none]) dX8_packet_47 (Nat.le_of_ble_eq_true rfl) rfl ?_
        exact h
      · replace h := h.2 c3
        refine jv_iload_n dX8_packet_23 rfl ?_
        refine jv_bipush dX8_packet_24 ci_bipush_10 ?_
        refine jv_bipush dX8_packet_26 ci_bipush_18 ?_
        refine jm_callSi [.int a3, .int 10, .int 18] cw_8_125 dX8_packet_28 rfl (Nat.le_of_ble_eq_true rfl) (Nat.le_of_ble_eq_true rfl) (p_X8_in  ?_)
        refine jv_if_ne (t := 37) dX8_packet_31 rfl (fun c4 => ?_) (fun c4 => ?_)
        · replace h := h.1 c4
          refine jv_iload_n dX8_packet_37 rfl ?_
          refine jv_istore (ls' := [some (.ref 137), some (.int a1), some (.int a2), some (.int a3), some (.int a1), none, none, none, none]) dX8_packet_38 (Nat.le_of_ble_eq_true rfl) rfl ?_
          refine jv_iconst dX8_packet_40 ci_iconst_0 ?_
          refine jv_istore (ls' := [some (.ref 137), some (.int a1), some (.int a2), some (.int a3), some (.int a1), some (.int 0), none, none, none]) dX8_packet_41 (Nat.le_of_ble_eq_true rfl) rfl ?_
          refine jv_iconst dX8_packet_43 ci_iconst_0 ?_
          refine jv_istore (ls' := [some (.ref 137), some (.int a1), some (.int a2), some (.int a3), some (.int a1), some (.int 0), some (.int 0), none, none]) dX8_packet_44 (Nat.le_of_ble_eq_true rfl) rfl ?_
          refine jv_iconst dX8_packet_46 ci_iconst_1 ?_
          refine jv_istore (ls' := [some (.ref 137), some (.int a1), some (.int a2), some (.int a3), some (.int a1), some (.int 0), some (.int 0), some (.int 1), none]) dX8_packet_47 (Nat.le_of_ble_eq_true rfl) rfl ?_
          exact h
        · replace h := h.2 c4
          refine jv_bipush dX8_packet_34 ci_bipush_m2 ?_
          exact jm_ireturn dX8_packet_36 rfl h
theorem g_X8_packet_49 {E : JE} {u : JM} {K : Int32 → JM → Prop}  {a1 a2 a3 i4 i5 i6 i7 : Int32}
    (h : ((i4 = a2 → ((a3 < 10 → ((¬ a3 = 0 → ((¬ a3 = 1 → K i6 u) ∧
    (a3 = 1 → K i5 u))) ∧
   (a3 = 0 → K i7 u))) ∧
  (¬ a3 < 10 → ((i5 ≤ (a3 - 10) → K (-1) u) ∧
   (¬ i5 ≤ (a3 - 10) → vp_in (a3 - 10) 9 ∧
    K (u 1345 (a3 - 10).toNatClampNeg) u))))) ∧
 (¬ i4 = a2 → ((¬ i7 = 1 → ((a3 < 10 → ((¬ a3 = 0 → ((¬ a3 = 1 → K i6 u) ∧
     (a3 = 1 → K i5 u))) ∧
    (a3 = 0 → K i7 u))) ∧
   (¬ a3 < 10 → ((i5 ≤ (a3 - 10) → K (-1) u) ∧
    (¬ i5 ≤ (a3 - 10) → vp_in (a3 - 10) 9 ∧
     K (u 1345 (a3 - 10).toNatClampNeg) u))))) ∧
  (i7 = 1 → JCu E 6 YX8_tellRoute [.ref 137, .int i4, .int a2] (fun u1 =>
   ((9999 ≤ (u1 137 25) → JVi E 7 YX8_packet K 49 [some (.ref 137), some (.int a1), some (.int a2), some (.int a3), some (.int i4), some (.int i5), some (.int i6), some (.int 0), none] [] u1) ∧
    (¬ 9999 ≤ (u1 137 25) → JCi E 2 YX8_overLink [.ref 137, .int i4, .int (u1 137 26), .int (u1 137 27)] (fun x2 u2 =>
     ((¬ x2 = (-1) → vp_in x2 12 ∧
       ∀ i6_3 : Int32, i6_3 = i6 + (u2 142 (2 * x2 + (if u2 138 x2.toNatClampNeg = i4 then 0 else 1)).toNatClampNeg) →
       vp_in i5 9 ∧
       ∀ u4, u4 = jw u2 1345 i5.toNatClampNeg (u2 137 26) →
       ∀ i7_5 : Int32, i7_5 = (if (u2 137 26) = a2 then i7 else (if (i5 + 1) = 9 then 2 else i7)) →
       JVi E 7 YX8_packet K 49 [some (.ref 137), some (.int a1), some (.int a2), some (.int a3), some (.int (u2 137 26)), some (.int (i5 + 1)), some (.int i6_3), some (.int i7_5), none] [] u4) ∧
      (x2 = (-1) → JVi E 7 YX8_packet K 49 [some (.ref 137), some (.int a1), some (.int a2), some (.int a3), some (.int i4), some (.int i5), some (.int i6), some (.int 0), none] [] u2))) u1))) u)))))
    : JVi E 7 YX8_packet K 49 [some (.ref 137), some (.int a1), some (.int a2), some (.int a3), some (.int i4), some (.int i5), some (.int i6), some (.int i7), none] [] u := by
  refine jv_iload dX8_packet_49 rfl ?_
  refine jv_iload_n dX8_packet_51 rfl ?_
  refine jv_icmp_eq (t := 160) dX8_packet_52 rfl (fun c1 => ?_) (fun c1 => ?_)
  · replace h := h.1 c1
    refine jv_iload_n dX8_packet_160 rfl ?_
    refine jv_bipush dX8_packet_161 ci_bipush_10 ?_
    refine jv_icmp_lt (t := 189) dX8_packet_163 rfl (fun c2 => ?_) (fun c2 => ?_)
    · replace h := h.1 c2
      refine jv_iload_n dX8_packet_189 rfl ?_
      refine jv_if_ne (t := 198) dX8_packet_190 rfl (fun c3 => ?_) (fun c3 => ?_)
      · replace h := h.1 c3
        refine jv_iload_n dX8_packet_198 rfl ?_
        refine jv_iconst dX8_packet_199 ci_iconst_1 ?_
        refine jv_icmp_ne (t := 208) dX8_packet_200 rfl (fun c4 => ?_) (fun c4 => ?_)
        · replace h := h.1 c4
          refine jv_iload dX8_packet_208 rfl ?_
          exact jm_ireturn dX8_packet_210 rfl h
        · replace h := h.2 c4
          refine jv_iload dX8_packet_203 rfl ?_
          refine jv_goto (t := 210) dX8_packet_205 rfl ?_
          exact jm_ireturn dX8_packet_210 rfl h
      · replace h := h.2 c3
        refine jv_iload dX8_packet_193 rfl ?_
        refine jv_goto (t := 210) dX8_packet_195 rfl ?_
        exact jm_ireturn dX8_packet_210 rfl h
    · replace h := h.2 c2
      refine jv_iload_n dX8_packet_166 rfl ?_
      refine jv_bipush dX8_packet_167 ci_bipush_10 ?_
      refine jv_isub dX8_packet_169 ?_
      refine jv_iload dX8_packet_170 rfl ?_
      refine jv_icmp_ge (t := 187) dX8_packet_172 rfl (fun c5 => ?_) (fun c5 => ?_)
      · replace h := h.1 c5
        refine jv_iconst dX8_packet_187 ci_iconst_m1 ?_
        exact jm_ireturn dX8_packet_188 rfl h
      · replace h := h.2 c5
        refine jv_aload_n dX8_packet_175 rfl ?_
        refine gf_8_81 rfl dX8_packet_176 kd_c_137 (lt_c 137 rfl) rf_c_137_31 ?_
        refine jv_iload_n dX8_packet_179 rfl ?_
        refine jv_bipush dX8_packet_180 ci_bipush_10 ?_
        refine jv_isub dX8_packet_182 ?_
        obtain ⟨b7, h⟩ := h
        refine jm_iaload dX8_packet_183 kd_c_1345 (lt_c 1345 rfl) b7 ?_
        refine jv_goto (t := 188) dX8_packet_184 rfl ?_
        exact jm_ireturn dX8_packet_188 rfl h
  · replace h := h.2 c1
    refine jv_iload dX8_packet_55 rfl ?_
    refine jv_iconst dX8_packet_57 ci_iconst_1 ?_
    refine jv_icmp_ne (t := 160) dX8_packet_58 rfl (fun c8 => ?_) (fun c8 => ?_)
    · replace h := h.1 c8
      refine jv_iload_n dX8_packet_160 rfl ?_
      refine jv_bipush dX8_packet_161 ci_bipush_10 ?_
      refine jv_icmp_lt (t := 189) dX8_packet_163 rfl (fun c9 => ?_) (fun c9 => ?_)
      · replace h := h.1 c9
        refine jv_iload_n dX8_packet_189 rfl ?_
        refine jv_if_ne (t := 198) dX8_packet_190 rfl (fun c10 => ?_) (fun c10 => ?_)
        · replace h := h.1 c10
          refine jv_iload_n dX8_packet_198 rfl ?_
          refine jv_iconst dX8_packet_199 ci_iconst_1 ?_
          refine jv_icmp_ne (t := 208) dX8_packet_200 rfl (fun c11 => ?_) (fun c11 => ?_)
          · replace h := h.1 c11
            refine jv_iload dX8_packet_208 rfl ?_
            exact jm_ireturn dX8_packet_210 rfl h
          · replace h := h.2 c11
            refine jv_iload dX8_packet_203 rfl ?_
            refine jv_goto (t := 210) dX8_packet_205 rfl ?_
            exact jm_ireturn dX8_packet_210 rfl h
        · replace h := h.2 c10
          refine jv_iload dX8_packet_193 rfl ?_
          refine jv_goto (t := 210) dX8_packet_195 rfl ?_
          exact jm_ireturn dX8_packet_210 rfl h
      · replace h := h.2 c9
        refine jv_iload_n dX8_packet_166 rfl ?_
        refine jv_bipush dX8_packet_167 ci_bipush_10 ?_
        refine jv_isub dX8_packet_169 ?_
        refine jv_iload dX8_packet_170 rfl ?_
        refine jv_icmp_ge (t := 187) dX8_packet_172 rfl (fun c12 => ?_) (fun c12 => ?_)
        · replace h := h.1 c12
          refine jv_iconst dX8_packet_187 ci_iconst_m1 ?_
          exact jm_ireturn dX8_packet_188 rfl h
        · replace h := h.2 c12
          refine jv_aload_n dX8_packet_175 rfl ?_
          refine gf_8_81 rfl dX8_packet_176 kd_c_137 (lt_c 137 rfl) rf_c_137_31 ?_
          refine jv_iload_n dX8_packet_179 rfl ?_
          refine jv_bipush dX8_packet_180 ci_bipush_10 ?_
          refine jv_isub dX8_packet_182 ?_
          obtain ⟨b14, h⟩ := h
          refine jm_iaload dX8_packet_183 kd_c_1345 (lt_c 1345 rfl) b14 ?_
          refine jv_goto (t := 188) dX8_packet_184 rfl ?_
          exact jm_ireturn dX8_packet_188 rfl h
    · replace h := h.2 c8
      refine jv_aload_n dX8_packet_61 rfl ?_
      refine jv_iload dX8_packet_62 rfl ?_
      refine jv_iload_n dX8_packet_64 rfl ?_
      refine jm_callVu [.int i4, .int a2] cw_8_254 dX8_packet_65 rfl (Nat.le_of_ble_eq_true rfl) kd_c_137 (r := (RX8, TX8, 48)) rfl rfl (lt_c 137 rfl) (Nat.le_of_ble_eq_true rfl) (JCu.mono h (fun u1 h => ?_))
      refine jv_aload_n dX8_packet_68 rfl ?_
      refine gf_8_183 rfl dX8_packet_69 kd_c_137 (lt_c 137 rfl) ?_
      refine jv_sipush dX8_packet_72 ci_sipush_9999 ?_
      refine jv_icmp_ge (t := 95) dX8_packet_75 rfl (fun c15 => ?_) (fun c15 => ?_)
      · replace h := h.1 c15
        refine jv_iconst dX8_packet_95 ci_iconst_m1 ?_
        refine jv_istore (ls' := [some (.ref 137), some (.int a1), some (.int a2), some (.int a3), some (.int i4), some (.int i5), some (.int i6), some (.int i7), some (.int (-1))]) dX8_packet_96 (Nat.le_of_ble_eq_true rfl) rfl ?_
        refine jv_iload dX8_packet_98 rfl ?_
        refine jv_iconst dX8_packet_100 ci_iconst_m1 ?_
        refine jv_icmp_ne (t := 110) dX8_packet_101 rfl (fun c16 => ?_) (fun c16 => ?_)
        · exact False.elim (by revert c16; decide)
        · refine jv_iconst dX8_packet_104 ci_iconst_0 ?_
          refine jv_istore (ls' := [some (.ref 137), some (.int a1), some (.int a2), some (.int a3), some (.int i4), some (.int i5), some (.int i6), some (.int 0), some (.int (-1))]) dX8_packet_105 (Nat.le_of_ble_eq_true rfl) rfl ?_
          refine jv_goto (t := 157) dX8_packet_107 rfl ?_
          refine jv_goto (t := 49) dX8_packet_157 rfl ?_
          exact jm_sub (ls' := [some (.ref 137), some (.int a1), some (.int a2), some (.int a3), some (.int i4), some (.int i5), some (.int i6), some (.int 0), none]) ⟨rfl, rfl, rfl, rfl, rfl, rfl, rfl, rfl, trivial⟩ h
      · replace h := h.2 c15
        refine jv_aload_n dX8_packet_78 rfl ?_
        refine jv_iload dX8_packet_79 rfl ?_
        refine jv_aload_n dX8_packet_81 rfl ?_
        refine gf_8_186 rfl dX8_packet_82 kd_c_137 (lt_c 137 rfl) ?_
        refine jv_aload_n dX8_packet_85 rfl ?_
        refine gf_8_189 rfl dX8_packet_86 kd_c_137 (lt_c 137 rfl) ?_
        refine jm_callVi [.int i4, .int (u1 137 26), .int (u1 137 27)] cw_8_257 dX8_packet_89 rfl (Nat.le_of_ble_eq_true rfl) kd_c_137 (r := (RX8, TX8, 48)) rfl rfl (lt_c 137 rfl) (Nat.le_of_ble_eq_true rfl) (JCi.mono h (fun x2 u2 h => ?_))
        refine jv_goto (t := 96) dX8_packet_92 rfl ?_
        refine jv_istore (ls' := [some (.ref 137), some (.int a1), some (.int a2), some (.int a3), some (.int i4), some (.int i5), some (.int i6), some (.int i7), some (.int x2)]) dX8_packet_96 (Nat.le_of_ble_eq_true rfl) rfl ?_
        refine jv_iload dX8_packet_98 rfl ?_
        refine jv_iconst dX8_packet_100 ci_iconst_m1 ?_
        refine jv_icmp_ne (t := 110) dX8_packet_101 rfl (fun c17 => ?_) (fun c17 => ?_)
        · replace h := h.1 c17
          refine jv_iload dX8_packet_110 rfl ?_
          refine jv_aload_n dX8_packet_112 rfl ?_
          refine jv_iload dX8_packet_113 rfl ?_
          refine jv_iload dX8_packet_115 rfl ?_
          obtain ⟨b19, h⟩ := h
          refine jm_callVi [.int x2, .int i4] cw_8_151 dX8_packet_117 rfl (Nat.le_of_ble_eq_true rfl) kd_c_137 (r := (RX8, TX8, 48)) rfl rfl (lt_c 137 rfl) (Nat.le_of_ble_eq_true rfl) (p_X8_priceFrom b19 ?_)
          refine jv_iadd dX8_packet_120 ?_
          generalize hhi6_3 : i6 + (u2 142 (2 * x2 + (if u2 138 x2.toNatClampNeg = i4 then 0 else 1)).toNatClampNeg) = i6_3
          replace h := h i6_3 hhi6_3.symm
          refine jv_istore (ls' := [some (.ref 137), some (.int a1), some (.int a2), some (.int a3), some (.int i4), some (.int i5), some (.int i6_3), some (.int i7), some (.int x2)]) dX8_packet_121 (Nat.le_of_ble_eq_true rfl) rfl ?_
          refine jv_aload_n dX8_packet_123 rfl ?_
          refine gf_8_186 rfl dX8_packet_124 kd_c_137 (lt_c 137 rfl) ?_
          refine jv_istore (ls' := [some (.ref 137), some (.int a1), some (.int a2), some (.int a3), some (.int (u2 137 26)), some (.int i5), some (.int i6_3), some (.int i7), some (.int x2)]) dX8_packet_127 (Nat.le_of_ble_eq_true rfl) rfl ?_
          refine jv_aload_n dX8_packet_129 rfl ?_
          refine gf_8_81 rfl dX8_packet_130 kd_c_137 (lt_c 137 rfl) rf_c_137_31 ?_
          refine jv_iload dX8_packet_133 rfl ?_
          refine jv_iload dX8_packet_135 rfl ?_
          obtain ⟨b20, h⟩ := h
          refine jm_iastore dX8_packet_137 kd_c_1345 (lt_c 1345 rfl) b20 ?_
          generalize hhu4 : jw u2 1345 i5.toNatClampNeg (u2 137 26) = u4
          replace h := h u4 hhu4.symm
          refine jv_iinc (v := i5 + 1) (ls' := [some (.ref 137), some (.int a1), some (.int a2), some (.int a3), some (.int (u2 137 26)), some (.int (i5 + 1)), some (.int i6_3), some (.int i7), some (.int x2)]) dX8_packet_138 (Nat.le_of_ble_eq_true rfl) rfl (by rw [ci_iconst_1]) rfl ?_
          refine jv_iload dX8_packet_141 rfl ?_
          refine jv_iload_n dX8_packet_143 rfl ?_
          have key22 : ∀ i7_5 : Int32, i7_5 = (if (u2 137 26) = a2 then i7 else (if (i5 + 1) = 9 then 2 else i7)) → JVi E 7 YX8_packet K 157 [some (.ref 137), some (.int a1), some (.int a2), some (.int a3), some (.int (u2 137 26)), some (.int (i5 + 1)), some (.int i6_3), some (.int i7_5), some (.int x2)] [] u4 := by
            intro i7_5 hi7_5
            replace h := h i7_5 hi7_5
            refine jv_goto (t := 49) dX8_packet_157 rfl ?_
            exact jm_sub (ls' := [some (.ref 137), some (.int a1), some (.int a2), some (.int a3), some (.int (u2 137 26)), some (.int (i5 + 1)), some (.int i6_3), some (.int i7_5), none]) ⟨rfl, rfl, rfl, rfl, rfl, rfl, rfl, rfl, trivial⟩ h
          clear h
          refine jv_icmp_eq (t := 157) dX8_packet_144 rfl (fun c23 => ?_) (fun c23 => ?_)
          · exact key22 _ (Eq.trans rfl (if_pos c23).symm)
          · refine jv_iload dX8_packet_147 rfl ?_
            refine jv_bipush dX8_packet_149 ci_bipush_9 ?_
            refine jv_icmp_ne (t := 157) dX8_packet_151 rfl (fun c24 => ?_) (fun c24 => ?_)
            · exact key22 _ (Eq.trans (Eq.trans rfl (if_neg c24).symm) (if_neg c23).symm)
            · refine jv_iconst dX8_packet_154 ci_iconst_2 ?_
              refine jv_istore (ls' := [some (.ref 137), some (.int a1), some (.int a2), some (.int a3), some (.int (u2 137 26)), some (.int (i5 + 1)), some (.int i6_3), some (.int 2), some (.int x2)]) dX8_packet_155 (Nat.le_of_ble_eq_true rfl) rfl ?_
              exact key22 _ (Eq.trans (Eq.trans rfl (if_pos c24).symm) (if_neg c23).symm)
        · replace h := h.2 c17
          refine jv_iconst dX8_packet_104 ci_iconst_0 ?_
          refine jv_istore (ls' := [some (.ref 137), some (.int a1), some (.int a2), some (.int a3), some (.int i4), some (.int i5), some (.int i6), some (.int 0), some (.int x2)]) dX8_packet_105 (Nat.le_of_ble_eq_true rfl) rfl ?_
          refine jv_goto (t := 157) dX8_packet_107 rfl ?_
          refine jv_goto (t := 49) dX8_packet_157 rfl ?_
          exact jm_sub (ls' := [some (.ref 137), some (.int a1), some (.int a2), some (.int a3), some (.int i4), some (.int i5), some (.int i6), some (.int 0), none]) ⟨rfl, rfl, rfl, rfl, rfl, rfl, rfl, rfl, trivial⟩ h
theorem g_X8_trulyWithout_0 {E : JE} {u : JM} {K : Int32 → JM → Prop}  {a1 a2 a3 : Int32}
    (h : JVi E 2 YX8_trulyWithout K 3 [some (.ref 137), some (.int a1), some (.int a2), some (.int a3), some (.int 0), none] [] u)
    : JVi E 2 YX8_trulyWithout K 0 [some (.ref 137), some (.int a1), some (.int a2), some (.int a3), none, none] [] u := by
  refine jv_iconst dX8_trulyWithout_0 ci_iconst_0 ?_
  refine jv_istore (ls' := [some (.ref 137), some (.int a1), some (.int a2), some (.int a3), some (.int 0), none]) dX8_trulyWithout_1 (Nat.le_of_ble_eq_true rfl) rfl ?_
  exact h
theorem g_X8_trulyWithout_3 {E : JE} {u : JM} {K : Int32 → JM → Prop}  {a1 a2 a3 i4 : Int32}
    (h : ((8 ≤ i4 → JVi E 2 YX8_trulyWithout K 39 [some (.ref 137), some (.int a1), some (.int a2), some (.int a3), some (.int 0), none] [] u) ∧
 (¬ 8 ≤ i4 → ∀ v_1 : Int32, v_1 = (if i4 = a1 then 0 else 9999) →
  vp_in i4 8 ∧
  ∀ u2, u2 = jw u 1341 i4.toNatClampNeg v_1 →
  JVi E 2 YX8_trulyWithout K 3 [some (.ref 137), some (.int a1), some (.int a2), some (.int a3), some (.int (i4 + 1)), none] [] u2)))
    : JVi E 2 YX8_trulyWithout K 3 [some (.ref 137), some (.int a1), some (.int a2), some (.int a3), some (.int i4), none] [] u := by
  refine jv_iload dX8_trulyWithout_3 rfl ?_
  refine jv_bipush dX8_trulyWithout_5 ci_bipush_8 ?_
  refine jv_icmp_ge (t := 36) dX8_trulyWithout_7 rfl (fun c1 => ?_) (fun c1 => ?_)
  · replace h := h.1 c1
    refine jv_iconst dX8_trulyWithout_36 ci_iconst_0 ?_
    refine jv_istore (ls' := [some (.ref 137), some (.int a1), some (.int a2), some (.int a3), some (.int 0), none]) dX8_trulyWithout_37 (Nat.le_of_ble_eq_true rfl) rfl ?_
    exact h
  · replace h := h.2 c1
    refine jv_aload_n dX8_trulyWithout_10 rfl ?_
    refine gf_8_69 rfl dX8_trulyWithout_11 kd_c_137 (lt_c 137 rfl) rf_c_137_23 ?_
    refine jv_iload dX8_trulyWithout_14 rfl ?_
    refine jv_iload dX8_trulyWithout_16 rfl ?_
    refine jv_iload_n dX8_trulyWithout_18 rfl ?_
    have key4 : ∀ v_1 : Int32, v_1 = (if i4 = a1 then 0 else 9999) → JVi E 2 YX8_trulyWithout K 29 [some (.ref 137), some (.int a1), some (.int a2), some (.int a3), some (.int i4), none] [.int v_1, .int i4, .ref 1341] u := by
      intro v_1 hv_1
      replace h := h v_1 hv_1
      obtain ⟨b3, h⟩ := h
      refine jm_iastore dX8_trulyWithout_29 kd_c_1341 (lt_c 1341 rfl) b3 ?_
      generalize hhu2 : jw u 1341 i4.toNatClampNeg v_1 = u2
      replace h := h u2 hhu2.symm
      refine jv_iinc (v := i4 + 1) (ls' := [some (.ref 137), some (.int a1), some (.int a2), some (.int a3), some (.int (i4 + 1)), none]) dX8_trulyWithout_30 (Nat.le_of_ble_eq_true rfl) rfl (by rw [ci_iconst_1]) rfl ?_
      refine jv_goto (t := 3) dX8_trulyWithout_33 rfl ?_
      exact h
    clear h
    refine jv_icmp_ne (t := 26) dX8_trulyWithout_19 rfl (fun c5 => ?_) (fun c5 => ?_)
    · refine jv_sipush dX8_trulyWithout_26 ci_sipush_9999 ?_
      exact key4 _ (Eq.trans rfl (if_neg c5).symm)
    · refine jv_iconst dX8_trulyWithout_22 ci_iconst_0 ?_
      refine jv_goto (t := 29) dX8_trulyWithout_23 rfl ?_
      exact key4 _ (Eq.trans rfl (if_pos c5).symm)
theorem g_X8_trulyWithout_39 {E : JE} {u : JM} {K : Int32 → JM → Prop}  {a1 a2 a3 i4 : Int32}
    (h : ((8 ≤ i4 → vp_in a2 8 ∧
  K (if 9999 ≤ (u 1341 a2.toNatClampNeg) then 9999 else (u 1341 a2.toNatClampNeg)) u) ∧
 (¬ 8 ≤ i4 → JVi E 2 YX8_trulyWithout K 49 [some (.ref 137), some (.int a1), some (.int a2), some (.int a3), some (.int i4), some (.int 0)] [] u)))
    : JVi E 2 YX8_trulyWithout K 39 [some (.ref 137), some (.int a1), some (.int a2), some (.int a3), some (.int i4), none] [] u := by
  refine jv_iload dX8_trulyWithout_39 rfl ?_
  refine jv_bipush dX8_trulyWithout_41 ci_bipush_8 ?_
  refine jv_icmp_ge (t := 189) dX8_trulyWithout_43 rfl (fun c1 => ?_) (fun c1 => ?_)
  · replace h := h.1 c1
    refine jv_sipush dX8_trulyWithout_189 ci_sipush_9999 ?_
    refine jv_aload_n dX8_trulyWithout_192 rfl ?_
    refine gf_8_69 rfl dX8_trulyWithout_193 kd_c_137 (lt_c 137 rfl) rf_c_137_23 ?_
    refine jv_iload_n dX8_trulyWithout_196 rfl ?_
    obtain ⟨b2, h⟩ := h
    refine jm_iaload dX8_trulyWithout_197 kd_c_1341 (lt_c 1341 rfl) b2 ?_
    refine jm_callSi [.int 9999, .int (u 1341 a2.toNatClampNeg)] cw_8_208 dX8_trulyWithout_198 rfl (Nat.le_of_ble_eq_true rfl) (Nat.le_of_ble_eq_true rfl) (p_J9_min_7cf53  ?_)
    exact jm_ireturn dX8_trulyWithout_201 rfl h
  · replace h := h.2 c1
    refine jv_iconst dX8_trulyWithout_46 ci_iconst_0 ?_
    refine jv_istore (ls' := [some (.ref 137), some (.int a1), some (.int a2), some (.int a3), some (.int i4), some (.int 0)]) dX8_trulyWithout_47 (Nat.le_of_ble_eq_true rfl) rfl ?_
    exact h
theorem g_X8_trulyWithout_49 {E : JE} {u : JM} {K : Int32 → JM → Prop}  {a1 a2 a3 i4 i5 : Int32}
    (h : (((u 137 0) ≤ i5 → JVi E 2 YX8_trulyWithout K 39 [some (.ref 137), some (.int a1), some (.int a2), some (.int a3), some (.int (i4 + 1)), none] [] u) ∧
 (¬ (u 137 0) ≤ i5 → vp_in i5 12 ∧
  (((u 141 i5.toNatClampNeg) = 0 → JVi E 2 YX8_trulyWithout K 49 [some (.ref 137), some (.int a1), some (.int a2), some (.int a3), some (.int i4), some (.int (i5 + 1))] [] u) ∧
  (¬ (u 141 i5.toNatClampNeg) = 0 → ((¬ i5 = a3 → vp_in (u 139 i5.toNatClampNeg) 8 ∧
    vp_in (u 138 i5.toNatClampNeg) 8 ∧
    vp_in (2 * i5) 24 ∧
    ∀ u1, u1 = jw u 1341 (u 139 i5.toNatClampNeg).toNatClampNeg (if (u 1341 (u 139 i5.toNatClampNeg).toNatClampNeg) ≤ ((u 1341 (u 138 i5.toNatClampNeg).toNatClampNeg) + (u 142 (2 * i5).toNatClampNeg)) then (u 1341 (u 139 i5.toNatClampNeg).toNatClampNeg) else ((u 1341 (u 138 i5.toNatClampNeg).toNatClampNeg) + (u 142 (2 * i5).toNatClampNeg))) →
    vp_in (u1 138 i5.toNatClampNeg) 8 ∧
    vp_in (u1 139 i5.toNatClampNeg) 8 ∧
    vp_in ((2 * i5) + 1) 24 ∧
    ∀ u2, u2 = jw u1 1341 (u1 138 i5.toNatClampNeg).toNatClampNeg (if (u1 1341 (u1 138 i5.toNatClampNeg).toNatClampNeg) ≤ ((u1 1341 (u1 139 i5.toNatClampNeg).toNatClampNeg) + (u1 142 ((2 * i5) + 1).toNatClampNeg)) then (u1 1341 (u1 138 i5.toNatClampNeg).toNatClampNeg) else ((u1 1341 (u1 139 i5.toNatClampNeg).toNatClampNeg) + (u1 142 ((2 * i5) + 1).toNatClampNeg))) →
    JVi E 2 YX8_trulyWithout K 49 [some (.ref 137), some (.int a1), some (.int a2), some (.int a3), some (.int i4), some (.int (i5 + 1))] [] u2) ∧
   (i5 = a3 → JVi E 2 YX8_trulyWithout K 49 [some (.ref 137), some (.int a1), some (.int a2), some (.int a3), some (.int i4), some (.int (i5 + 1))] [] u)))))))
    : JVi E 2 YX8_trulyWithout K 49 [some (.ref 137), some (.int a1), some (.int a2), some (.int a3), some (.int i4), some (.int i5)] [] u := by
  refine jv_iload dX8_trulyWithout_49 rfl ?_
  refine jv_aload_n dX8_trulyWithout_51 rfl ?_
  refine gf_8_129 rfl dX8_trulyWithout_52 kd_c_137 (lt_c 137 rfl) ?_
  refine jv_icmp_ge (t := 183) dX8_trulyWithout_55 rfl (fun c1 => ?_) (fun c1 => ?_)
  · replace h := h.1 c1
    refine jv_iinc (v := i4 + 1) (ls' := [some (.ref 137), some (.int a1), some (.int a2), some (.int a3), some (.int (i4 + 1)), some (.int i5)]) dX8_trulyWithout_183 (Nat.le_of_ble_eq_true rfl) rfl (by rw [ci_iconst_1]) rfl ?_
    refine jv_goto (t := 39) dX8_trulyWithout_186 rfl ?_
    exact jm_sub (ls' := [some (.ref 137), some (.int a1), some (.int a2), some (.int a3), some (.int (i4 + 1)), none]) ⟨rfl, rfl, rfl, rfl, rfl, trivial⟩ h
  · replace h := h.2 c1
    refine jv_aload_n dX8_trulyWithout_58 rfl ?_
    refine gf_8_19 rfl dX8_trulyWithout_59 kd_c_137 (lt_c 137 rfl) rf_c_137_4 ?_
    refine jv_iload dX8_trulyWithout_62 rfl ?_
    obtain ⟨b7, h⟩ := h
    refine jm_iaload dX8_trulyWithout_64 kd_c_141 (lt_c 141 rfl) b7 ?_
    refine jv_if_eq (t := 177) dX8_trulyWithout_65 rfl (fun c8 => ?_) (fun c8 => ?_)
    · replace h := h.1 c8
      refine jv_iinc (v := i5 + 1) (ls' := [some (.ref 137), some (.int a1), some (.int a2), some (.int a3), some (.int i4), some (.int (i5 + 1))]) dX8_trulyWithout_177 (Nat.le_of_ble_eq_true rfl) rfl (by rw [ci_iconst_1]) rfl ?_
      refine jv_goto (t := 49) dX8_trulyWithout_180 rfl ?_
      exact h
    · replace h := h.2 c8
      refine jv_iload dX8_trulyWithout_68 rfl ?_
      refine jv_iload_n dX8_trulyWithout_70 rfl ?_
      refine jv_icmp_ne (t := 77) dX8_trulyWithout_71 rfl (fun c12 => ?_) (fun c12 => ?_)
      · replace h := h.1 c12
        refine jv_aload_n dX8_trulyWithout_77 rfl ?_
        refine gf_8_69 rfl dX8_trulyWithout_78 kd_c_137 (lt_c 137 rfl) rf_c_137_23 ?_
        refine jv_aload_n dX8_trulyWithout_81 rfl ?_
        refine gf_8_13 rfl dX8_trulyWithout_82 kd_c_137 (lt_c 137 rfl) rf_c_137_2 ?_
        refine jv_iload dX8_trulyWithout_85 rfl ?_
        refine jm_iaload dX8_trulyWithout_87 kd_c_139 (lt_c 139 rfl) b7 ?_
        refine jv_aload_n dX8_trulyWithout_88 rfl ?_
        refine gf_8_69 rfl dX8_trulyWithout_89 kd_c_137 (lt_c 137 rfl) rf_c_137_23 ?_
        refine jv_aload_n dX8_trulyWithout_92 rfl ?_
        refine gf_8_13 rfl dX8_trulyWithout_93 kd_c_137 (lt_c 137 rfl) rf_c_137_2 ?_
        refine jv_iload dX8_trulyWithout_96 rfl ?_
        refine jm_iaload dX8_trulyWithout_98 kd_c_139 (lt_c 139 rfl) b7 ?_
        obtain ⟨b16, h⟩ := h
        refine jm_iaload dX8_trulyWithout_99 kd_c_1341 (lt_c 1341 rfl) b16 ?_
        refine jv_aload_n dX8_trulyWithout_100 rfl ?_
        refine gf_8_69 rfl dX8_trulyWithout_101 kd_c_137 (lt_c 137 rfl) rf_c_137_23 ?_
        refine jv_aload_n dX8_trulyWithout_104 rfl ?_
        refine gf_8_9 rfl dX8_trulyWithout_105 kd_c_137 (lt_c 137 rfl) rf_c_137_1 ?_
        refine jv_iload dX8_trulyWithout_108 rfl ?_
        refine jm_iaload dX8_trulyWithout_110 kd_c_138 (lt_c 138 rfl) b7 ?_
        obtain ⟨b17, h⟩ := h
        refine jm_iaload dX8_trulyWithout_111 kd_c_1341 (lt_c 1341 rfl) b17 ?_
        refine jv_aload_n dX8_trulyWithout_112 rfl ?_
        refine gf_8_22 rfl dX8_trulyWithout_113 kd_c_137 (lt_c 137 rfl) rf_c_137_5 ?_
        refine jv_iconst dX8_trulyWithout_116 ci_iconst_2 ?_
        refine jv_iload dX8_trulyWithout_117 rfl ?_
        refine jv_imul dX8_trulyWithout_119 ?_
        obtain ⟨b18, h⟩ := h
        refine jm_iaload dX8_trulyWithout_120 kd_c_142 (lt_c 142 rfl) b18 ?_
        refine jv_iadd dX8_trulyWithout_121 ?_
        refine jm_callSi [.int (u 1341 (u 139 i5.toNatClampNeg).toNatClampNeg), .int ((u 1341 (u 138 i5.toNatClampNeg).toNatClampNeg) + (u 142 (2 * i5).toNatClampNeg))] cw_8_208 dX8_trulyWithout_122 rfl (Nat.le_of_ble_eq_true rfl) (Nat.le_of_ble_eq_true rfl) (p_J9_min_7cf53  ?_)
        refine jm_iastore dX8_trulyWithout_125 kd_c_1341 (lt_c 1341 rfl) b16 ?_
        generalize hhu1 : jw u 1341 (u 139 i5.toNatClampNeg).toNatClampNeg (if (u 1341 (u 139 i5.toNatClampNeg).toNatClampNeg) ≤ ((u 1341 (u 138 i5.toNatClampNeg).toNatClampNeg) + (u 142 (2 * i5).toNatClampNeg)) then (u 1341 (u 139 i5.toNatClampNeg).toNatClampNeg) else ((u 1341 (u 138 i5.toNatClampNeg).toNatClampNeg) + (u 142 (2 * i5).toNatClampNeg))) = u1
        replace h := h u1 hhu1.symm
        refine jv_aload_n dX8_trulyWithout_126 rfl ?_
        refine gf_8_69 rfl dX8_trulyWithout_127 kd_c_137 (lt_c 137 rfl) rf_c_137_23 ?_
        refine jv_aload_n dX8_trulyWithout_130 rfl ?_
        refine gf_8_9 rfl dX8_trulyWithout_131 kd_c_137 (lt_c 137 rfl) rf_c_137_1 ?_
        refine jv_iload dX8_trulyWithout_134 rfl ?_
        refine jm_iaload dX8_trulyWithout_136 kd_c_138 (lt_c 138 rfl) b7 ?_
        refine jv_aload_n dX8_trulyWithout_137 rfl ?_
        refine gf_8_69 rfl dX8_trulyWithout_138 kd_c_137 (lt_c 137 rfl) rf_c_137_23 ?_
        refine jv_aload_n dX8_trulyWithout_141 rfl ?_
        refine gf_8_9 rfl dX8_trulyWithout_142 kd_c_137 (lt_c 137 rfl) rf_c_137_1 ?_
        refine jv_iload dX8_trulyWithout_145 rfl ?_
        refine jm_iaload dX8_trulyWithout_147 kd_c_138 (lt_c 138 rfl) b7 ?_
        obtain ⟨b19, h⟩ := h
        refine jm_iaload dX8_trulyWithout_148 kd_c_1341 (lt_c 1341 rfl) b19 ?_
        refine jv_aload_n dX8_trulyWithout_149 rfl ?_
        refine gf_8_69 rfl dX8_trulyWithout_150 kd_c_137 (lt_c 137 rfl) rf_c_137_23 ?_
        refine jv_aload_n dX8_trulyWithout_153 rfl ?_
        refine gf_8_13 rfl dX8_trulyWithout_154 kd_c_137 (lt_c 137 rfl) rf_c_137_2 ?_
        refine jv_iload dX8_trulyWithout_157 rfl ?_
        refine jm_iaload dX8_trulyWithout_159 kd_c_139 (lt_c 139 rfl) b7 ?_
        obtain ⟨b20, h⟩ := h
        refine jm_iaload dX8_trulyWithout_160 kd_c_1341 (lt_c 1341 rfl) b20 ?_
        refine jv_aload_n dX8_trulyWithout_161 rfl ?_
        refine gf_8_22 rfl dX8_trulyWithout_162 kd_c_137 (lt_c 137 rfl) rf_c_137_5 ?_
        refine jv_iconst dX8_trulyWithout_165 ci_iconst_2 ?_
        refine jv_iload dX8_trulyWithout_166 rfl ?_
        refine jv_imul dX8_trulyWithout_168 ?_
        refine jv_iconst dX8_trulyWithout_169 ci_iconst_1 ?_
        refine jv_iadd dX8_trulyWithout_170 ?_
        obtain ⟨b21, h⟩ := h
        refine jm_iaload dX8_trulyWithout_171 kd_c_142 (lt_c 142 rfl) b21 ?_
        refine jv_iadd dX8_trulyWithout_172 ?_
        refine jm_callSi [.int (u1 1341 (u1 138 i5.toNatClampNeg).toNatClampNeg), .int ((u1 1341 (u1 139 i5.toNatClampNeg).toNatClampNeg) + (u1 142 ((2 * i5) + 1).toNatClampNeg))] cw_8_208 dX8_trulyWithout_173 rfl (Nat.le_of_ble_eq_true rfl) (Nat.le_of_ble_eq_true rfl) (p_J9_min_7cf53  ?_)
        refine jm_iastore dX8_trulyWithout_176 kd_c_1341 (lt_c 1341 rfl) b19 ?_
        generalize hhu2 : jw u1 1341 (u1 138 i5.toNatClampNeg).toNatClampNeg (if (u1 1341 (u1 138 i5.toNatClampNeg).toNatClampNeg) ≤ ((u1 1341 (u1 139 i5.toNatClampNeg).toNatClampNeg) + (u1 142 ((2 * i5) + 1).toNatClampNeg)) then (u1 1341 (u1 138 i5.toNatClampNeg).toNatClampNeg) else ((u1 1341 (u1 139 i5.toNatClampNeg).toNatClampNeg) + (u1 142 ((2 * i5) + 1).toNatClampNeg))) = u2
        replace h := h u2 hhu2.symm
        refine jv_iinc (v := i5 + 1) (ls' := [some (.ref 137), some (.int a1), some (.int a2), some (.int a3), some (.int i4), some (.int (i5 + 1))]) dX8_trulyWithout_177 (Nat.le_of_ble_eq_true rfl) rfl (by rw [ci_iconst_1]) rfl ?_
        refine jv_goto (t := 49) dX8_trulyWithout_180 rfl ?_
        exact h
      · replace h := h.2 c12
        refine jv_goto (t := 177) dX8_trulyWithout_74 rfl ?_
        refine jv_iinc (v := i5 + 1) (ls' := [some (.ref 137), some (.int a1), some (.int a2), some (.int a3), some (.int i4), some (.int (i5 + 1))]) dX8_trulyWithout_177 (Nat.le_of_ble_eq_true rfl) rfl (by rw [ci_iconst_1]) rfl ?_
        refine jv_goto (t := 49) dX8_trulyWithout_180 rfl ?_
        exact h
theorem g_X8_truly_0 {E : JE} {u : JM} {K : Int32 → JM → Prop}  {a1 a2 : Int32}
    (h : JCi E 2 YX8_isRouter [.int a1] (fun x1 u1 =>
 ((x1 = 0 → K (-2) u1) ∧
  (¬ x1 = 0 → JCi E 2 YX8_isRouter [.int a2] (fun x2 u2 =>
   ((x2 = 0 → K (-2) u2) ∧
    (¬ x2 = 0 → JCi E 2 YX8_trulyWithout [.ref 137, .int a1, .int a2, .int (-1)] (fun x3 u3 =>
     K x3 u3) u2))) u1))) u)
    : JVi E 3 YX8_truly K 0 [some (.ref 137), some (.int a1), some (.int a2)] [] u := by
  refine jv_iload_n dX8_truly_0 rfl ?_
  refine jm_callSi [.int a1] cw_8_141 dX8_truly_1 rfl (Nat.le_of_ble_eq_true rfl) (Nat.le_of_ble_eq_true rfl) (JCi.mono h (fun x1 u1 h => ?_))
  refine jv_if_eq (t := 24) dX8_truly_4 rfl (fun c1 => ?_) (fun c1 => ?_)
  · replace h := h.1 c1
    refine jv_bipush dX8_truly_24 ci_bipush_m2 ?_
    exact jm_ireturn dX8_truly_26 rfl h
  · replace h := h.2 c1
    refine jv_iload_n dX8_truly_7 rfl ?_
    refine jm_callSi [.int a2] cw_8_141 dX8_truly_8 rfl (Nat.le_of_ble_eq_true rfl) (Nat.le_of_ble_eq_true rfl) (JCi.mono h (fun x2 u2 h => ?_))
    refine jv_if_eq (t := 24) dX8_truly_11 rfl (fun c2 => ?_) (fun c2 => ?_)
    · replace h := h.1 c2
      refine jv_bipush dX8_truly_24 ci_bipush_m2 ?_
      exact jm_ireturn dX8_truly_26 rfl h
    · replace h := h.2 c2
      refine jv_aload_n dX8_truly_14 rfl ?_
      refine jv_iload_n dX8_truly_15 rfl ?_
      refine jv_iload_n dX8_truly_16 rfl ?_
      refine jv_iconst dX8_truly_17 ci_iconst_m1 ?_
      refine jm_callVi [.int a1, .int a2, .int (-1)] cw_8_260 dX8_truly_18 rfl (Nat.le_of_ble_eq_true rfl) kd_c_137 (r := (RX8, TX8, 48)) rfl rfl (lt_c 137 rfl) (Nat.le_of_ble_eq_true rfl) (JCi.mono h (fun x3 u3 h => ?_))
      refine jv_goto (t := 26) dX8_truly_21 rfl ?_
      exact jm_ireturn dX8_truly_26 rfl h
theorem g_X8_cuts_0 {E : JE} {u : JM} {K : Int32 → JM → Prop}  {a1 a2 : Int32}
    (h : JCi E 2 YX8_isRouter [.int a1] (fun x1 u1 =>
 ((x1 = 0 → K (-2) u1) ∧
  (¬ x1 = 0 → JCi E 2 YX8_isRouter [.int a2] (fun x2 u2 =>
   ((¬ x2 = 0 → JCi E 2 YX8_trulyWithout [.ref 137, .int a1, .int a2, .int (-1)] (fun x3 u3 =>
     ((¬ x3 = 9999 → JVi E 3 YX8_cuts K 37 [some (.ref 137), some (.int a1), some (.int a2), some (.int 0), some (.int 0)] [] u3) ∧
      (x3 = 9999 → K 0 u3))) u2) ∧
    (x2 = 0 → K (-2) u2))) u1))) u)
    : JVi E 3 YX8_cuts K 0 [some (.ref 137), some (.int a1), some (.int a2), none, none] [] u := by
  refine jv_iload_n dX8_cuts_0 rfl ?_
  refine jm_callSi [.int a1] cw_8_141 dX8_cuts_1 rfl (Nat.le_of_ble_eq_true rfl) (Nat.le_of_ble_eq_true rfl) (JCi.mono h (fun x1 u1 h => ?_))
  refine jv_if_eq (t := 14) dX8_cuts_4 rfl (fun c1 => ?_) (fun c1 => ?_)
  · replace h := h.1 c1
    refine jv_bipush dX8_cuts_14 ci_bipush_m2 ?_
    exact jm_ireturn dX8_cuts_16 rfl h
  · replace h := h.2 c1
    refine jv_iload_n dX8_cuts_7 rfl ?_
    refine jm_callSi [.int a2] cw_8_141 dX8_cuts_8 rfl (Nat.le_of_ble_eq_true rfl) (Nat.le_of_ble_eq_true rfl) (JCi.mono h (fun x2 u2 h => ?_))
    refine jv_if_ne (t := 17) dX8_cuts_11 rfl (fun c2 => ?_) (fun c2 => ?_)
    · replace h := h.1 c2
      refine jv_iconst dX8_cuts_17 ci_iconst_0 ?_
      refine jv_istore_n (ls' := [some (.ref 137), some (.int a1), some (.int a2), some (.int 0), none]) dX8_cuts_18 (Nat.le_of_ble_eq_true rfl) rfl ?_
      refine jv_aload_n dX8_cuts_19 rfl ?_
      refine jv_iload_n dX8_cuts_20 rfl ?_
      refine jv_iload_n dX8_cuts_21 rfl ?_
      refine jv_iconst dX8_cuts_22 ci_iconst_m1 ?_
      refine jm_callVi [.int a1, .int a2, .int (-1)] cw_8_260 dX8_cuts_23 rfl (Nat.le_of_ble_eq_true rfl) kd_c_137 (r := (RX8, TX8, 48)) rfl rfl (lt_c 137 rfl) (Nat.le_of_ble_eq_true rfl) (JCi.mono h (fun x3 u3 h => ?_))
      refine jv_sipush dX8_cuts_26 ci_sipush_9999 ?_
      refine jv_icmp_ne (t := 34) dX8_cuts_29 rfl (fun c3 => ?_) (fun c3 => ?_)
      · replace h := h.1 c3
        refine jv_iconst dX8_cuts_34 ci_iconst_0 ?_
        refine jv_istore (ls' := [some (.ref 137), some (.int a1), some (.int a2), some (.int 0), some (.int 0)]) dX8_cuts_35 (Nat.le_of_ble_eq_true rfl) rfl ?_
        exact h
      · replace h := h.2 c3
        refine jv_iconst dX8_cuts_32 ci_iconst_0 ?_
        exact jm_ireturn dX8_cuts_33 rfl h
    · replace h := h.2 c2
      refine jv_bipush dX8_cuts_14 ci_bipush_m2 ?_
      exact jm_ireturn dX8_cuts_16 rfl h
theorem g_X8_cuts_37 {E : JE} {u : JM} {K : Int32 → JM → Prop}  {a1 a2 i3 i4 : Int32}
    (h : (((u 137 0) ≤ i4 → K i3 u) ∧
 (¬ (u 137 0) ≤ i4 → vp_in i4 12 ∧
  ((¬ (u 141 i4.toNatClampNeg) = 1 → JVi E 3 YX8_cuts K 37 [some (.ref 137), some (.int a1), some (.int a2), some (.int i3), some (.int (i4 + 1))] [] u) ∧
  ((u 141 i4.toNatClampNeg) = 1 → JCi E 2 YX8_trulyWithout [.ref 137, .int a1, .int a2, .int i4] (fun x1 u1 =>
   ∀ i3_2 : Int32, i3_2 = (if x1 = 9999 then (i3 ||| ((1 : Int32) <<< (i4 &&& 31))) else i3) →
    JVi E 3 YX8_cuts K 37 [some (.ref 137), some (.int a1), some (.int a2), some (.int i3_2), some (.int (i4 + 1))] [] u1) u)))))
    : JVi E 3 YX8_cuts K 37 [some (.ref 137), some (.int a1), some (.int a2), some (.int i3), some (.int i4)] [] u := by
  refine jv_iload dX8_cuts_37 rfl ?_
  refine jv_aload_n dX8_cuts_39 rfl ?_
  refine gf_8_129 rfl dX8_cuts_40 kd_c_137 (lt_c 137 rfl) ?_
  refine jv_icmp_ge (t := 84) dX8_cuts_43 rfl (fun c1 => ?_) (fun c1 => ?_)
  · replace h := h.1 c1
    refine jv_iload_n dX8_cuts_84 rfl ?_
    exact jm_ireturn dX8_cuts_85 rfl h
  · replace h := h.2 c1
    refine jv_aload_n dX8_cuts_46 rfl ?_
    refine gf_8_19 rfl dX8_cuts_47 kd_c_137 (lt_c 137 rfl) rf_c_137_4 ?_
    refine jv_iload dX8_cuts_50 rfl ?_
    obtain ⟨b3, h⟩ := h
    refine jm_iaload dX8_cuts_52 kd_c_141 (lt_c 141 rfl) b3 ?_
    refine jv_iconst dX8_cuts_53 ci_iconst_1 ?_
    refine jv_icmp_ne (t := 78) dX8_cuts_54 rfl (fun c4 => ?_) (fun c4 => ?_)
    · replace h := h.1 c4
      refine jv_iinc (v := i4 + 1) (ls' := [some (.ref 137), some (.int a1), some (.int a2), some (.int i3), some (.int (i4 + 1))]) dX8_cuts_78 (Nat.le_of_ble_eq_true rfl) rfl (by rw [ci_iconst_1]) rfl ?_
      refine jv_goto (t := 37) dX8_cuts_81 rfl ?_
      exact h
    · replace h := h.2 c4
      refine jv_aload_n dX8_cuts_57 rfl ?_
      refine jv_iload_n dX8_cuts_58 rfl ?_
      refine jv_iload_n dX8_cuts_59 rfl ?_
      refine jv_iload dX8_cuts_60 rfl ?_
      refine jm_callVi [.int a1, .int a2, .int i4] cw_8_260 dX8_cuts_62 rfl (Nat.le_of_ble_eq_true rfl) kd_c_137 (r := (RX8, TX8, 48)) rfl rfl (lt_c 137 rfl) (Nat.le_of_ble_eq_true rfl) (JCi.mono h (fun x1 u1 h => ?_))
      refine jv_sipush dX8_cuts_65 ci_sipush_9999 ?_
      have key6 : ∀ i3_2 : Int32, i3_2 = (if x1 = 9999 then (i3 ||| ((1 : Int32) <<< (i4 &&& 31))) else i3) → JVi E 3 YX8_cuts K 78 [some (.ref 137), some (.int a1), some (.int a2), some (.int i3_2), some (.int i4)] [] u1 := by
        intro i3_2 hi3_2
        replace h := h i3_2 hi3_2
        refine jv_iinc (v := i4 + 1) (ls' := [some (.ref 137), some (.int a1), some (.int a2), some (.int i3_2), some (.int (i4 + 1))]) dX8_cuts_78 (Nat.le_of_ble_eq_true rfl) rfl (by rw [ci_iconst_1]) rfl ?_
        refine jv_goto (t := 37) dX8_cuts_81 rfl ?_
        exact h
      clear h
      refine jv_icmp_ne (t := 78) dX8_cuts_68 rfl (fun c7 => ?_) (fun c7 => ?_)
      · exact key6 _ (Eq.trans rfl (if_neg c7).symm)
      · refine jv_iload_n dX8_cuts_71 rfl ?_
        refine jv_iconst dX8_cuts_72 ci_iconst_1 ?_
        refine jv_iload dX8_cuts_73 rfl ?_
        refine jv_ishl dX8_cuts_75 ?_
        refine jv_ior dX8_cuts_76 ?_
        refine jv_istore_n (ls' := [some (.ref 137), some (.int a1), some (.int a2), some (.int (i3 ||| ((1 : Int32) <<< (i4 &&& 31)))), some (.int i4)]) dX8_cuts_77 (Nat.le_of_ble_eq_true rfl) rfl ?_
        exact key6 _ (Eq.trans rfl (if_pos c7).symm)
theorem g_X8_keep_0 {E : JE} {u : JM} {K : JM → Prop}  {a1 : Int32}
    (h : vp_in a1 2 ∧
 ∀ u1, u1 = jw u (1347 + a1.toNatClampNeg) (0 : Int32).toNatClampNeg (u 137 0) →
 ∀ u2, u2 = jw u1 (1347 + a1.toNatClampNeg) (1 : Int32).toNatClampNeg (u1 137 12) →
 ∀ u3, u3 = jw u2 (1347 + a1.toNatClampNeg) (2 : Int32).toNatClampNeg (u2 137 13) →
 ∀ u4, u4 = jw u3 (1347 + a1.toNatClampNeg) (3 : Int32).toNatClampNeg (u3 137 14) →
 JVu E 2 YX8_keep K 50 [some (.ref 137), some (.int a1), some (.int 0)] [] u4)
    : JVu E 2 YX8_keep K 0 [some (.ref 137), some (.int a1), none] [] u := by
  refine jv_aload_n dX8_keep_0 rfl ?_
  refine gf_8_84 rfl dX8_keep_1 kd_c_137 (lt_c 137 rfl) rf_c_137_32 ?_
  refine jv_iload_n dX8_keep_4 rfl ?_
  obtain ⟨b1, h⟩ := h
  refine jm_aaload1 dX8_keep_5 kd_c_1346 (lt_c 1346 rfl) b1 (rf_r_1346 _) ?_
  refine jv_iconst dX8_keep_6 ci_iconst_0 ?_
  refine jv_aload_n dX8_keep_7 rfl ?_
  refine gf_8_129 rfl dX8_keep_8 kd_c_137 (lt_c 137 rfl) ?_
  refine jm_iastore dX8_keep_11 (kd_r_1346 (vp_lt b1)) (lt_r_1346 (vp_lt b1)) (vp_lit 0 4 rfl) ?_
  generalize hhu1 : jw u (1347 + a1.toNatClampNeg) (0 : Int32).toNatClampNeg (u 137 0) = u1
  replace h := h u1 hhu1.symm
  refine jv_aload_n dX8_keep_12 rfl ?_
  refine gf_8_84 rfl dX8_keep_13 kd_c_137 (lt_c 137 rfl) rf_c_137_32 ?_
  refine jv_iload_n dX8_keep_16 rfl ?_
  refine jm_aaload1 dX8_keep_17 kd_c_1346 (lt_c 1346 rfl) b1 (rf_r_1346 _) ?_
  refine jv_iconst dX8_keep_18 ci_iconst_1 ?_
  refine jv_aload_n dX8_keep_19 rfl ?_
  refine gf_8_225 rfl dX8_keep_20 kd_c_137 (lt_c 137 rfl) ?_
  refine jm_iastore dX8_keep_23 (kd_r_1346 (vp_lt b1)) (lt_r_1346 (vp_lt b1)) (vp_lit 1 4 rfl) ?_
  generalize hhu2 : jw u1 (1347 + a1.toNatClampNeg) (1 : Int32).toNatClampNeg (u1 137 12) = u2
  replace h := h u2 hhu2.symm
  refine jv_aload_n dX8_keep_24 rfl ?_
  refine gf_8_84 rfl dX8_keep_25 kd_c_137 (lt_c 137 rfl) rf_c_137_32 ?_
  refine jv_iload_n dX8_keep_28 rfl ?_
  refine jm_aaload1 dX8_keep_29 kd_c_1346 (lt_c 1346 rfl) b1 (rf_r_1346 _) ?_
  refine jv_iconst dX8_keep_30 ci_iconst_2 ?_
  refine jv_aload_n dX8_keep_31 rfl ?_
  refine gf_8_241 rfl dX8_keep_32 kd_c_137 (lt_c 137 rfl) ?_
  refine jm_iastore dX8_keep_35 (kd_r_1346 (vp_lt b1)) (lt_r_1346 (vp_lt b1)) (vp_lit 2 4 rfl) ?_
  generalize hhu3 : jw u2 (1347 + a1.toNatClampNeg) (2 : Int32).toNatClampNeg (u2 137 13) = u3
  replace h := h u3 hhu3.symm
  refine jv_aload_n dX8_keep_36 rfl ?_
  refine gf_8_84 rfl dX8_keep_37 kd_c_137 (lt_c 137 rfl) rf_c_137_32 ?_
  refine jv_iload_n dX8_keep_40 rfl ?_
  refine jm_aaload1 dX8_keep_41 kd_c_1346 (lt_c 1346 rfl) b1 (rf_r_1346 _) ?_
  refine jv_iconst dX8_keep_42 ci_iconst_3 ?_
  refine jv_aload_n dX8_keep_43 rfl ?_
  refine gf_8_244 rfl dX8_keep_44 kd_c_137 (lt_c 137 rfl) ?_
  refine jm_iastore dX8_keep_47 (kd_r_1346 (vp_lt b1)) (lt_r_1346 (vp_lt b1)) (vp_lit 3 4 rfl) ?_
  generalize hhu4 : jw u3 (1347 + a1.toNatClampNeg) (3 : Int32).toNatClampNeg (u3 137 14) = u4
  replace h := h u4 hhu4.symm
  refine jv_iconst dX8_keep_48 ci_iconst_0 ?_
  refine jv_istore_n (ls' := [some (.ref 137), some (.int a1), some (.int 0)]) dX8_keep_49 (Nat.le_of_ble_eq_true rfl) rfl ?_
  exact h
theorem g_X8_keep_50 {E : JE} {u : JM} {K : JM → Prop}  {a1 i2 : Int32}
    (h : ((4 ≤ i2 → vp_in a1 2 ∧
  (¬ (0 : Int32) < 0 ∧ ¬ (0 : Int32) < 0 ∧ ¬ (24 : Int32) < 0 ∧ (0 : Int32).toNatClampNeg + (24 : Int32).toNatClampNeg ≤ 24 ∧ (0 : Int32).toNatClampNeg + (24 : Int32).toNatClampNeg ≤ 24) ∧
  ∀ u1, u1 = jcp u 142 (0 : Int32).toNatClampNeg (3761 + a1.toNatClampNeg) (0 : Int32).toNatClampNeg (24 : Int32).toNatClampNeg →
  JVu E 2 YX8_keep K 102 [some (.ref 137), some (.int a1), some (.int 0)] [] u1) ∧
 (¬ 4 ≤ i2 → vp_in i2 4 ∧
  vp_in ((4 * a1) + i2) 8 ∧
  (¬ (0 : Int32) < 0 ∧ ¬ (0 : Int32) < 0 ∧ ¬ (12 : Int32) < 0 ∧ (0 : Int32).toNatClampNeg + (12 : Int32).toNatClampNeg ≤ 12 ∧ (0 : Int32).toNatClampNeg + (12 : Int32).toNatClampNeg ≤ 24) ∧
  ∀ u2, u2 = jcp u (138 + i2.toNatClampNeg) (0 : Int32).toNatClampNeg (1350 + ((4 * a1) + i2).toNatClampNeg) (0 : Int32).toNatClampNeg (12 : Int32).toNatClampNeg →
  JVu E 2 YX8_keep K 50 [some (.ref 137), some (.int a1), some (.int (i2 + 1))] [] u2)))
    : JVu E 2 YX8_keep K 50 [some (.ref 137), some (.int a1), some (.int i2)] [] u := by
  refine jv_iload_n dX8_keep_50 rfl ?_
  refine jv_iconst dX8_keep_51 ci_iconst_4 ?_
  refine jv_icmp_ge (t := 83) dX8_keep_52 rfl (fun c1 => ?_) (fun c1 => ?_)
  · replace h := h.1 c1
    refine jv_aload_n dX8_keep_83 rfl ?_
    refine gf_8_22 rfl dX8_keep_84 kd_c_137 (lt_c 137 rfl) rf_c_137_5 ?_
    refine jv_iconst dX8_keep_87 ci_iconst_0 ?_
    refine jv_aload_n dX8_keep_88 rfl ?_
    refine gf_8_110 rfl dX8_keep_89 kd_c_137 (lt_c 137 rfl) rf_c_137_40 ?_
    refine jv_iload_n dX8_keep_92 rfl ?_
    obtain ⟨b4, h⟩ := h
    refine jm_aaload1 dX8_keep_93 kd_c_3760 (lt_c 3760 rfl) b4 (rf_r_3760 _) ?_
    refine jv_iconst dX8_keep_94 ci_iconst_0 ?_
    refine jv_bipush dX8_keep_95 ci_bipush_24 ?_
    obtain ⟨b5, h⟩ := h
    refine jm_acopy ac_8_213 dX8_keep_97 kd_c_142 (kd_r_3760 (vp_lt b4)) (lt_c 142 rfl) (lt_r_3760 (vp_lt b4)) rfl (Nat.le_of_ble_eq_true rfl) (Nat.le_of_ble_eq_true rfl) b5.1 b5.2.1 b5.2.2.1 b5.2.2.2.1 b5.2.2.2.2 ?_
    generalize hhu1 : jcp u 142 (0 : Int32).toNatClampNeg (3761 + a1.toNatClampNeg) (0 : Int32).toNatClampNeg (24 : Int32).toNatClampNeg = u1
    replace h := h u1 hhu1.symm
    refine jv_iconst dX8_keep_100 ci_iconst_0 ?_
    refine jv_istore_n (ls' := [some (.ref 137), some (.int a1), some (.int 0)]) dX8_keep_101 (Nat.le_of_ble_eq_true rfl) rfl ?_
    exact h
  · replace h := h.2 c1
    refine jv_aload_n dX8_keep_55 rfl ?_
    refine jv_iload_n dX8_keep_56 rfl ?_
    obtain ⟨b6, h⟩ := h
    refine jm_callVa [.int i2] cw_8_263 dX8_keep_57 rfl (Nat.le_of_ble_eq_true rfl) kd_c_137 (r := (RX8, TX8, 48)) rfl rfl (lt_c 137 rfl) (Nat.le_of_ble_eq_true rfl) (p_X8_linkRow b6 ?_)
    refine jv_iconst dX8_keep_60 ci_iconst_0 ?_
    refine jv_aload_n dX8_keep_61 rfl ?_
    refine gf_8_87 rfl dX8_keep_62 kd_c_137 (lt_c 137 rfl) rf_c_137_33 ?_
    refine jv_iconst dX8_keep_65 ci_iconst_4 ?_
    refine jv_iload_n dX8_keep_66 rfl ?_
    refine jv_imul dX8_keep_67 ?_
    refine jv_iload_n dX8_keep_68 rfl ?_
    refine jv_iadd dX8_keep_69 ?_
    obtain ⟨b7, h⟩ := h
    refine jm_aaload1 dX8_keep_70 kd_c_1349 (lt_c 1349 rfl) b7 (rf_r_1349 _) ?_
    refine jv_iconst dX8_keep_71 ci_iconst_0 ?_
    refine jv_bipush dX8_keep_72 ci_bipush_12 ?_
    obtain ⟨b8, h⟩ := h
    refine jm_acopy ac_8_213 dX8_keep_74 (kd_r_L (vp_lt b6)) (kd_r_1349 (vp_lt b7)) (lt_r_L (vp_lt b6)) (lt_r_1349 (vp_lt b7)) rfl (Nat.le_of_ble_eq_true rfl) (Nat.le_of_ble_eq_true rfl) b8.1 b8.2.1 b8.2.2.1 b8.2.2.2.1 b8.2.2.2.2 ?_
    generalize hhu2 : jcp u (138 + i2.toNatClampNeg) (0 : Int32).toNatClampNeg (1350 + ((4 * a1) + i2).toNatClampNeg) (0 : Int32).toNatClampNeg (12 : Int32).toNatClampNeg = u2
    replace h := h u2 hhu2.symm
    refine jv_iinc (v := i2 + 1) (ls' := [some (.ref 137), some (.int a1), some (.int (i2 + 1))]) dX8_keep_77 (Nat.le_of_ble_eq_true rfl) rfl (by rw [ci_iconst_1]) rfl ?_
    refine jv_goto (t := 50) dX8_keep_80 rfl ?_
    exact h
theorem g_X8_keep_102 {E : JE} {u : JM} {K : JM → Prop}  {a1 i2 : Int32}
    (h : ((4 ≤ i2 → JVu E 2 YX8_keep K 138 [some (.ref 137), some (.int a1), some (.int 0)] [] u) ∧
 (¬ 4 ≤ i2 → vp_in i2 4 ∧
  vp_in ((4 * a1) + i2) 8 ∧
  (¬ (0 : Int32) < 0 ∧ ¬ (0 : Int32) < 0 ∧ ¬ (192 : Int32) < 0 ∧ (0 : Int32).toNatClampNeg + (192 : Int32).toNatClampNeg ≤ 192 ∧ (0 : Int32).toNatClampNeg + (192 : Int32).toNatClampNeg ≤ 192) ∧
  ∀ u1, u1 = jcp u (143 + i2.toNatClampNeg) (0 : Int32).toNatClampNeg (1359 + ((4 * a1) + i2).toNatClampNeg) (0 : Int32).toNatClampNeg (192 : Int32).toNatClampNeg →
  JVu E 2 YX8_keep K 102 [some (.ref 137), some (.int a1), some (.int (i2 + 1))] [] u1)))
    : JVu E 2 YX8_keep K 102 [some (.ref 137), some (.int a1), some (.int i2)] [] u := by
  refine jv_iload_n dX8_keep_102 rfl ?_
  refine jv_iconst dX8_keep_103 ci_iconst_4 ?_
  refine jv_icmp_ge (t := 136) dX8_keep_104 rfl (fun c1 => ?_) (fun c1 => ?_)
  · replace h := h.1 c1
    refine jv_iconst dX8_keep_136 ci_iconst_0 ?_
    refine jv_istore_n (ls' := [some (.ref 137), some (.int a1), some (.int 0)]) dX8_keep_137 (Nat.le_of_ble_eq_true rfl) rfl ?_
    exact h
  · replace h := h.2 c1
    refine jv_aload_n dX8_keep_107 rfl ?_
    refine jv_iload_n dX8_keep_108 rfl ?_
    obtain ⟨b4, h⟩ := h
    refine jm_callVa [.int i2] cw_8_267 dX8_keep_109 rfl (Nat.le_of_ble_eq_true rfl) kd_c_137 (r := (RX8, TX8, 48)) rfl rfl (lt_c 137 rfl) (Nat.le_of_ble_eq_true rfl) (p_X8_knownRow b4 ?_)
    refine jv_iconst dX8_keep_112 ci_iconst_0 ?_
    refine jv_aload_n dX8_keep_113 rfl ?_
    refine gf_8_90 rfl dX8_keep_114 kd_c_137 (lt_c 137 rfl) rf_c_137_34 ?_
    refine jv_iconst dX8_keep_117 ci_iconst_4 ?_
    refine jv_iload_n dX8_keep_118 rfl ?_
    refine jv_imul dX8_keep_119 ?_
    refine jv_iload_n dX8_keep_120 rfl ?_
    refine jv_iadd dX8_keep_121 ?_
    obtain ⟨b5, h⟩ := h
    refine jm_aaload1 dX8_keep_122 kd_c_1358 (lt_c 1358 rfl) b5 (rf_r_1358 _) ?_
    refine jv_iconst dX8_keep_123 ci_iconst_0 ?_
    refine jv_sipush dX8_keep_124 ci_sipush_192 ?_
    obtain ⟨b6, h⟩ := h
    refine jm_acopy ac_8_213 dX8_keep_127 (kd_r_K (vp_lt b4)) (kd_r_1358 (vp_lt b5)) (lt_r_K (vp_lt b4)) (lt_r_1358 (vp_lt b5)) rfl (Nat.le_of_ble_eq_true rfl) (Nat.le_of_ble_eq_true rfl) b6.1 b6.2.1 b6.2.2.1 b6.2.2.2.1 b6.2.2.2.2 ?_
    generalize hhu1 : jcp u (143 + i2.toNatClampNeg) (0 : Int32).toNatClampNeg (1359 + ((4 * a1) + i2).toNatClampNeg) (0 : Int32).toNatClampNeg (192 : Int32).toNatClampNeg = u1
    replace h := h u1 hhu1.symm
    refine jv_iinc (v := i2 + 1) (ls' := [some (.ref 137), some (.int a1), some (.int (i2 + 1))]) dX8_keep_130 (Nat.le_of_ble_eq_true rfl) rfl (by rw [ci_iconst_1]) rfl ?_
    refine jv_goto (t := 102) dX8_keep_133 rfl ?_
    exact h
theorem g_X8_keep_138 {E : JE} {u : JM} {K : JM → Prop}  {a1 i2 : Int32}
    (h : ((6 ≤ i2 → JVu E 2 YX8_keep K 177 [some (.ref 137), some (.int a1), some (.int 0)] [] u) ∧
 (¬ 6 ≤ i2 → vp_in i2 6 ∧
  vp_in ((6 * a1) + i2) 12 ∧
  (¬ (0 : Int32) < 0 ∧ ¬ (0 : Int32) < 0 ∧ ¬ (u 137 12) < 0 ∧ (0 : Int32).toNatClampNeg + (u 137 12).toNatClampNeg ≤ 400 ∧ (0 : Int32).toNatClampNeg + (u 137 12).toNatClampNeg ≤ 400) ∧
  ∀ u1, u1 = jcp u (533 + i2.toNatClampNeg) (0 : Int32).toNatClampNeg (1368 + ((6 * a1) + i2).toNatClampNeg) (0 : Int32).toNatClampNeg (u 137 12).toNatClampNeg →
  JVu E 2 YX8_keep K 138 [some (.ref 137), some (.int a1), some (.int (i2 + 1))] [] u1)))
    : JVu E 2 YX8_keep K 138 [some (.ref 137), some (.int a1), some (.int i2)] [] u := by
  refine jv_iload_n dX8_keep_138 rfl ?_
  refine jv_bipush dX8_keep_139 ci_bipush_6 ?_
  refine jv_icmp_ge (t := 175) dX8_keep_141 rfl (fun c1 => ?_) (fun c1 => ?_)
  · replace h := h.1 c1
    refine jv_iconst dX8_keep_175 ci_iconst_0 ?_
    refine jv_istore_n (ls' := [some (.ref 137), some (.int a1), some (.int 0)]) dX8_keep_176 (Nat.le_of_ble_eq_true rfl) rfl ?_
    exact h
  · replace h := h.2 c1
    refine jv_aload_n dX8_keep_144 rfl ?_
    refine jv_iload_n dX8_keep_145 rfl ?_
    obtain ⟨b4, h⟩ := h
    refine jm_callVa [.int i2] cw_8_270 dX8_keep_146 rfl (Nat.le_of_ble_eq_true rfl) kd_c_137 (r := (RX8, TX8, 48)) rfl rfl (lt_c 137 rfl) (Nat.le_of_ble_eq_true rfl) (p_X8_waitingRow b4 ?_)
    refine jv_iconst dX8_keep_149 ci_iconst_0 ?_
    refine jv_aload_n dX8_keep_150 rfl ?_
    refine gf_8_93 rfl dX8_keep_151 kd_c_137 (lt_c 137 rfl) rf_c_137_35 ?_
    refine jv_bipush dX8_keep_154 ci_bipush_6 ?_
    refine jv_iload_n dX8_keep_156 rfl ?_
    refine jv_imul dX8_keep_157 ?_
    refine jv_iload_n dX8_keep_158 rfl ?_
    refine jv_iadd dX8_keep_159 ?_
    obtain ⟨b5, h⟩ := h
    refine jm_aaload1 dX8_keep_160 kd_c_1367 (lt_c 1367 rfl) b5 (rf_r_1367 _) ?_
    refine jv_iconst dX8_keep_161 ci_iconst_0 ?_
    refine jv_aload_n dX8_keep_162 rfl ?_
    refine gf_8_225 rfl dX8_keep_163 kd_c_137 (lt_c 137 rfl) ?_
    obtain ⟨b6, h⟩ := h
    refine jm_acopy ac_8_213 dX8_keep_166 (kd_r_W (vp_lt b4)) (kd_r_1367 (vp_lt b5)) (lt_r_W (vp_lt b4)) (lt_r_1367 (vp_lt b5)) rfl (Nat.le_of_ble_eq_true rfl) (Nat.le_of_ble_eq_true rfl) b6.1 b6.2.1 b6.2.2.1 b6.2.2.2.1 b6.2.2.2.2 ?_
    generalize hhu1 : jcp u (533 + i2.toNatClampNeg) (0 : Int32).toNatClampNeg (1368 + ((6 * a1) + i2).toNatClampNeg) (0 : Int32).toNatClampNeg (u 137 12).toNatClampNeg = u1
    replace h := h u1 hhu1.symm
    refine jv_iinc (v := i2 + 1) (ls' := [some (.ref 137), some (.int a1), some (.int (i2 + 1))]) dX8_keep_169 (Nat.le_of_ble_eq_true rfl) rfl (by rw [ci_iconst_1]) rfl ?_
    refine jv_goto (t := 138) dX8_keep_172 rfl ?_
    exact h
theorem g_X8_keep_177 {E : JE} {u : JM} {K : JM → Prop}  {a1 i2 : Int32}
    (h : ((192 ≤ i2 → JVu E 2 YX8_keep K 213 [some (.ref 137), some (.int a1), some (.int 0)] [] u) ∧
 (¬ 192 ≤ i2 → vp_in i2 192 ∧
  vp_in a1 2 ∧
  (¬ (0 : Int32) < 0 ∧ ¬ (0 : Int32) < 0 ∧ ¬ (12 : Int32) < 0 ∧ (0 : Int32).toNatClampNeg + (12 : Int32).toNatClampNeg ≤ 12 ∧ (0 : Int32).toNatClampNeg + (12 : Int32).toNatClampNeg ≤ 12) ∧
  ∀ u1, u1 = jcp u (148 + i2.toNatClampNeg) (0 : Int32).toNatClampNeg (1382 + 193 * a1.toNatClampNeg + i2.toNatClampNeg) (0 : Int32).toNatClampNeg (12 : Int32).toNatClampNeg →
  JVu E 2 YX8_keep K 177 [some (.ref 137), some (.int a1), some (.int (i2 + 1))] [] u1)))
    : JVu E 2 YX8_keep K 177 [some (.ref 137), some (.int a1), some (.int i2)] [] u := by
  refine jv_iload_n dX8_keep_177 rfl ?_
  refine jv_sipush dX8_keep_178 ci_sipush_192 ?_
  refine jv_icmp_ge (t := 211) dX8_keep_181 rfl (fun c1 => ?_) (fun c1 => ?_)
  · replace h := h.1 c1
    refine jv_iconst dX8_keep_211 ci_iconst_0 ?_
    refine jv_istore_n (ls' := [some (.ref 137), some (.int a1), some (.int 0)]) dX8_keep_212 (Nat.le_of_ble_eq_true rfl) rfl ?_
    exact h
  · replace h := h.2 c1
    refine jv_aload_n dX8_keep_184 rfl ?_
    refine gf_8_39 rfl dX8_keep_185 kd_c_137 (lt_c 137 rfl) rf_c_137_10 ?_
    refine jv_iload_n dX8_keep_188 rfl ?_
    obtain ⟨b4, h⟩ := h
    refine jm_aaload1 dX8_keep_189 kd_c_147 (lt_c 147 rfl) b4 (rf_r_147 _) ?_
    refine jv_iconst dX8_keep_190 ci_iconst_0 ?_
    refine jv_aload_n dX8_keep_191 rfl ?_
    refine gf_8_98 rfl dX8_keep_192 kd_c_137 (lt_c 137 rfl) rf_c_137_36 ?_
    refine jv_iload_n dX8_keep_195 rfl ?_
    obtain ⟨b5, h⟩ := h
    refine jm_aaload2 dX8_keep_196 kd_c_1380 (lt_c 1380 rfl) b5 (rf_r_1380 _) ?_
    refine jv_iload_n dX8_keep_197 rfl ?_
    refine jm_aaload1 dX8_keep_198 (kd_r_1380 (vp_lt b5)) (lt_r_1380 (vp_lt b5)) b4 (rf_q_1380 (vp_lt b5) _) ?_
    refine jv_iconst dX8_keep_199 ci_iconst_0 ?_
    refine jv_bipush dX8_keep_200 ci_bipush_12 ?_
    obtain ⟨b6, h⟩ := h
    refine jm_acopy ac_8_213 dX8_keep_202 (kd_r_147 (vp_lt b4)) (kd_q_1380 (vp_lt b5) (vp_lt b4)) (lt_r_147 (vp_lt b4)) (lt_q_1380 (vp_lt b5) (vp_lt b4)) rfl (Nat.le_of_ble_eq_true rfl) (Nat.le_of_ble_eq_true rfl) b6.1 b6.2.1 b6.2.2.1 b6.2.2.2.1 b6.2.2.2.2 ?_
    generalize hhu1 : jcp u (148 + i2.toNatClampNeg) (0 : Int32).toNatClampNeg (1382 + 193 * a1.toNatClampNeg + i2.toNatClampNeg) (0 : Int32).toNatClampNeg (12 : Int32).toNatClampNeg = u1
    replace h := h u1 hhu1.symm
    refine jv_iinc (v := i2 + 1) (ls' := [some (.ref 137), some (.int a1), some (.int (i2 + 1))]) dX8_keep_205 (Nat.le_of_ble_eq_true rfl) rfl (by rw [ci_iconst_1]) rfl ?_
    refine jv_goto (t := 177) dX8_keep_208 rfl ?_
    exact h
theorem g_X8_keep_213 {E : JE} {u : JM} {K : JM → Prop}  {a1 i2 : Int32}
    (h : ((192 ≤ i2 → JVu E 2 YX8_keep K 249 [some (.ref 137), some (.int a1), some (.int 0)] [] u) ∧
 (¬ 192 ≤ i2 → vp_in i2 192 ∧
  vp_in a1 2 ∧
  (¬ (0 : Int32) < 0 ∧ ¬ (0 : Int32) < 0 ∧ ¬ (8 : Int32) < 0 ∧ (0 : Int32).toNatClampNeg + (8 : Int32).toNatClampNeg ≤ 8 ∧ (0 : Int32).toNatClampNeg + (8 : Int32).toNatClampNeg ≤ 8) ∧
  ∀ u1, u1 = jcp u (341 + i2.toNatClampNeg) (0 : Int32).toNatClampNeg (1769 + 193 * a1.toNatClampNeg + i2.toNatClampNeg) (0 : Int32).toNatClampNeg (8 : Int32).toNatClampNeg →
  JVu E 2 YX8_keep K 213 [some (.ref 137), some (.int a1), some (.int (i2 + 1))] [] u1)))
    : JVu E 2 YX8_keep K 213 [some (.ref 137), some (.int a1), some (.int i2)] [] u := by
  refine jv_iload_n dX8_keep_213 rfl ?_
  refine jv_sipush dX8_keep_214 ci_sipush_192 ?_
  refine jv_icmp_ge (t := 247) dX8_keep_217 rfl (fun c1 => ?_) (fun c1 => ?_)
  · replace h := h.1 c1
    refine jv_iconst dX8_keep_247 ci_iconst_0 ?_
    refine jv_istore_n (ls' := [some (.ref 137), some (.int a1), some (.int 0)]) dX8_keep_248 (Nat.le_of_ble_eq_true rfl) rfl ?_
    exact h
  · replace h := h.2 c1
    refine jv_aload_n dX8_keep_220 rfl ?_
    refine gf_8_42 rfl dX8_keep_221 kd_c_137 (lt_c 137 rfl) rf_c_137_11 ?_
    refine jv_iload_n dX8_keep_224 rfl ?_
    obtain ⟨b4, h⟩ := h
    refine jm_aaload1 dX8_keep_225 kd_c_340 (lt_c 340 rfl) b4 (rf_r_340 _) ?_
    refine jv_iconst dX8_keep_226 ci_iconst_0 ?_
    refine jv_aload_n dX8_keep_227 rfl ?_
    refine gf_8_101 rfl dX8_keep_228 kd_c_137 (lt_c 137 rfl) rf_c_137_37 ?_
    refine jv_iload_n dX8_keep_231 rfl ?_
    obtain ⟨b5, h⟩ := h
    refine jm_aaload2 dX8_keep_232 kd_c_1767 (lt_c 1767 rfl) b5 (rf_r_1767 _) ?_
    refine jv_iload_n dX8_keep_233 rfl ?_
    refine jm_aaload1 dX8_keep_234 (kd_r_1767 (vp_lt b5)) (lt_r_1767 (vp_lt b5)) b4 (rf_q_1767 (vp_lt b5) _) ?_
    refine jv_iconst dX8_keep_235 ci_iconst_0 ?_
    refine jv_bipush dX8_keep_236 ci_bipush_8 ?_
    obtain ⟨b6, h⟩ := h
    refine jm_acopy ac_8_213 dX8_keep_238 (kd_r_340 (vp_lt b4)) (kd_q_1767 (vp_lt b5) (vp_lt b4)) (lt_r_340 (vp_lt b4)) (lt_q_1767 (vp_lt b5) (vp_lt b4)) rfl (Nat.le_of_ble_eq_true rfl) (Nat.le_of_ble_eq_true rfl) b6.1 b6.2.1 b6.2.2.1 b6.2.2.2.1 b6.2.2.2.2 ?_
    generalize hhu1 : jcp u (341 + i2.toNatClampNeg) (0 : Int32).toNatClampNeg (1769 + 193 * a1.toNatClampNeg + i2.toNatClampNeg) (0 : Int32).toNatClampNeg (8 : Int32).toNatClampNeg = u1
    replace h := h u1 hhu1.symm
    refine jv_iinc (v := i2 + 1) (ls' := [some (.ref 137), some (.int a1), some (.int (i2 + 1))]) dX8_keep_241 (Nat.le_of_ble_eq_true rfl) rfl (by rw [ci_iconst_1]) rfl ?_
    refine jv_goto (t := 213) dX8_keep_244 rfl ?_
    exact h
theorem g_X8_keep_249 {E : JE} {u : JM} {K : JM → Prop}  {a1 i2 : Int32}
    (h : (((u 137 12) ≤ i2 → JVu E 2 YX8_keep K 286 [some (.ref 137), some (.int a1), some (.int 0)] [] u) ∧
 (¬ (u 137 12) ≤ i2 → vp_in i2 400 ∧
  vp_in a1 2 ∧
  (¬ (0 : Int32) < 0 ∧ ¬ (0 : Int32) < 0 ∧ ¬ (12 : Int32) < 0 ∧ (0 : Int32).toNatClampNeg + (12 : Int32).toNatClampNeg ≤ 12 ∧ (0 : Int32).toNatClampNeg + (12 : Int32).toNatClampNeg ≤ 12) ∧
  ∀ u1, u1 = jcp u (540 + i2.toNatClampNeg) (0 : Int32).toNatClampNeg (2156 + 401 * a1.toNatClampNeg + i2.toNatClampNeg) (0 : Int32).toNatClampNeg (12 : Int32).toNatClampNeg →
  JVu E 2 YX8_keep K 249 [some (.ref 137), some (.int a1), some (.int (i2 + 1))] [] u1)))
    : JVu E 2 YX8_keep K 249 [some (.ref 137), some (.int a1), some (.int i2)] [] u := by
  refine jv_iload_n dX8_keep_249 rfl ?_
  refine jv_aload_n dX8_keep_250 rfl ?_
  refine gf_8_225 rfl dX8_keep_251 kd_c_137 (lt_c 137 rfl) ?_
  refine jv_icmp_ge (t := 284) dX8_keep_254 rfl (fun c1 => ?_) (fun c1 => ?_)
  · replace h := h.1 c1
    refine jv_iconst dX8_keep_284 ci_iconst_0 ?_
    refine jv_istore_n (ls' := [some (.ref 137), some (.int a1), some (.int 0)]) dX8_keep_285 (Nat.le_of_ble_eq_true rfl) rfl ?_
    exact h
  · replace h := h.2 c1
    refine jv_aload_n dX8_keep_257 rfl ?_
    refine gf_8_63 rfl dX8_keep_258 kd_c_137 (lt_c 137 rfl) rf_c_137_21 ?_
    refine jv_iload_n dX8_keep_261 rfl ?_
    obtain ⟨b4, h⟩ := h
    refine jm_aaload1 dX8_keep_262 kd_c_539 (lt_c 539 rfl) b4 (rf_r_539 _) ?_
    refine jv_iconst dX8_keep_263 ci_iconst_0 ?_
    refine jv_aload_n dX8_keep_264 rfl ?_
    refine gf_8_104 rfl dX8_keep_265 kd_c_137 (lt_c 137 rfl) rf_c_137_38 ?_
    refine jv_iload_n dX8_keep_268 rfl ?_
    obtain ⟨b5, h⟩ := h
    refine jm_aaload2 dX8_keep_269 kd_c_2154 (lt_c 2154 rfl) b5 (rf_r_2154 _) ?_
    refine jv_iload_n dX8_keep_270 rfl ?_
    refine jm_aaload1 dX8_keep_271 (kd_r_2154 (vp_lt b5)) (lt_r_2154 (vp_lt b5)) b4 (rf_q_2154 (vp_lt b5) _) ?_
    refine jv_iconst dX8_keep_272 ci_iconst_0 ?_
    refine jv_bipush dX8_keep_273 ci_bipush_12 ?_
    obtain ⟨b6, h⟩ := h
    refine jm_acopy ac_8_213 dX8_keep_275 (kd_r_539 (vp_lt b4)) (kd_q_2154 (vp_lt b5) (vp_lt b4)) (lt_r_539 (vp_lt b4)) (lt_q_2154 (vp_lt b5) (vp_lt b4)) rfl (Nat.le_of_ble_eq_true rfl) (Nat.le_of_ble_eq_true rfl) b6.1 b6.2.1 b6.2.2.1 b6.2.2.2.1 b6.2.2.2.2 ?_
    generalize hhu1 : jcp u (540 + i2.toNatClampNeg) (0 : Int32).toNatClampNeg (2156 + 401 * a1.toNatClampNeg + i2.toNatClampNeg) (0 : Int32).toNatClampNeg (12 : Int32).toNatClampNeg = u1
    replace h := h u1 hhu1.symm
    refine jv_iinc (v := i2 + 1) (ls' := [some (.ref 137), some (.int a1), some (.int (i2 + 1))]) dX8_keep_278 (Nat.le_of_ble_eq_true rfl) rfl (by rw [ci_iconst_1]) rfl ?_
    refine jv_goto (t := 249) dX8_keep_281 rfl ?_
    exact h
theorem g_X8_keep_286 {E : JE} {u : JM} {K : JM → Prop}  {a1 i2 : Int32}
    (h : (((u 137 12) ≤ i2 → K u) ∧
 (¬ (u 137 12) ≤ i2 → vp_in i2 400 ∧
  vp_in a1 2 ∧
  (¬ (0 : Int32) < 0 ∧ ¬ (0 : Int32) < 0 ∧ ¬ (8 : Int32) < 0 ∧ (0 : Int32).toNatClampNeg + (8 : Int32).toNatClampNeg ≤ 8 ∧ (0 : Int32).toNatClampNeg + (8 : Int32).toNatClampNeg ≤ 8) ∧
  ∀ u1, u1 = jcp u (941 + i2.toNatClampNeg) (0 : Int32).toNatClampNeg (2959 + 401 * a1.toNatClampNeg + i2.toNatClampNeg) (0 : Int32).toNatClampNeg (8 : Int32).toNatClampNeg →
  JVu E 2 YX8_keep K 286 [some (.ref 137), some (.int a1), some (.int (i2 + 1))] [] u1)))
    : JVu E 2 YX8_keep K 286 [some (.ref 137), some (.int a1), some (.int i2)] [] u := by
  refine jv_iload_n dX8_keep_286 rfl ?_
  refine jv_aload_n dX8_keep_287 rfl ?_
  refine gf_8_225 rfl dX8_keep_288 kd_c_137 (lt_c 137 rfl) ?_
  refine jv_icmp_ge (t := 321) dX8_keep_291 rfl (fun c1 => ?_) (fun c1 => ?_)
  · replace h := h.1 c1
    exact jm_return dX8_keep_321 rfl h
  · replace h := h.2 c1
    refine jv_aload_n dX8_keep_294 rfl ?_
    refine gf_8_66 rfl dX8_keep_295 kd_c_137 (lt_c 137 rfl) rf_c_137_22 ?_
    refine jv_iload_n dX8_keep_298 rfl ?_
    obtain ⟨b4, h⟩ := h
    refine jm_aaload1 dX8_keep_299 kd_c_940 (lt_c 940 rfl) b4 (rf_r_940 _) ?_
    refine jv_iconst dX8_keep_300 ci_iconst_0 ?_
    refine jv_aload_n dX8_keep_301 rfl ?_
    refine gf_8_107 rfl dX8_keep_302 kd_c_137 (lt_c 137 rfl) rf_c_137_39 ?_
    refine jv_iload_n dX8_keep_305 rfl ?_
    obtain ⟨b5, h⟩ := h
    refine jm_aaload2 dX8_keep_306 kd_c_2957 (lt_c 2957 rfl) b5 (rf_r_2957 _) ?_
    refine jv_iload_n dX8_keep_307 rfl ?_
    refine jm_aaload1 dX8_keep_308 (kd_r_2957 (vp_lt b5)) (lt_r_2957 (vp_lt b5)) b4 (rf_q_2957 (vp_lt b5) _) ?_
    refine jv_iconst dX8_keep_309 ci_iconst_0 ?_
    refine jv_bipush dX8_keep_310 ci_bipush_8 ?_
    obtain ⟨b6, h⟩ := h
    refine jm_acopy ac_8_213 dX8_keep_312 (kd_r_940 (vp_lt b4)) (kd_q_2957 (vp_lt b5) (vp_lt b4)) (lt_r_940 (vp_lt b4)) (lt_q_2957 (vp_lt b5) (vp_lt b4)) rfl (Nat.le_of_ble_eq_true rfl) (Nat.le_of_ble_eq_true rfl) b6.1 b6.2.1 b6.2.2.1 b6.2.2.2.1 b6.2.2.2.2 ?_
    generalize hhu1 : jcp u (941 + i2.toNatClampNeg) (0 : Int32).toNatClampNeg (2959 + 401 * a1.toNatClampNeg + i2.toNatClampNeg) (0 : Int32).toNatClampNeg (8 : Int32).toNatClampNeg = u1
    replace h := h u1 hhu1.symm
    refine jv_iinc (v := i2 + 1) (ls' := [some (.ref 137), some (.int a1), some (.int (i2 + 1))]) dX8_keep_315 (Nat.le_of_ble_eq_true rfl) rfl (by rw [ci_iconst_1]) rfl ?_
    refine jv_goto (t := 286) dX8_keep_318 rfl ?_
    exact h
theorem g_X8_layBack_0 {E : JE} {u : JM} {K : JM → Prop}  {a1 : Int32}
    (h : vp_in a1 2 ∧
 ∀ u1, u1 = jw u 137 0 (u (1347 + a1.toNatClampNeg) (0 : Int32).toNatClampNeg) →
 ∀ u2, u2 = jw u1 137 12 (u1 (1347 + a1.toNatClampNeg) (1 : Int32).toNatClampNeg) →
 ∀ u3, u3 = jw u2 137 13 (u2 (1347 + a1.toNatClampNeg) (2 : Int32).toNatClampNeg) →
 ∀ u4, u4 = jw u3 137 14 (u3 (1347 + a1.toNatClampNeg) (3 : Int32).toNatClampNeg) →
 JVu E 2 YX8_layBack K 50 [some (.ref 137), some (.int a1), some (.int 0)] [] u4)
    : JVu E 2 YX8_layBack K 0 [some (.ref 137), some (.int a1), none] [] u := by
  refine jv_aload_n dX8_layBack_0 rfl ?_
  refine jv_aload_n dX8_layBack_1 rfl ?_
  refine gf_8_84 rfl dX8_layBack_2 kd_c_137 (lt_c 137 rfl) rf_c_137_32 ?_
  refine jv_iload_n dX8_layBack_5 rfl ?_
  obtain ⟨b1, h⟩ := h
  refine jm_aaload1 dX8_layBack_6 kd_c_1346 (lt_c 1346 rfl) b1 (rf_r_1346 _) ?_
  refine jv_iconst dX8_layBack_7 ci_iconst_0 ?_
  refine jm_iaload dX8_layBack_8 (kd_r_1346 (vp_lt b1)) (lt_r_1346 (vp_lt b1)) (vp_lit 0 4 rfl) ?_
  refine pf_8_129 rfl dX8_layBack_9 kd_c_137 (lt_c 137 rfl) ?_
  generalize hhu1 : jw u 137 0 (u (1347 + a1.toNatClampNeg) (0 : Int32).toNatClampNeg) = u1
  replace h := h u1 hhu1.symm
  refine jv_aload_n dX8_layBack_12 rfl ?_
  refine jv_aload_n dX8_layBack_13 rfl ?_
  refine gf_8_84 rfl dX8_layBack_14 kd_c_137 (lt_c 137 rfl) rf_c_137_32 ?_
  refine jv_iload_n dX8_layBack_17 rfl ?_
  refine jm_aaload1 dX8_layBack_18 kd_c_1346 (lt_c 1346 rfl) b1 (rf_r_1346 _) ?_
  refine jv_iconst dX8_layBack_19 ci_iconst_1 ?_
  refine jm_iaload dX8_layBack_20 (kd_r_1346 (vp_lt b1)) (lt_r_1346 (vp_lt b1)) (vp_lit 1 4 rfl) ?_
  refine pf_8_225 rfl dX8_layBack_21 kd_c_137 (lt_c 137 rfl) ?_
  generalize hhu2 : jw u1 137 12 (u1 (1347 + a1.toNatClampNeg) (1 : Int32).toNatClampNeg) = u2
  replace h := h u2 hhu2.symm
  refine jv_aload_n dX8_layBack_24 rfl ?_
  refine jv_aload_n dX8_layBack_25 rfl ?_
  refine gf_8_84 rfl dX8_layBack_26 kd_c_137 (lt_c 137 rfl) rf_c_137_32 ?_
  refine jv_iload_n dX8_layBack_29 rfl ?_
  refine jm_aaload1 dX8_layBack_30 kd_c_1346 (lt_c 1346 rfl) b1 (rf_r_1346 _) ?_
  refine jv_iconst dX8_layBack_31 ci_iconst_2 ?_
  refine jm_iaload dX8_layBack_32 (kd_r_1346 (vp_lt b1)) (lt_r_1346 (vp_lt b1)) (vp_lit 2 4 rfl) ?_
  refine pf_8_241 rfl dX8_layBack_33 kd_c_137 (lt_c 137 rfl) ?_
  generalize hhu3 : jw u2 137 13 (u2 (1347 + a1.toNatClampNeg) (2 : Int32).toNatClampNeg) = u3
  replace h := h u3 hhu3.symm
  refine jv_aload_n dX8_layBack_36 rfl ?_
  refine jv_aload_n dX8_layBack_37 rfl ?_
  refine gf_8_84 rfl dX8_layBack_38 kd_c_137 (lt_c 137 rfl) rf_c_137_32 ?_
  refine jv_iload_n dX8_layBack_41 rfl ?_
  refine jm_aaload1 dX8_layBack_42 kd_c_1346 (lt_c 1346 rfl) b1 (rf_r_1346 _) ?_
  refine jv_iconst dX8_layBack_43 ci_iconst_3 ?_
  refine jm_iaload dX8_layBack_44 (kd_r_1346 (vp_lt b1)) (lt_r_1346 (vp_lt b1)) (vp_lit 3 4 rfl) ?_
  refine pf_8_244 rfl dX8_layBack_45 kd_c_137 (lt_c 137 rfl) ?_
  generalize hhu4 : jw u3 137 14 (u3 (1347 + a1.toNatClampNeg) (3 : Int32).toNatClampNeg) = u4
  replace h := h u4 hhu4.symm
  refine jv_iconst dX8_layBack_48 ci_iconst_0 ?_
  refine jv_istore_n (ls' := [some (.ref 137), some (.int a1), some (.int 0)]) dX8_layBack_49 (Nat.le_of_ble_eq_true rfl) rfl ?_
  exact h
theorem g_X8_layBack_50 {E : JE} {u : JM} {K : JM → Prop}  {a1 i2 : Int32}
    (h : ((4 ≤ i2 → vp_in a1 2 ∧
  (¬ (0 : Int32) < 0 ∧ ¬ (0 : Int32) < 0 ∧ ¬ (24 : Int32) < 0 ∧ (0 : Int32).toNatClampNeg + (24 : Int32).toNatClampNeg ≤ 24 ∧ (0 : Int32).toNatClampNeg + (24 : Int32).toNatClampNeg ≤ 24) ∧
  ∀ u1, u1 = jcp u (3761 + a1.toNatClampNeg) (0 : Int32).toNatClampNeg 142 (0 : Int32).toNatClampNeg (24 : Int32).toNatClampNeg →
  JVu E 2 YX8_layBack K 102 [some (.ref 137), some (.int a1), some (.int 0)] [] u1) ∧
 (¬ 4 ≤ i2 → vp_in ((4 * a1) + i2) 8 ∧
  vp_in i2 4 ∧
  (¬ (0 : Int32) < 0 ∧ ¬ (0 : Int32) < 0 ∧ ¬ (12 : Int32) < 0 ∧ (0 : Int32).toNatClampNeg + (12 : Int32).toNatClampNeg ≤ 24 ∧ (0 : Int32).toNatClampNeg + (12 : Int32).toNatClampNeg ≤ 12) ∧
  ∀ u2, u2 = jcp u (1350 + ((4 * a1) + i2).toNatClampNeg) (0 : Int32).toNatClampNeg (138 + i2.toNatClampNeg) (0 : Int32).toNatClampNeg (12 : Int32).toNatClampNeg →
  JVu E 2 YX8_layBack K 50 [some (.ref 137), some (.int a1), some (.int (i2 + 1))] [] u2)))
    : JVu E 2 YX8_layBack K 50 [some (.ref 137), some (.int a1), some (.int i2)] [] u := by
  refine jv_iload_n dX8_layBack_50 rfl ?_
  refine jv_iconst dX8_layBack_51 ci_iconst_4 ?_
  refine jv_icmp_ge (t := 83) dX8_layBack_52 rfl (fun c1 => ?_) (fun c1 => ?_)
  · replace h := h.1 c1
    refine jv_aload_n dX8_layBack_83 rfl ?_
    refine gf_8_110 rfl dX8_layBack_84 kd_c_137 (lt_c 137 rfl) rf_c_137_40 ?_
    refine jv_iload_n dX8_layBack_87 rfl ?_
    obtain ⟨b4, h⟩ := h
    refine jm_aaload1 dX8_layBack_88 kd_c_3760 (lt_c 3760 rfl) b4 (rf_r_3760 _) ?_
    refine jv_iconst dX8_layBack_89 ci_iconst_0 ?_
    refine jv_aload_n dX8_layBack_90 rfl ?_
    refine gf_8_22 rfl dX8_layBack_91 kd_c_137 (lt_c 137 rfl) rf_c_137_5 ?_
    refine jv_iconst dX8_layBack_94 ci_iconst_0 ?_
    refine jv_bipush dX8_layBack_95 ci_bipush_24 ?_
    obtain ⟨b5, h⟩ := h
    refine jm_acopy ac_8_213 dX8_layBack_97 (kd_r_3760 (vp_lt b4)) kd_c_142 (lt_r_3760 (vp_lt b4)) (lt_c 142 rfl) rfl (Nat.le_of_ble_eq_true rfl) (Nat.le_of_ble_eq_true rfl) b5.1 b5.2.1 b5.2.2.1 b5.2.2.2.1 b5.2.2.2.2 ?_
    generalize hhu1 : jcp u (3761 + a1.toNatClampNeg) (0 : Int32).toNatClampNeg 142 (0 : Int32).toNatClampNeg (24 : Int32).toNatClampNeg = u1
    replace h := h u1 hhu1.symm
    refine jv_iconst dX8_layBack_100 ci_iconst_0 ?_
    refine jv_istore_n (ls' := [some (.ref 137), some (.int a1), some (.int 0)]) dX8_layBack_101 (Nat.le_of_ble_eq_true rfl) rfl ?_
    exact h
  · replace h := h.2 c1
    refine jv_aload_n dX8_layBack_55 rfl ?_
    refine gf_8_87 rfl dX8_layBack_56 kd_c_137 (lt_c 137 rfl) rf_c_137_33 ?_
    refine jv_iconst dX8_layBack_59 ci_iconst_4 ?_
    refine jv_iload_n dX8_layBack_60 rfl ?_
    refine jv_imul dX8_layBack_61 ?_
    refine jv_iload_n dX8_layBack_62 rfl ?_
    refine jv_iadd dX8_layBack_63 ?_
    obtain ⟨b6, h⟩ := h
    refine jm_aaload1 dX8_layBack_64 kd_c_1349 (lt_c 1349 rfl) b6 (rf_r_1349 _) ?_
    refine jv_iconst dX8_layBack_65 ci_iconst_0 ?_
    refine jv_aload_n dX8_layBack_66 rfl ?_
    refine jv_iload_n dX8_layBack_67 rfl ?_
    obtain ⟨b7, h⟩ := h
    refine jm_callVa [.int i2] cw_8_263 dX8_layBack_68 rfl (Nat.le_of_ble_eq_true rfl) kd_c_137 (r := (RX8, TX8, 48)) rfl rfl (lt_c 137 rfl) (Nat.le_of_ble_eq_true rfl) (p_X8_linkRow b7 ?_)
    refine jv_iconst dX8_layBack_71 ci_iconst_0 ?_
    refine jv_bipush dX8_layBack_72 ci_bipush_12 ?_
    obtain ⟨b8, h⟩ := h
    refine jm_acopy ac_8_213 dX8_layBack_74 (kd_r_1349 (vp_lt b6)) (kd_r_L (vp_lt b7)) (lt_r_1349 (vp_lt b6)) (lt_r_L (vp_lt b7)) rfl (Nat.le_of_ble_eq_true rfl) (Nat.le_of_ble_eq_true rfl) b8.1 b8.2.1 b8.2.2.1 b8.2.2.2.1 b8.2.2.2.2 ?_
    generalize hhu2 : jcp u (1350 + ((4 * a1) + i2).toNatClampNeg) (0 : Int32).toNatClampNeg (138 + i2.toNatClampNeg) (0 : Int32).toNatClampNeg (12 : Int32).toNatClampNeg = u2
    replace h := h u2 hhu2.symm
    refine jv_iinc (v := i2 + 1) (ls' := [some (.ref 137), some (.int a1), some (.int (i2 + 1))]) dX8_layBack_77 (Nat.le_of_ble_eq_true rfl) rfl (by rw [ci_iconst_1]) rfl ?_
    refine jv_goto (t := 50) dX8_layBack_80 rfl ?_
    exact h
theorem g_X8_layBack_102 {E : JE} {u : JM} {K : JM → Prop}  {a1 i2 : Int32}
    (h : ((4 ≤ i2 → JVu E 2 YX8_layBack K 138 [some (.ref 137), some (.int a1), some (.int 0)] [] u) ∧
 (¬ 4 ≤ i2 → vp_in ((4 * a1) + i2) 8 ∧
  vp_in i2 4 ∧
  (¬ (0 : Int32) < 0 ∧ ¬ (0 : Int32) < 0 ∧ ¬ (192 : Int32) < 0 ∧ (0 : Int32).toNatClampNeg + (192 : Int32).toNatClampNeg ≤ 192 ∧ (0 : Int32).toNatClampNeg + (192 : Int32).toNatClampNeg ≤ 192) ∧
  ∀ u1, u1 = jcp u (1359 + ((4 * a1) + i2).toNatClampNeg) (0 : Int32).toNatClampNeg (143 + i2.toNatClampNeg) (0 : Int32).toNatClampNeg (192 : Int32).toNatClampNeg →
  JVu E 2 YX8_layBack K 102 [some (.ref 137), some (.int a1), some (.int (i2 + 1))] [] u1)))
    : JVu E 2 YX8_layBack K 102 [some (.ref 137), some (.int a1), some (.int i2)] [] u := by
  refine jv_iload_n dX8_layBack_102 rfl ?_
  refine jv_iconst dX8_layBack_103 ci_iconst_4 ?_
  refine jv_icmp_ge (t := 136) dX8_layBack_104 rfl (fun c1 => ?_) (fun c1 => ?_)
  · replace h := h.1 c1
    refine jv_iconst dX8_layBack_136 ci_iconst_0 ?_
    refine jv_istore_n (ls' := [some (.ref 137), some (.int a1), some (.int 0)]) dX8_layBack_137 (Nat.le_of_ble_eq_true rfl) rfl ?_
    exact h
  · replace h := h.2 c1
    refine jv_aload_n dX8_layBack_107 rfl ?_
    refine gf_8_90 rfl dX8_layBack_108 kd_c_137 (lt_c 137 rfl) rf_c_137_34 ?_
    refine jv_iconst dX8_layBack_111 ci_iconst_4 ?_
    refine jv_iload_n dX8_layBack_112 rfl ?_
    refine jv_imul dX8_layBack_113 ?_
    refine jv_iload_n dX8_layBack_114 rfl ?_
    refine jv_iadd dX8_layBack_115 ?_
    obtain ⟨b4, h⟩ := h
    refine jm_aaload1 dX8_layBack_116 kd_c_1358 (lt_c 1358 rfl) b4 (rf_r_1358 _) ?_
    refine jv_iconst dX8_layBack_117 ci_iconst_0 ?_
    refine jv_aload_n dX8_layBack_118 rfl ?_
    refine jv_iload_n dX8_layBack_119 rfl ?_
    obtain ⟨b5, h⟩ := h
    refine jm_callVa [.int i2] cw_8_267 dX8_layBack_120 rfl (Nat.le_of_ble_eq_true rfl) kd_c_137 (r := (RX8, TX8, 48)) rfl rfl (lt_c 137 rfl) (Nat.le_of_ble_eq_true rfl) (p_X8_knownRow b5 ?_)
    refine jv_iconst dX8_layBack_123 ci_iconst_0 ?_
    refine jv_sipush dX8_layBack_124 ci_sipush_192 ?_
    obtain ⟨b6, h⟩ := h
    refine jm_acopy ac_8_213 dX8_layBack_127 (kd_r_1358 (vp_lt b4)) (kd_r_K (vp_lt b5)) (lt_r_1358 (vp_lt b4)) (lt_r_K (vp_lt b5)) rfl (Nat.le_of_ble_eq_true rfl) (Nat.le_of_ble_eq_true rfl) b6.1 b6.2.1 b6.2.2.1 b6.2.2.2.1 b6.2.2.2.2 ?_
    generalize hhu1 : jcp u (1359 + ((4 * a1) + i2).toNatClampNeg) (0 : Int32).toNatClampNeg (143 + i2.toNatClampNeg) (0 : Int32).toNatClampNeg (192 : Int32).toNatClampNeg = u1
    replace h := h u1 hhu1.symm
    refine jv_iinc (v := i2 + 1) (ls' := [some (.ref 137), some (.int a1), some (.int (i2 + 1))]) dX8_layBack_130 (Nat.le_of_ble_eq_true rfl) rfl (by rw [ci_iconst_1]) rfl ?_
    refine jv_goto (t := 102) dX8_layBack_133 rfl ?_
    exact h
theorem g_X8_layBack_138 {E : JE} {u : JM} {K : JM → Prop}  {a1 i2 : Int32}
    (h : ((6 ≤ i2 → JVu E 2 YX8_layBack K 177 [some (.ref 137), some (.int a1), some (.int 0)] [] u) ∧
 (¬ 6 ≤ i2 → vp_in ((6 * a1) + i2) 12 ∧
  vp_in i2 6 ∧
  (¬ (0 : Int32) < 0 ∧ ¬ (0 : Int32) < 0 ∧ ¬ (u 137 12) < 0 ∧ (0 : Int32).toNatClampNeg + (u 137 12).toNatClampNeg ≤ 400 ∧ (0 : Int32).toNatClampNeg + (u 137 12).toNatClampNeg ≤ 400) ∧
  ∀ u1, u1 = jcp u (1368 + ((6 * a1) + i2).toNatClampNeg) (0 : Int32).toNatClampNeg (533 + i2.toNatClampNeg) (0 : Int32).toNatClampNeg (u 137 12).toNatClampNeg →
  JVu E 2 YX8_layBack K 138 [some (.ref 137), some (.int a1), some (.int (i2 + 1))] [] u1)))
    : JVu E 2 YX8_layBack K 138 [some (.ref 137), some (.int a1), some (.int i2)] [] u := by
  refine jv_iload_n dX8_layBack_138 rfl ?_
  refine jv_bipush dX8_layBack_139 ci_bipush_6 ?_
  refine jv_icmp_ge (t := 175) dX8_layBack_141 rfl (fun c1 => ?_) (fun c1 => ?_)
  · replace h := h.1 c1
    refine jv_iconst dX8_layBack_175 ci_iconst_0 ?_
    refine jv_istore_n (ls' := [some (.ref 137), some (.int a1), some (.int 0)]) dX8_layBack_176 (Nat.le_of_ble_eq_true rfl) rfl ?_
    exact h
  · replace h := h.2 c1
    refine jv_aload_n dX8_layBack_144 rfl ?_
    refine gf_8_93 rfl dX8_layBack_145 kd_c_137 (lt_c 137 rfl) rf_c_137_35 ?_
    refine jv_bipush dX8_layBack_148 ci_bipush_6 ?_
    refine jv_iload_n dX8_layBack_150 rfl ?_
    refine jv_imul dX8_layBack_151 ?_
    refine jv_iload_n dX8_layBack_152 rfl ?_
    refine jv_iadd dX8_layBack_153 ?_
    obtain ⟨b4, h⟩ := h
    refine jm_aaload1 dX8_layBack_154 kd_c_1367 (lt_c 1367 rfl) b4 (rf_r_1367 _) ?_
    refine jv_iconst dX8_layBack_155 ci_iconst_0 ?_
    refine jv_aload_n dX8_layBack_156 rfl ?_
    refine jv_iload_n dX8_layBack_157 rfl ?_
    obtain ⟨b5, h⟩ := h
    refine jm_callVa [.int i2] cw_8_270 dX8_layBack_158 rfl (Nat.le_of_ble_eq_true rfl) kd_c_137 (r := (RX8, TX8, 48)) rfl rfl (lt_c 137 rfl) (Nat.le_of_ble_eq_true rfl) (p_X8_waitingRow b5 ?_)
    refine jv_iconst dX8_layBack_161 ci_iconst_0 ?_
    refine jv_aload_n dX8_layBack_162 rfl ?_
    refine gf_8_225 rfl dX8_layBack_163 kd_c_137 (lt_c 137 rfl) ?_
    obtain ⟨b6, h⟩ := h
    refine jm_acopy ac_8_213 dX8_layBack_166 (kd_r_1367 (vp_lt b4)) (kd_r_W (vp_lt b5)) (lt_r_1367 (vp_lt b4)) (lt_r_W (vp_lt b5)) rfl (Nat.le_of_ble_eq_true rfl) (Nat.le_of_ble_eq_true rfl) b6.1 b6.2.1 b6.2.2.1 b6.2.2.2.1 b6.2.2.2.2 ?_
    generalize hhu1 : jcp u (1368 + ((6 * a1) + i2).toNatClampNeg) (0 : Int32).toNatClampNeg (533 + i2.toNatClampNeg) (0 : Int32).toNatClampNeg (u 137 12).toNatClampNeg = u1
    replace h := h u1 hhu1.symm
    refine jv_iinc (v := i2 + 1) (ls' := [some (.ref 137), some (.int a1), some (.int (i2 + 1))]) dX8_layBack_169 (Nat.le_of_ble_eq_true rfl) rfl (by rw [ci_iconst_1]) rfl ?_
    refine jv_goto (t := 138) dX8_layBack_172 rfl ?_
    exact h
theorem g_X8_layBack_177 {E : JE} {u : JM} {K : JM → Prop}  {a1 i2 : Int32}
    (h : ((192 ≤ i2 → JVu E 2 YX8_layBack K 213 [some (.ref 137), some (.int a1), some (.int 0)] [] u) ∧
 (¬ 192 ≤ i2 → vp_in a1 2 ∧
  vp_in i2 192 ∧
  (¬ (0 : Int32) < 0 ∧ ¬ (0 : Int32) < 0 ∧ ¬ (12 : Int32) < 0 ∧ (0 : Int32).toNatClampNeg + (12 : Int32).toNatClampNeg ≤ 12 ∧ (0 : Int32).toNatClampNeg + (12 : Int32).toNatClampNeg ≤ 12) ∧
  ∀ u1, u1 = jcp u (1382 + 193 * a1.toNatClampNeg + i2.toNatClampNeg) (0 : Int32).toNatClampNeg (148 + i2.toNatClampNeg) (0 : Int32).toNatClampNeg (12 : Int32).toNatClampNeg →
  JVu E 2 YX8_layBack K 177 [some (.ref 137), some (.int a1), some (.int (i2 + 1))] [] u1)))
    : JVu E 2 YX8_layBack K 177 [some (.ref 137), some (.int a1), some (.int i2)] [] u := by
  refine jv_iload_n dX8_layBack_177 rfl ?_
  refine jv_sipush dX8_layBack_178 ci_sipush_192 ?_
  refine jv_icmp_ge (t := 211) dX8_layBack_181 rfl (fun c1 => ?_) (fun c1 => ?_)
  · replace h := h.1 c1
    refine jv_iconst dX8_layBack_211 ci_iconst_0 ?_
    refine jv_istore_n (ls' := [some (.ref 137), some (.int a1), some (.int 0)]) dX8_layBack_212 (Nat.le_of_ble_eq_true rfl) rfl ?_
    exact h
  · replace h := h.2 c1
    refine jv_aload_n dX8_layBack_184 rfl ?_
    refine gf_8_98 rfl dX8_layBack_185 kd_c_137 (lt_c 137 rfl) rf_c_137_36 ?_
    refine jv_iload_n dX8_layBack_188 rfl ?_
    obtain ⟨b3, h⟩ := h
    refine jm_aaload2 dX8_layBack_189 kd_c_1380 (lt_c 1380 rfl) b3 (rf_r_1380 _) ?_
    refine jv_iload_n dX8_layBack_190 rfl ?_
    obtain ⟨b4, h⟩ := h
    refine jm_aaload1 dX8_layBack_191 (kd_r_1380 (vp_lt b3)) (lt_r_1380 (vp_lt b3)) b4 (rf_q_1380 (vp_lt b3) _) ?_
    refine jv_iconst dX8_layBack_192 ci_iconst_0 ?_
    refine jv_aload_n dX8_layBack_193 rfl ?_
    refine gf_8_39 rfl dX8_layBack_194 kd_c_137 (lt_c 137 rfl) rf_c_137_10 ?_
    refine jv_iload_n dX8_layBack_197 rfl ?_
    refine jm_aaload1 dX8_layBack_198 kd_c_147 (lt_c 147 rfl) b4 (rf_r_147 _) ?_
    refine jv_iconst dX8_layBack_199 ci_iconst_0 ?_
    refine jv_bipush dX8_layBack_200 ci_bipush_12 ?_
    obtain ⟨b5, h⟩ := h
    refine jm_acopy ac_8_213 dX8_layBack_202 (kd_q_1380 (vp_lt b3) (vp_lt b4)) (kd_r_147 (vp_lt b4)) (lt_q_1380 (vp_lt b3) (vp_lt b4)) (lt_r_147 (vp_lt b4)) rfl (Nat.le_of_ble_eq_true rfl) (Nat.le_of_ble_eq_true rfl) b5.1 b5.2.1 b5.2.2.1 b5.2.2.2.1 b5.2.2.2.2 ?_
    generalize hhu1 : jcp u (1382 + 193 * a1.toNatClampNeg + i2.toNatClampNeg) (0 : Int32).toNatClampNeg (148 + i2.toNatClampNeg) (0 : Int32).toNatClampNeg (12 : Int32).toNatClampNeg = u1
    replace h := h u1 hhu1.symm
    refine jv_iinc (v := i2 + 1) (ls' := [some (.ref 137), some (.int a1), some (.int (i2 + 1))]) dX8_layBack_205 (Nat.le_of_ble_eq_true rfl) rfl (by rw [ci_iconst_1]) rfl ?_
    refine jv_goto (t := 177) dX8_layBack_208 rfl ?_
    exact h
theorem g_X8_layBack_213 {E : JE} {u : JM} {K : JM → Prop}  {a1 i2 : Int32}
    (h : ((192 ≤ i2 → JVu E 2 YX8_layBack K 249 [some (.ref 137), some (.int a1), some (.int 0)] [] u) ∧
 (¬ 192 ≤ i2 → vp_in a1 2 ∧
  vp_in i2 192 ∧
  (¬ (0 : Int32) < 0 ∧ ¬ (0 : Int32) < 0 ∧ ¬ (8 : Int32) < 0 ∧ (0 : Int32).toNatClampNeg + (8 : Int32).toNatClampNeg ≤ 8 ∧ (0 : Int32).toNatClampNeg + (8 : Int32).toNatClampNeg ≤ 8) ∧
  ∀ u1, u1 = jcp u (1769 + 193 * a1.toNatClampNeg + i2.toNatClampNeg) (0 : Int32).toNatClampNeg (341 + i2.toNatClampNeg) (0 : Int32).toNatClampNeg (8 : Int32).toNatClampNeg →
  JVu E 2 YX8_layBack K 213 [some (.ref 137), some (.int a1), some (.int (i2 + 1))] [] u1)))
    : JVu E 2 YX8_layBack K 213 [some (.ref 137), some (.int a1), some (.int i2)] [] u := by
  refine jv_iload_n dX8_layBack_213 rfl ?_
  refine jv_sipush dX8_layBack_214 ci_sipush_192 ?_
  refine jv_icmp_ge (t := 247) dX8_layBack_217 rfl (fun c1 => ?_) (fun c1 => ?_)
  · replace h := h.1 c1
    refine jv_iconst dX8_layBack_247 ci_iconst_0 ?_
    refine jv_istore_n (ls' := [some (.ref 137), some (.int a1), some (.int 0)]) dX8_layBack_248 (Nat.le_of_ble_eq_true rfl) rfl ?_
    exact h
  · replace h := h.2 c1
    refine jv_aload_n dX8_layBack_220 rfl ?_
    refine gf_8_101 rfl dX8_layBack_221 kd_c_137 (lt_c 137 rfl) rf_c_137_37 ?_
    refine jv_iload_n dX8_layBack_224 rfl ?_
    obtain ⟨b3, h⟩ := h
    refine jm_aaload2 dX8_layBack_225 kd_c_1767 (lt_c 1767 rfl) b3 (rf_r_1767 _) ?_
    refine jv_iload_n dX8_layBack_226 rfl ?_
    obtain ⟨b4, h⟩ := h
    refine jm_aaload1 dX8_layBack_227 (kd_r_1767 (vp_lt b3)) (lt_r_1767 (vp_lt b3)) b4 (rf_q_1767 (vp_lt b3) _) ?_
    refine jv_iconst dX8_layBack_228 ci_iconst_0 ?_
    refine jv_aload_n dX8_layBack_229 rfl ?_
    refine gf_8_42 rfl dX8_layBack_230 kd_c_137 (lt_c 137 rfl) rf_c_137_11 ?_
    refine jv_iload_n dX8_layBack_233 rfl ?_
    refine jm_aaload1 dX8_layBack_234 kd_c_340 (lt_c 340 rfl) b4 (rf_r_340 _) ?_
    refine jv_iconst dX8_layBack_235 ci_iconst_0 ?_
    refine jv_bipush dX8_layBack_236 ci_bipush_8 ?_
    obtain ⟨b5, h⟩ := h
    refine jm_acopy ac_8_213 dX8_layBack_238 (kd_q_1767 (vp_lt b3) (vp_lt b4)) (kd_r_340 (vp_lt b4)) (lt_q_1767 (vp_lt b3) (vp_lt b4)) (lt_r_340 (vp_lt b4)) rfl (Nat.le_of_ble_eq_true rfl) (Nat.le_of_ble_eq_true rfl) b5.1 b5.2.1 b5.2.2.1 b5.2.2.2.1 b5.2.2.2.2 ?_
    generalize hhu1 : jcp u (1769 + 193 * a1.toNatClampNeg + i2.toNatClampNeg) (0 : Int32).toNatClampNeg (341 + i2.toNatClampNeg) (0 : Int32).toNatClampNeg (8 : Int32).toNatClampNeg = u1
    replace h := h u1 hhu1.symm
    refine jv_iinc (v := i2 + 1) (ls' := [some (.ref 137), some (.int a1), some (.int (i2 + 1))]) dX8_layBack_241 (Nat.le_of_ble_eq_true rfl) rfl (by rw [ci_iconst_1]) rfl ?_
    refine jv_goto (t := 213) dX8_layBack_244 rfl ?_
    exact h
theorem g_X8_layBack_249 {E : JE} {u : JM} {K : JM → Prop}  {a1 i2 : Int32}
    (h : (((u 137 12) ≤ i2 → JVu E 2 YX8_layBack K 286 [some (.ref 137), some (.int a1), some (.int 0)] [] u) ∧
 (¬ (u 137 12) ≤ i2 → vp_in a1 2 ∧
  vp_in i2 400 ∧
  (¬ (0 : Int32) < 0 ∧ ¬ (0 : Int32) < 0 ∧ ¬ (12 : Int32) < 0 ∧ (0 : Int32).toNatClampNeg + (12 : Int32).toNatClampNeg ≤ 12 ∧ (0 : Int32).toNatClampNeg + (12 : Int32).toNatClampNeg ≤ 12) ∧
  ∀ u1, u1 = jcp u (2156 + 401 * a1.toNatClampNeg + i2.toNatClampNeg) (0 : Int32).toNatClampNeg (540 + i2.toNatClampNeg) (0 : Int32).toNatClampNeg (12 : Int32).toNatClampNeg →
  JVu E 2 YX8_layBack K 249 [some (.ref 137), some (.int a1), some (.int (i2 + 1))] [] u1)))
    : JVu E 2 YX8_layBack K 249 [some (.ref 137), some (.int a1), some (.int i2)] [] u := by
  refine jv_iload_n dX8_layBack_249 rfl ?_
  refine jv_aload_n dX8_layBack_250 rfl ?_
  refine gf_8_225 rfl dX8_layBack_251 kd_c_137 (lt_c 137 rfl) ?_
  refine jv_icmp_ge (t := 284) dX8_layBack_254 rfl (fun c1 => ?_) (fun c1 => ?_)
  · replace h := h.1 c1
    refine jv_iconst dX8_layBack_284 ci_iconst_0 ?_
    refine jv_istore_n (ls' := [some (.ref 137), some (.int a1), some (.int 0)]) dX8_layBack_285 (Nat.le_of_ble_eq_true rfl) rfl ?_
    exact h
  · replace h := h.2 c1
    refine jv_aload_n dX8_layBack_257 rfl ?_
    refine gf_8_104 rfl dX8_layBack_258 kd_c_137 (lt_c 137 rfl) rf_c_137_38 ?_
    refine jv_iload_n dX8_layBack_261 rfl ?_
    obtain ⟨b3, h⟩ := h
    refine jm_aaload2 dX8_layBack_262 kd_c_2154 (lt_c 2154 rfl) b3 (rf_r_2154 _) ?_
    refine jv_iload_n dX8_layBack_263 rfl ?_
    obtain ⟨b4, h⟩ := h
    refine jm_aaload1 dX8_layBack_264 (kd_r_2154 (vp_lt b3)) (lt_r_2154 (vp_lt b3)) b4 (rf_q_2154 (vp_lt b3) _) ?_
    refine jv_iconst dX8_layBack_265 ci_iconst_0 ?_
    refine jv_aload_n dX8_layBack_266 rfl ?_
    refine gf_8_63 rfl dX8_layBack_267 kd_c_137 (lt_c 137 rfl) rf_c_137_21 ?_
    refine jv_iload_n dX8_layBack_270 rfl ?_
    refine jm_aaload1 dX8_layBack_271 kd_c_539 (lt_c 539 rfl) b4 (rf_r_539 _) ?_
    refine jv_iconst dX8_layBack_272 ci_iconst_0 ?_
    refine jv_bipush dX8_layBack_273 ci_bipush_12 ?_
    obtain ⟨b5, h⟩ := h
    refine jm_acopy ac_8_213 dX8_layBack_275 (kd_q_2154 (vp_lt b3) (vp_lt b4)) (kd_r_539 (vp_lt b4)) (lt_q_2154 (vp_lt b3) (vp_lt b4)) (lt_r_539 (vp_lt b4)) rfl (Nat.le_of_ble_eq_true rfl) (Nat.le_of_ble_eq_true rfl) b5.1 b5.2.1 b5.2.2.1 b5.2.2.2.1 b5.2.2.2.2 ?_
    generalize hhu1 : jcp u (2156 + 401 * a1.toNatClampNeg + i2.toNatClampNeg) (0 : Int32).toNatClampNeg (540 + i2.toNatClampNeg) (0 : Int32).toNatClampNeg (12 : Int32).toNatClampNeg = u1
    replace h := h u1 hhu1.symm
    refine jv_iinc (v := i2 + 1) (ls' := [some (.ref 137), some (.int a1), some (.int (i2 + 1))]) dX8_layBack_278 (Nat.le_of_ble_eq_true rfl) rfl (by rw [ci_iconst_1]) rfl ?_
    refine jv_goto (t := 249) dX8_layBack_281 rfl ?_
    exact h
theorem g_X8_layBack_286 {E : JE} {u : JM} {K : JM → Prop}  {a1 i2 : Int32}
    (h : (((u 137 12) ≤ i2 → K u) ∧
 (¬ (u 137 12) ≤ i2 → vp_in a1 2 ∧
  vp_in i2 400 ∧
  (¬ (0 : Int32) < 0 ∧ ¬ (0 : Int32) < 0 ∧ ¬ (8 : Int32) < 0 ∧ (0 : Int32).toNatClampNeg + (8 : Int32).toNatClampNeg ≤ 8 ∧ (0 : Int32).toNatClampNeg + (8 : Int32).toNatClampNeg ≤ 8) ∧
  ∀ u1, u1 = jcp u (2959 + 401 * a1.toNatClampNeg + i2.toNatClampNeg) (0 : Int32).toNatClampNeg (941 + i2.toNatClampNeg) (0 : Int32).toNatClampNeg (8 : Int32).toNatClampNeg →
  JVu E 2 YX8_layBack K 286 [some (.ref 137), some (.int a1), some (.int (i2 + 1))] [] u1)))
    : JVu E 2 YX8_layBack K 286 [some (.ref 137), some (.int a1), some (.int i2)] [] u := by
  refine jv_iload_n dX8_layBack_286 rfl ?_
  refine jv_aload_n dX8_layBack_287 rfl ?_
  refine gf_8_225 rfl dX8_layBack_288 kd_c_137 (lt_c 137 rfl) ?_
  refine jv_icmp_ge (t := 321) dX8_layBack_291 rfl (fun c1 => ?_) (fun c1 => ?_)
  · replace h := h.1 c1
    exact jm_return dX8_layBack_321 rfl h
  · replace h := h.2 c1
    refine jv_aload_n dX8_layBack_294 rfl ?_
    refine gf_8_107 rfl dX8_layBack_295 kd_c_137 (lt_c 137 rfl) rf_c_137_39 ?_
    refine jv_iload_n dX8_layBack_298 rfl ?_
    obtain ⟨b3, h⟩ := h
    refine jm_aaload2 dX8_layBack_299 kd_c_2957 (lt_c 2957 rfl) b3 (rf_r_2957 _) ?_
    refine jv_iload_n dX8_layBack_300 rfl ?_
    obtain ⟨b4, h⟩ := h
    refine jm_aaload1 dX8_layBack_301 (kd_r_2957 (vp_lt b3)) (lt_r_2957 (vp_lt b3)) b4 (rf_q_2957 (vp_lt b3) _) ?_
    refine jv_iconst dX8_layBack_302 ci_iconst_0 ?_
    refine jv_aload_n dX8_layBack_303 rfl ?_
    refine gf_8_66 rfl dX8_layBack_304 kd_c_137 (lt_c 137 rfl) rf_c_137_22 ?_
    refine jv_iload_n dX8_layBack_307 rfl ?_
    refine jm_aaload1 dX8_layBack_308 kd_c_940 (lt_c 940 rfl) b4 (rf_r_940 _) ?_
    refine jv_iconst dX8_layBack_309 ci_iconst_0 ?_
    refine jv_bipush dX8_layBack_310 ci_bipush_8 ?_
    obtain ⟨b5, h⟩ := h
    refine jm_acopy ac_8_213 dX8_layBack_312 (kd_q_2957 (vp_lt b3) (vp_lt b4)) (kd_r_940 (vp_lt b4)) (lt_q_2957 (vp_lt b3) (vp_lt b4)) (lt_r_940 (vp_lt b4)) rfl (Nat.le_of_ble_eq_true rfl) (Nat.le_of_ble_eq_true rfl) b5.1 b5.2.1 b5.2.2.1 b5.2.2.2.1 b5.2.2.2.2 ?_
    generalize hhu1 : jcp u (2959 + 401 * a1.toNatClampNeg + i2.toNatClampNeg) (0 : Int32).toNatClampNeg (941 + i2.toNatClampNeg) (0 : Int32).toNatClampNeg (8 : Int32).toNatClampNeg = u1
    replace h := h u1 hhu1.symm
    refine jv_iinc (v := i2 + 1) (ls' := [some (.ref 137), some (.int a1), some (.int (i2 + 1))]) dX8_layBack_315 (Nat.le_of_ble_eq_true rfl) rfl (by rw [ci_iconst_1]) rfl ?_
    refine jv_goto (t := 286) dX8_layBack_318 rfl ?_
    exact h
theorem g_X8_goesLong_0 {E : JE} {u : JM} {K : JM → Prop} 
    (h : JVu E 9 YX8_goesLong K 2 [some (.ref 137), some (.int 0), none] [] u)
    : JVu E 9 YX8_goesLong K 0 [some (.ref 137), none, none] [] u := by
  refine jv_iconst dX8_goesLong_0 ci_iconst_0 ?_
  refine jv_istore_n (ls' := [some (.ref 137), some (.int 0), none]) dX8_goesLong_1 (Nat.le_of_ble_eq_true rfl) rfl ?_
  exact h
theorem g_X8_goesLong_2 {E : JE} {u : JM} {K : JM → Prop}  {i1 : Int32}
    (h : ((40 ≤ i1 → K u) ∧
 (¬ 40 ≤ i1 → JCi E 8 YX8_goes [.ref 137] (fun x1 u1 =>
  JVu E 9 YX8_goesLong K 2 [some (.ref 137), some (.int (i1 + 1)), none] [] u1) u)))
    : JVu E 9 YX8_goesLong K 2 [some (.ref 137), some (.int i1), none] [] u := by
  refine jv_iload_n dX8_goesLong_2 rfl ?_
  refine jv_bipush dX8_goesLong_3 ci_bipush_40 ?_
  refine jv_icmp_ge (t := 19) dX8_goesLong_5 rfl (fun c1 => ?_) (fun c1 => ?_)
  · replace h := h.1 c1
    exact jm_return dX8_goesLong_19 rfl h
  · replace h := h.2 c1
    refine jv_aload_n dX8_goesLong_8 rfl ?_
    refine jm_callVi [] cw_8_247 dX8_goesLong_9 rfl (Nat.le_of_ble_eq_true rfl) kd_c_137 (r := (RX8, TX8, 48)) rfl rfl (lt_c 137 rfl) (Nat.le_of_ble_eq_true rfl) (JCi.mono h (fun x1 u1 h => ?_))
    refine jv_istore_n (ls' := [some (.ref 137), some (.int i1), some (.int x1)]) dX8_goesLong_12 (Nat.le_of_ble_eq_true rfl) rfl ?_
    refine jv_iinc (v := i1 + 1) (ls' := [some (.ref 137), some (.int (i1 + 1)), some (.int x1)]) dX8_goesLong_13 (Nat.le_of_ble_eq_true rfl) rfl (by rw [ci_iconst_1]) rfl ?_
    refine jv_goto (t := 2) dX8_goesLong_16 rfl ?_
    exact jm_sub (ls' := [some (.ref 137), some (.int (i1 + 1)), none]) ⟨rfl, rfl, trivial⟩ h
theorem g_X8_settled_0 {E : JE} {u : JM} {K : Int32 → JM → Prop}  {a1 : Int32}
    (h : ((¬ (jb (rg a1 (0 : Int32).toInt (2 : Int32).toInt)) = 0 → JCu E 2 YX8_keep [.ref 137, .int 0] (fun u1 =>
  JVi E 9 YX8_settled K 24 [some (.ref 137), some (.int a1), some (.int 0), some (.int 0), some (.int 0), none, none] [] u1) u) ∧
 ((jb (rg a1 (0 : Int32).toInt (2 : Int32).toInt)) = 0 → K (-2) u)))
    : JVi E 9 YX8_settled K 0 [some (.ref 137), some (.int a1), none, none, none, none, none] [] u := by
  refine jv_iload_n dX8_settled_0 rfl ?_
  refine jv_iconst dX8_settled_1 ci_iconst_0 ?_
  refine jv_iconst dX8_settled_2 ci_iconst_2 ?_
  refine jm_callSi [.int a1, .int 0, .int 2] cw_8_125 dX8_settled_3 rfl (Nat.le_of_ble_eq_true rfl) (Nat.le_of_ble_eq_true rfl) (p_X8_in  ?_)
  refine jv_if_ne (t := 12) dX8_settled_6 rfl (fun c1 => ?_) (fun c1 => ?_)
  · replace h := h.1 c1
    refine jv_aload_n dX8_settled_12 rfl ?_
    refine jv_iconst dX8_settled_13 ci_iconst_0 ?_
    refine jm_callVu [.int 0] cw_8_273 dX8_settled_14 rfl (Nat.le_of_ble_eq_true rfl) kd_c_137 (r := (RX8, TX8, 48)) rfl rfl (lt_c 137 rfl) (Nat.le_of_ble_eq_true rfl) (JCu.mono h (fun u1 h => ?_))
    refine jv_iconst dX8_settled_17 ci_iconst_0 ?_
    refine jv_istore_n (ls' := [some (.ref 137), some (.int a1), some (.int 0), none, none, none, none]) dX8_settled_18 (Nat.le_of_ble_eq_true rfl) rfl ?_
    refine jv_iconst dX8_settled_19 ci_iconst_0 ?_
    refine jv_istore_n (ls' := [some (.ref 137), some (.int a1), some (.int 0), some (.int 0), none, none, none]) dX8_settled_20 (Nat.le_of_ble_eq_true rfl) rfl ?_
    refine jv_iconst dX8_settled_21 ci_iconst_0 ?_
    refine jv_istore (ls' := [some (.ref 137), some (.int a1), some (.int 0), some (.int 0), some (.int 0), none, none]) dX8_settled_22 (Nat.le_of_ble_eq_true rfl) rfl ?_
    exact h
  · replace h := h.2 c1
    refine jv_bipush dX8_settled_9 ci_bipush_m2 ?_
    exact jm_ireturn dX8_settled_11 rfl h
theorem g_X8_settled_24 {E : JE} {u : JM} {K : Int32 → JM → Prop}  {a1 i2 i3 i4 : Int32}
    (h : ((¬ i4 = 0 → JVi E 9 YX8_settled K 89 [some (.ref 137), some (.int a1), some (.int i2), some (.int i3), some (.int i4), some (.int 0), some (.int 0)] [] u) ∧
 (i4 = 0 → ((80 ≤ i2 → JVi E 9 YX8_settled K 89 [some (.ref 137), some (.int a1), some (.int i2), some (.int i3), some (.int i4), some (.int 0), some (.int 0)] [] u) ∧
  (¬ 80 ≤ i2 → ∀ v_1 : Int32, v_1 = (if (u 137 12) ≤ 0 then 0 else 1) →
   JCi E 8 YX8_goes [.ref 137] (fun x2 u2 =>
   ∀ v_3 : Int32, v_3 = (if v_1 = 0 then (if x2 = 0 then 1 else 0) else 0) →
    JVi E 9 YX8_settled K 24 [some (.ref 137), some (.int a1), some (.int (i2 + 1)), some (.int (i3 + x2)), some (.int v_3), none, none] [] u2) u)))))
    : JVi E 9 YX8_settled K 24 [some (.ref 137), some (.int a1), some (.int i2), some (.int i3), some (.int i4), none, none] [] u := by
  refine jv_iload dX8_settled_24 rfl ?_
  refine jv_if_ne (t := 83) dX8_settled_26 rfl (fun c1 => ?_) (fun c1 => ?_)
  · replace h := h.1 c1
    refine jv_iconst dX8_settled_83 ci_iconst_0 ?_
    refine jv_istore (ls' := [some (.ref 137), some (.int a1), some (.int i2), some (.int i3), some (.int i4), some (.int 0), none]) dX8_settled_84 (Nat.le_of_ble_eq_true rfl) rfl ?_
    refine jv_iconst dX8_settled_86 ci_iconst_0 ?_
    refine jv_istore (ls' := [some (.ref 137), some (.int a1), some (.int i2), some (.int i3), some (.int i4), some (.int 0), some (.int 0)]) dX8_settled_87 (Nat.le_of_ble_eq_true rfl) rfl ?_
    exact h
  · replace h := h.2 c1
    refine jv_iload_n dX8_settled_29 rfl ?_
    refine jv_bipush dX8_settled_30 ci_bipush_80 ?_
    refine jv_icmp_ge (t := 83) dX8_settled_32 rfl (fun c2 => ?_) (fun c2 => ?_)
    · replace h := h.1 c2
      refine jv_iconst dX8_settled_83 ci_iconst_0 ?_
      refine jv_istore (ls' := [some (.ref 137), some (.int a1), some (.int i2), some (.int i3), some (.int i4), some (.int 0), none]) dX8_settled_84 (Nat.le_of_ble_eq_true rfl) rfl ?_
      refine jv_iconst dX8_settled_86 ci_iconst_0 ?_
      refine jv_istore (ls' := [some (.ref 137), some (.int a1), some (.int i2), some (.int i3), some (.int i4), some (.int 0), some (.int 0)]) dX8_settled_87 (Nat.le_of_ble_eq_true rfl) rfl ?_
      exact h
    · replace h := h.2 c2
      refine jv_aload_n dX8_settled_35 rfl ?_
      refine gf_8_225 rfl dX8_settled_36 kd_c_137 (lt_c 137 rfl) ?_
      have key8 : ∀ v_1 : Int32, v_1 = (if (u 137 12) ≤ 0 then 0 else 1) → JVi E 9 YX8_settled K 47 [some (.ref 137), some (.int a1), some (.int i2), some (.int i3), some (.int i4), none, none] [.int v_1] u := by
        intro v_1 hv_1
        replace h := h v_1 hv_1
        refine jv_istore (ls' := [some (.ref 137), some (.int a1), some (.int i2), some (.int i3), some (.int i4), some (.int v_1), none]) dX8_settled_47 (Nat.le_of_ble_eq_true rfl) rfl ?_
        refine jv_aload_n dX8_settled_49 rfl ?_
        refine jm_callVi [] cw_8_247 dX8_settled_50 rfl (Nat.le_of_ble_eq_true rfl) kd_c_137 (r := (RX8, TX8, 48)) rfl rfl (lt_c 137 rfl) (Nat.le_of_ble_eq_true rfl) (JCi.mono h (fun x2 u2 h => ?_))
        refine jv_istore (ls' := [some (.ref 137), some (.int a1), some (.int i2), some (.int i3), some (.int i4), some (.int v_1), some (.int x2)]) dX8_settled_53 (Nat.le_of_ble_eq_true rfl) rfl ?_
        refine jv_iload_n dX8_settled_55 rfl ?_
        refine jv_iload dX8_settled_56 rfl ?_
        refine jv_iadd dX8_settled_58 ?_
        refine jv_istore_n (ls' := [some (.ref 137), some (.int a1), some (.int i2), some (.int (i3 + x2)), some (.int i4), some (.int v_1), some (.int x2)]) dX8_settled_59 (Nat.le_of_ble_eq_true rfl) rfl ?_
        refine jv_iinc (v := i2 + 1) (ls' := [some (.ref 137), some (.int a1), some (.int (i2 + 1)), some (.int (i3 + x2)), some (.int i4), some (.int v_1), some (.int x2)]) dX8_settled_60 (Nat.le_of_ble_eq_true rfl) rfl (by rw [ci_iconst_1]) rfl ?_
        refine jv_iload dX8_settled_63 rfl ?_
        have key5 : ∀ v_3 : Int32, v_3 = (if v_1 = 0 then (if x2 = 0 then 1 else 0) else 0) → JVi E 9 YX8_settled K 78 [some (.ref 137), some (.int a1), some (.int (i2 + 1)), some (.int (i3 + x2)), some (.int i4), some (.int v_1), some (.int x2)] [.int v_3] u2 := by
          intro v_3 hv_3
          replace h := h v_3 hv_3
          refine jv_istore (ls' := [some (.ref 137), some (.int a1), some (.int (i2 + 1)), some (.int (i3 + x2)), some (.int v_3), some (.int v_1), some (.int x2)]) dX8_settled_78 (Nat.le_of_ble_eq_true rfl) rfl ?_
          refine jv_goto (t := 24) dX8_settled_80 rfl ?_
          exact jm_sub (ls' := [some (.ref 137), some (.int a1), some (.int (i2 + 1)), some (.int (i3 + x2)), some (.int v_3), none, none]) ⟨rfl, rfl, rfl, rfl, rfl, trivial⟩ h
        clear h
        refine jv_if_ne (t := 77) dX8_settled_65 rfl (fun c6 => ?_) (fun c6 => ?_)
        · refine jv_iconst dX8_settled_77 ci_iconst_0 ?_
          exact key5 _ (Eq.trans rfl (if_neg c6).symm)
        · refine jv_iload dX8_settled_68 rfl ?_
          refine jv_if_ne (t := 77) dX8_settled_70 rfl (fun c7 => ?_) (fun c7 => ?_)
          · refine jv_iconst dX8_settled_77 ci_iconst_0 ?_
            exact key5 _ (Eq.trans (Eq.trans rfl (if_neg c7).symm) (if_pos c6).symm)
          · refine jv_iconst dX8_settled_73 ci_iconst_1 ?_
            refine jv_goto (t := 78) dX8_settled_74 rfl ?_
            exact key5 _ (Eq.trans (Eq.trans rfl (if_pos c7).symm) (if_pos c6).symm)
      clear h
      refine jv_if_le (t := 46) dX8_settled_39 rfl (fun c9 => ?_) (fun c9 => ?_)
      · refine jv_iconst dX8_settled_46 ci_iconst_0 ?_
        exact key8 _ (Eq.trans rfl (if_pos c9).symm)
      · refine jv_iconst dX8_settled_42 ci_iconst_1 ?_
        refine jv_goto (t := 47) dX8_settled_43 rfl ?_
        exact key8 _ (Eq.trans rfl (if_neg c9).symm)
theorem g_X8_settled_89 {E : JE} {u : JM} {K : Int32 → JM → Prop}  {a1 i2 i3 i4 i5 i6 : Int32}
    (h : ((8 ≤ i6 → JCu E 2 YX8_layBack [.ref 137, .int 0] (fun u1 =>
  ((¬ a1 = 0 → ((¬ a1 = 1 → K i5 u1) ∧
    (a1 = 1 → K i3 u1))) ∧
   (a1 = 0 → ((i4 = 0 → K (-1) u1) ∧
    (¬ i4 = 0 → K i2 u1))))) u) ∧
 (¬ 8 ≤ i6 → JCi E 3 YX8_knows [.ref 137, .int i6, .int 1] (fun x2 u2 =>
  JVi E 9 YX8_settled K 89 [some (.ref 137), some (.int a1), some (.int i2), some (.int i3), some (.int i4), some (.int (i5 + x2)), some (.int (i6 + 1))] [] u2) u)))
    : JVi E 9 YX8_settled K 89 [some (.ref 137), some (.int a1), some (.int i2), some (.int i3), some (.int i4), some (.int i5), some (.int i6)] [] u := by
  refine jv_iload dX8_settled_89 rfl ?_
  refine jv_bipush dX8_settled_91 ci_bipush_8 ?_
  refine jv_icmp_ge (t := 114) dX8_settled_93 rfl (fun c1 => ?_) (fun c1 => ?_)
  · replace h := h.1 c1
    refine jv_aload_n dX8_settled_114 rfl ?_
    refine jv_iconst dX8_settled_115 ci_iconst_0 ?_
    refine jm_callVu [.int 0] cw_8_276 dX8_settled_116 rfl (Nat.le_of_ble_eq_true rfl) kd_c_137 (r := (RX8, TX8, 48)) rfl rfl (lt_c 137 rfl) (Nat.le_of_ble_eq_true rfl) (JCu.mono h (fun u1 h => ?_))
    refine jv_iload_n dX8_settled_119 rfl ?_
    refine jv_if_ne (t := 136) dX8_settled_120 rfl (fun c2 => ?_) (fun c2 => ?_)
    · replace h := h.1 c2
      refine jv_iload_n dX8_settled_136 rfl ?_
      refine jv_iconst dX8_settled_137 ci_iconst_1 ?_
      refine jv_icmp_ne (t := 145) dX8_settled_138 rfl (fun c3 => ?_) (fun c3 => ?_)
      · replace h := h.1 c3
        refine jv_iload dX8_settled_145 rfl ?_
        exact jm_ireturn dX8_settled_147 rfl h
      · replace h := h.2 c3
        refine jv_iload_n dX8_settled_141 rfl ?_
        refine jv_goto (t := 147) dX8_settled_142 rfl ?_
        exact jm_ireturn dX8_settled_147 rfl h
    · replace h := h.2 c2
      refine jv_iload dX8_settled_123 rfl ?_
      refine jv_if_eq (t := 132) dX8_settled_125 rfl (fun c4 => ?_) (fun c4 => ?_)
      · replace h := h.1 c4
        refine jv_iconst dX8_settled_132 ci_iconst_m1 ?_
        refine jv_goto (t := 147) dX8_settled_133 rfl ?_
        exact jm_ireturn dX8_settled_147 rfl h
      · replace h := h.2 c4
        refine jv_iload_n dX8_settled_128 rfl ?_
        refine jv_goto (t := 147) dX8_settled_129 rfl ?_
        exact jm_ireturn dX8_settled_147 rfl h
  · replace h := h.2 c1
    refine jv_iload dX8_settled_96 rfl ?_
    refine jv_aload_n dX8_settled_98 rfl ?_
    refine jv_iload dX8_settled_99 rfl ?_
    refine jv_iconst dX8_settled_101 ci_iconst_1 ?_
    refine jm_callVi [.int i6, .int 1] cw_8_165 dX8_settled_102 rfl (Nat.le_of_ble_eq_true rfl) kd_c_137 (r := (RX8, TX8, 48)) rfl rfl (lt_c 137 rfl) (Nat.le_of_ble_eq_true rfl) (JCi.mono h (fun x2 u2 h => ?_))
    refine jv_iadd dX8_settled_105 ?_
    refine jv_istore (ls' := [some (.ref 137), some (.int a1), some (.int i2), some (.int i3), some (.int i4), some (.int (i5 + x2)), some (.int i6)]) dX8_settled_106 (Nat.le_of_ble_eq_true rfl) rfl ?_
    refine jv_iinc (v := i6 + 1) (ls' := [some (.ref 137), some (.int a1), some (.int i2), some (.int i3), some (.int i4), some (.int (i5 + x2)), some (.int (i6 + 1))]) dX8_settled_108 (Nat.le_of_ble_eq_true rfl) rfl (by rw [ci_iconst_1]) rfl ?_
    refine jv_goto (t := 89) dX8_settled_111 rfl ?_
    exact h
theorem g_X8_broken_0 {E : JE} {u : JM} {K : Int32 → JM → Prop}  {a1 a2 a3 : Int32}
    (h : JCi E 2 YX8_isLink [.ref 137, .int a1] (fun x1 u1 =>
 ((x1 = 0 → K (-2) u1) ∧
  (¬ x1 = 0 → JCi E 2 YX8_isRouter [.int a2] (fun x2 u2 =>
   ((x2 = 0 → K (-2) u2) ∧
    (¬ x2 = 0 → JCi E 2 YX8_isRouter [.int a3] (fun x3 u3 =>
     ((¬ x3 = 0 → vp_in a1 12 ∧
       ((¬ (u3 141 a1.toNatClampNeg) = 0 → JCu E 2 YX8_keep [.ref 137, .int 0] (fun u4 =>
        ∀ u5, u5 = jw u4 141 a1.toNatClampNeg 0 →
         JCu E 9 YX8_goesLong [.ref 137] (fun u6 =>
         JCi E 7 YX8_costNow [.ref 137, .int a2, .int a3] (fun x7 u7 =>
          JCu E 2 YX8_layBack [.ref 137, .int 0] (fun u8 =>
           K x7 u8) u7) u6) u5) u3) ∧
       ((u3 141 a1.toNatClampNeg) = 0 → K (-3) u3))) ∧
      (x3 = 0 → K (-2) u3))) u2))) u1))) u)
    : JVi E 10 YX8_broken K 0 [some (.ref 137), some (.int a1), some (.int a2), some (.int a3), none] [] u := by
  refine jv_aload_n dX8_broken_0 rfl ?_
  refine jv_iload_n dX8_broken_1 rfl ?_
  refine jm_callVi [.int a1] cw_8_148 dX8_broken_2 rfl (Nat.le_of_ble_eq_true rfl) kd_c_137 (r := (RX8, TX8, 48)) rfl rfl (lt_c 137 rfl) (Nat.le_of_ble_eq_true rfl) (JCi.mono h (fun x1 u1 h => ?_))
  refine jv_if_eq (t := 22) dX8_broken_5 rfl (fun c1 => ?_) (fun c1 => ?_)
  · replace h := h.1 c1
    refine jv_bipush dX8_broken_22 ci_bipush_m2 ?_
    exact jm_ireturn dX8_broken_24 rfl h
  · replace h := h.2 c1
    refine jv_iload_n dX8_broken_8 rfl ?_
    refine jm_callSi [.int a2] cw_8_141 dX8_broken_9 rfl (Nat.le_of_ble_eq_true rfl) (Nat.le_of_ble_eq_true rfl) (JCi.mono h (fun x2 u2 h => ?_))
    refine jv_if_eq (t := 22) dX8_broken_12 rfl (fun c2 => ?_) (fun c2 => ?_)
    · replace h := h.1 c2
      refine jv_bipush dX8_broken_22 ci_bipush_m2 ?_
      exact jm_ireturn dX8_broken_24 rfl h
    · replace h := h.2 c2
      refine jv_iload_n dX8_broken_15 rfl ?_
      refine jm_callSi [.int a3] cw_8_141 dX8_broken_16 rfl (Nat.le_of_ble_eq_true rfl) (Nat.le_of_ble_eq_true rfl) (JCi.mono h (fun x3 u3 h => ?_))
      refine jv_if_ne (t := 25) dX8_broken_19 rfl (fun c3 => ?_) (fun c3 => ?_)
      · replace h := h.1 c3
        refine jv_aload_n dX8_broken_25 rfl ?_
        refine gf_8_19 rfl dX8_broken_26 kd_c_137 (lt_c 137 rfl) rf_c_137_4 ?_
        refine jv_iload_n dX8_broken_29 rfl ?_
        obtain ⟨b4, h⟩ := h
        refine jm_iaload dX8_broken_30 kd_c_141 (lt_c 141 rfl) b4 ?_
        refine jv_if_ne (t := 37) dX8_broken_31 rfl (fun c5 => ?_) (fun c5 => ?_)
        · replace h := h.1 c5
          refine jv_aload_n dX8_broken_37 rfl ?_
          refine jv_iconst dX8_broken_38 ci_iconst_0 ?_
          refine jm_callVu [.int 0] cw_8_273 dX8_broken_39 rfl (Nat.le_of_ble_eq_true rfl) kd_c_137 (r := (RX8, TX8, 48)) rfl rfl (lt_c 137 rfl) (Nat.le_of_ble_eq_true rfl) (JCu.mono h (fun u4 h => ?_))
          refine jv_aload_n dX8_broken_42 rfl ?_
          refine gf_8_19 rfl dX8_broken_43 kd_c_137 (lt_c 137 rfl) rf_c_137_4 ?_
          refine jv_iload_n dX8_broken_46 rfl ?_
          refine jv_iconst dX8_broken_47 ci_iconst_0 ?_
          refine jm_iastore dX8_broken_48 kd_c_141 (lt_c 141 rfl) b4 ?_
          generalize hhu5 : jw u4 141 a1.toNatClampNeg 0 = u5
          replace h := h u5 hhu5.symm
          refine jv_aload_n dX8_broken_49 rfl ?_
          refine jm_callVu [] cw_8_279 dX8_broken_50 rfl (Nat.le_of_ble_eq_true rfl) kd_c_137 (r := (RX8, TX8, 48)) rfl rfl (lt_c 137 rfl) (Nat.le_of_ble_eq_true rfl) (JCu.mono h (fun u6 h => ?_))
          refine jv_aload_n dX8_broken_53 rfl ?_
          refine jv_iload_n dX8_broken_54 rfl ?_
          refine jv_iload_n dX8_broken_55 rfl ?_
          refine jm_callVi [.int a2, .int a3] cw_8_282 dX8_broken_56 rfl (Nat.le_of_ble_eq_true rfl) kd_c_137 (r := (RX8, TX8, 48)) rfl rfl (lt_c 137 rfl) (Nat.le_of_ble_eq_true rfl) (JCi.mono h (fun x7 u7 h => ?_))
          refine jv_istore (ls' := [some (.ref 137), some (.int a1), some (.int a2), some (.int a3), some (.int x7)]) dX8_broken_59 (Nat.le_of_ble_eq_true rfl) rfl ?_
          refine jv_aload_n dX8_broken_61 rfl ?_
          refine jv_iconst dX8_broken_62 ci_iconst_0 ?_
          refine jm_callVu [.int 0] cw_8_276 dX8_broken_63 rfl (Nat.le_of_ble_eq_true rfl) kd_c_137 (r := (RX8, TX8, 48)) rfl rfl (lt_c 137 rfl) (Nat.le_of_ble_eq_true rfl) (JCu.mono h (fun u8 h => ?_))
          refine jv_iload dX8_broken_66 rfl ?_
          exact jm_ireturn dX8_broken_68 rfl h
        · replace h := h.2 c5
          refine jv_bipush dX8_broken_34 ci_bipush_m3 ?_
          exact jm_ireturn dX8_broken_36 rfl h
      · replace h := h.2 c3
        refine jv_bipush dX8_broken_22 ci_bipush_m2 ?_
        exact jm_ireturn dX8_broken_24 rfl h
theorem g_X8_byLot_0 {E : JE} {u : JM} {K : JM → Prop}  {a1 a2 : Int32}
    (h : JCu E 2 YX8_keep [.ref 137, .int 0] (fun u1 =>
 JVu E 10 YX8_byLot K 10 [some (.ref 137), some (.int a1), some (.int a2), some (.int a2), some (.int 0)] [] u1) u)
    : JVu E 10 YX8_byLot K 0 [some (.ref 137), some (.int a1), some (.int a2), none, none] [] u := by
  refine jv_aload_n dX8_byLot_0 rfl ?_
  refine jv_iconst dX8_byLot_1 ci_iconst_0 ?_
  refine jm_callVu [.int 0] cw_8_273 dX8_byLot_2 rfl (Nat.le_of_ble_eq_true rfl) kd_c_137 (r := (RX8, TX8, 48)) rfl rfl (lt_c 137 rfl) (Nat.le_of_ble_eq_true rfl) (JCu.mono h (fun u1 h => ?_))
  refine jv_iload_n dX8_byLot_5 rfl ?_
  refine jv_istore_n (ls' := [some (.ref 137), some (.int a1), some (.int a2), some (.int a2), none]) dX8_byLot_6 (Nat.le_of_ble_eq_true rfl) rfl ?_
  refine jv_iconst dX8_byLot_7 ci_iconst_0 ?_
  refine jv_istore (ls' := [some (.ref 137), some (.int a1), some (.int a2), some (.int a2), some (.int 0)]) dX8_byLot_8 (Nat.le_of_ble_eq_true rfl) rfl ?_
  exact h
theorem g_X8_byLot_10 {E : JE} {u : JM} {K : JM → Prop}  {a1 a2 i3 i4 : Int32}
    (h : (((u 137 0) ≤ i4 → JCu E 9 YX8_goesLong [.ref 137] (fun u1 =>
  ∀ u2, u2 = jw u1 137 41 0 →
   ∀ u3, u3 = jw u2 137 42 0 →
   JVu E 10 YX8_byLot K 69 [some (.ref 137), some (.int a1), some (.int a2), some (.int i3), some (.int 0)] [] u3) u) ∧
 (¬ (u 137 0) ≤ i4 → ∀ i3_4 : Int32, i3_4 = (i3 * 1103515245) + 12345 →
  ((¬ (((i3_4.toUInt32 >>> ((9 : Int32).toUInt32 &&& Int32.toUInt32 31)).toInt32) - ((i3_4.toUInt32 >>> ((9 : Int32).toUInt32 &&& Int32.toUInt32 31)).toInt32) / 4 * 4) = 0 → JVu E 10 YX8_byLot K 10 [some (.ref 137), some (.int a1), some (.int a2), some (.int i3_4), some (.int (i4 + 1))] [] u) ∧
  ((((i3_4.toUInt32 >>> ((9 : Int32).toUInt32 &&& Int32.toUInt32 31)).toInt32) - ((i3_4.toUInt32 >>> ((9 : Int32).toUInt32 &&& Int32.toUInt32 31)).toInt32) / 4 * 4) = 0 → vp_in i4 12 ∧
   ∀ u5, u5 = jw u 141 i4.toNatClampNeg 0 →
   JVu E 10 YX8_byLot K 10 [some (.ref 137), some (.int a1), some (.int a2), some (.int i3_4), some (.int (i4 + 1))] [] u5)))))
    : JVu E 10 YX8_byLot K 10 [some (.ref 137), some (.int a1), some (.int a2), some (.int i3), some (.int i4)] [] u := by
  refine jv_iload dX8_byLot_10 rfl ?_
  refine jv_aload_n dX8_byLot_12 rfl ?_
  refine gf_8_129 rfl dX8_byLot_13 kd_c_137 (lt_c 137 rfl) ?_
  refine jv_icmp_ge (t := 52) dX8_byLot_16 rfl (fun c1 => ?_) (fun c1 => ?_)
  · replace h := h.1 c1
    refine jv_aload_n dX8_byLot_52 rfl ?_
    refine jm_callVu [] cw_8_279 dX8_byLot_53 rfl (Nat.le_of_ble_eq_true rfl) kd_c_137 (r := (RX8, TX8, 48)) rfl rfl (lt_c 137 rfl) (Nat.le_of_ble_eq_true rfl) (JCu.mono h (fun u1 h => ?_))
    refine jv_aload_n dX8_byLot_56 rfl ?_
    refine jv_iconst dX8_byLot_57 ci_iconst_0 ?_
    refine pf_8_286 rfl dX8_byLot_58 kd_c_137 (lt_c 137 rfl) ?_
    generalize hhu2 : jw u1 137 41 0 = u2
    replace h := h u2 hhu2.symm
    refine jv_aload_n dX8_byLot_61 rfl ?_
    refine jv_iconst dX8_byLot_62 ci_iconst_0 ?_
    refine pf_8_289 rfl dX8_byLot_63 kd_c_137 (lt_c 137 rfl) ?_
    generalize hhu3 : jw u2 137 42 0 = u3
    replace h := h u3 hhu3.symm
    refine jv_iconst dX8_byLot_66 ci_iconst_0 ?_
    refine jv_istore (ls' := [some (.ref 137), some (.int a1), some (.int a2), some (.int i3), some (.int 0)]) dX8_byLot_67 (Nat.le_of_ble_eq_true rfl) rfl ?_
    exact h
  · replace h := h.2 c1
    refine jv_iload_n dX8_byLot_19 rfl ?_
    refine jv_ldcw cst_X8_285 dX8_byLot_20 ?_
    refine jv_imul dX8_byLot_23 ?_
    refine jv_sipush dX8_byLot_24 ci_sipush_12345 ?_
    refine jv_iadd dX8_byLot_27 ?_
    generalize hhi3_4 : (i3 * 1103515245) + 12345 = i3_4
    replace h := h i3_4 hhi3_4.symm
    refine jv_istore_n (ls' := [some (.ref 137), some (.int a1), some (.int a2), some (.int i3_4), some (.int i4)]) dX8_byLot_28 (Nat.le_of_ble_eq_true rfl) rfl ?_
    refine jv_iload_n dX8_byLot_29 rfl ?_
    refine jv_bipush dX8_byLot_30 ci_bipush_9 ?_
    refine jv_iushr dX8_byLot_32 ?_
    refine jv_iconst dX8_byLot_33 ci_iconst_4 ?_
    refine jv_irem dX8_byLot_34 (by decide) ?_
    refine jv_if_ne (t := 46) dX8_byLot_35 rfl (fun c2 => ?_) (fun c2 => ?_)
    · replace h := h.1 c2
      refine jv_iinc (v := i4 + 1) (ls' := [some (.ref 137), some (.int a1), some (.int a2), some (.int i3_4), some (.int (i4 + 1))]) dX8_byLot_46 (Nat.le_of_ble_eq_true rfl) rfl (by rw [ci_iconst_1]) rfl ?_
      refine jv_goto (t := 10) dX8_byLot_49 rfl ?_
      exact h
    · replace h := h.2 c2
      refine jv_aload_n dX8_byLot_38 rfl ?_
      refine gf_8_19 rfl dX8_byLot_39 kd_c_137 (lt_c 137 rfl) rf_c_137_4 ?_
      refine jv_iload dX8_byLot_42 rfl ?_
      refine jv_iconst dX8_byLot_44 ci_iconst_0 ?_
      obtain ⟨b3, h⟩ := h
      refine jm_iastore dX8_byLot_45 kd_c_141 (lt_c 141 rfl) b3 ?_
      generalize hhu5 : jw u 141 i4.toNatClampNeg 0 = u5
      replace h := h u5 hhu5.symm
      refine jv_iinc (v := i4 + 1) (ls' := [some (.ref 137), some (.int a1), some (.int a2), some (.int i3_4), some (.int (i4 + 1))]) dX8_byLot_46 (Nat.le_of_ble_eq_true rfl) rfl (by rw [ci_iconst_1]) rfl ?_
      refine jv_goto (t := 10) dX8_byLot_49 rfl ?_
      exact h
theorem g_X8_byLot_69 {E : JE} {u : JM} {K : JM → Prop}  {a1 a2 i3 i4 : Int32}
    (h : ((8 ≤ i4 → JCu E 2 YX8_layBack [.ref 137, .int 0] (fun u1 =>
  K u1) u) ∧
 (¬ 8 ≤ i4 → JCi E 7 YX8_costNow [.ref 137, .int a1, .int i4] (fun x2 u2 =>
  ((x2 = (-1) → JCi E 2 YX8_trulyWithout [.ref 137, .int a1, .int i4, .int (-1)] (fun x3 u3 =>
    ((9999 ≤ x3 → JVu E 10 YX8_byLot K 69 [some (.ref 137), some (.int a1), some (.int a2), some (.int i3), some (.int (i4 + 1))] [] u3) ∧
     (¬ 9999 ≤ x3 → ∀ u4, u4 = jw u3 137 42 ((u3 137 42) + 1) →
      JVu E 10 YX8_byLot K 69 [some (.ref 137), some (.int a1), some (.int a2), some (.int i3), some (.int (i4 + 1))] [] u4))) u2) ∧
   (¬ x2 = (-1) → ∀ u5, u5 = jw u2 137 41 ((u2 137 41) + 1) →
    JCi E 2 YX8_trulyWithout [.ref 137, .int a1, .int i4, .int (-1)] (fun x6 u6 =>
    ((9999 ≤ x6 → JVu E 10 YX8_byLot K 69 [some (.ref 137), some (.int a1), some (.int a2), some (.int i3), some (.int (i4 + 1))] [] u6) ∧
     (¬ 9999 ≤ x6 → ∀ u7, u7 = jw u6 137 42 ((u6 137 42) + 1) →
      JVu E 10 YX8_byLot K 69 [some (.ref 137), some (.int a1), some (.int a2), some (.int i3), some (.int (i4 + 1))] [] u7))) u5))) u)))
    : JVu E 10 YX8_byLot K 69 [some (.ref 137), some (.int a1), some (.int a2), some (.int i3), some (.int i4)] [] u := by
  refine jv_iload dX8_byLot_69 rfl ?_
  refine jv_bipush dX8_byLot_71 ci_bipush_8 ?_
  refine jv_icmp_ge (t := 127) dX8_byLot_73 rfl (fun c1 => ?_) (fun c1 => ?_)
  · replace h := h.1 c1
    refine jv_aload_n dX8_byLot_127 rfl ?_
    refine jv_iconst dX8_byLot_128 ci_iconst_0 ?_
    refine jm_callVu [.int 0] cw_8_276 dX8_byLot_129 rfl (Nat.le_of_ble_eq_true rfl) kd_c_137 (r := (RX8, TX8, 48)) rfl rfl (lt_c 137 rfl) (Nat.le_of_ble_eq_true rfl) (JCu.mono h (fun u1 h => ?_))
    exact jm_return dX8_byLot_132 rfl h
  · replace h := h.2 c1
    refine jv_aload_n dX8_byLot_76 rfl ?_
    refine jv_iload_n dX8_byLot_77 rfl ?_
    refine jv_iload dX8_byLot_78 rfl ?_
    refine jm_callVi [.int a1, .int i4] cw_8_282 dX8_byLot_80 rfl (Nat.le_of_ble_eq_true rfl) kd_c_137 (r := (RX8, TX8, 48)) rfl rfl (lt_c 137 rfl) (Nat.le_of_ble_eq_true rfl) (JCi.mono h (fun x2 u2 h => ?_))
    refine jv_iconst dX8_byLot_83 ci_iconst_m1 ?_
    refine jv_icmp_eq (t := 97) dX8_byLot_84 rfl (fun c2 => ?_) (fun c2 => ?_)
    · replace h := h.1 c2
      refine jv_aload_n dX8_byLot_97 rfl ?_
      refine jv_iload_n dX8_byLot_98 rfl ?_
      refine jv_iload dX8_byLot_99 rfl ?_
      refine jv_iconst dX8_byLot_101 ci_iconst_m1 ?_
      refine jm_callVi [.int a1, .int i4, .int (-1)] cw_8_260 dX8_byLot_102 rfl (Nat.le_of_ble_eq_true rfl) kd_c_137 (r := (RX8, TX8, 48)) rfl rfl (lt_c 137 rfl) (Nat.le_of_ble_eq_true rfl) (JCi.mono h (fun x3 u3 h => ?_))
      refine jv_sipush dX8_byLot_105 ci_sipush_9999 ?_
      refine jv_icmp_ge (t := 121) dX8_byLot_108 rfl (fun c3 => ?_) (fun c3 => ?_)
      · replace h := h.1 c3
        refine jv_iinc (v := i4 + 1) (ls' := [some (.ref 137), some (.int a1), some (.int a2), some (.int i3), some (.int (i4 + 1))]) dX8_byLot_121 (Nat.le_of_ble_eq_true rfl) rfl (by rw [ci_iconst_1]) rfl ?_
        refine jv_goto (t := 69) dX8_byLot_124 rfl ?_
        exact h
      · replace h := h.2 c3
        refine jv_aload_n dX8_byLot_111 rfl ?_
        refine jv_dup dX8_byLot_112 rfl ?_
        refine gf_8_289 rfl dX8_byLot_113 kd_c_137 (lt_c 137 rfl) ?_
        refine jv_iconst dX8_byLot_116 ci_iconst_1 ?_
        refine jv_iadd dX8_byLot_117 ?_
        refine pf_8_289 rfl dX8_byLot_118 kd_c_137 (lt_c 137 rfl) ?_
        generalize hhu4 : jw u3 137 42 ((u3 137 42) + 1) = u4
        replace h := h u4 hhu4.symm
        refine jv_iinc (v := i4 + 1) (ls' := [some (.ref 137), some (.int a1), some (.int a2), some (.int i3), some (.int (i4 + 1))]) dX8_byLot_121 (Nat.le_of_ble_eq_true rfl) rfl (by rw [ci_iconst_1]) rfl ?_
        refine jv_goto (t := 69) dX8_byLot_124 rfl ?_
        exact h
    · replace h := h.2 c2
      refine jv_aload_n dX8_byLot_87 rfl ?_
      refine jv_dup dX8_byLot_88 rfl ?_
      refine gf_8_286 rfl dX8_byLot_89 kd_c_137 (lt_c 137 rfl) ?_
      refine jv_iconst dX8_byLot_92 ci_iconst_1 ?_
      refine jv_iadd dX8_byLot_93 ?_
      refine pf_8_286 rfl dX8_byLot_94 kd_c_137 (lt_c 137 rfl) ?_
      generalize hhu5 : jw u2 137 41 ((u2 137 41) + 1) = u5
      replace h := h u5 hhu5.symm
      refine jv_aload_n dX8_byLot_97 rfl ?_
      refine jv_iload_n dX8_byLot_98 rfl ?_
      refine jv_iload dX8_byLot_99 rfl ?_
      refine jv_iconst dX8_byLot_101 ci_iconst_m1 ?_
      refine jm_callVi [.int a1, .int i4, .int (-1)] cw_8_260 dX8_byLot_102 rfl (Nat.le_of_ble_eq_true rfl) kd_c_137 (r := (RX8, TX8, 48)) rfl rfl (lt_c 137 rfl) (Nat.le_of_ble_eq_true rfl) (JCi.mono h (fun x6 u6 h => ?_))
      refine jv_sipush dX8_byLot_105 ci_sipush_9999 ?_
      refine jv_icmp_ge (t := 121) dX8_byLot_108 rfl (fun c4 => ?_) (fun c4 => ?_)
      · replace h := h.1 c4
        refine jv_iinc (v := i4 + 1) (ls' := [some (.ref 137), some (.int a1), some (.int a2), some (.int i3), some (.int (i4 + 1))]) dX8_byLot_121 (Nat.le_of_ble_eq_true rfl) rfl (by rw [ci_iconst_1]) rfl ?_
        refine jv_goto (t := 69) dX8_byLot_124 rfl ?_
        exact h
      · replace h := h.2 c4
        refine jv_aload_n dX8_byLot_111 rfl ?_
        refine jv_dup dX8_byLot_112 rfl ?_
        refine gf_8_289 rfl dX8_byLot_113 kd_c_137 (lt_c 137 rfl) ?_
        refine jv_iconst dX8_byLot_116 ci_iconst_1 ?_
        refine jv_iadd dX8_byLot_117 ?_
        refine pf_8_289 rfl dX8_byLot_118 kd_c_137 (lt_c 137 rfl) ?_
        generalize hhu7 : jw u6 137 42 ((u6 137 42) + 1) = u7
        replace h := h u7 hhu7.symm
        refine jv_iinc (v := i4 + 1) (ls' := [some (.ref 137), some (.int a1), some (.int a2), some (.int i3), some (.int (i4 + 1))]) dX8_byLot_121 (Nat.le_of_ble_eq_true rfl) rfl (by rw [ci_iconst_1]) rfl ?_
        refine jv_goto (t := 69) dX8_byLot_124 rfl ?_
        exact h
theorem g_X8_drawn_0 {E : JE} {u : JM} {K : Int32 → JM → Prop}  {a1 a2 : Int32}
    (h : JCi E 2 YX8_isRouter [.int a1] (fun x1 u1 =>
 ((¬ x1 = 0 → JCu E 10 YX8_byLot [.ref 137, .int a1, .int a2] (fun u2 =>
   K (u2 137 41) u2) u1) ∧
  (x1 = 0 → K (-2) u1))) u)
    : JVi E 11 YX8_drawn K 0 [some (.ref 137), some (.int a1), some (.int a2)] [] u := by
  refine jv_iload_n dX8_drawn_0 rfl ?_
  refine jm_callSi [.int a1] cw_8_141 dX8_drawn_1 rfl (Nat.le_of_ble_eq_true rfl) (Nat.le_of_ble_eq_true rfl) (JCi.mono h (fun x1 u1 h => ?_))
  refine jv_if_ne (t := 10) dX8_drawn_4 rfl (fun c1 => ?_) (fun c1 => ?_)
  · replace h := h.1 c1
    refine jv_aload_n dX8_drawn_10 rfl ?_
    refine jv_iload_n dX8_drawn_11 rfl ?_
    refine jv_iload_n dX8_drawn_12 rfl ?_
    refine jm_callVu [.int a1, .int a2] cw_8_292 dX8_drawn_13 rfl (Nat.le_of_ble_eq_true rfl) kd_c_137 (r := (RX8, TX8, 48)) rfl rfl (lt_c 137 rfl) (Nat.le_of_ble_eq_true rfl) (JCu.mono h (fun u2 h => ?_))
    refine jv_aload_n dX8_drawn_16 rfl ?_
    refine gf_8_286 rfl dX8_drawn_17 kd_c_137 (lt_c 137 rfl) ?_
    exact jm_ireturn dX8_drawn_20 rfl h
  · replace h := h.2 c1
    refine jv_bipush dX8_drawn_7 ci_bipush_m2 ?_
    exact jm_ireturn dX8_drawn_9 rfl h
theorem g_X8_common_0 {E : JE} {dd : Nat} {u : JM} {K : Int32 → JM → Prop}  {a1 a2 : Int32}
    (h : ((¬ a2 = 0 → ¬ a2 = 0 ∧
  JCi E dd YX8_common [.int a2, .int (a1 - a1 / a2 * a2)] (fun x1 u1 =>
  K x1 u1) u) ∧
 (a2 = 0 → K a1 u)))
    : JVi E (dd + 1) YX8_common K 0 [some (.int a1), some (.int a2)] [] u := by
  refine jv_iload_n dX8_common_0 rfl ?_
  refine jv_if_ne (t := 8) dX8_common_1 rfl (fun c1 => ?_) (fun c1 => ?_)
  · replace h := h.1 c1
    refine jv_iload_n dX8_common_8 rfl ?_
    refine jv_iload_n dX8_common_9 rfl ?_
    refine jv_iload_n dX8_common_10 rfl ?_
    obtain ⟨b2, h⟩ := h
    refine jv_irem dX8_common_11 b2 ?_
    refine jm_callSi [.int a2, .int (a1 - a1 / a2 * a2)] cw_8_295 dX8_common_12 rfl (Nat.le_of_ble_eq_true rfl) (Nat.le_refl _) (JCi.mono h (fun x1 u1 h => ?_))
    exact jm_ireturn dX8_common_15 rfl h
  · replace h := h.2 c1
    refine jv_iload_n dX8_common_4 rfl ?_
    refine jv_goto (t := 15) dX8_common_5 rfl ?_
    exact jm_ireturn dX8_common_15 rfl h
theorem g_X8_chance_0 {E : JE} {u : JM} {K : Int32 → JM → Prop}  {a1 a2 a3 a4 : Int32}
    (h : JCi E 2 YX8_isRouter [.int a1] (fun x1 u1 =>
 ((x1 = 0 → K (-2) u1) ∧
  (¬ x1 = 0 → (((jb (rg a3 (1 : Int32).toInt (6 : Int32).toInt)) = 0 → K (-2) u1) ∧
   (¬ (jb (rg a3 (1 : Int32).toInt (6 : Int32).toInt)) = 0 → ((¬ (jb (rg a4 (0 : Int32).toInt (1 : Int32).toInt)) = 0 → JVi E 41 YX8_chance K 36 [some (.ref 137), some (.int a1), some (.int a2), some (.int a3), some (.int a4), some (.int 0), some (.int 0)] [] u1) ∧
    ((jb (rg a4 (0 : Int32).toInt (1 : Int32).toInt)) = 0 → K (-2) u1))))))) u)
    : JVi E 41 YX8_chance K 0 [some (.ref 137), some (.int a1), some (.int a2), some (.int a3), some (.int a4), none, none] [] u := by
  refine jv_iload_n dX8_chance_0 rfl ?_
  refine jm_callSi [.int a1] cw_8_141 dX8_chance_1 rfl (Nat.le_of_ble_eq_true rfl) (Nat.le_of_ble_eq_true rfl) (JCi.mono h (fun x1 u1 h => ?_))
  refine jv_if_eq (t := 27) dX8_chance_4 rfl (fun c1 => ?_) (fun c1 => ?_)
  · replace h := h.1 c1
    refine jv_bipush dX8_chance_27 ci_bipush_m2 ?_
    exact jm_ireturn dX8_chance_29 rfl h
  · replace h := h.2 c1
    refine jv_iload_n dX8_chance_7 rfl ?_
    refine jv_iconst dX8_chance_8 ci_iconst_1 ?_
    refine jv_bipush dX8_chance_9 ci_bipush_6 ?_
    refine jm_callSi [.int a3, .int 1, .int 6] cw_8_125 dX8_chance_11 rfl (Nat.le_of_ble_eq_true rfl) (Nat.le_of_ble_eq_true rfl) (p_X8_in  ?_)
    refine jv_if_eq (t := 27) dX8_chance_14 rfl (fun c2 => ?_) (fun c2 => ?_)
    · replace h := h.1 c2
      refine jv_bipush dX8_chance_27 ci_bipush_m2 ?_
      exact jm_ireturn dX8_chance_29 rfl h
    · replace h := h.2 c2
      refine jv_iload dX8_chance_17 rfl ?_
      refine jv_iconst dX8_chance_19 ci_iconst_0 ?_
      refine jv_iconst dX8_chance_20 ci_iconst_1 ?_
      refine jm_callSi [.int a4, .int 0, .int 1] cw_8_125 dX8_chance_21 rfl (Nat.le_of_ble_eq_true rfl) (Nat.le_of_ble_eq_true rfl) (p_X8_in  ?_)
      refine jv_if_ne (t := 30) dX8_chance_24 rfl (fun c3 => ?_) (fun c3 => ?_)
      · replace h := h.1 c3
        refine jv_iconst dX8_chance_30 ci_iconst_0 ?_
        refine jv_istore (ls' := [some (.ref 137), some (.int a1), some (.int a2), some (.int a3), some (.int a4), some (.int 0), none]) dX8_chance_31 (Nat.le_of_ble_eq_true rfl) rfl ?_
        refine jv_iconst dX8_chance_33 ci_iconst_0 ?_
        refine jv_istore (ls' := [some (.ref 137), some (.int a1), some (.int a2), some (.int a3), some (.int a4), some (.int 0), some (.int 0)]) dX8_chance_34 (Nat.le_of_ble_eq_true rfl) rfl ?_
        exact h
      · replace h := h.2 c3
        refine jv_bipush dX8_chance_27 ci_bipush_m2 ?_
        exact jm_ireturn dX8_chance_29 rfl h
theorem g_X8_chance_36 {E : JE} {u : JM} {K : Int32 → JM → Prop}  {a1 a2 a3 a4 i5 i6 : Int32}
    (h : ((a3 ≤ i6 → ∀ v_1 : Int32, v_1 = (if a4 = 0 then i5 else a3) →
  JCi E 40 YX8_common [.int i5, .int a3] (fun x2 u2 =>
  ¬ x2 = 0 ∧
   K (v_1 / x2) u2) u) ∧
 (¬ a3 ≤ i6 → JCu E 10 YX8_byLot [.ref 137, .int a1, .int (a2 + i6)] (fun u3 =>
  ∀ i5_4 : Int32, i5_4 = (if (u3 137 41) = (u3 137 42) then (i5 + 1) else i5) →
   JVi E 41 YX8_chance K 36 [some (.ref 137), some (.int a1), some (.int a2), some (.int a3), some (.int a4), some (.int i5_4), some (.int (i6 + 1))] [] u3) u)))
    : JVi E 41 YX8_chance K 36 [some (.ref 137), some (.int a1), some (.int a2), some (.int a3), some (.int a4), some (.int i5), some (.int i6)] [] u := by
  refine jv_iload dX8_chance_36 rfl ?_
  refine jv_iload_n dX8_chance_38 rfl ?_
  refine jv_icmp_ge (t := 71) dX8_chance_39 rfl (fun c1 => ?_) (fun c1 => ?_)
  · replace h := h.1 c1
    refine jv_iload dX8_chance_71 rfl ?_
    have key4 : ∀ v_1 : Int32, v_1 = (if a4 = 0 then i5 else a3) → JVi E 41 YX8_chance K 82 [some (.ref 137), some (.int a1), some (.int a2), some (.int a3), some (.int a4), some (.int i5), some (.int i6)] [.int v_1] u := by
      intro v_1 hv_1
      replace h := h v_1 hv_1
      refine jv_iload dX8_chance_82 rfl ?_
      refine jv_iload_n dX8_chance_84 rfl ?_
      refine jm_callSi [.int i5, .int a3] cw_8_295 dX8_chance_85 rfl (Nat.le_of_ble_eq_true rfl) (Nat.le_of_ble_eq_true rfl) (JCi.mono h (fun x2 u2 h => ?_))
      obtain ⟨b3, h⟩ := h
      refine jv_idiv dX8_chance_88 b3 ?_
      exact jm_ireturn dX8_chance_89 rfl h
    clear h
    refine jv_if_ne (t := 81) dX8_chance_73 rfl (fun c5 => ?_) (fun c5 => ?_)
    · refine jv_iload_n dX8_chance_81 rfl ?_
      exact key4 _ (Eq.trans rfl (if_neg c5).symm)
    · refine jv_iload dX8_chance_76 rfl ?_
      refine jv_goto (t := 82) dX8_chance_78 rfl ?_
      exact key4 _ (Eq.trans rfl (if_pos c5).symm)
  · replace h := h.2 c1
    refine jv_aload_n dX8_chance_42 rfl ?_
    refine jv_iload_n dX8_chance_43 rfl ?_
    refine jv_iload_n dX8_chance_44 rfl ?_
    refine jv_iload dX8_chance_45 rfl ?_
    refine jv_iadd dX8_chance_47 ?_
    refine jm_callVu [.int a1, .int (a2 + i6)] cw_8_292 dX8_chance_48 rfl (Nat.le_of_ble_eq_true rfl) kd_c_137 (r := (RX8, TX8, 48)) rfl rfl (lt_c 137 rfl) (Nat.le_of_ble_eq_true rfl) (JCu.mono h (fun u3 h => ?_))
    refine jv_aload_n dX8_chance_51 rfl ?_
    refine gf_8_286 rfl dX8_chance_52 kd_c_137 (lt_c 137 rfl) ?_
    refine jv_aload_n dX8_chance_55 rfl ?_
    refine gf_8_289 rfl dX8_chance_56 kd_c_137 (lt_c 137 rfl) ?_
    have key7 : ∀ i5_4 : Int32, i5_4 = (if (u3 137 41) = (u3 137 42) then (i5 + 1) else i5) → JVi E 41 YX8_chance K 65 [some (.ref 137), some (.int a1), some (.int a2), some (.int a3), some (.int a4), some (.int i5_4), some (.int i6)] [] u3 := by
      intro i5_4 hi5_4
      replace h := h i5_4 hi5_4
      refine jv_iinc (v := i6 + 1) (ls' := [some (.ref 137), some (.int a1), some (.int a2), some (.int a3), some (.int a4), some (.int i5_4), some (.int (i6 + 1))]) dX8_chance_65 (Nat.le_of_ble_eq_true rfl) rfl (by rw [ci_iconst_1]) rfl ?_
      refine jv_goto (t := 36) dX8_chance_68 rfl ?_
      exact h
    clear h
    refine jv_icmp_ne (t := 65) dX8_chance_59 rfl (fun c8 => ?_) (fun c8 => ?_)
    · exact key7 _ (Eq.trans rfl (if_neg c8).symm)
    · refine jv_iinc (v := i5 + 1) (ls' := [some (.ref 137), some (.int a1), some (.int a2), some (.int a3), some (.int a4), some (.int (i5 + 1)), some (.int i6)]) dX8_chance_62 (Nat.le_of_ble_eq_true rfl) rfl (by rw [ci_iconst_1]) rfl ?_
      exact key7 _ (Eq.trans rfl (if_pos c8).symm)
theorem g_X8_otherwise_0 {E : JE} {u : JM} {K : Int32 → JM → Prop}  {a1 a2 : Int32}
    (h : JVi E 8 YX8_otherwise K 2 [some (.ref 137), some (.int a1), some (.int a2), some (.int 0)] [] u)
    : JVi E 8 YX8_otherwise K 0 [some (.ref 137), some (.int a1), some (.int a2), none] [] u := by
  refine jv_iconst dX8_otherwise_0 ci_iconst_0 ?_
  refine jv_istore_n (ls' := [some (.ref 137), some (.int a1), some (.int a2), some (.int 0)]) dX8_otherwise_1 (Nat.le_of_ble_eq_true rfl) rfl ?_
  exact h
theorem g_X8_otherwise_2 {E : JE} {u : JM} {K : Int32 → JM → Prop}  {a1 a2 i3 : Int32}
    (h : vp_in a1 4 ∧
 (((u 3764 a1.toNatClampNeg) ≤ i3 → K (-1) u) ∧
 (¬ (u 3764 a1.toNatClampNeg) ≤ i3 → JCi E 7 YX8_costNow [.ref 137, .int a2, .int i3] (fun x1 u1 =>
  vp_in i3 40 ∧
   ((x1 = (u1 (3766 + a1.toNatClampNeg) i3.toNatClampNeg) → JVi E 8 YX8_otherwise K 2 [some (.ref 137), some (.int a1), some (.int a2), some (.int (i3 + 1))] [] u1) ∧
   (¬ x1 = (u1 (3766 + a1.toNatClampNeg) i3.toNatClampNeg) → K i3 u1))) u)))
    : JVi E 8 YX8_otherwise K 2 [some (.ref 137), some (.int a1), some (.int a2), some (.int i3)] [] u := by
  refine jv_iload_n dX8_otherwise_2 rfl ?_
  refine jv_aload_n dX8_otherwise_3 rfl ?_
  refine gf_8_116 rfl dX8_otherwise_4 kd_c_137 (lt_c 137 rfl) rf_c_137_45 ?_
  refine jv_iload_n dX8_otherwise_7 rfl ?_
  obtain ⟨b1, h⟩ := h
  refine jm_iaload dX8_otherwise_8 kd_c_3764 (lt_c 3764 rfl) b1 ?_
  refine jv_icmp_ge (t := 37) dX8_otherwise_9 rfl (fun c2 => ?_) (fun c2 => ?_)
  · replace h := h.1 c2
    refine jv_iconst dX8_otherwise_37 ci_iconst_m1 ?_
    exact jm_ireturn dX8_otherwise_38 rfl h
  · replace h := h.2 c2
    refine jv_aload_n dX8_otherwise_12 rfl ?_
    refine jv_iload_n dX8_otherwise_13 rfl ?_
    refine jv_iload_n dX8_otherwise_14 rfl ?_
    refine jm_callVi [.int a2, .int i3] cw_8_282 dX8_otherwise_15 rfl (Nat.le_of_ble_eq_true rfl) kd_c_137 (r := (RX8, TX8, 48)) rfl rfl (lt_c 137 rfl) (Nat.le_of_ble_eq_true rfl) (JCi.mono h (fun x1 u1 h => ?_))
    refine jv_aload_n dX8_otherwise_18 rfl ?_
    refine gf_8_119 rfl dX8_otherwise_19 kd_c_137 (lt_c 137 rfl) rf_c_137_46 ?_
    refine jv_iload_n dX8_otherwise_22 rfl ?_
    refine jm_aaload1 dX8_otherwise_23 kd_c_3765 (lt_c 3765 rfl) b1 (rf_r_3765 _) ?_
    refine jv_iload_n dX8_otherwise_24 rfl ?_
    obtain ⟨b3, h⟩ := h
    refine jm_iaload dX8_otherwise_25 (kd_r_3765 (vp_lt b1)) (lt_r_3765 (vp_lt b1)) b3 ?_
    refine jv_icmp_eq (t := 31) dX8_otherwise_26 rfl (fun c4 => ?_) (fun c4 => ?_)
    · replace h := h.1 c4
      refine jv_iinc (v := i3 + 1) (ls' := [some (.ref 137), some (.int a1), some (.int a2), some (.int (i3 + 1))]) dX8_otherwise_31 (Nat.le_of_ble_eq_true rfl) rfl (by rw [ci_iconst_1]) rfl ?_
      refine jv_goto (t := 2) dX8_otherwise_34 rfl ?_
      exact h
    · replace h := h.2 c4
      refine jv_iload_n dX8_otherwise_29 rfl ?_
      exact jm_ireturn dX8_otherwise_30 rfl h
theorem g_X8_linksBy_0 {E : JE} {u : JM} {K : Int32 → JM → Prop}  {a1 a2 : Int32}
    (h : JVi E 10 YX8_linksBy K 5 [some (.ref 137), some (.int a1), some (.int a2), some (.int 0), some (.int 0)] [] u)
    : JVi E 10 YX8_linksBy K 0 [some (.ref 137), some (.int a1), some (.int a2), none, none] [] u := by
  refine jv_iconst dX8_linksBy_0 ci_iconst_0 ?_
  refine jv_istore_n (ls' := [some (.ref 137), some (.int a1), some (.int a2), some (.int 0), none]) dX8_linksBy_1 (Nat.le_of_ble_eq_true rfl) rfl ?_
  refine jv_iconst dX8_linksBy_2 ci_iconst_0 ?_
  refine jv_istore (ls' := [some (.ref 137), some (.int a1), some (.int a2), some (.int 0), some (.int 0)]) dX8_linksBy_3 (Nat.le_of_ble_eq_true rfl) rfl ?_
  exact h
theorem g_X8_linksBy_5 {E : JE} {u : JM} {K : Int32 → JM → Prop}  {a1 a2 i3 i4 : Int32}
    (h : (((u 137 0) ≤ i4 → K i3 u) ∧
 (¬ (u 137 0) ≤ i4 → vp_in i4 12 ∧
  ((¬ (u 141 i4.toNatClampNeg) = 0 → JCu E 2 YX8_keep [.ref 137, .int 0] (fun u1 =>
   ∀ u2, u2 = jw u1 141 i4.toNatClampNeg 0 →
    JCu E 9 YX8_goesLong [.ref 137] (fun u3 =>
    JCi E 8 YX8_otherwise [.ref 137, .int a1, .int a2] (fun x4 u4 =>
     ∀ i3_5 : Int32, i3_5 = (if x4 = (-1) then (i3 ||| ((1 : Int32) <<< (i4 &&& 31))) else i3) →
      JCu E 2 YX8_layBack [.ref 137, .int 0] (fun u6 =>
      JVi E 10 YX8_linksBy K 5 [some (.ref 137), some (.int a1), some (.int a2), some (.int i3_5), some (.int (i4 + 1))] [] u6) u4) u3) u2) u) ∧
  ((u 141 i4.toNatClampNeg) = 0 → JVi E 10 YX8_linksBy K 5 [some (.ref 137), some (.int a1), some (.int a2), some (.int i3), some (.int (i4 + 1))] [] u)))))
    : JVi E 10 YX8_linksBy K 5 [some (.ref 137), some (.int a1), some (.int a2), some (.int i3), some (.int i4)] [] u := by
  refine jv_iload dX8_linksBy_5 rfl ?_
  refine jv_aload_n dX8_linksBy_7 rfl ?_
  refine gf_8_129 rfl dX8_linksBy_8 kd_c_137 (lt_c 137 rfl) ?_
  refine jv_icmp_ge (t := 72) dX8_linksBy_11 rfl (fun c1 => ?_) (fun c1 => ?_)
  · replace h := h.1 c1
    refine jv_iload_n dX8_linksBy_72 rfl ?_
    exact jm_ireturn dX8_linksBy_73 rfl h
  · replace h := h.2 c1
    refine jv_aload_n dX8_linksBy_14 rfl ?_
    refine gf_8_19 rfl dX8_linksBy_15 kd_c_137 (lt_c 137 rfl) rf_c_137_4 ?_
    refine jv_iload dX8_linksBy_18 rfl ?_
    obtain ⟨b3, h⟩ := h
    refine jm_iaload dX8_linksBy_20 kd_c_141 (lt_c 141 rfl) b3 ?_
    refine jv_if_ne (t := 27) dX8_linksBy_21 rfl (fun c4 => ?_) (fun c4 => ?_)
    · replace h := h.1 c4
      refine jv_aload_n dX8_linksBy_27 rfl ?_
      refine jv_iconst dX8_linksBy_28 ci_iconst_0 ?_
      refine jm_callVu [.int 0] cw_8_273 dX8_linksBy_29 rfl (Nat.le_of_ble_eq_true rfl) kd_c_137 (r := (RX8, TX8, 48)) rfl rfl (lt_c 137 rfl) (Nat.le_of_ble_eq_true rfl) (JCu.mono h (fun u1 h => ?_))
      refine jv_aload_n dX8_linksBy_32 rfl ?_
      refine gf_8_19 rfl dX8_linksBy_33 kd_c_137 (lt_c 137 rfl) rf_c_137_4 ?_
      refine jv_iload dX8_linksBy_36 rfl ?_
      refine jv_iconst dX8_linksBy_38 ci_iconst_0 ?_
      refine jm_iastore dX8_linksBy_39 kd_c_141 (lt_c 141 rfl) b3 ?_
      generalize hhu2 : jw u1 141 i4.toNatClampNeg 0 = u2
      replace h := h u2 hhu2.symm
      refine jv_aload_n dX8_linksBy_40 rfl ?_
      refine jm_callVu [] cw_8_279 dX8_linksBy_41 rfl (Nat.le_of_ble_eq_true rfl) kd_c_137 (r := (RX8, TX8, 48)) rfl rfl (lt_c 137 rfl) (Nat.le_of_ble_eq_true rfl) (JCu.mono h (fun u3 h => ?_))
      refine jv_aload_n dX8_linksBy_44 rfl ?_
      refine jv_iload_n dX8_linksBy_45 rfl ?_
      refine jv_iload_n dX8_linksBy_46 rfl ?_
      refine jm_callVi [.int a1, .int a2] cw_8_298 dX8_linksBy_47 rfl (Nat.le_of_ble_eq_true rfl) kd_c_137 (r := (RX8, TX8, 48)) rfl rfl (lt_c 137 rfl) (Nat.le_of_ble_eq_true rfl) (JCi.mono h (fun x4 u4 h => ?_))
      refine jv_iconst dX8_linksBy_50 ci_iconst_m1 ?_
      have key6 : ∀ i3_5 : Int32, i3_5 = (if x4 = (-1) then (i3 ||| ((1 : Int32) <<< (i4 &&& 31))) else i3) → JVi E 10 YX8_linksBy K 61 [some (.ref 137), some (.int a1), some (.int a2), some (.int i3_5), some (.int i4)] [] u4 := by
        intro i3_5 hi3_5
        replace h := h i3_5 hi3_5
        refine jv_aload_n dX8_linksBy_61 rfl ?_
        refine jv_iconst dX8_linksBy_62 ci_iconst_0 ?_
        refine jm_callVu [.int 0] cw_8_276 dX8_linksBy_63 rfl (Nat.le_of_ble_eq_true rfl) kd_c_137 (r := (RX8, TX8, 48)) rfl rfl (lt_c 137 rfl) (Nat.le_of_ble_eq_true rfl) (JCu.mono h (fun u6 h => ?_))
        refine jv_iinc (v := i4 + 1) (ls' := [some (.ref 137), some (.int a1), some (.int a2), some (.int i3_5), some (.int (i4 + 1))]) dX8_linksBy_66 (Nat.le_of_ble_eq_true rfl) rfl (by rw [ci_iconst_1]) rfl ?_
        refine jv_goto (t := 5) dX8_linksBy_69 rfl ?_
        exact h
      clear h
      refine jv_icmp_ne (t := 61) dX8_linksBy_51 rfl (fun c7 => ?_) (fun c7 => ?_)
      · exact key6 _ (Eq.trans rfl (if_neg c7).symm)
      · refine jv_iload_n dX8_linksBy_54 rfl ?_
        refine jv_iconst dX8_linksBy_55 ci_iconst_1 ?_
        refine jv_iload dX8_linksBy_56 rfl ?_
        refine jv_ishl dX8_linksBy_58 ?_
        refine jv_ior dX8_linksBy_59 ?_
        refine jv_istore_n (ls' := [some (.ref 137), some (.int a1), some (.int a2), some (.int (i3 ||| ((1 : Int32) <<< (i4 &&& 31)))), some (.int i4)]) dX8_linksBy_60 (Nat.le_of_ble_eq_true rfl) rfl ?_
        exact key6 _ (Eq.trans rfl (if_pos c7).symm)
    · replace h := h.2 c4
      refine jv_goto (t := 66) dX8_linksBy_24 rfl ?_
      refine jv_iinc (v := i4 + 1) (ls' := [some (.ref 137), some (.int a1), some (.int a2), some (.int i3), some (.int (i4 + 1))]) dX8_linksBy_66 (Nat.le_of_ble_eq_true rfl) rfl (by rw [ci_iconst_1]) rfl ?_
      refine jv_goto (t := 5) dX8_linksBy_69 rfl ?_
      exact h
theorem g_X8_costsBy_0 {E : JE} {u : JM} {K : Int32 → JM → Prop}  {a1 a2 a3 a4 : Int32}
    (h : JVi E 10 YX8_costsBy K 9 [some (.ref 137), some (.int a1), some (.int a2), some (.int a3), some (.int a4), some (.int 0), some (.int (-1)), some (.int 1), none] [] u)
    : JVi E 10 YX8_costsBy K 0 [some (.ref 137), some (.int a1), some (.int a2), some (.int a3), some (.int a4), none, none, none, none] [] u := by
  refine jv_iconst dX8_costsBy_0 ci_iconst_0 ?_
  refine jv_istore (ls' := [some (.ref 137), some (.int a1), some (.int a2), some (.int a3), some (.int a4), some (.int 0), none, none, none]) dX8_costsBy_1 (Nat.le_of_ble_eq_true rfl) rfl ?_
  refine jv_iconst dX8_costsBy_3 ci_iconst_m1 ?_
  refine jv_istore (ls' := [some (.ref 137), some (.int a1), some (.int a2), some (.int a3), some (.int a4), some (.int 0), some (.int (-1)), none, none]) dX8_costsBy_4 (Nat.le_of_ble_eq_true rfl) rfl ?_
  refine jv_iconst dX8_costsBy_6 ci_iconst_1 ?_
  refine jv_istore (ls' := [some (.ref 137), some (.int a1), some (.int a2), some (.int a3), some (.int a4), some (.int 0), some (.int (-1)), some (.int 1), none]) dX8_costsBy_7 (Nat.le_of_ble_eq_true rfl) rfl ?_
  exact h
theorem g_X8_costsBy_9 {E : JE} {u : JM} {K : Int32 → JM → Prop}  {a1 a2 a3 a4 i5 i6 i7 : Int32}
    (h : ((12 < i7 → ((a4 = 0 → K i5 u) ∧
  (¬ a4 = 0 → K i6 u))) ∧
 (¬ 12 < i7 → JCu E 2 YX8_keep [.ref 137, .int 0] (fun u1 =>
  vp_in (2 * a3) 24 ∧
   ∀ u2, u2 = jw u1 142 (2 * a3).toNatClampNeg i7 →
   JCu E 9 YX8_goesLong [.ref 137] (fun u3 =>
   JCi E 8 YX8_otherwise [.ref 137, .int a1, .int a2] (fun x4 u4 =>
    ∀ v_5 : Int32, v_5 = (if x4 = (-1) then 1 else 0) →
     JCu E 2 YX8_layBack [.ref 137, .int 0] (fun u6 =>
     ∀ i5_7 : Int32, i5_7 = (if v_5 = 0 then i5 else (i5 + 1)) →
      ∀ i6_8 : Int32, i6_8 = (if v_5 = 0 then i6 else (if i5 = 0 then i7 else i6)) →
      JVi E 10 YX8_costsBy K 9 [some (.ref 137), some (.int a1), some (.int a2), some (.int a3), some (.int a4), some (.int i5_7), some (.int i6_8), some (.int (i7 + 1)), none] [] u6) u4) u3) u2) u)))
    : JVi E 10 YX8_costsBy K 9 [some (.ref 137), some (.int a1), some (.int a2), some (.int a3), some (.int a4), some (.int i5), some (.int i6), some (.int i7), none] [] u := by
  refine jv_iload dX8_costsBy_9 rfl ?_
  refine jv_bipush dX8_costsBy_11 ci_bipush_12 ?_
  refine jv_icmp_gt (t := 88) dX8_costsBy_13 rfl (fun c1 => ?_) (fun c1 => ?_)
  · replace h := h.1 c1
    refine jv_iload dX8_costsBy_88 rfl ?_
    refine jv_if_eq (t := 98) dX8_costsBy_90 rfl (fun c2 => ?_) (fun c2 => ?_)
    · replace h := h.1 c2
      refine jv_iload dX8_costsBy_98 rfl ?_
      exact jm_ireturn dX8_costsBy_100 rfl h
    · replace h := h.2 c2
      refine jv_iload dX8_costsBy_93 rfl ?_
      refine jv_goto (t := 100) dX8_costsBy_95 rfl ?_
      exact jm_ireturn dX8_costsBy_100 rfl h
  · replace h := h.2 c1
    refine jv_aload_n dX8_costsBy_16 rfl ?_
    refine jv_iconst dX8_costsBy_17 ci_iconst_0 ?_
    refine jm_callVu [.int 0] cw_8_273 dX8_costsBy_18 rfl (Nat.le_of_ble_eq_true rfl) kd_c_137 (r := (RX8, TX8, 48)) rfl rfl (lt_c 137 rfl) (Nat.le_of_ble_eq_true rfl) (JCu.mono h (fun u1 h => ?_))
    refine jv_aload_n dX8_costsBy_21 rfl ?_
    refine gf_8_22 rfl dX8_costsBy_22 kd_c_137 (lt_c 137 rfl) rf_c_137_5 ?_
    refine jv_iconst dX8_costsBy_25 ci_iconst_2 ?_
    refine jv_iload_n dX8_costsBy_26 rfl ?_
    refine jv_imul dX8_costsBy_27 ?_
    refine jv_iload dX8_costsBy_28 rfl ?_
    obtain ⟨b3, h⟩ := h
    refine jm_iastore dX8_costsBy_30 kd_c_142 (lt_c 142 rfl) b3 ?_
    generalize hhu2 : jw u1 142 (2 * a3).toNatClampNeg i7 = u2
    replace h := h u2 hhu2.symm
    refine jv_aload_n dX8_costsBy_31 rfl ?_
    refine jm_callVu [] cw_8_279 dX8_costsBy_32 rfl (Nat.le_of_ble_eq_true rfl) kd_c_137 (r := (RX8, TX8, 48)) rfl rfl (lt_c 137 rfl) (Nat.le_of_ble_eq_true rfl) (JCu.mono h (fun u3 h => ?_))
    refine jv_aload_n dX8_costsBy_35 rfl ?_
    refine jv_iload_n dX8_costsBy_36 rfl ?_
    refine jv_iload_n dX8_costsBy_37 rfl ?_
    refine jm_callVi [.int a1, .int a2] cw_8_298 dX8_costsBy_38 rfl (Nat.le_of_ble_eq_true rfl) kd_c_137 (r := (RX8, TX8, 48)) rfl rfl (lt_c 137 rfl) (Nat.le_of_ble_eq_true rfl) (JCi.mono h (fun x4 u4 h => ?_))
    refine jv_iconst dX8_costsBy_41 ci_iconst_m1 ?_
    have key9 : ∀ v_5 : Int32, v_5 = (if x4 = (-1) then 1 else 0) → JVi E 10 YX8_costsBy K 50 [some (.ref 137), some (.int a1), some (.int a2), some (.int a3), some (.int a4), some (.int i5), some (.int i6), some (.int i7), none] [.int v_5] u4 := by
      intro v_5 hv_5
      replace h := h v_5 hv_5
      refine jv_istore (ls' := [some (.ref 137), some (.int a1), some (.int a2), some (.int a3), some (.int a4), some (.int i5), some (.int i6), some (.int i7), some (.int v_5)]) dX8_costsBy_50 (Nat.le_of_ble_eq_true rfl) rfl ?_
      refine jv_aload_n dX8_costsBy_52 rfl ?_
      refine jv_iconst dX8_costsBy_53 ci_iconst_0 ?_
      refine jm_callVu [.int 0] cw_8_276 dX8_costsBy_54 rfl (Nat.le_of_ble_eq_true rfl) kd_c_137 (r := (RX8, TX8, 48)) rfl rfl (lt_c 137 rfl) (Nat.le_of_ble_eq_true rfl) (JCu.mono h (fun u6 h => ?_))
      refine jv_iload dX8_costsBy_57 rfl ?_
      have key6 : ∀ i5_7 i6_8 : Int32, i5_7 = (if v_5 = 0 then i5 else (i5 + 1)) → i6_8 = (if v_5 = 0 then i6 else (if i5 = 0 then i7 else i6)) → JVi E 10 YX8_costsBy K 82 [some (.ref 137), some (.int a1), some (.int a2), some (.int a3), some (.int a4), some (.int i5_7), some (.int i6_8), some (.int i7), some (.int v_5)] [] u6 := by
        intro i5_7 i6_8 hi5_7 hi6_8
        replace h := h i5_7 hi5_7 i6_8 hi6_8
        refine jv_iinc (v := i7 + 1) (ls' := [some (.ref 137), some (.int a1), some (.int a2), some (.int a3), some (.int a4), some (.int i5_7), some (.int i6_8), some (.int (i7 + 1)), some (.int v_5)]) dX8_costsBy_82 (Nat.le_of_ble_eq_true rfl) rfl (by rw [ci_iconst_1]) rfl ?_
        refine jv_goto (t := 9) dX8_costsBy_85 rfl ?_
        exact jm_sub (ls' := [some (.ref 137), some (.int a1), some (.int a2), some (.int a3), some (.int a4), some (.int i5_7), some (.int i6_8), some (.int (i7 + 1)), none]) ⟨rfl, rfl, rfl, rfl, rfl, rfl, rfl, rfl, trivial⟩ h
      clear h
      refine jv_if_ne (t := 65) dX8_costsBy_59 rfl (fun c7 => ?_) (fun c7 => ?_)
      · refine jv_iload dX8_costsBy_65 rfl ?_
        refine jv_if_ne (t := 75) dX8_costsBy_67 rfl (fun c8 => ?_) (fun c8 => ?_)
        · refine jv_iload dX8_costsBy_75 rfl ?_
          refine jv_istore (ls' := [some (.ref 137), some (.int a1), some (.int a2), some (.int a3), some (.int a4), some (.int i5), some (.int i6), some (.int i7), some (.int v_5)]) dX8_costsBy_77 (Nat.le_of_ble_eq_true rfl) rfl ?_
          refine jv_iinc (v := i5 + 1) (ls' := [some (.ref 137), some (.int a1), some (.int a2), some (.int a3), some (.int a4), some (.int (i5 + 1)), some (.int i6), some (.int i7), some (.int v_5)]) dX8_costsBy_79 (Nat.le_of_ble_eq_true rfl) rfl (by rw [ci_iconst_1]) rfl ?_
          exact key6 _ _ (Eq.trans rfl (if_neg c7).symm) (Eq.trans (Eq.trans rfl (if_neg c8).symm) (if_neg c7).symm)
        · refine jv_iload dX8_costsBy_70 rfl ?_
          refine jv_goto (t := 77) dX8_costsBy_72 rfl ?_
          refine jv_istore (ls' := [some (.ref 137), some (.int a1), some (.int a2), some (.int a3), some (.int a4), some (.int i5), some (.int i7), some (.int i7), some (.int v_5)]) dX8_costsBy_77 (Nat.le_of_ble_eq_true rfl) rfl ?_
          refine jv_iinc (v := i5 + 1) (ls' := [some (.ref 137), some (.int a1), some (.int a2), some (.int a3), some (.int a4), some (.int (i5 + 1)), some (.int i7), some (.int i7), some (.int v_5)]) dX8_costsBy_79 (Nat.le_of_ble_eq_true rfl) rfl (by rw [ci_iconst_1]) rfl ?_
          exact key6 _ _ (Eq.trans rfl (if_neg c7).symm) (Eq.trans (Eq.trans rfl (if_pos c8).symm) (if_neg c7).symm)
      · refine jv_goto (t := 82) dX8_costsBy_62 rfl ?_
        exact key6 _ _ (Eq.trans rfl (if_pos c7).symm) (Eq.trans rfl (if_pos c7).symm)
    clear h
    refine jv_icmp_ne (t := 49) dX8_costsBy_42 rfl (fun c10 => ?_) (fun c10 => ?_)
    · refine jv_iconst dX8_costsBy_49 ci_iconst_0 ?_
      exact key9 _ (Eq.trans rfl (if_neg c10).symm)
    · refine jv_iconst dX8_costsBy_45 ci_iconst_1 ?_
      refine jv_goto (t := 50) dX8_costsBy_46 rfl ?_
      exact key9 _ (Eq.trans rfl (if_pos c10).symm)
theorem g_X8_tells__0 {E : JE} {u : JM} {K : Int32 → JM → Prop}  {a1 a2 a3 : Int32}
    (h : JCi E 2 YX8_isSheet [.int a1] (fun x1 u1 =>
 ((x1 = 0 → K (-2) u1) ∧
  (¬ x1 = 0 → JCi E 2 YX8_isRouter [.int a2] (fun x2 u2 =>
   ((x2 = 0 → K (-2) u2) ∧
    (¬ x2 = 0 → ((a3 < 0 → K (-2) u2) ∧
     (¬ a3 < 0 → ((a3 = 3 → K (-2) u2) ∧
      (¬ a3 = 3 → (((a3 - a3 / 4 * 4) ≤ 1 → ((a3 ≤ 3 → vp_in a1 4 ∧
         ((0 ≤ (u2 3763 a1.toNatClampNeg) → (((u2 3764 a1.toNatClampNeg) ≤ 8 → ((¬ a3 = 0 → ((¬ a3 = 2 → ((a3 ≤ 3 → JVi E 11 YX8_tells_ K 142 [some (.ref 137), some (.int a1), some (.int a2), some (.int a3), some (.int 0), some (.int 0)] [] u2) ∧
             (¬ a3 ≤ 3 → ∀ v_3 : Int32, v_3 = (if (a3 - a3 / 4 * 4) = 1 then 1 else 0) →
              JCi E 10 YX8_costsBy [.ref 137, .int a1, .int a2, .int ((a3 / 4) - 1), .int v_3] (fun x4 u4 =>
              K x4 u4) u2))) ∧
            (a3 = 2 → JCi E 10 YX8_linksBy [.ref 137, .int a1, .int a2] (fun x5 u5 =>
             K x5 u5) u2))) ∧
           (a3 = 0 → JCi E 8 YX8_otherwise [.ref 137, .int a1, .int a2] (fun x6 u6 =>
            K x6 u6) u2))) ∧
          (¬ (u2 3764 a1.toNatClampNeg) ≤ 8 → K (-2) u2))) ∧
         (¬ 0 ≤ (u2 3763 a1.toNatClampNeg) → K (-11) u2))) ∧
        (¬ a3 ≤ 3 → JCi E 2 YX8_isLink [.ref 137, .int ((a3 / 4) - 1)] (fun x7 u7 =>
         ((¬ x7 = 0 → vp_in a1 4 ∧
           ((0 ≤ (u7 3763 a1.toNatClampNeg) → (((u7 3764 a1.toNatClampNeg) ≤ 8 → ((¬ a3 = 0 → ((¬ a3 = 2 → ((a3 ≤ 3 → JVi E 11 YX8_tells_ K 142 [some (.ref 137), some (.int a1), some (.int a2), some (.int a3), some (.int 0), some (.int 0)] [] u7) ∧
               (¬ a3 ≤ 3 → ∀ v_8 : Int32, v_8 = (if (a3 - a3 / 4 * 4) = 1 then 1 else 0) →
                JCi E 10 YX8_costsBy [.ref 137, .int a1, .int a2, .int ((a3 / 4) - 1), .int v_8] (fun x9 u9 =>
                K x9 u9) u7))) ∧
              (a3 = 2 → JCi E 10 YX8_linksBy [.ref 137, .int a1, .int a2] (fun x10 u10 =>
               K x10 u10) u7))) ∧
             (a3 = 0 → JCi E 8 YX8_otherwise [.ref 137, .int a1, .int a2] (fun x11 u11 =>
              K x11 u11) u7))) ∧
            (¬ (u7 3764 a1.toNatClampNeg) ≤ 8 → K (-2) u7))) ∧
           (¬ 0 ≤ (u7 3763 a1.toNatClampNeg) → K (-11) u7))) ∧
          (x7 = 0 → K (-12) u7))) u2))) ∧
       (¬ (a3 - a3 / 4 * 4) ≤ 1 → ((a3 ≤ 3 → ((a3 ≤ 3 → vp_in a1 4 ∧
          ((0 ≤ (u2 3763 a1.toNatClampNeg) → (((u2 3764 a1.toNatClampNeg) ≤ 8 → ((¬ a3 = 0 → ((¬ a3 = 2 → ((a3 ≤ 3 → JVi E 11 YX8_tells_ K 142 [some (.ref 137), some (.int a1), some (.int a2), some (.int a3), some (.int 0), some (.int 0)] [] u2) ∧
              (¬ a3 ≤ 3 → ∀ v_12 : Int32, v_12 = (if (a3 - a3 / 4 * 4) = 1 then 1 else 0) →
               JCi E 10 YX8_costsBy [.ref 137, .int a1, .int a2, .int ((a3 / 4) - 1), .int v_12] (fun x13 u13 =>
               K x13 u13) u2))) ∧
             (a3 = 2 → JCi E 10 YX8_linksBy [.ref 137, .int a1, .int a2] (fun x14 u14 =>
              K x14 u14) u2))) ∧
            (a3 = 0 → JCi E 8 YX8_otherwise [.ref 137, .int a1, .int a2] (fun x15 u15 =>
             K x15 u15) u2))) ∧
           (¬ (u2 3764 a1.toNatClampNeg) ≤ 8 → K (-2) u2))) ∧
          (¬ 0 ≤ (u2 3763 a1.toNatClampNeg) → K (-11) u2))) ∧
         (¬ a3 ≤ 3 → JCi E 2 YX8_isLink [.ref 137, .int ((a3 / 4) - 1)] (fun x16 u16 =>
          ((¬ x16 = 0 → vp_in a1 4 ∧
            ((0 ≤ (u16 3763 a1.toNatClampNeg) → (((u16 3764 a1.toNatClampNeg) ≤ 8 → ((¬ a3 = 0 → ((¬ a3 = 2 → ((a3 ≤ 3 → JVi E 11 YX8_tells_ K 142 [some (.ref 137), some (.int a1), some (.int a2), some (.int a3), some (.int 0), some (.int 0)] [] u16) ∧
                (¬ a3 ≤ 3 → ∀ v_17 : Int32, v_17 = (if (a3 - a3 / 4 * 4) = 1 then 1 else 0) →
                 JCi E 10 YX8_costsBy [.ref 137, .int a1, .int a2, .int ((a3 / 4) - 1), .int v_17] (fun x18 u18 =>
                 K x18 u18) u16))) ∧
               (a3 = 2 → JCi E 10 YX8_linksBy [.ref 137, .int a1, .int a2] (fun x19 u19 =>
                K x19 u19) u16))) ∧
              (a3 = 0 → JCi E 8 YX8_otherwise [.ref 137, .int a1, .int a2] (fun x20 u20 =>
               K x20 u20) u16))) ∧
             (¬ (u16 3764 a1.toNatClampNeg) ≤ 8 → K (-2) u16))) ∧
            (¬ 0 ≤ (u16 3763 a1.toNatClampNeg) → K (-11) u16))) ∧
           (x16 = 0 → K (-12) u16))) u2))) ∧
        (¬ a3 ≤ 3 → K (-2) u2))))))))))) u1))) u)
    : JVi E 11 YX8_tells_ K 0 [some (.ref 137), some (.int a1), some (.int a2), some (.int a3), none, none] [] u := by
  refine jv_iload_n dX8_tells__0 rfl ?_
  refine jm_callSi [.int a1] cw_8_301 dX8_tells__1 rfl (Nat.le_of_ble_eq_true rfl) (Nat.le_of_ble_eq_true rfl) (JCi.mono h (fun x1 u1 h => ?_))
  refine jv_if_eq (t := 35) dX8_tells__4 rfl (fun c1 => ?_) (fun c1 => ?_)
  · replace h := h.1 c1
    refine jv_bipush dX8_tells__35 ci_bipush_m2 ?_
    exact jm_ireturn dX8_tells__37 rfl h
  · replace h := h.2 c1
    refine jv_iload_n dX8_tells__7 rfl ?_
    refine jm_callSi [.int a2] cw_8_141 dX8_tells__8 rfl (Nat.le_of_ble_eq_true rfl) (Nat.le_of_ble_eq_true rfl) (JCi.mono h (fun x2 u2 h => ?_))
    refine jv_if_eq (t := 35) dX8_tells__11 rfl (fun c2 => ?_) (fun c2 => ?_)
    · replace h := h.1 c2
      refine jv_bipush dX8_tells__35 ci_bipush_m2 ?_
      exact jm_ireturn dX8_tells__37 rfl h
    · replace h := h.2 c2
      refine jv_iload_n dX8_tells__14 rfl ?_
      refine jv_if_lt (t := 35) dX8_tells__15 rfl (fun c3 => ?_) (fun c3 => ?_)
      · replace h := h.1 c3
        refine jv_bipush dX8_tells__35 ci_bipush_m2 ?_
        exact jm_ireturn dX8_tells__37 rfl h
      · replace h := h.2 c3
        refine jv_iload_n dX8_tells__18 rfl ?_
        refine jv_iconst dX8_tells__19 ci_iconst_3 ?_
        refine jv_icmp_eq (t := 35) dX8_tells__20 rfl (fun c4 => ?_) (fun c4 => ?_)
        · replace h := h.1 c4
          refine jv_bipush dX8_tells__35 ci_bipush_m2 ?_
          exact jm_ireturn dX8_tells__37 rfl h
        · replace h := h.2 c4
          refine jv_iload_n dX8_tells__23 rfl ?_
          refine jv_iconst dX8_tells__24 ci_iconst_4 ?_
          refine jv_irem dX8_tells__25 (by decide) ?_
          refine jv_iconst dX8_tells__26 ci_iconst_1 ?_
          refine jv_icmp_le (t := 38) dX8_tells__27 rfl (fun c5 => ?_) (fun c5 => ?_)
          · replace h := h.1 c5
            refine jv_iload_n dX8_tells__38 rfl ?_
            refine jv_iconst dX8_tells__39 ci_iconst_3 ?_
            refine jv_icmp_le (t := 58) dX8_tells__40 rfl (fun c6 => ?_) (fun c6 => ?_)
            · replace h := h.1 c6
              refine jv_aload_n dX8_tells__58 rfl ?_
              refine gf_8_113 rfl dX8_tells__59 kd_c_137 (lt_c 137 rfl) rf_c_137_44 ?_
              refine jv_iload_n dX8_tells__62 rfl ?_
              obtain ⟨b7, h⟩ := h
              refine jm_iaload dX8_tells__63 kd_c_3763 (lt_c 3763 rfl) b7 ?_
              refine jv_if_ge (t := 70) dX8_tells__64 rfl (fun c8 => ?_) (fun c8 => ?_)
              · replace h := h.1 c8
                refine jv_aload_n dX8_tells__70 rfl ?_
                refine gf_8_116 rfl dX8_tells__71 kd_c_137 (lt_c 137 rfl) rf_c_137_45 ?_
                refine jv_iload_n dX8_tells__74 rfl ?_
                refine jm_iaload dX8_tells__75 kd_c_3764 (lt_c 3764 rfl) b7 ?_
                refine jv_bipush dX8_tells__76 ci_bipush_8 ?_
                refine jv_icmp_le (t := 84) dX8_tells__78 rfl (fun c9 => ?_) (fun c9 => ?_)
                · replace h := h.1 c9
                  refine jv_iload_n dX8_tells__84 rfl ?_
                  refine jv_if_ne (t := 95) dX8_tells__85 rfl (fun c10 => ?_) (fun c10 => ?_)
                  · replace h := h.1 c10
                    refine jv_iload_n dX8_tells__95 rfl ?_
                    refine jv_iconst dX8_tells__96 ci_iconst_2 ?_
                    refine jv_icmp_ne (t := 107) dX8_tells__97 rfl (fun c11 => ?_) (fun c11 => ?_)
                    · replace h := h.1 c11
                      refine jv_iload_n dX8_tells__107 rfl ?_
                      refine jv_iconst dX8_tells__108 ci_iconst_3 ?_
                      refine jv_icmp_le (t := 136) dX8_tells__109 rfl (fun c12 => ?_) (fun c12 => ?_)
                      · replace h := h.1 c12
                        refine jv_iconst dX8_tells__136 ci_iconst_0 ?_
                        refine jv_istore (ls' := [some (.ref 137), some (.int a1), some (.int a2), some (.int a3), some (.int 0), none]) dX8_tells__137 (Nat.le_of_ble_eq_true rfl) rfl ?_
                        refine jv_iconst dX8_tells__139 ci_iconst_0 ?_
                        refine jv_istore (ls' := [some (.ref 137), some (.int a1), some (.int a2), some (.int a3), some (.int 0), some (.int 0)]) dX8_tells__140 (Nat.le_of_ble_eq_true rfl) rfl ?_
                        exact h
                      · replace h := h.2 c12
                        refine jv_aload_n dX8_tells__112 rfl ?_
                        refine jv_iload_n dX8_tells__113 rfl ?_
                        refine jv_iload_n dX8_tells__114 rfl ?_
                        refine jv_iload_n dX8_tells__115 rfl ?_
                        refine jv_iconst dX8_tells__116 ci_iconst_4 ?_
                        refine jv_idiv dX8_tells__117 (by decide) ?_
                        refine jv_iconst dX8_tells__118 ci_iconst_1 ?_
                        refine jv_isub dX8_tells__119 ?_
                        refine jv_iload_n dX8_tells__120 rfl ?_
                        refine jv_iconst dX8_tells__121 ci_iconst_4 ?_
                        refine jv_irem dX8_tells__122 (by decide) ?_
                        refine jv_iconst dX8_tells__123 ci_iconst_1 ?_
                        have key14 : ∀ v_3 : Int32, v_3 = (if (a3 - a3 / 4 * 4) = 1 then 1 else 0) → JVi E 11 YX8_tells_ K 132 [some (.ref 137), some (.int a1), some (.int a2), some (.int a3), none, none] [.int v_3, .int ((a3 / 4) - 1), .int a2, .int a1, .ref 137] u2 := by
                          intro v_3 hv_3
                          replace h := h v_3 hv_3
                          refine jm_callVi [.int a1, .int a2, .int ((a3 / 4) - 1), .int v_3] cw_8_307 dX8_tells__132 rfl (Nat.le_of_ble_eq_true rfl) kd_c_137 (r := (RX8, TX8, 48)) rfl rfl (lt_c 137 rfl) (Nat.le_of_ble_eq_true rfl) (JCi.mono h (fun x4 u4 h => ?_))
                          exact jm_ireturn dX8_tells__135 rfl h
                        clear h
                        refine jv_icmp_ne (t := 131) dX8_tells__124 rfl (fun c15 => ?_) (fun c15 => ?_)
                        · refine jv_iconst dX8_tells__131 ci_iconst_0 ?_
                          exact key14 _ (Eq.trans rfl (if_neg c15).symm)
                        · refine jv_iconst dX8_tells__127 ci_iconst_1 ?_
                          refine jv_goto (t := 132) dX8_tells__128 rfl ?_
                          exact key14 _ (Eq.trans rfl (if_pos c15).symm)
                    · replace h := h.2 c11
                      refine jv_aload_n dX8_tells__100 rfl ?_
                      refine jv_iload_n dX8_tells__101 rfl ?_
                      refine jv_iload_n dX8_tells__102 rfl ?_
                      refine jm_callVi [.int a1, .int a2] cw_8_304 dX8_tells__103 rfl (Nat.le_of_ble_eq_true rfl) kd_c_137 (r := (RX8, TX8, 48)) rfl rfl (lt_c 137 rfl) (Nat.le_of_ble_eq_true rfl) (JCi.mono h (fun x5 u5 h => ?_))
                      exact jm_ireturn dX8_tells__106 rfl h
                  · replace h := h.2 c10
                    refine jv_aload_n dX8_tells__88 rfl ?_
                    refine jv_iload_n dX8_tells__89 rfl ?_
                    refine jv_iload_n dX8_tells__90 rfl ?_
                    refine jm_callVi [.int a1, .int a2] cw_8_298 dX8_tells__91 rfl (Nat.le_of_ble_eq_true rfl) kd_c_137 (r := (RX8, TX8, 48)) rfl rfl (lt_c 137 rfl) (Nat.le_of_ble_eq_true rfl) (JCi.mono h (fun x6 u6 h => ?_))
                    exact jm_ireturn dX8_tells__94 rfl h
                · replace h := h.2 c9
                  refine jv_bipush dX8_tells__81 ci_bipush_m2 ?_
                  exact jm_ireturn dX8_tells__83 rfl h
              · replace h := h.2 c8
                refine jv_bipush dX8_tells__67 ci_bipush_m11 ?_
                exact jm_ireturn dX8_tells__69 rfl h
            · replace h := h.2 c6
              refine jv_aload_n dX8_tells__43 rfl ?_
              refine jv_iload_n dX8_tells__44 rfl ?_
              refine jv_iconst dX8_tells__45 ci_iconst_4 ?_
              refine jv_idiv dX8_tells__46 (by decide) ?_
              refine jv_iconst dX8_tells__47 ci_iconst_1 ?_
              refine jv_isub dX8_tells__48 ?_
              refine jm_callVi [.int ((a3 / 4) - 1)] cw_8_148 dX8_tells__49 rfl (Nat.le_of_ble_eq_true rfl) kd_c_137 (r := (RX8, TX8, 48)) rfl rfl (lt_c 137 rfl) (Nat.le_of_ble_eq_true rfl) (JCi.mono h (fun x7 u7 h => ?_))
              refine jv_if_ne (t := 58) dX8_tells__52 rfl (fun c16 => ?_) (fun c16 => ?_)
              · replace h := h.1 c16
                refine jv_aload_n dX8_tells__58 rfl ?_
                refine gf_8_113 rfl dX8_tells__59 kd_c_137 (lt_c 137 rfl) rf_c_137_44 ?_
                refine jv_iload_n dX8_tells__62 rfl ?_
                obtain ⟨b17, h⟩ := h
                refine jm_iaload dX8_tells__63 kd_c_3763 (lt_c 3763 rfl) b17 ?_
                refine jv_if_ge (t := 70) dX8_tells__64 rfl (fun c18 => ?_) (fun c18 => ?_)
                · replace h := h.1 c18
                  refine jv_aload_n dX8_tells__70 rfl ?_
                  refine gf_8_116 rfl dX8_tells__71 kd_c_137 (lt_c 137 rfl) rf_c_137_45 ?_
                  refine jv_iload_n dX8_tells__74 rfl ?_
                  refine jm_iaload dX8_tells__75 kd_c_3764 (lt_c 3764 rfl) b17 ?_
                  refine jv_bipush dX8_tells__76 ci_bipush_8 ?_
                  refine jv_icmp_le (t := 84) dX8_tells__78 rfl (fun c19 => ?_) (fun c19 => ?_)
                  · replace h := h.1 c19
                    refine jv_iload_n dX8_tells__84 rfl ?_
                    refine jv_if_ne (t := 95) dX8_tells__85 rfl (fun c20 => ?_) (fun c20 => ?_)
                    · replace h := h.1 c20
                      refine jv_iload_n dX8_tells__95 rfl ?_
                      refine jv_iconst dX8_tells__96 ci_iconst_2 ?_
                      refine jv_icmp_ne (t := 107) dX8_tells__97 rfl (fun c21 => ?_) (fun c21 => ?_)
                      · replace h := h.1 c21
                        refine jv_iload_n dX8_tells__107 rfl ?_
                        refine jv_iconst dX8_tells__108 ci_iconst_3 ?_
                        refine jv_icmp_le (t := 136) dX8_tells__109 rfl (fun c22 => ?_) (fun c22 => ?_)
                        · replace h := h.1 c22
                          refine jv_iconst dX8_tells__136 ci_iconst_0 ?_
                          refine jv_istore (ls' := [some (.ref 137), some (.int a1), some (.int a2), some (.int a3), some (.int 0), none]) dX8_tells__137 (Nat.le_of_ble_eq_true rfl) rfl ?_
                          refine jv_iconst dX8_tells__139 ci_iconst_0 ?_
                          refine jv_istore (ls' := [some (.ref 137), some (.int a1), some (.int a2), some (.int a3), some (.int 0), some (.int 0)]) dX8_tells__140 (Nat.le_of_ble_eq_true rfl) rfl ?_
                          exact h
                        · replace h := h.2 c22
                          refine jv_aload_n dX8_tells__112 rfl ?_
                          refine jv_iload_n dX8_tells__113 rfl ?_
                          refine jv_iload_n dX8_tells__114 rfl ?_
                          refine jv_iload_n dX8_tells__115 rfl ?_
                          refine jv_iconst dX8_tells__116 ci_iconst_4 ?_
                          refine jv_idiv dX8_tells__117 (by decide) ?_
                          refine jv_iconst dX8_tells__118 ci_iconst_1 ?_
                          refine jv_isub dX8_tells__119 ?_
                          refine jv_iload_n dX8_tells__120 rfl ?_
                          refine jv_iconst dX8_tells__121 ci_iconst_4 ?_
                          refine jv_irem dX8_tells__122 (by decide) ?_
                          refine jv_iconst dX8_tells__123 ci_iconst_1 ?_
                          have key24 : ∀ v_8 : Int32, v_8 = (if (a3 - a3 / 4 * 4) = 1 then 1 else 0) → JVi E 11 YX8_tells_ K 132 [some (.ref 137), some (.int a1), some (.int a2), some (.int a3), none, none] [.int v_8, .int ((a3 / 4) - 1), .int a2, .int a1, .ref 137] u7 := by
                            intro v_8 hv_8
                            replace h := h v_8 hv_8
                            refine jm_callVi [.int a1, .int a2, .int ((a3 / 4) - 1), .int v_8] cw_8_307 dX8_tells__132 rfl (Nat.le_of_ble_eq_true rfl) kd_c_137 (r := (RX8, TX8, 48)) rfl rfl (lt_c 137 rfl) (Nat.le_of_ble_eq_true rfl) (JCi.mono h (fun x9 u9 h => ?_))
                            exact jm_ireturn dX8_tells__135 rfl h
                          clear h
                          refine jv_icmp_ne (t := 131) dX8_tells__124 rfl (fun c25 => ?_) (fun c25 => ?_)
                          · refine jv_iconst dX8_tells__131 ci_iconst_0 ?_
                            exact key24 _ (Eq.trans rfl (if_neg c25).symm)
                          · refine jv_iconst dX8_tells__127 ci_iconst_1 ?_
                            refine jv_goto (t := 132) dX8_tells__128 rfl ?_
                            exact key24 _ (Eq.trans rfl (if_pos c25).symm)
                      · replace h := h.2 c21
                        refine jv_aload_n dX8_tells__100 rfl ?_
                        refine jv_iload_n dX8_tells__101 rfl ?_
                        refine jv_iload_n dX8_tells__102 rfl ?_
                        refine jm_callVi [.int a1, .int a2] cw_8_304 dX8_tells__103 rfl (Nat.le_of_ble_eq_true rfl) kd_c_137 (r := (RX8, TX8, 48)) rfl rfl (lt_c 137 rfl) (Nat.le_of_ble_eq_true rfl) (JCi.mono h (fun x10 u10 h => ?_))
                        exact jm_ireturn dX8_tells__106 rfl h
                    · replace h := h.2 c20
                      refine jv_aload_n dX8_tells__88 rfl ?_
                      refine jv_iload_n dX8_tells__89 rfl ?_
                      refine jv_iload_n dX8_tells__90 rfl ?_
                      refine jm_callVi [.int a1, .int a2] cw_8_298 dX8_tells__91 rfl (Nat.le_of_ble_eq_true rfl) kd_c_137 (r := (RX8, TX8, 48)) rfl rfl (lt_c 137 rfl) (Nat.le_of_ble_eq_true rfl) (JCi.mono h (fun x11 u11 h => ?_))
                      exact jm_ireturn dX8_tells__94 rfl h
                  · replace h := h.2 c19
                    refine jv_bipush dX8_tells__81 ci_bipush_m2 ?_
                    exact jm_ireturn dX8_tells__83 rfl h
                · replace h := h.2 c18
                  refine jv_bipush dX8_tells__67 ci_bipush_m11 ?_
                  exact jm_ireturn dX8_tells__69 rfl h
              · replace h := h.2 c16
                refine jv_bipush dX8_tells__55 ci_bipush_m12 ?_
                exact jm_ireturn dX8_tells__57 rfl h
          · replace h := h.2 c5
            refine jv_iload_n dX8_tells__30 rfl ?_
            refine jv_iconst dX8_tells__31 ci_iconst_3 ?_
            refine jv_icmp_le (t := 38) dX8_tells__32 rfl (fun c26 => ?_) (fun c26 => ?_)
            · replace h := h.1 c26
              refine jv_iload_n dX8_tells__38 rfl ?_
              refine jv_iconst dX8_tells__39 ci_iconst_3 ?_
              refine jv_icmp_le (t := 58) dX8_tells__40 rfl (fun c27 => ?_) (fun c27 => ?_)
              · replace h := h.1 c27
                refine jv_aload_n dX8_tells__58 rfl ?_
                refine gf_8_113 rfl dX8_tells__59 kd_c_137 (lt_c 137 rfl) rf_c_137_44 ?_
                refine jv_iload_n dX8_tells__62 rfl ?_
                obtain ⟨b28, h⟩ := h
                refine jm_iaload dX8_tells__63 kd_c_3763 (lt_c 3763 rfl) b28 ?_
                refine jv_if_ge (t := 70) dX8_tells__64 rfl (fun c29 => ?_) (fun c29 => ?_)
                · replace h := h.1 c29
                  refine jv_aload_n dX8_tells__70 rfl ?_
                  refine gf_8_116 rfl dX8_tells__71 kd_c_137 (lt_c 137 rfl) rf_c_137_45 ?_
                  refine jv_iload_n dX8_tells__74 rfl ?_
                  refine jm_iaload dX8_tells__75 kd_c_3764 (lt_c 3764 rfl) b28 ?_
                  refine jv_bipush dX8_tells__76 ci_bipush_8 ?_
                  refine jv_icmp_le (t := 84) dX8_tells__78 rfl (fun c30 => ?_) (fun c30 => ?_)
                  · replace h := h.1 c30
                    refine jv_iload_n dX8_tells__84 rfl ?_
                    refine jv_if_ne (t := 95) dX8_tells__85 rfl (fun c31 => ?_) (fun c31 => ?_)
                    · replace h := h.1 c31
                      refine jv_iload_n dX8_tells__95 rfl ?_
                      refine jv_iconst dX8_tells__96 ci_iconst_2 ?_
                      refine jv_icmp_ne (t := 107) dX8_tells__97 rfl (fun c32 => ?_) (fun c32 => ?_)
                      · replace h := h.1 c32
                        refine jv_iload_n dX8_tells__107 rfl ?_
                        refine jv_iconst dX8_tells__108 ci_iconst_3 ?_
                        refine jv_icmp_le (t := 136) dX8_tells__109 rfl (fun c33 => ?_) (fun c33 => ?_)
                        · replace h := h.1 c33
                          refine jv_iconst dX8_tells__136 ci_iconst_0 ?_
                          refine jv_istore (ls' := [some (.ref 137), some (.int a1), some (.int a2), some (.int a3), some (.int 0), none]) dX8_tells__137 (Nat.le_of_ble_eq_true rfl) rfl ?_
                          refine jv_iconst dX8_tells__139 ci_iconst_0 ?_
                          refine jv_istore (ls' := [some (.ref 137), some (.int a1), some (.int a2), some (.int a3), some (.int 0), some (.int 0)]) dX8_tells__140 (Nat.le_of_ble_eq_true rfl) rfl ?_
                          exact h
                        · replace h := h.2 c33
                          refine jv_aload_n dX8_tells__112 rfl ?_
                          refine jv_iload_n dX8_tells__113 rfl ?_
                          refine jv_iload_n dX8_tells__114 rfl ?_
                          refine jv_iload_n dX8_tells__115 rfl ?_
                          refine jv_iconst dX8_tells__116 ci_iconst_4 ?_
                          refine jv_idiv dX8_tells__117 (by decide) ?_
                          refine jv_iconst dX8_tells__118 ci_iconst_1 ?_
                          refine jv_isub dX8_tells__119 ?_
                          refine jv_iload_n dX8_tells__120 rfl ?_
                          refine jv_iconst dX8_tells__121 ci_iconst_4 ?_
                          refine jv_irem dX8_tells__122 (by decide) ?_
                          refine jv_iconst dX8_tells__123 ci_iconst_1 ?_
                          have key35 : ∀ v_12 : Int32, v_12 = (if (a3 - a3 / 4 * 4) = 1 then 1 else 0) → JVi E 11 YX8_tells_ K 132 [some (.ref 137), some (.int a1), some (.int a2), some (.int a3), none, none] [.int v_12, .int ((a3 / 4) - 1), .int a2, .int a1, .ref 137] u2 := by
                            intro v_12 hv_12
                            replace h := h v_12 hv_12
                            refine jm_callVi [.int a1, .int a2, .int ((a3 / 4) - 1), .int v_12] cw_8_307 dX8_tells__132 rfl (Nat.le_of_ble_eq_true rfl) kd_c_137 (r := (RX8, TX8, 48)) rfl rfl (lt_c 137 rfl) (Nat.le_of_ble_eq_true rfl) (JCi.mono h (fun x13 u13 h => ?_))
                            exact jm_ireturn dX8_tells__135 rfl h
                          clear h
                          refine jv_icmp_ne (t := 131) dX8_tells__124 rfl (fun c36 => ?_) (fun c36 => ?_)
                          · refine jv_iconst dX8_tells__131 ci_iconst_0 ?_
                            exact key35 _ (Eq.trans rfl (if_neg c36).symm)
                          · refine jv_iconst dX8_tells__127 ci_iconst_1 ?_
                            refine jv_goto (t := 132) dX8_tells__128 rfl ?_
                            exact key35 _ (Eq.trans rfl (if_pos c36).symm)
                      · replace h := h.2 c32
                        refine jv_aload_n dX8_tells__100 rfl ?_
                        refine jv_iload_n dX8_tells__101 rfl ?_
                        refine jv_iload_n dX8_tells__102 rfl ?_
                        refine jm_callVi [.int a1, .int a2] cw_8_304 dX8_tells__103 rfl (Nat.le_of_ble_eq_true rfl) kd_c_137 (r := (RX8, TX8, 48)) rfl rfl (lt_c 137 rfl) (Nat.le_of_ble_eq_true rfl) (JCi.mono h (fun x14 u14 h => ?_))
                        exact jm_ireturn dX8_tells__106 rfl h
                    · replace h := h.2 c31
                      refine jv_aload_n dX8_tells__88 rfl ?_
                      refine jv_iload_n dX8_tells__89 rfl ?_
                      refine jv_iload_n dX8_tells__90 rfl ?_
                      refine jm_callVi [.int a1, .int a2] cw_8_298 dX8_tells__91 rfl (Nat.le_of_ble_eq_true rfl) kd_c_137 (r := (RX8, TX8, 48)) rfl rfl (lt_c 137 rfl) (Nat.le_of_ble_eq_true rfl) (JCi.mono h (fun x15 u15 h => ?_))
                      exact jm_ireturn dX8_tells__94 rfl h
                  · replace h := h.2 c30
                    refine jv_bipush dX8_tells__81 ci_bipush_m2 ?_
                    exact jm_ireturn dX8_tells__83 rfl h
                · replace h := h.2 c29
                  refine jv_bipush dX8_tells__67 ci_bipush_m11 ?_
                  exact jm_ireturn dX8_tells__69 rfl h
              · replace h := h.2 c27
                refine jv_aload_n dX8_tells__43 rfl ?_
                refine jv_iload_n dX8_tells__44 rfl ?_
                refine jv_iconst dX8_tells__45 ci_iconst_4 ?_
                refine jv_idiv dX8_tells__46 (by decide) ?_
                refine jv_iconst dX8_tells__47 ci_iconst_1 ?_
                refine jv_isub dX8_tells__48 ?_
                refine jm_callVi [.int ((a3 / 4) - 1)] cw_8_148 dX8_tells__49 rfl (Nat.le_of_ble_eq_true rfl) kd_c_137 (r := (RX8, TX8, 48)) rfl rfl (lt_c 137 rfl) (Nat.le_of_ble_eq_true rfl) (JCi.mono h (fun x16 u16 h => ?_))
                refine jv_if_ne (t := 58) dX8_tells__52 rfl (fun c37 => ?_) (fun c37 => ?_)
                · replace h := h.1 c37
                  refine jv_aload_n dX8_tells__58 rfl ?_
                  refine gf_8_113 rfl dX8_tells__59 kd_c_137 (lt_c 137 rfl) rf_c_137_44 ?_
                  refine jv_iload_n dX8_tells__62 rfl ?_
                  obtain ⟨b38, h⟩ := h
                  refine jm_iaload dX8_tells__63 kd_c_3763 (lt_c 3763 rfl) b38 ?_
                  refine jv_if_ge (t := 70) dX8_tells__64 rfl (fun c39 => ?_) (fun c39 => ?_)
                  · replace h := h.1 c39
                    refine jv_aload_n dX8_tells__70 rfl ?_
                    refine gf_8_116 rfl dX8_tells__71 kd_c_137 (lt_c 137 rfl) rf_c_137_45 ?_
                    refine jv_iload_n dX8_tells__74 rfl ?_
                    refine jm_iaload dX8_tells__75 kd_c_3764 (lt_c 3764 rfl) b38 ?_
                    refine jv_bipush dX8_tells__76 ci_bipush_8 ?_
                    refine jv_icmp_le (t := 84) dX8_tells__78 rfl (fun c40 => ?_) (fun c40 => ?_)
                    · replace h := h.1 c40
                      refine jv_iload_n dX8_tells__84 rfl ?_
                      refine jv_if_ne (t := 95) dX8_tells__85 rfl (fun c41 => ?_) (fun c41 => ?_)
                      · replace h := h.1 c41
                        refine jv_iload_n dX8_tells__95 rfl ?_
                        refine jv_iconst dX8_tells__96 ci_iconst_2 ?_
                        refine jv_icmp_ne (t := 107) dX8_tells__97 rfl (fun c42 => ?_) (fun c42 => ?_)
                        · replace h := h.1 c42
                          refine jv_iload_n dX8_tells__107 rfl ?_
                          refine jv_iconst dX8_tells__108 ci_iconst_3 ?_
                          refine jv_icmp_le (t := 136) dX8_tells__109 rfl (fun c43 => ?_) (fun c43 => ?_)
                          · replace h := h.1 c43
                            refine jv_iconst dX8_tells__136 ci_iconst_0 ?_
                            refine jv_istore (ls' := [some (.ref 137), some (.int a1), some (.int a2), some (.int a3), some (.int 0), none]) dX8_tells__137 (Nat.le_of_ble_eq_true rfl) rfl ?_
                            refine jv_iconst dX8_tells__139 ci_iconst_0 ?_
                            refine jv_istore (ls' := [some (.ref 137), some (.int a1), some (.int a2), some (.int a3), some (.int 0), some (.int 0)]) dX8_tells__140 (Nat.le_of_ble_eq_true rfl) rfl ?_
                            exact h
                          · replace h := h.2 c43
                            refine jv_aload_n dX8_tells__112 rfl ?_
                            refine jv_iload_n dX8_tells__113 rfl ?_
                            refine jv_iload_n dX8_tells__114 rfl ?_
                            refine jv_iload_n dX8_tells__115 rfl ?_
                            refine jv_iconst dX8_tells__116 ci_iconst_4 ?_
                            refine jv_idiv dX8_tells__117 (by decide) ?_
                            refine jv_iconst dX8_tells__118 ci_iconst_1 ?_
                            refine jv_isub dX8_tells__119 ?_
                            refine jv_iload_n dX8_tells__120 rfl ?_
                            refine jv_iconst dX8_tells__121 ci_iconst_4 ?_
                            refine jv_irem dX8_tells__122 (by decide) ?_
                            refine jv_iconst dX8_tells__123 ci_iconst_1 ?_
                            have key45 : ∀ v_17 : Int32, v_17 = (if (a3 - a3 / 4 * 4) = 1 then 1 else 0) → JVi E 11 YX8_tells_ K 132 [some (.ref 137), some (.int a1), some (.int a2), some (.int a3), none, none] [.int v_17, .int ((a3 / 4) - 1), .int a2, .int a1, .ref 137] u16 := by
                              intro v_17 hv_17
                              replace h := h v_17 hv_17
                              refine jm_callVi [.int a1, .int a2, .int ((a3 / 4) - 1), .int v_17] cw_8_307 dX8_tells__132 rfl (Nat.le_of_ble_eq_true rfl) kd_c_137 (r := (RX8, TX8, 48)) rfl rfl (lt_c 137 rfl) (Nat.le_of_ble_eq_true rfl) (JCi.mono h (fun x18 u18 h => ?_))
                              exact jm_ireturn dX8_tells__135 rfl h
                            clear h
                            refine jv_icmp_ne (t := 131) dX8_tells__124 rfl (fun c46 => ?_) (fun c46 => ?_)
                            · refine jv_iconst dX8_tells__131 ci_iconst_0 ?_
                              exact key45 _ (Eq.trans rfl (if_neg c46).symm)
                            · refine jv_iconst dX8_tells__127 ci_iconst_1 ?_
                              refine jv_goto (t := 132) dX8_tells__128 rfl ?_
                              exact key45 _ (Eq.trans rfl (if_pos c46).symm)
                        · replace h := h.2 c42
                          refine jv_aload_n dX8_tells__100 rfl ?_
                          refine jv_iload_n dX8_tells__101 rfl ?_
                          refine jv_iload_n dX8_tells__102 rfl ?_
                          refine jm_callVi [.int a1, .int a2] cw_8_304 dX8_tells__103 rfl (Nat.le_of_ble_eq_true rfl) kd_c_137 (r := (RX8, TX8, 48)) rfl rfl (lt_c 137 rfl) (Nat.le_of_ble_eq_true rfl) (JCi.mono h (fun x19 u19 h => ?_))
                          exact jm_ireturn dX8_tells__106 rfl h
                      · replace h := h.2 c41
                        refine jv_aload_n dX8_tells__88 rfl ?_
                        refine jv_iload_n dX8_tells__89 rfl ?_
                        refine jv_iload_n dX8_tells__90 rfl ?_
                        refine jm_callVi [.int a1, .int a2] cw_8_298 dX8_tells__91 rfl (Nat.le_of_ble_eq_true rfl) kd_c_137 (r := (RX8, TX8, 48)) rfl rfl (lt_c 137 rfl) (Nat.le_of_ble_eq_true rfl) (JCi.mono h (fun x20 u20 h => ?_))
                        exact jm_ireturn dX8_tells__94 rfl h
                    · replace h := h.2 c40
                      refine jv_bipush dX8_tells__81 ci_bipush_m2 ?_
                      exact jm_ireturn dX8_tells__83 rfl h
                  · replace h := h.2 c39
                    refine jv_bipush dX8_tells__67 ci_bipush_m11 ?_
                    exact jm_ireturn dX8_tells__69 rfl h
                · replace h := h.2 c37
                  refine jv_bipush dX8_tells__55 ci_bipush_m12 ?_
                  exact jm_ireturn dX8_tells__57 rfl h
            · replace h := h.2 c26
              refine jv_bipush dX8_tells__35 ci_bipush_m2 ?_
              exact jm_ireturn dX8_tells__37 rfl h
theorem g_X8_tells__142 {E : JE} {u : JM} {K : Int32 → JM → Prop}  {a1 a2 a3 i4 i5 : Int32}
    (h : ((8 ≤ i5 → K i4 u) ∧
 (¬ 8 ≤ i5 → JCi E 8 YX8_otherwise [.ref 137, .int a1, .int i5] (fun x1 u1 =>
  ∀ i4_2 : Int32, i4_2 = (if x1 = (-1) then (i4 ||| ((1 : Int32) <<< (i5 &&& 31))) else i4) →
   JVi E 11 YX8_tells_ K 142 [some (.ref 137), some (.int a1), some (.int a2), some (.int a3), some (.int i4_2), some (.int (i5 + 1))] [] u1) u)))
    : JVi E 11 YX8_tells_ K 142 [some (.ref 137), some (.int a1), some (.int a2), some (.int a3), some (.int i4), some (.int i5)] [] u := by
  refine jv_iload dX8_tells__142 rfl ?_
  refine jv_bipush dX8_tells__144 ci_bipush_8 ?_
  refine jv_icmp_ge (t := 175) dX8_tells__146 rfl (fun c1 => ?_) (fun c1 => ?_)
  · replace h := h.1 c1
    refine jv_iload dX8_tells__175 rfl ?_
    exact jm_ireturn dX8_tells__177 rfl h
  · replace h := h.2 c1
    refine jv_aload_n dX8_tells__149 rfl ?_
    refine jv_iload_n dX8_tells__150 rfl ?_
    refine jv_iload dX8_tells__151 rfl ?_
    refine jm_callVi [.int a1, .int i5] cw_8_298 dX8_tells__153 rfl (Nat.le_of_ble_eq_true rfl) kd_c_137 (r := (RX8, TX8, 48)) rfl rfl (lt_c 137 rfl) (Nat.le_of_ble_eq_true rfl) (JCi.mono h (fun x1 u1 h => ?_))
    refine jv_iconst dX8_tells__156 ci_iconst_m1 ?_
    have key3 : ∀ i4_2 : Int32, i4_2 = (if x1 = (-1) then (i4 ||| ((1 : Int32) <<< (i5 &&& 31))) else i4) → JVi E 11 YX8_tells_ K 169 [some (.ref 137), some (.int a1), some (.int a2), some (.int a3), some (.int i4_2), some (.int i5)] [] u1 := by
      intro i4_2 hi4_2
      replace h := h i4_2 hi4_2
      refine jv_iinc (v := i5 + 1) (ls' := [some (.ref 137), some (.int a1), some (.int a2), some (.int a3), some (.int i4_2), some (.int (i5 + 1))]) dX8_tells__169 (Nat.le_of_ble_eq_true rfl) rfl (by rw [ci_iconst_1]) rfl ?_
      refine jv_goto (t := 142) dX8_tells__172 rfl ?_
      exact h
    clear h
    refine jv_icmp_ne (t := 169) dX8_tells__157 rfl (fun c4 => ?_) (fun c4 => ?_)
    · exact key3 _ (Eq.trans rfl (if_neg c4).symm)
    · refine jv_iload dX8_tells__160 rfl ?_
      refine jv_iconst dX8_tells__162 ci_iconst_1 ?_
      refine jv_iload dX8_tells__163 rfl ?_
      refine jv_ishl dX8_tells__165 ?_
      refine jv_ior dX8_tells__166 ?_
      refine jv_istore (ls' := [some (.ref 137), some (.int a1), some (.int a2), some (.int a3), some (.int (i4 ||| ((1 : Int32) <<< (i5 &&& 31)))), some (.int i5)]) dX8_tells__167 (Nat.le_of_ble_eq_true rfl) rfl ?_
      exact key3 _ (Eq.trans rfl (if_pos c4).symm)
theorem g_X8_film_0 {E : JE} {u : JM} {K : Int32 → JM → Prop}  {a1 a2 : Int32}
    (h : JCi E 2 YX8_isSheet [.int a1] (fun x1 u1 =>
 ((x1 = 0 → K (-2) u1) ∧
  (¬ x1 = 0 → JCi E 2 YX8_isRouter [.int a2] (fun x2 u2 =>
   ((¬ x2 = 0 → vp_in a1 4 ∧
     ∀ u3, u3 = jw u2 3763 a1.toNatClampNeg 1 →
     ∀ u4, u4 = jw u3 3764 a1.toNatClampNeg 8 →
     JVi E 8 YX8_film K 34 [some (.ref 137), some (.int a1), some (.int a2), some (.int 0)] [] u4) ∧
    (x2 = 0 → K (-2) u2))) u1))) u)
    : JVi E 8 YX8_film K 0 [some (.ref 137), some (.int a1), some (.int a2), none] [] u := by
  refine jv_iload_n dX8_film_0 rfl ?_
  refine jm_callSi [.int a1] cw_8_301 dX8_film_1 rfl (Nat.le_of_ble_eq_true rfl) (Nat.le_of_ble_eq_true rfl) (JCi.mono h (fun x1 u1 h => ?_))
  refine jv_if_eq (t := 14) dX8_film_4 rfl (fun c1 => ?_) (fun c1 => ?_)
  · replace h := h.1 c1
    refine jv_bipush dX8_film_14 ci_bipush_m2 ?_
    exact jm_ireturn dX8_film_16 rfl h
  · replace h := h.2 c1
    refine jv_iload_n dX8_film_7 rfl ?_
    refine jm_callSi [.int a2] cw_8_141 dX8_film_8 rfl (Nat.le_of_ble_eq_true rfl) (Nat.le_of_ble_eq_true rfl) (JCi.mono h (fun x2 u2 h => ?_))
    refine jv_if_ne (t := 17) dX8_film_11 rfl (fun c2 => ?_) (fun c2 => ?_)
    · replace h := h.1 c2
      refine jv_aload_n dX8_film_17 rfl ?_
      refine gf_8_113 rfl dX8_film_18 kd_c_137 (lt_c 137 rfl) rf_c_137_44 ?_
      refine jv_iload_n dX8_film_21 rfl ?_
      refine jv_iconst dX8_film_22 ci_iconst_1 ?_
      obtain ⟨b3, h⟩ := h
      refine jm_iastore dX8_film_23 kd_c_3763 (lt_c 3763 rfl) b3 ?_
      generalize hhu3 : jw u2 3763 a1.toNatClampNeg 1 = u3
      replace h := h u3 hhu3.symm
      refine jv_aload_n dX8_film_24 rfl ?_
      refine gf_8_116 rfl dX8_film_25 kd_c_137 (lt_c 137 rfl) rf_c_137_45 ?_
      refine jv_iload_n dX8_film_28 rfl ?_
      refine jv_bipush dX8_film_29 ci_bipush_8 ?_
      refine jm_iastore dX8_film_31 kd_c_3764 (lt_c 3764 rfl) b3 ?_
      generalize hhu4 : jw u3 3764 a1.toNatClampNeg 8 = u4
      replace h := h u4 hhu4.symm
      refine jv_iconst dX8_film_32 ci_iconst_0 ?_
      refine jv_istore_n (ls' := [some (.ref 137), some (.int a1), some (.int a2), some (.int 0)]) dX8_film_33 (Nat.le_of_ble_eq_true rfl) rfl ?_
      exact h
    · replace h := h.2 c2
      refine jv_bipush dX8_film_14 ci_bipush_m2 ?_
      exact jm_ireturn dX8_film_16 rfl h
theorem g_X8_film_34 {E : JE} {u : JM} {K : Int32 → JM → Prop}  {a1 a2 i3 : Int32}
    (h : ((8 ≤ i3 → K 8 u) ∧
 (¬ 8 ≤ i3 → vp_in a1 4 ∧
  JCi E 7 YX8_costNow [.ref 137, .int a2, .int i3] (fun x1 u1 =>
  vp_in i3 40 ∧
   ∀ u2, u2 = jw u1 (3766 + a1.toNatClampNeg) i3.toNatClampNeg x1 →
   JVi E 8 YX8_film K 34 [some (.ref 137), some (.int a1), some (.int a2), some (.int (i3 + 1))] [] u2) u)))
    : JVi E 8 YX8_film K 34 [some (.ref 137), some (.int a1), some (.int a2), some (.int i3)] [] u := by
  refine jv_iload_n dX8_film_34 rfl ?_
  refine jv_bipush dX8_film_35 ci_bipush_8 ?_
  refine jv_icmp_ge (t := 60) dX8_film_37 rfl (fun c1 => ?_) (fun c1 => ?_)
  · replace h := h.1 c1
    refine jv_bipush dX8_film_60 ci_bipush_8 ?_
    exact jm_ireturn dX8_film_62 rfl h
  · replace h := h.2 c1
    refine jv_aload_n dX8_film_40 rfl ?_
    refine gf_8_119 rfl dX8_film_41 kd_c_137 (lt_c 137 rfl) rf_c_137_46 ?_
    refine jv_iload_n dX8_film_44 rfl ?_
    obtain ⟨b3, h⟩ := h
    refine jm_aaload1 dX8_film_45 kd_c_3765 (lt_c 3765 rfl) b3 (rf_r_3765 _) ?_
    refine jv_iload_n dX8_film_46 rfl ?_
    refine jv_aload_n dX8_film_47 rfl ?_
    refine jv_iload_n dX8_film_48 rfl ?_
    refine jv_iload_n dX8_film_49 rfl ?_
    refine jm_callVi [.int a2, .int i3] cw_8_282 dX8_film_50 rfl (Nat.le_of_ble_eq_true rfl) kd_c_137 (r := (RX8, TX8, 48)) rfl rfl (lt_c 137 rfl) (Nat.le_of_ble_eq_true rfl) (JCi.mono h (fun x1 u1 h => ?_))
    obtain ⟨b4, h⟩ := h
    refine jm_iastore dX8_film_53 (kd_r_3765 (vp_lt b3)) (lt_r_3765 (vp_lt b3)) b4 ?_
    generalize hhu2 : jw u1 (3766 + a1.toNatClampNeg) i3.toNatClampNeg x1 = u2
    replace h := h u2 hhu2.symm
    refine jv_iinc (v := i3 + 1) (ls' := [some (.ref 137), some (.int a1), some (.int a2), some (.int (i3 + 1))]) dX8_film_54 (Nat.le_of_ble_eq_true rfl) rfl (by rw [ci_iconst_1]) rfl ?_
    refine jv_goto (t := 34) dX8_film_57 rfl ?_
    exact h
theorem g_X8_image_0 {E : JE} {u : JM} {K : Int32 → JM → Prop} 
    (h : ∀ u1, u1 = jw u 137 43 1 →
 JCu E 2 YX8_keep [.ref 137, .int 1] (fun u2 =>
 K (u2 137 0) u2) u1)
    : JVi E 3 YX8_image K 0 [some (.ref 137)] [] u := by
  refine jv_aload_n dX8_image_0 rfl ?_
  refine jv_iconst dX8_image_1 ci_iconst_1 ?_
  refine pf_8_311 rfl dX8_image_2 kd_c_137 (lt_c 137 rfl) (Or.inr rfl) ?_
  generalize hhu1 : jw u 137 43 1 = u1
  replace h := h u1 hhu1.symm
  refine jv_aload_n dX8_image_5 rfl ?_
  refine jv_iconst dX8_image_6 ci_iconst_1 ?_
  refine jm_callVu [.int 1] cw_8_273 dX8_image_7 rfl (Nat.le_of_ble_eq_true rfl) kd_c_137 (r := (RX8, TX8, 48)) rfl rfl (lt_c 137 rfl) (Nat.le_of_ble_eq_true rfl) (JCu.mono h (fun u2 h => ?_))
  refine jv_aload_n dX8_image_10 rfl ?_
  refine gf_8_129 rfl dX8_image_11 kd_c_137 (lt_c 137 rfl) ?_
  exact jm_ireturn dX8_image_14 rfl h
theorem g_X8_back_0 {E : JE} {u : JM} {K : Int32 → JM → Prop} 
    (h : ((¬ (u 137 43) = 0 → JCu E 2 YX8_layBack [.ref 137, .int 1] (fun u1 =>
  K (u1 137 0) u1) u) ∧
 ((u 137 43) = 0 → K (-3) u)))
    : JVi E 3 YX8_back K 0 [some (.ref 137)] [] u := by
  refine jv_aload_n dX8_back_0 rfl ?_
  refine gf_8_311 rfl dX8_back_1 kd_c_137 (lt_c 137 rfl) ?_
  refine jv_if_ne (t := 10) dX8_back_4 rfl (fun c1 => ?_) (fun c1 => ?_)
  · replace h := h.1 c1
    refine jv_aload_n dX8_back_10 rfl ?_
    refine jv_iconst dX8_back_11 ci_iconst_1 ?_
    refine jm_callVu [.int 1] cw_8_276 dX8_back_12 rfl (Nat.le_of_ble_eq_true rfl) kd_c_137 (r := (RX8, TX8, 48)) rfl rfl (lt_c 137 rfl) (Nat.le_of_ble_eq_true rfl) (JCu.mono h (fun u1 h => ?_))
    refine jv_aload_n dX8_back_15 rfl ?_
    refine gf_8_129 rfl dX8_back_16 kd_c_137 (lt_c 137 rfl) ?_
    exact jm_ireturn dX8_back_19 rfl h
  · replace h := h.2 c1
    refine jv_bipush dX8_back_7 ci_bipush_m3 ?_
    exact jm_ireturn dX8_back_9 rfl h
theorem g_X8_count_0 {E : JE} {u : JM} {K : Int32 → JM → Prop}  {a1 : Int32}
    (h : ((a1 = 0 → K (u 137 0) u) ∧
 (a1 = 1 → JVi E 4 YX8_count K 47 [some (.ref 137), some (.int a1), some (.int 0), some (.int 0)] [] u) ∧
 (a1 = 2 → K (u 137 13) u) ∧
 (a1 = 3 → K (u 137 14) u) ∧
 (a1 = 4 → K (u 137 12) u) ∧
 (a1 = 5 → JVi E 4 YX8_count K 89 [some (.ref 137), some (.int a1), some (.int 0), some (.int 0)] [] u) ∧
 (¬ a1 = 0 → ¬ a1 = 1 → ¬ a1 = 2 → ¬ a1 = 3 → ¬ a1 = 4 → ¬ a1 = 5 → K (-2) u)))
    : JVi E 4 YX8_count K 0 [some (.ref 137), some (.int a1), none, none] [] u := by
  refine jv_iconst dX8_count_0 ci_iconst_0 ?_
  refine jv_istore_n (ls' := [some (.ref 137), some (.int a1), some (.int 0), none]) dX8_count_1 (Nat.le_of_ble_eq_true rfl) rfl ?_
  refine jv_iload_n dX8_count_2 rfl ?_
  by_cases c1 : a1 = 0
  · replace h := h.1 c1
    refine jv_tableIn (off := 37) (t := 40) dX8_count_3 (by rw [c1]; decide) (by rw [c1]; decide) (by rw [c1]; rfl) rfl ?_
    refine jv_aload_n dX8_count_40 rfl ?_
    refine gf_8_129 rfl dX8_count_41 kd_c_137 (lt_c 137 rfl) ?_
    exact jm_ireturn dX8_count_44 rfl h
  by_cases c2 : a1 = 1
  · replace h := h.2.1 c2
    refine jv_tableIn (off := 42) (t := 45) dX8_count_3 (by rw [c2]; decide) (by rw [c2]; decide) (by rw [c2]; rfl) rfl ?_
    refine jv_iconst dX8_count_45 ci_iconst_0 ?_
    refine jv_istore_n (ls' := [some (.ref 137), some (.int a1), some (.int 0), some (.int 0)]) dX8_count_46 (Nat.le_of_ble_eq_true rfl) rfl ?_
    exact h
  by_cases c3 : a1 = 2
  · replace h := h.2.2.1 c3
    refine jv_tableIn (off := 69) (t := 72) dX8_count_3 (by rw [c3]; decide) (by rw [c3]; decide) (by rw [c3]; rfl) rfl ?_
    refine jv_aload_n dX8_count_72 rfl ?_
    refine gf_8_241 rfl dX8_count_73 kd_c_137 (lt_c 137 rfl) ?_
    exact jm_ireturn dX8_count_76 rfl h
  by_cases c4 : a1 = 3
  · replace h := h.2.2.2.1 c4
    refine jv_tableIn (off := 74) (t := 77) dX8_count_3 (by rw [c4]; decide) (by rw [c4]; decide) (by rw [c4]; rfl) rfl ?_
    refine jv_aload_n dX8_count_77 rfl ?_
    refine gf_8_244 rfl dX8_count_78 kd_c_137 (lt_c 137 rfl) ?_
    exact jm_ireturn dX8_count_81 rfl h
  by_cases c5 : a1 = 4
  · replace h := h.2.2.2.2.1 c5
    refine jv_tableIn (off := 79) (t := 82) dX8_count_3 (by rw [c5]; decide) (by rw [c5]; decide) (by rw [c5]; rfl) rfl ?_
    refine jv_aload_n dX8_count_82 rfl ?_
    refine gf_8_225 rfl dX8_count_83 kd_c_137 (lt_c 137 rfl) ?_
    exact jm_ireturn dX8_count_86 rfl h
  by_cases c6 : a1 = 5
  · replace h := h.2.2.2.2.2.1 c6
    refine jv_tableIn (off := 84) (t := 87) dX8_count_3 (by rw [c6]; decide) (by rw [c6]; decide) (by rw [c6]; rfl) rfl ?_
    refine jv_iconst dX8_count_87 ci_iconst_0 ?_
    refine jv_istore_n (ls' := [some (.ref 137), some (.int a1), some (.int 0), some (.int 0)]) dX8_count_88 (Nat.le_of_ble_eq_true rfl) rfl ?_
    exact h
  replace h := h.2.2.2.2.2.2 c1 c2 c3 c4 c5 c6
  refine jv_tableOut (t := 112) dX8_count_3 (by have q0 := i32_ne c1; have q1 := i32_ne c2; have q2 := i32_ne c3; have q3 := i32_ne c4; have q4 := i32_ne c5; have q5 := i32_ne c6; rw [show (0 : Int32).toInt = 0 from by decide] at q0; rw [show (1 : Int32).toInt = 1 from by decide] at q1; rw [show (2 : Int32).toInt = 2 from by decide] at q2; rw [show (3 : Int32).toInt = 3 from by decide] at q3; rw [show (4 : Int32).toInt = 4 from by decide] at q4; rw [show (5 : Int32).toInt = 5 from by decide] at q5; omega) rfl ?_
  refine jv_bipush dX8_count_112 ci_bipush_m2 ?_
  exact jm_ireturn dX8_count_114 rfl h
theorem g_X8_count_47 {E : JE} {u : JM} {K : Int32 → JM → Prop}  {a1 i2 i3 : Int32}
    (h : (((u 137 0) ≤ i3 → K i2 u) ∧
 (¬ (u 137 0) ≤ i3 → vp_in i3 12 ∧
  ∀ i2_1 : Int32, i2_1 = i2 + (u 141 i3.toNatClampNeg) →
  JVi E 4 YX8_count K 47 [some (.ref 137), some (.int a1), some (.int i2_1), some (.int (i3 + 1))] [] u)))
    : JVi E 4 YX8_count K 47 [some (.ref 137), some (.int a1), some (.int i2), some (.int i3)] [] u := by
  refine jv_iload_n dX8_count_47 rfl ?_
  refine jv_aload_n dX8_count_48 rfl ?_
  refine gf_8_129 rfl dX8_count_49 kd_c_137 (lt_c 137 rfl) ?_
  refine jv_icmp_ge (t := 70) dX8_count_52 rfl (fun c1 => ?_) (fun c1 => ?_)
  · replace h := h.1 c1
    refine jv_iload_n dX8_count_70 rfl ?_
    exact jm_ireturn dX8_count_71 rfl h
  · replace h := h.2 c1
    refine jv_iload_n dX8_count_55 rfl ?_
    refine jv_aload_n dX8_count_56 rfl ?_
    refine gf_8_19 rfl dX8_count_57 kd_c_137 (lt_c 137 rfl) rf_c_137_4 ?_
    refine jv_iload_n dX8_count_60 rfl ?_
    obtain ⟨b3, h⟩ := h
    refine jm_iaload dX8_count_61 kd_c_141 (lt_c 141 rfl) b3 ?_
    refine jv_iadd dX8_count_62 ?_
    generalize hhi2_1 : i2 + (u 141 i3.toNatClampNeg) = i2_1
    replace h := h i2_1 hhi2_1.symm
    refine jv_istore_n (ls' := [some (.ref 137), some (.int a1), some (.int i2_1), some (.int i3)]) dX8_count_63 (Nat.le_of_ble_eq_true rfl) rfl ?_
    refine jv_iinc (v := i3 + 1) (ls' := [some (.ref 137), some (.int a1), some (.int i2_1), some (.int (i3 + 1))]) dX8_count_64 (Nat.le_of_ble_eq_true rfl) rfl (by rw [ci_iconst_1]) rfl ?_
    refine jv_goto (t := 47) dX8_count_67 rfl ?_
    exact h
theorem g_X8_count_89 {E : JE} {u : JM} {K : Int32 → JM → Prop}  {a1 i2 i3 : Int32}
    (h : ((8 ≤ i3 → K i2 u) ∧
 (¬ 8 ≤ i3 → JCi E 3 YX8_knows [.ref 137, .int i3, .int 0] (fun x1 u1 =>
  JVi E 4 YX8_count K 89 [some (.ref 137), some (.int a1), some (.int (i2 + x1)), some (.int (i3 + 1))] [] u1) u)))
    : JVi E 4 YX8_count K 89 [some (.ref 137), some (.int a1), some (.int i2), some (.int i3)] [] u := by
  refine jv_iload_n dX8_count_89 rfl ?_
  refine jv_bipush dX8_count_90 ci_bipush_8 ?_
  refine jv_icmp_ge (t := 110) dX8_count_92 rfl (fun c1 => ?_) (fun c1 => ?_)
  · replace h := h.1 c1
    refine jv_iload_n dX8_count_110 rfl ?_
    exact jm_ireturn dX8_count_111 rfl h
  · replace h := h.2 c1
    refine jv_iload_n dX8_count_95 rfl ?_
    refine jv_aload_n dX8_count_96 rfl ?_
    refine jv_iload_n dX8_count_97 rfl ?_
    refine jv_iconst dX8_count_98 ci_iconst_0 ?_
    refine jm_callVi [.int i3, .int 0] cw_8_165 dX8_count_99 rfl (Nat.le_of_ble_eq_true rfl) kd_c_137 (r := (RX8, TX8, 48)) rfl rfl (lt_c 137 rfl) (Nat.le_of_ble_eq_true rfl) (JCi.mono h (fun x1 u1 h => ?_))
    refine jv_iadd dX8_count_102 ?_
    refine jv_istore_n (ls' := [some (.ref 137), some (.int a1), some (.int (i2 + x1)), some (.int i3)]) dX8_count_103 (Nat.le_of_ble_eq_true rfl) rfl ?_
    refine jv_iinc (v := i3 + 1) (ls' := [some (.ref 137), some (.int a1), some (.int (i2 + x1)), some (.int (i3 + 1))]) dX8_count_104 (Nat.le_of_ble_eq_true rfl) rfl (by rw [ci_iconst_1]) rfl ?_
    refine jv_goto (t := 89) dX8_count_107 rfl ?_
    exact h
theorem g_X8_isSheet_0 {E : JE} {u : JM} {K : Int32 → JM → Prop}  {a1 : Int32}
    (h : ((jb (rg a1 (0 : Int32).toInt (3 : Int32).toInt) = 0 ∨ jb (rg a1 (0 : Int32).toInt (3 : Int32).toInt) = 1) ∧ K (jb (rg a1 (0 : Int32).toInt (3 : Int32).toInt)) u))
    : JVi E 2 YX8_isSheet K 0 [some (.int a1)] [] u := by
  refine jv_iload_n dX8_isSheet_0 rfl ?_
  refine jv_iconst dX8_isSheet_1 ci_iconst_0 ?_
  refine jv_iconst dX8_isSheet_2 ci_iconst_3 ?_
  refine jm_callSi [.int a1, .int 0, .int 3] cw_8_125 dX8_isSheet_3 rfl (Nat.le_of_ble_eq_true rfl) (Nat.le_of_ble_eq_true rfl) (p_X8_in  ?_)
  exact jm_zreturn dX8_isSheet_6 rfl h.1 h.2
theorem g_X8_sheet_0 {E : JE} {u : JM} {K : Int32 → JM → Prop}  {a1 a2 a3 : Int32}
    (h : JCi E 2 YX8_isSheet [.int a1] (fun x1 u1 =>
 ((x1 = 0 → K (-2) u1) ∧
  (¬ x1 = 0 → (((jb (rg a2 ((-1) : Int32).toInt (1 : Int32).toInt)) = 0 → K (-2) u1) ∧
   (¬ (jb (rg a2 ((-1) : Int32).toInt (1 : Int32).toInt)) = 0 → ((a2 < 0 → ((a2 < 0 → vp_in a1 4 ∧
      ∀ u2, u2 = jw u1 3763 a1.toNatClampNeg a2 →
      ∀ v_3 : Int32, v_3 = (if 0 ≤ a2 then a3 else 0) →
      ∀ u4, u4 = jw u2 3764 a1.toNatClampNeg v_3 →
      JVi E 3 YX8_sheet K 65 [some (.ref 137), some (.int a1), some (.int a2), some (.int a3), some (.int 0)] [] u4) ∧
     (¬ a2 < 0 → ((0 ≤ a3 → vp_in a1 4 ∧
       ∀ u5, u5 = jw u1 3763 a1.toNatClampNeg a2 →
       ∀ v_6 : Int32, v_6 = (if 0 ≤ a2 then a3 else 0) →
       ∀ u7, u7 = jw u5 3764 a1.toNatClampNeg v_6 →
       JVi E 3 YX8_sheet K 65 [some (.ref 137), some (.int a1), some (.int a2), some (.int a3), some (.int 0)] [] u7) ∧
      (¬ 0 ≤ a3 → K (-14) u1))))) ∧
    (¬ a2 < 0 → ((a3 ≤ 40 → ((a2 < 0 → vp_in a1 4 ∧
       ∀ u8, u8 = jw u1 3763 a1.toNatClampNeg a2 →
       ∀ v_9 : Int32, v_9 = (if 0 ≤ a2 then a3 else 0) →
       ∀ u10, u10 = jw u8 3764 a1.toNatClampNeg v_9 →
       JVi E 3 YX8_sheet K 65 [some (.ref 137), some (.int a1), some (.int a2), some (.int a3), some (.int 0)] [] u10) ∧
      (¬ a2 < 0 → ((0 ≤ a3 → vp_in a1 4 ∧
        ∀ u11, u11 = jw u1 3763 a1.toNatClampNeg a2 →
        ∀ v_12 : Int32, v_12 = (if 0 ≤ a2 then a3 else 0) →
        ∀ u13, u13 = jw u11 3764 a1.toNatClampNeg v_12 →
        JVi E 3 YX8_sheet K 65 [some (.ref 137), some (.int a1), some (.int a2), some (.int a3), some (.int 0)] [] u13) ∧
       (¬ 0 ≤ a3 → K (-14) u1))))) ∧
     (¬ a3 ≤ 40 → K (-2) u1))))))))) u)
    : JVi E 3 YX8_sheet K 0 [some (.ref 137), some (.int a1), some (.int a2), some (.int a3), none] [] u := by
  refine jv_iload_n dX8_sheet_0 rfl ?_
  refine jm_callSi [.int a1] cw_8_301 dX8_sheet_1 rfl (Nat.le_of_ble_eq_true rfl) (Nat.le_of_ble_eq_true rfl) (JCi.mono h (fun x1 u1 h => ?_))
  refine jv_if_eq (t := 26) dX8_sheet_4 rfl (fun c1 => ?_) (fun c1 => ?_)
  · replace h := h.1 c1
    refine jv_bipush dX8_sheet_26 ci_bipush_m2 ?_
    exact jm_ireturn dX8_sheet_28 rfl h
  · replace h := h.2 c1
    refine jv_iload_n dX8_sheet_7 rfl ?_
    refine jv_iconst dX8_sheet_8 ci_iconst_m1 ?_
    refine jv_iconst dX8_sheet_9 ci_iconst_1 ?_
    refine jm_callSi [.int a2, .int (-1), .int 1] cw_8_125 dX8_sheet_10 rfl (Nat.le_of_ble_eq_true rfl) (Nat.le_of_ble_eq_true rfl) (p_X8_in  ?_)
    refine jv_if_eq (t := 26) dX8_sheet_13 rfl (fun c2 => ?_) (fun c2 => ?_)
    · replace h := h.1 c2
      refine jv_bipush dX8_sheet_26 ci_bipush_m2 ?_
      exact jm_ireturn dX8_sheet_28 rfl h
    · replace h := h.2 c2
      refine jv_iload_n dX8_sheet_16 rfl ?_
      refine jv_if_lt (t := 29) dX8_sheet_17 rfl (fun c3 => ?_) (fun c3 => ?_)
      · replace h := h.1 c3
        refine jv_iload_n dX8_sheet_29 rfl ?_
        refine jv_if_lt (t := 40) dX8_sheet_30 rfl (fun c4 => ?_) (fun c4 => ?_)
        · replace h := h.1 c4
          refine jv_aload_n dX8_sheet_40 rfl ?_
          refine gf_8_113 rfl dX8_sheet_41 kd_c_137 (lt_c 137 rfl) rf_c_137_44 ?_
          refine jv_iload_n dX8_sheet_44 rfl ?_
          refine jv_iload_n dX8_sheet_45 rfl ?_
          obtain ⟨b5, h⟩ := h
          refine jm_iastore dX8_sheet_46 kd_c_3763 (lt_c 3763 rfl) b5 ?_
          generalize hhu2 : jw u1 3763 a1.toNatClampNeg a2 = u2
          replace h := h u2 hhu2.symm
          refine jv_aload_n dX8_sheet_47 rfl ?_
          refine gf_8_116 rfl dX8_sheet_48 kd_c_137 (lt_c 137 rfl) rf_c_137_45 ?_
          refine jv_iload_n dX8_sheet_51 rfl ?_
          refine jv_iload_n dX8_sheet_52 rfl ?_
          have key7 : ∀ v_3 : Int32, v_3 = (if 0 ≤ a2 then a3 else 0) → JVi E 3 YX8_sheet K 61 [some (.ref 137), some (.int a1), some (.int a2), some (.int a3), none] [.int v_3, .int a1, .ref 3764] u2 := by
            intro v_3 hv_3
            replace h := h v_3 hv_3
            refine jm_iastore dX8_sheet_61 kd_c_3764 (lt_c 3764 rfl) b5 ?_
            generalize hhu4 : jw u2 3764 a1.toNatClampNeg v_3 = u4
            replace h := h u4 hhu4.symm
            refine jv_iconst dX8_sheet_62 ci_iconst_0 ?_
            refine jv_istore (ls' := [some (.ref 137), some (.int a1), some (.int a2), some (.int a3), some (.int 0)]) dX8_sheet_63 (Nat.le_of_ble_eq_true rfl) rfl ?_
            exact h
          clear h
          refine jv_if_ge (t := 60) dX8_sheet_53 rfl (fun c8 => ?_) (fun c8 => ?_)
          · refine jv_iload_n dX8_sheet_60 rfl ?_
            exact key7 _ (Eq.trans rfl (if_pos c8).symm)
          · refine jv_iconst dX8_sheet_56 ci_iconst_0 ?_
            refine jv_goto (t := 61) dX8_sheet_57 rfl ?_
            exact key7 _ (Eq.trans rfl (if_neg c8).symm)
        · replace h := h.2 c4
          refine jv_iload_n dX8_sheet_33 rfl ?_
          refine jv_if_ge (t := 40) dX8_sheet_34 rfl (fun c9 => ?_) (fun c9 => ?_)
          · replace h := h.1 c9
            refine jv_aload_n dX8_sheet_40 rfl ?_
            refine gf_8_113 rfl dX8_sheet_41 kd_c_137 (lt_c 137 rfl) rf_c_137_44 ?_
            refine jv_iload_n dX8_sheet_44 rfl ?_
            refine jv_iload_n dX8_sheet_45 rfl ?_
            obtain ⟨b10, h⟩ := h
            refine jm_iastore dX8_sheet_46 kd_c_3763 (lt_c 3763 rfl) b10 ?_
            generalize hhu5 : jw u1 3763 a1.toNatClampNeg a2 = u5
            replace h := h u5 hhu5.symm
            refine jv_aload_n dX8_sheet_47 rfl ?_
            refine gf_8_116 rfl dX8_sheet_48 kd_c_137 (lt_c 137 rfl) rf_c_137_45 ?_
            refine jv_iload_n dX8_sheet_51 rfl ?_
            refine jv_iload_n dX8_sheet_52 rfl ?_
            have key12 : ∀ v_6 : Int32, v_6 = (if 0 ≤ a2 then a3 else 0) → JVi E 3 YX8_sheet K 61 [some (.ref 137), some (.int a1), some (.int a2), some (.int a3), none] [.int v_6, .int a1, .ref 3764] u5 := by
              intro v_6 hv_6
              replace h := h v_6 hv_6
              refine jm_iastore dX8_sheet_61 kd_c_3764 (lt_c 3764 rfl) b10 ?_
              generalize hhu7 : jw u5 3764 a1.toNatClampNeg v_6 = u7
              replace h := h u7 hhu7.symm
              refine jv_iconst dX8_sheet_62 ci_iconst_0 ?_
              refine jv_istore (ls' := [some (.ref 137), some (.int a1), some (.int a2), some (.int a3), some (.int 0)]) dX8_sheet_63 (Nat.le_of_ble_eq_true rfl) rfl ?_
              exact h
            clear h
            refine jv_if_ge (t := 60) dX8_sheet_53 rfl (fun c13 => ?_) (fun c13 => ?_)
            · refine jv_iload_n dX8_sheet_60 rfl ?_
              exact key12 _ (Eq.trans rfl (if_pos c13).symm)
            · refine jv_iconst dX8_sheet_56 ci_iconst_0 ?_
              refine jv_goto (t := 61) dX8_sheet_57 rfl ?_
              exact key12 _ (Eq.trans rfl (if_neg c13).symm)
          · replace h := h.2 c9
            refine jv_bipush dX8_sheet_37 ci_bipush_m14 ?_
            exact jm_ireturn dX8_sheet_39 rfl h
      · replace h := h.2 c3
        refine jv_iload_n dX8_sheet_20 rfl ?_
        refine jv_bipush dX8_sheet_21 ci_bipush_40 ?_
        refine jv_icmp_le (t := 29) dX8_sheet_23 rfl (fun c14 => ?_) (fun c14 => ?_)
        · replace h := h.1 c14
          refine jv_iload_n dX8_sheet_29 rfl ?_
          refine jv_if_lt (t := 40) dX8_sheet_30 rfl (fun c15 => ?_) (fun c15 => ?_)
          · replace h := h.1 c15
            refine jv_aload_n dX8_sheet_40 rfl ?_
            refine gf_8_113 rfl dX8_sheet_41 kd_c_137 (lt_c 137 rfl) rf_c_137_44 ?_
            refine jv_iload_n dX8_sheet_44 rfl ?_
            refine jv_iload_n dX8_sheet_45 rfl ?_
            obtain ⟨b16, h⟩ := h
            refine jm_iastore dX8_sheet_46 kd_c_3763 (lt_c 3763 rfl) b16 ?_
            generalize hhu8 : jw u1 3763 a1.toNatClampNeg a2 = u8
            replace h := h u8 hhu8.symm
            refine jv_aload_n dX8_sheet_47 rfl ?_
            refine gf_8_116 rfl dX8_sheet_48 kd_c_137 (lt_c 137 rfl) rf_c_137_45 ?_
            refine jv_iload_n dX8_sheet_51 rfl ?_
            refine jv_iload_n dX8_sheet_52 rfl ?_
            have key18 : ∀ v_9 : Int32, v_9 = (if 0 ≤ a2 then a3 else 0) → JVi E 3 YX8_sheet K 61 [some (.ref 137), some (.int a1), some (.int a2), some (.int a3), none] [.int v_9, .int a1, .ref 3764] u8 := by
              intro v_9 hv_9
              replace h := h v_9 hv_9
              refine jm_iastore dX8_sheet_61 kd_c_3764 (lt_c 3764 rfl) b16 ?_
              generalize hhu10 : jw u8 3764 a1.toNatClampNeg v_9 = u10
              replace h := h u10 hhu10.symm
              refine jv_iconst dX8_sheet_62 ci_iconst_0 ?_
              refine jv_istore (ls' := [some (.ref 137), some (.int a1), some (.int a2), some (.int a3), some (.int 0)]) dX8_sheet_63 (Nat.le_of_ble_eq_true rfl) rfl ?_
              exact h
            clear h
            refine jv_if_ge (t := 60) dX8_sheet_53 rfl (fun c19 => ?_) (fun c19 => ?_)
            · refine jv_iload_n dX8_sheet_60 rfl ?_
              exact key18 _ (Eq.trans rfl (if_pos c19).symm)
            · refine jv_iconst dX8_sheet_56 ci_iconst_0 ?_
              refine jv_goto (t := 61) dX8_sheet_57 rfl ?_
              exact key18 _ (Eq.trans rfl (if_neg c19).symm)
          · replace h := h.2 c15
            refine jv_iload_n dX8_sheet_33 rfl ?_
            refine jv_if_ge (t := 40) dX8_sheet_34 rfl (fun c20 => ?_) (fun c20 => ?_)
            · replace h := h.1 c20
              refine jv_aload_n dX8_sheet_40 rfl ?_
              refine gf_8_113 rfl dX8_sheet_41 kd_c_137 (lt_c 137 rfl) rf_c_137_44 ?_
              refine jv_iload_n dX8_sheet_44 rfl ?_
              refine jv_iload_n dX8_sheet_45 rfl ?_
              obtain ⟨b21, h⟩ := h
              refine jm_iastore dX8_sheet_46 kd_c_3763 (lt_c 3763 rfl) b21 ?_
              generalize hhu11 : jw u1 3763 a1.toNatClampNeg a2 = u11
              replace h := h u11 hhu11.symm
              refine jv_aload_n dX8_sheet_47 rfl ?_
              refine gf_8_116 rfl dX8_sheet_48 kd_c_137 (lt_c 137 rfl) rf_c_137_45 ?_
              refine jv_iload_n dX8_sheet_51 rfl ?_
              refine jv_iload_n dX8_sheet_52 rfl ?_
              have key23 : ∀ v_12 : Int32, v_12 = (if 0 ≤ a2 then a3 else 0) → JVi E 3 YX8_sheet K 61 [some (.ref 137), some (.int a1), some (.int a2), some (.int a3), none] [.int v_12, .int a1, .ref 3764] u11 := by
                intro v_12 hv_12
                replace h := h v_12 hv_12
                refine jm_iastore dX8_sheet_61 kd_c_3764 (lt_c 3764 rfl) b21 ?_
                generalize hhu13 : jw u11 3764 a1.toNatClampNeg v_12 = u13
                replace h := h u13 hhu13.symm
                refine jv_iconst dX8_sheet_62 ci_iconst_0 ?_
                refine jv_istore (ls' := [some (.ref 137), some (.int a1), some (.int a2), some (.int a3), some (.int 0)]) dX8_sheet_63 (Nat.le_of_ble_eq_true rfl) rfl ?_
                exact h
              clear h
              refine jv_if_ge (t := 60) dX8_sheet_53 rfl (fun c24 => ?_) (fun c24 => ?_)
              · refine jv_iload_n dX8_sheet_60 rfl ?_
                exact key23 _ (Eq.trans rfl (if_pos c24).symm)
              · refine jv_iconst dX8_sheet_56 ci_iconst_0 ?_
                refine jv_goto (t := 61) dX8_sheet_57 rfl ?_
                exact key23 _ (Eq.trans rfl (if_neg c24).symm)
            · replace h := h.2 c20
              refine jv_bipush dX8_sheet_37 ci_bipush_m14 ?_
              exact jm_ireturn dX8_sheet_39 rfl h
        · replace h := h.2 c14
          refine jv_bipush dX8_sheet_26 ci_bipush_m2 ?_
          exact jm_ireturn dX8_sheet_28 rfl h
theorem g_X8_sheet_65 {E : JE} {u : JM} {K : Int32 → JM → Prop}  {a1 a2 a3 i4 : Int32}
    (h : ((40 ≤ i4 → K 1 u) ∧
 (¬ 40 ≤ i4 → vp_in a1 4 ∧
  vp_in i4 40 ∧
  ∀ u1, u1 = jw u (3766 + a1.toNatClampNeg) i4.toNatClampNeg 0 →
  JVi E 3 YX8_sheet K 65 [some (.ref 137), some (.int a1), some (.int a2), some (.int a3), some (.int (i4 + 1))] [] u1)))
    : JVi E 3 YX8_sheet K 65 [some (.ref 137), some (.int a1), some (.int a2), some (.int a3), some (.int i4)] [] u := by
  refine jv_iload dX8_sheet_65 rfl ?_
  refine jv_bipush dX8_sheet_67 ci_bipush_40 ?_
  refine jv_icmp_ge (t := 88) dX8_sheet_69 rfl (fun c1 => ?_) (fun c1 => ?_)
  · replace h := h.1 c1
    refine jv_iconst dX8_sheet_88 ci_iconst_1 ?_
    exact jm_ireturn dX8_sheet_89 rfl h
  · replace h := h.2 c1
    refine jv_aload_n dX8_sheet_72 rfl ?_
    refine gf_8_119 rfl dX8_sheet_73 kd_c_137 (lt_c 137 rfl) rf_c_137_46 ?_
    refine jv_iload_n dX8_sheet_76 rfl ?_
    obtain ⟨b3, h⟩ := h
    refine jm_aaload1 dX8_sheet_77 kd_c_3765 (lt_c 3765 rfl) b3 (rf_r_3765 _) ?_
    refine jv_iload dX8_sheet_78 rfl ?_
    refine jv_iconst dX8_sheet_80 ci_iconst_0 ?_
    obtain ⟨b4, h⟩ := h
    refine jm_iastore dX8_sheet_81 (kd_r_3765 (vp_lt b3)) (lt_r_3765 (vp_lt b3)) b4 ?_
    generalize hhu1 : jw u (3766 + a1.toNatClampNeg) i4.toNatClampNeg 0 = u1
    replace h := h u1 hhu1.symm
    refine jv_iinc (v := i4 + 1) (ls' := [some (.ref 137), some (.int a1), some (.int a2), some (.int a3), some (.int (i4 + 1))]) dX8_sheet_82 (Nat.le_of_ble_eq_true rfl) rfl (by rw [ci_iconst_1]) rfl ?_
    refine jv_goto (t := 65) dX8_sheet_85 rfl ?_
    exact h
theorem g_X8_cell_0 {E : JE} {u : JM} {K : Int32 → JM → Prop}  {a1 a2 a3 : Int32}
    (h : JCi E 2 YX8_isSheet [.int a1] (fun x1 u1 =>
 ((¬ x1 = 0 → vp_in a1 4 ∧
   ((0 ≤ (u1 3763 a1.toNatClampNeg) → ((¬ (jb (rg a2 (0 : Int32).toInt ((u1 3764 a1.toNatClampNeg) - 1).toInt)) = 0 → ∀ v_2 : Int32, v_2 = (if (u1 3763 a1.toNatClampNeg) = 0 then a3.toInt16.toInt32 else a3) →
     vp_in a2 40 ∧
     ∀ u3, u3 = jw u1 (3766 + a1.toNatClampNeg) a2.toNatClampNeg v_2 →
     K 1 u3) ∧
    ((jb (rg a2 (0 : Int32).toInt ((u1 3764 a1.toNatClampNeg) - 1).toInt)) = 0 → K (-12) u1))) ∧
   (¬ 0 ≤ (u1 3763 a1.toNatClampNeg) → K (-11) u1))) ∧
  (x1 = 0 → K (-2) u1))) u)
    : JVi E 3 YX8_cell K 0 [some (.ref 137), some (.int a1), some (.int a2), some (.int a3)] [] u := by
  refine jv_iload_n dX8_cell_0 rfl ?_
  refine jm_callSi [.int a1] cw_8_301 dX8_cell_1 rfl (Nat.le_of_ble_eq_true rfl) (Nat.le_of_ble_eq_true rfl) (JCi.mono h (fun x1 u1 h => ?_))
  refine jv_if_ne (t := 10) dX8_cell_4 rfl (fun c1 => ?_) (fun c1 => ?_)
  · replace h := h.1 c1
    refine jv_aload_n dX8_cell_10 rfl ?_
    refine gf_8_113 rfl dX8_cell_11 kd_c_137 (lt_c 137 rfl) rf_c_137_44 ?_
    refine jv_iload_n dX8_cell_14 rfl ?_
    obtain ⟨b2, h⟩ := h
    refine jm_iaload dX8_cell_15 kd_c_3763 (lt_c 3763 rfl) b2 ?_
    refine jv_if_ge (t := 22) dX8_cell_16 rfl (fun c3 => ?_) (fun c3 => ?_)
    · replace h := h.1 c3
      refine jv_iload_n dX8_cell_22 rfl ?_
      refine jv_iconst dX8_cell_23 ci_iconst_0 ?_
      refine jv_aload_n dX8_cell_24 rfl ?_
      refine gf_8_116 rfl dX8_cell_25 kd_c_137 (lt_c 137 rfl) rf_c_137_45 ?_
      refine jv_iload_n dX8_cell_28 rfl ?_
      refine jm_iaload dX8_cell_29 kd_c_3764 (lt_c 3764 rfl) b2 ?_
      refine jv_iconst dX8_cell_30 ci_iconst_1 ?_
      refine jv_isub dX8_cell_31 ?_
      refine jm_callSi [.int a2, .int 0, .int ((u1 3764 a1.toNatClampNeg) - 1)] cw_8_125 dX8_cell_32 rfl (Nat.le_of_ble_eq_true rfl) (Nat.le_of_ble_eq_true rfl) (p_X8_in  ?_)
      refine jv_if_ne (t := 41) dX8_cell_35 rfl (fun c4 => ?_) (fun c4 => ?_)
      · replace h := h.1 c4
        refine jv_aload_n dX8_cell_41 rfl ?_
        refine gf_8_119 rfl dX8_cell_42 kd_c_137 (lt_c 137 rfl) rf_c_137_46 ?_
        refine jv_iload_n dX8_cell_45 rfl ?_
        refine jm_aaload1 dX8_cell_46 kd_c_3765 (lt_c 3765 rfl) b2 (rf_r_3765 _) ?_
        refine jv_iload_n dX8_cell_47 rfl ?_
        refine jv_aload_n dX8_cell_48 rfl ?_
        refine gf_8_113 rfl dX8_cell_49 kd_c_137 (lt_c 137 rfl) rf_c_137_44 ?_
        refine jv_iload_n dX8_cell_52 rfl ?_
        refine jm_iaload dX8_cell_53 kd_c_3763 (lt_c 3763 rfl) b2 ?_
        have key7 : ∀ v_2 : Int32, v_2 = (if (u1 3763 a1.toNatClampNeg) = 0 then a3.toInt16.toInt32 else a3) → JVi E 3 YX8_cell K 63 [some (.ref 137), some (.int a1), some (.int a2), some (.int a3)] [.int v_2, .int a2, .ref (3766 + a1.toNatClampNeg)] u1 := by
          intro v_2 hv_2
          replace h := h v_2 hv_2
          obtain ⟨b6, h⟩ := h
          refine jm_iastore dX8_cell_63 (kd_r_3765 (vp_lt b2)) (lt_r_3765 (vp_lt b2)) b6 ?_
          generalize hhu3 : jw u1 (3766 + a1.toNatClampNeg) a2.toNatClampNeg v_2 = u3
          replace h := h u3 hhu3.symm
          refine jv_iconst dX8_cell_64 ci_iconst_1 ?_
          exact jm_ireturn dX8_cell_65 rfl h
        clear h
        refine jv_if_ne (t := 62) dX8_cell_54 rfl (fun c8 => ?_) (fun c8 => ?_)
        · refine jv_iload_n dX8_cell_62 rfl ?_
          exact key7 _ (Eq.trans rfl (if_neg c8).symm)
        · refine jv_iload_n dX8_cell_57 rfl ?_
          refine jv_i2s dX8_cell_58 ?_
          refine jv_goto (t := 63) dX8_cell_59 rfl ?_
          exact key7 _ (Eq.trans rfl (if_pos c8).symm)
      · replace h := h.2 c4
        refine jv_bipush dX8_cell_38 ci_bipush_m12 ?_
        exact jm_ireturn dX8_cell_40 rfl h
    · replace h := h.2 c3
      refine jv_bipush dX8_cell_19 ci_bipush_m11 ?_
      exact jm_ireturn dX8_cell_21 rfl h
  · replace h := h.2 c1
    refine jv_bipush dX8_cell_7 ci_bipush_m2 ?_
    exact jm_ireturn dX8_cell_9 rfl h
theorem g_X8_copy_0 {E : JE} {u : JM} {K : Int32 → JM → Prop}  {a1 a2 a3 a4 a5 : Int32}
    (h : JCi E 2 YX8_isSheet [.int a1] (fun x1 u1 =>
 ((x1 = 0 → K (-2) u1) ∧
  (¬ x1 = 0 → JCi E 2 YX8_isSheet [.int a3] (fun x2 u2 =>
   ((¬ x2 = 0 → vp_in a1 4 ∧
     (((u2 3763 a1.toNatClampNeg) < 0 → K (-11) u2) ∧
     (¬ (u2 3763 a1.toNatClampNeg) < 0 → vp_in a3 4 ∧
      ((0 ≤ (u2 3763 a3.toNatClampNeg) → (((u2 3763 a1.toNatClampNeg) = (u2 3763 a3.toNatClampNeg) → ((a5 < 0 → K (-12) u2) ∧
        (¬ a5 < 0 → ((a2 < 0 → K (-12) u2) ∧
         (¬ a2 < 0 → ((a4 < 0 → K (-12) u2) ∧
          (¬ a4 < 0 → ((((u2 3764 a1.toNatClampNeg) - a5) < a2 → K (-12) u2) ∧
           (¬ ((u2 3764 a1.toNatClampNeg) - a5) < a2 → ((a4 ≤ ((u2 3764 a3.toNatClampNeg) - a5) → (¬ a2 < 0 ∧ ¬ (0 : Int32) < 0 ∧ ¬ a5 < 0 ∧ a2.toNatClampNeg + a5.toNatClampNeg ≤ 40 ∧ (0 : Int32).toNatClampNeg + a5.toNatClampNeg ≤ 40) ∧
             ∀ u3, u3 = jcp u2 (3766 + a1.toNatClampNeg) a2.toNatClampNeg 3770 (0 : Int32).toNatClampNeg a5.toNatClampNeg →
             (¬ (0 : Int32) < 0 ∧ ¬ a4 < 0 ∧ ¬ a5 < 0 ∧ (0 : Int32).toNatClampNeg + a5.toNatClampNeg ≤ 40 ∧ a4.toNatClampNeg + a5.toNatClampNeg ≤ 40) ∧
             ∀ u4, u4 = jcp u3 3770 (0 : Int32).toNatClampNeg (3766 + a3.toNatClampNeg) a4.toNatClampNeg a5.toNatClampNeg →
             K a5 u4) ∧
            (¬ a4 ≤ ((u2 3764 a3.toNatClampNeg) - a5) → K (-12) u2))))))))))) ∧
       (¬ (u2 3763 a1.toNatClampNeg) = (u2 3763 a3.toNatClampNeg) → K (-13) u2))) ∧
      (¬ 0 ≤ (u2 3763 a3.toNatClampNeg) → K (-11) u2))))) ∧
    (x2 = 0 → K (-2) u2))) u1))) u)
    : JVi E 3 YX8_copy K 0 [some (.ref 137), some (.int a1), some (.int a2), some (.int a3), some (.int a4), some (.int a5)] [] u := by
  refine jv_iload_n dX8_copy_0 rfl ?_
  refine jm_callSi [.int a1] cw_8_301 dX8_copy_1 rfl (Nat.le_of_ble_eq_true rfl) (Nat.le_of_ble_eq_true rfl) (JCi.mono h (fun x1 u1 h => ?_))
  refine jv_if_eq (t := 14) dX8_copy_4 rfl (fun c1 => ?_) (fun c1 => ?_)
  · replace h := h.1 c1
    refine jv_bipush dX8_copy_14 ci_bipush_m2 ?_
    exact jm_ireturn dX8_copy_16 rfl h
  · replace h := h.2 c1
    refine jv_iload_n dX8_copy_7 rfl ?_
    refine jm_callSi [.int a3] cw_8_301 dX8_copy_8 rfl (Nat.le_of_ble_eq_true rfl) (Nat.le_of_ble_eq_true rfl) (JCi.mono h (fun x2 u2 h => ?_))
    refine jv_if_ne (t := 17) dX8_copy_11 rfl (fun c2 => ?_) (fun c2 => ?_)
    · replace h := h.1 c2
      refine jv_aload_n dX8_copy_17 rfl ?_
      refine gf_8_113 rfl dX8_copy_18 kd_c_137 (lt_c 137 rfl) rf_c_137_44 ?_
      refine jv_iload_n dX8_copy_21 rfl ?_
      obtain ⟨b3, h⟩ := h
      refine jm_iaload dX8_copy_22 kd_c_3763 (lt_c 3763 rfl) b3 ?_
      refine jv_if_lt (t := 35) dX8_copy_23 rfl (fun c4 => ?_) (fun c4 => ?_)
      · replace h := h.1 c4
        refine jv_bipush dX8_copy_35 ci_bipush_m11 ?_
        exact jm_ireturn dX8_copy_37 rfl h
      · replace h := h.2 c4
        refine jv_aload_n dX8_copy_26 rfl ?_
        refine gf_8_113 rfl dX8_copy_27 kd_c_137 (lt_c 137 rfl) rf_c_137_44 ?_
        refine jv_iload_n dX8_copy_30 rfl ?_
        obtain ⟨b5, h⟩ := h
        refine jm_iaload dX8_copy_31 kd_c_3763 (lt_c 3763 rfl) b5 ?_
        refine jv_if_ge (t := 38) dX8_copy_32 rfl (fun c6 => ?_) (fun c6 => ?_)
        · replace h := h.1 c6
          refine jv_aload_n dX8_copy_38 rfl ?_
          refine gf_8_113 rfl dX8_copy_39 kd_c_137 (lt_c 137 rfl) rf_c_137_44 ?_
          refine jv_iload_n dX8_copy_42 rfl ?_
          refine jm_iaload dX8_copy_43 kd_c_3763 (lt_c 3763 rfl) b3 ?_
          refine jv_aload_n dX8_copy_44 rfl ?_
          refine gf_8_113 rfl dX8_copy_45 kd_c_137 (lt_c 137 rfl) rf_c_137_44 ?_
          refine jv_iload_n dX8_copy_48 rfl ?_
          refine jm_iaload dX8_copy_49 kd_c_3763 (lt_c 3763 rfl) b5 ?_
          refine jv_icmp_eq (t := 56) dX8_copy_50 rfl (fun c7 => ?_) (fun c7 => ?_)
          · replace h := h.1 c7
            refine jv_iload dX8_copy_56 rfl ?_
            refine jv_if_lt (t := 97) dX8_copy_58 rfl (fun c8 => ?_) (fun c8 => ?_)
            · replace h := h.1 c8
              refine jv_bipush dX8_copy_97 ci_bipush_m12 ?_
              exact jm_ireturn dX8_copy_99 rfl h
            · replace h := h.2 c8
              refine jv_iload_n dX8_copy_61 rfl ?_
              refine jv_if_lt (t := 97) dX8_copy_62 rfl (fun c9 => ?_) (fun c9 => ?_)
              · replace h := h.1 c9
                refine jv_bipush dX8_copy_97 ci_bipush_m12 ?_
                exact jm_ireturn dX8_copy_99 rfl h
              · replace h := h.2 c9
                refine jv_iload dX8_copy_65 rfl ?_
                refine jv_if_lt (t := 97) dX8_copy_67 rfl (fun c10 => ?_) (fun c10 => ?_)
                · replace h := h.1 c10
                  refine jv_bipush dX8_copy_97 ci_bipush_m12 ?_
                  exact jm_ireturn dX8_copy_99 rfl h
                · replace h := h.2 c10
                  refine jv_iload_n dX8_copy_70 rfl ?_
                  refine jv_aload_n dX8_copy_71 rfl ?_
                  refine gf_8_116 rfl dX8_copy_72 kd_c_137 (lt_c 137 rfl) rf_c_137_45 ?_
                  refine jv_iload_n dX8_copy_75 rfl ?_
                  refine jm_iaload dX8_copy_76 kd_c_3764 (lt_c 3764 rfl) b3 ?_
                  refine jv_iload dX8_copy_77 rfl ?_
                  refine jv_isub dX8_copy_79 ?_
                  refine jv_icmp_gt (t := 97) dX8_copy_80 rfl (fun c11 => ?_) (fun c11 => ?_)
                  · replace h := h.1 c11
                    refine jv_bipush dX8_copy_97 ci_bipush_m12 ?_
                    exact jm_ireturn dX8_copy_99 rfl h
                  · replace h := h.2 c11
                    refine jv_iload dX8_copy_83 rfl ?_
                    refine jv_aload_n dX8_copy_85 rfl ?_
                    refine gf_8_116 rfl dX8_copy_86 kd_c_137 (lt_c 137 rfl) rf_c_137_45 ?_
                    refine jv_iload_n dX8_copy_89 rfl ?_
                    refine jm_iaload dX8_copy_90 kd_c_3764 (lt_c 3764 rfl) b5 ?_
                    refine jv_iload dX8_copy_91 rfl ?_
                    refine jv_isub dX8_copy_93 ?_
                    refine jv_icmp_le (t := 100) dX8_copy_94 rfl (fun c12 => ?_) (fun c12 => ?_)
                    · replace h := h.1 c12
                      refine jv_aload_n dX8_copy_100 rfl ?_
                      refine gf_8_119 rfl dX8_copy_101 kd_c_137 (lt_c 137 rfl) rf_c_137_46 ?_
                      refine jv_iload_n dX8_copy_104 rfl ?_
                      refine jm_aaload1 dX8_copy_105 kd_c_3765 (lt_c 3765 rfl) b3 (rf_r_3765 _) ?_
                      refine jv_iload_n dX8_copy_106 rfl ?_
                      refine jv_aload_n dX8_copy_107 rfl ?_
                      refine gf_8_122 rfl dX8_copy_108 kd_c_137 (lt_c 137 rfl) rf_c_137_47 ?_
                      refine jv_iconst dX8_copy_111 ci_iconst_0 ?_
                      refine jv_iload dX8_copy_112 rfl ?_
                      obtain ⟨b13, h⟩ := h
                      refine jm_acopy ac_8_213 dX8_copy_114 (kd_r_3765 (vp_lt b3)) kd_c_3770 (lt_r_3765 (vp_lt b3)) (lt_c 3770 rfl) rfl (Nat.le_of_ble_eq_true rfl) (Nat.le_of_ble_eq_true rfl) b13.1 b13.2.1 b13.2.2.1 b13.2.2.2.1 b13.2.2.2.2 ?_
                      generalize hhu3 : jcp u2 (3766 + a1.toNatClampNeg) a2.toNatClampNeg 3770 (0 : Int32).toNatClampNeg a5.toNatClampNeg = u3
                      replace h := h u3 hhu3.symm
                      refine jv_aload_n dX8_copy_117 rfl ?_
                      refine gf_8_122 rfl dX8_copy_118 kd_c_137 (lt_c 137 rfl) rf_c_137_47 ?_
                      refine jv_iconst dX8_copy_121 ci_iconst_0 ?_
                      refine jv_aload_n dX8_copy_122 rfl ?_
                      refine gf_8_119 rfl dX8_copy_123 kd_c_137 (lt_c 137 rfl) rf_c_137_46 ?_
                      refine jv_iload_n dX8_copy_126 rfl ?_
                      refine jm_aaload1 dX8_copy_127 kd_c_3765 (lt_c 3765 rfl) b5 (rf_r_3765 _) ?_
                      refine jv_iload dX8_copy_128 rfl ?_
                      refine jv_iload dX8_copy_130 rfl ?_
                      obtain ⟨b14, h⟩ := h
                      refine jm_acopy ac_8_213 dX8_copy_132 kd_c_3770 (kd_r_3765 (vp_lt b5)) (lt_c 3770 rfl) (lt_r_3765 (vp_lt b5)) rfl (Nat.le_of_ble_eq_true rfl) (Nat.le_of_ble_eq_true rfl) b14.1 b14.2.1 b14.2.2.1 b14.2.2.2.1 b14.2.2.2.2 ?_
                      generalize hhu4 : jcp u3 3770 (0 : Int32).toNatClampNeg (3766 + a3.toNatClampNeg) a4.toNatClampNeg a5.toNatClampNeg = u4
                      replace h := h u4 hhu4.symm
                      refine jv_iload dX8_copy_135 rfl ?_
                      exact jm_ireturn dX8_copy_137 rfl h
                    · replace h := h.2 c12
                      refine jv_bipush dX8_copy_97 ci_bipush_m12 ?_
                      exact jm_ireturn dX8_copy_99 rfl h
          · replace h := h.2 c7
            refine jv_bipush dX8_copy_53 ci_bipush_m13 ?_
            exact jm_ireturn dX8_copy_55 rfl h
        · replace h := h.2 c6
          refine jv_bipush dX8_copy_35 ci_bipush_m11 ?_
          exact jm_ireturn dX8_copy_37 rfl h
    · replace h := h.2 c2
      refine jv_bipush dX8_copy_14 ci_bipush_m2 ?_
      exact jm_ireturn dX8_copy_16 rfl h
