/-! leaves: segments -/
theorem g_X1_has_0 {E : JE} {u : JM} {K : Int32 → JM → Prop} {N : Nat} (hN : isNet N) {a1 : Int32}
    (h : ((a1 < 0 → K 0 u) ∧
 (¬ a1 < 0 → (((u (N + 1) 0) ≤ a1 → K 0 u) ∧
  (¬ (u (N + 1) 0) ≤ a1 → K 1 u)))))
    : JVi E 1 YX1_has K 0 [some (.ref (N + 1)), some (.int a1)] [] u := by
  refine jv_iload_n dX1_has_0 rfl ?_
  refine jv_if_lt (t := 16) dX1_has_1 rfl (fun c1 => ?_) (fun c1 => ?_)
  · replace h := h.1 c1
    refine jv_iconst dX1_has_16 ci_iconst_0 ?_
    exact jm_zreturn dX1_has_17 rfl (Or.inl rfl) h
  · replace h := h.2 c1
    refine jv_iload_n dX1_has_4 rfl ?_
    refine jv_aload_n dX1_has_5 rfl ?_
    refine gf_1_34 rfl dX1_has_6 (kd_N_1 hN) (lt_N hN 1 rfl) ?_
    refine jv_icmp_ge (t := 16) dX1_has_9 rfl (fun c2 => ?_) (fun c2 => ?_)
    · replace h := h.1 c2
      refine jv_iconst dX1_has_16 ci_iconst_0 ?_
      exact jm_zreturn dX1_has_17 rfl (Or.inl rfl) h
    · replace h := h.2 c2
      refine jv_iconst dX1_has_12 ci_iconst_1 ?_
      refine jv_goto (t := 17) dX1_has_13 rfl ?_
      exact jm_zreturn dX1_has_17 rfl (Or.inr rfl) h
theorem g_X1_isUpAt_0 {E : JE} {u : JM} {K : Int32 → JM → Prop} {N : Nat} (hN : isNet N) {a1 a2 : Int32}
    (h : vp_in a1 12 ∧
 (((u (N + 7) a1.toNatClampNeg) = 0 → K 0 u) ∧
 (¬ (u (N + 7) a1.toNatClampNeg) = 0 → (((u (N + 2) a1.toNatClampNeg) = a2 → K 1 u) ∧
  (¬ (u (N + 2) a1.toNatClampNeg) = a2 → ((¬ (u (N + 3) a1.toNatClampNeg) = a2 → K 0 u) ∧
   ((u (N + 3) a1.toNatClampNeg) = a2 → K 1 u)))))))
    : JVi E 1 YX1_isUpAt K 0 [some (.ref (N + 1)), some (.int a1), some (.int a2)] [] u := by
  refine jv_aload_n dX1_isUpAt_0 rfl ?_
  refine gf_1_27 rfl dX1_isUpAt_1 (kd_N_1 hN) (lt_N hN 1 rfl) (rf_N_1_6 hN) ?_
  refine jv_iload_n dX1_isUpAt_4 rfl ?_
  obtain ⟨b1, h⟩ := h
  refine jm_baload dX1_isUpAt_5 (kd_N_7 hN) (lt_N hN 7 rfl) b1 ?_
  refine jv_if_eq (t := 33) dX1_isUpAt_6 rfl (fun c2 => ?_) (fun c2 => ?_)
  · replace h := h.1 c2
    refine jv_iconst dX1_isUpAt_33 ci_iconst_0 ?_
    exact jm_zreturn dX1_isUpAt_34 rfl (Or.inl rfl) h
  · replace h := h.2 c2
    refine jv_aload_n dX1_isUpAt_9 rfl ?_
    refine gf_1_9 rfl dX1_isUpAt_10 (kd_N_1 hN) (lt_N hN 1 rfl) (rf_N_1_1 hN) ?_
    refine jv_iload_n dX1_isUpAt_13 rfl ?_
    refine jm_iaload dX1_isUpAt_14 (kd_N_2 hN) (lt_N hN 2 rfl) b1 ?_
    refine jv_iload_n dX1_isUpAt_15 rfl ?_
    refine jv_icmp_eq (t := 29) dX1_isUpAt_16 rfl (fun c3 => ?_) (fun c3 => ?_)
    · replace h := h.1 c3
      refine jv_iconst dX1_isUpAt_29 ci_iconst_1 ?_
      refine jv_goto (t := 34) dX1_isUpAt_30 rfl ?_
      exact jm_zreturn dX1_isUpAt_34 rfl (Or.inr rfl) h
    · replace h := h.2 c3
      refine jv_aload_n dX1_isUpAt_19 rfl ?_
      refine gf_1_15 rfl dX1_isUpAt_20 (kd_N_1 hN) (lt_N hN 1 rfl) (rf_N_1_2 hN) ?_
      refine jv_iload_n dX1_isUpAt_23 rfl ?_
      refine jm_iaload dX1_isUpAt_24 (kd_N_3 hN) (lt_N hN 3 rfl) b1 ?_
      refine jv_iload_n dX1_isUpAt_25 rfl ?_
      refine jv_icmp_ne (t := 33) dX1_isUpAt_26 rfl (fun c4 => ?_) (fun c4 => ?_)
      · replace h := h.1 c4
        refine jv_iconst dX1_isUpAt_33 ci_iconst_0 ?_
        exact jm_zreturn dX1_isUpAt_34 rfl (Or.inl rfl) h
      · replace h := h.2 c4
        refine jv_iconst dX1_isUpAt_29 ci_iconst_1 ?_
        refine jv_goto (t := 34) dX1_isUpAt_30 rfl ?_
        exact jm_zreturn dX1_isUpAt_34 rfl (Or.inr rfl) h
theorem g_X1_otherEnd_0 {E : JE} {u : JM} {K : Int32 → JM → Prop} {N : Nat} (hN : isNet N) {a1 a2 : Int32}
    (h : vp_in a1 12 ∧
 ((¬ (u (N + 2) a1.toNatClampNeg) = a2 → K (u (N + 2) a1.toNatClampNeg) u) ∧
 ((u (N + 2) a1.toNatClampNeg) = a2 → K (u (N + 3) a1.toNatClampNeg) u)))
    : JVi E 1 YX1_otherEnd K 0 [some (.ref (N + 1)), some (.int a1), some (.int a2)] [] u := by
  refine jv_aload_n dX1_otherEnd_0 rfl ?_
  refine gf_1_9 rfl dX1_otherEnd_1 (kd_N_1 hN) (lt_N hN 1 rfl) (rf_N_1_1 hN) ?_
  refine jv_iload_n dX1_otherEnd_4 rfl ?_
  obtain ⟨b1, h⟩ := h
  refine jm_iaload dX1_otherEnd_5 (kd_N_2 hN) (lt_N hN 2 rfl) b1 ?_
  refine jv_iload_n dX1_otherEnd_6 rfl ?_
  refine jv_icmp_ne (t := 19) dX1_otherEnd_7 rfl (fun c2 => ?_) (fun c2 => ?_)
  · replace h := h.1 c2
    refine jv_aload_n dX1_otherEnd_19 rfl ?_
    refine gf_1_9 rfl dX1_otherEnd_20 (kd_N_1 hN) (lt_N hN 1 rfl) (rf_N_1_1 hN) ?_
    refine jv_iload_n dX1_otherEnd_23 rfl ?_
    refine jm_iaload dX1_otherEnd_24 (kd_N_2 hN) (lt_N hN 2 rfl) b1 ?_
    exact jm_ireturn dX1_otherEnd_25 rfl h
  · replace h := h.2 c2
    refine jv_aload_n dX1_otherEnd_10 rfl ?_
    refine gf_1_15 rfl dX1_otherEnd_11 (kd_N_1 hN) (lt_N hN 1 rfl) (rf_N_1_2 hN) ?_
    refine jv_iload_n dX1_otherEnd_14 rfl ?_
    refine jm_iaload dX1_otherEnd_15 (kd_N_3 hN) (lt_N hN 3 rfl) b1 ?_
    refine jv_goto (t := 25) dX1_otherEnd_16 rfl ?_
    exact jm_ireturn dX1_otherEnd_25 rfl h
theorem g_X1_costFrom_0 {E : JE} {u : JM} {K : Int32 → JM → Prop} {N : Nat} (hN : isNet N) {a1 a2 : Int32}
    (h : vp_in a1 12 ∧
 ((¬ (u (N + 2) a1.toNatClampNeg) = a2 → K (u (N + 6) a1.toNatClampNeg) u) ∧
 ((u (N + 2) a1.toNatClampNeg) = a2 → K (u (N + 5) a1.toNatClampNeg) u)))
    : JVi E 1 YX1_costFrom K 0 [some (.ref (N + 1)), some (.int a1), some (.int a2)] [] u := by
  refine jv_aload_n dX1_costFrom_0 rfl ?_
  refine gf_1_9 rfl dX1_costFrom_1 (kd_N_1 hN) (lt_N hN 1 rfl) (rf_N_1_1 hN) ?_
  refine jv_iload_n dX1_costFrom_4 rfl ?_
  obtain ⟨b1, h⟩ := h
  refine jm_iaload dX1_costFrom_5 (kd_N_2 hN) (lt_N hN 2 rfl) b1 ?_
  refine jv_iload_n dX1_costFrom_6 rfl ?_
  refine jv_icmp_ne (t := 19) dX1_costFrom_7 rfl (fun c2 => ?_) (fun c2 => ?_)
  · replace h := h.1 c2
    refine jv_aload_n dX1_costFrom_19 rfl ?_
    refine gf_1_24 rfl dX1_costFrom_20 (kd_N_1 hN) (lt_N hN 1 rfl) (rf_N_1_5 hN) ?_
    refine jv_iload_n dX1_costFrom_23 rfl ?_
    refine jm_iaload dX1_costFrom_24 (kd_N_6 hN) (lt_N hN 6 rfl) b1 ?_
    exact jm_ireturn dX1_costFrom_25 rfl h
  · replace h := h.2 c2
    refine jv_aload_n dX1_costFrom_10 rfl ?_
    refine gf_1_21 rfl dX1_costFrom_11 (kd_N_1 hN) (lt_N hN 1 rfl) (rf_N_1_4 hN) ?_
    refine jv_iload_n dX1_costFrom_14 rfl ?_
    refine jm_iaload dX1_costFrom_15 (kd_N_5 hN) (lt_N hN 5 rfl) b1 ?_
    refine jv_goto (t := 25) dX1_costFrom_16 rfl ?_
    exact jm_ireturn dX1_costFrom_25 rfl h
theorem g_X7_isRouter_0 {E : JE} {u : JM} {K : Int32 → JM → Prop}  {a1 : Int32}
    (h : ((a1 < 0 → K 0 u) ∧
 (¬ a1 < 0 → ((8 ≤ a1 → K 0 u) ∧
  (¬ 8 ≤ a1 → K 1 u)))))
    : JVi E 1 YX7_isRouter K 0 [some (.int a1)] [] u := by
  refine jv_iload_n dX7_isRouter_0 rfl ?_
  refine jv_if_lt (t := 14) dX7_isRouter_1 rfl (fun c1 => ?_) (fun c1 => ?_)
  · replace h := h.1 c1
    refine jv_iconst dX7_isRouter_14 ci_iconst_0 ?_
    exact jm_zreturn dX7_isRouter_15 rfl (Or.inl rfl) h
  · replace h := h.2 c1
    refine jv_iload_n dX7_isRouter_4 rfl ?_
    refine jv_bipush dX7_isRouter_5 ci_bipush_8 ?_
    refine jv_icmp_ge (t := 14) dX7_isRouter_7 rfl (fun c2 => ?_) (fun c2 => ?_)
    · replace h := h.1 c2
      refine jv_iconst dX7_isRouter_14 ci_iconst_0 ?_
      exact jm_zreturn dX7_isRouter_15 rfl (Or.inl rfl) h
    · replace h := h.2 c2
      refine jv_iconst dX7_isRouter_10 ci_iconst_1 ?_
      refine jv_goto (t := 15) dX7_isRouter_11 rfl ?_
      exact jm_zreturn dX7_isRouter_15 rfl (Or.inr rfl) h
theorem g_X7_isArea_0 {E : JE} {u : JM} {K : Int32 → JM → Prop}  {a1 : Int32}
    (h : ((a1 < 0 → K 0 u) ∧
 (¬ a1 < 0 → ((3 ≤ a1 → K 0 u) ∧
  (¬ 3 ≤ a1 → K 1 u)))))
    : JVi E 1 YX7_isArea K 0 [some (.int a1)] [] u := by
  refine jv_iload_n dX7_isArea_0 rfl ?_
  refine jv_if_lt (t := 13) dX7_isArea_1 rfl (fun c1 => ?_) (fun c1 => ?_)
  · replace h := h.1 c1
    refine jv_iconst dX7_isArea_13 ci_iconst_0 ?_
    exact jm_zreturn dX7_isArea_14 rfl (Or.inl rfl) h
  · replace h := h.2 c1
    refine jv_iload_n dX7_isArea_4 rfl ?_
    refine jv_iconst dX7_isArea_5 ci_iconst_3 ?_
    refine jv_icmp_ge (t := 13) dX7_isArea_6 rfl (fun c2 => ?_) (fun c2 => ?_)
    · replace h := h.1 c2
      refine jv_iconst dX7_isArea_13 ci_iconst_0 ?_
      exact jm_zreturn dX7_isArea_14 rfl (Or.inl rfl) h
    · replace h := h.2 c2
      refine jv_iconst dX7_isArea_9 ci_iconst_1 ?_
      refine jv_goto (t := 14) dX7_isArea_10 rfl ?_
      exact jm_zreturn dX7_isArea_14 rfl (Or.inr rfl) h
theorem g_X7_isCost_0 {E : JE} {u : JM} {K : Int32 → JM → Prop}  {a1 : Int32}
    (h : ((a1 < 1 → K 0 u) ∧
 (¬ a1 < 1 → ((99 < a1 → K 0 u) ∧
  (¬ 99 < a1 → K 1 u)))))
    : JVi E 1 YX7_isCost K 0 [some (.int a1)] [] u := by
  refine jv_iload_n dX7_isCost_0 rfl ?_
  refine jv_iconst dX7_isCost_1 ci_iconst_1 ?_
  refine jv_icmp_lt (t := 15) dX7_isCost_2 rfl (fun c1 => ?_) (fun c1 => ?_)
  · replace h := h.1 c1
    refine jv_iconst dX7_isCost_15 ci_iconst_0 ?_
    exact jm_zreturn dX7_isCost_16 rfl (Or.inl rfl) h
  · replace h := h.2 c1
    refine jv_iload_n dX7_isCost_5 rfl ?_
    refine jv_bipush dX7_isCost_6 ci_bipush_99 ?_
    refine jv_icmp_gt (t := 15) dX7_isCost_8 rfl (fun c2 => ?_) (fun c2 => ?_)
    · replace h := h.1 c2
      refine jv_iconst dX7_isCost_15 ci_iconst_0 ?_
      exact jm_zreturn dX7_isCost_16 rfl (Or.inl rfl) h
    · replace h := h.2 c2
      refine jv_iconst dX7_isCost_11 ci_iconst_1 ?_
      refine jv_goto (t := 16) dX7_isCost_12 rfl ?_
      exact jm_zreturn dX7_isCost_16 rfl (Or.inr rfl) h
theorem g_X7_isOfAdvert_0 {E : JE} {u : JM} {K : Int32 → JM → Prop}  {a1 : Int32}
    (h : ((a1 < 10 → ((a1 < 30 → ((a1 < 0 → K 0 u) ∧
   (¬ a1 < 0 → ((a1 ≤ 2 → K 1 u) ∧
    (¬ a1 ≤ 2 → K 0 u))))) ∧
  (¬ a1 < 30 → ((38 ≤ a1 → ((a1 < 0 → K 0 u) ∧
    (¬ a1 < 0 → ((a1 ≤ 2 → K 1 u) ∧
     (¬ a1 ≤ 2 → K 0 u))))) ∧
   (¬ 38 ≤ a1 → ((a1 < 0 → K 1 u) ∧
    (¬ a1 < 0 → ((a1 ≤ 2 → K 1 u) ∧
     (¬ a1 ≤ 2 → K 1 u))))))))) ∧
 (¬ a1 < 10 → ((22 ≤ a1 → ((a1 < 30 → ((a1 < 0 → K 0 u) ∧
    (¬ a1 < 0 → ((a1 ≤ 2 → K 1 u) ∧
     (¬ a1 ≤ 2 → K 0 u))))) ∧
   (¬ a1 < 30 → ((38 ≤ a1 → ((a1 < 0 → K 0 u) ∧
     (¬ a1 < 0 → ((a1 ≤ 2 → K 1 u) ∧
      (¬ a1 ≤ 2 → K 0 u))))) ∧
    (¬ 38 ≤ a1 → ((a1 < 0 → K 1 u) ∧
     (¬ a1 < 0 → ((a1 ≤ 2 → K 1 u) ∧
      (¬ a1 ≤ 2 → K 1 u))))))))) ∧
  (¬ 22 ≤ a1 → ((a1 < 30 → ((a1 < 0 → K 1 u) ∧
    (¬ a1 < 0 → ((a1 ≤ 2 → K 1 u) ∧
     (¬ a1 ≤ 2 → K 1 u))))) ∧
   (¬ a1 < 30 → ((38 ≤ a1 → ((a1 < 0 → K 1 u) ∧
     (¬ a1 < 0 → ((a1 ≤ 2 → K 1 u) ∧
      (¬ a1 ≤ 2 → K 1 u))))) ∧
    (¬ 38 ≤ a1 → ((a1 < 0 → K 1 u) ∧
     (¬ a1 < 0 → ((a1 ≤ 2 → K 1 u) ∧
      (¬ a1 ≤ 2 → K 1 u)))))))))))))
    : JVi E 1 YX7_isOfAdvert K 0 [some (.int a1), none, none] [] u := by
  refine jv_iload_n dX7_isOfAdvert_0 rfl ?_
  refine jv_bipush dX7_isOfAdvert_1 ci_bipush_10 ?_
  refine jv_icmp_lt (t := 16) dX7_isOfAdvert_3 rfl (fun c1 => ?_) (fun c1 => ?_)
  · replace h := h.1 c1
    refine jv_iconst dX7_isOfAdvert_16 ci_iconst_0 ?_
    refine jv_istore_n (ls' := [some (.int a1), some (.int 0), none]) dX7_isOfAdvert_17 (Nat.le_of_ble_eq_true rfl) rfl ?_
    refine jv_iload_n dX7_isOfAdvert_18 rfl ?_
    refine jv_bipush dX7_isOfAdvert_19 ci_bipush_30 ?_
    refine jv_icmp_lt (t := 34) dX7_isOfAdvert_21 rfl (fun c2 => ?_) (fun c2 => ?_)
    · replace h := h.1 c2
      refine jv_iconst dX7_isOfAdvert_34 ci_iconst_0 ?_
      refine jv_istore_n (ls' := [some (.int a1), some (.int 0), some (.int 0)]) dX7_isOfAdvert_35 (Nat.le_of_ble_eq_true rfl) rfl ?_
      refine jv_iload_n dX7_isOfAdvert_36 rfl ?_
      refine jv_if_lt (t := 45) dX7_isOfAdvert_37 rfl (fun c3 => ?_) (fun c3 => ?_)
      · replace h := h.1 c3
        refine jv_iload_n dX7_isOfAdvert_45 rfl ?_
        refine jv_if_ne (t := 53) dX7_isOfAdvert_46 rfl (fun c4 => ?_) (fun c4 => ?_)
        · exact False.elim (by revert c4; decide)
        · refine jv_iload_n dX7_isOfAdvert_49 rfl ?_
          refine jv_if_eq (t := 57) dX7_isOfAdvert_50 rfl (fun c5 => ?_) (fun c5 => ?_)
          · refine jv_iconst dX7_isOfAdvert_57 ci_iconst_0 ?_
            exact jm_zreturn dX7_isOfAdvert_58 rfl (Or.inl rfl) h
          · exact False.elim (by revert c5; decide)
      · replace h := h.2 c3
        refine jv_iload_n dX7_isOfAdvert_40 rfl ?_
        refine jv_iconst dX7_isOfAdvert_41 ci_iconst_2 ?_
        refine jv_icmp_le (t := 53) dX7_isOfAdvert_42 rfl (fun c6 => ?_) (fun c6 => ?_)
        · replace h := h.1 c6
          refine jv_iconst dX7_isOfAdvert_53 ci_iconst_1 ?_
          refine jv_goto (t := 58) dX7_isOfAdvert_54 rfl ?_
          exact jm_zreturn dX7_isOfAdvert_58 rfl (Or.inr rfl) h
        · replace h := h.2 c6
          refine jv_iload_n dX7_isOfAdvert_45 rfl ?_
          refine jv_if_ne (t := 53) dX7_isOfAdvert_46 rfl (fun c7 => ?_) (fun c7 => ?_)
          · exact False.elim (by revert c7; decide)
          · refine jv_iload_n dX7_isOfAdvert_49 rfl ?_
            refine jv_if_eq (t := 57) dX7_isOfAdvert_50 rfl (fun c8 => ?_) (fun c8 => ?_)
            · refine jv_iconst dX7_isOfAdvert_57 ci_iconst_0 ?_
              exact jm_zreturn dX7_isOfAdvert_58 rfl (Or.inl rfl) h
            · exact False.elim (by revert c8; decide)
    · replace h := h.2 c2
      refine jv_iload_n dX7_isOfAdvert_24 rfl ?_
      refine jv_bipush dX7_isOfAdvert_25 ci_bipush_38 ?_
      refine jv_icmp_ge (t := 34) dX7_isOfAdvert_27 rfl (fun c9 => ?_) (fun c9 => ?_)
      · replace h := h.1 c9
        refine jv_iconst dX7_isOfAdvert_34 ci_iconst_0 ?_
        refine jv_istore_n (ls' := [some (.int a1), some (.int 0), some (.int 0)]) dX7_isOfAdvert_35 (Nat.le_of_ble_eq_true rfl) rfl ?_
        refine jv_iload_n dX7_isOfAdvert_36 rfl ?_
        refine jv_if_lt (t := 45) dX7_isOfAdvert_37 rfl (fun c10 => ?_) (fun c10 => ?_)
        · replace h := h.1 c10
          refine jv_iload_n dX7_isOfAdvert_45 rfl ?_
          refine jv_if_ne (t := 53) dX7_isOfAdvert_46 rfl (fun c11 => ?_) (fun c11 => ?_)
          · exact False.elim (by revert c11; decide)
          · refine jv_iload_n dX7_isOfAdvert_49 rfl ?_
            refine jv_if_eq (t := 57) dX7_isOfAdvert_50 rfl (fun c12 => ?_) (fun c12 => ?_)
            · refine jv_iconst dX7_isOfAdvert_57 ci_iconst_0 ?_
              exact jm_zreturn dX7_isOfAdvert_58 rfl (Or.inl rfl) h
            · exact False.elim (by revert c12; decide)
        · replace h := h.2 c10
          refine jv_iload_n dX7_isOfAdvert_40 rfl ?_
          refine jv_iconst dX7_isOfAdvert_41 ci_iconst_2 ?_
          refine jv_icmp_le (t := 53) dX7_isOfAdvert_42 rfl (fun c13 => ?_) (fun c13 => ?_)
          · replace h := h.1 c13
            refine jv_iconst dX7_isOfAdvert_53 ci_iconst_1 ?_
            refine jv_goto (t := 58) dX7_isOfAdvert_54 rfl ?_
            exact jm_zreturn dX7_isOfAdvert_58 rfl (Or.inr rfl) h
          · replace h := h.2 c13
            refine jv_iload_n dX7_isOfAdvert_45 rfl ?_
            refine jv_if_ne (t := 53) dX7_isOfAdvert_46 rfl (fun c14 => ?_) (fun c14 => ?_)
            · exact False.elim (by revert c14; decide)
            · refine jv_iload_n dX7_isOfAdvert_49 rfl ?_
              refine jv_if_eq (t := 57) dX7_isOfAdvert_50 rfl (fun c15 => ?_) (fun c15 => ?_)
              · refine jv_iconst dX7_isOfAdvert_57 ci_iconst_0 ?_
                exact jm_zreturn dX7_isOfAdvert_58 rfl (Or.inl rfl) h
              · exact False.elim (by revert c15; decide)
      · replace h := h.2 c9
        refine jv_iconst dX7_isOfAdvert_30 ci_iconst_1 ?_
        refine jv_goto (t := 35) dX7_isOfAdvert_31 rfl ?_
        refine jv_istore_n (ls' := [some (.int a1), some (.int 0), some (.int 1)]) dX7_isOfAdvert_35 (Nat.le_of_ble_eq_true rfl) rfl ?_
        refine jv_iload_n dX7_isOfAdvert_36 rfl ?_
        refine jv_if_lt (t := 45) dX7_isOfAdvert_37 rfl (fun c16 => ?_) (fun c16 => ?_)
        · replace h := h.1 c16
          refine jv_iload_n dX7_isOfAdvert_45 rfl ?_
          refine jv_if_ne (t := 53) dX7_isOfAdvert_46 rfl (fun c17 => ?_) (fun c17 => ?_)
          · exact False.elim (by revert c17; decide)
          · refine jv_iload_n dX7_isOfAdvert_49 rfl ?_
            refine jv_if_eq (t := 57) dX7_isOfAdvert_50 rfl (fun c18 => ?_) (fun c18 => ?_)
            · exact False.elim (by revert c18; decide)
            · refine jv_iconst dX7_isOfAdvert_53 ci_iconst_1 ?_
              refine jv_goto (t := 58) dX7_isOfAdvert_54 rfl ?_
              exact jm_zreturn dX7_isOfAdvert_58 rfl (Or.inr rfl) h
        · replace h := h.2 c16
          refine jv_iload_n dX7_isOfAdvert_40 rfl ?_
          refine jv_iconst dX7_isOfAdvert_41 ci_iconst_2 ?_
          refine jv_icmp_le (t := 53) dX7_isOfAdvert_42 rfl (fun c19 => ?_) (fun c19 => ?_)
          · replace h := h.1 c19
            refine jv_iconst dX7_isOfAdvert_53 ci_iconst_1 ?_
            refine jv_goto (t := 58) dX7_isOfAdvert_54 rfl ?_
            exact jm_zreturn dX7_isOfAdvert_58 rfl (Or.inr rfl) h
          · replace h := h.2 c19
            refine jv_iload_n dX7_isOfAdvert_45 rfl ?_
            refine jv_if_ne (t := 53) dX7_isOfAdvert_46 rfl (fun c20 => ?_) (fun c20 => ?_)
            · exact False.elim (by revert c20; decide)
            · refine jv_iload_n dX7_isOfAdvert_49 rfl ?_
              refine jv_if_eq (t := 57) dX7_isOfAdvert_50 rfl (fun c21 => ?_) (fun c21 => ?_)
              · exact False.elim (by revert c21; decide)
              · refine jv_iconst dX7_isOfAdvert_53 ci_iconst_1 ?_
                refine jv_goto (t := 58) dX7_isOfAdvert_54 rfl ?_
                exact jm_zreturn dX7_isOfAdvert_58 rfl (Or.inr rfl) h
  · replace h := h.2 c1
    refine jv_iload_n dX7_isOfAdvert_6 rfl ?_
    refine jv_bipush dX7_isOfAdvert_7 ci_bipush_22 ?_
    refine jv_icmp_ge (t := 16) dX7_isOfAdvert_9 rfl (fun c22 => ?_) (fun c22 => ?_)
    · replace h := h.1 c22
      refine jv_iconst dX7_isOfAdvert_16 ci_iconst_0 ?_
      refine jv_istore_n (ls' := [some (.int a1), some (.int 0), none]) dX7_isOfAdvert_17 (Nat.le_of_ble_eq_true rfl) rfl ?_
      refine jv_iload_n dX7_isOfAdvert_18 rfl ?_
      refine jv_bipush dX7_isOfAdvert_19 ci_bipush_30 ?_
      refine jv_icmp_lt (t := 34) dX7_isOfAdvert_21 rfl (fun c23 => ?_) (fun c23 => ?_)
      · replace h := h.1 c23
        refine jv_iconst dX7_isOfAdvert_34 ci_iconst_0 ?_
        refine jv_istore_n (ls' := [some (.int a1), some (.int 0), some (.int 0)]) dX7_isOfAdvert_35 (Nat.le_of_ble_eq_true rfl) rfl ?_
        refine jv_iload_n dX7_isOfAdvert_36 rfl ?_
        refine jv_if_lt (t := 45) dX7_isOfAdvert_37 rfl (fun c24 => ?_) (fun c24 => ?_)
        · replace h := h.1 c24
          refine jv_iload_n dX7_isOfAdvert_45 rfl ?_
          refine jv_if_ne (t := 53) dX7_isOfAdvert_46 rfl (fun c25 => ?_) (fun c25 => ?_)
          · exact False.elim (by revert c25; decide)
          · refine jv_iload_n dX7_isOfAdvert_49 rfl ?_
            refine jv_if_eq (t := 57) dX7_isOfAdvert_50 rfl (fun c26 => ?_) (fun c26 => ?_)
            · refine jv_iconst dX7_isOfAdvert_57 ci_iconst_0 ?_
              exact jm_zreturn dX7_isOfAdvert_58 rfl (Or.inl rfl) h
            · exact False.elim (by revert c26; decide)
        · replace h := h.2 c24
          refine jv_iload_n dX7_isOfAdvert_40 rfl ?_
          refine jv_iconst dX7_isOfAdvert_41 ci_iconst_2 ?_
          refine jv_icmp_le (t := 53) dX7_isOfAdvert_42 rfl (fun c27 => ?_) (fun c27 => ?_)
          · replace h := h.1 c27
            refine jv_iconst dX7_isOfAdvert_53 ci_iconst_1 ?_
            refine jv_goto (t := 58) dX7_isOfAdvert_54 rfl ?_
            exact jm_zreturn dX7_isOfAdvert_58 rfl (Or.inr rfl) h
          · replace h := h.2 c27
            refine jv_iload_n dX7_isOfAdvert_45 rfl ?_
            refine jv_if_ne (t := 53) dX7_isOfAdvert_46 rfl (fun c28 => ?_) (fun c28 => ?_)
            · exact False.elim (by revert c28; decide)
            · refine jv_iload_n dX7_isOfAdvert_49 rfl ?_
              refine jv_if_eq (t := 57) dX7_isOfAdvert_50 rfl (fun c29 => ?_) (fun c29 => ?_)
              · refine jv_iconst dX7_isOfAdvert_57 ci_iconst_0 ?_
                exact jm_zreturn dX7_isOfAdvert_58 rfl (Or.inl rfl) h
              · exact False.elim (by revert c29; decide)
      · replace h := h.2 c23
        refine jv_iload_n dX7_isOfAdvert_24 rfl ?_
        refine jv_bipush dX7_isOfAdvert_25 ci_bipush_38 ?_
        refine jv_icmp_ge (t := 34) dX7_isOfAdvert_27 rfl (fun c30 => ?_) (fun c30 => ?_)
        · replace h := h.1 c30
          refine jv_iconst dX7_isOfAdvert_34 ci_iconst_0 ?_
          refine jv_istore_n (ls' := [some (.int a1), some (.int 0), some (.int 0)]) dX7_isOfAdvert_35 (Nat.le_of_ble_eq_true rfl) rfl ?_
          refine jv_iload_n dX7_isOfAdvert_36 rfl ?_
          refine jv_if_lt (t := 45) dX7_isOfAdvert_37 rfl (fun c31 => ?_) (fun c31 => ?_)
          · replace h := h.1 c31
            refine jv_iload_n dX7_isOfAdvert_45 rfl ?_
            refine jv_if_ne (t := 53) dX7_isOfAdvert_46 rfl (fun c32 => ?_) (fun c32 => ?_)
            · exact False.elim (by revert c32; decide)
            · refine jv_iload_n dX7_isOfAdvert_49 rfl ?_
              refine jv_if_eq (t := 57) dX7_isOfAdvert_50 rfl (fun c33 => ?_) (fun c33 => ?_)
              · refine jv_iconst dX7_isOfAdvert_57 ci_iconst_0 ?_
                exact jm_zreturn dX7_isOfAdvert_58 rfl (Or.inl rfl) h
              · exact False.elim (by revert c33; decide)
          · replace h := h.2 c31
            refine jv_iload_n dX7_isOfAdvert_40 rfl ?_
            refine jv_iconst dX7_isOfAdvert_41 ci_iconst_2 ?_
            refine jv_icmp_le (t := 53) dX7_isOfAdvert_42 rfl (fun c34 => ?_) (fun c34 => ?_)
            · replace h := h.1 c34
              refine jv_iconst dX7_isOfAdvert_53 ci_iconst_1 ?_
              refine jv_goto (t := 58) dX7_isOfAdvert_54 rfl ?_
              exact jm_zreturn dX7_isOfAdvert_58 rfl (Or.inr rfl) h
            · replace h := h.2 c34
              refine jv_iload_n dX7_isOfAdvert_45 rfl ?_
              refine jv_if_ne (t := 53) dX7_isOfAdvert_46 rfl (fun c35 => ?_) (fun c35 => ?_)
              · exact False.elim (by revert c35; decide)
              · refine jv_iload_n dX7_isOfAdvert_49 rfl ?_
                refine jv_if_eq (t := 57) dX7_isOfAdvert_50 rfl (fun c36 => ?_) (fun c36 => ?_)
                · refine jv_iconst dX7_isOfAdvert_57 ci_iconst_0 ?_
                  exact jm_zreturn dX7_isOfAdvert_58 rfl (Or.inl rfl) h
                · exact False.elim (by revert c36; decide)
        · replace h := h.2 c30
          refine jv_iconst dX7_isOfAdvert_30 ci_iconst_1 ?_
          refine jv_goto (t := 35) dX7_isOfAdvert_31 rfl ?_
          refine jv_istore_n (ls' := [some (.int a1), some (.int 0), some (.int 1)]) dX7_isOfAdvert_35 (Nat.le_of_ble_eq_true rfl) rfl ?_
          refine jv_iload_n dX7_isOfAdvert_36 rfl ?_
          refine jv_if_lt (t := 45) dX7_isOfAdvert_37 rfl (fun c37 => ?_) (fun c37 => ?_)
          · replace h := h.1 c37
            refine jv_iload_n dX7_isOfAdvert_45 rfl ?_
            refine jv_if_ne (t := 53) dX7_isOfAdvert_46 rfl (fun c38 => ?_) (fun c38 => ?_)
            · exact False.elim (by revert c38; decide)
            · refine jv_iload_n dX7_isOfAdvert_49 rfl ?_
              refine jv_if_eq (t := 57) dX7_isOfAdvert_50 rfl (fun c39 => ?_) (fun c39 => ?_)
              · exact False.elim (by revert c39; decide)
              · refine jv_iconst dX7_isOfAdvert_53 ci_iconst_1 ?_
                refine jv_goto (t := 58) dX7_isOfAdvert_54 rfl ?_
                exact jm_zreturn dX7_isOfAdvert_58 rfl (Or.inr rfl) h
          · replace h := h.2 c37
            refine jv_iload_n dX7_isOfAdvert_40 rfl ?_
            refine jv_iconst dX7_isOfAdvert_41 ci_iconst_2 ?_
            refine jv_icmp_le (t := 53) dX7_isOfAdvert_42 rfl (fun c40 => ?_) (fun c40 => ?_)
            · replace h := h.1 c40
              refine jv_iconst dX7_isOfAdvert_53 ci_iconst_1 ?_
              refine jv_goto (t := 58) dX7_isOfAdvert_54 rfl ?_
              exact jm_zreturn dX7_isOfAdvert_58 rfl (Or.inr rfl) h
            · replace h := h.2 c40
              refine jv_iload_n dX7_isOfAdvert_45 rfl ?_
              refine jv_if_ne (t := 53) dX7_isOfAdvert_46 rfl (fun c41 => ?_) (fun c41 => ?_)
              · exact False.elim (by revert c41; decide)
              · refine jv_iload_n dX7_isOfAdvert_49 rfl ?_
                refine jv_if_eq (t := 57) dX7_isOfAdvert_50 rfl (fun c42 => ?_) (fun c42 => ?_)
                · exact False.elim (by revert c42; decide)
                · refine jv_iconst dX7_isOfAdvert_53 ci_iconst_1 ?_
                  refine jv_goto (t := 58) dX7_isOfAdvert_54 rfl ?_
                  exact jm_zreturn dX7_isOfAdvert_58 rfl (Or.inr rfl) h
    · replace h := h.2 c22
      refine jv_iconst dX7_isOfAdvert_12 ci_iconst_1 ?_
      refine jv_goto (t := 17) dX7_isOfAdvert_13 rfl ?_
      refine jv_istore_n (ls' := [some (.int a1), some (.int 1), none]) dX7_isOfAdvert_17 (Nat.le_of_ble_eq_true rfl) rfl ?_
      refine jv_iload_n dX7_isOfAdvert_18 rfl ?_
      refine jv_bipush dX7_isOfAdvert_19 ci_bipush_30 ?_
      refine jv_icmp_lt (t := 34) dX7_isOfAdvert_21 rfl (fun c43 => ?_) (fun c43 => ?_)
      · replace h := h.1 c43
        refine jv_iconst dX7_isOfAdvert_34 ci_iconst_0 ?_
        refine jv_istore_n (ls' := [some (.int a1), some (.int 1), some (.int 0)]) dX7_isOfAdvert_35 (Nat.le_of_ble_eq_true rfl) rfl ?_
        refine jv_iload_n dX7_isOfAdvert_36 rfl ?_
        refine jv_if_lt (t := 45) dX7_isOfAdvert_37 rfl (fun c44 => ?_) (fun c44 => ?_)
        · replace h := h.1 c44
          refine jv_iload_n dX7_isOfAdvert_45 rfl ?_
          refine jv_if_ne (t := 53) dX7_isOfAdvert_46 rfl (fun c45 => ?_) (fun c45 => ?_)
          · refine jv_iconst dX7_isOfAdvert_53 ci_iconst_1 ?_
            refine jv_goto (t := 58) dX7_isOfAdvert_54 rfl ?_
            exact jm_zreturn dX7_isOfAdvert_58 rfl (Or.inr rfl) h
          · exact False.elim (by revert c45; decide)
        · replace h := h.2 c44
          refine jv_iload_n dX7_isOfAdvert_40 rfl ?_
          refine jv_iconst dX7_isOfAdvert_41 ci_iconst_2 ?_
          refine jv_icmp_le (t := 53) dX7_isOfAdvert_42 rfl (fun c46 => ?_) (fun c46 => ?_)
          · replace h := h.1 c46
            refine jv_iconst dX7_isOfAdvert_53 ci_iconst_1 ?_
            refine jv_goto (t := 58) dX7_isOfAdvert_54 rfl ?_
            exact jm_zreturn dX7_isOfAdvert_58 rfl (Or.inr rfl) h
          · replace h := h.2 c46
            refine jv_iload_n dX7_isOfAdvert_45 rfl ?_
            refine jv_if_ne (t := 53) dX7_isOfAdvert_46 rfl (fun c47 => ?_) (fun c47 => ?_)
            · refine jv_iconst dX7_isOfAdvert_53 ci_iconst_1 ?_
              refine jv_goto (t := 58) dX7_isOfAdvert_54 rfl ?_
              exact jm_zreturn dX7_isOfAdvert_58 rfl (Or.inr rfl) h
            · exact False.elim (by revert c47; decide)
      · replace h := h.2 c43
        refine jv_iload_n dX7_isOfAdvert_24 rfl ?_
        refine jv_bipush dX7_isOfAdvert_25 ci_bipush_38 ?_
        refine jv_icmp_ge (t := 34) dX7_isOfAdvert_27 rfl (fun c48 => ?_) (fun c48 => ?_)
        · replace h := h.1 c48
          refine jv_iconst dX7_isOfAdvert_34 ci_iconst_0 ?_
          refine jv_istore_n (ls' := [some (.int a1), some (.int 1), some (.int 0)]) dX7_isOfAdvert_35 (Nat.le_of_ble_eq_true rfl) rfl ?_
          refine jv_iload_n dX7_isOfAdvert_36 rfl ?_
          refine jv_if_lt (t := 45) dX7_isOfAdvert_37 rfl (fun c49 => ?_) (fun c49 => ?_)
          · replace h := h.1 c49
            refine jv_iload_n dX7_isOfAdvert_45 rfl ?_
            refine jv_if_ne (t := 53) dX7_isOfAdvert_46 rfl (fun c50 => ?_) (fun c50 => ?_)
            · refine jv_iconst dX7_isOfAdvert_53 ci_iconst_1 ?_
              refine jv_goto (t := 58) dX7_isOfAdvert_54 rfl ?_
              exact jm_zreturn dX7_isOfAdvert_58 rfl (Or.inr rfl) h
            · exact False.elim (by revert c50; decide)
          · replace h := h.2 c49
            refine jv_iload_n dX7_isOfAdvert_40 rfl ?_
            refine jv_iconst dX7_isOfAdvert_41 ci_iconst_2 ?_
            refine jv_icmp_le (t := 53) dX7_isOfAdvert_42 rfl (fun c51 => ?_) (fun c51 => ?_)
            · replace h := h.1 c51
              refine jv_iconst dX7_isOfAdvert_53 ci_iconst_1 ?_
              refine jv_goto (t := 58) dX7_isOfAdvert_54 rfl ?_
              exact jm_zreturn dX7_isOfAdvert_58 rfl (Or.inr rfl) h
            · replace h := h.2 c51
              refine jv_iload_n dX7_isOfAdvert_45 rfl ?_
              refine jv_if_ne (t := 53) dX7_isOfAdvert_46 rfl (fun c52 => ?_) (fun c52 => ?_)
              · refine jv_iconst dX7_isOfAdvert_53 ci_iconst_1 ?_
                refine jv_goto (t := 58) dX7_isOfAdvert_54 rfl ?_
                exact jm_zreturn dX7_isOfAdvert_58 rfl (Or.inr rfl) h
              · exact False.elim (by revert c52; decide)
        · replace h := h.2 c48
          refine jv_iconst dX7_isOfAdvert_30 ci_iconst_1 ?_
          refine jv_goto (t := 35) dX7_isOfAdvert_31 rfl ?_
          refine jv_istore_n (ls' := [some (.int a1), some (.int 1), some (.int 1)]) dX7_isOfAdvert_35 (Nat.le_of_ble_eq_true rfl) rfl ?_
          refine jv_iload_n dX7_isOfAdvert_36 rfl ?_
          refine jv_if_lt (t := 45) dX7_isOfAdvert_37 rfl (fun c53 => ?_) (fun c53 => ?_)
          · replace h := h.1 c53
            refine jv_iload_n dX7_isOfAdvert_45 rfl ?_
            refine jv_if_ne (t := 53) dX7_isOfAdvert_46 rfl (fun c54 => ?_) (fun c54 => ?_)
            · refine jv_iconst dX7_isOfAdvert_53 ci_iconst_1 ?_
              refine jv_goto (t := 58) dX7_isOfAdvert_54 rfl ?_
              exact jm_zreturn dX7_isOfAdvert_58 rfl (Or.inr rfl) h
            · exact False.elim (by revert c54; decide)
          · replace h := h.2 c53
            refine jv_iload_n dX7_isOfAdvert_40 rfl ?_
            refine jv_iconst dX7_isOfAdvert_41 ci_iconst_2 ?_
            refine jv_icmp_le (t := 53) dX7_isOfAdvert_42 rfl (fun c55 => ?_) (fun c55 => ?_)
            · replace h := h.1 c55
              refine jv_iconst dX7_isOfAdvert_53 ci_iconst_1 ?_
              refine jv_goto (t := 58) dX7_isOfAdvert_54 rfl ?_
              exact jm_zreturn dX7_isOfAdvert_58 rfl (Or.inr rfl) h
            · replace h := h.2 c55
              refine jv_iload_n dX7_isOfAdvert_45 rfl ?_
              refine jv_if_ne (t := 53) dX7_isOfAdvert_46 rfl (fun c56 => ?_) (fun c56 => ?_)
              · refine jv_iconst dX7_isOfAdvert_53 ci_iconst_1 ?_
                refine jv_goto (t := 58) dX7_isOfAdvert_54 rfl ?_
                exact jm_zreturn dX7_isOfAdvert_58 rfl (Or.inr rfl) h
              · exact False.elim (by revert c56; decide)
theorem g_X7_isOfTold_0 {E : JE} {u : JM} {K : Int32 → JM → Prop}  {a1 : Int32}
    (h : ((a1 < 0 → K 0 u) ∧
 (¬ a1 < 0 → ((4 ≤ a1 → ((1 < (a1 - a1 / 4 * 4) → K 0 u) ∧
   (¬ 1 < (a1 - a1 / 4 * 4) → K 1 u))) ∧
  (¬ 4 ≤ a1 → ((2 < a1 → K 0 u) ∧
   (¬ 2 < a1 → K 1 u)))))))
    : JVi E 1 YX7_isOfTold K 0 [some (.int a1)] [] u := by
  refine jv_iload_n dX7_isOfTold_0 rfl ?_
  refine jv_if_lt (t := 28) dX7_isOfTold_1 rfl (fun c1 => ?_) (fun c1 => ?_)
  · replace h := h.1 c1
    refine jv_iconst dX7_isOfTold_28 ci_iconst_0 ?_
    exact jm_zreturn dX7_isOfTold_29 rfl (Or.inl rfl) h
  · replace h := h.2 c1
    refine jv_iload_n dX7_isOfTold_4 rfl ?_
    refine jv_iconst dX7_isOfTold_5 ci_iconst_4 ?_
    refine jv_icmp_ge (t := 17) dX7_isOfTold_6 rfl (fun c2 => ?_) (fun c2 => ?_)
    · replace h := h.1 c2
      refine jv_iload_n dX7_isOfTold_17 rfl ?_
      refine jv_iconst dX7_isOfTold_18 ci_iconst_4 ?_
      refine jv_irem dX7_isOfTold_19 (by decide) ?_
      refine jv_iconst dX7_isOfTold_20 ci_iconst_1 ?_
      refine jv_icmp_gt (t := 28) dX7_isOfTold_21 rfl (fun c3 => ?_) (fun c3 => ?_)
      · replace h := h.1 c3
        refine jv_iconst dX7_isOfTold_28 ci_iconst_0 ?_
        exact jm_zreturn dX7_isOfTold_29 rfl (Or.inl rfl) h
      · replace h := h.2 c3
        refine jv_iconst dX7_isOfTold_24 ci_iconst_1 ?_
        refine jv_goto (t := 29) dX7_isOfTold_25 rfl ?_
        exact jm_zreturn dX7_isOfTold_29 rfl (Or.inr rfl) h
    · replace h := h.2 c2
      refine jv_iload_n dX7_isOfTold_9 rfl ?_
      refine jv_iconst dX7_isOfTold_10 ci_iconst_2 ?_
      refine jv_icmp_gt (t := 28) dX7_isOfTold_11 rfl (fun c4 => ?_) (fun c4 => ?_)
      · replace h := h.1 c4
        refine jv_iconst dX7_isOfTold_28 ci_iconst_0 ?_
        exact jm_zreturn dX7_isOfTold_29 rfl (Or.inl rfl) h
      · replace h := h.2 c4
        refine jv_goto (t := 24) dX7_isOfTold_14 rfl ?_
        refine jv_iconst dX7_isOfTold_24 ci_iconst_1 ?_
        refine jv_goto (t := 29) dX7_isOfTold_25 rfl ?_
        exact jm_zreturn dX7_isOfTold_29 rfl (Or.inr rfl) h
theorem g_X7_isBorder_0 {E : JE} {u : JM} {K : Int32 → JM → Prop}  {a1 : Int32}
    (h : (((a1 &&& 1) = 0 → K 0 u) ∧
 (¬ (a1 &&& 1) = 0 → ((a1 = 1 → K 0 u) ∧
  (¬ a1 = 1 → K 1 u)))))
    : JVi E 1 YX7_isBorder K 0 [some (.int a1)] [] u := by
  refine jv_iload_n dX7_isBorder_0 rfl ?_
  refine jv_iconst dX7_isBorder_1 ci_iconst_1 ?_
  refine jv_iand dX7_isBorder_2 ?_
  refine jv_if_eq (t := 15) dX7_isBorder_3 rfl (fun c1 => ?_) (fun c1 => ?_)
  · replace h := h.1 c1
    refine jv_iconst dX7_isBorder_15 ci_iconst_0 ?_
    exact jm_zreturn dX7_isBorder_16 rfl (Or.inl rfl) h
  · replace h := h.2 c1
    refine jv_iload_n dX7_isBorder_6 rfl ?_
    refine jv_iconst dX7_isBorder_7 ci_iconst_1 ?_
    refine jv_icmp_eq (t := 15) dX7_isBorder_8 rfl (fun c2 => ?_) (fun c2 => ?_)
    · replace h := h.1 c2
      refine jv_iconst dX7_isBorder_15 ci_iconst_0 ?_
      exact jm_zreturn dX7_isBorder_16 rfl (Or.inl rfl) h
    · replace h := h.2 c2
      refine jv_iconst dX7_isBorder_11 ci_iconst_1 ?_
      refine jv_goto (t := 16) dX7_isBorder_12 rfl ?_
      exact jm_zreturn dX7_isBorder_16 rfl (Or.inr rfl) h
theorem g_X7_rowOf_0 {E : JE} {u : JM} {K : Int32 → JM → Prop}  {a1 a2 a3 : Int32}
    (h : K ((((a1 * 3) + a2) * 8) + a3) u)
    : JVi E 1 YX7_rowOf K 0 [some (.int a1), some (.int a2), some (.int a3)] [] u := by
  refine jv_iload_n dX7_rowOf_0 rfl ?_
  refine jv_iconst dX7_rowOf_1 ci_iconst_3 ?_
  refine jv_imul dX7_rowOf_2 ?_
  refine jv_iload_n dX7_rowOf_3 rfl ?_
  refine jv_iadd dX7_rowOf_4 ?_
  refine jv_bipush dX7_rowOf_5 ci_bipush_8 ?_
  refine jv_imul dX7_rowOf_7 ?_
  refine jv_iload_n dX7_rowOf_8 rfl ?_
  refine jv_iadd dX7_rowOf_9 ?_
  exact jm_ireturn dX7_rowOf_10 rfl h
theorem g_X5_has_0 {E : JE} {u : JM} {K : Int32 → JM → Prop}  {a1 : Int32}
    (h : ((a1 < 0 → K 0 u) ∧
 (¬ a1 < 0 → ((4 ≤ a1 → K 0 u) ∧
  (¬ 4 ≤ a1 → K 1 u)))))
    : JVi E 1 YX5_has K 0 [some (.ref 129), some (.int a1)] [] u := by
  refine jv_iload_n dX5_has_0 rfl ?_
  refine jv_if_lt (t := 13) dX5_has_1 rfl (fun c1 => ?_) (fun c1 => ?_)
  · replace h := h.1 c1
    refine jv_iconst dX5_has_13 ci_iconst_0 ?_
    exact jm_zreturn dX5_has_14 rfl (Or.inl rfl) h
  · replace h := h.2 c1
    refine jv_iload_n dX5_has_4 rfl ?_
    refine jv_iconst dX5_has_5 ci_iconst_4 ?_
    refine jv_icmp_ge (t := 13) dX5_has_6 rfl (fun c2 => ?_) (fun c2 => ?_)
    · replace h := h.1 c2
      refine jv_iconst dX5_has_13 ci_iconst_0 ?_
      exact jm_zreturn dX5_has_14 rfl (Or.inl rfl) h
    · replace h := h.2 c2
      refine jv_iconst dX5_has_9 ci_iconst_1 ?_
      refine jv_goto (t := 14) dX5_has_10 rfl ?_
      exact jm_zreturn dX5_has_14 rfl (Or.inr rfl) h
theorem g_X5_isMissing_0 {E : JE} {u : JM} {K : Int32 → JM → Prop}  {a1 : Int32}
    (h : vp_in a1 4 ∧
 ((¬ (u 130 a1.toNatClampNeg) = (-1) → K 0 u) ∧
 ((u 130 a1.toNatClampNeg) = (-1) → K 1 u)))
    : JVi E 1 YX5_isMissing K 0 [some (.ref 129), some (.int a1)] [] u := by
  refine jv_aload_n dX5_isMissing_0 rfl ?_
  refine gf_5_9 rfl dX5_isMissing_1 kd_c_129 (lt_c 129 rfl) rf_c_129_0 ?_
  refine jv_iload_n dX5_isMissing_4 rfl ?_
  obtain ⟨b1, h⟩ := h
  refine jm_iaload dX5_isMissing_5 kd_c_130 (lt_c 130 rfl) b1 ?_
  refine jv_iconst dX5_isMissing_6 ci_iconst_m1 ?_
  refine jv_icmp_ne (t := 14) dX5_isMissing_7 rfl (fun c2 => ?_) (fun c2 => ?_)
  · replace h := h.1 c2
    refine jv_iconst dX5_isMissing_14 ci_iconst_0 ?_
    exact jm_zreturn dX5_isMissing_15 rfl (Or.inl rfl) h
  · replace h := h.2 c2
    refine jv_iconst dX5_isMissing_10 ci_iconst_1 ?_
    refine jv_goto (t := 15) dX5_isMissing_11 rfl ?_
    exact jm_zreturn dX5_isMissing_15 rfl (Or.inr rfl) h
theorem g_X5_holds_0 {E : JE} {u : JM} {K : Int32 → JM → Prop}  {a1 a2 a3 : Int32}
    (h : ((a2 < 0 → K 0 u) ∧
 (¬ a2 < 0 → ((a3 < 0 → K 0 u) ∧
  (¬ a3 < 0 → vp_in a1 4 ∧
   (((u 131 a1.toNatClampNeg) < a3 → K 0 u) ∧
   (¬ (u 131 a1.toNatClampNeg) < a3 → ((((u 131 a1.toNatClampNeg) - a3) < a2 → K 0 u) ∧
    (¬ ((u 131 a1.toNatClampNeg) - a3) < a2 → K 1 u)))))))))
    : JVi E 1 YX5_holds K 0 [some (.ref 129), some (.int a1), some (.int a2), some (.int a3)] [] u := by
  refine jv_iload_n dX5_holds_0 rfl ?_
  refine jv_if_lt (t := 34) dX5_holds_1 rfl (fun c1 => ?_) (fun c1 => ?_)
  · replace h := h.1 c1
    refine jv_iconst dX5_holds_34 ci_iconst_0 ?_
    exact jm_zreturn dX5_holds_35 rfl (Or.inl rfl) h
  · replace h := h.2 c1
    refine jv_iload_n dX5_holds_4 rfl ?_
    refine jv_if_lt (t := 34) dX5_holds_5 rfl (fun c2 => ?_) (fun c2 => ?_)
    · replace h := h.1 c2
      refine jv_iconst dX5_holds_34 ci_iconst_0 ?_
      exact jm_zreturn dX5_holds_35 rfl (Or.inl rfl) h
    · replace h := h.2 c2
      refine jv_iload_n dX5_holds_8 rfl ?_
      refine jv_aload_n dX5_holds_9 rfl ?_
      refine gf_5_15 rfl dX5_holds_10 kd_c_129 (lt_c 129 rfl) rf_c_129_1 ?_
      refine jv_iload_n dX5_holds_13 rfl ?_
      obtain ⟨b3, h⟩ := h
      refine jm_iaload dX5_holds_14 kd_c_131 (lt_c 131 rfl) b3 ?_
      refine jv_icmp_gt (t := 34) dX5_holds_15 rfl (fun c4 => ?_) (fun c4 => ?_)
      · replace h := h.1 c4
        refine jv_iconst dX5_holds_34 ci_iconst_0 ?_
        exact jm_zreturn dX5_holds_35 rfl (Or.inl rfl) h
      · replace h := h.2 c4
        refine jv_iload_n dX5_holds_18 rfl ?_
        refine jv_aload_n dX5_holds_19 rfl ?_
        refine gf_5_15 rfl dX5_holds_20 kd_c_129 (lt_c 129 rfl) rf_c_129_1 ?_
        refine jv_iload_n dX5_holds_23 rfl ?_
        refine jm_iaload dX5_holds_24 kd_c_131 (lt_c 131 rfl) b3 ?_
        refine jv_iload_n dX5_holds_25 rfl ?_
        refine jv_isub dX5_holds_26 ?_
        refine jv_icmp_gt (t := 34) dX5_holds_27 rfl (fun c5 => ?_) (fun c5 => ?_)
        · replace h := h.1 c5
          refine jv_iconst dX5_holds_34 ci_iconst_0 ?_
          exact jm_zreturn dX5_holds_35 rfl (Or.inl rfl) h
        · replace h := h.2 c5
          refine jv_iconst dX5_holds_30 ci_iconst_1 ?_
          refine jv_goto (t := 35) dX5_holds_31 rfl ?_
          exact jm_zreturn dX5_holds_35 rfl (Or.inr rfl) h
theorem g_X0_tellsLink_0 {E : JE} {u : JM} {K : Int32 → JM → Prop} {A n : Nat} (hA : isAdv A n) {row link : Int32}
    (h : vp_in row n ∧
 (((((u (A + 3) row.toNatClampNeg) >>> (link &&& 31)) &&& 1) = 0 → K 0 u) ∧
 (¬ (((u (A + 3) row.toNatClampNeg) >>> (link &&& 31)) &&& 1) = 0 → K 1 u)))
    : JVi E 1 YX0_tellsLink K 0 [some (.ref A), some (.int row), some (.int link)] [] u := by
  refine jv_aload_n dX0_tellsLink_0 rfl ?_
  refine gf_0_18 rfl dX0_tellsLink_1 (kd_A_0 hA) (lt_A hA 0 rfl) (rf_A_0_2 hA) ?_
  refine jv_iload_n dX0_tellsLink_4 rfl ?_
  obtain ⟨b1, h⟩ := h
  refine jm_iaload dX0_tellsLink_5 (kd_A_3 hA) (lt_A hA 3 rfl) b1 ?_
  refine jv_iload_n dX0_tellsLink_6 rfl ?_
  refine jv_ishr dX0_tellsLink_7 ?_
  refine jv_iconst dX0_tellsLink_8 ci_iconst_1 ?_
  refine jv_iand dX0_tellsLink_9 ?_
  refine jv_if_eq (t := 17) dX0_tellsLink_10 rfl (fun c2 => ?_) (fun c2 => ?_)
  · replace h := h.1 c2
    refine jv_iconst dX0_tellsLink_17 ci_iconst_0 ?_
    exact jm_zreturn dX0_tellsLink_18 rfl (Or.inl rfl) h
  · replace h := h.2 c2
    refine jv_iconst dX0_tellsLink_13 ci_iconst_1 ?_
    refine jv_goto (t := 18) dX0_tellsLink_14 rfl ?_
    exact jm_zreturn dX0_tellsLink_18 rfl (Or.inr rfl) h
theorem g_X2_isOwn_0 {E : JE} {u : JM} {K : Int32 → JM → Prop}  {a1 : Int32}
    (h : ((¬ (a1 - a1 / 8 * 8) = (a1 / 24) → K 0 u) ∧
 ((a1 - a1 / 8 * 8) = (a1 / 24) → K 1 u)))
    : JVi E 1 YX2_isOwn K 0 [some (.int a1)] [] u := by
  refine jv_iload_n dX2_isOwn_0 rfl ?_
  refine jv_bipush dX2_isOwn_1 ci_bipush_8 ?_
  refine jv_irem dX2_isOwn_3 (by decide) ?_
  refine jv_iload_n dX2_isOwn_4 rfl ?_
  refine jv_bipush dX2_isOwn_5 ci_bipush_24 ?_
  refine jv_idiv dX2_isOwn_7 (by decide) ?_
  refine jv_icmp_ne (t := 15) dX2_isOwn_8 rfl (fun c1 => ?_) (fun c1 => ?_)
  · replace h := h.1 c1
    refine jv_iconst dX2_isOwn_15 ci_iconst_0 ?_
    exact jm_zreturn dX2_isOwn_16 rfl (Or.inl rfl) h
  · replace h := h.2 c1
    refine jv_iconst dX2_isOwn_11 ci_iconst_1 ?_
    refine jv_goto (t := 16) dX2_isOwn_12 rfl ?_
    exact jm_zreturn dX2_isOwn_16 rfl (Or.inr rfl) h
theorem g_X2_costBy_0 {E : JE} {u : JM} {K : Int32 → JM → Prop} {N : Nat} (hN : isNet N) {P : Nat} (hP : isPaths P) {row to : Int32}
    (h : vp_in (row - row / 8 * 8) 8 ∧
 vp_in ((row * 8) + to) 1536 ∧
 K ((u (P + 1) (row - row / 8 * 8).toNatClampNeg) + (u (N + 14) ((row * 8) + to).toNatClampNeg)) u)
    : JVi E 1 YX2_costBy K 0 [some (.ref N), some (.ref P), some (.int row), some (.int to)] [] u := by
  refine jv_aload_n dX2_costBy_0 rfl ?_
  refine gf_2_173 rfl dX2_costBy_1 (kd_P_0 hP) (lt_P hP 0 rfl) (rf_P_0_0 hP) ?_
  refine jv_iload_n dX2_costBy_4 rfl ?_
  refine jv_bipush dX2_costBy_5 ci_bipush_8 ?_
  refine jv_irem dX2_costBy_7 (by decide) ?_
  obtain ⟨b1, h⟩ := h
  refine jm_iaload dX2_costBy_8 (kd_P_1 hP) (lt_P hP 1 rfl) b1 ?_
  refine jv_aload_n dX2_costBy_9 rfl ?_
  refine gf_2_23 rfl dX2_costBy_10 (kd_N_0 hN) (lt_N hN 0 rfl) (rf_N_0_1 hN) ?_
  refine gf_2_157 rfl dX2_costBy_13 (kd_N_9 hN) (lt_N hN 9 rfl) (rf_N_9_4 hN) ?_
  refine jv_iload_n dX2_costBy_16 rfl ?_
  refine jv_bipush dX2_costBy_17 ci_bipush_8 ?_
  refine jv_imul dX2_costBy_19 ?_
  refine jv_iload_n dX2_costBy_20 rfl ?_
  refine jv_iadd dX2_costBy_21 ?_
  obtain ⟨b2, h⟩ := h
  refine jm_iaload dX2_costBy_22 (kd_N_14 hN) (lt_N hN 14 rfl) b2 ?_
  refine jv_iadd dX2_costBy_23 ?_
  exact jm_ireturn dX2_costBy_24 rfl h
theorem g_X8_in_0 {E : JE} {u : JM} {K : Int32 → JM → Prop}  {a1 a2 a3 : Int32}
    (h : ((a1 < a2 → K 0 u) ∧
 (¬ a1 < a2 → ((a3 < a1 → K 0 u) ∧
  (¬ a3 < a1 → K 1 u)))))
    : JVi E 1 YX8_in K 0 [some (.int a1), some (.int a2), some (.int a3)] [] u := by
  refine jv_iload_n dX8_in_0 rfl ?_
  refine jv_iload_n dX8_in_1 rfl ?_
  refine jv_icmp_lt (t := 14) dX8_in_2 rfl (fun c1 => ?_) (fun c1 => ?_)
  · replace h := h.1 c1
    refine jv_iconst dX8_in_14 ci_iconst_0 ?_
    exact jm_zreturn dX8_in_15 rfl (Or.inl rfl) h
  · replace h := h.2 c1
    refine jv_iload_n dX8_in_5 rfl ?_
    refine jv_iload_n dX8_in_6 rfl ?_
    refine jv_icmp_gt (t := 14) dX8_in_7 rfl (fun c2 => ?_) (fun c2 => ?_)
    · replace h := h.1 c2
      refine jv_iconst dX8_in_14 ci_iconst_0 ?_
      exact jm_zreturn dX8_in_15 rfl (Or.inl rfl) h
    · replace h := h.2 c2
      refine jv_iconst dX8_in_10 ci_iconst_1 ?_
      refine jv_goto (t := 15) dX8_in_11 rfl ?_
      exact jm_zreturn dX8_in_15 rfl (Or.inr rfl) h
theorem g_X8_isEnd_0 {E : JE} {u : JM} {K : Int32 → JM → Prop}  {a1 a2 : Int32}
    (h : vp_in a1 12 ∧
 (((u 138 a1.toNatClampNeg) = a2 → K 1 u) ∧
 (¬ (u 138 a1.toNatClampNeg) = a2 → ((¬ (u 139 a1.toNatClampNeg) = a2 → K 0 u) ∧
  ((u 139 a1.toNatClampNeg) = a2 → K 1 u)))))
    : JVi E 1 YX8_isEnd K 0 [some (.ref 137), some (.int a1), some (.int a2)] [] u := by
  refine jv_aload_n dX8_isEnd_0 rfl ?_
  refine gf_8_9 rfl dX8_isEnd_1 kd_c_137 (lt_c 137 rfl) rf_c_137_1 ?_
  refine jv_iload_n dX8_isEnd_4 rfl ?_
  obtain ⟨b1, h⟩ := h
  refine jm_iaload dX8_isEnd_5 kd_c_138 (lt_c 138 rfl) b1 ?_
  refine jv_iload_n dX8_isEnd_6 rfl ?_
  refine jv_icmp_eq (t := 20) dX8_isEnd_7 rfl (fun c2 => ?_) (fun c2 => ?_)
  · replace h := h.1 c2
    refine jv_iconst dX8_isEnd_20 ci_iconst_1 ?_
    refine jv_goto (t := 25) dX8_isEnd_21 rfl ?_
    exact jm_zreturn dX8_isEnd_25 rfl (Or.inr rfl) h
  · replace h := h.2 c2
    refine jv_aload_n dX8_isEnd_10 rfl ?_
    refine gf_8_13 rfl dX8_isEnd_11 kd_c_137 (lt_c 137 rfl) rf_c_137_2 ?_
    refine jv_iload_n dX8_isEnd_14 rfl ?_
    refine jm_iaload dX8_isEnd_15 kd_c_139 (lt_c 139 rfl) b1 ?_
    refine jv_iload_n dX8_isEnd_16 rfl ?_
    refine jv_icmp_ne (t := 24) dX8_isEnd_17 rfl (fun c3 => ?_) (fun c3 => ?_)
    · replace h := h.1 c3
      refine jv_iconst dX8_isEnd_24 ci_iconst_0 ?_
      exact jm_zreturn dX8_isEnd_25 rfl (Or.inl rfl) h
    · replace h := h.2 c3
      refine jv_iconst dX8_isEnd_20 ci_iconst_1 ?_
      refine jv_goto (t := 25) dX8_isEnd_21 rfl ?_
      exact jm_zreturn dX8_isEnd_25 rfl (Or.inr rfl) h
theorem g_X8_otherEnd_0 {E : JE} {u : JM} {K : Int32 → JM → Prop}  {a1 a2 : Int32}
    (h : vp_in a1 12 ∧
 ((¬ (u 138 a1.toNatClampNeg) = a2 → K (u 138 a1.toNatClampNeg) u) ∧
 ((u 138 a1.toNatClampNeg) = a2 → K (u 139 a1.toNatClampNeg) u)))
    : JVi E 1 YX8_otherEnd K 0 [some (.ref 137), some (.int a1), some (.int a2)] [] u := by
  refine jv_aload_n dX8_otherEnd_0 rfl ?_
  refine gf_8_9 rfl dX8_otherEnd_1 kd_c_137 (lt_c 137 rfl) rf_c_137_1 ?_
  refine jv_iload_n dX8_otherEnd_4 rfl ?_
  obtain ⟨b1, h⟩ := h
  refine jm_iaload dX8_otherEnd_5 kd_c_138 (lt_c 138 rfl) b1 ?_
  refine jv_iload_n dX8_otherEnd_6 rfl ?_
  refine jv_icmp_ne (t := 19) dX8_otherEnd_7 rfl (fun c2 => ?_) (fun c2 => ?_)
  · replace h := h.1 c2
    refine jv_aload_n dX8_otherEnd_19 rfl ?_
    refine gf_8_9 rfl dX8_otherEnd_20 kd_c_137 (lt_c 137 rfl) rf_c_137_1 ?_
    refine jv_iload_n dX8_otherEnd_23 rfl ?_
    refine jm_iaload dX8_otherEnd_24 kd_c_138 (lt_c 138 rfl) b1 ?_
    exact jm_ireturn dX8_otherEnd_25 rfl h
  · replace h := h.2 c2
    refine jv_aload_n dX8_otherEnd_10 rfl ?_
    refine gf_8_13 rfl dX8_otherEnd_11 kd_c_137 (lt_c 137 rfl) rf_c_137_2 ?_
    refine jv_iload_n dX8_otherEnd_14 rfl ?_
    refine jm_iaload dX8_otherEnd_15 kd_c_139 (lt_c 139 rfl) b1 ?_
    refine jv_goto (t := 25) dX8_otherEnd_16 rfl ?_
    exact jm_ireturn dX8_otherEnd_25 rfl h
theorem g_X8_priceFrom_0 {E : JE} {u : JM} {K : Int32 → JM → Prop}  {a1 a2 : Int32}
    (h : vp_in a1 12 ∧
 ((¬ (u 138 a1.toNatClampNeg) = a2 → vp_in ((2 * a1) + 1) 24 ∧
  K (u 142 ((2 * a1) + 1).toNatClampNeg) u) ∧
 ((u 138 a1.toNatClampNeg) = a2 → vp_in ((2 * a1) + 0) 24 ∧
  K (u 142 ((2 * a1) + 0).toNatClampNeg) u)))
    : JVi E 1 YX8_priceFrom K 0 [some (.ref 137), some (.int a1), some (.int a2)] [] u := by
  refine jv_aload_n dX8_priceFrom_0 rfl ?_
  refine gf_8_22 rfl dX8_priceFrom_1 kd_c_137 (lt_c 137 rfl) rf_c_137_5 ?_
  refine jv_iconst dX8_priceFrom_4 ci_iconst_2 ?_
  refine jv_iload_n dX8_priceFrom_5 rfl ?_
  refine jv_imul dX8_priceFrom_6 ?_
  refine jv_aload_n dX8_priceFrom_7 rfl ?_
  refine gf_8_9 rfl dX8_priceFrom_8 kd_c_137 (lt_c 137 rfl) rf_c_137_1 ?_
  refine jv_iload_n dX8_priceFrom_11 rfl ?_
  obtain ⟨b1, h⟩ := h
  refine jm_iaload dX8_priceFrom_12 kd_c_138 (lt_c 138 rfl) b1 ?_
  refine jv_iload_n dX8_priceFrom_13 rfl ?_
  refine jv_icmp_ne (t := 21) dX8_priceFrom_14 rfl (fun c2 => ?_) (fun c2 => ?_)
  · replace h := h.1 c2
    refine jv_iconst dX8_priceFrom_21 ci_iconst_1 ?_
    refine jv_iadd dX8_priceFrom_22 ?_
    obtain ⟨b3, h⟩ := h
    refine jm_iaload dX8_priceFrom_23 kd_c_142 (lt_c 142 rfl) b3 ?_
    exact jm_ireturn dX8_priceFrom_24 rfl h
  · replace h := h.2 c2
    refine jv_iconst dX8_priceFrom_17 ci_iconst_0 ?_
    refine jv_goto (t := 22) dX8_priceFrom_18 rfl ?_
    refine jv_iadd dX8_priceFrom_22 ?_
    obtain ⟨b4, h⟩ := h
    refine jm_iaload dX8_priceFrom_23 kd_c_142 (lt_c 142 rfl) b4 ?_
    exact jm_ireturn dX8_priceFrom_24 rfl h
theorem g_X8_place_0 {E : JE} {u : JM} {K : Int32 → JM → Prop}  {a1 a2 a3 : Int32}
    (h : K ((((a1 * 8) + a2) * 3) + a3) u)
    : JVi E 1 YX8_place K 0 [some (.int a1), some (.int a2), some (.int a3)] [] u := by
  refine jv_iload_n dX8_place_0 rfl ?_
  refine jv_bipush dX8_place_1 ci_bipush_8 ?_
  refine jv_imul dX8_place_3 ?_
  refine jv_iload_n dX8_place_4 rfl ?_
  refine jv_iadd dX8_place_5 ?_
  refine jv_iconst dX8_place_6 ci_iconst_3 ?_
  refine jv_imul dX8_place_7 ?_
  refine jv_iload_n dX8_place_8 rfl ?_
  refine jv_iadd dX8_place_9 ?_
  exact jm_ireturn dX8_place_10 rfl h
theorem g_J9_min_7cf53_0 {E : JE} {u : JM} {K : Int32 → JM → Prop}  {a1 a2 : Int32}
    (h : ((a2 < a1 → K a2 u) ∧
 (¬ a2 < a1 → K a1 u)))
    : JVi E 1 YJ9_min_7cf53 K 0 [some (.int a1), some (.int a2)] [] u := by
  refine jv_iload_n dJ9_min_7cf53_0 rfl ?_
  refine jv_iload_n dJ9_min_7cf53_1 rfl ?_
  refine jv_icmp_gt (t := 9) dJ9_min_7cf53_2 rfl (fun c1 => ?_) (fun c1 => ?_)
  · replace h := h.1 c1
    refine jv_iload_n dJ9_min_7cf53_9 rfl ?_
    exact jm_ireturn dJ9_min_7cf53_10 rfl h
  · replace h := h.2 c1
    refine jv_iload_n dJ9_min_7cf53_5 rfl ?_
    refine jv_goto (t := 10) dJ9_min_7cf53_6 rfl ?_
    exact jm_ireturn dJ9_min_7cf53_10 rfl h
