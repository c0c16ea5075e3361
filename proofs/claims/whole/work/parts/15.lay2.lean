/-! rows of rows of rows; rows that a method chooses -/
theorem kd_r_L {k : Nat} (h : k < 4) : jkd (138 + k) = .inr (.int, 12) := by
  have q : (List.range 4).all (fun k => decide (jkd (138 + k) = .inr (.int, 12))) = true := by decide +kernel
  exact of_decide_eq_true (List.all_eq_true.mp q k (List.mem_range.mpr h))
theorem lt_r_L {k : Nat} (h : k < 4) : 138 + k < NC := by show _ < 3771; omega
theorem kd_r_K {k : Nat} (h : k < 4) : jkd (143 + k) = .inr (.int, 192) := by
  have q : (List.range 4).all (fun k => decide (jkd (143 + k) = .inr (.int, 192))) = true := by decide +kernel
  exact of_decide_eq_true (List.all_eq_true.mp q k (List.mem_range.mpr h))
theorem lt_r_K {k : Nat} (h : k < 4) : 143 + k < NC := by show _ < 3771; omega
theorem kd_r_W {k : Nat} (h : k < 6) : jkd (533 + k) = .inr (.int, 400) := by
  have q : (List.range 6).all (fun k => decide (jkd (533 + k) = .inr (.int, 400))) = true := by decide +kernel
  exact of_decide_eq_true (List.all_eq_true.mp q k (List.mem_range.mpr h))
theorem lt_r_W {k : Nat} (h : k < 6) : 533 + k < NC := by show _ < 3771; omega
theorem rf_q_1380 {l : Nat} (h : l < 2) (k : Nat) : jRF (1381 + 193 * l) k = some (1382 + 193 * l + k) := by
  rcases (show l = 0 ∨ l = 1 by omega) with rfl | rfl <;> (show some _ = some _) <;> congr 1
theorem kd_q_1380 {l k : Nat} (h : l < 2) (hk : k < 192) : jkd (1382 + 193 * l + k) = .inr (.int, 12) := by
  have q : ((List.range 2).all fun l => (List.range 192).all (fun k => decide (jkd (1382 + 193 * l + k) = .inr (.int, 12)))) = true := by decide +kernel
  exact of_decide_eq_true (List.all_eq_true.mp (List.all_eq_true.mp q l (List.mem_range.mpr h)) k (List.mem_range.mpr hk))
theorem lt_q_1380 {l k : Nat} (h : l < 2) (hk : k < 192) : 1382 + 193 * l + k < NC := by show _ < 3771; omega
theorem rf_q_1767 {l : Nat} (h : l < 2) (k : Nat) : jRF (1768 + 193 * l) k = some (1769 + 193 * l + k) := by
  rcases (show l = 0 ∨ l = 1 by omega) with rfl | rfl <;> (show some _ = some _) <;> congr 1
theorem kd_q_1767 {l k : Nat} (h : l < 2) (hk : k < 192) : jkd (1769 + 193 * l + k) = .inr (.int, 8) := by
  have q : ((List.range 2).all fun l => (List.range 192).all (fun k => decide (jkd (1769 + 193 * l + k) = .inr (.int, 8)))) = true := by decide +kernel
  exact of_decide_eq_true (List.all_eq_true.mp (List.all_eq_true.mp q l (List.mem_range.mpr h)) k (List.mem_range.mpr hk))
theorem lt_q_1767 {l k : Nat} (h : l < 2) (hk : k < 192) : 1769 + 193 * l + k < NC := by show _ < 3771; omega
theorem rf_q_2154 {l : Nat} (h : l < 2) (k : Nat) : jRF (2155 + 401 * l) k = some (2156 + 401 * l + k) := by
  rcases (show l = 0 ∨ l = 1 by omega) with rfl | rfl <;> (show some _ = some _) <;> congr 1
theorem kd_q_2154 {l k : Nat} (h : l < 2) (hk : k < 400) : jkd (2156 + 401 * l + k) = .inr (.int, 12) := by
  have q : ((List.range 2).all fun l => (List.range 400).all (fun k => decide (jkd (2156 + 401 * l + k) = .inr (.int, 12)))) = true := by decide +kernel
  exact of_decide_eq_true (List.all_eq_true.mp (List.all_eq_true.mp q l (List.mem_range.mpr h)) k (List.mem_range.mpr hk))
theorem lt_q_2154 {l k : Nat} (h : l < 2) (hk : k < 400) : 2156 + 401 * l + k < NC := by show _ < 3771; omega
theorem rf_q_2957 {l : Nat} (h : l < 2) (k : Nat) : jRF (2958 + 401 * l) k = some (2959 + 401 * l + k) := by
  rcases (show l = 0 ∨ l = 1 by omega) with rfl | rfl <;> (show some _ = some _) <;> congr 1
theorem kd_q_2957 {l k : Nat} (h : l < 2) (hk : k < 400) : jkd (2959 + 401 * l + k) = .inr (.int, 8) := by
  have q : ((List.range 2).all fun l => (List.range 400).all (fun k => decide (jkd (2959 + 401 * l + k) = .inr (.int, 8)))) = true := by decide +kernel
  exact of_decide_eq_true (List.all_eq_true.mp (List.all_eq_true.mp q l (List.mem_range.mpr h)) k (List.mem_range.mpr hk))
theorem lt_q_2957 {l k : Nat} (h : l < 2) (hk : k < 400) : 2959 + 401 * l + k < NC := by show _ < 3771; omega
theorem g_X8_linkRow_0 {E : JE} {u : JM} {K : Nat → JM → Prop}  {a1 : Int32}
    (h : ((¬ a1 = 0 → ((¬ a1 = 1 → ((¬ a1 = 2 → K 141 u) ∧
   (a1 = 2 → K 140 u))) ∧
  (a1 = 1 → K 139 u))) ∧
 (a1 = 0 → K 138 u)))
    : JVa E 1 YX8_linkRow K 0 [some (.ref 137), some (.int a1)] [] u := by
  refine jv_iload_n dX8_linkRow_0 rfl ?_
  refine jv_if_ne (t := 11) dX8_linkRow_1 rfl (fun c1 => ?_) (fun c1 => ?_)
  · replace h := h.1 c1
    refine jv_iload_n dX8_linkRow_11 rfl ?_
    refine jv_iconst dX8_linkRow_12 ci_iconst_1 ?_
    refine jv_icmp_ne (t := 23) dX8_linkRow_13 rfl (fun c2 => ?_) (fun c2 => ?_)
    · replace h := h.1 c2
      refine jv_iload_n dX8_linkRow_23 rfl ?_
      refine jv_iconst dX8_linkRow_24 ci_iconst_2 ?_
      refine jv_icmp_ne (t := 35) dX8_linkRow_25 rfl (fun c3 => ?_) (fun c3 => ?_)
      · replace h := h.1 c3
        refine jv_aload_n dX8_linkRow_35 rfl ?_
        refine gf_8_19 rfl dX8_linkRow_36 kd_c_137 (lt_c 137 rfl) rf_c_137_4 ?_
        exact jm_areturn dX8_linkRow_39 rfl h
      · replace h := h.2 c3
        refine jv_aload_n dX8_linkRow_28 rfl ?_
        refine gf_8_16 rfl dX8_linkRow_29 kd_c_137 (lt_c 137 rfl) rf_c_137_3 ?_
        refine jv_goto (t := 39) dX8_linkRow_32 rfl ?_
        exact jm_areturn dX8_linkRow_39 rfl h
    · replace h := h.2 c2
      refine jv_aload_n dX8_linkRow_16 rfl ?_
      refine gf_8_13 rfl dX8_linkRow_17 kd_c_137 (lt_c 137 rfl) rf_c_137_2 ?_
      refine jv_goto (t := 39) dX8_linkRow_20 rfl ?_
      exact jm_areturn dX8_linkRow_39 rfl h
  · replace h := h.2 c1
    refine jv_aload_n dX8_linkRow_4 rfl ?_
    refine gf_8_9 rfl dX8_linkRow_5 kd_c_137 (lt_c 137 rfl) rf_c_137_1 ?_
    refine jv_goto (t := 39) dX8_linkRow_8 rfl ?_
    exact jm_areturn dX8_linkRow_39 rfl h
theorem g_X8_knownRow_0 {E : JE} {u : JM} {K : Nat → JM → Prop}  {a1 : Int32}
    (h : ((¬ a1 = 0 → ((¬ a1 = 1 → ((¬ a1 = 2 → K 146 u) ∧
   (a1 = 2 → K 145 u))) ∧
  (a1 = 1 → K 144 u))) ∧
 (a1 = 0 → K 143 u)))
    : JVa E 1 YX8_knownRow K 0 [some (.ref 137), some (.int a1)] [] u := by
  refine jv_iload_n dX8_knownRow_0 rfl ?_
  refine jv_if_ne (t := 11) dX8_knownRow_1 rfl (fun c1 => ?_) (fun c1 => ?_)
  · replace h := h.1 c1
    refine jv_iload_n dX8_knownRow_11 rfl ?_
    refine jv_iconst dX8_knownRow_12 ci_iconst_1 ?_
    refine jv_icmp_ne (t := 23) dX8_knownRow_13 rfl (fun c2 => ?_) (fun c2 => ?_)
    · replace h := h.1 c2
      refine jv_iload_n dX8_knownRow_23 rfl ?_
      refine jv_iconst dX8_knownRow_24 ci_iconst_2 ?_
      refine jv_icmp_ne (t := 35) dX8_knownRow_25 rfl (fun c3 => ?_) (fun c3 => ?_)
      · replace h := h.1 c3
        refine jv_aload_n dX8_knownRow_35 rfl ?_
        refine gf_8_34 rfl dX8_knownRow_36 kd_c_137 (lt_c 137 rfl) rf_c_137_9 ?_
        exact jm_areturn dX8_knownRow_39 rfl h
      · replace h := h.2 c3
        refine jv_aload_n dX8_knownRow_28 rfl ?_
        refine gf_8_31 rfl dX8_knownRow_29 kd_c_137 (lt_c 137 rfl) rf_c_137_8 ?_
        refine jv_goto (t := 39) dX8_knownRow_32 rfl ?_
        exact jm_areturn dX8_knownRow_39 rfl h
    · replace h := h.2 c2
      refine jv_aload_n dX8_knownRow_16 rfl ?_
      refine gf_8_28 rfl dX8_knownRow_17 kd_c_137 (lt_c 137 rfl) rf_c_137_7 ?_
      refine jv_goto (t := 39) dX8_knownRow_20 rfl ?_
      exact jm_areturn dX8_knownRow_39 rfl h
  · replace h := h.2 c1
    refine jv_aload_n dX8_knownRow_4 rfl ?_
    refine gf_8_25 rfl dX8_knownRow_5 kd_c_137 (lt_c 137 rfl) rf_c_137_6 ?_
    refine jv_goto (t := 39) dX8_knownRow_8 rfl ?_
    exact jm_areturn dX8_knownRow_39 rfl h
theorem g_X8_waitingRow_0 {E : JE} {u : JM} {K : Nat → JM → Prop}  {a1 : Int32}
    (h : ((¬ a1 = 0 → ((¬ a1 = 1 → ((¬ a1 = 2 → ((¬ a1 = 3 → ((¬ a1 = 4 → K 538 u) ∧
     (a1 = 4 → K 537 u))) ∧
    (a1 = 3 → K 536 u))) ∧
   (a1 = 2 → K 535 u))) ∧
  (a1 = 1 → K 534 u))) ∧
 (a1 = 0 → K 533 u)))
    : JVa E 1 YX8_waitingRow K 0 [some (.ref 137), some (.int a1)] [] u := by
  refine jv_iload_n dX8_waitingRow_0 rfl ?_
  refine jv_if_ne (t := 11) dX8_waitingRow_1 rfl (fun c1 => ?_) (fun c1 => ?_)
  · replace h := h.1 c1
    refine jv_iload_n dX8_waitingRow_11 rfl ?_
    refine jv_iconst dX8_waitingRow_12 ci_iconst_1 ?_
    refine jv_icmp_ne (t := 23) dX8_waitingRow_13 rfl (fun c2 => ?_) (fun c2 => ?_)
    · replace h := h.1 c2
      refine jv_iload_n dX8_waitingRow_23 rfl ?_
      refine jv_iconst dX8_waitingRow_24 ci_iconst_2 ?_
      refine jv_icmp_ne (t := 35) dX8_waitingRow_25 rfl (fun c3 => ?_) (fun c3 => ?_)
      · replace h := h.1 c3
        refine jv_iload_n dX8_waitingRow_35 rfl ?_
        refine jv_iconst dX8_waitingRow_36 ci_iconst_3 ?_
        refine jv_icmp_ne (t := 47) dX8_waitingRow_37 rfl (fun c4 => ?_) (fun c4 => ?_)
        · replace h := h.1 c4
          refine jv_iload_n dX8_waitingRow_47 rfl ?_
          refine jv_iconst dX8_waitingRow_48 ci_iconst_4 ?_
          refine jv_icmp_ne (t := 59) dX8_waitingRow_49 rfl (fun c5 => ?_) (fun c5 => ?_)
          · replace h := h.1 c5
            refine jv_aload_n dX8_waitingRow_59 rfl ?_
            refine gf_8_60 rfl dX8_waitingRow_60 kd_c_137 (lt_c 137 rfl) rf_c_137_20 ?_
            exact jm_areturn dX8_waitingRow_63 rfl h
          · replace h := h.2 c5
            refine jv_aload_n dX8_waitingRow_52 rfl ?_
            refine gf_8_57 rfl dX8_waitingRow_53 kd_c_137 (lt_c 137 rfl) rf_c_137_19 ?_
            refine jv_goto (t := 63) dX8_waitingRow_56 rfl ?_
            exact jm_areturn dX8_waitingRow_63 rfl h
        · replace h := h.2 c4
          refine jv_aload_n dX8_waitingRow_40 rfl ?_
          refine gf_8_54 rfl dX8_waitingRow_41 kd_c_137 (lt_c 137 rfl) rf_c_137_18 ?_
          refine jv_goto (t := 63) dX8_waitingRow_44 rfl ?_
          exact jm_areturn dX8_waitingRow_63 rfl h
      · replace h := h.2 c3
        refine jv_aload_n dX8_waitingRow_28 rfl ?_
        refine gf_8_51 rfl dX8_waitingRow_29 kd_c_137 (lt_c 137 rfl) rf_c_137_17 ?_
        refine jv_goto (t := 63) dX8_waitingRow_32 rfl ?_
        exact jm_areturn dX8_waitingRow_63 rfl h
    · replace h := h.2 c2
      refine jv_aload_n dX8_waitingRow_16 rfl ?_
      refine gf_8_48 rfl dX8_waitingRow_17 kd_c_137 (lt_c 137 rfl) rf_c_137_16 ?_
      refine jv_goto (t := 63) dX8_waitingRow_20 rfl ?_
      exact jm_areturn dX8_waitingRow_63 rfl h
  · replace h := h.2 c1
    refine jv_aload_n dX8_waitingRow_4 rfl ?_
    refine gf_8_45 rfl dX8_waitingRow_5 kd_c_137 (lt_c 137 rfl) rf_c_137_15 ?_
    refine jv_goto (t := 63) dX8_waitingRow_8 rfl ?_
    exact jm_areturn dX8_waitingRow_63 rfl h
theorem i32_eq {a : Int32} {k n : Nat} (h : a.toInt = k) (hn : k < 2147483648) : a.toNatClampNeg = k := by
  show a.toInt.toNat = k
  omega
theorem p_X8_linkRow {E : JE} {u : JM} {K : Nat → JM → Prop}  {a1 : Int32} (b : vp_in a1 4) (hK : K (138 + a1.toNatClampNeg) u) : JCa E 1 YX8_linkRow [.ref 137, .int a1] K u := by
  refine JCa.ofV (ls := [some (.ref 137), some (.int a1)]) (by decide +kernel) (Nat.le_of_ble_eq_true rfl) rfl rfl (g_X8_linkRow_0  ?_)
  obtain ⟨k, hk, rfl⟩ := vp_in_of b (by decide)
  rw [nI_cl (by omega)] at hK
  rcases (show k = 0 ∨ k = 1 ∨ k = 2 ∨ k = 3 by omega) with rfl | rfl | rfl | rfl
  all_goals (repeat' (first | apply And.intro | intro c))
  all_goals first | exact hK | (exfalso; revert c; decide) | (exfalso; rename_i c; revert c; decide) | (exfalso; simp_all (config := { decide := true }))
theorem p_X8_knownRow {E : JE} {u : JM} {K : Nat → JM → Prop}  {a1 : Int32} (b : vp_in a1 4) (hK : K (143 + a1.toNatClampNeg) u) : JCa E 1 YX8_knownRow [.ref 137, .int a1] K u := by
  refine JCa.ofV (ls := [some (.ref 137), some (.int a1)]) (by decide +kernel) (Nat.le_of_ble_eq_true rfl) rfl rfl (g_X8_knownRow_0  ?_)
  obtain ⟨k, hk, rfl⟩ := vp_in_of b (by decide)
  rw [nI_cl (by omega)] at hK
  rcases (show k = 0 ∨ k = 1 ∨ k = 2 ∨ k = 3 by omega) with rfl | rfl | rfl | rfl
  all_goals (repeat' (first | apply And.intro | intro c))
  all_goals first | exact hK | (exfalso; revert c; decide) | (exfalso; rename_i c; revert c; decide) | (exfalso; simp_all (config := { decide := true }))
theorem p_X8_waitingRow {E : JE} {u : JM} {K : Nat → JM → Prop}  {a1 : Int32} (b : vp_in a1 6) (hK : K (533 + a1.toNatClampNeg) u) : JCa E 1 YX8_waitingRow [.ref 137, .int a1] K u := by
  refine JCa.ofV (ls := [some (.ref 137), some (.int a1)]) (by decide +kernel) (Nat.le_of_ble_eq_true rfl) rfl rfl (g_X8_waitingRow_0  ?_)
  obtain ⟨k, hk, rfl⟩ := vp_in_of b (by decide)
  rw [nI_cl (by omega)] at hK
  rcases (show k = 0 ∨ k = 1 ∨ k = 2 ∨ k = 3 ∨ k = 4 ∨ k = 5 by omega) with rfl | rfl | rfl | rfl | rfl | rfl
  all_goals (repeat' (first | apply And.intro | intro c))
  all_goals first | exact hK | (exfalso; revert c; decide) | (exfalso; rename_i c; revert c; decide) | (exfalso; simp_all (config := { decide := true }))
