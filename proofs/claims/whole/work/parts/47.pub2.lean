/-! the class's public methods: what is read -/
theorem bd_iff {A : Nat} (hA : A < 8) : (¬ nI A &&& 1 = 0 ∧ ¬ nI A = 1) ↔ (A.testBit 0 = true ∧ A ≠ 1) := by
  have h : ((List.range 8).all fun A => decide ((¬ nI A &&& 1 = 0 ∧ ¬ nI A = 1) ↔ (A.testBit 0 = true ∧ A ≠ 1))) = true := by decide +kernel
  exact of_decide_eq_true (List.all_eq_true.mp h A (List.mem_range.mpr hA))
theorem jb_congr {p q : Prop} [Decidable p] [Decidable q] (h : p ↔ q) : jb p = jb q := by
  by_cases c : p
  · rw [jb_t c, jb_t (h.mp c)]
  · rw [jb_f c, jb_f (fun g => c (h.mpr g))]
theorem wN_nI {n m : Nat} {a : Int32} (hm : m < 2147483647) (hn : n ≤ m) (h : isLk n a) : ∃ k, k < n ∧ a = nI k := by
  obtain ⟨k, h1, h2⟩ := rg_nI (a := a) (hi := n - 1) (by omega) ⟨h.1, by have := h.2; omega⟩
  refine ⟨k, ?_, h2⟩
  have h3 := h.2
  rw [h2, nI_toInt (by omega)] at h3
  omega
def anRouter (s : St) (a1 a2 : Int32) : Int32 := if rg a1 0 7 ∧ rg a2 0 3 then (if a2 = 0 then nI (arS s a1.toNatClampNeg) else if a2 = 1 then jb ((arS s a1.toNatClampNeg).testBit 0 = true ∧ arS s a1.toNatClampNeg ≠ 1) else if a2 = 2 then nI (knS s a1.toNatClampNeg) else nI (slS s a1.toNatClampNeg)) else -2
theorem c_X7_router {E : JE} {u : JM} {K : Int32 → JM → Prop}  {a1 a2 : Int32} {s : St} (c : CN 1 s u) (wL : WL s) (wK : WK s) (hK : K (anRouter s a1 a2) u) : JCi E 4 YX7_router [.ref 0, .int a1, .int a2] K u := by
  refine JCi.ofV (ls := [some (.ref 0), some (.int a1), some (.int a2)]) (by decide +kernel) (Nat.le_of_ble_eq_true rfl) rfl rfl (g_X7_router_0  ?_)
  unfold anRouter at hK
  by_cases ok : rg a1 0 7 ∧ rg a2 0 3
  · rw [if_pos ok] at hK
    obtain ⟨o1, o2⟩ := ok
    obtain ⟨r, hr, rfl⟩ := rt_nI o1
    rw [nI_cl (show r < 2147483648 by omega)] at hK
    refine ⟨fun _ => ⟨fun q => ?_, fun q => ?_, fun q => ?_, fun q => ?_, fun q0 q1 q2 q3 => ?_⟩, fun q => absurd o1 (jb_0.mp q)⟩
    · rw [if_pos q] at hK
      exact c_X1_areasOf isN1 c.1 wL hr hK
    · rw [q, if_neg (by decide), if_pos rfl] at hK
      refine c_X1_areasOf isN1 c.1 wL hr ?_
      rw [jb_congr (bd_iff (arS_lt s r))]
      exact ⟨fun g => by rw [g] at hK; exact hK, fun g => by rw [jb_t (jb_n0.mp g)] at hK; exact hK⟩
    · rw [q, if_neg (by decide), if_neg (by decide), if_pos rfl] at hK
      exact c_X2_knownTo isN1 c.2.1 wK hr hK
    · rw [q, if_neg (by decide), if_neg (by decide), if_neg (by decide)] at hK
      exact c_X2_staleTo isN1 c.1 c.2.1 wL wK hr hK
    · exfalso
      simp only [Int32.lt_iff_toInt_lt, Int32.le_iff_toInt_le, ← Int32.toInt_inj, tI_m14, tI_m13, tI_m12, tI_m11, tI_m10, tI_m9, tI_m8, tI_m7, tI_m6, tI_m5, tI_m4, tI_m3, tI_m2, tI_m1, tI_0, tI_1, tI_2, tI_3, tI_4, tI_5, tI_6, tI_7, tI_8, tI_9, tI_10, tI_11, tI_12, tI_13, tI_14, tI_15, tI_16, tI_17, tI_18, tI_19, tI_20, tI_21, tI_22, tI_23, tI_24, tI_25, tI_26, tI_27, tI_28, tI_29, tI_30, tI_31, tI_32, tI_33, tI_34, tI_35, tI_36, tI_37, tI_38, tI_39, tI_40, tI_60, tI_63, tI_80, tI_99, tI_192, tI_400, tI_9999, tI_12345] at *
      omega
  · rw [if_neg ok] at hK
    by_cases o1 : rg a1 0 7
    · refine ⟨fun _ => ⟨fun q => ?_, fun q => ?_, fun q => ?_, fun q => ?_, fun _ _ _ _ => hK⟩, fun q => hK⟩
      all_goals (exfalso; apply ok; rw [q]; exact ⟨o1, by decide⟩)
    · exact ⟨fun q => absurd (jb_n0.mp q) o1, fun _ => hK⟩
def tkB (A : Nat) (a2 : Int32) : Bool := if a2 = 0 then decide (A ≠ 0) else if a2 = 1 then decide (A.testBit 0 = true ∧ A ≠ 1) else decide (A = 1)
def anTaken (s : St) (a1 a2 : Int32) : Int32 := if rg a1 0 7 ∧ rg a2 0 2 then (if tkB (arS s a1.toNatClampNeg) a2 = true then nI (cntP (s 0 0) fun l => upB s l a1.toNatClampNeg) else -13) else -2
theorem c_X7_taken {E : JE} {u : JM} {K : Int32 → JM → Prop}  {a1 a2 : Int32} {s : St} (c : CN 1 s u) (wL : WL s) (hK : K (anTaken s a1 a2) u) : JCi E 3 YX7_taken [.ref 0, .int a1, .int a2] K u := by
  refine JCi.ofV (ls := [some (.ref 0), some (.int a1), some (.int a2), none, none]) (by decide +kernel) (Nat.le_of_ble_eq_true rfl) rfl rfl (g_X7_taken_0  ?_)
  unfold anTaken at hK
  by_cases ok : rg a1 0 7 ∧ rg a2 0 2
  · rw [if_pos ok] at hK
    obtain ⟨o1, o2⟩ := ok
    refine ⟨fun q => absurd o1 (jb_0.mp q), fun _ => ⟨fun q => absurd q (by simp only [Int32.lt_iff_toInt_lt, Int32.le_iff_toInt_le, ← Int32.toInt_inj, tI_m14, tI_m13, tI_m12, tI_m11, tI_m10, tI_m9, tI_m8, tI_m7, tI_m6, tI_m5, tI_m4, tI_m3, tI_m2, tI_m1, tI_0, tI_1, tI_2, tI_3, tI_4, tI_5, tI_6, tI_7, tI_8, tI_9, tI_10, tI_11, tI_12, tI_13, tI_14, tI_15, tI_16, tI_17, tI_18, tI_19, tI_20, tI_21, tI_22, tI_23, tI_24, tI_25, tI_26, tI_27, tI_28, tI_29, tI_30, tI_31, tI_32, tI_33, tI_34, tI_35, tI_36, tI_37, tI_38, tI_39, tI_40, tI_60, tI_63, tI_80, tI_99, tI_192, tI_400, tI_9999, tI_12345] at *; omega), fun _ => ⟨fun _ => ?_, fun q => absurd (by simp only [Int32.lt_iff_toInt_lt, Int32.le_iff_toInt_le, ← Int32.toInt_inj, tI_m14, tI_m13, tI_m12, tI_m11, tI_m10, tI_m9, tI_m8, tI_m7, tI_m6, tI_m5, tI_m4, tI_m3, tI_m2, tI_m1, tI_0, tI_1, tI_2, tI_3, tI_4, tI_5, tI_6, tI_7, tI_8, tI_9, tI_10, tI_11, tI_12, tI_13, tI_14, tI_15, tI_16, tI_17, tI_18, tI_19, tI_20, tI_21, tI_22, tI_23, tI_24, tI_25, tI_26, tI_27, tI_28, tI_29, tI_30, tI_31, tI_32, tI_33, tI_34, tI_35, tI_36, tI_37, tI_38, tI_39, tI_40, tI_60, tI_63, tI_80, tI_99, tI_192, tI_400, tI_9999, tI_12345] at *; omega) q⟩⟩⟩
    obtain ⟨r, hr, rfl⟩ := rt_nI o1
    rw [nI_cl (show r < 2147483648 by omega)] at hK
    refine c_X1_areasOf isN1 c.1 wL hr fun v hv => ?_
    have hA := arS_lt s r
    have ev : (v = 0) ↔ ¬ tkB (arS s r) a2 = true := by
      rw [hv]
      unfold tkB
      by_cases g0 : a2 = 0
      · rw [if_pos g0, if_pos g0]
        by_cases g : arS s r = 0
        · rw [if_pos (show nI (arS s r) = 0 by rw [g]; rfl)]; simp [g]
        · rw [if_neg (show ¬ nI (arS s r) = 0 from fun z => g (nI_inj (b := 0) (by omega) (by omega) z))]; simp [g]
      · rw [if_neg g0, if_neg g0]
        by_cases g1 : a2 = 1
        · rw [if_pos g1, if_pos g1, jb_congr (bd_iff hA), jb_0]
          simp
        · rw [if_neg g1, if_neg g1]
          by_cases g : arS s r = 1
          · rw [if_pos (show nI (arS s r) = 1 by rw [g]; rfl)]; simp [g]
          · rw [if_neg (show ¬ nI (arS s r) = 1 from fun z => g (nI_inj (b := 1) (by omega) (by omega) z))]; simp [g]
    refine ⟨fun q => ?_, fun q => ?_⟩
    · rw [if_neg (ev.mp q)] at hK; exact hK
    · rw [if_pos (Classical.byContradiction fun g => q (ev.mpr g))] at hK
      exact c_X1_upOf isN1 c.1 wL hr hK
  · rw [if_neg ok] at hK
    repeat' (first | apply And.intro | intro q_)
    all_goals first | exact hK | (exfalso; (try simp only [jb_0, jb_n0, ne_eq] at *); simp only [Int32.lt_iff_toInt_lt, Int32.le_iff_toInt_le, ← Int32.toInt_inj, tI_m14, tI_m13, tI_m12, tI_m11, tI_m10, tI_m9, tI_m8, tI_m7, tI_m6, tI_m5, tI_m4, tI_m3, tI_m2, tI_m1, tI_0, tI_1, tI_2, tI_3, tI_4, tI_5, tI_6, tI_7, tI_8, tI_9, tI_10, tI_11, tI_12, tI_13, tI_14, tI_15, tI_16, tI_17, tI_18, tI_19, tI_20, tI_21, tI_22, tI_23, tI_24, tI_25, tI_26, tI_27, tI_28, tI_29, tI_30, tI_31, tI_32, tI_33, tI_34, tI_35, tI_36, tI_37, tI_38, tI_39, tI_40, tI_60, tI_63, tI_80, tI_99, tI_192, tI_400, tI_9999, tI_12345] at *; omega)
noncomputable def anTicks (s : St) (n : Nat) : Int32 := nI (ticksS s n 22 0) - nI (s 22 0)
theorem c_X7_tick {E : JE} {u : JM} {K : Int32 → JM → Prop}  {w : Wd} {T : Nat} (c : CW w u) (ww : NW w.1) (hT : w.1 21 0 + 90 < 1000000000)
    (hK : ∀ u', same u u' inC → CW (ticksS w.1 1, w.2) u' → K (anTicks w.1 1) u') : JCi E 7 YX7_tick [.ref 0] K u := by
  refine JCi.ofV (ls := [some (.ref 0)]) (by decide +kernel) (Nat.le_of_ble_eq_true rfl) rfl rfl (g_X7_tick_0  ?_)
  refine c_X2_advance (n := 1) isN1 c.1 ww (by omega) fun u' hs hC => ?_
  exact hK u' (hs.mono fun b q => by unfold inNet at q; unfold inC; omega) (c.live hs hC)
noncomputable def anTks (s : St) (a1 : Int32) : Int32 := if rg a1 0 80 then anTicks s a1.toNatClampNeg else -2
noncomputable def nxTks (w : Wd) (a1 : Int32) : Wd := if rg a1 0 80 then (ticksS w.1 a1.toNatClampNeg, w.2) else w
theorem c_X7_ticks {E : JE} {u : JM} {K : Int32 → JM → Prop}  {a1 : Int32} {w : Wd} (c : CW w u) (ww : NW w.1) (hT : w.1 21 0 + 90 < 1000000000)
    (hK : ∀ u', same u u' inC → CW (nxTks w a1) u' → K (anTks w.1 a1) u') : JCi E 7 YX7_ticks [.ref 0, .int a1] K u := by
  refine JCi.ofV (ls := [some (.ref 0), some (.int a1)]) (by decide +kernel) (Nat.le_of_ble_eq_true rfl) rfl rfl (g_X7_ticks_0  ?_)
  by_cases ok : rg a1 0 80
  · unfold anTks nxTks at hK
    rw [if_pos ok, if_pos ok] at hK
    obtain ⟨n, hn, rfl⟩ := rg_nI (hi := 80) (by decide) ok
    rw [nI_cl (show n < 2147483648 by omega)] at hK
    refine ⟨fun q => absurd q (nI_nn (by omega)), fun _ => ⟨fun _ => ?_, fun q => absurd (show nI n ≤ nI 80 from nI_le hn (by decide)) q⟩⟩
    refine c_X2_advance isN1 c.1 ww (by omega) fun u' hs hC => ?_
    exact hK u' (hs.mono fun b q => by unfold inNet at q; unfold inC; omega) (c.live hs hC)
  · have hB : K (-2) u := by
      have := hK u same.rfl (by unfold nxTks; rw [if_neg ok]; exact c)
      unfold anTks at this
      rwa [if_neg ok] at this
    clear hK
    repeat' (first | apply And.intro | intro q_)
    all_goals first | exact hB | (exfalso; (try simp only [jb_0, jb_n0, ne_eq] at *); simp only [Int32.lt_iff_toInt_lt, Int32.le_iff_toInt_le, ← Int32.toInt_inj, tI_m14, tI_m13, tI_m12, tI_m11, tI_m10, tI_m9, tI_m8, tI_m7, tI_m6, tI_m5, tI_m4, tI_m3, tI_m2, tI_m1, tI_0, tI_1, tI_2, tI_3, tI_4, tI_5, tI_6, tI_7, tI_8, tI_9, tI_10, tI_11, tI_12, tI_13, tI_14, tI_15, tI_16, tI_17, tI_18, tI_19, tI_20, tI_21, tI_22, tI_23, tI_24, tI_25, tI_26, tI_27, tI_28, tI_29, tI_30, tI_31, tI_32, tI_33, tI_34, tI_35, tI_36, tI_37, tI_38, tI_39, tI_40, tI_60, tI_63, tI_80, tI_99, tI_192, tI_400, tI_9999, tI_12345] at *; omega)
def anAdvert (s : St) (a1 a2 a3 a4 : Int32) : Int32 := if rg a1 0 7 ∧ rg a2 0 7 ∧ rg a3 0 2 ∧ isAdvW a4 then
    (if s 7 (rw8 a1.toNatClampNeg a3.toNatClampNeg a2.toNatClampNeg) = 0 then -3 else if a4 = 0 then nI (s 7 (rw8 a1.toNatClampNeg a3.toNatClampNeg a2.toNatClampNeg)) else if a4 = 1 then nI (s 8 (rw8 a1.toNatClampNeg a3.toNatClampNeg a2.toNatClampNeg)) else if a4 = 2 then nI (lks s (rw8 a1.toNatClampNeg a3.toNatClampNeg a2.toNatClampNeg))
     else if 30 ≤ a4.toNatClampNeg then nI (s 10 (rw8 a1.toNatClampNeg a3.toNatClampNeg a2.toNatClampNeg * 8 + (a4.toNatClampNeg - 30))) else ccst (s 9 (rw8 a1.toNatClampNeg a3.toNatClampNeg a2.toNatClampNeg * 12 + (a4.toNatClampNeg - 10)))) else -2
theorem nI_sub {a b : Nat} (h : b ≤ a) : nI a - nI b = nI (a - b) := by
  obtain ⟨c, rfl⟩ : ∃ c, a = b + c := ⟨a - b, by omega⟩
  rw [← nI_add, show b + c - b = c by omega]
  apply Int32.toBitVec_inj.1
  show BitVec.ofNat 32 b + BitVec.ofNat 32 c - BitVec.ofNat 32 b = BitVec.ofNat 32 c
  rw [BitVec.add_comm, BitVec.add_sub_cancel]
theorem c_X7_advert {E : JE} {u : JM} {K : Int32 → JM → Prop}  {a1 a2 a3 a4 : Int32} {s : St} (c : CN 1 s u) (wK : WK s) (hK : K (anAdvert s a1 a2 a3 a4) u) : JCi E 2 YX7_advert [.ref 0, .int a1, .int a2, .int a3, .int a4] K u := by
  refine JCi.ofV (ls := [some (.ref 0), some (.int a1), some (.int a2), some (.int a3), some (.int a4), none, none]) (by decide +kernel) (Nat.le_of_ble_eq_true rfl) rfl rfl (g_X7_advert_0  ?_)
  unfold anAdvert at hK
  by_cases ok : rg a1 0 7 ∧ rg a2 0 7 ∧ rg a3 0 2 ∧ isAdvW a4
  · rw [if_pos ok] at hK
    obtain ⟨o1, o2, o3, o4⟩ := ok
    refine ⟨fun q => absurd o1 (jb_0.mp q), fun _ => ⟨fun q => absurd o2 (jb_0.mp q), fun _ => ⟨fun q => absurd o3 (jb_0.mp q), fun _ => ⟨fun _ => ?_, fun q => absurd o4 (jb_0.mp q)⟩⟩⟩⟩
    obtain ⟨r, hr, rfl⟩ := rt_nI o1
    obtain ⟨o, ho, rfl⟩ := rt_nI o2
    obtain ⟨a, ha, rfl⟩ := ar_nI o3
    obtain ⟨x, hx, rfl⟩ : ∃ x, (x ≤ 2 ∨ (10 ≤ x ∧ x ≤ 21) ∨ (30 ≤ x ∧ x ≤ 37)) ∧ a4 = nI x := by
      obtain ⟨x, h1, rfl⟩ := rg_nI (a := a4) (hi := 37) (by decide) (by unfold isAdvW at o4; unfold rg; omega)
      refine ⟨x, ?_, rfl⟩
      unfold isAdvW rg at o4
      rw [nI_toInt (by omega)] at o4
      omega
    rw [nI_cl (show r < 2147483648 by omega), nI_cl (show o < 2147483648 by omega), nI_cl (show a < 2147483648 by omega), nI_cl (show x < 2147483648 by omega)] at hK
    intro i hi
    rw [row_nI] at hi
    subst hi
    have hrow := rw8_lt hr ha ho
    generalize rw8 r a o = row at *
    obtain ⟨k1, k2, k3⟩ := c.2.1 row hrow
    have k7 := (wK row hrow).1
    rw [nI_cl (show row < 2147483648 by omega), show u 11 row = nI (s 7 row) from k1, show u 13 row = nI (lks s row) from k2]
    have n0 : ∀ k : Nat, k < 10 → (nI x = nI k ↔ x = k) := fun k hk => nI_eq (by omega) (by omega)
    refine ⟨vpI hrow (by omega), fun q => ?_, fun q => ?_⟩
    · have q' : ¬ s 7 row = 0 := fun g => q (by rw [g]; rfl)
      obtain ⟨g1, g2, g3⟩ := k3 (by omega)
      rw [if_neg q'] at hK
      rw [show u 12 row = nI (s 8 row) from g1]
      refine ⟨fun z => by rw [if_pos z] at hK; exact hK, fun z => by rw [if_neg (by rw [z]; decide), if_pos z] at hK; exact hK, fun z => by rw [if_neg (by rw [z]; decide), if_neg (by rw [z]; decide), if_pos z] at hK; exact hK, fun z0 z1 z2 => ?_⟩
      rw [if_neg z0, if_neg z1, if_neg z2] at hK
      replace z0 : ¬ x = 0 := fun g => z0 (by rw [g]; rfl)
      replace z1 : ¬ x = 1 := fun g => z1 (by rw [g]; rfl)
      replace z2 : ¬ x = 2 := fun g => z2 (by rw [g]; rfl)
      rw [show (30 : Int32) = nI 30 from rfl, show (10 : Int32) = nI 10 from rfl, show (8 : Int32) = nI 8 from rfl, show (12 : Int32) = nI 12 from rfl, nI_mul, nI_mul, nI_add, nI_add]
      refine ⟨fun z => ?_, fun z => ?_⟩
      · have z' : 30 ≤ x := Nat.le_of_not_lt fun g => nI_ge g (by omega) z
        rw [if_pos z'] at hK
        rw [nI_sub (by omega), nI_cl (by omega), show row * 8 + x - 30 = row * 8 + (x - 30) by omega, show u 15 (row * 8 + (x - 30)) = _ from g3 (x - 30) (by omega)]
        exact ⟨vpI (by omega) (by omega), hK⟩
      · have z' : ¬ 30 ≤ x := fun g => z (nI_le g (by omega))
        rw [if_neg z'] at hK
        rw [nI_sub (by omega), nI_cl (by omega), show row * 12 + x - 10 = row * 12 + (x - 10) by omega, show u 14 (row * 12 + (x - 10)) = _ from g2 (x - 10) (by omega)]
        exact ⟨vpI (by omega) (by omega), hK⟩
    · have q' : s 7 row = 0 := nI_inj (by omega) (by omega) (q.trans (show (0 : Int32) = nI 0 from rfl))
      rw [if_pos q'] at hK
      exact hK
  · rw [if_neg ok] at hK
    by_cases o1 : rg a1 0 7
    · refine ⟨fun q => hK, fun _ => ?_⟩
      by_cases o2 : rg a2 0 7
      · refine ⟨fun q => hK, fun _ => ?_⟩
        by_cases o3 : rg a3 0 2
        · exact ⟨fun q => hK, fun _ => ⟨fun q => absurd ⟨o1, o2, o3, jb_n0.mp q⟩ ok, fun _ => hK⟩⟩
        · exact ⟨fun q => hK, fun q => absurd (jb_n0.mp q) o3⟩
      · exact ⟨fun q => hK, fun q => absurd (jb_n0.mp q) o2⟩
    · exact ⟨fun q => hK, fun q => absurd (jb_n0.mp q) o1⟩
def anMessage (s : St) (a1 a2 : Int32) : Int32 := if rg a2 0 4 then (if isLk (s 13 0) a1 then (if a2 = 0 then nI (s 14 a1.toNatClampNeg) else if a2 = 1 then nI (s 15 a1.toNatClampNeg) else if a2 = 2 then nI (s 16 a1.toNatClampNeg) else if a2 = 3 then nI (s 3 (s 14 a1.toNatClampNeg)) else nI (s 17 a1.toNatClampNeg)) else -12) else -2
theorem c_X7_message {E : JE} {u : JM} {K : Int32 → JM → Prop}  {a1 a2 : Int32} {s : St} (c : CN 1 s u) (wL : WL s) (wM : WM s) (hK : K (anMessage s a1 a2) u) : JCi E 1 YX7_message [.ref 0, .int a1, .int a2] K u := by
  refine JCi.ofV (ls := [some (.ref 0), some (.int a1), some (.int a2)]) (by decide +kernel) (Nat.le_of_ble_eq_true rfl) rfl rfl (g_X7_message_0  ?_)
  unfold anMessage at hK
  have m192 := wM.1
  have em : u 1 6 = nI (s 13 0) := c.2.2.1.1
  rw [em, i32_lt (by omega)]
  by_cases ok : rg a2 0 4
  · rw [if_pos ok] at hK
    refine ⟨fun q => absurd q (by simp only [Int32.lt_iff_toInt_lt, Int32.le_iff_toInt_le, ← Int32.toInt_inj, tI_m14, tI_m13, tI_m12, tI_m11, tI_m10, tI_m9, tI_m8, tI_m7, tI_m6, tI_m5, tI_m4, tI_m3, tI_m2, tI_m1, tI_0, tI_1, tI_2, tI_3, tI_4, tI_5, tI_6, tI_7, tI_8, tI_9, tI_10, tI_11, tI_12, tI_13, tI_14, tI_15, tI_16, tI_17, tI_18, tI_19, tI_20, tI_21, tI_22, tI_23, tI_24, tI_25, tI_26, tI_27, tI_28, tI_29, tI_30, tI_31, tI_32, tI_33, tI_34, tI_35, tI_36, tI_37, tI_38, tI_39, tI_40, tI_60, tI_63, tI_80, tI_99, tI_192, tI_400, tI_9999, tI_12345] at *; omega), fun _ => ⟨fun _ => ?_, fun q => absurd (by simp only [Int32.lt_iff_toInt_lt, Int32.le_iff_toInt_le, ← Int32.toInt_inj, tI_m14, tI_m13, tI_m12, tI_m11, tI_m10, tI_m9, tI_m8, tI_m7, tI_m6, tI_m5, tI_m4, tI_m3, tI_m2, tI_m1, tI_0, tI_1, tI_2, tI_3, tI_4, tI_5, tI_6, tI_7, tI_8, tI_9, tI_10, tI_11, tI_12, tI_13, tI_14, tI_15, tI_16, tI_17, tI_18, tI_19, tI_20, tI_21, tI_22, tI_23, tI_24, tI_25, tI_26, tI_27, tI_28, tI_29, tI_30, tI_31, tI_32, tI_33, tI_34, tI_35, tI_36, tI_37, tI_38, tI_39, tI_40, tI_60, tI_63, tI_80, tI_99, tI_192, tI_400, tI_9999, tI_12345] at *; omega) q⟩⟩
    by_cases o1 : isLk (s 13 0) a1
    · rw [if_pos o1] at hK
      refine ⟨fun q => absurd q (i32_n.mpr o1.1), fun _ => ⟨fun _ => ?_, fun q => absurd o1.2 q⟩⟩
      obtain ⟨i, hi, rfl⟩ := wN_nI (m := 192) (by decide) m192 o1
      obtain ⟨⟨r1, -⟩, x1, x2, x3⟩ := c.2.2.1.2 i hi
      have w14 := (wM.2 i hi).1
      have h12 := wL.1
      rw [nI_cl (show i < 2147483648 by omega)] at hK ⊢
      rw [show u 22 i = nI (s 14 i) from x1, show u 23 i = nI (s 15 i) from x2, show u 24 i = nI (s 16 i) from x3, show u 17 i = nI (s 17 i) from r1, nI_cl (show s 14 i < 2147483648 by omega), show u 5 (s 14 i) = nI (s 3 (s 14 i)) from (c.1.2.1 _ w14).2.2.1]
      have hi' : vp_in (nI i) 192 := vpI (by omega) (by omega)
      refine ⟨fun q => ⟨hi', ?_⟩, fun q => ⟨hi', ?_⟩, fun q => ⟨hi', ?_⟩, fun q => ⟨hi', vpI (by omega) (by omega), ?_⟩, fun q0 q1 q2 q3 => ⟨hi', ?_⟩⟩
      · rw [if_pos q] at hK; exact hK
      · rw [q, if_neg (by decide), if_pos rfl] at hK; exact hK
      · rw [q, if_neg (by decide), if_neg (by decide), if_pos rfl] at hK; exact hK
      · rw [q, if_neg (by decide), if_neg (by decide), if_neg (by decide), if_pos rfl] at hK; exact hK
      · rw [if_neg q0, if_neg q1, if_neg q2, if_neg q3] at hK; exact hK
    · rw [if_neg o1] at hK
      exact ⟨fun _ => hK, fun q => ⟨fun q2 => absurd ⟨i32_n.mp q, q2⟩ o1, fun _ => hK⟩⟩
  · rw [if_neg ok] at hK
    exact ⟨fun _ => hK, fun q => ⟨fun q2 => absurd ⟨i32_n.mp q, (i32_le (k := 4) (by decide)).mp q2⟩ ok, fun _ => hK⟩⟩
noncomputable def anWithin (s : St) (a1 a2 a3 a4 : Int32) : Int32 := if rg a1 0 7 ∧ rg a2 0 7 ∧ rg a3 0 2 ∧ rg a4 0 1 then (if a4 = 0 then nI (DS s a1.toNatClampNeg a3.toNatClampNeg a2.toNatClampNeg) else hpI (HS s a1.toNatClampNeg a3.toNatClampNeg a2.toNatClampNeg)) else -2
theorem c_X7_within {E : JE} {u : JM} {K : Int32 → JM → Prop}  {a1 a2 a3 a4 : Int32} {s : St} (c : CN 1 s u) (wL : WL s) (wK : WK s) (hK : ∀ u', same u u' scr → K (anWithin s a1 a2 a3 a4) u') : JCi E 3 YX7_within [.ref 0, .int a1, .int a2, .int a3, .int a4] K u := by
  refine JCi.ofV (ls := [some (.ref 0), some (.int a1), some (.int a2), some (.int a3), some (.int a4), none]) (by decide +kernel) (Nat.le_of_ble_eq_true rfl) rfl rfl (g_X7_within_0  ?_)
  unfold anWithin at hK
  by_cases ok : rg a1 0 7 ∧ rg a2 0 7 ∧ rg a3 0 2 ∧ rg a4 0 1
  · rw [if_pos ok] at hK
    obtain ⟨o1, o2, o3, o4⟩ := ok
    refine ⟨fun q => absurd o1 (jb_0.mp q), fun _ => ⟨fun q => absurd o2 (jb_0.mp q), fun _ => ⟨fun q => absurd o3 (jb_0.mp q), fun _ => ⟨fun q => absurd q (i32_n.mpr o4.1), fun _ => ⟨fun _ => ?_, fun q => absurd ((i32_le (k := 1) (by decide)).mpr o4.2) q⟩⟩⟩⟩⟩
    obtain ⟨r, hr, rfl⟩ := rt_nI o1
    obtain ⟨d, hd, rfl⟩ := rt_nI o2
    obtain ⟨a, ha, rfl⟩ := ar_nI o3
    rw [nI_cl (show r < 2147483648 by omega), nI_cl (show d < 2147483648 by omega), nI_cl (show a < 2147483648 by omega)] at hK
    rw [nI_cl (show a < 2147483648 by omega)]
    refine ⟨vpI ha (by omega), ?_⟩
    refine c_X3_measure (isPaths_R ha) isN1 c.1 c.2.1 wL wK hr ha fun u1 q1 t1 => ?_
    have h := hK u1 (q1.mono fun b q => by unfold inP at q; unfold scr; omega)
    obtain ⟨t2, t3⟩ := t1 d hd
    rw [nI_cl (show d < 2147483648 by omega), t2, t3]
    refine ⟨fun q => ⟨vpI hd (by omega), ?_⟩, fun q => ⟨vpI hd (by omega), ?_⟩⟩
    · rw [if_neg q] at h; exact h
    · rw [if_pos q] at h; exact h
  · rw [if_neg ok] at hK
    have hB := hK u same.rfl
    by_cases o1 : rg a1 0 7
    · refine ⟨fun q => hB, fun _ => ?_⟩
      by_cases o2 : rg a2 0 7
      · refine ⟨fun q => hB, fun _ => ?_⟩
        by_cases o3 : rg a3 0 2
        · exact ⟨fun q => hB, fun _ => ⟨fun q => hB, fun q => ⟨fun q2 => absurd ⟨o1, o2, o3, i32_n.mp q, (i32_le (k := 1) (by decide)).mp q2⟩ ok, fun _ => hB⟩⟩⟩
        · exact ⟨fun q => hB, fun q => absurd (jb_n0.mp q) o3⟩
      · exact ⟨fun q => hB, fun q => absurd (jb_n0.mp q) o2⟩
    · exact ⟨fun q => hB, fun q => absurd (jb_n0.mp q) o1⟩
