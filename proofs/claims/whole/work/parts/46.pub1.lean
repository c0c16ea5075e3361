/-! the class's public methods: links -/
abbrev okL (a1 a2 a3 a4 a5 : Int32) : Prop := rg a1 0 7 ∧ rg a2 0 7 ∧ a1 ≠ a2 ∧ rg a3 0 2 ∧ rg a4 1 99 ∧ rg a5 1 99
def anLink (w : Wd) (a1 a2 a3 a4 a5 : Int32) : Int32 := if okL a1 a2 a3 a4 a5 then (if w.1 0 0 < 12 then nI (w.1 0 0) else -4) else -2
def nxLink (w : Wd) (a1 a2 a3 a4 a5 : Int32) : Wd := if okL a1 a2 a3 a4 a5 ∧ w.1 0 0 < 12 then (addS w.1 a1.toNatClampNeg a2.toNatClampNeg a3.toNatClampNeg a4.toNatClampNeg a5.toNatClampNeg, w.2) else w
theorem CW.cl {w : Wd} {u : JM} (c : CW w u) : u 2 0 = nI (w.1 0 0) ∧ ∀ l, l < w.1 0 0 → u 3 l = nI (w.1 1 l) ∧ u 4 l = nI (w.1 2 l) ∧ u 5 l = nI (w.1 3 l) ∧ u 6 l = nI (w.1 4 l) ∧ u 7 l = nI (w.1 5 l) ∧ u 8 l = nI (w.1 6 l) := ⟨c.1.1.1, c.1.1.2.1⟩
theorem set1_WL {s : St} (w : WL s) {c l v : Nat} (hl : l < s 0 0) (h : (c = 4 ∨ c = 5) ∧ 1 ≤ v ∧ v ≤ 99 ∨ c = 6 ∧ v ≤ 1) : WL (set1 s c l v) := by
  have e : ∀ c', c' ≠ c → set1 s c l v c' = s c' := fun c' q => set1_ne q
  obtain ⟨w1, w2⟩ := w
  refine ⟨by rw [e 0 (by omega)]; exact w1, fun l' hl' => ?_⟩
  rw [e 0 (by omega)] at hl'
  rw [e 1 (by omega), e 2 (by omega), e 3 (by omega)]
  obtain ⟨x1, x2, x3, x4, x5, x6, x7⟩ := w2 l' hl'
  refine ⟨x1, x2, x3, x4, ?_, ?_, ?_⟩
  · by_cases q : c = 4
    · subst q; rw [set1_at]; split <;> omega
    · rw [e 4 (by omega)]; exact x5
  · by_cases q : c = 5
    · subst q; rw [set1_at]; split <;> omega
    · rw [e 5 (by omega)]; exact x6
  · by_cases q : c = 6
    · subst q; rw [set1_at]; split <;> omega
    · rw [e 6 (by omega)]; exact x7
/-- a change of a link's cost or of whether it is up -/
theorem set1_CN {N : Nat} {s : St} {u u' : JM} (hC : CN N s u) {c l v : Nat} (hc : c = 4 ∨ c = 5 ∨ c = 6) (hv : c = 6 → v ≤ 1) (h : u' = jw u (N + 1 + c) l (nI v)) : CN N (set1 s c l v) u' := by
  obtain ⟨cL, cK, cM, cF, c7, c8⟩ := hC
  obtain ⟨l1, l2, l3⟩ := cL
  have e : ∀ c', c' ≠ c → set1 s c l v c' = s c' := fun c' q => set1_ne q
  have hu : ∀ b, b ≠ N + 1 + c → u' b = u b := fun b hb => by rw [h, jw_ne hb]
  have hx : ∀ l', u' (N + 1 + c) l' = if l' = l then nI v else u (N + 1 + c) l' := fun l' => by rw [h, jw_at]
  refine ⟨⟨?_, fun l' hl' => ?_, fun l' hl' => ?_⟩, fun k hk => ?_, cM.congr (fun c' h1 h2 => e c' (by omega)) (by rw [hu _ (by omega)]) (fun j h1 h2 => hu _ (by omega)), fun k hk => ?_, ?_, ?_⟩
  · rw [hu _ (by omega), e 0 (by omega)]; exact l1
  · rw [e 0 (by omega)] at hl'
    obtain ⟨x1, x2, x3, x4, x5, x6⟩ := l2 l' hl'
    rw [hu (N + 2) (by omega), hu (N + 3) (by omega), hu (N + 4) (by omega), e 1 (by omega), e 2 (by omega), e 3 (by omega)]
    refine ⟨x1, x2, x3, ?_, ?_, ?_⟩
    · by_cases q : c = 4
      · subst q; rw [show N + 5 = N + 1 + 4 by omega, hx, set1_at]
        split
        · rfl
        · rw [show N + 1 + 4 = N + 5 by omega]; exact x4
      · rw [hu _ (by omega), e 4 (by omega)]; exact x4
    · by_cases q : c = 5
      · subst q; rw [show N + 6 = N + 1 + 5 by omega, hx, set1_at]
        split
        · rfl
        · rw [show N + 1 + 5 = N + 6 by omega]; exact x5
      · rw [hu _ (by omega), e 5 (by omega)]; exact x5
    · by_cases q : c = 6
      · subst q; rw [show N + 7 = N + 1 + 6 by omega, hx, set1_at]
        split
        · rfl
        · rw [show N + 1 + 6 = N + 7 by omega]; exact x6
      · rw [hu _ (by omega), e 6 (by omega)]; exact x6
  · by_cases q : c = 6
    · subst q
      have hv := hv rfl
      rw [show N + 7 = N + 1 + 6 by omega, hx]
      split
      · rcases (show v = 0 ∨ v = 1 by omega) with g | g <;> rw [g]
        · exact Or.inl rfl
        · exact Or.inr rfl
      · rw [show N + 1 + 6 = N + 7 by omega]; exact l3 l' hl'
    · rw [hu _ (by omega)]; exact l3 l' hl'
  · exact KR.keep (N := N) (s := s) (u := u) (cK k hk) (by rw [hu _ (by omega)]) (by rw [hu _ (by omega)]) (by rw [hu _ (by omega)]) (fun l hl => by rw [hu _ (by omega)]) (fun l hl => by rw [hu _ (by omega)]) (by rw [e 7 (by omega)]) (by rw [e 8 (by omega)]) (fun l hl => by rw [e 9 (by omega)]) (fun l hl => by rw [e 10 (by omega)])
  · rw [hu _ (by omega), hu _ (by omega), e 11 (by omega), e 12 (by omega)]
    exact cF k hk
  · rw [hu _ (by omega), e 21 (by omega)]; exact c7
  · rw [hu _ (by omega), e 22 (by omega)]; exact c8
theorem add_CN {N : Nat} {s : St} {u u' : JM} (hC : CN N s u) {x y a f b : Nat} (hs : same u u' (fun b => N + 1 ≤ b ∧ b ≤ N + 7)) (h : CL N (addS s x y a f b) u') : CN N (addS s x y a f b) u' := by
  obtain ⟨cL, cK, cM, cF, c7, c8⟩ := hC
  have e : ∀ c', 6 < c' → addS s x y a f b c' = s c' := fun c' q => addS_ne q
  have hu : ∀ b, b < N + 1 ∨ N + 7 < b → u' b = u b := fun b hb => hs b (by omega)
  refine ⟨h, fun k hk => ?_, cM.congr (fun c' h1 h2 => e c' (by omega)) (by rw [hu _ (by omega)]) (fun j h1 h2 => hu _ (by omega)), fun k hk => ?_, ?_, ?_⟩
  · exact KR.keep (N := N) (s := s) (u := u) (cK k hk) (by rw [hu _ (by omega)]) (by rw [hu _ (by omega)]) (by rw [hu _ (by omega)]) (fun l hl => by rw [hu _ (by omega)]) (fun l hl => by rw [hu _ (by omega)]) (by rw [e 7 (by omega)]) (by rw [e 8 (by omega)]) (fun l hl => by rw [e 9 (by omega)]) (fun l hl => by rw [e 10 (by omega)])
  · rw [hu _ (by omega), hu _ (by omega), e 11 (by omega), e 12 (by omega)]
    exact cF k hk
  · rw [hu _ (by omega), e 21 (by omega)]; exact c7
  · rw [hu _ (by omega), e 22 (by omega)]; exact c8
theorem c_X7_link {E : JE} {u : JM} {K : Int32 → JM → Prop}  {a1 a2 a3 a4 a5 : Int32} {w : Wd} (c : CW w u) (hn : w.1 0 0 ≤ 12)
    (hK : ∀ u', same u u' inC → CW (nxLink w a1 a2 a3 a4 a5) u' → K (anLink w a1 a2 a3 a4 a5) u') : JCi E 2 YX7_link [.ref 0, .int a1, .int a2, .int a3, .int a4, .int a5] K u := by
  refine JCi.ofV (ls := [some (.ref 0), some (.int a1), some (.int a2), some (.int a3), some (.int a4), some (.int a5)]) (by decide +kernel) (Nat.le_of_ble_eq_true rfl) rfl rfl (g_X7_link_0  ?_)
  have e0 := c.cl.1
  by_cases ok : okL a1 a2 a3 a4 a5
  · have ea : anLink w a1 a2 a3 a4 a5 = (if w.1 0 0 < 12 then nI (w.1 0 0) else -4) := if_pos ok
    have ok' := ok
    obtain ⟨o1, o2, o3, o4, o5, o6⟩ := ok
    refine ⟨fun q => absurd o1 (jb_0.mp q), fun _ => ⟨fun q => absurd o2 (jb_0.mp q), fun _ => ⟨fun q => absurd q o3, fun _ => ⟨fun _ => ⟨fun q => absurd o5 (jb_0.mp q), fun _ => ⟨fun _ => ?_, fun q => absurd o6 (jb_0.mp q)⟩⟩, fun q => absurd o4 (jb_0.mp q)⟩⟩⟩⟩
    rw [e0, show (12 : Int32) = nI 12 from rfl, i32_lt (by omega), nI_toInt (by omega)]
    refine ⟨fun q => ?_, fun q => ?_⟩
    · obtain ⟨x, x1, rfl⟩ := rt_nI o1
      obtain ⟨y, y1, rfl⟩ := rt_nI o2
      obtain ⟨a, z1, rfl⟩ := ar_nI o4
      obtain ⟨f, -, f1, rfl⟩ := rg1_nI (hi := 99) (by decide) o5
      obtain ⟨b, -, b1, rfl⟩ := rg1_nI (hi := 99) (by decide) o6
      refine c_X1_add isN1 c.1.1 (by omega) fun u' hs hL => ?_
      have q' : w.1 0 0 < 12 := by omega
      have en : nxLink w (nI x) (nI y) (nI a) (nI f) (nI b) = (addS w.1 x y a f b, w.2) := by
        unfold nxLink
        rw [if_pos ⟨ok', q'⟩, nI_cl (by omega), nI_cl (by omega), nI_cl (by omega), nI_cl (by omega), nI_cl (by omega)]
      rw [ea, if_pos q', en] at hK
      exact hK u' (hs.mono fun b q => by unfold inC; omega) (c.live (hs.mono fun b q => by unfold inNet; omega) (add_CN c.1 hs hL))
    · have q' : ¬ w.1 0 0 < 12 := by omega
      rw [ea, if_neg q'] at hK
      exact hK u same.rfl (by unfold nxLink; rw [if_neg (fun g => q' g.2)]; exact c)
  · have hB : K (-2) u := by
      have := hK u same.rfl (by unfold nxLink; rw [if_neg (fun g => ok g.1)]; exact c)
      unfold anLink at this
      rwa [if_neg ok] at this
    clear hK
    repeat' (first | apply And.intro | intro q_)
    all_goals first | exact hB | (exfalso; unfold okL at ok; (try simp only [jb_0, jb_n0, ne_eq] at *); simp only [Int32.lt_iff_toInt_lt, Int32.le_iff_toInt_le, ← Int32.toInt_inj, tI_m14, tI_m13, tI_m12, tI_m11, tI_m10, tI_m9, tI_m8, tI_m7, tI_m6, tI_m5, tI_m4, tI_m3, tI_m2, tI_m1, tI_0, tI_1, tI_2, tI_3, tI_4, tI_5, tI_6, tI_7, tI_8, tI_9, tI_10, tI_11, tI_12, tI_13, tI_14, tI_15, tI_16, tI_17, tI_18, tI_19, tI_20, tI_21, tI_22, tI_23, tI_24, tI_25, tI_26, tI_27, tI_28, tI_29, tI_30, tI_31, tI_32, tI_33, tI_34, tI_35, tI_36, tI_37, tI_38, tI_39, tI_40, tI_60, tI_63, tI_80, tI_99, tI_192, tI_400, tI_9999, tI_12345] at *; omega)
def anSet (w : Wd) (a1 a2 : Int32) : Int32 := if isLk (w.1 0 0) a1 ∧ rg a2 0 1 then nI (w.1 6 a1.toNatClampNeg) else -2
def nxSet (w : Wd) (a1 a2 : Int32) : Wd := if isLk (w.1 0 0) a1 ∧ rg a2 0 1 then (set1 w.1 6 a1.toNatClampNeg a2.toNatClampNeg, w.2) else w
theorem c_X7_set {E : JE} {u : JM} {K : Int32 → JM → Prop}  {a1 a2 : Int32} {w : Wd} (c : CW w u) (wl : WL w.1)
    (hK : ∀ u', same u u' inC → CW (nxSet w a1 a2) u' → K (anSet w a1 a2) u') : JCi E 2 YX7_set [.ref 0, .int a1, .int a2] K u := by
  refine JCi.ofV (ls := [some (.ref 0), some (.int a1), some (.int a2), none]) (by decide +kernel) (Nat.le_of_ble_eq_true rfl) rfl rfl (g_X7_set_0  ?_)
  have hn := wl.1
  obtain ⟨e0, e1⟩ := c.cl
  rw [e0, nI_toInt (by omega)]
  by_cases ok : isLk (w.1 0 0) a1 ∧ rg a2 0 1
  · unfold anSet nxSet at hK
    rw [if_pos ok, if_pos ok] at hK
    obtain ⟨o1, o2⟩ := ok
    refine ⟨fun q => absurd o1 (jb_0.mp q), fun _ => ⟨fun q => absurd q (by simp only [Int32.lt_iff_toInt_lt, Int32.le_iff_toInt_le, ← Int32.toInt_inj, tI_m14, tI_m13, tI_m12, tI_m11, tI_m10, tI_m9, tI_m8, tI_m7, tI_m6, tI_m5, tI_m4, tI_m3, tI_m2, tI_m1, tI_0, tI_1, tI_2, tI_3, tI_4, tI_5, tI_6, tI_7, tI_8, tI_9, tI_10, tI_11, tI_12, tI_13, tI_14, tI_15, tI_16, tI_17, tI_18, tI_19, tI_20, tI_21, tI_22, tI_23, tI_24, tI_25, tI_26, tI_27, tI_28, tI_29, tI_30, tI_31, tI_32, tI_33, tI_34, tI_35, tI_36, tI_37, tI_38, tI_39, tI_40, tI_60, tI_63, tI_80, tI_99, tI_192, tI_400, tI_9999, tI_12345] at *; omega), fun _ => ⟨fun _ => ?_, fun q => absurd (by simp only [Int32.lt_iff_toInt_lt, Int32.le_iff_toInt_le, ← Int32.toInt_inj, tI_m14, tI_m13, tI_m12, tI_m11, tI_m10, tI_m9, tI_m8, tI_m7, tI_m6, tI_m5, tI_m4, tI_m3, tI_m2, tI_m1, tI_0, tI_1, tI_2, tI_3, tI_4, tI_5, tI_6, tI_7, tI_8, tI_9, tI_10, tI_11, tI_12, tI_13, tI_14, tI_15, tI_16, tI_17, tI_18, tI_19, tI_20, tI_21, tI_22, tI_23, tI_24, tI_25, tI_26, tI_27, tI_28, tI_29, tI_30, tI_31, tI_32, tI_33, tI_34, tI_35, tI_36, tI_37, tI_38, tI_39, tI_40, tI_60, tI_63, tI_80, tI_99, tI_192, tI_400, tI_9999, tI_12345] at *; omega) q⟩⟩⟩
    obtain ⟨l, hl, rfl⟩ := lk_nI hn o1
    obtain ⟨v, hv, rfl⟩ := rg_nI (hi := 1) (by decide) o2
    rw [nI_cl (show l < 2147483648 by omega), nI_cl (show v < 2147483648 by omega)] at hK
    obtain ⟨x1, x2, x3, x4, x5, x6⟩ := e1 l hl
    have w6 := (wl.2 l hl).2.2.2.2.2.2
    rw [nI_cl (show l < 2147483648 by omega), x6]
    refine ⟨vpI (by omega) (by omega), fun v1 h1 v2 h2 => ?_⟩
    have ev1 : v1 = nI (w.1 6 l) := by
      rw [h1]
      rcases (show w.1 6 l = 0 ∨ w.1 6 l = 1 by omega) with g | g <;> rw [g] <;> rfl
    have ev2 : v2 = nI v := by
      rw [h2]
      rcases (show v = 0 ∨ v = 1 by omega) with g | g <;> rw [g] <;> rfl
    refine ⟨?_, fun u3 h3 => ?_⟩
    · rw [ev2]
      rcases (show v = 0 ∨ v = 1 by omega) with g | g <;> rw [g]
      · exact Or.inl rfl
      · exact Or.inr rfl
    · rw [ev1]
      rw [ev2] at h3
      refine hK u3 (by rw [h3]; exact same.rfl.jw (show 8 < 137 by decide)) (c.live (by rw [h3]; exact same.rfl.jw (by unfold inNet; omega)) (set1_CN c.1 (Or.inr (Or.inr rfl)) (fun _ => by omega) h3))
  · have hB : K (-2) u := by
      have := hK u same.rfl (by unfold nxSet; rw [if_neg ok]; exact c)
      unfold anSet at this
      rwa [if_neg ok] at this
    clear hK
    repeat' (first | apply And.intro | intro q_)
    all_goals first | exact hB | (exfalso; (try simp only [jb_0, jb_n0, ne_eq] at *); simp only [Int32.lt_iff_toInt_lt, Int32.le_iff_toInt_le, ← Int32.toInt_inj, tI_m14, tI_m13, tI_m12, tI_m11, tI_m10, tI_m9, tI_m8, tI_m7, tI_m6, tI_m5, tI_m4, tI_m3, tI_m2, tI_m1, tI_0, tI_1, tI_2, tI_3, tI_4, tI_5, tI_6, tI_7, tI_8, tI_9, tI_10, tI_11, tI_12, tI_13, tI_14, tI_15, tI_16, tI_17, tI_18, tI_19, tI_20, tI_21, tI_22, tI_23, tI_24, tI_25, tI_26, tI_27, tI_28, tI_29, tI_30, tI_31, tI_32, tI_33, tI_34, tI_35, tI_36, tI_37, tI_38, tI_39, tI_40, tI_60, tI_63, tI_80, tI_99, tI_192, tI_400, tI_9999, tI_12345] at *; omega)
def anCost (w : Wd) (a1 a2 a3 : Int32) : Int32 := if isLk (w.1 0 0) a1 ∧ rg a2 0 1 ∧ rg a3 1 99 then (if a2 = 0 then nI (w.1 4 a1.toNatClampNeg) else nI (w.1 5 a1.toNatClampNeg)) else -2
def nxCost (w : Wd) (a1 a2 a3 : Int32) : Wd := if isLk (w.1 0 0) a1 ∧ rg a2 0 1 ∧ rg a3 1 99 then (set1 w.1 (if a2 = 0 then 4 else 5) a1.toNatClampNeg a3.toNatClampNeg, w.2) else w
theorem c_X7_cost {E : JE} {u : JM} {K : Int32 → JM → Prop}  {a1 a2 a3 : Int32} {w : Wd} (c : CW w u) (wl : WL w.1)
    (hK : ∀ u', same u u' inC → CW (nxCost w a1 a2 a3) u' → K (anCost w a1 a2 a3) u') : JCi E 2 YX7_cost [.ref 0, .int a1, .int a2, .int a3] K u := by
  refine JCi.ofV (ls := [some (.ref 0), some (.int a1), some (.int a2), some (.int a3), none, none]) (by decide +kernel) (Nat.le_of_ble_eq_true rfl) rfl rfl (g_X7_cost_0  ?_)
  have hn := wl.1
  obtain ⟨e0, e1⟩ := c.cl
  rw [e0, nI_toInt (by omega)]
  by_cases ok : isLk (w.1 0 0) a1 ∧ rg a2 0 1 ∧ rg a3 1 99
  · unfold anCost nxCost at hK
    rw [if_pos ok, if_pos ok] at hK
    obtain ⟨o1, o2, o3⟩ := ok
    refine ⟨fun q => absurd o1 (jb_0.mp q), fun _ => ⟨fun q => absurd q (by simp only [Int32.lt_iff_toInt_lt, Int32.le_iff_toInt_le, ← Int32.toInt_inj, tI_m14, tI_m13, tI_m12, tI_m11, tI_m10, tI_m9, tI_m8, tI_m7, tI_m6, tI_m5, tI_m4, tI_m3, tI_m2, tI_m1, tI_0, tI_1, tI_2, tI_3, tI_4, tI_5, tI_6, tI_7, tI_8, tI_9, tI_10, tI_11, tI_12, tI_13, tI_14, tI_15, tI_16, tI_17, tI_18, tI_19, tI_20, tI_21, tI_22, tI_23, tI_24, tI_25, tI_26, tI_27, tI_28, tI_29, tI_30, tI_31, tI_32, tI_33, tI_34, tI_35, tI_36, tI_37, tI_38, tI_39, tI_40, tI_60, tI_63, tI_80, tI_99, tI_192, tI_400, tI_9999, tI_12345] at *; omega), fun _ => ⟨fun q => absurd q (by simp only [Int32.lt_iff_toInt_lt, Int32.le_iff_toInt_le, ← Int32.toInt_inj, tI_m14, tI_m13, tI_m12, tI_m11, tI_m10, tI_m9, tI_m8, tI_m7, tI_m6, tI_m5, tI_m4, tI_m3, tI_m2, tI_m1, tI_0, tI_1, tI_2, tI_3, tI_4, tI_5, tI_6, tI_7, tI_8, tI_9, tI_10, tI_11, tI_12, tI_13, tI_14, tI_15, tI_16, tI_17, tI_18, tI_19, tI_20, tI_21, tI_22, tI_23, tI_24, tI_25, tI_26, tI_27, tI_28, tI_29, tI_30, tI_31, tI_32, tI_33, tI_34, tI_35, tI_36, tI_37, tI_38, tI_39, tI_40, tI_60, tI_63, tI_80, tI_99, tI_192, tI_400, tI_9999, tI_12345] at *; omega), fun _ => ⟨fun _ => ?_, fun q => absurd o3 (jb_0.mp q)⟩⟩⟩⟩
    obtain ⟨l, hl, rfl⟩ := lk_nI hn o1
    obtain ⟨v, v1, v2, rfl⟩ := rg1_nI (hi := 99) (by decide) o3
    rw [nI_cl (show l < 2147483648 by omega), nI_cl (show v < 2147483648 by omega)] at hK
    obtain ⟨x1, x2, x3, x4, x5, x6⟩ := e1 l hl
    rw [nI_cl (show l < 2147483648 by omega), x4, x5]
    refine ⟨fun q => ⟨vpI (by omega) (by omega), fun i5 h5 u2 h2 => ?_⟩, fun q => ⟨vpI (by omega) (by omega), fun i5 h5 u2 h2 => ?_⟩⟩
    · rw [if_neg q, if_neg q] at hK
      rw [h5]
      exact hK u2 (by rw [h2]; exact same.rfl.jw (show 7 < 137 by decide)) (c.live (by rw [h2]; exact same.rfl.jw (by unfold inNet; omega)) (set1_CN c.1 (Or.inr (Or.inl rfl)) (fun g => absurd g (by decide)) h2))
    · rw [if_pos q, if_pos q] at hK
      rw [h5]
      exact hK u2 (by rw [h2]; exact same.rfl.jw (show 6 < 137 by decide)) (c.live (by rw [h2]; exact same.rfl.jw (by unfold inNet; omega)) (set1_CN c.1 (Or.inl rfl) (fun g => absurd g (by decide)) h2))
  · have hB : K (-2) u := by
      have := hK u same.rfl (by unfold nxCost; rw [if_neg ok]; exact c)
      unfold anCost at this
      rwa [if_neg ok] at this
    clear hK
    repeat' (first | apply And.intro | intro q_)
    all_goals first | exact hB | (exfalso; (try simp only [jb_0, jb_n0, ne_eq] at *); simp only [Int32.lt_iff_toInt_lt, Int32.le_iff_toInt_le, ← Int32.toInt_inj, tI_m14, tI_m13, tI_m12, tI_m11, tI_m10, tI_m9, tI_m8, tI_m7, tI_m6, tI_m5, tI_m4, tI_m3, tI_m2, tI_m1, tI_0, tI_1, tI_2, tI_3, tI_4, tI_5, tI_6, tI_7, tI_8, tI_9, tI_10, tI_11, tI_12, tI_13, tI_14, tI_15, tI_16, tI_17, tI_18, tI_19, tI_20, tI_21, tI_22, tI_23, tI_24, tI_25, tI_26, tI_27, tI_28, tI_29, tI_30, tI_31, tI_32, tI_33, tI_34, tI_35, tI_36, tI_37, tI_38, tI_39, tI_40, tI_60, tI_63, tI_80, tI_99, tI_192, tI_400, tI_9999, tI_12345] at *; omega)
def anTold (w : Wd) (a1 a2 : Int32) : Int32 := if isLk (w.1 0 0) a1 ∧ rg a2 0 5 then nI (w.1 (a2.toNatClampNeg + 1) a1.toNatClampNeg) else -2
theorem c_X7_told {E : JE} {u : JM} {K : Int32 → JM → Prop}  {a1 a2 : Int32} {w : Wd} (c : CW w u) (wl : WL w.1) (hK : K (anTold w a1 a2) u) : JCi E 2 YX7_told [.ref 0, .int a1, .int a2] K u := by
  refine JCi.ofV (ls := [some (.ref 0), some (.int a1), some (.int a2), none]) (by decide +kernel) (Nat.le_of_ble_eq_true rfl) rfl rfl (g_X7_told_0  ?_)
  have hn := wl.1
  obtain ⟨e0, e1⟩ := c.cl
  rw [e0, nI_toInt (by omega)]
  unfold anTold at hK
  by_cases ok : isLk (w.1 0 0) a1 ∧ rg a2 0 5
  · rw [if_pos ok] at hK
    obtain ⟨o1, o2⟩ := ok
    refine ⟨fun _ => ?_, fun q => absurd o1 (jb_0.mp q)⟩
    obtain ⟨l, hl, rfl⟩ := lk_nI hn o1
    obtain ⟨v, v1, rfl⟩ := rg_nI (hi := 5) (by decide) o2
    rw [nI_cl (show l < 2147483648 by omega), nI_cl (show v < 2147483648 by omega)] at hK
    obtain ⟨x1, x2, x3, x4, x5, x6⟩ := e1 l hl
    rw [nI_cl (show l < 2147483648 by omega), x1, x2, x3, x4, x5, x6]
    have hl' : vp_in (nI l) 12 := vpI (by omega) (by omega)
    have w6 := (wl.2 l hl).2.2.2.2.2.2
    have n0 : ∀ k : Nat, k < 10 → (nI v = nI k ↔ v = k) := fun k hk => nI_eq (by omega) (by omega)
    rw [show (0 : Int32) = nI 0 from rfl, show (1 : Int32) = nI 1 from rfl, show (2 : Int32) = nI 2 from rfl, show (3 : Int32) = nI 3 from rfl, show (4 : Int32) = nI 4 from rfl, show (5 : Int32) = nI 5 from rfl, n0 0 (by omega), n0 1 (by omega), n0 2 (by omega), n0 3 (by omega), n0 4 (by omega), n0 5 (by omega), nI_eq (by omega) (by omega)]
    refine ⟨fun q => ⟨hl', ?_⟩, fun q => ⟨hl', ?_⟩, fun q => ⟨hl', ?_⟩, fun q => ⟨hl', ?_⟩, fun q => ⟨hl', ?_⟩, fun q => ⟨hl', fun g => ?_, fun g => ?_⟩, fun q0 q1 q2 q3 q4 q5 => by omega⟩
    · subst q; exact hK
    · subst q; exact hK
    · subst q; exact hK
    · subst q; exact hK
    · subst q; exact hK
    · subst q; rw [g] at hK; exact hK
    · subst q; rw [show w.1 (5 + 1) l = 1 by show w.1 6 l = 1; omega] at hK; exact hK
  · rw [if_neg ok] at hK
    by_cases o1 : isLk (w.1 0 0) a1
    · refine ⟨fun _ => ⟨fun q => ?_, fun q => ?_, fun q => ?_, fun q => ?_, fun q => ?_, fun q => ?_, fun _ _ _ _ _ _ => hK⟩, fun q => hK⟩
      all_goals (exfalso; apply ok; rw [q]; exact ⟨o1, by decide⟩)
    · exact ⟨fun q => absurd (jb_n0.mp q) o1, fun _ => hK⟩
