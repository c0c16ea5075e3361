/-! the reference in thought -/
theorem c_X8_settled {E : JE} {u : JM} {K : Int32 → JM → Prop}  {a1 : Int32} {w : Wd} (c : XW w u) (ww : NW w.1) (hT : w.1 21 0 + 90 < 1000000000)
    (hK : ∀ u', up u u' → XW w u' → K (anSettled w.1 a1) u') : JCi E 9 YX8_settled [.ref 137, .int a1] K u := by
  refine JCi.ofV (ls := [some (.ref 137), some (.int a1), none, none, none, none, none]) (by decide +kernel) (Nat.le_of_ble_eq_true rfl) rfl rfl (g_X8_settled_0  ?_)
  unfold anSettled at hK
  by_cases ok : rg a1 0 2
  · rw [if_pos ok] at hK
    refine ⟨fun _ => ?_, fun q => absurd ok (jb_0.mp q)⟩
    refine c_keep0 c.1 fun u1 q1 n1 s1 => ?_
    have z1 : sF inZ fdZ u u1 := as_Z q1
    have fin : ∀ (n : Nat) (fl : Int32) (t : St), NW t → quF 80 1 w.1 = ((if fl = 0 then -1 else nI n), t) → w.1 22 0 ≤ t 22 0 → ∀ u2, sF inZ fdZ u u2 → QB t u2 → QB w.1 (asd 0 u2) → ∀ (m r : Nat), m + r = 8 →
        JVi E 9 YX8_settled K 89 [some (.ref 137), some (.int a1), some (.int (nI n)), some (.int (nI (t 22 0 - w.1 22 0))), some (.int fl), some (.int (nI (sumTo (slS t) r))), some (.int (nI r))] [] u2 := by
      intro n fl t wt hq h22 u2 z2 n2 s2 m
      induction m with
      | zero =>
        intro r hm
        obtain rfl : r = 8 := by omega
        refine g_X8_settled_89 ⟨fun _ => ?_, fun q => absurd (show (8 : Int32) ≤ nI 8 by decide) q⟩
        refine c_back0 s2 fun u3 z3 n3 => ?_
        have z : sF inZ fdZ u u3 := z2.trans (sY_Z z3)
        have h := hK u3 (up_Z z) (c.live z n3)
        rw [hq] at h
        refine ⟨fun q0 => ⟨fun q1 => ?_, fun q1 => ?_⟩, fun q0 => ⟨fun y => ?_, fun y => ?_⟩⟩
        · rw [if_neg q0, if_neg q1] at h; exact h
        · rw [if_neg q0, if_pos q1, nI_sub h22] at h; exact h
        · rw [if_pos q0, if_pos y] at h; exact h
        · rw [if_pos q0, if_neg y] at h; exact h
      | succ m ih =>
        intro r hm
        refine g_X8_settled_89 ⟨fun q => absurd q (nI_ge (a := r) (b := 8) (by omega) (by omega)), fun _ => ?_⟩
        refine c_X8_knows (st := true) n2.1.1 n2.1.2.1 wt.1 wt.2.1 (show r < 8 by omega) (by decide) ?_
        rw [knN_t, nI_add, nI_1]
        exact ih (r + 1) (by omega)
    have main : ∀ (m n : Nat) (t : St) (u2 : JM), m + n = 80 → NW t → t 21 0 + m + 3 < 1000000000 → quF 80 1 w.1 = quF m (n + 1) t → w.1 22 0 ≤ t 22 0 → sF inZ fdZ u u2 → QB t u2 → QB w.1 (asd 0 u2) →
        JVi E 9 YX8_settled K 24 [some (.ref 137), some (.int a1), some (.int (nI n)), some (.int (nI (t 22 0 - w.1 22 0))), some (.int 0), none, none] [] u2 := by
      intro m
      induction m with
      | zero =>
        intro n t u2 hm wt hb hq h22 z2 n2 s2
        obtain rfl : n = 80 := by omega
        refine g_X8_settled_24 ⟨fun q => absurd rfl q, fun _ => ⟨fun _ => ?_, fun q => absurd (show (80 : Int32) ≤ nI 80 by decide) q⟩⟩
        exact fin 80 0 t wt (by rw [hq, if_pos rfl]; rfl) h22 u2 z2 n2 s2 8 0 (by omega)
      | succ m ih =>
        intro n t u2 hm wt hb hq h22 z2 n2 s2
        refine g_X8_settled_24 ⟨fun q => absurd rfl q, fun _ => ⟨fun q => absurd q (nI_ge (a := n) (b := 80) (by omega) (by omega)), fun _ v1 hv1 => ?_⟩⟩
        have m13 := n2.2.2
        rw [n2.1.2.2.1.1] at hv1
        have hle : nI (t 13 0) ≤ 0 ↔ t 13 0 = 0 := nI_le0 (by omega)
        refine c_X8_goes n2.1 wt (by omega) fun u3 q1 q2 q3 => ?_
        intro v3 hv3
        have wt' := tickS_NW wt (by omega)
        have m13' := wt'.2.2.1.1
        have h22' := tick22 t
        have zY := go_sY q1 q2
        have z3 : sF inZ fdZ u u3 := z2.trans (sY_Z zY)
        have n3 := q3.b wt'
        have s3 := as0_keep s2 zY
        have e22 : nI (t 22 0 - w.1 22 0) + nI (tickS t 13 0) = nI (tickS t 22 0 - w.1 22 0) := nI_e (by omega)
        have ed : nI (tickS t 22 0) - nI (t 22 0) = nI (tickS t 13 0) := nI_d h22'
        have eq : quF (m + 1) (n + 1) t = if nI (tickS t 22 0) - nI (t 22 0) = 0 ∧ t 13 0 = 0 then (nI (n + 1), tickS t) else quF m (n + 1 + 1) (tickS t) := rfl
        rw [eq, ed] at hq
        rw [e22, nI_1]
        by_cases g : nI (tickS t 13 0) = 0 ∧ t 13 0 = 0
        · rw [if_pos g] at hq
          rw [if_pos (hle.mpr g.2)] at hv1
          rw [hv1, if_pos rfl, if_pos g.1] at hv3
          rw [hv3]
          refine g_X8_settled_24 ⟨fun _ => ?_, fun q => absurd q (by decide)⟩
          exact fin (n + 1) 1 (tickS t) wt' (by rw [hq, if_neg (by decide)]) (by omega) u3 z3 n3 s3 8 0 (by omega)
        · rw [if_neg g] at hq
          have ev : v3 = 0 := by
            rw [hv3]
            by_cases y : t 13 0 = 0
            · rw [if_pos (hle.mpr y)] at hv1
              rw [hv1, if_pos rfl, if_neg (fun z => g ⟨z, y⟩)]
            · rw [if_neg (fun z => y (hle.mp z))] at hv1
              rw [hv1, if_neg (by decide)]
          rw [ev]
          exact ih (n + 1) (tickS t) u3 (by omega) wt' (by rw [tickS_21]; omega) hq (by omega) z3 n3 s3
    have h := main 80 0 w.1 u1 (by omega) ww (by omega) rfl (Nat.le_refl _) z1 n1 s1
    rw [show w.1 22 0 - w.1 22 0 = 0 from Nat.sub_self _] at h
    exact h
  · have hB : K (-2) u := by
      have := hK u up.rfl c
      rwa [if_neg ok] at this
    exact ⟨fun q => absurd (jb_n0.mp q) ok, fun _ => hB⟩
theorem c_X8_broken {E : JE} {u : JM} {K : Int32 → JM → Prop}  {a1 a2 a3 : Int32} {w : Wd} (c : XW w u) (ww : NW w.1) (hT : w.1 21 0 + 90 < 1000000000)
    (hK : ∀ u', up u u' → XW w u' → K (anBroken w.1 a1 a2 a3) u') : JCi E 10 YX8_broken [.ref 137, .int a1, .int a2, .int a3] K u := by
  refine JCi.ofV (ls := [some (.ref 137), some (.int a1), some (.int a2), some (.int a3), none]) (by decide +kernel) (Nat.le_of_ble_eq_true rfl) rfl rfl (g_X8_broken_0  ?_)
  unfold anBroken at hK
  have hn := ww.1.1
  by_cases ok : isLk (w.1 0 0) a1 ∧ rg a2 0 7 ∧ rg a3 0 7
  · rw [if_pos ok] at hK
    obtain ⟨o1, o2, o3⟩ := ok
    refine c_X8_isLink c.1.1.1 ww.1 ⟨fun q => absurd o1 (jb_0.mp q), fun _ => c_X8_isRouter ⟨fun q => absurd o2 (jb_0.mp q), fun _ => c_X8_isRouter ⟨fun _ => ?_, fun q => absurd o3 (jb_0.mp q)⟩⟩⟩
    obtain ⟨l, hl, rfl⟩ := lk_nI hn o1
    obtain ⟨r, hr, rfl⟩ := rt_nI o2
    obtain ⟨d, hd, rfl⟩ := rt_nI o3
    rw [nI_cl (show l < 2147483648 by omega), nI_cl (show r < 2147483648 by omega), nI_cl (show d < 2147483648 by omega)] at hK
    rw [nI_cl (show l < 2147483648 by omega), (c.1.1.1.2 l hl).2.2.2.1]
    have h6 := (ww.1.2 l hl).2.2.2.2.2.2
    refine ⟨vpI (by omega) (by omega), fun q => ?_, fun q => ?_⟩
    · have q' : ¬ w.1 6 l = 0 := fun g => q (by rw [g]; rfl)
      rw [if_neg q'] at hK
      refine c_keep0 c.1 fun u1 q1 n1 s1 u2 h2 => ?_
      have w1 : NW (set1 w.1 6 l 0) := set1_NW ww hl (Or.inr ⟨rfl, by omega⟩)
      have y2 : sF inY fdZ u1 u2 := by rw [h2]; exact sF.rfl.w (by unfold inY; omega) (by decide)
      refine c_X8_goesLong (n1.set (Or.inr (Or.inr ⟨rfl, h2⟩))).1 w1 (by rw [set1_ne (by decide)]; exact hT) fun u3 y3 n3 => ?_
      have w3 := (ticksS_NW w1 40 (by rw [set1_ne (by decide)]; omega)).1
      refine c_X8_costNow n3.1 n3.2.1 w3.1 w3.2.1 hr hd fun u4 q4 => ?_
      have y4 : sF inY fdZ u1 u4 := (y2.trans y3).trans (wr_Y q4)
      refine c_back0 (as0_keep s1 y4) fun u5 y5 n5 => ?_
      have z : sF inZ fdZ u u5 := (as_Z q1).trans (sY_Z (y4.trans y5))
      exact hK u5 (up_Z z) (c.live z n5)
    · have q' : w.1 6 l = 0 := nI_inj (b := 0) (by omega) (by omega) q
      rw [if_pos q'] at hK
      exact hK u up.rfl c
  · have hB : K (-2) u := by
      have := hK u up.rfl c
      rwa [if_neg ok] at this
    exact c_X8_isLink c.1.1.1 ww.1 ⟨fun _ => hB, fun q1 => c_X8_isRouter ⟨fun _ => hB, fun q2 => c_X8_isRouter ⟨fun q3 => absurd ⟨jb_n0.mp q1, jb_n0.mp q2, jb_n0.mp q3⟩ ok, fun _ => hB⟩⟩⟩
theorem QB.fd {s : St} {u u' : JM} (h : QB s u) (e : ∀ b, b ≠ 137 → u' b = u b) (e7 : ∀ f, f = 0 ∨ f = 12 ∨ f = 13 ∨ f = 14 → u' 137 f = u 137 f) : QB s u' :=
  ⟨h.1.pt h.2.1 (by have := h.2.2; omega) ⟨e7, fun b hb _ j _ => by rw [e b (by unfold isB at hb; omega)]⟩, h.2⟩
theorem QB.f7 {s : St} {u u' : JM} (h : QB s u) {k : Nat} {x : Int32} (e : u' = jw u 137 k x) (hk : 15 ≤ k) : QB s u' := h.fd (fun b hb => by rw [e, jw_ne hb]) fun f hf => by rw [e, jw_at, if_neg (by omega)]
noncomputable def loR (S : St) (r k : Nat) : Nat := cntP k fun d => !decide ((rtC S r d).1 = -1)
noncomputable def loT (S : St) (r k : Nat) : Nat := cntP k fun d => decide (dD (Et S 12) r d < 9999)
theorem c_X8_byLot {E : JE} {u : JM} {K : JM → Prop} {w : Wd} (c : XW w u) (ww : NW w.1) (hT : w.1 21 0 + 90 < 1000000000) {r : Nat} (hr : r < 8) {z : Int32}
    (hK : ∀ u', up u u' → XW w u' → u' 137 41 = nI (loR (seS w.1 z) r 8) → u' 137 42 = nI (loT (seS w.1 z) r 8) → K u') : JCu E 10 YX8_byLot [.ref 137, .int (nI r), .int z] K u := by
  have h12 := ww.1.1
  refine JCu.ofV (ls := [some (.ref 137), some (.int (nI r)), some (.int z), none, none]) (by decide +kernel) (Nat.le_of_ble_eq_true rfl) rfl rfl (g_X8_byLot_0 ?_)
  refine c_keep0 c.1 fun u1 q1 n1 s1 => ?_
  have wS := drS_NW ww z (w.1 0 0) (Nat.le_refl _)
  have e21 : drS w.1 z (w.1 0 0) 21 0 = w.1 21 0 := by rw [drS_ne _ _ _ _ (by decide)]
  have wE : NW (seS w.1 z) := (ticksS_NW wS 40 (by rw [e21]; omega)).1
  have count : ∀ (zz_ : Int32) (m d : Nat) (u2 : JM), m + d = 8 → sF inY fdZ u1 u2 → QB (seS w.1 z) u2 → u2 137 41 = nI (loR (seS w.1 z) r d) → u2 137 42 = nI (loT (seS w.1 z) r d) → JVu E 10 YX8_byLot K 69 [some (.ref 137), some (.int (nI r)), some (.int z), some (.int zz_), some (.int (nI d))] [] u2 := by
    intro zz_ m
    induction m with
    | zero =>
      intro d u2 hm y2 n2 e41 e42
      obtain rfl : d = 8 := by omega
      refine g_X8_byLot_69 ⟨fun _ => ?_, fun q => absurd (show (8 : Int32) ≤ nI 8 by decide) q⟩
      have s2 := as0_keep s1 y2
      refine c_X8_layBack (lv := 0) (by decide) s2.1 s2.2.1 s2.2.2 fun u3 y3 n3 => ?_
      have z3 : sF inZ fdZ u u3 := ((as_Z q1).trans (sY_Z y2)).trans (y3.mono (fun b q => by unfold inB at q; unfold inZ; omega) (fun f q => by unfold fdB at q; unfold fdZ; omega))
      exact hK u3 (up_Z z3) (c.live z3 ⟨n3, s2.2⟩) (by rw [y3.2 41 (by unfold fdB; omega)]; exact e41) (by rw [y3.2 42 (by unfold fdB; omega)]; exact e42)
    | succ m ih =>
      intro d u2 hm y2 n2 e41 e42
      have hd : d < 8 := by omega
      have hD : dD (Et (seS w.1 z) 12) r d ≤ 9999 := (dD_is (Et_ok wE.1 12) r).2.1 d
      have r1 : loR (seS w.1 z) r (d + 1) = loR (seS w.1 z) r d + if (!decide ((rtC (seS w.1 z) r d).1 = -1)) = true then 1 else 0 := rfl
      have r2 : loT (seS w.1 z) r (d + 1) = loT (seS w.1 z) r d + if (decide (dD (Et (seS w.1 z) 12) r d < 9999)) = true then 1 else 0 := rfl
      refine g_X8_byLot_69 ⟨fun q => absurd q (nI_ge (a := d) (b := 8) (by omega) (by omega)), fun _ => ?_⟩
      -- behind the count of those that are reached
      have rest : ∀ u3, sF inY fdZ u1 u3 → QB (seS w.1 z) u3 → u3 137 41 = nI (loR (seS w.1 z) r (d + 1)) → u3 137 42 = nI (loT (seS w.1 z) r d) → JCi E 2 YX8_trulyWithout [.ref 137, .int (nI r), .int (nI d), .int (-1)] (fun x3 u3 =>
          ((9999 ≤ x3 → JVu E 10 YX8_byLot K 69 [some (.ref 137), some (.int (nI r)), some (.int z), some (.int zz_), some (.int (nI d + 1))] [] u3) ∧
           (¬ 9999 ≤ x3 → ∀ u4, u4 = jw u3 137 42 ((u3 137 42) + 1) → JVu E 10 YX8_byLot K 69 [some (.ref 137), some (.int (nI r)), some (.int z), some (.int zz_), some (.int (nI d + 1))] [] u4))) u3 := by
        intro u3 y3 n3 f41 f42
        refine c_tru12 n3.1.1 wE.1 hr hd fun u4 q4 => ?_
        have y4 : sF inY fdZ u1 u4 := y3.trans (wr_Y (t1341 q4))
        have n4 := n3.tmp (t1341 q4) fun b q => by unfold inWR at q; omega
        have e7 : ∀ f, u4 137 f = u3 137 f := fun f => by rw [q4 137 (by decide)]
        rw [show (9999 : Int32) = nI 9999 from rfl, nI_1]
        refine ⟨fun g => ?_, fun g u5 h5 => ?_⟩
        · have g' : ¬ dD (Et (seS w.1 z) 12) r d < 9999 := fun y => nI_ge y (by omega) g
          refine ih (d + 1) u4 (by omega) y4 n4 (by rw [e7]; exact f41) ?_
          rw [r2, if_neg (by simpa using g'), e7]
          exact f42
        · have g' : dD (Et (seS w.1 z) 12) r d < 9999 := Nat.lt_of_not_le fun y => g (nI_le y (by omega))
          rw [e7, f42, nI_1] at h5
          refine ih (d + 1) u5 (by omega) (by rw [h5]; exact y4.f (by unfold fdZ; omega)) ?_ ?_ ?_
          · exact n4.f7 h5 (by omega)
          · rw [h5, jw_at, if_neg (by decide), e7]; exact f41
          · rw [h5, jw_at, if_pos rfl, r2, if_pos (by simpa using g')]
      refine c_X8_costNow n2.1.1 n2.1.2.1 wE.1 wE.2.1 hr hd fun u3 q3 => ?_
      have y3 : sF inY fdZ u1 u3 := y2.trans (wr_Y q3)
      have n3 := n2.tmp q3 fun b q => by unfold inWR at q; omega
      have f41 : u3 137 41 = nI (loR (seS w.1 z) r d) := by rw [q3.2 41 (by omega)]; exact e41
      have f42 : u3 137 42 = nI (loT (seS w.1 z) r d) := by rw [q3.2 42 (by omega)]; exact e42
      refine ⟨fun g => rest u3 y3 n3 ?_ f42, fun g u4 h4 => ?_⟩
      · rw [r1, if_neg (by simpa using g)]; exact f41
      · rw [f41, nI_1] at h4
        refine rest u4 (by rw [h4]; exact y3.f (by unfold fdZ; omega)) (n3.f7 h4 (by omega)) ?_ ?_
        · rw [h4, jw_at, if_pos rfl, r1, if_pos (by simpa using g)]
        · rw [h4, jw_at, if_neg (by decide)]; exact f42
  have draw : ∀ (m k : Nat) (u2 : JM), m + k = w.1 0 0 → sF inY fdZ u1 u2 → QB (drS w.1 z k) u2 → JVu E 10 YX8_byLot K 10 [some (.ref 137), some (.int (nI r)), some (.int z), some (.int (zz z k)), some (.int (nI k))] [] u2 := by
    intro m
    induction m with
    | zero =>
      intro k u2 hm y2 n2
      obtain rfl : k = w.1 0 0 := by omega
      refine g_X8_byLot_10 ⟨fun _ => ?_, fun q => ?_⟩
      · refine c_X8_goesLong n2.1 wS (by rw [e21]; exact hT) fun u3 y3 n3 u4 h4 u5 h5 => ?_
        have n5 : QB (seS w.1 z) u5 := ((n3.b wE).f7 h4 (by omega)).f7 h5 (by omega)
        refine count _ 8 0 u5 (by omega) ?_ n5 ?_ ?_
        · rw [h5, h4]
          exact ((y2.trans y3).f (by unfold fdZ; omega)).f (by unfold fdZ; omega)
        · rw [h5, jw_at, if_neg (by decide), h4, jw_at, if_pos rfl]; rfl
        · rw [h5, jw_at, if_pos rfl]; rfl
      · rw [n2.1.1.1, drS_ne _ _ _ 0 (by decide)] at q
        exact absurd (nI_le (Nat.le_refl _) (by omega)) q
    | succ m ih =>
      intro k u2 hm y2 n2
      have hk : k < w.1 0 0 := by omega
      refine g_X8_byLot_10 ⟨fun q => ?_, fun _ v hv => ?_⟩
      · rw [n2.1.1.1, drS_ne _ _ _ 0 (by decide)] at q
        exact absurd q (nI_ge hk (by omega))
      · have ev : v = zz z (k + 1) := hv
        rw [nI_1, ev]
        refine ⟨fun q => ?_, fun q => ⟨vpI (by omega) (by omega), fun u3 h3 => ?_⟩⟩
        · have e : drS w.1 z (k + 1) = drS w.1 z k := by
            show (if drB (zz z (k + 1)) = true then _ else _) = _
            rw [if_neg (show ¬ drB (zz z (k + 1)) = true from fun g => q (of_decide_eq_true g))]
          exact ih (k + 1) u2 (by omega) y2 (by rw [e]; exact n2)
        · have e : drS w.1 z (k + 1) = set1 (drS w.1 z k) 6 k 0 := by
            show (if drB (zz z (k + 1)) = true then _ else _) = _
            rw [if_pos (show drB (zz z (k + 1)) = true from decide_eq_true q)]
          rw [nI_cl (by omega)] at h3
          refine ih (k + 1) u3 (by omega) (by rw [h3]; exact y2.w (by unfold inY; omega) (by decide)) ?_
          rw [e]
          exact n2.set (Or.inr (Or.inr ⟨rfl, h3⟩))
  exact draw (w.1 0 0) 0 u1 (by omega) sF.rfl n1
theorem cnB_bits {p : Nat → Bool} {n : Nat} (hn : n ≤ 13) : cnB (bits n p) = cntP n p := by
  unfold cnB
  have e : ∀ m, n + m = 13 → cntP 13 (fun i => (bits n p).testBit i) = cntP n p := by
    intro m hm
    have go : ∀ k, cntP (n + k) (fun i => (bits n p).testBit i) = cntP n p := by
      intro k
      induction k with
      | zero => exact cntP_ext fun i hi => by rw [bits_test, decide_eq_true (show i < n from hi), Bool.true_and]
      | succ k ih =>
        show cntP (n + k) (fun i => (bits n p).testBit i) + (if (bits n p).testBit (n + k) then 1 else 0) = cntP n p
        rw [ih, bits_test, decide_eq_false (by omega)]
        rfl
    rw [← hm]
    exact go m
  exact e (13 - n) (by omega)
theorem c_X8_drawn {E : JE} {u : JM} {K : Int32 → JM → Prop}  {a1 a2 : Int32} {w : Wd} (c : XW w u) (ww : NW w.1) (hT : w.1 21 0 + 90 < 1000000000)
    (hK : ∀ u', up u u' → XW w u' → K (anDrawn w.1 a1 a2) u') : JCi E 11 YX8_drawn [.ref 137, .int a1, .int a2] K u := by
  refine JCi.ofV (ls := [some (.ref 137), some (.int a1), some (.int a2)]) (by decide +kernel) (Nat.le_of_ble_eq_true rfl) rfl rfl (g_X8_drawn_0  ?_)
  unfold anDrawn at hK
  by_cases ok : rg a1 0 7
  · rw [if_pos ok] at hK
    refine c_X8_isRouter ⟨fun _ => ?_, fun q => absurd ok (jb_0.mp q)⟩
    obtain ⟨r, hr, rfl⟩ := rt_nI ok
    rw [nI_cl (show r < 2147483648 by omega)] at hK
    refine c_X8_byLot c ww hT hr fun u' z1 z2 z3 z4 => ?_
    have h := hK u' z1 z2
    unfold rcS at h
    rw [cnB_bits (by decide)] at h
    rw [z3]
    exact h
  · have hB : K (-2) u := by
      have := hK u up.rfl c
      rwa [if_neg ok] at this
    exact c_X8_isRouter ⟨fun q => absurd (jb_n0.mp q) ok, fun _ => hB⟩
theorem c_gcd {E : JE} {u : JM} {K : Int32 → JM → Prop} : ∀ (dd a b : Nat), a ≤ 6 → b ≤ 6 → b < dd → K (nI (Nat.gcd a b)) u → JCi E dd YX8_common [.int (nI a), .int (nI b)] K u
  | 0, _, _, _, _, h, _ => absurd h (Nat.not_lt_zero _)
  | dd + 1, a, b, ha, hb, h, hK => by
    refine JCi.ofV (ls := [some (.int (nI a)), some (.int (nI b))]) (by decide +kernel) (Nat.le_of_ble_eq_true rfl) rfl rfl (g_X8_common_0 ?_)
    refine ⟨fun q => ⟨q, ?_⟩, fun q => ?_⟩
    · have hb0 : 0 < b := Nat.pos_of_ne_zero fun g => q (by rw [g]; rfl)
      have em : nI a - nI a / nI b * nI b = nI (a % b) := by
        have h : ((List.range 7).all fun a => (List.range 7).all fun b => decide (0 < b → nI a - nI a / nI b * nI b = nI (a % b))) = true := by decide +kernel
        exact of_decide_eq_true (List.all_eq_true.mp (List.all_eq_true.mp h a (List.mem_range.mpr (by omega))) b (List.mem_range.mpr (by omega))) hb0
      have hlt := Nat.mod_lt a hb0
      rw [em]
      refine c_gcd dd b (a % b) hb (by omega) (by omega) ?_
      rw [show Nat.gcd b (a % b) = Nat.gcd a b by rw [Nat.gcd_comm b (a % b), ← Nat.gcd_rec b a, Nat.gcd_comm]]
      exact hK
    · have hb0 : b = 0 := nI_inj (b := 0) (by omega) (by omega) q
      rw [hb0, Nat.gcd_zero_right] at hK
      exact hK
/-- whoever is reached, is joined -/
def SubR (S : St) (r : Nat) : Prop := ∀ d, d < 8 → (rtC S r d).1 ≠ -1 → dD (Et S 12) r d < 9999
theorem lo_eq {S : St} {r : Nat} (h : SubR S r) : loR S r 8 = loT S r 8 ↔ rcS S r = jnS S r := by
  have hm : ∀ i, i < 8 → (!decide ((rtC S r i).1 = -1)) = true → decide (dD (Et S 12) r i < 9999) = true := fun i hi q => decide_eq_true (h i hi (by simpa using q))
  constructor
  · intro e
    unfold rcS jnS
    refine bits_ext fun i hi => ?_
    cases g : decide (dD (Et S 12) r i < 9999) with
    | true =>
      cases g' : (!decide ((rtC S r i).1 = -1)) with
      | true => rfl
      | false =>
        have := cntP_lt hm hi g' g
        unfold loR loT at e
        omega
    | false =>
      cases g' : (!decide ((rtC S r i).1 = -1)) with
      | true => rw [hm i hi g'] at g; exact absurd g (by decide)
      | false => rfl
  · intro e
    unfold loR loT
    refine cntP_ext fun i hi => ?_
    have h1 := congrArg (fun m => Nat.testBit m i) e
    unfold rcS jnS at h1
    simp only [bits_test] at h1
    simpa [hi] using h1
theorem c_X8_chance {E : JE} {u : JM} {K : Int32 → JM → Prop}  {a1 a2 a3 a4 : Int32} {w : Wd} (c : XW w u) (ww : NW w.1) (hT : w.1 21 0 + 90 < 1000000000) (hS : ∀ z r, r < 8 → SubR (seS w.1 z) r)
    (hK : ∀ u', up u u' → XW w u' → K (anChance w.1 a1 a2 a3 a4) u') : JCi E 41 YX8_chance [.ref 137, .int a1, .int a2, .int a3, .int a4] K u := by
  refine JCi.ofV (ls := [some (.ref 137), some (.int a1), some (.int a2), some (.int a3), some (.int a4), none, none]) (by decide +kernel) (Nat.le_of_ble_eq_true rfl) rfl rfl (g_X8_chance_0  ?_)
  unfold anChance at hK
  by_cases ok : rg a1 0 7 ∧ rg a3 1 6 ∧ rg a4 0 1
  · rw [if_pos ok] at hK
    obtain ⟨o1, o2, o3⟩ := ok
    refine c_X8_isRouter ⟨fun q => absurd o1 (jb_0.mp q), fun _ => ⟨fun q => absurd o2 (jb_0.mp q), fun _ => ⟨fun _ => ?_, fun q => absurd o3 (jb_0.mp q)⟩⟩⟩
    obtain ⟨r, hr, rfl⟩ := rt_nI o1
    obtain ⟨n, n1, n6, rfl⟩ := rg1_nI (hi := 6) (by decide) o2
    rw [nI_cl (show r < 2147483648 by omega), nI_cl (show n < 2147483648 by omega)] at hK
    have main : ∀ (m k : Nat) (u' : JM), m + k = n → up u u' → XW w u' → JVi E 41 YX8_chance K 36 [some (.ref 137), some (.int (nI r)), some (.int a2), some (.int (nI n)), some (.int a4), some (.int (nI (hitN w.1 r a2 k))), some (.int (nI k))] [] u' := by
      intro m
      induction m with
      | zero =>
        intro k u' hm hu hX
        obtain rfl : k = n := by omega
        have hh : hitN w.1 r a2 k ≤ 6 := Nat.le_trans (cntP_le k _) n6
        have h := hK u' hu hX
        have g0 : 0 < Nat.gcd (hitN w.1 r a2 k) k := Nat.gcd_pos_of_pos_right _ (by omega)
        have g6 : Nat.gcd (hitN w.1 r a2 k) k ≤ k := Nat.gcd_le_right _ (by omega)
        have n0 : ¬ nI (Nat.gcd (hitN w.1 r a2 k) k) = 0 := fun g => by have := nI_inj (b := 0) (by omega) (by omega) g; omega
        refine g_X8_chance_36 ⟨fun _ v hv => c_gcd 40 _ _ hh n6 (by omega) ⟨n0, ?_⟩, fun q => absurd (nI_le (Nat.le_refl k) (by omega)) q⟩
        rw [hv]
        exact h
      | succ m ih =>
        intro k u' hm hu hX
        refine g_X8_chance_36 ⟨fun q => absurd q (nI_ge (by omega) (by omega)), fun _ => ?_⟩
        refine c_X8_byLot hX ww hT hr fun u2 z1 z2 z3 z4 v hv => ?_
        have b1 := cntP_le 8 fun d => !decide ((rtC (seS w.1 (a2 + nI k)) r d).1 = -1)
        have b2 := cntP_le 8 fun d => decide (dD (Et (seS w.1 (a2 + nI k)) 12) r d < 9999)
        have hl := lo_eq (hS (a2 + nI k) r hr)
        rw [z3, z4, nI_1] at hv
        have e : v = nI (hitN w.1 r a2 (k + 1)) := by
          have et : hitN w.1 r a2 (k + 1) = hitN w.1 r a2 k + if hitB w.1 r (a2 + nI k) then 1 else 0 := rfl
          rw [hv, et]
          by_cases y : rcS (seS w.1 (a2 + nI k)) r = jnS (seS w.1 (a2 + nI k)) r
          · rw [if_pos (by rw [hl.mpr y]), if_pos (show hitB w.1 r (a2 + nI k) = true from decide_eq_true y)]
          · rw [if_neg (fun g => y (hl.mp (nI_inj (by unfold loR; omega) (by unfold loT; omega) g))), if_neg (show ¬ hitB w.1 r (a2 + nI k) = true from fun g => y (of_decide_eq_true g))]; rfl
        rw [e, nI_1]
        exact ih (k + 1) u2 (by omega) (hu.trans z1) z2
    exact main n 0 u (by omega) up.rfl c
  · have hB : K (-2) u := by
      have := hK u up.rfl c
      rwa [if_neg ok] at this
    exact c_X8_isRouter ⟨fun _ => hB, fun q1 => ⟨fun _ => hB, fun q2 => ⟨fun q3 => absurd ⟨jb_n0.mp q1, jb_n0.mp q2, jb_n0.mp q3⟩ ok, fun _ => hB⟩⟩⟩
