/-! the reference: what a sheet tells -/
theorem QS.t {h : Sh} {u u' : JM} {A : Nat → Prop} (c : QS h u) (e : sR A u u') (hA : ∀ b, A b → b < 3763) : QS h u' := c.congr fun b hb => e.1 b (by omega) fun q => by have := hA b q; omega
theorem c_oth {E : JE} {u0 : JM} {K : Int32 → JM → Prop} {s : St} {h : Sh} (hL : QL s u0) (hQ : QK s u0) (wL : WL s) (wK : WK s) (hS : QS h u0) {i r : Nat} (hi : i < 4) (hr : r < 8) (hn : h.2.1 i ≤ 8)
    (hK : ∀ u, sR inWR u0 u → K (fo h s r i) u) : JCi E 8 YX8_otherwise [.ref 137, .int (nI i), .int (nI r)] K u0 := by
  have ei : (nI i).toNatClampNeg = i := nI_cl (by omega)
  refine JCi.ofV (ls := [some (.ref 137), some (.int (nI i)), some (.int (nI r)), none]) (by decide +kernel) (Nat.le_of_ble_eq_true rfl) rfl rfl (g_X8_otherwise_0 ?_)
  have main : ∀ (m k : Nat) (u : JM), m + k = h.2.1 i → sR inWR u0 u → (∀ u', sR inWR u0 u' → K (foF (h.2.2 i) (fun d => (rtC s r d).1) m k) u') → JVi E 8 YX8_otherwise K 2 [some (.ref 137), some (.int (nI i)), some (.int (nI r)), some (.int (nI k))] [] u := by
    intro m
    induction m with
    | zero =>
      intro k u hm hs hk
      obtain rfl : k = h.2.1 i := by omega
      obtain ⟨-, s2, -⟩ := (hS.t hs fun b q => by unfold inWR at q; omega) i hi
      refine g_X8_otherwise_2 ⟨vpI hi (by omega), ?_⟩
      rw [ei, s2]
      exact ⟨fun _ => hk u hs, fun q => absurd (nI_le (Nat.le_refl _) (by omega)) q⟩
    | succ m ih =>
      intro k u hm hs hk
      obtain ⟨-, s2, -⟩ := (hS.t hs fun b q => by unfold inWR at q; omega) i hi
      have hk' : ∀ u', sR inWR u0 u' → K (if h.2.2 i k = (rtC s r k).1 then foF (h.2.2 i) (fun d => (rtC s r d).1) m (k + 1) else nI k) u' := hk
      refine g_X8_otherwise_2 ⟨vpI hi (by omega), ?_⟩
      rw [ei, s2]
      refine ⟨fun q => absurd q (nI_ge (by omega) (by omega)), fun _ => ?_⟩
      refine c_X8_costNow (hL.tmp hs fun b q => by unfold inWR at q; omega) (hQ.tmp hs fun b q => by unfold inWR at q; omega) wL wK hr (by omega) fun u1 q1 => ⟨vpI (by omega) (by omega), ?_⟩
      have s1 := hs.trans q1
      obtain ⟨-, -, s3⟩ := (hS.t s1 fun b q => by unfold inWR at q; omega) i hi
      rw [nI_1, nI_cl (show k < 2147483648 by omega), s3 k (by omega)]
      refine ⟨fun q => ?_, fun q => ?_⟩
      · rw [if_pos q.symm] at hk'; exact ih (k + 1) u1 (by omega) s1 hk'
      · rw [if_neg (fun g => q g.symm)] at hk'; exact hk' u1 s1
  exact main (h.2.1 i) 0 u0 (by omega) sR.rfl hK
/-- a thought: set aside, changed, forty ticks, a sheet compared, laid back -/
theorem c_thk {E : JE} {w : Wd} {u : JM} (c : XW w u) (hT : w.1 21 0 + 90 < 1000000000) {s1 : St} (w1 : NW s1) (e21 : s1 21 0 = w.1 21 0) {i r : Nat} (hi : i < 4) (hr : r < 8) (hn : w.2.2.2.2.1 i ≤ 8) {u1 u2 : JM} (q1 : same u u1 (inAs 0)) (a1 : QB w.1 (asd 0 u1)) (y2 : sF inY fdZ u1 u2) (n2 : QB s1 u2) {K : Int32 → JM → Prop}
    (k : ∀ u4, (∀ {G : JM → Prop}, (∀ u', up u u' → XW w u' → G u') → JCu E 2 YX8_layBack [.ref 137, .int 0] G u4) → K (fo w.2.2.2 (ticksS s1 40) r i) u4) : JCu E 9 YX8_goesLong [.ref 137] (fun u3 => JCi E 8 YX8_otherwise [.ref 137, .int (nI i), .int (nI r)] K u3) u2 := by
  refine c_X8_goesLong n2.1 w1 (by rw [e21]; exact hT) fun u3 y3 n3 => ?_
  have w3 := (ticksS_NW w1 40 (by rw [e21]; omega)).1
  have z3 : sF inZ fdZ u u3 := (as_Z q1).trans (sY_Z (y2.trans y3))
  refine c_oth n3.1 n3.2.1 w3.1 w3.2.1 (c.2.2.2.congr fun b hb => z3.1 b (by omega) (by unfold inZ inAs; omega)) hi hr hn fun u4 q4 => ?_
  have y4 : sF inY fdZ u1 u4 := (y2.trans y3).trans (wr_Y q4)
  refine k u4 fun g => c_back0 (as0_keep a1 y4) fun u5 y5 n5 => ?_
  have z : sF inZ fdZ u u5 := (as_Z q1).trans (sY_Z (y4.trans y5))
  exact g u5 (up_Z z) (c.live z n5)
theorem c_lby {E : JE} {u : JM} {K : Int32 → JM → Prop} {w : Wd} (c : XW w u) (ww : NW w.1) (hT : w.1 21 0 + 90 < 1000000000) {i r : Nat} (hi : i < 4) (hr : r < 8) (hn : w.2.2.2.2.1 i ≤ 8)
    (hK : ∀ u', up u u' → XW w u' → K (nI (bits (w.1 0 0) (ltsB w i r))) u') : JCi E 10 YX8_linksBy [.ref 137, .int (nI i), .int (nI r)] K u := by
  have h12 := ww.1.1
  refine JCi.ofV (ls := [some (.ref 137), some (.int (nI i)), some (.int (nI r)), none, none]) (by decide +kernel) (Nat.le_of_ble_eq_true rfl) rfl rfl (g_X8_linksBy_0 ?_)
  have main : ∀ (m k : Nat) (u' : JM), m + k = w.1 0 0 → up u u' → XW w u' → JVi E 10 YX8_linksBy K 5 [some (.ref 137), some (.int (nI i)), some (.int (nI r)), some (.int (nI (bits k (ltsB w i r)))), some (.int (nI k))] [] u' := by
    intro m
    induction m with
    | zero =>
      intro k u' hm hu hX
      obtain rfl : k = w.1 0 0 := by omega
      refine g_X8_linksBy_5 ⟨fun _ => hK u' hu hX, fun q => ?_⟩
      rw [hX.1.1.1.1] at q
      exact absurd (nI_le (Nat.le_refl _) (by omega)) q
    | succ m ih =>
      intro k u' hm hu hX
      have hk : k < w.1 0 0 := by omega
      have h6 := (ww.1.2 k hk).2.2.2.2.2.2
      refine g_X8_linksBy_5 ⟨fun q => ?_, fun _ => ⟨vpI (by omega) (by omega), ?_⟩⟩
      · rw [hX.1.1.1.1] at q
        exact absurd q (nI_ge hk (by omega))
      · rw [nI_cl (show k < 2147483648 by omega), (hX.1.1.1.2 k hk).2.2.2.1, nI_1]
        refine ⟨fun q => ?_, fun q => ?_⟩
        · have q' : w.1 6 k = 1 := by
            rcases (show w.1 6 k = 0 ∨ w.1 6 k = 1 by omega) with g | g
            · rw [g] at q; exact absurd rfl q
            · exact g
          refine c_keep0 hX.1 fun u1 q1 n1 a1 u2 h2 => ?_
          have w1 : NW (set1 w.1 6 k 0) := set1_NW ww hk (Or.inr ⟨rfl, by omega⟩)
          refine c_thk hX hT w1 (by rw [set1_ne (by decide)]) hi hr hn q1 a1 (by rw [h2]; exact sF.rfl.w (by unfold inY; omega) (by decide)) (n1.set (Or.inr (Or.inr ⟨rfl, h2⟩))) fun u4 back v hv => ?_
          rw [nI_bits (by omega) _ (by unfold ltsB; rw [q']; simp)] at hv
          rw [hv]
          exact back fun u5 z1 z2 => ih (k + 1) u5 (by omega) (hu.trans z1) z2
        · have q' : w.1 6 k = 0 := nI_inj (b := 0) (by omega) (by omega) q
          have e : bits (k + 1) (ltsB w i r) = bits k (ltsB w i r) := by rw [bits_suc, if_neg (by unfold ltsB; rw [q']; simp)]
          have := ih (k + 1) u' (by omega) hu hX
          rw [e] at this
          exact this
  exact main (w.1 0 0) 0 u (by omega) up.rfl c
/-- the first that fits -/
def lsF (p : Nat → Bool) : Nat → Int32
  | 0 => -1
  | k + 1 => if p k = true then (if cntP k p = 0 then nI k else lsF p k) else lsF p k
theorem lb_ls (p : Nat → Bool) : ∀ (m k : Nat), m + k = 13 → cntP k p = 0 → lsF p k = -1 → lbF (bits 13 p) m k = lsF p 13
  | 0, k, hm, h0, h1 => by
    obtain rfl : k = 13 := by omega
    exact h1.symm
  | m + 1, k, hm, h0, h1 => by
    show (if (bits 13 p).testBit k = true then nI k else lbF (bits 13 p) m (k + 1)) = _
    rw [bits_test, decide_eq_true (show k < 13 by omega), Bool.true_and]
    have ec : cntP (k + 1) p = cntP k p + if p k then 1 else 0 := rfl
    have el : lsF p (k + 1) = if p k = true then (if cntP k p = 0 then nI k else lsF p k) else lsF p k := rfl
    by_cases q : p k = true
    · rw [if_pos q]
      rw [if_pos q] at ec
      rw [if_pos q, if_pos h0] at el
      have stay : ∀ n, lsF p (k + 1 + n) = nI k ∧ 0 < cntP (k + 1 + n) p := by
        intro n
        induction n with
        | zero => exact ⟨el, by rw [Nat.add_zero, ec]; omega⟩
        | succ n ih =>
          constructor
          · show (if p (k + 1 + n) = true then (if cntP (k + 1 + n) p = 0 then nI (k + 1 + n) else lsF p (k + 1 + n)) else lsF p (k + 1 + n)) = nI k
            rw [if_neg (show ¬ cntP (k + 1 + n) p = 0 by omega), ih.1]
            split <;> rfl
          · show 0 < cntP (k + 1 + n) p + _
            omega
      have := (stay (12 - k)).1
      rw [show k + 1 + (12 - k) = 13 by omega] at this
      exact this.symm
    · rw [if_neg q]
      rw [if_neg q] at ec el
      exact lb_ls p m (k + 1) (by omega) (by rw [ec]; omega) (by rw [el]; exact h1)
theorem c_cby {E : JE} {u : JM} {K : Int32 → JM → Prop} {w : Wd} (c : XW w u) (ww : NW w.1) (hT : w.1 21 0 + 90 < 1000000000) {i r l : Nat} (hi : i < 4) (hr : r < 8) (hl : l < w.1 0 0) (hn : w.2.2.2.2.1 i ≤ 8) {v : Int32}
    (hK : ∀ u', up u u' → XW w u' → K (if v = 0 then nI (cntP 13 (ctsB w i r l)) else lsF (ctsB w i r l) 13) u') : JCi E 10 YX8_costsBy [.ref 137, .int (nI i), .int (nI r), .int (nI l), .int v] K u := by
  have h12 := ww.1.1
  have e2l : (2 * nI l : Int32) = nI (2 * l) := by rw [show (2 : Int32) = nI 2 from rfl, nI_mul]
  refine JCi.ofV (ls := [some (.ref 137), some (.int (nI i)), some (.int (nI r)), some (.int (nI l)), some (.int v), none, none, none, none]) (by decide +kernel) (Nat.le_of_ble_eq_true rfl) rfl rfl (g_X8_costsBy_0 ?_)
  have main : ∀ (m k : Nat) (u' : JM), m + k = 13 → 1 ≤ k → up u u' → XW w u' → JVi E 10 YX8_costsBy K 9 [some (.ref 137), some (.int (nI i)), some (.int (nI r)), some (.int (nI l)), some (.int v), some (.int (nI (cntP k (ctsB w i r l)))), some (.int (lsF (ctsB w i r l) k)), some (.int (nI k)), none] [] u' := by
    intro m
    induction m with
    | zero =>
      intro k u' hm h1 hu hX
      obtain rfl : k = 13 := by omega
      have h := hK u' hu hX
      refine g_X8_costsBy_9 ⟨fun _ => ⟨fun q => ?_, fun q => ?_⟩, fun q => absurd (show (12 : Int32) < nI 13 by decide) q⟩
      · rw [if_pos q] at h; exact h
      · rw [if_neg q] at h; exact h
    | succ m ih =>
      intro k u' hm h1 hu hX
      have q0 : ¬ (12 : Int32) < nI k := by
        rw [Int32.lt_iff_toInt_lt, nI_toInt (by omega), show (12 : Int32).toInt = 12 from by decide]
        omega
      refine g_X8_costsBy_9 ⟨fun q => absurd q q0, fun _ => ?_⟩
      rw [e2l]
      refine c_keep0 hX.1 fun u1 q1 n1 a1 => ⟨vpI (by omega) (by omega), fun u2 h2 => ?_⟩
      rw [nI_cl (by omega)] at h2
      have w1 : NW (set1 w.1 4 l k) := set1_NW ww hl (Or.inl ⟨Or.inl rfl, h1, by omega⟩)
      refine c_thk hX hT w1 (by rw [set1_ne (by decide)]) hi hr hn q1 a1 (by rw [h2]; exact sF.rfl.w (by unfold inY; omega) (by decide)) (n1.set (Or.inl ⟨rfl, h2⟩)) fun u4 back v5 hv5 => back fun u6 z1 z2 v7 hv7 v8 hv8 => ?_
      have hcp := cntP_le k (ctsB w i r l)
      have ec : cntP (k + 1) (ctsB w i r l) = cntP k (ctsB w i r l) + if ctsB w i r l k then 1 else 0 := rfl
      have el : lsF (ctsB w i r l) (k + 1) = if ctsB w i r l k = true then (if cntP k (ctsB w i r l) = 0 then nI k else lsF (ctsB w i r l) k) else lsF (ctsB w i r l) k := rfl
      have hb : (fo w.2.2.2 (ticksS (set1 w.1 4 l k) 40) r i = -1) ↔ ctsB w i r l k = true := by unfold ctsB; simp [h1]
      have next := ih (k + 1) u6 (by omega) (by omega) (hu.trans z1) z2
      rw [nI_1] at hv7
      rw [nI_1]
      by_cases g : ctsB w i r l k = true
      · rw [if_pos (hb.mpr g)] at hv5
        rw [hv5, if_neg (by decide)] at hv7 hv8
        rw [if_pos g] at ec el
        have e8 : v8 = lsF (ctsB w i r l) (k + 1) := by
          rw [hv8, el]
          by_cases y : cntP k (ctsB w i r l) = 0
          · rw [if_pos (by rw [y]; rfl), if_pos y]
          · rw [if_neg (show ¬ nI (cntP k (ctsB w i r l)) = 0 from fun z => y (nI_inj (b := 0) (by omega) (by omega) z)), if_neg y]
        rw [hv7, e8, ← ec]
        exact next
      · rw [if_neg (fun z => g (hb.mp z))] at hv5
        rw [hv5, if_pos rfl] at hv7 hv8
        rw [if_neg g] at ec el
        rw [hv7, hv8, ← el]
        rw [ec, Nat.add_zero] at next
        exact next
  have h := main 12 1 u (by omega) (by omega) up.rfl c
  have z0 : ctsB w i r l 0 = false := by unfold ctsB; simp
  have e1 : cntP 1 (ctsB w i r l) = 0 := by show 0 + (if ctsB w i r l 0 then 1 else 0) = 0; rw [z0]; rfl
  have e2 : lsF (ctsB w i r l) 1 = -1 := by show (if ctsB w i r l 0 = true then _ else lsF _ 0) = -1; rw [z0]; rfl
  rw [e1, e2] at h
  exact h
theorem c_X8_tells_ {E : JE} {u : JM} {K : Int32 → JM → Prop} {a1 a2 a3 : Int32} {w : Wd} (c : XW w u) (ww : NW w.1) (wS : WS w.2.2.2) (hT : w.1 21 0 + 90 < 1000000000)
    (hK : ∀ u', up u u' → XW w u' → K (anTells w a1 a2 a3) u') : JCi E 11 YX8_tells_ [.ref 137, .int a1, .int a2, .int a3] K u := by
  refine JCi.ofV (ls := [some (.ref 137), some (.int a1), some (.int a2), some (.int a3), none, none]) (by decide +kernel) (Nat.le_of_ble_eq_true rfl) rfl rfl (g_X8_tells__0  ?_)
  unfold anTells at hK
  have hn := ww.1.1
  by_cases ok : rg a1 0 3 ∧ rg a2 0 7 ∧ isTldW a3
  · rw [if_pos ok] at hK
    obtain ⟨o1, o2, o3⟩ := ok
    refine c_X8_isSheet ⟨fun q => absurd o1 (jb_0.mp q), fun _ => c_X8_isRouter ⟨fun q => absurd o2 (jb_0.mp q), fun _ => ?_⟩⟩
    obtain ⟨i, hi, rfl⟩ := sh_nI o1
    obtain ⟨r, hr, rfl⟩ := rt_nI o2
    obtain ⟨x, hx, rfl, hx2⟩ := tl_x o3
    have el : tlL (nI x) = x / 4 - 1 := by unfold tlL; rw [nI_cl hx]
    rw [nI_cl (show i < 2147483648 by omega), nI_cl (show r < 2147483648 by omega), nI_cl hx, el] at hK
    obtain ⟨s1, s2, s3⟩ := c.2.2.2 i hi
    have hw := wS i hi
    have n0 : ∀ k : Nat, k < 10 → (nI x = nI k ↔ x = k) := fun k hk => nI_eq (by omega) (by omega)
    have e4 : 4 ≤ x → (nI x / 4 - 1 = nI (x / 4 - 1)) := fun g => by rw [nI_div4 hx, nI_sub1 (by omega)]
    have em : nI x - nI x / 4 * 4 = nI (x % 4) := by
      rw [nI_div4 hx, show (4 : Int32) = nI 4 from rfl, nI_mul, nI_sub (by omega)]
      congr 1
      omega
    have n00 : nI x = 0 ↔ x = 0 := n0 0 (by omega)
    have n02 : nI x = 2 ↔ x = 2 := n0 2 (by omega)
    have le3 : nI x ≤ 3 ↔ x ≤ 3 := by rw [show (3 : Int32) = nI 3 from rfl, i32_le (k := 3) (by decide), nI_toInt hx]; omega
    rw [nI_cl (show i < 2147483648 by omega), s1, s2, em, le3, n00, n02]
    have hs0 : 0 ≤ w.2.2.2.1 i ↔ ¬ w.2.2.2.1 i = -1 := by
      rcases hw.1 with g | g | g <;> rw [g] <;> decide
    rw [hs0]
    have mid : ¬ (4 ≤ x ∧ w.1 0 0 ≤ x / 4 - 1) → vp_in (nI i) 4 ∧ ((¬ w.2.2.2.1 i = -1 → ((nI (w.2.2.2.2.1 i) ≤ 8 → ((¬ x = 0 → ((¬ x = 2 → ((x ≤ 3 → JVi E 11 YX8_tells_ K 142 [some (.ref 137), some (.int (nI i)), some (.int (nI r)), some (.int (nI x)), some (.int 0), some (.int 0)] [] u) ∧
             (¬ x ≤ 3 → ∀ v_3 : Int32, v_3 = (if nI (x % 4) = 1 then 1 else 0) → JCi E 10 YX8_costsBy [.ref 137, .int (nI i), .int (nI r), .int ((nI x / 4) - 1), .int v_3] (fun x4 u4 => K x4 u4) u))) ∧
            (x = 2 → JCi E 10 YX8_linksBy [.ref 137, .int (nI i), .int (nI r)] (fun x5 u5 => K x5 u5) u))) ∧
           (x = 0 → JCi E 8 YX8_otherwise [.ref 137, .int (nI i), .int (nI r)] (fun x6 u6 => K x6 u6) u))) ∧
          (¬ nI (w.2.2.2.2.1 i) ≤ 8 → K (-2) u))) ∧ (¬ ¬ w.2.2.2.1 i = -1 → K (-11) u)) := by
      intro g
      rw [if_neg g] at hK
      refine ⟨vpI hi (by omega), fun q => ?_, fun q => ?_⟩
      · rw [if_neg q] at hK
        refine ⟨fun q1 => ?_, fun q1 => ?_⟩
        · have hn8 : w.2.2.2.2.1 i ≤ 8 := Nat.le_of_not_lt fun g => nI_ge (a := 8) g (by omega) q1
          rw [if_neg (by omega)] at hK
          refine ⟨fun z0 => ⟨fun z2 => ⟨fun z3 => ?_, fun z3 v hv => ?_⟩, fun z2 => ?_⟩, fun z0 => ?_⟩
          · have x1 : x = 1 := by omega
            rw [if_neg z0, if_pos x1] at hK
            have main : ∀ (m k : Nat) (u' : JM), m + k = 8 → up u u' → XW w u' → JVi E 11 YX8_tells_ K 142 [some (.ref 137), some (.int (nI i)), some (.int (nI r)), some (.int (nI x)), some (.int (nI (bits k (rtsB w i)))), some (.int (nI k))] [] u' := by
              intro m
              induction m with
              | zero =>
                intro k u' hm hu hX
                obtain rfl : k = 8 := by omega
                exact g_X8_tells__142 ⟨fun _ => hK u' hu hX, fun q => absurd (show (8 : Int32) ≤ nI 8 by decide) q⟩
              | succ m ih =>
                intro k u' hm hu hX
                refine g_X8_tells__142 ⟨fun q => absurd q (nI_ge (a := k) (b := 8) (by omega) (by omega)), fun _ => ?_⟩
                refine c_oth hX.1.1.1 hX.1.1.2.1 ww.1 ww.2.1 hX.2.2.2 hi (show k < 8 by omega) hn8 fun u1 q1 v hv => ?_
                rw [nI_bits (by omega) _ (by unfold rtsB; simp)] at hv
                rw [hv, nI_1]
                exact ih (k + 1) u1 (by omega) (hu.trans (up_R q1 fun b q => by unfold inWR at q; omega)) (hX.t q1 wr_tmp)
            exact main 8 0 u (by omega) up.rfl c
          · have x4 : 4 ≤ x := by omega
            rw [if_neg z0, if_neg (show ¬ x = 1 by omega), if_neg z2] at hK
            rw [e4 x4]
            refine c_cby c ww hT hi hr (by omega) hn8 fun u1 z1 zX => ?_
            have h := hK u1 z1 zX
            by_cases y : x % 4 = 1
            · rw [if_pos y] at h
              rw [if_pos (show nI (x % 4) = 1 by rw [y]; rfl)] at hv
              rw [if_neg (by rw [hv]; decide)]
              rw [lb_ls _ 13 0 (by omega) rfl rfl] at h
              exact h
            · rw [if_neg y] at h
              rw [if_neg (show ¬ nI (x % 4) = 1 from fun z => y (nI_inj (b := 1) (by omega) (by omega) z))] at hv
              rw [if_pos hv]
              rw [cnB_bits (Nat.le_refl 13)] at h
              exact h
          · rw [if_neg z0, if_neg (show ¬ x = 1 by omega), if_pos z2] at hK
            exact c_lby c ww hT hi hr hn8 hK
          · rw [if_pos z0] at hK
            exact c_oth c.1.1.1 c.1.1.2.1 ww.1 ww.2.1 c.2.2.2 hi hr hn8 fun u1 q1 => hK u1 (up_R q1 fun b q => by unfold inWR at q; omega) (c.t q1 wr_tmp)
        · have hn8 : 8 < w.2.2.2.2.1 i := Nat.lt_of_not_le fun g => q1 (nI_le (b := 8) g (by omega))
          rw [if_pos hn8] at hK
          exact hK u up.rfl c
      · rw [if_pos (Classical.not_not.mp q)] at hK
        exact hK u up.rfl c
    refine ⟨fun q => absurd q (nI_nn hx), fun _ => ⟨fun q => ?_, fun _ => ⟨fun _ => ⟨fun q4 => mid (by omega), fun q4 => ?_⟩, fun q => ⟨fun q4 => ⟨fun _ => mid (by omega), fun q5 => absurd q4 q5⟩, fun q4 => ?_⟩⟩⟩⟩
    · have : x = 3 := nI_inj (b := 3) (by omega) (by omega) q
      omega
    · refine c_X8_isLink c.1.1.1 ww.1 ?_
      rw [s1, s2, hs0, e4 (by omega)]
      rw [e4 (by omega)] at mid
      refine ⟨fun q => mid fun g => ?_, fun q => ?_⟩
      · have := (jb_n0.mp q).2
        rw [nI_toInt (by omega)] at this
        omega
      · have q3 := jb_0.mp q
        rw [if_pos ⟨by omega, Nat.le_of_not_lt fun z => q3 (by unfold isLk; rw [nI_toInt (by omega)]; omega)⟩] at hK
        exact hK u up.rfl c
    · exact absurd (show nI (x % 4) ≤ nI 1 from nI_le (by omega) (by omega)) q
  · have hB : K (-2) u := by
      have := hK u up.rfl c
      rwa [if_neg ok] at this
    refine c_X8_isSheet ⟨fun _ => hB, fun q1 => c_X8_isRouter ⟨fun _ => hB, fun q2 => ?_⟩⟩
    have no : ¬ isTldW a3 := fun g => ok ⟨jb_n0.mp q1, jb_n0.mp q2, g⟩
    by_cases n0 : a3 < 0
    · exact ⟨fun _ => hB, fun q => absurd n0 q⟩
    have a0 : 0 ≤ a3.toInt := i32_n.mp n0
    obtain ⟨x, hx, rfl⟩ := nI_of (x := a3) n0
    have em : nI x - nI x / 4 * 4 = nI (x % 4) := by
      rw [nI_div4 hx, show (4 : Int32) = nI 4 from rfl, nI_mul, nI_sub (by omega)]
      congr 1
      omega
    have le3 : nI x ≤ 3 ↔ x ≤ 3 := by rw [show (3 : Int32) = nI 3 from rfl, i32_le (k := 3) (by decide), nI_toInt hx]; omega
    have le1 : nI (x % 4) ≤ 1 ↔ x % 4 ≤ 1 := by rw [show (1 : Int32) = nI 1 from rfl, i32_le (k := 1) (by decide), nI_toInt (by omega)]; omega
    have hx3 : x = 3 ∨ (4 ≤ x ∧ 2 ≤ x % 4) := by
      unfold isTldW at no
      rw [nI_toInt hx] at no
      omega
    rw [em, le3, le1]
    refine ⟨fun q => absurd q n0, fun _ => ⟨fun _ => hB, fun q3 => ⟨fun q4 => ?_, fun q4 => ⟨fun q5 => ?_, fun _ => hB⟩⟩⟩⟩
    · exfalso
      have : x ≠ 3 := fun g => q3 (by rw [g]; rfl)
      omega
    · exfalso
      have : x ≠ 3 := fun g => q3 (by rw [g]; rfl)
      omega
