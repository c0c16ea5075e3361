/-! the reference: what is told -/
theorem smS_1 (s : St) (r d : Nat) (h : dD (Ew s r 0) r d ≤ 9999) : smS s r 1 d 3 = dD (Ew s r 0) r d := by
  have e : smS s r 1 d 3 = mn 9999 (dD (Ew s r 0) r d) := rfl
  rw [e]
  unfold mn
  split <;> omega
theorem and6 {A a : Nat} (hA : A < 8) (ha : a < 3) : (A &&& 6).testBit a = (A.testBit a && decide (a ≠ 0)) := by
  have h : ((List.range 8).all fun A => (List.range 3).all fun a => decide ((A &&& 6).testBit a = (A.testBit a && decide (a ≠ 0)))) = true := by decide +kernel
  exact of_decide_eq_true (List.all_eq_true.mp (List.all_eq_true.mp h A (List.mem_range.mpr hA)) a (List.mem_range.mpr ha))
theorem c_X8_sumOf {E : JE} {u0 : JM} {K : Int32 → JM → Prop} {s : St} (hL : QL s u0) (hK : QK s u0) (wL : WL s) (wK : WK s) {r d a : Nat} (hr : r < 8) (hd : d < 8) (ha : a < 3)
    (k : ∀ u, sR inWR u0 u → K (nI (nwS s r a d)) u) : JCi E 6 YX8_sumOf [.ref 137, .int (nI r), .int (nI d), .int (nI a)] K u0 := by
  have hA := arS_lt s r
  have qL : ∀ {u}, sR inWR u0 u → QL s u := fun h => hL.tmp h fun b q => by unfold inWR at q; omega
  have qK : ∀ {u}, sR inWR u0 u → QK s u := fun h => hK.tmp h fun b q => by unfold inWR at q; omega
  refine JCi.ofV (ls := [some (.ref 137), some (.int (nI r)), some (.int (nI d)), some (.int (nI a)), none, none, none]) (by decide +kernel) (Nat.le_of_ble_eq_true rfl) rfl rfl (g_X8_sumOf_0 ?_)
  rw [nI_eq (a := d) (by omega) (by omega), show (0 : Int32) = nI 0 from rfl, nI_eq (a := a) (by omega) (by omega)]
  have far : (¬ ((arS s r).testBit 0 = true ∧ arS s r ≠ 1) ∨ d = r) → nwS s r a d = 9999 := by
    intro c
    unfold nwS
    by_cases z : (arS s r).testBit 0 = true ∧ arS s r ≠ 1
    · rw [if_pos z]
      rcases c with c | c
      · exact absurd z c
      · rw [if_pos c]
    · rw [if_neg z]
  refine ⟨fun c => ?_, fun c => ?_⟩
  · have h := k u0 sR.rfl
    rw [far (Or.inr c)] at h
    exact h
  · refine c_X8_isBorder hL wL hr ⟨fun c2 => ?_, fun c2 => ?_⟩
    · have z : (arS s r).testBit 0 = true ∧ arS s r ≠ 1 := jb_n0.mp c2
      refine c_X8_areasOf hL wL hr ⟨fun c3 => ?_, fun c3 => ?_⟩
      · -- another area: the backbone, or across it
        have hE0 := Ew_ok wL wK hr (show 0 < 3 by decide)
        have hDl : DS s r 0 d ≤ 9999 := (dD_is hE0 r).2.1 d
        have en : nwS s r a d = if DS s r 0 d < 9999 then DS s r 0 d else (tlP s (DS s r 0) r 0 d 8).1 := by
          unfold nwS suS
          rw [if_pos z, if_neg c, if_neg c3, if_neg c3, smS_1 s r d hDl]
          rfl
        refine c_X8_tellWithin hL hK wL wK hr (show 0 < 3 by decide) fun u1 q1 hD1 hH1 => ⟨vpI hd (by omega), ?_⟩
        have s1 : sR inWR u0 u1 := q1.sR (by unfold inW; omega)
        rw [nI_cl (show d < 2147483648 by omega), hD1 d hd, show (9999 : Int32) = nI 9999 from rfl]
        refine ⟨fun g => ?_, fun g => ?_⟩
        · have g' : ¬ DS s r 0 d < 9999 := fun y => nI_ge y (by omega) g
          refine c_X8_noRoute fun u2 q2 r2 => ?_
          have s2 : sR inWR u0 u2 := s1.trans (q2.mono fun b q => q.elim)
          refine c_X8_across (qL s2) (qK s2) wL wK hr hd (show 0 < 3 by decide) (Nat.le_refl 9999) r2 fun u3 q3 r3 => ?_
          have h := k u3 (s2.trans q3)
          rw [en, if_neg g'] at h
          have ht := (tlP_ok s (DS s r 0) r 0 d 8 (Nat.le_refl 8)).1
          have e25 : u3 137 25 = nI (tlP s (DS s r 0) r 0 d 8).1 := by
            unfold QX at r3
            by_cases y : (tlP s (DS s r 0) r 0 d 8).1 < 9999
            · rw [if_pos y] at r3; exact r3.1
            · rw [if_neg y] at r3
              rw [r3.1]
              congr 1
              omega
          rw [e25]
          exact h
        · have g' : DS s r 0 d < 9999 := Nat.lt_of_not_le fun y => g (nI_le y (by omega))
          have h := k u1 s1
          rw [en, if_pos g'] at h
          exact h
      · -- area 0: the others
        have en : nwS s r a d = smS s r (arS s r &&& 6) d 3 := by
          unfold nwS suS
          rw [if_pos z, if_neg c, if_pos c3, if_pos c3]
        have main : ∀ (m j : Nat) (u : JM), m + j = 3 → sR inWR u0 u → JVi E 6 YX8_sumOf K 36 [some (.ref 137), some (.int (nI r)), some (.int (nI d)), some (.int (nI a)), some (.int (nI (smS s r (arS s r &&& 6) d j))), some (.int (nI (arS s r))), some (.int (nI j))] [] u ∨ j = 0 := by
          intro m
          induction m with
          | zero =>
            intro j u hm hs
            obtain rfl : j = 3 := by omega
            refine Or.inl (g_X8_sumOf_36 ⟨fun _ => ?_, fun q => absurd (show (3 : Int32) ≤ nI 3 by decide) q⟩)
            rw [← en]
            exact k u hs
          | succ m ih =>
            intro j u hm hs
            by_cases j0 : j = 0
            · exact Or.inr j0
            have hj : j < 3 := by omega
            have hs9 := smS_le s r (arS s r &&& 6) d j
            have hDl : DS s r j d ≤ 9999 := (dD_is (Ew_ok wL wK hr hj) r).2.1 d
            have et : (arS s r &&& 6).testBit j = (arS s r).testBit j := by rw [and6 hA hj, decide_eq_true (show j ≠ 0 from j0), Bool.and_true]
            have es : smS s r (arS s r &&& 6) d (j + 1) = if (arS s r).testBit j = true then mn (smS s r (arS s r &&& 6) d j) (DS s r j d) else smS s r (arS s r &&& 6) d j := by rw [← et]; rfl
            refine Or.inl (g_X8_sumOf_36 ⟨fun q => absurd q (nI_ge (a := j) (b := 3) (by omega) (by omega)), fun _ => ?_⟩)
            rw [nI_tst (by omega) (by omega), nI_1]
            refine ⟨fun q => ?_, fun q => ?_⟩
            · have qt : (arS s r).testBit j = true := by simpa using q
              refine c_X8_tellWithin (qL hs) (qK hs) wL wK hr hj fun u1 q1 hD1 hH1 => ⟨vpI hd (by omega), fun v hv => ?_⟩
              rw [nI_cl (show d < 2147483648 by omega), hD1 d hd, mn_nI (by omega) (by omega)] at hv
              rw [if_pos qt] at es
              rw [hv, ← es]
              rcases ih (j + 1) u1 (by omega) (hs.trans (q1.sR (by unfold inW; omega))) with g | g
              · exact g
              · omega
            · rw [if_neg (by rw [q]; simp)] at es
              rw [← es]
              rcases ih (j + 1) u (by omega) hs with g | g
              · exact g
              · omega
        have e1 : smS s r (arS s r &&& 6) d 1 = 9999 := by
          show (if (arS s r &&& 6).testBit 0 = true then _ else smS s r (arS s r &&& 6) d 0) = 9999
          rw [and6 hA (by omega)]
          rw [if_neg (by simp)]
          rfl
        rcases main 2 1 u0 (by omega) sR.rfl with g | g
        · rw [e1] at g; exact g
        · omega
    · have z : ¬ ((arS s r).testBit 0 = true ∧ arS s r ≠ 1) := jb_0.mp c2
      have h := k u0 sR.rfl
      rw [far (Or.inl z)] at h
      exact h
theorem c_X8_isOther {E : JE} {u : JM} {K : Int32 → JM → Prop} {p : Nat} (hp : p < 192) {cs ms nc ns : Nat → Nat} (h1 : ∀ l, l < 12 → u (148 + p) l = nI (cs l)) (h2 : ∀ d, d < 8 → u (341 + p) d = nI (ms d)) (h3 : ∀ l, l < 12 → u 1343 l = nI (nc l)) (h4 : ∀ d, d < 8 → u 1344 d = nI (ns d))
    (b1 : ∀ l, l < 12 → cs l ≤ 9999) (b2 : ∀ d, d < 8 → ms d ≤ 9999) (b3 : ∀ l, l < 12 → nc l ≤ 9999) (b4 : ∀ d, d < 8 → ns d ≤ 9999)
    (hK : K (if tellsB cs ms nc ns = true then 0 else 1) u) : JCi E 1 YX8_isOther [.ref 137, .int (nI p)] K u := by
  refine JCi.ofV (ls := [some (.ref 137), some (.int (nI p)), none]) (by decide +kernel) (Nat.le_of_ble_eq_true rfl) rfl rfl (g_X8_isOther_0 ?_)
  have no1 : ∀ l, l < 12 → cs l ≠ nc l → K 1 u := fun l hl hne => by
    rw [if_neg] at hK
    · exact hK
    · intro q
      unfold tellsB at q
      rw [Bool.and_eq_true] at q
      exact hne (of_decide_eq_true (List.all_eq_true.mp q.1 l (List.mem_range.mpr hl)))
  have no2 : ∀ d, d < 8 → ms d ≠ ns d → K 1 u := fun l hl hne => by
    rw [if_neg] at hK
    · exact hK
    · intro q
      unfold tellsB at q
      rw [Bool.and_eq_true] at q
      exact hne (of_decide_eq_true (List.all_eq_true.mp q.2 l (List.mem_range.mpr hl)))
  have sums : (∀ l, l < 12 → cs l = nc l) → ∀ (m k : Nat), m + k = 8 → (∀ d, d < k → ms d = ns d) → JVi E 1 YX8_isOther K 35 [some (.ref 137), some (.int (nI p)), some (.int (nI k))] [] u := by
    intro hc m
    induction m with
    | zero =>
      intro k hm hd
      obtain rfl : k = 8 := by omega
      refine g_X8_isOther_35 ⟨fun _ => ?_, fun q => absurd (show (8 : Int32) ≤ nI 8 by decide) q⟩
      rw [if_pos] at hK
      · exact hK
      · unfold tellsB
        rw [Bool.and_eq_true]
        exact ⟨List.all_eq_true.mpr fun l hl => decide_eq_true (hc l (List.mem_range.mp hl)), List.all_eq_true.mpr fun d hl => decide_eq_true (hd d (List.mem_range.mp hl))⟩
    | succ m ih =>
      intro k hm hd
      refine g_X8_isOther_35 ⟨fun q => absurd q (nI_ge (a := k) (b := 8) (by omega) (by omega)), fun _ => ⟨vpI hp (by omega), vpI (by omega) (by omega), ?_⟩⟩
      have g1 := b2 k (by omega)
      have g2 := b4 k (by omega)
      rw [nI_cl (show k < 2147483648 by omega), nI_cl (show p < 2147483648 by omega), nI_1, h2 k (by omega), h4 k (by omega), nI_eq (by omega) (by omega)]
      refine ⟨fun q => ih (k + 1) (by omega) fun d hd2 => ?_, fun q => no2 k (by omega) q⟩
      by_cases e : d = k
      · rw [e]; exact q
      · exact hd d (by omega)
  have main : ∀ (m k : Nat), m + k = 12 → (∀ l, l < k → cs l = nc l) → JVi E 1 YX8_isOther K 2 [some (.ref 137), some (.int (nI p)), some (.int (nI k))] [] u := by
    intro m
    induction m with
    | zero =>
      intro k hm hd
      obtain rfl : k = 12 := by omega
      exact g_X8_isOther_2 ⟨fun _ => sums hd 8 0 (by omega) (fun d hd => absurd hd (Nat.not_lt_zero d)), fun q => absurd (show (12 : Int32) ≤ nI 12 by decide) q⟩
    | succ m ih =>
      intro k hm hd
      refine g_X8_isOther_2 ⟨fun q => absurd q (nI_ge (a := k) (b := 12) (by omega) (by omega)), fun _ => ⟨vpI hp (by omega), vpI (by omega) (by omega), ?_⟩⟩
      have g1 := b1 k (by omega)
      have g2 := b3 k (by omega)
      rw [nI_cl (show k < 2147483648 by omega), nI_cl (show p < 2147483648 by omega), nI_1, h1 k (by omega), h3 k (by omega), nI_eq (by omega) (by omega)]
      refine ⟨fun q => ih (k + 1) (by omega) fun d hd2 => ?_, fun q => no1 k (by omega) q⟩
      by_cases e : d = k
      · rw [e]; exact q
      · exact hd d (by omega)
  exact main 12 0 (by omega) (fun d hd => absurd hd (Nat.not_lt_zero d))
