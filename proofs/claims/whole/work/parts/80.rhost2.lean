/-! the reference: sheet, cell, copy -/
theorem sub_tI {a b : Nat} (ha : a < 2147483648) (hb : b < 2147483648) : (nI a - nI b).toInt = (a : Int) - b := by
  rw [Int32.toInt_sub, nI_toInt (by omega), nI_toInt (by omega)]
  exact Int.bmod_eq_of_le (by omega) (by omega)
theorem c_X8_sheet {E : JE} {u : JM} {K : Int32 → JM → Prop}  {a1 a2 a3 : Int32} {w : Wd} (c : XW w u)
    (hK : ∀ u', up u u' → XW (nxSheet w a1 a2 a3) u' → K (anSheet a1 a2 a3) u') : JCi E 3 YX8_sheet [.ref 137, .int a1, .int a2, .int a3] K u := by
  refine JCi.ofV (ls := [some (.ref 137), some (.int a1), some (.int a2), some (.int a3), none]) (by decide +kernel) (Nat.le_of_ble_eq_true rfl) rfl rfl (g_X8_sheet_0  ?_)
  unfold anSheet nxSheet at hK
  have e2 : jb (rg a2 ((-1) : Int32).toInt (1 : Int32).toInt) = jb (-1 ≤ a2.toInt ∧ a2.toInt ≤ 1) := jb_congr (by unfold rg; rw [tI_m1, tI_1])
  have m3 : a3 ≤ 40 ↔ a3.toInt ≤ 40 := i32_le (k := 40) (by decide)
  have m0 : 0 ≤ a3 ↔ 0 ≤ a3.toInt := by rw [Int32.le_iff_toInt_le, tI_0]
  by_cases ok : okS a1 a2
  · rw [if_pos ok, if_pos ok] at hK
    obtain ⟨o1, o2, o3⟩ := ok
    refine c_X8_isSheet ⟨fun q => absurd o1 (jb_0.mp q), fun _ => ?_⟩
    rw [e2]
    refine ⟨fun q => absurd ⟨o2, o3⟩ (jb_0.mp q), fun _ => ?_⟩
    obtain ⟨i, hi, rfl⟩ := sh_nI o1
    rw [nI_cl (show i < 2147483648 by omega)] at hK
    have ei : (nI i).toNatClampNeg = i := nI_cl (by omega)
    have iv : vp_in (nI i) 4 := vpI hi (by omega)
    -- the sheet becomes
    have wr : ∀ n, n ≤ 40 → (∀ u', up u u' → XW (w.1, w.2.1, w.2.2.1, shB w.2.2.2 i a2 n) u' → K 1 u') → ∀ u2, u2 = jw u 3763 i a2 → ∀ u4, u4 = jw u2 3764 i (nI n) → JVi E 3 YX8_sheet K 65 [some (.ref 137), some (.int (nI i)), some (.int a2), some (.int a3), some (.int 0)] [] u4 := by
      intro n hn40 hk u2 h2 u4 h4
      have z4 : sF (fun b => inSh b ∨ tmp b) (fun f => 25 ≤ f ∧ f ≠ 43) u u4 := by
        rw [h4, h2]
        exact (sF.rfl.w (Or.inl (by unfold inSh; omega)) (by decide)).w (Or.inl (by unfold inSh; omega)) (by decide)
      have main : ∀ (m k : Nat) (u' : JM), m + k = 40 → same u4 u' (· = 3766 + i) → (∀ j, j < k → u' (3766 + i) j = 0) → JVi E 3 YX8_sheet K 65 [some (.ref 137), some (.int (nI i)), some (.int a2), some (.int a3), some (.int (nI k))] [] u' := by
        intro m
        induction m with
        | zero =>
          intro k u' hm hs hz
          obtain rfl : k = 40 := by omega
          have z : sF (fun b => inSh b ∨ tmp b) (fun f => 25 ≤ f ∧ f ≠ 43) u u' := z4.trans ⟨fun b b1 b2 => hs b fun q => b2 (Or.inl (by unfold inSh; omega)), fun f _ => by rw [hs 137 (by omega)]⟩
          refine g_X8_sheet_65 ⟨fun _ => hk u' (up_sh z) (c.shs z fun i' hi' => ?_), fun q => absurd (show (40 : Int32) ≤ nI 40 by decide) q⟩
          obtain ⟨x1, x2, x3⟩ := c.2.2.2 i' hi'
          refine ⟨?_, ?_, fun j hj => ?_⟩
          · rw [hs 3763 (by omega), h4, jw_ne (by decide), h2, jw_at]
            show _ = if i' = i then a2 else w.2.2.2.1 i'
            rw [x1]
          · rw [hs 3764 (by omega), h4, jw_at, h2, jw_ne (by decide)]
            show _ = nI (if i' = i then n else w.2.2.2.2.1 i')
            split
            · rfl
            · exact x2
          · show _ = if i' = i then 0 else w.2.2.2.2.2 i' j
            have hj' : j < if i' = i then n else w.2.2.2.2.1 i' := hj
            by_cases q : i' = i
            · rw [if_pos q] at hj' ⊢
              rw [q]
              exact hz j (by omega)
            · rw [if_neg q] at hj' ⊢
              rw [hs _ (by omega), h4, jw_ne (by omega), h2, jw_ne (by omega)]
              exact x3 j hj'
        | succ m ih =>
          intro k u' hm hs hz
          refine g_X8_sheet_65 ⟨fun q => absurd q (nI_ge (a := k) (b := 40) (by omega) (by omega)), fun _ => ⟨iv, vpI (by omega) (by omega), fun u1 h1 => ?_⟩⟩
          rw [ei, nI_cl (show k < 2147483648 by omega)] at h1
          rw [nI_1]
          refine ih (k + 1) u1 (by omega) (by rw [h1]; exact hs.jw rfl) fun j hj => ?_
          rw [h1, jw_at]
          split
          · rfl
          · exact hz j (by omega)
      exact main 40 0 u4 (by omega) same.rfl (fun j hj => absurd hj (Nat.not_lt_zero j))
    rw [ei]
    by_cases q : a2 = -1
    · rw [if_pos q, if_pos q] at hK
      have neg : a2 < 0 := by rw [q]; decide
      have n0 : ¬ 0 ≤ a2 := by rw [q]; decide
      have go : vp_in (nI i) 4 ∧ ∀ u2, u2 = jw u 3763 i a2 → ∀ v_3 : Int32, v_3 = (if 0 ≤ a2 then a3 else 0) → ∀ u4, u4 = jw u2 3764 i v_3 → JVi E 3 YX8_sheet K 65 [some (.ref 137), some (.int (nI i)), some (.int a2), some (.int a3), some (.int 0)] [] u4 := by
        refine ⟨iv, fun u2 h2 v hv u4 h4 => ?_⟩
        rw [if_neg n0] at hv
        rw [hv] at h4
        exact wr 0 (by omega) (by rw [q]; exact hK) u2 h2 u4 h4
      exact ⟨fun _ => ⟨fun _ => go, fun z => absurd neg z⟩, fun z => absurd neg z⟩
    · rw [if_neg q, if_neg q] at hK
      have n0 : 0 ≤ a2.toInt := by
        have : a2.toInt ≠ -1 := fun g => q (by rw [← Int32.toInt_inj, tI_m1]; exact g)
        omega
      have neg : ¬ a2 < 0 := i32_n.mpr n0
      have p0 : 0 ≤ a2 := by rw [Int32.le_iff_toInt_le, tI_0]; exact n0
      refine ⟨fun z => absurd z neg, fun _ => ⟨fun z => ⟨fun y => absurd y neg, fun _ => ⟨fun y => ⟨iv, fun u2 h2 v hv u4 h4 => ?_⟩, fun y => ?_⟩⟩, fun z => ?_⟩⟩
      · have z' := m3.mp z
        have y' := m0.mp y
        rw [if_neg (show ¬ 40 < a3.toInt by omega), if_neg (show ¬ 40 < a3.toInt by omega), if_neg (show ¬ a3.toInt < 0 by omega), if_neg (show ¬ a3.toInt < 0 by omega)] at hK
        obtain ⟨n, hn, e⟩ := rg_nI (a := a3) (hi := 40) (by decide) ⟨y', z'⟩
        rw [if_pos p0] at hv
        rw [hv, e] at h4
        rw [e, nI_cl (show n < 2147483648 by omega)] at hK
        exact wr n hn hK u2 h2 u4 h4
      · have z' := m3.mp z
        have y' : a3.toInt < 0 := Int.not_le.mp fun g => y (m0.mpr g)
        rw [if_neg (show ¬ 40 < a3.toInt by omega), if_neg (show ¬ 40 < a3.toInt by omega), if_pos y', if_pos y'] at hK
        exact hK u up.rfl c
      · have z' : 40 < a3.toInt := Int.not_le.mp fun g => z (m3.mpr g)
        rw [if_pos z', if_pos z'] at hK
        exact hK u up.rfl c
  · have hB : K (-2) u := by
      have := hK u up.rfl (by rw [if_neg ok]; exact c)
      rwa [if_neg ok] at this
    refine c_X8_isSheet ⟨fun _ => hB, fun q1 => ?_⟩
    rw [e2]
    refine ⟨fun _ => hB, fun q2 => ?_⟩
    exact absurd ⟨jb_n0.mp q1, (jb_n0.mp q2).1, (jb_n0.mp q2).2⟩ ok
theorem c_X8_cell {E : JE} {u : JM} {K : Int32 → JM → Prop}  {a1 a2 a3 : Int32} {w : Wd} (c : XW w u) (wS : WS w.2.2.2)
    (hK : ∀ u', up u u' → XW (nxCell w a1 a2 a3) u' → K (anCell w.2.2.2 a1 a2) u') : JCi E 3 YX8_cell [.ref 137, .int a1, .int a2, .int a3] K u := by
  refine JCi.ofV (ls := [some (.ref 137), some (.int a1), some (.int a2), some (.int a3)]) (by decide +kernel) (Nat.le_of_ble_eq_true rfl) rfl rfl (g_X8_cell_0  ?_)
  unfold anCell nxCell at hK
  by_cases o1 : rg a1 0 3
  · rw [if_pos o1, if_pos o1] at hK
    refine c_X8_isSheet ⟨fun _ => ?_, fun q => absurd o1 (jb_0.mp q)⟩
    obtain ⟨i, hi, rfl⟩ := sh_nI o1
    rw [nI_cl (show i < 2147483648 by omega)] at hK
    obtain ⟨s1, s2, s3⟩ := c.2.2.2 i hi
    have hw := wS i hi
    have hs0 : 0 ≤ w.2.2.2.1 i ↔ ¬ w.2.2.2.1 i = -1 := by
      rcases hw.1 with g | g | g <;> rw [g] <;> decide
    have e : jb (rg a2 (0 : Int32).toInt ((nI (w.2.2.2.2.1 i)) - 1).toInt) = jb (isLk (w.2.2.2.2.1 i) a2) := by
      apply jb_congr
      unfold rg isLk
      rcases Nat.eq_zero_or_pos (w.2.2.2.2.1 i) with z | z
      · rw [z, show (nI 0 - 1).toInt = -1 from by decide, tI_0]
        omega
      · rw [nI_sub1 z, nI_toInt (by omega), tI_0]
        omega
    rw [nI_cl (show i < 2147483648 by omega), s1, s2, hs0, e]
    refine ⟨vpI hi (by omega), fun q => ?_, fun q => ?_⟩
    · rw [if_neg q, if_neg q] at hK
      by_cases o2 : isLk (w.2.2.2.2.1 i) a2
      · rw [if_pos o2, if_pos o2] at hK
        refine ⟨fun _ v hv => ?_, fun z => absurd o2 (jb_0.mp z)⟩
        obtain ⟨j, hj, rfl⟩ := wN_nI (m := 40) (by decide) hw.2 o2
        rw [nI_cl (show j < 2147483648 by omega)] at hK ⊢
        refine ⟨vpI (by omega) (by omega), fun u3 h3 => ?_⟩
        have z : sF (fun b => inSh b ∨ tmp b) (fun f => 25 ≤ f ∧ f ≠ 43) u u3 := by
          rw [h3]; exact sF.rfl.w (Or.inl (by unfold inSh; omega)) (by omega)
        refine hK u3 (up_sh z) (c.shs z fun i' hi' => ?_)
        obtain ⟨x1, x2, x3⟩ := c.2.2.2 i' hi'
        refine ⟨by rw [h3, jw_ne (by omega)]; exact x1, by rw [h3, jw_ne (by omega)]; exact x2, fun j' hj' => ?_⟩
        show _ = if i' = i ∧ j' = j then (if w.2.2.2.1 i = 0 then a3.toInt16.toInt32 else a3) else w.2.2.2.2.2 i' j'
        have hj'' : j' < w.2.2.2.2.1 i' := hj'
        rw [h3]
        by_cases g : i' = i
        · subst g
          rw [jw_at]
          by_cases g2 : j' = j
          · rw [if_pos g2, if_pos ⟨rfl, g2⟩]; exact hv
          · rw [if_neg g2, if_neg (fun y => g2 y.2)]; exact x3 j' hj''
        · rw [jw_ne (by omega), if_neg (fun y => g y.1)]; exact x3 j' hj''
      · rw [if_neg o2, if_neg o2] at hK
        exact ⟨fun z => absurd (jb_n0.mp z) o2, fun _ => hK u up.rfl c⟩
    · rw [if_pos (Classical.not_not.mp q), if_pos (Classical.not_not.mp q)] at hK
      exact hK u up.rfl c
  · rw [if_neg o1, if_neg o1] at hK
    exact c_X8_isSheet ⟨fun q => absurd (jb_n0.mp q) o1, fun _ => hK u up.rfl c⟩
theorem c_X8_copy {E : JE} {u : JM} {K : Int32 → JM → Prop}  {a1 a2 a3 a4 a5 : Int32} {w : Wd} (c : XW w u) (wS : WS w.2.2.2)
    (hK : ∀ u', up u u' → XW (w.1, w.2.1, w.2.2.1, nxCopy w.2.2.2 a1 a2 a3 a4 a5) u' → K (anCopy w.2.2.2 a1 a2 a3 a4 a5) u') : JCi E 3 YX8_copy [.ref 137, .int a1, .int a2, .int a3, .int a4, .int a5] K u := by
  refine JCi.ofV (ls := [some (.ref 137), some (.int a1), some (.int a2), some (.int a3), some (.int a4), some (.int a5)]) (by decide +kernel) (Nat.le_of_ble_eq_true rfl) rfl rfl (g_X8_copy_0  ?_)
  unfold anCopy nxCopy at hK
  by_cases ok : rg a1 0 3 ∧ rg a3 0 3
  · rw [if_pos ok, if_pos ok] at hK
    obtain ⟨o1, o2⟩ := ok
    refine c_X8_isSheet ⟨fun q => absurd o1 (jb_0.mp q), fun _ => c_X8_isSheet ⟨fun _ => ?_, fun q => absurd o2 (jb_0.mp q)⟩⟩
    obtain ⟨i, hi, rfl⟩ := sh_nI o1
    obtain ⟨o, ho, rfl⟩ := sh_nI o2
    rw [nI_cl (show i < 2147483648 by omega), nI_cl (show o < 2147483648 by omega)] at hK
    obtain ⟨s1, s2, s3⟩ := c.2.2.2 i hi
    obtain ⟨t1, t2, t3⟩ := c.2.2.2 o ho
    have hw := wS i hi
    have hv := wS o ho
    have h1 : w.2.2.2.1 i < 0 ↔ w.2.2.2.1 i = -1 := by rcases hw.1 with g | g | g <;> rw [g] <;> decide
    have h2 : 0 ≤ w.2.2.2.1 o ↔ ¬ w.2.2.2.1 o = -1 := by rcases hv.1 with g | g | g <;> rw [g] <;> decide
    rw [nI_cl (show i < 2147483648 by omega), nI_cl (show o < 2147483648 by omega), s1, s2, t1, t2, h1, h2]
    refine ⟨vpI hi (by omega), fun q => ?_, fun q => ⟨vpI ho (by omega), fun q2 => ⟨fun q3 => ?_, fun q3 => ?_⟩, fun q2 => ?_⟩⟩
    · rw [if_pos (Or.inl q), if_pos (Or.inl q)] at hK
      exact hK u up.rfl c
    · rw [if_neg (not_or.mpr ⟨q, q2⟩), if_neg (not_or.mpr ⟨q, q2⟩), if_neg (Classical.not_not.mpr q3), if_neg (Classical.not_not.mpr q3)] at hK
      have bad : ¬ (hdS (w.2.2.2.2.1 i) a2 a5 ∧ hdS (w.2.2.2.2.1 o) a4 a5) → K (-12) u := fun g => by
        rw [if_neg g, if_neg g] at hK
        exact hK u up.rfl c
      refine ⟨fun z => bad fun g => ?_, fun z5 => ⟨fun z => bad fun g => ?_, fun z2 => ⟨fun z => bad fun g => ?_, fun z4 => ⟨fun z => bad fun g => ?_, fun z1 => ⟨fun z3 => ?_, fun z => bad fun g => ?_⟩⟩⟩⟩⟩
      · have := i32_n.mpr g.1.2.1; exact this z
      · have := i32_n.mpr g.1.1; exact this z
      · have := i32_n.mpr g.2.1; exact this z
      · exact ((hdS_nI hw.2).mpr g.1).2.2.2 z
      · -- what is copied
        obtain ⟨n, hn, rfl⟩ := nI_of (x := a5) z5
        obtain ⟨a, ha, rfl⟩ := nI_of (x := a2) z2
        obtain ⟨b, hb, rfl⟩ := nI_of (x := a4) z4
        have hk1 : hdS (w.2.2.2.2.1 i) (nI a) (nI n) ∧ hdS (w.2.2.2.2.1 o) (nI b) (nI n) := by
          have hw2 := hw.2
          have hv2 := hv.2
          rw [Int32.lt_iff_toInt_lt, sub_tI (by omega) hn, nI_toInt ha] at z1
          rw [Int32.le_iff_toInt_le, sub_tI (by omega) hn, nI_toInt hb] at z3
          unfold hdS
          rw [nI_toInt ha, nI_toInt hb, nI_toInt hn]
          omega
        rw [if_pos hk1, if_pos hk1] at hK
        obtain ⟨a', n', e1, e2, an⟩ := hdS_ex hw.2 hk1.1
        obtain ⟨b', n'', e3, e4, bn⟩ := hdS_ex hv.2 hk1.2
        have hw2 := hw.2
        have hv2 := hv.2
        obtain rfl : a' = a := nI_inj (by omega) ha e1.symm
        obtain rfl : n' = n := nI_inj (by omega) hn e2.symm
        obtain rfl : b' = b := nI_inj (by omega) hb e3.symm
        obtain rfl : n'' = n' := nI_inj (by omega) hn e4.symm
        rw [nI_cl (show a' < 2147483648 by omega), nI_cl (show b' < 2147483648 by omega), nI_cl (show n'' < 2147483648 by omega)] at hK ⊢
        rw [cl_0]
        refine ⟨⟨nI_nn (by omega), by decide, nI_nn (by omega), by omega, by omega⟩, fun u3 h3 => ⟨⟨by decide, nI_nn (by omega), nI_nn (by omega), by omega, by omega⟩, fun u4 h4 => ?_⟩⟩
        have e : ∀ b, b ≠ 3770 → b ≠ 3766 + o → u4 b = u b := fun b b1 b2 => by rw [h4, jcp_ne b2, h3, jcp_ne b1]
        have z : sF (fun b => inSh b ∨ tmp b) (fun f => 25 ≤ f ∧ f ≠ 43) u u4 := ⟨fun b b1 b2 => e b (fun g => b2 (Or.inl (by unfold inSh; omega))) (fun g => b2 (Or.inl (by unfold inSh; omega))), fun f _ => by rw [e 137 (by omega) (by omega)]⟩
        refine hK u4 (up_sh z) (c.shs z fun i' hi' => ?_)
        obtain ⟨x1, x2, x3⟩ := c.2.2.2 i' hi'
        refine ⟨by rw [e 3763 (by omega) (by omega)]; exact x1, by rw [e 3764 (by omega) (by omega)]; exact x2, fun j hj => ?_⟩
        have hj' : j < w.2.2.2.2.1 i' := hj
        show _ = if i' = o ∧ b' ≤ j ∧ j < b' + n'' then w.2.2.2.2.2 i (a' + (j - b')) else w.2.2.2.2.2 i' j
        by_cases q6 : i' = o
        · subst q6
          rw [h4, jcp_at]
          by_cases q7 : b' ≤ j ∧ j < b' + n''
          · rw [if_pos q7, if_pos ⟨rfl, q7⟩, h3, jcp_at, if_pos (by omega), show a' + (0 + (j - b') - 0) = a' + (j - b') by omega]
            exact s3 _ (by omega)
          · rw [if_neg q7, if_neg (fun g => q7 g.2), h3, jcp_ne (by omega)]
            exact x3 j hj'
        · rw [e _ (by omega) (by omega), if_neg (fun g => q6 g.1)]
          exact x3 j hj'
      · have y := ((hdS_nI hv.2).mpr g.2).2.2.2
        rw [Int32.lt_iff_toInt_lt] at y
        exact z (by rw [Int32.le_iff_toInt_le]; omega)
    · rw [if_neg (not_or.mpr ⟨q, q2⟩), if_neg (not_or.mpr ⟨q, q2⟩), if_pos q3, if_pos q3] at hK
      exact hK u up.rfl c
    · rw [if_pos (Or.inr (Classical.not_not.mp q2)), if_pos (Or.inr (Classical.not_not.mp q2))] at hK
      exact hK u up.rfl c
  · have hB : K (-2) u := by
      have := hK u up.rfl (by rw [if_neg ok]; exact c)
      rwa [if_neg ok] at this
    exact c_X8_isSheet ⟨fun _ => hB, fun q1 => c_X8_isSheet ⟨fun q2 => absurd ⟨jb_n0.mp q1, jb_n0.mp q2⟩ ok, fun _ => hB⟩⟩
