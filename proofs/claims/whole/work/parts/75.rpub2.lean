/-! the reference's public methods: what is read -/
theorem c_X8_router {E : JE} {u : JM} {K : Int32 → JM → Prop}  {a1 a2 : Int32} {w : Wd} (c : XW w u) (ww : NW w.1) (hK : K (anRouter w.1 a1 a2) u) : JCi E 4 YX8_router [.ref 137, .int a1, .int a2] K u := by
  refine JCi.ofV (ls := [some (.ref 137), some (.int a1), some (.int a2)]) (by decide +kernel) (Nat.le_of_ble_eq_true rfl) rfl rfl (g_X8_router_0  ?_)
  unfold anRouter at hK
  by_cases ok : rg a1 0 7 ∧ rg a2 0 3
  · rw [if_pos ok] at hK
    obtain ⟨o1, o2⟩ := ok
    refine c_X8_isRouter ⟨fun q => absurd o1 (jb_0.mp q), fun _ => ⟨fun _ => ?_, fun q => absurd o2 (jb_0.mp q)⟩⟩
    obtain ⟨r, hr, rfl⟩ := rt_nI o1
    rw [nI_cl (show r < 2147483648 by omega)] at hK
    refine ⟨fun q0 => ⟨fun q1 v hv => ?_, fun q1 => ?_⟩, fun q0 => ?_⟩
    · rw [if_neg q0, if_neg q1] at hK
      by_cases q2 : a2 = 2
      · rw [if_pos q2] at hK
        rw [if_neg (by rw [q2]; decide)] at hv
        exact c_X8_knows (st := false) c.1.1.1 c.1.1.2.1 ww.1 ww.2.1 hr (by rw [hv]; simp) (by rw [knN_f]; exact hK)
      · rw [if_neg q2] at hK
        have q3 : a2 = 3 := by simp only [Int32.lt_iff_toInt_lt, Int32.le_iff_toInt_le, ← Int32.toInt_inj, tI_m14, tI_m13, tI_m12, tI_m11, tI_m10, tI_m9, tI_m8, tI_m7, tI_m6, tI_m5, tI_m4, tI_m3, tI_m2, tI_m1, tI_0, tI_1, tI_2, tI_3, tI_4, tI_5, tI_6, tI_7, tI_8, tI_9, tI_10, tI_11, tI_12, tI_13, tI_14, tI_15, tI_16, tI_17, tI_18, tI_19, tI_20, tI_21, tI_22, tI_23, tI_24, tI_25, tI_26, tI_27, tI_28, tI_29, tI_30, tI_31, tI_32, tI_33, tI_34, tI_35, tI_36, tI_37, tI_38, tI_39, tI_40, tI_60, tI_63, tI_80, tI_99, tI_192, tI_400, tI_9999, tI_12345] at *; omega
        rw [if_pos q3] at hv
        exact c_X8_knows (st := true) c.1.1.1 c.1.1.2.1 ww.1 ww.2.1 hr (by rw [hv]; decide) (by rw [knN_t]; exact hK)
    · rw [q1, if_neg (by decide), if_pos rfl] at hK
      refine c_X8_isBorder c.1.1.1 ww.1 hr ⟨fun g => ?_, fun g => ?_⟩
      · rw [g] at hK; exact hK
      · rw [jb_t (jb_n0.mp g)] at hK; exact hK
    · rw [if_pos q0] at hK
      exact c_X8_areasOf c.1.1.1 ww.1 hr hK
  · rw [if_neg ok] at hK
    exact c_X8_isRouter ⟨fun _ => hK, fun q => ⟨fun q2 => absurd ⟨jb_n0.mp q, jb_n0.mp q2⟩ ok, fun _ => hK⟩⟩
theorem c_X8_taken {E : JE} {u : JM} {K : Int32 → JM → Prop}  {a1 a2 : Int32} {w : Wd} (c : XW w u) (ww : NW w.1) (hK : K (anTaken w.1 a1 a2) u) : JCi E 4 YX8_taken [.ref 137, .int a1, .int a2] K u := by
  refine JCi.ofV (ls := [some (.ref 137), some (.int a1), some (.int a2), none, none, none, none]) (by decide +kernel) (Nat.le_of_ble_eq_true rfl) rfl rfl (g_X8_taken_0  ?_)
  unfold anTaken at hK
  have h12 := ww.1.1
  by_cases ok : rg a1 0 7 ∧ rg a2 0 2
  · rw [if_pos ok] at hK
    obtain ⟨o1, o2⟩ := ok
    refine c_X8_isRouter ⟨fun q => absurd o1 (jb_0.mp q), fun _ => ⟨fun _ => ?_, fun q => absurd o2 (jb_0.mp q)⟩⟩
    obtain ⟨r, hr, rfl⟩ := rt_nI o1
    rw [nI_cl (show r < 2147483648 by omega)] at hK
    have hL := c.1.1.1
    have hA := arS_lt w.1 r
    refine c_X8_areasOf hL ww.1 hr ?_
    have main : ∀ v : Int32, (v = 0 ↔ ¬ tkB (arS w.1 r) a2 = true) → ∀ i3 : Int32, ∀ (m k : Nat), m + k = w.1 0 0 → JVi E 4 YX8_taken K 72 [some (.ref 137), some (.int (nI r)), some (.int a2), some (.int i3), some (.int v), some (.int (nI (cntP k fun l => upB w.1 l r))), some (.int (nI k))] [] u := by
      intro v hv i3 m
      induction m with
      | zero =>
        intro k hm
        obtain rfl : k = w.1 0 0 := by omega
        refine g_X8_taken_72 ⟨fun _ => ⟨fun g => ?_, fun g => ?_⟩, fun q => ?_⟩
        · rw [if_neg (hv.mp g)] at hK; exact hK
        · rw [if_pos (Classical.byContradiction fun z => g (hv.mpr z))] at hK; exact hK
        · rw [hL.1] at q
          exact absurd (nI_le (Nat.le_refl _) (by omega)) q
      | succ m ih =>
        intro k hm
        have hk : k < w.1 0 0 := by omega
        have c0 : ¬ u 137 0 ≤ nI k := by rw [hL.1]; exact nI_ge hk (by omega)
        refine g_X8_taken_72 ⟨fun q => absurd q c0, fun _ => ⟨vpI (by omega) (by omega), ?_⟩⟩
        have next := ih (k + 1) (by omega)
        have ec : cntP (k + 1) (fun l => upB w.1 l r) = cntP k (fun l => upB w.1 l r) + if upB w.1 k r = true then 1 else 0 := rfl
        rw [ec] at next
        rw [nI_cl (show k < 2147483648 by omega), nI_1, nI_1, up_ifR hL ww.1 hk hr]
        intro v5 h5
        by_cases g : upB w.1 k r = true
        · rw [if_pos g] at h5 next; rw [h5]; exact next
        · rw [if_neg g] at h5 next; rw [h5]; exact next
    refine ⟨fun q0 => ⟨fun q1 v hv => ?_, fun q1 => ?_⟩, fun q0 v hv => ?_⟩
    · refine main v ?_ _ (w.1 0 0) 0 (by omega)
      rw [hv]
      unfold tkB
      rw [if_neg q0, if_neg q1]
      by_cases g : arS w.1 r = 1
      · rw [if_pos (show nI (arS w.1 r) = 1 by rw [g]; rfl)]; simp [g]
      · rw [if_neg (show ¬ nI (arS w.1 r) = 1 from fun z => g (nI_inj (b := 1) (by omega) (by omega) z))]; simp [g]
    · refine c_X8_isBorder hL ww.1 hr ?_
      refine main _ ?_ _ (w.1 0 0) 0 (by omega)
      rw [jb_0]
      unfold tkB
      rw [if_neg (by rw [q1]; decide), if_pos q1]
      simp
    · refine main v ?_ _ (w.1 0 0) 0 (by omega)
      rw [hv]
      unfold tkB
      rw [if_pos q0]
      by_cases g : arS w.1 r = 0
      · rw [if_pos (show nI (arS w.1 r) = 0 by rw [g]; rfl)]; simp [g]
      · rw [if_neg (show ¬ nI (arS w.1 r) = 0 from fun z => g (nI_inj (b := 0) (by omega) (by omega) z))]; simp [g]
  · rw [if_neg ok] at hK
    exact c_X8_isRouter ⟨fun _ => hK, fun q => ⟨fun q2 => absurd ⟨jb_n0.mp q, jb_n0.mp q2⟩ ok, fun _ => hK⟩⟩
theorem tick22 (s : St) : tickS s 22 0 = s 22 0 + tickS s 13 0 := by
  have e : tickS s 13 0 = sno (tnA (grS (avS s) 192) 8) 192 13 0 := by
    unfold tickS sendS
    rw [set1_ne (by omega), set1_ne (by omega)]
  rw [e]
  unfold tickS
  rw [set1_ne (by omega)]
  unfold sendS
  rw [set1_at, if_pos rfl, tnA_ne (by omega), grS_ne (by omega) (by omega) (by omega), avS_ne (by omega)]
theorem ticksS_suc (s : St) (n : Nat) : ticksS s (n + 1) = tickS (ticksS s n) := rfl
theorem nI_d {a b c : Nat} (h : a = b + c) : nI a - nI b = nI c := by rw [nI_sub (by omega), show a - b = c by omega]
theorem tick_d (s : St) : anTicks s 1 = nI (tickS s 13 0) := by
  have h := tick22 s
  unfold anTicks
  rw [show ticksS s 1 = tickS s from rfl]
  exact nI_d h
theorem nI_e {a b c d : Nat} (h : a - b + c = d - b) : nI (a - b) + nI c = nI (d - b) := by rw [nI_add, h]
theorem ticks_up (s : St) : ∀ n, s 22 0 ≤ ticksS s n 22 0
  | 0 => Nat.le_refl _
  | n + 1 => by
    have ih := ticks_up s n
    have h2 := tick22 (ticksS s n)
    rw [ticksS_suc]
    omega
theorem c_X8_tick {E : JE} {u : JM} {K : Int32 → JM → Prop}  {w : Wd} (c : XW w u) (ww : NW w.1) (hT : w.1 21 0 + 90 < 1000000000)
    (hK : ∀ u', up u u' → XW (ticksS w.1 1, w.2) u' → K (anTicks w.1 1) u') : JCi E 9 YX8_tick [.ref 137] K u := by
  refine JCi.ofV (ls := [some (.ref 137)]) (by decide +kernel) (Nat.le_of_ble_eq_true rfl) rfl rfl (g_X8_tick_0  ?_)
  refine c_X8_goes c.1.1 ww (by omega) fun u' q1 q2 q3 => ?_
  have z := go_sF q1 q2
  have h := hK u' (up_Z z) (c.live z (q3.b (tickS_NW ww (by omega))))
  have e : anTicks w.1 1 = nI (tickS w.1 13 0) := tick_d w.1
  rw [e] at h
  exact h
theorem c_X8_ticks {E : JE} {u : JM} {K : Int32 → JM → Prop}  {a1 : Int32} {w : Wd} (c : XW w u) (ww : NW w.1) (hT : w.1 21 0 + 90 < 1000000000)
    (hK : ∀ u', up u u' → XW (nxTks w a1) u' → K (anTks w.1 a1) u') : JCi E 9 YX8_ticks [.ref 137, .int a1] K u := by
  refine JCi.ofV (ls := [some (.ref 137), some (.int a1), none, none]) (by decide +kernel) (Nat.le_of_ble_eq_true rfl) rfl rfl (g_X8_ticks_0  ?_)
  by_cases ok : rg a1 0 80
  · unfold anTks nxTks at hK
    rw [if_pos ok, if_pos ok] at hK
    refine ⟨fun _ => ?_, fun q => absurd ok (jb_0.mp q)⟩
    obtain ⟨n, hn, rfl⟩ := rg_nI (hi := 80) (by decide) ok
    rw [nI_cl (show n < 2147483648 by omega)] at hK
    have main : ∀ (m k : Nat) (u' : JM), m + k = n → up u u' → XW (ticksS w.1 k, w.2) u' → JVi E 9 YX8_ticks K 17 [some (.ref 137), some (.int (nI n)), some (.int (nI (ticksS w.1 k 22 0 - w.1 22 0))), some (.int (nI k))] [] u' := by
      intro m
      induction m with
      | zero =>
        intro k u' hm hu hX
        obtain rfl : k = n := by omega
        have h := hK u' hu hX
        unfold anTicks at h
        rw [nI_sub (ticks_up w.1 k)] at h
        exact g_X8_ticks_17 ⟨fun _ => h, fun q => absurd (nI_le (Nat.le_refl k) (by omega)) q⟩
      | succ m ih =>
        intro k u' hm hu hX
        obtain ⟨w1, w2⟩ := ticksS_NW ww k (by omega)
        refine g_X8_ticks_17 ⟨fun q => absurd q (nI_ge (by omega) (by omega)), fun _ => ?_⟩
        refine c_X8_goes hX.1.1 w1 (by show ticksS w.1 k 21 0 + 3 < 1000000000; omega) fun u2 q1 q2 q3 => ?_
        have z := go_sF q1 q2
        have e : nI (ticksS w.1 k 22 0 - w.1 22 0) + nI (tickS (ticksS w.1 k) 13 0) = nI (ticksS w.1 (k + 1) 22 0 - w.1 22 0) := by
          have h1 := ticks_up w.1 k
          have h2 := tick22 (ticksS w.1 k)
          rw [ticksS_suc]
          exact nI_e (by omega)
        rw [nI_1]
        have next := ih (k + 1) u2 (by omega) (hu.trans (up_Z z)) (hX.live z (q3.b (tickS_NW w1 (by show ticksS w.1 k 21 0 + 3 < 1000000000; omega))))
        rw [← e] at next
        exact next
    have h := main n 0 u (by omega) up.rfl c
    have e0 : ticksS w.1 0 22 0 - w.1 22 0 = 0 := Nat.sub_self _
    rw [e0] at h
    exact h
  · have hB : K (-2) u := by
      have := hK u up.rfl (by unfold nxTks; rw [if_neg ok]; exact c)
      unfold anTks at this
      rwa [if_neg ok] at this
    exact ⟨fun q => absurd (jb_n0.mp q) ok, fun _ => hB⟩
theorem c_X8_message {E : JE} {u : JM} {K : Int32 → JM → Prop}  {a1 a2 : Int32} {w : Wd} (c : XW w u) (ww : NW w.1) (hK : K (anMessage w.1 a1 a2) u) : JCi E 2 YX8_message [.ref 137, .int a1, .int a2] K u := by
  refine JCi.ofV (ls := [some (.ref 137), some (.int a1), some (.int a2)]) (by decide +kernel) (Nat.le_of_ble_eq_true rfl) rfl rfl (g_X8_message_0  ?_)
  unfold anMessage at hK
  have m192 := c.1.2.2
  have em : u 137 12 = nI (w.1 13 0) := c.1.1.2.2.1.1
  have e : jb (rg a1 (0 : Int32).toInt ((u 137 12) - 1).toInt) = jb (isLk (w.1 13 0) a1) := by
    apply jb_congr
    rw [em]
    unfold rg isLk
    rcases Nat.eq_zero_or_pos (w.1 13 0) with z | z
    · rw [z, show (nI 0 - 1).toInt = -1 from by decide, tI_0]
      omega
    · rw [nI_sub1 z, nI_toInt (by omega), tI_0]
      omega
  rw [e]
  by_cases ok : rg a2 0 4
  · rw [if_pos ok] at hK
    refine ⟨fun _ => ?_, fun q => absurd ok (jb_0.mp q)⟩
    by_cases o1 : isLk (w.1 13 0) a1
    · rw [if_pos o1] at hK
      refine ⟨fun _ => ?_, fun q => absurd o1 (jb_0.mp q)⟩
      obtain ⟨i, hi, rfl⟩ := wN_nI (m := 192) (by decide) m192 o1
      obtain ⟨x1, x2, x3, x4, x5, -⟩ := c.1.1.2.2.1.2 i hi
      rw [nI_cl (show i < 2147483648 by omega)] at hK ⊢
      have hi' : vp_in (nI i) 400 := vpI (by omega) (by omega)
      rw [x1, x2, x3, x4, x5]
      refine ⟨fun q0 => ⟨fun q1 => ⟨fun q2 => ⟨fun q3 => ⟨hi', ?_⟩, fun q3 => ⟨hi', ?_⟩⟩, fun q2 => ⟨hi', ?_⟩⟩, fun q1 => ⟨hi', ?_⟩⟩, fun q0 => ⟨hi', ?_⟩⟩
      · rw [if_neg q0, if_neg q1, if_neg q2, if_neg q3] at hK; exact hK
      · rw [if_neg q0, if_neg q1, if_neg q2, if_pos q3] at hK; exact hK
      · rw [if_neg q0, if_neg q1, if_pos q2] at hK; exact hK
      · rw [if_neg q0, if_pos q1] at hK; exact hK
      · rw [if_pos q0] at hK; exact hK
    · rw [if_neg o1] at hK
      exact ⟨fun q => absurd (jb_n0.mp q) o1, fun _ => hK⟩
  · rw [if_neg ok] at hK
    exact ⟨fun q => absurd (jb_n0.mp q) ok, fun _ => hK⟩
theorem c_X8_within {E : JE} {u : JM} {K : Int32 → JM → Prop}  {a1 a2 a3 a4 : Int32} {w : Wd} (c : XW w u) (ww : NW w.1) (hK : ∀ u', up u u' → XW w u' → K (anWithin w.1 a1 a2 a3 a4) u') : JCi E 5 YX8_within [.ref 137, .int a1, .int a2, .int a3, .int a4] K u := by
  refine JCi.ofV (ls := [some (.ref 137), some (.int a1), some (.int a2), some (.int a3), some (.int a4)]) (by decide +kernel) (Nat.le_of_ble_eq_true rfl) rfl rfl (g_X8_within_0  ?_)
  unfold anWithin at hK
  by_cases ok : rg a1 0 7 ∧ rg a2 0 7 ∧ rg a3 0 2 ∧ rg a4 0 1
  · rw [if_pos ok] at hK
    obtain ⟨o1, o2, o3, o4⟩ := ok
    refine c_X8_isRouter ⟨fun q => absurd o1 (jb_0.mp q), fun _ => c_X8_isRouter ⟨fun q => absurd o2 (jb_0.mp q), fun _ => c_X8_isArea ⟨fun q => absurd o3 (jb_0.mp q), fun _ => ⟨fun _ => ?_, fun q => absurd o4 (jb_0.mp q)⟩⟩⟩⟩
    obtain ⟨r, hr, rfl⟩ := rt_nI o1
    obtain ⟨d, hd, rfl⟩ := rt_nI o2
    obtain ⟨a, ha, rfl⟩ := ar_nI o3
    rw [nI_cl (show r < 2147483648 by omega), nI_cl (show d < 2147483648 by omega), nI_cl (show a < 2147483648 by omega)] at hK
    refine c_X8_tellWithin c.1.1.1 c.1.1.2.1 ww.1 ww.2.1 hr ha fun u1 q1 h1 h2 => ?_
    have s1 : sR inW u u1 := q1.sR (by unfold inW; omega)
    have h := hK u1 (up_R s1 fun b q => by unfold inW at q; omega) (c.t s1 fun b q => by unfold inW at q; unfold tmp; omega)
    rw [nI_cl (show d < 2147483648 by omega), h1 d hd, h2 d hd]
    refine ⟨fun q => ⟨vpI hd (by omega), ?_⟩, fun q => ⟨vpI hd (by omega), ?_⟩⟩
    · rw [if_neg q] at h; exact h
    · rw [if_pos q] at h; exact h
  · have hB : K (-2) u := by
      have := hK u up.rfl c
      rwa [if_neg ok] at this
    exact c_X8_isRouter ⟨fun _ => hB, fun q1 => c_X8_isRouter ⟨fun _ => hB, fun q2 => c_X8_isArea ⟨fun _ => hB, fun q3 => ⟨fun q4 => absurd ⟨jb_n0.mp q1, jb_n0.mp q2, jb_n0.mp q3, jb_n0.mp q4⟩ ok, fun _ => hB⟩⟩⟩⟩
theorem c_X8_route {E : JE} {u : JM} {K : Int32 → JM → Prop}  {a1 a2 a3 : Int32} {w : Wd} (c : XW w u) (ww : NW w.1) (hK : ∀ u', up u u' → XW w u' → K (anRoute w.1 a1 a2 a3) u') : JCi E 7 YX8_route [.ref 137, .int a1, .int a2, .int a3] K u := by
  refine JCi.ofV (ls := [some (.ref 137), some (.int a1), some (.int a2), some (.int a3)]) (by decide +kernel) (Nat.le_of_ble_eq_true rfl) rfl rfl (g_X8_route_0  ?_)
  unfold anRoute at hK
  by_cases ok : rg a1 0 7 ∧ rg a2 0 7 ∧ rg a3 0 3
  · rw [if_pos ok] at hK
    obtain ⟨o1, o2, o3⟩ := ok
    refine c_X8_isRouter ⟨fun q => absurd o1 (jb_0.mp q), fun _ => c_X8_isRouter ⟨fun q => absurd o2 (jb_0.mp q), fun _ => ⟨fun _ => ?_, fun q => absurd o3 (jb_0.mp q)⟩⟩⟩
    obtain ⟨r, hr, rfl⟩ := rt_nI o1
    obtain ⟨d, hd, rfl⟩ := rt_nI o2
    rw [nI_cl (show r < 2147483648 by omega), nI_cl (show d < 2147483648 by omega)] at hK
    rw [nI_eq (a := r) (by omega) (by omega)]
    refine ⟨fun ne => ?_, fun e => ?_⟩
    · refine c_X8_tellRoute c.1.1.1 c.1.1.2.1 ww.1 ww.2.1 hr hd ne fun u1 q1 t => ?_
      have h := hK u1 (up_R q1 fun b q => by unfold inWR at q; omega) (c.t q1 wr_tmp)
      obtain ⟨x, x1, x2, x3, x4, x5, x6⟩ := t
      rw [x2, x4, x5, x6, show (9999 : Int32) = nI 9999 from rfl, i32_lt (by omega), nI_toInt (by omega)]
      unfold pickR at h
      refine ⟨fun q => ?_, fun q => ?_⟩
      · rw [if_pos (show x < 9999 by omega)] at x3
        refine ⟨fun q0 => ⟨fun q1 => ⟨fun q2 => ?_, fun q2 => ?_⟩, fun q1 => ?_⟩, fun q0 => ?_⟩
        · rw [if_neg q0, if_neg q1, if_neg q2] at h; exact h
        · rw [if_neg q0, if_neg q1, if_pos q2] at h; exact h
        · rw [if_neg q0, if_pos q1] at h; exact h
        · rw [if_pos q0, x3] at h; exact h
      · rw [if_neg (show ¬ x < 9999 by omega)] at x3
        have en : rtC w.1 r d = (-1, -1, -1, -1) := by
          unfold rtC at x3 ⊢
          rw [if_neg (Ne.symm ne)] at x3 ⊢
          by_cases g1 : (fiP (arS w.1 r) (DS w.1 r) d 3).2 < 3
          · rw [if_pos g1] at x3
            have := (fiP_ok (arS w.1 r) (DS w.1 r) d 3 (by omega)).1
            exact absurd x3 (m1_ne (by omega))
          · rw [if_neg g1] at x3 ⊢
            by_cases g2 : (fcP w.1 (acA w.1 r) (DS w.1 r) r d 3).2.1 < 3
            · rw [if_pos g2] at x3
              have := fcP_le w.1 (acA w.1 r) (DS w.1 r) r d 3
              exact absurd x3 (m1_ne (by omega))
            · rw [if_neg g2]
        rw [en] at h
        have e1 : (if a3 = 0 then (-1 : Int32) else if a3 = 1 then -1 else if a3 = 2 then -1 else -1) = -1 := by split <;> (try rfl); split <;> (try rfl); split <;> rfl
        have h' : K (if a3 = 0 then (-1 : Int32) else if a3 = 1 then -1 else if a3 = 2 then -1 else -1) u1 := h
        rw [e1] at h'
        exact h'
    · have h := hK u up.rfl c
      have en : rtC w.1 r d = (0, -1, -1, -1) := if_pos e.symm
      rw [en] at h
      unfold pickR at h
      refine ⟨fun q => ?_, fun q => ?_⟩
      · rw [if_neg q] at h
        have e1 : (if a3 = 1 then (-1 : Int32) else if a3 = 2 then -1 else -1) = -1 := by split <;> (try rfl); split <;> rfl
        have h' : K (if a3 = 1 then (-1 : Int32) else if a3 = 2 then -1 else -1) u := h
        rw [e1] at h'
        exact h'
      · rw [if_pos q] at h; exact h
  · have hB : K (-2) u := by
      have := hK u up.rfl c
      rwa [if_neg ok] at this
    exact c_X8_isRouter ⟨fun _ => hB, fun q1 => c_X8_isRouter ⟨fun _ => hB, fun q2 => ⟨fun q3 => absurd ⟨jb_n0.mp q1, jb_n0.mp q2, jb_n0.mp q3⟩ ok, fun _ => hB⟩⟩⟩
theorem c_tru12 {E : JE} {u0 : JM} {K : Int32 → JM → Prop} {s : St} (hL : QL s u0) (w : WL s) {x d : Nat} (hx : x < 8) (hd : d < 8)
    (k : ∀ u, same u0 u (· = 1341) → K (nI (dD (Et s 12) x d)) u) : JCi E 2 YX8_trulyWithout [.ref 137, .int (nI x), .int (nI d), .int (-1)] K u0 :=
  c_X8_trulyWithout (wo := 12) hL w hx hd k
theorem t1341 {u u' : JM} (h : same u u' (· = 1341)) : sR inWR u u' := (h.mono (fun b (q : b = 1341) => (Or.inl q : inWR b))).sR (by omega)
theorem c_X8_truly {E : JE} {u : JM} {K : Int32 → JM → Prop}  {a1 a2 : Int32} {w : Wd} (c : XW w u) (ww : NW w.1) (hK : ∀ u', up u u' → XW w u' → K (anTruly w.1 a1 a2) u') : JCi E 3 YX8_truly [.ref 137, .int a1, .int a2] K u := by
  refine JCi.ofV (ls := [some (.ref 137), some (.int a1), some (.int a2)]) (by decide +kernel) (Nat.le_of_ble_eq_true rfl) rfl rfl (g_X8_truly_0  ?_)
  unfold anTruly at hK
  by_cases ok : rg a1 0 7 ∧ rg a2 0 7
  · rw [if_pos ok] at hK
    obtain ⟨o1, o2⟩ := ok
    refine c_X8_isRouter ⟨fun q => absurd o1 (jb_0.mp q), fun _ => c_X8_isRouter ⟨fun q => absurd o2 (jb_0.mp q), fun _ => ?_⟩⟩
    obtain ⟨r, hr, rfl⟩ := rt_nI o1
    obtain ⟨d, hd, rfl⟩ := rt_nI o2
    rw [nI_cl (show r < 2147483648 by omega), nI_cl (show d < 2147483648 by omega)] at hK
    exact c_tru12 c.1.1.1 ww.1 hr hd fun u1 q1 => hK u1 (up_R (t1341 q1) fun b q => by unfold inWR at q; omega) (c.t (t1341 q1) wr_tmp)
  · have hB : K (-2) u := by
      have := hK u up.rfl c
      rwa [if_neg ok] at this
    exact c_X8_isRouter ⟨fun _ => hB, fun q1 => c_X8_isRouter ⟨fun _ => hB, fun q2 => absurd ⟨jb_n0.mp q1, jb_n0.mp q2⟩ ok⟩⟩
theorem c_X8_cuts {E : JE} {u : JM} {K : Int32 → JM → Prop}  {a1 a2 : Int32} {w : Wd} (c : XW w u) (ww : NW w.1) (hK : ∀ u', up u u' → XW w u' → K (anCuts w.1 a1 a2) u') : JCi E 3 YX8_cuts [.ref 137, .int a1, .int a2] K u := by
  refine JCi.ofV (ls := [some (.ref 137), some (.int a1), some (.int a2), none, none]) (by decide +kernel) (Nat.le_of_ble_eq_true rfl) rfl rfl (g_X8_cuts_0  ?_)
  unfold anCuts at hK
  have h12 := ww.1.1
  by_cases ok : rg a1 0 7 ∧ rg a2 0 7
  · rw [if_pos ok] at hK
    obtain ⟨o1, o2⟩ := ok
    refine c_X8_isRouter ⟨fun q => absurd o1 (jb_0.mp q), fun _ => c_X8_isRouter ⟨fun _ => ?_, fun q => absurd o2 (jb_0.mp q)⟩⟩
    obtain ⟨r, hr, rfl⟩ := rt_nI o1
    obtain ⟨d, hd, rfl⟩ := rt_nI o2
    rw [nI_cl (show r < 2147483648 by omega), nI_cl (show d < 2147483648 by omega)] at hK
    have hD : ∀ wo, dD (Et w.1 wo) r d ≤ 9999 := fun wo => (dD_is (Et_ok ww.1 wo) r).2.1 d
    have h0 := hD 12
    refine c_tru12 c.1.1.1 ww.1 hr hd fun u1 q1 => ?_
    have u1' := up_R (t1341 q1) fun b q => by unfold inWR at q; omega
    have c1 := c.t (t1341 q1) wr_tmp
    rw [show (9999 : Int32) = nI 9999 from rfl, nI_eq (by omega) (by omega)]
    refine ⟨fun q => ?_, fun q => ?_⟩
    · rw [if_pos (show dD (Et w.1 12) r d < 9999 by omega)] at hK
      have main : ∀ (m k : Nat) (u' : JM), m + k = w.1 0 0 → up u u' → XW w u' → JVi E 3 YX8_cuts K 37 [some (.ref 137), some (.int (nI r)), some (.int (nI d)), some (.int (nI (bits k (cutB w.1 r d)))), some (.int (nI k))] [] u' := by
        intro m
        induction m with
        | zero =>
          intro k u' hm hu hX
          obtain rfl : k = w.1 0 0 := by omega
          refine g_X8_cuts_37 ⟨fun _ => hK u' hu hX, fun q => ?_⟩
          rw [hX.1.1.1.1] at q
          exact absurd (nI_le (Nat.le_refl _) (by omega)) q
        | succ m ih =>
          intro k u' hm hu hX
          have hk : k < w.1 0 0 := by omega
          have h6 := (ww.1.2 k hk).2.2.2.2.2.2
          refine g_X8_cuts_37 ⟨fun q => ?_, fun _ => ⟨vpI (by omega) (by omega), ?_⟩⟩
          · rw [hX.1.1.1.1] at q
            exact absurd q (nI_ge hk (by omega))
          · rw [nI_cl (show k < 2147483648 by omega), (hX.1.1.1.2 k hk).2.2.2.1, nI_1]
            refine ⟨fun q => ?_, fun q => ?_⟩
            · have q' : w.1 6 k ≠ 1 := fun g => q (by rw [g]; rfl)
              have e : bits (k + 1) (cutB w.1 r d) = bits k (cutB w.1 r d) := by rw [bits_suc, if_neg (by unfold cutB; simp [q'])]
              have := ih (k + 1) u' (by omega) hu hX
              rw [e] at this
              exact this
            · have q' : w.1 6 k = 1 := nI_inj (b := 1) (by omega) (by omega) q
              have tr := c_X8_trulyWithout (E := E) (K := fun x1 u1 => ∀ i3_2 : Int32, i3_2 = (if x1 = 9999 then (nI (bits k (cutB w.1 r d)) ||| ((1 : Int32) <<< (nI k &&& 31))) else nI (bits k (cutB w.1 r d))) →
    JVi E 3 YX8_cuts K 37 [some (.ref 137), some (.int (nI r)), some (.int (nI d)), some (.int i3_2), some (.int (nI (k + 1)))] [] u1) (wo := k) hX.1.1.1 ww.1 hr hd fun u2 q2 v hv => by
                have hDk := hD k
                rw [nI_bits (by omega) _ (by
                  unfold cutB
                  rw [q']
                  constructor
                  · intro g; have := nI_inj (b := 9999) (by omega) (by omega) g; simp; omega
                  · intro g; simp at g; rw [show dD (Et w.1 k) r d = 9999 by omega]; rfl)] at hv
                rw [hv]
                exact ih (k + 1) u2 (by omega) (hu.trans (up_R (t1341 q2) fun b q => by unfold inWR at q; omega)) (hX.t (t1341 q2) wr_tmp)
              rw [lkI_lt (by omega)] at tr
              exact tr
      exact main (w.1 0 0) 0 u1 (by omega) u1' c1
    · rw [if_neg (show ¬ dD (Et w.1 12) r d < 9999 by omega)] at hK
      exact hK u1 u1' c1
  · have hB : K (-2) u := by
      have := hK u up.rfl c
      rwa [if_neg ok] at this
    exact c_X8_isRouter ⟨fun _ => hB, fun q1 => c_X8_isRouter ⟨fun q2 => absurd ⟨jb_n0.mp q1, jb_n0.mp q2⟩ ok, fun _ => hB⟩⟩
