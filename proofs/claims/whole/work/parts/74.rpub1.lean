/-! the reference's public methods: links -/
/-- the class's own rows stay -/
def up (u u' : JM) : Prop := ∀ b, b < 137 → u' b = u b
theorem up.rfl {u : JM} : up u u := fun _ _ => Eq.refl _
theorem up.trans {u v w : JM} (h : up u v) (k : up v w) : up u w := fun b hb => (k b hb).trans (h b hb)
theorem up_F {A F : Nat → Prop} {u u' : JM} (h : sF A F u u') (hA : ∀ b, A b → 137 ≤ b) : up u u' := fun b hb => h.1 b (by omega) fun q => by have := hA b q; omega
theorem up_R {A : Nat → Prop} {u u' : JM} (h : sR A u u') (hA : ∀ b, A b → 137 ≤ b) : up u u' := fun b hb => h.1 b (by omega) fun q => by have := hA b q; omega
theorem up_jw {u u' : JM} {a k : Nat} {x : Int32} (h : u' = jw u a k x) (ha : 137 ≤ a) : up u u' := fun b hb => by rw [h, jw_ne (by omega)]
theorem up_Z {u u' : JM} (h : sF inZ fdZ u u') : up u u' := up_F h fun b q => by unfold inZ inAs at q; omega
theorem jw_Z {u u' : JM} {a k : Nat} {x : Int32} (h : u' = jw u a k x) (ha : 138 ≤ a ∧ a ≤ 1345) : sF inZ fdZ u u' := by rw [h]; exact sF.rfl.w (Or.inl ha) (by omega)
theorem c_X8_set {E : JE} {u : JM} {K : Int32 → JM → Prop}  {a1 a2 : Int32} {w : Wd} (c : XW w u) (wl : WL w.1)
    (hK : ∀ u', up u u' → XW (nxSet w a1 a2) u' → K (anSet w a1 a2) u') : JCi E 3 YX8_set [.ref 137, .int a1, .int a2] K u := by
  refine JCi.ofV (ls := [some (.ref 137), some (.int a1), some (.int a2), none]) (by decide +kernel) (Nat.le_of_ble_eq_true rfl) rfl rfl (g_X8_set_0  ?_)
  have hn := wl.1
  refine c_X8_isLink c.1.1.1 wl ?_
  by_cases ok : isLk (w.1 0 0) a1 ∧ rg a2 0 1
  · unfold anSet nxSet at hK
    rw [if_pos ok, if_pos ok] at hK
    obtain ⟨o1, o2⟩ := ok
    refine ⟨fun q => absurd o1 (jb_0.mp q), fun _ => ⟨fun _ => ?_, fun q => absurd o2 (jb_0.mp q)⟩⟩
    obtain ⟨l, hl, rfl⟩ := lk_nI hn o1
    obtain ⟨v, hv, rfl⟩ := rg_nI (hi := 1) (by decide) o2
    rw [nI_cl (show l < 2147483648 by omega), nI_cl (show v < 2147483648 by omega)] at hK
    rw [nI_cl (show l < 2147483648 by omega), (c.1.1.1.2 l hl).2.2.2.1]
    refine ⟨vpI (by omega) (by omega), fun v3 h3 u3 e3 => ?_⟩
    rw [h3]
    exact hK u3 (up_jw e3 (by omega)) (c.live (jw_Z e3 (by omega)) (c.1.set (Or.inr (Or.inr ⟨rfl, e3⟩))))
  · have hB : K (-2) u := by
      have := hK u up.rfl (by unfold nxSet; rw [if_neg ok]; exact c)
      unfold anSet at this
      rwa [if_neg ok] at this
    exact ⟨fun _ => hB, fun q => ⟨fun q2 => absurd ⟨jb_n0.mp q, jb_n0.mp q2⟩ ok, fun _ => hB⟩⟩
theorem c_X8_cost {E : JE} {u : JM} {K : Int32 → JM → Prop}  {a1 a2 a3 : Int32} {w : Wd} (c : XW w u) (wl : WL w.1)
    (hK : ∀ u', up u u' → XW (nxCost w a1 a2 a3) u' → K (anCost w a1 a2 a3) u') : JCi E 3 YX8_cost [.ref 137, .int a1, .int a2, .int a3] K u := by
  refine JCi.ofV (ls := [some (.ref 137), some (.int a1), some (.int a2), some (.int a3), none]) (by decide +kernel) (Nat.le_of_ble_eq_true rfl) rfl rfl (g_X8_cost_0  ?_)
  have hn := wl.1
  refine c_X8_isLink c.1.1.1 wl ?_
  by_cases ok : isLk (w.1 0 0) a1 ∧ rg a2 0 1 ∧ rg a3 1 99
  · unfold anCost nxCost at hK
    rw [if_pos ok, if_pos ok] at hK
    obtain ⟨o1, o2, o3⟩ := ok
    refine ⟨fun q => absurd o1 (jb_0.mp q), fun _ => ⟨fun q => absurd o2 (jb_0.mp q), fun _ => ⟨fun _ => ?_, fun q => absurd o3 (jb_0.mp q)⟩⟩⟩
    obtain ⟨l, hl, rfl⟩ := lk_nI hn o1
    obtain ⟨e, he, rfl⟩ := rg_nI (hi := 1) (by decide) o2
    obtain ⟨v, v1, v2, rfl⟩ := rg1_nI (hi := 99) (by decide) o3
    rw [nI_cl (show l < 2147483648 by omega), nI_cl (show v < 2147483648 by omega)] at hK
    have ea : (2 * nI l + nI e : Int32) = nI (2 * l + e) := lv_add (c := 2)
    obtain ⟨-, -, -, -, x4, x5⟩ := c.1.1.1.2 l hl
    rw [ea, nI_cl (show 2 * l + e < 2147483648 by omega)]
    refine ⟨vpI (by omega) (by omega), fun v3 h3 u3 e3 => ?_⟩
    rcases (show e = 0 ∨ e = 1 by omega) with g | g
    · subst g
      rw [if_pos (show nI 0 = 0 from rfl), if_pos (show nI 0 = 0 from rfl)] at hK
      rw [h3, show 2 * l + 0 = 2 * l by omega, x4]
      exact hK u3 (up_jw e3 (by omega)) (c.live (jw_Z e3 (by omega)) (c.1.set (Or.inl ⟨rfl, e3⟩)))
    · subst g
      rw [if_neg (show ¬ nI 1 = 0 by decide), if_neg (show ¬ nI 1 = 0 by decide)] at hK
      rw [h3, x5]
      exact hK u3 (up_jw e3 (by omega)) (c.live (jw_Z e3 (by omega)) (c.1.set (Or.inr (Or.inl ⟨rfl, e3⟩))))
  · have hB : K (-2) u := by
      have := hK u up.rfl (by unfold nxCost; rw [if_neg ok]; exact c)
      unfold anCost at this
      rwa [if_neg ok] at this
    exact ⟨fun _ => hB, fun q => ⟨fun _ => hB, fun q2 => ⟨fun q3 => absurd ⟨jb_n0.mp q, jb_n0.mp q2, jb_n0.mp q3⟩ ok, fun _ => hB⟩⟩⟩
theorem c_X8_told {E : JE} {u : JM} {K : Int32 → JM → Prop}  {a1 a2 : Int32} {w : Wd} (c : XW w u) (wl : WL w.1) (hK : K (anTold w a1 a2) u) : JCi E 3 YX8_told [.ref 137, .int a1, .int a2] K u := by
  refine JCi.ofV (ls := [some (.ref 137), some (.int a1), some (.int a2)]) (by decide +kernel) (Nat.le_of_ble_eq_true rfl) rfl rfl (g_X8_told_0  ?_)
  have hn := wl.1
  refine c_X8_isLink c.1.1.1 wl ?_
  unfold anTold at hK
  by_cases ok : isLk (w.1 0 0) a1 ∧ rg a2 0 5
  · rw [if_pos ok] at hK
    obtain ⟨o1, o2⟩ := ok
    refine ⟨fun q => absurd o1 (jb_0.mp q), fun _ => ⟨fun _ => ?_, fun q => absurd o2 (jb_0.mp q)⟩⟩
    obtain ⟨l, hl, rfl⟩ := lk_nI hn o1
    obtain ⟨v, v1, rfl⟩ := rg_nI (hi := 5) (by decide) o2
    rw [nI_cl (show l < 2147483648 by omega), nI_cl (show v < 2147483648 by omega)] at hK
    obtain ⟨x1, x2, x3, x6, x4, x5⟩ := c.1.1.1.2 l hl
    have hl' : vp_in (nI l) 12 := vpI (by omega) (by omega)
    have n0 : ∀ k : Nat, k < 10 → (nI v = nI k ↔ v = k) := fun k hk => nI_eq (by omega) (by omega)
    rw [nI_cl (show l < 2147483648 by omega), x1, x2, x3, x6, show (0 : Int32) = nI 0 from rfl, show (1 : Int32) = nI 1 from rfl, n0 0 (by omega), n0 1 (by omega)]
    refine ⟨fun q0 => ⟨fun q1 => ⟨fun q2 => ⟨fun q5 => ⟨hl', ?_⟩, fun q5 => ?_⟩, fun q2 => ⟨hl', ?_⟩⟩, fun q1 => ⟨hl', ?_⟩⟩, fun q0 => ⟨hl', ?_⟩⟩
    · have : v = 5 := by
        have := Nat.le_of_not_lt fun g => nI_ge (b := 5) g (by omega) q5
        omega
      subst this; exact hK
    · have q2' : ¬ v = 2 := fun g => q2 (by rw [g]; rfl)
      have q5' : v < 5 := Nat.lt_of_not_le fun g => q5 (nI_le (a := 5) g (by omega))
      have ea : (2 * nI l + nI v - 3 : Int32) = nI (2 * l + v - 3) := by
        rw [show (2 * nI l + nI v : Int32) = nI (2 * l + v) from lv_add (c := 2), show (3 : Int32) = nI 3 from rfl, nI_sub (by omega)]
      rw [ea, nI_cl (show 2 * l + v - 3 < 2147483648 by omega)]
      refine ⟨vpI (by omega) (by omega), ?_⟩
      rcases (show v = 3 ∨ v = 4 by omega) with g | g
      · subst g; rw [show 2 * l + 3 - 3 = 2 * l by omega, x4]; exact hK
      · subst g; rw [show 2 * l + 4 - 3 = 2 * l + 1 by omega, x5]; exact hK
    · have : v = 2 := nI_inj (b := 2) (by omega) (by omega) q2
      subst this; exact hK
    · subst q1; exact hK
    · subst q0; exact hK
  · rw [if_neg ok] at hK
    exact ⟨fun _ => hK, fun q => ⟨fun q2 => absurd ⟨jb_n0.mp q, jb_n0.mp q2⟩ ok, fun _ => hK⟩⟩
/-- what a link more leaves -/
theorem QN.add {s : St} {u u' : JM} (h : QN s u) (h400 : s 13 0 ≤ 400) (wM : ∀ i, i < s 13 0 → s 14 i < s 0 0) {x y a f b : Nat}
    (e0 : u' 137 0 = nI (s 0 0 + 1)) (e7 : ∀ k, k ≠ 0 → u' 137 k = u 137 k) (e1 : ∀ k, u' 138 k = if k = s 0 0 then nI x else u 138 k) (e2 : ∀ k, u' 139 k = if k = s 0 0 then nI y else u 139 k) (e3 : ∀ k, u' 140 k = if k = s 0 0 then nI a else u 140 k) (e4 : ∀ k, u' 141 k = if k = s 0 0 then 1 else u 141 k)
    (e5 : ∀ k, u' 142 k = if k = 2 * s 0 0 + 1 then nI b else if k = 2 * s 0 0 then nI f else u 142 k) (e9 : ∀ b, 143 ≤ b → u' b = u b) : QN (addS s x y a f b) u' := by
  obtain ⟨⟨l0, l1⟩, hK, hM, hF, t1, t2⟩ := h
  have A := addS_at s x y a f b
  have en : ∀ c, 6 < c → addS s x y a f b c = s c := fun c hc => addS_ne hc
  refine ⟨⟨by rw [(A 0).1]; exact e0, fun l hl => ?_⟩, (hK.congr fun b b1 b2 => e9 b (by omega)).st fun c b1 b2 => en c (by omega), ?_, ?_, ?_, ?_⟩
  · rw [(A 0).1] at hl
    obtain ⟨-, a1, a2, a3, a4, a5, a6⟩ := A l
    rw [e1, e2, e3, e4, e5, e5, a1, a2, a3, a4, a5, a6]
    by_cases q : l = s 0 0
    · rw [if_neg (show ¬ 2 * l = 2 * s 0 0 + 1 by omega), if_pos (show 2 * l = 2 * s 0 0 by omega), if_pos (show 2 * l + 1 = 2 * s 0 0 + 1 by omega)]
      simp only [if_pos q]
      exact ⟨trivial, trivial, trivial, rfl, trivial, trivial⟩
    · rw [if_neg (show ¬ 2 * l = 2 * s 0 0 + 1 by omega), if_neg (show ¬ 2 * l = 2 * s 0 0 by omega), if_neg (show ¬ 2 * l + 1 = 2 * s 0 0 + 1 by omega), if_neg (show ¬ 2 * l + 1 = 2 * s 0 0 by omega)]
      simp only [if_neg q]
      exact l1 l (by omega)
  · have hM' := hM.congr (u' := u') h400 (e7 12 (by decide)) fun b b1 b2 => e9 b (by omega)
    refine ⟨by rw [en 13 (by omega)]; exact hM'.1, fun i hi => ?_⟩
    rw [en 13 (by omega)] at hi
    obtain ⟨x1, x2, x3, x4, x5, x6, x7, x8⟩ := hM'.2 i hi
    have w14 := wM i hi
    unfold QMi
    rw [en 14 (by omega), en 15 (by omega), en 16 (by omega), en 17 (by omega), en 18 (by omega), en 19 (by omega), en 20 (by omega), (A (s 14 i)).2.2.2.1, if_neg (by omega)]
    exact ⟨x1, x2, x3, x4, x5, x6, x7, x8⟩
  · intro r o a' hr ho ha
    have := hF.congr (u' := u') (fun b b1 b2 => e9 b (by omega)) r o a' hr ho ha
    unfold QFi at *
    rw [en 11 (by omega), en 12 (by omega)]
    exact this
  · rw [e7 13 (by decide), en 21 (by omega)]; exact t1
  · rw [e7 14 (by decide), en 22 (by omega)]; exact t2
theorem c_X8_link {E : JE} {u : JM} {K : Int32 → JM → Prop}  {a1 a2 a3 a4 a5 : Int32} {w : Wd} (c : XW w u) (ww : NW w.1)
    (hK : ∀ u', up u u' → XW (nxLink w a1 a2 a3 a4 a5) u' → K (anLink w a1 a2 a3 a4 a5) u') : JCi E 3 YX8_link [.ref 137, .int a1, .int a2, .int a3, .int a4, .int a5] K u := by
  refine JCi.ofV (ls := [some (.ref 137), some (.int a1), some (.int a2), some (.int a3), some (.int a4), some (.int a5)]) (by decide +kernel) (Nat.le_of_ble_eq_true rfl) rfl rfl (g_X8_link_0  ?_)
  have h12 := ww.1.1
  have e0 : u 137 0 = nI (w.1 0 0) := c.1.1.1.1
  by_cases ok : okL a1 a2 a3 a4 a5
  · have ea : anLink w a1 a2 a3 a4 a5 = (if w.1 0 0 < 12 then nI (w.1 0 0) else -4) := if_pos ok
    have ok' := ok
    obtain ⟨o1, o2, o3, o4, o5, o6⟩ := ok
    refine c_X8_isRouter ⟨fun q => absurd o1 (jb_0.mp q), fun _ => c_X8_isRouter ⟨fun q => absurd o2 (jb_0.mp q), fun _ => ⟨fun q => absurd q o3, fun _ => c_X8_isArea ⟨fun q => absurd o4 (jb_0.mp q), fun _ => ⟨fun q => absurd o5 (jb_0.mp q), fun _ => ⟨fun _ => ?_, fun q => absurd o6 (jb_0.mp q)⟩⟩⟩⟩⟩⟩
    rw [e0, show (12 : Int32) = nI 12 from rfl, nI_eq (by omega) (by omega)]
    refine ⟨fun q => ?_, fun q => ?_⟩
    · have q' : w.1 0 0 < 12 := by omega
      obtain ⟨x, x1, rfl⟩ := rt_nI o1
      obtain ⟨y, y1, rfl⟩ := rt_nI o2
      obtain ⟨a, z1, rfl⟩ := ar_nI o4
      obtain ⟨f, -, f1, rfl⟩ := rg1_nI (hi := 99) (by decide) o5
      obtain ⟨b, -, b1, rfl⟩ := rg1_nI (hi := 99) (by decide) o6
      have en : nxLink w (nI x) (nI y) (nI a) (nI f) (nI b) = (addS w.1 x y a f b, w.2) := by
        unfold nxLink
        rw [if_pos ⟨ok', q'⟩, nI_cl (by omega), nI_cl (by omega), nI_cl (by omega), nI_cl (by omega), nI_cl (by omega)]
      rw [ea, if_pos q', en] at hK
      have hv : vp_in (nI (w.1 0 0)) 12 := vpI (by omega) (by omega)
      have e2n : (2 * nI (w.1 0 0) : Int32) = nI (2 * w.1 0 0) := by rw [show (2 : Int32) = nI 2 from rfl, nI_mul]
      have c0 : (nI (w.1 0 0)).toNatClampNeg = w.1 0 0 := nI_cl (by omega)
      refine ⟨hv, fun u4 h4 => ?_⟩
      have z4 : u4 137 0 = nI (w.1 0 0) := by rw [h4, jw_ne (by decide)]; exact e0
      rw [z4]
      refine ⟨hv, fun u5 h5 => ?_⟩
      have z5 : u5 137 0 = nI (w.1 0 0) := by rw [h5, jw_ne (by decide)]; exact z4
      rw [z5]
      refine ⟨hv, fun u6 h6 => ?_⟩
      have z6 : u6 137 0 = nI (w.1 0 0) := by rw [h6, jw_ne (by decide)]; exact z5
      rw [z6]
      refine ⟨hv, fun u7 h7 => ?_⟩
      have z7 : u7 137 0 = nI (w.1 0 0) := by rw [h7, jw_ne (by decide)]; exact z6
      rw [z7, e2n]
      refine ⟨vpI (by omega) (by omega), fun u8 h8 => ?_⟩
      have z8 : u8 137 0 = nI (w.1 0 0) := by rw [h8, jw_ne (by decide)]; exact z7
      rw [z8, e2n, nI_1]
      refine ⟨vpI (by omega) (by omega), fun u9 h9 u10 h10 => ?_⟩
      have z9 : u9 137 0 = nI (w.1 0 0) := by rw [h9, jw_ne (by decide)]; exact z8
      rw [z9, nI_1] at h10
      rw [c0] at h4 h5 h6 h7
      rw [nI_cl (by omega)] at h8 h9
      have o : ∀ b, b ≠ 137 → b ≠ 138 → b ≠ 139 → b ≠ 140 → b ≠ 141 → b ≠ 142 → u10 b = u b := fun b b1 b2 b3 b4 b5 b6 => by rw [h10, jw_ne b1, h9, jw_ne b6, h8, jw_ne b6, h7, jw_ne b5, h6, jw_ne b4, h5, jw_ne b3, h4, jw_ne b2]
      have e7 : ∀ k, k ≠ 0 → u10 137 k = u 137 k := fun k hk => by rw [h10, jw_at, if_neg hk, h9, jw_ne (by decide), h8, jw_ne (by decide), h7, jw_ne (by decide), h6, jw_ne (by decide), h5, jw_ne (by decide), h4, jw_ne (by decide)]
      have hN : QN (addS w.1 x y a f b) u10 := by
        refine c.1.1.add (by have := c.1.2.2; omega) (fun i hi => (ww.2.2.1.2 i hi).1) (by rw [h10, jw_at, if_pos rfl]) e7 (fun k => ?_) (fun k => ?_) (fun k => ?_) (fun k => ?_) (fun k => ?_) (fun b b1 => o b (by omega) (by omega) (by omega) (by omega) (by omega) (by omega))
        · rw [h10, jw_ne (by decide), h9, jw_ne (by decide), h8, jw_ne (by decide), h7, jw_ne (by decide), h6, jw_ne (by decide), h5, jw_ne (by decide), h4, jw_at]
        · rw [h10, jw_ne (by decide), h9, jw_ne (by decide), h8, jw_ne (by decide), h7, jw_ne (by decide), h6, jw_ne (by decide), h5, jw_at, h4, jw_ne (by decide)]
        · rw [h10, jw_ne (by decide), h9, jw_ne (by decide), h8, jw_ne (by decide), h7, jw_ne (by decide), h6, jw_at, h5, jw_ne (by decide), h4, jw_ne (by decide)]
        · rw [h10, jw_ne (by decide), h9, jw_ne (by decide), h8, jw_ne (by decide), h7, jw_at, h6, jw_ne (by decide), h5, jw_ne (by decide), h4, jw_ne (by decide)]
        · rw [h10, jw_ne (by decide), h9, jw_at, h8, jw_at, h7, jw_ne (by decide), h6, jw_ne (by decide), h5, jw_ne (by decide), h4, jw_ne (by decide)]
      have hF : sF inZ fdZ u u10 := ⟨fun b b1 b2 => o b b1 (fun g => b2 (by unfold inZ; omega)) (fun g => b2 (by unfold inZ; omega)) (fun g => b2 (by unfold inZ; omega)) (fun g => b2 (by unfold inZ; omega)) (fun g => b2 (by unfold inZ; omega)), fun f' hf => e7 f' (by unfold fdZ at hf; omega)⟩
      rw [show u10 137 0 = nI (w.1 0 0 + 1) by rw [h10, jw_at, if_pos rfl], nI_pred]
      have e13 : addS w.1 x y a f b 13 0 = w.1 13 0 := by rw [addS_ne (by omega)]
      exact hK u10 (up_Z hF) (c.live hF ⟨hN, by rw [(addS_at _ _ _ _ _ _ 0).1]; omega, by rw [e13]; exact c.1.2.2⟩)
    · have q' : ¬ w.1 0 0 < 12 := by omega
      rw [ea, if_neg q'] at hK
      exact hK u up.rfl (by unfold nxLink; rw [if_neg (fun g => q' g.2)]; exact c)
  · have hB : K (-2) u := by
      have := hK u up.rfl (by unfold nxLink; rw [if_neg (fun g => ok g.1)]; exact c)
      unfold anLink at this
      rwa [if_neg ok] at this
    refine c_X8_isRouter ⟨fun _ => hB, fun q1 => c_X8_isRouter ⟨fun _ => hB, fun q2 => ⟨fun _ => hB, fun q3 => c_X8_isArea ⟨fun _ => hB, fun q4 => ⟨fun _ => hB, fun q5 => ⟨fun q6 => absurd ⟨jb_n0.mp q1, jb_n0.mp q2, q3, jb_n0.mp q4, jb_n0.mp q5, jb_n0.mp q6⟩ ok, fun _ => hB⟩⟩⟩⟩⟩⟩
