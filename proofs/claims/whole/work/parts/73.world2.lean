/-! the reference's world -/
def QS (h : Sh) (u : JM) : Prop := ∀ i, i < 4 → u 3763 i = h.1 i ∧ u 3764 i = nI (h.2.1 i) ∧ ∀ j, j < h.2.1 i → u (3766 + i) j = h.2.2 i j
/-- a net, and what bounds it -/
def QB (s : St) (u : JM) : Prop := QN s u ∧ s 0 0 ≤ 12 ∧ s 13 0 ≤ 192
def XW (w : Wd) (u : JM) : Prop := QB w.1 u ∧ u 137 43 = (if w.2.2.1 = true then 1 else 0) ∧ (w.2.2.1 = true → QB w.2.1 (asd 1 u)) ∧ QS w.2.2.2 u
def inZ : Nat → Prop := fun b => (138 ≤ b ∧ b ≤ 1345) ∨ inAs 0 b ∨ b = 3770
def fdZ : Nat → Prop := fun f => f ≠ 43
theorem QN.b {s : St} {u : JM} (h : QN s u) (w : NW s) : QB s u := ⟨h, w.1.1, w.2.2.1.1⟩
theorem asd_keep {lv : Nat} {A F : Nat → Prop} {s : St} {u u' : JM} (h : QB s (asd lv u)) (e : sF A F u u') (h7 : ¬ A (1347 + lv)) (hA : ∀ b, isB b → ¬ A (adr lv b)) : QB s (asd lv u') := by
  obtain ⟨h1, h2, h3⟩ := h
  refine ⟨h1.pt h2 (by omega) ⟨fun f hf => ?_, fun b hb _ j hj => ?_⟩, h2, h3⟩
  · show (if 137 = 137 then u' (1347 + lv) (fiA f) else _) = (if 137 = 137 then u (1347 + lv) (fiA f) else _)
    rw [if_pos rfl, if_pos rfl, e.1 _ (by omega) h7]
  · have hg := adr_ge (lv := lv) hb
    show (if b = 137 then _ else u' (adr lv b) j) = (if b = 137 then _ else u (adr lv b) j)
    have hb' := hb
    unfold isB at hb'
    rw [if_neg (by omega), if_neg (by omega), e.1 _ (by omega) (hA b hb)]
theorem as01 {b : Nat} (hb : isB b) : ¬ inZ (adr 1 b) := by
  have h := adr_in (lv := 1) hb
  have g := adr_ge (lv := 1) hb
  unfold inZ inAs at *
  omega
theorem QS.congr {h : Sh} {u u' : JM} (c : QS h u) (e : ∀ b, b = 3763 ∨ b = 3764 ∨ (3766 ≤ b ∧ b < 3770) → u' b = u b) : QS h u' := by
  intro i hi
  obtain ⟨c1, c2, c3⟩ := c i hi
  rw [e 3763 (by omega), e 3764 (by omega), e (3766 + i) (by omega)]
  exact ⟨c1, c2, c3⟩
theorem XW.live {w : Wd} {s' : St} {u u' : JM} (h : XW w u) (e : sF inZ fdZ u u') (q : QB s' u') : XW (s', w.2) u' := by
  obtain ⟨h1, h2, h3, h4⟩ := h
  refine ⟨q, by rw [e.2 43 (by unfold fdZ; omega)]; exact h2, fun k => asd_keep (h3 k) e (by unfold inZ inAs; omega) fun b hb => as01 hb, h4.congr fun b hb => e.1 b (by omega) (by unfold inZ inAs; omega)⟩
/-- what is only looked up -/
theorem QB.tmp {s : St} {u u' : JM} {A : Nat → Prop} (h : QB s u) (e : sR A u u') (hA : ∀ b, A b → 1341 ≤ b) : QB s u' := ⟨h.1.tmp e hA (by have := h.2.2; omega), h.2⟩
theorem fZ_of {A : Nat → Prop} {u v : JM} (h : sR A u v) (hA : ∀ b, A b → inZ b) : sF inZ fdZ u v := ⟨fun b b1 b2 => h.1 b b1 fun q => b2 (hA b q), fun f hf => by
  unfold fdZ at hf
  exact h.2 f (by omega)⟩
theorem XW.t {w : Wd} {u u' : JM} {A : Nat → Prop} (h : XW w u) (e : sR A u u') (hA : ∀ b, A b → tmp b) : XW w u' :=
  h.live (fZ_of e fun b q => by have := hA b q; unfold tmp at this; unfold inZ; omega) (h.1.tmp e fun b q => by have := hA b q; unfold tmp at this; omega)
theorem wr_tmp : ∀ b, inWR b → tmp b := fun b q => by unfold inWR at q; unfold tmp; omega
/-- a link's cost or whether it is up -/
theorem QN.set {s : St} {u u' : JM} (h : QN s u) (h400 : s 13 0 ≤ 400) {c l v : Nat} (h' : (c = 4 ∧ u' = jw u 142 (2 * l) (nI v)) ∨ (c = 5 ∧ u' = jw u 142 (2 * l + 1) (nI v)) ∨ (c = 6 ∧ u' = jw u 141 l (nI v))) : QN (set1 s c l v) u' := by
  obtain ⟨⟨l0, l1⟩, hK, hM, hF, t1, t2⟩ := h
  have hc : c = 4 ∨ c = 5 ∨ c = 6 := by omega
  have e : ∀ c', c' ≠ c → set1 s c l v c' = s c' := fun c' q => set1_ne q
  have hu : ∀ b, b ≠ 141 → b ≠ 142 → u' b = u b := fun b b1 b2 => by
    rcases h' with ⟨-, q⟩ | ⟨-, q⟩ | ⟨-, q⟩
    · rw [q, jw_ne b2]
    · rw [q, jw_ne b2]
    · rw [q, jw_ne b1]
  refine ⟨⟨?_, fun l' hl' => ?_⟩, ?_, ?_, ?_, ?_, ?_⟩
  · rw [hu 137 (by decide) (by decide), e 0 (by omega)]; exact l0
  · rw [e 0 (by omega)] at hl'
    obtain ⟨x1, x2, x3, x6, x4, x5⟩ := l1 l' hl'
    rw [hu 138 (by decide) (by decide), hu 139 (by decide) (by decide), hu 140 (by decide) (by decide), e 1 (by omega), e 2 (by omega), e 3 (by omega)]
    refine ⟨x1, x2, x3, ?_, ?_, ?_⟩
    · rcases h' with ⟨q0, q⟩ | ⟨q0, q⟩ | ⟨q0, q⟩
      · rw [q, jw_ne (by decide), e 6 (by omega)]; exact x6
      · rw [q, jw_ne (by decide), e 6 (by omega)]; exact x6
      · subst q0
        rw [q, jw_at, set1_at]
        split
        · rfl
        · exact x6
    · rcases h' with ⟨q0, q⟩ | ⟨q0, q⟩ | ⟨q0, q⟩
      · subst q0
        rw [q, jw_at, set1_at]
        by_cases z : l' = l
        · rw [if_pos (by omega), if_pos z]
        · rw [if_neg (by omega), if_neg z]; exact x4
      · rw [q, jw_at, if_neg (by omega), e 4 (by omega)]; exact x4
      · rw [q, jw_ne (by decide), e 4 (by omega)]; exact x4
    · rcases h' with ⟨q0, q⟩ | ⟨q0, q⟩ | ⟨q0, q⟩
      · rw [q, jw_at, if_neg (by omega), e 5 (by omega)]; exact x5
      · subst q0
        rw [q, jw_at, set1_at]
        by_cases z : l' = l
        · rw [if_pos (by omega), if_pos z]
        · rw [if_neg (by omega), if_neg z]; exact x5
      · rw [q, jw_ne (by decide), e 5 (by omega)]; exact x5
  · exact (hK.congr fun b b1 b2 => hu b (by omega) (by omega)).st fun c' b1 b2 => e c' (by omega)
  · have hM' := hM.congr (u' := u') h400 (by rw [hu 137 (by decide) (by decide)]) fun b b1 b2 => hu b (by omega) (by omega)
    refine ⟨by rw [e 13 (by omega)]; exact hM'.1, fun i hi => ?_⟩
    rw [e 13 (by omega)] at hi
    exact (hM'.2 i hi).st (e 3 (by omega)) fun c' b1 b2 => e c' (by omega)
  · intro r o a hr ho ha
    have := hF.congr (u' := u') (fun b b1 b2 => hu b (by omega) (by omega)) r o a hr ho ha
    unfold QFi at *
    rw [e 11 (by omega), e 12 (by omega)]
    exact this
  · rw [hu 137 (by decide) (by decide), e 21 (by omega)]; exact t1
  · rw [hu 137 (by decide) (by decide), e 22 (by omega)]; exact t2
theorem QB.set {s : St} {u u' : JM} (h : QB s u) {c l v : Nat} (h' : (c = 4 ∧ u' = jw u 142 (2 * l) (nI v)) ∨ (c = 5 ∧ u' = jw u 142 (2 * l + 1) (nI v)) ∨ (c = 6 ∧ u' = jw u 141 l (nI v))) : QB (set1 s c l v) u' :=
  ⟨h.1.set (by have := h.2.2; omega) h', by rw [set1_ne (by omega)]; exact h.2.1, by rw [set1_ne (by omega)]; exact h.2.2⟩
/-- forty ticks -/
theorem go_sF {u u' : JM} (h1 : ∀ b, b ≠ 137 → ¬ inQ b → u' b = u b) (h2 : ∀ f, f ≠ 12 → f ≠ 13 → f ≠ 14 → (f < 25 ∨ f = 43) → u' 137 f = u 137 f) : sF inZ fdZ u u' :=
  ⟨fun b b1 b2 => h1 b b1 fun q => b2 (by unfold inQ at q; unfold inZ; omega), fun f hf => by unfold fdZ at hf; exact h2 f (by omega) (by omega) (by omega) (by omega)⟩
def inY : Nat → Prop := fun b => 138 ≤ b ∧ b ≤ 1345
theorem go_sY {u u' : JM} (h1 : ∀ b, b ≠ 137 → ¬ inQ b → u' b = u b) (h2 : ∀ f, f ≠ 12 → f ≠ 13 → f ≠ 14 → (f < 25 ∨ f = 43) → u' 137 f = u 137 f) : sF inY fdZ u u' :=
  ⟨fun b b1 b2 => h1 b b1 fun q => b2 (by unfold inQ at q; unfold inY; omega), fun f hf => by unfold fdZ at hf; exact h2 f (by omega) (by omega) (by omega) (by omega)⟩
theorem c_X8_goesLong {E : JE} {u0 : JM} {K : JM → Prop} {s : St} (hN : QN s u0) (w : NW s) (hT : s 21 0 + 90 < 1000000000)
    (k : ∀ u, sF inY fdZ u0 u → QN (ticksS s 40) u → K u) : JCu E 9 YX8_goesLong [.ref 137] K u0 := by
  refine JCu.ofV (ls := [some (.ref 137), none, none]) (by decide +kernel) (Nat.le_of_ble_eq_true rfl) rfl rfl (g_X8_goesLong_0 ?_)
  have main : ∀ (m j : Nat) (u : JM), m + j = 40 → sF inY fdZ u0 u → QN (ticksS s j) u → JVu E 9 YX8_goesLong K 2 [some (.ref 137), some (.int (nI j)), none] [] u := by
    intro m
    induction m with
    | zero =>
      intro j u hm hs h
      obtain rfl : j = 40 := by omega
      exact g_X8_goesLong_2 ⟨fun _ => k u hs h, fun q => absurd (show (40 : Int32) ≤ nI 40 by decide) q⟩
    | succ m ih =>
      intro j u hm hs h
      obtain ⟨w1, w2⟩ := ticksS_NW w j (by omega)
      refine g_X8_goesLong_2 ⟨fun q => absurd q (nI_ge (a := j) (b := 40) (by omega) (by omega)), fun _ => ?_⟩
      refine c_X8_goes h w1 (by omega) fun u1 q1 q2 q3 => ?_
      rw [nI_1]
      exact ih (j + 1) u1 (by omega) (hs.trans (go_sY q1 q2)) q3
  exact main 40 0 u0 (by omega) sF.rfl hN
/-- in thought: what is set aside stays, while rows of the net change -/
theorem as0_keep {s : St} {u u' : JM} (h : QB s (asd 0 u)) (e : sF inY fdZ u u') : QB s (asd 0 u') := asd_keep h e (by unfold inY; omega) fun b hb => by
  have := adr_ge (lv := 0) hb
  unfold inY
  omega
theorem c_keep0 {E : JE} {u0 : JM} {K : JM → Prop} {s : St} (hN : QB s u0) (k : ∀ u, same u0 u (inAs 0) → QB s u → QB s (asd 0 u) → K u) : JCu E 2 YX8_keep [.ref 137, .int 0] K u0 :=
  c_X8_keep (lv := 0) hN.1 hN.2.1 hN.2.2 (by decide) fun u q1 q2 => k u q1 (hN.tmp (q1.sR (by unfold inAs; omega)) fun b q => by unfold inAs at q; omega) ⟨q2, hN.2⟩
theorem c_back0 {E : JE} {u0 : JM} {K : JM → Prop} {s : St} (hN : QB s (asd 0 u0)) (k : ∀ u, sF inY fdZ u0 u → QB s u → K u) : JCu E 2 YX8_layBack [.ref 137, .int 0] K u0 :=
  c_X8_layBack (lv := 0) (by decide) hN.1 hN.2.1 hN.2.2 fun u q1 q2 => k u (q1.mono (fun b q => by unfold inB at q; unfold inY; omega) (fun f q => by unfold fdB at q; unfold fdZ; omega)) ⟨q2, hN.2⟩
theorem sY_Z {u u' : JM} (h : sF inY fdZ u u') : sF inZ fdZ u u' := h.mono (fun b q => by unfold inY at q; unfold inZ; omega) (fun f q => q)
theorem as_Z {u u' : JM} (h : same u u' (inAs 0)) : sF inZ fdZ u u' := ⟨fun b b1 b2 => h b fun q => b2 (Or.inr (Or.inl q)), fun f _ => by rw [h 137 (by unfold inAs; omega)]⟩
theorem wr_Y {u u' : JM} (h : sR inWR u u') : sF inY fdZ u u' := ⟨fun b b1 b2 => h.1 b b1 fun q => b2 (by unfold inWR at q; unfold inY; omega), fun f hf => by unfold fdZ at hf; exact h.2 f (by omega)⟩
theorem sF.w {A F : Nat → Prop} {u v : JM} (h : sF A F u v) {a k : Nat} {x : Int32} (ha : A a) (h7 : a ≠ 137) : sF A F u (jw v a k x) := ⟨fun b h1 h2 => by
  rw [jw_ne (fun e => h2 (by rw [e]; exact ha))]; exact h.1 b h1 h2, fun f hf => by rw [jw_ne (Ne.symm h7)]; exact h.2 f hf⟩
theorem sF.f {A F : Nat → Prop} {u v : JM} (h : sF A F u v) {k : Nat} {x : Int32} (hk : F k) : sF A F u (jw v 137 k x) := ⟨fun b h1 h2 => by rw [jw_ne h1]; exact h.1 b h1 h2, fun f hf => by rw [jw_at, if_neg (fun q => hf (by rw [q]; exact hk))]; exact h.2 f hf⟩
