/-! the reference: film, image, back, count, the host's calls -/
def inSh : Nat → Prop := fun b => b = 3763 ∨ b = 3764 ∨ (3766 ≤ b ∧ b ≤ 3770)
/-- sheets changed, nothing else but what is looked up -/
theorem XW.shs {w : Wd} {h' : Sh} {u u' : JM} (c : XW w u) (e : sF (fun b => inSh b ∨ tmp b) (fun f => 25 ≤ f ∧ f ≠ 43) u u') (q : QS h' u') : XW (w.1, w.2.1, w.2.2.1, h') u' := by
  obtain ⟨h1, h2, h3, h4⟩ := c
  refine ⟨⟨h1.1.pt h1.2.1 (by have := h1.2.2; omega) ⟨fun f hf => e.2 f (by omega), fun b hb _ j _ => ?_⟩, h1.2⟩, by rw [e.2 43 (by omega)]; exact h2, fun k => asd_keep (h3 k) e (by unfold inSh tmp; omega) fun b hb => ?_, q⟩
  · rw [e.1 b (by unfold isB at hb; omega) (by unfold isB at hb; unfold inSh tmp; omega)]
  · have := adr_in (lv := 1) hb
    have := adr_ge (lv := 1) hb
    unfold inAs at *
    unfold inSh tmp
    omega
theorem up_sh {u u' : JM} (e : sF (fun b => inSh b ∨ tmp b) (fun f => 25 ≤ f ∧ f ≠ 43) u u') : up u u' := up_F e fun b q => by unfold inSh tmp at q; omega
theorem wr_sh {u u' : JM} (e : sR inWR u u') : sF (fun b => inSh b ∨ tmp b) (fun f => 25 ≤ f ∧ f ≠ 43) u u' := ⟨fun b b1 b2 => e.1 b b1 fun q => b2 (Or.inr (wr_tmp b q)), fun f hf => e.2 f (by omega)⟩
theorem shF_at (h : Sh) (i : Nat) (f : Nat → Int32) : ∀ k, (∀ i', (shF h i f k).1 i' = if i' = i then 1 else h.1 i') ∧ (∀ i', (shF h i f k).2.1 i' = if i' = i then 8 else h.2.1 i') ∧ ∀ i' j, (shF h i f k).2.2 i' j = if i' = i then (if j < k then f j else 0) else h.2.2 i' j
  | 0 => ⟨fun _ => rfl, fun _ => rfl, fun i' j => by
    show (if i' = i then 0 else h.2.2 i' j) = _
    split
    · rw [if_neg (Nat.not_lt_zero j)]
    · rfl⟩
  | k + 1 => by
    obtain ⟨h1, h2, h3⟩ := shF_at h i f k
    refine ⟨h1, h2, fun i' j => ?_⟩
    show (if i' = i ∧ j = k then (if (shF h i f k).1 i = 0 then (f k).toInt16.toInt32 else f k) else (shF h i f k).2.2 i' j) = _
    rw [h1, if_pos (show i = i from rfl), if_neg (show ¬ (1 : Int32) = 0 by decide), h3]
    by_cases q : i' = i
    · rw [if_pos q, if_pos q]
      by_cases g : j = k
      · rw [if_pos ⟨q, g⟩, if_pos (by omega), g]
      · rw [if_neg (fun z => g z.2)]
        by_cases g2 : j < k
        · rw [if_pos g2, if_pos (by omega)]
        · rw [if_neg g2, if_neg (by omega)]
    · rw [if_neg (fun z => q z.1), if_neg q, if_neg q]
theorem c_X8_film {E : JE} {u : JM} {K : Int32 → JM → Prop}  {a1 a2 : Int32} {w : Wd} (c : XW w u) (ww : NW w.1)
    (hK : ∀ u', up u u' → XW (nxFilm w a1 a2) u' → K (anFilm a1 a2) u') : JCi E 8 YX8_film [.ref 137, .int a1, .int a2] K u := by
  refine JCi.ofV (ls := [some (.ref 137), some (.int a1), some (.int a2), none]) (by decide +kernel) (Nat.le_of_ble_eq_true rfl) rfl rfl (g_X8_film_0  ?_)
  unfold anFilm nxFilm at hK
  by_cases ok : rg a1 0 3 ∧ rg a2 0 7
  · rw [if_pos ok, if_pos ok] at hK
    obtain ⟨o1, o2⟩ := ok
    refine c_X8_isSheet ⟨fun q => absurd o1 (jb_0.mp q), fun _ => c_X8_isRouter ⟨fun _ => ?_, fun q => absurd o2 (jb_0.mp q)⟩⟩
    obtain ⟨i, hi, rfl⟩ := sh_nI o1
    obtain ⟨r, hr, rfl⟩ := rt_nI o2
    rw [nI_cl (show i < 2147483648 by omega), nI_cl (show r < 2147483648 by omega)] at hK
    have ei : (nI i).toNatClampNeg = i := nI_cl (by omega)
    rw [ei]
    refine ⟨vpI hi (by omega), fun u3 h3 u4 h4 => ?_⟩
    have z4 : sF (fun b => inSh b ∨ tmp b) (fun f => 25 ≤ f ∧ f ≠ 43) u u4 := by
      rw [h4, h3]
      exact (sF.rfl.w (Or.inl (by unfold inSh; omega)) (by decide)).w (Or.inl (by unfold inSh; omega)) (by decide)
    obtain ⟨A1, A2, A3⟩ := shF_at w.2.2.2 i (fun d => (rtC w.1 r d).1) 8
    have main : ∀ (m k : Nat) (u' : JM), m + k = 8 → sF (fun b => inSh b ∨ tmp b) (fun f => 25 ≤ f ∧ f ≠ 43) u u' → u' 3763 = u4 3763 → u' 3764 = u4 3764 → (∀ i', i' < 4 → i' ≠ i → u' (3766 + i') = u (3766 + i')) → (∀ j, j < k → u' (3766 + i) j = (rtC w.1 r j).1) → JVi E 8 YX8_film K 34 [some (.ref 137), some (.int (nI i)), some (.int (nI r)), some (.int (nI k))] [] u' := by
      intro m
      induction m with
      | zero =>
        intro k u' hm hs e3 e4 eo ei'
        obtain rfl : k = 8 := by omega
        refine g_X8_film_34 ⟨fun _ => hK u' (up_sh hs) (c.shs hs fun i' hi' => ?_), fun q => absurd (show (8 : Int32) ≤ nI 8 by decide) q⟩
        obtain ⟨x1, x2, x3⟩ := c.2.2.2 i' hi'
        rw [A1, A2]
        refine ⟨?_, ?_, fun j hj => ?_⟩
        · rw [e3, h4, jw_ne (by decide), h3, jw_at]
          split
          · rfl
          · exact x1
        · rw [e4, h4, jw_at, h3, jw_ne (by decide)]
          split
          · rfl
          · exact x2
        · rw [A3]
          by_cases q : i' = i
          · rw [if_pos q] at hj ⊢
            rw [if_pos hj, q]
            exact ei' j hj
          · rw [if_neg q] at hj ⊢
            rw [eo i' hi' q]
            exact x3 j hj
      | succ m ih =>
        intro k u' hm hs e3 e4 eo ei'
        have eb : ∀ b, b ≠ 137 → ¬ inSh b → ¬ tmp b → u' b = u b := fun b b1 b2 b3 => hs.1 b b1 fun q => q.elim b2 b3
        refine g_X8_film_34 ⟨fun q => absurd q (nI_ge (a := k) (b := 8) (by omega) (by omega)), fun _ => ⟨vpI hi (by omega), ?_⟩⟩
        refine c_X8_costNow (c.1.1.1.congr (hs.2 0 (by omega)) fun b b1 b2 => eb b (by omega) (by unfold inSh; omega) (by unfold tmp; omega)) (c.1.1.2.1.congr fun b b1 b2 => eb b (by omega) (by unfold inSh; omega) (by unfold tmp; omega)) ww.1 ww.2.1 hr (show k < 8 by omega) fun u1 q1 => ⟨vpI (by omega) (by omega), fun u2 h2 => ?_⟩
        rw [ei, nI_cl (show k < 2147483648 by omega)] at h2
        have e1 : ∀ b, 1346 ≤ b → u1 b = u' b := fun b hb => q1.1 b (by omega) (by unfold inWR; omega)
        rw [nI_1]
        refine ih (k + 1) u2 (by omega) ?_ ?_ ?_ (fun i' hi' q => ?_) (fun j hj => ?_)
        · rw [h2]
          exact (hs.trans (wr_sh q1)).w (Or.inl (by unfold inSh; omega)) (by omega)
        · rw [h2, jw_ne (by omega), e1 _ (by omega)]; exact e3
        · rw [h2, jw_ne (by omega), e1 _ (by omega)]; exact e4
        · rw [h2, jw_ne (by omega), e1 _ (by omega)]; exact eo i' hi' q
        · rw [h2, jw_at]
          by_cases q : j = k
          · rw [if_pos q, q]
          · rw [if_neg q, e1 _ (by omega)]; exact ei' j (by omega)
    exact main 8 0 u4 (by omega) z4 rfl rfl (fun i' hi' _ => by rw [h4, jw_ne (by omega), h3, jw_ne (by omega)]) (fun j hj => absurd hj (Nat.not_lt_zero j))
  · have hB : K (-2) u := by
      have := hK u up.rfl (by rw [if_neg ok]; exact c)
      rwa [if_neg ok] at this
    exact c_X8_isSheet ⟨fun _ => hB, fun q1 => c_X8_isRouter ⟨fun q2 => absurd ⟨jb_n0.mp q1, jb_n0.mp q2⟩ ok, fun _ => hB⟩⟩
theorem c_X8_image {E : JE} {u : JM} {K : Int32 → JM → Prop}  {w : Wd} (c : XW w u)
    (hK : ∀ u', up u u' → XW (nxImage w) u' → K (anImage w) u') : JCi E 3 YX8_image [.ref 137] K u := by
  refine JCi.ofV (ls := [some (.ref 137)]) (by decide +kernel) (Nat.le_of_ble_eq_true rfl) rfl rfl (g_X8_image_0  ?_)
  intro u1 h1
  have n1 : QB w.1 u1 := c.1.f7 h1 (by omega)
  refine c_X8_keep (lv := 1) n1.1 n1.2.1 n1.2.2 (by decide) fun u2 q2 n2 => ?_
  have e : ∀ b, b ≠ 137 → ¬ inAs 1 b → u2 b = u b := fun b b1 b2 => by rw [q2 b b2, h1, jw_ne b1]
  have e7 : u2 137 = u1 137 := q2 137 (by unfold inAs; omega)
  have hB : QB w.1 u2 := ⟨n1.1.pt n1.2.1 (by have := n1.2.2; omega) ⟨fun f _ => by rw [e7], fun b hb _ j _ => by rw [q2 b (by unfold isB at hb; unfold inAs; omega)]⟩, n1.2⟩
  have hX : XW (nxImage w) u2 := ⟨hB, by rw [e7, h1, jw_at, if_pos rfl]; rfl, fun _ => ⟨n2, n1.2⟩, c.2.2.2.congr fun b hb => e b (by omega) (by unfold inAs; omega)⟩
  have h := hK u2 (fun b hb => e b (by omega) (by unfold inAs; omega)) hX
  rw [hB.1.1.1]
  exact h
theorem c_X8_back {E : JE} {u : JM} {K : Int32 → JM → Prop}  {w : Wd} (c : XW w u)
    (hK : ∀ u', up u u' → XW (nxBack w) u' → K (anBack w) u') : JCi E 3 YX8_back [.ref 137] K u := by
  refine JCi.ofV (ls := [some (.ref 137)]) (by decide +kernel) (Nat.le_of_ble_eq_true rfl) rfl rfl (g_X8_back_0  ?_)
  unfold anBack nxBack at hK
  have ek := c.2.1
  by_cases ok : w.2.2.1 = true
  · rw [if_pos ok] at ek
    rw [if_pos ok, if_pos ok] at hK
    refine ⟨fun _ => ?_, fun q => absurd (ek.symm.trans q) (by decide)⟩
    have k := c.2.2.1 ok
    refine c_X8_layBack (lv := 1) (by decide) k.1 k.2.1 k.2.2 fun u1 q1 n1 => ?_
    have z : sF inZ fdZ u u1 := q1.mono (fun b q => by unfold inB at q; unfold inZ; omega) (fun f q => by unfold fdB at q; unfold fdZ; omega)
    have h := hK u1 (up_Z z) (c.live z ⟨n1, k.2⟩)
    rw [n1.1.1]
    exact h
  · rw [if_neg ok] at ek
    rw [if_neg ok, if_neg ok] at hK
    exact ⟨fun q => absurd ek q, fun _ => hK u up.rfl c⟩
theorem c_X8_count {E : JE} {u : JM} {K : Int32 → JM → Prop}  {a1 : Int32} {w : Wd} (c : XW w u) (ww : NW w.1) (hK : K (anCount w.1 a1) u) : JCi E 4 YX8_count [.ref 137, .int a1] K u := by
  refine JCi.ofV (ls := [some (.ref 137), some (.int a1), none, none]) (by decide +kernel) (Nat.le_of_ble_eq_true rfl) rfl rfl (g_X8_count_0  ?_)
  unfold anCount at hK
  have h12 := ww.1.1
  have hL := c.1.1.1
  rw [c.1.1.1.1, c.1.1.2.2.2.2.1, c.1.1.2.2.2.2.2, c.1.1.2.2.1.1]
  refine ⟨fun q => ?_, fun q => ?_, fun q => ?_, fun q => ?_, fun q => ?_, fun q => ?_, fun q0 q1 q2 q3 q4 q5 => ?_⟩
  · rw [if_pos q] at hK; exact hK
  · rw [q, if_neg (by decide), if_pos rfl] at hK
    have main : ∀ (m k : Nat), m + k = w.1 0 0 → JVi E 4 YX8_count K 47 [some (.ref 137), some (.int a1), some (.int (nI (cntP k fun l => decide (w.1 6 l = 1)))), some (.int (nI k))] [] u := by
      intro m
      induction m with
      | zero =>
        intro k hm
        obtain rfl : k = w.1 0 0 := by omega
        refine g_X8_count_47 ⟨fun _ => hK, fun c => ?_⟩
        rw [hL.1] at c
        exact absurd (nI_le (Nat.le_refl _) (by omega)) c
      | succ m ih =>
        intro k hm
        have hk : k < w.1 0 0 := by omega
        have c0 : ¬ u 137 0 ≤ nI k := by rw [hL.1]; exact nI_ge hk (by omega)
        have h6 := (ww.1.2 k hk).2.2.2.2.2.2
        have next := ih (k + 1) (by omega)
        have ec : cntP (k + 1) (fun l => decide (w.1 6 l = 1)) = cntP k (fun l => decide (w.1 6 l = 1)) + w.1 6 k := by
          show cntP k (fun l => decide (w.1 6 l = 1)) + (if decide (w.1 6 k = 1) then 1 else 0) = _
          rcases (show w.1 6 k = 0 ∨ w.1 6 k = 1 by omega) with g | g <;> rw [g] <;> rfl
        refine g_X8_count_47 ⟨fun z => absurd z c0, fun _ => ⟨vpI (by omega) (by omega), fun v hv => ?_⟩⟩
        rw [nI_cl (show k < 2147483648 by omega), (hL.2 k hk).2.2.2.1, nI_add, ← ec] at hv
        rw [hv, nI_1]
        exact next
    rw [← q] at *
    exact main (w.1 0 0) 0 (by omega)
  · rw [q, if_neg (by decide), if_neg (by decide), if_pos rfl] at hK; exact hK
  · rw [q, if_neg (by decide), if_neg (by decide), if_neg (by decide), if_pos rfl] at hK; exact hK
  · rw [q, if_neg (by decide), if_neg (by decide), if_neg (by decide), if_neg (by decide), if_pos rfl] at hK; exact hK
  · rw [q, if_neg (by decide), if_neg (by decide), if_neg (by decide), if_neg (by decide), if_neg (by decide), if_pos rfl] at hK
    have main : ∀ (m k : Nat), m + k = 8 → JVi E 4 YX8_count K 89 [some (.ref 137), some (.int a1), some (.int (nI (sumTo (knS w.1) k))), some (.int (nI k))] [] u := by
      intro m
      induction m with
      | zero =>
        intro k hm
        obtain rfl : k = 8 := by omega
        exact g_X8_count_89 ⟨fun _ => hK, fun q => absurd (show (8 : Int32) ≤ nI 8 by decide) q⟩
      | succ m ih =>
        intro k hm
        refine g_X8_count_89 ⟨fun q => absurd q (nI_ge (a := k) (b := 8) (by omega) (by omega)), fun _ => ?_⟩
        refine c_X8_knows (st := false) hL c.1.1.2.1 ww.1 ww.2.1 (show k < 8 by omega) (by decide) ?_
        rw [knN_f, nI_add, nI_1]
        exact ih (k + 1) (by omega)
    exact main 8 0 (by omega)
  · rw [if_neg q0, if_neg q1, if_neg q2, if_neg q3, if_neg q4, if_neg q5] at hK; exact hK
