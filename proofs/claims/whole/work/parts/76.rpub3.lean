/-! the reference: advert, packet -/
theorem c_X8_advert {E : JE} {u : JM} {K : Int32 → JM → Prop}  {a1 a2 a3 a4 : Int32} {w : Wd} (c : XW w u) (ww : NW w.1) (hK : K (anAdvert w.1 a1 a2 a3 a4) u) : JCi E 3 YX8_advert [.ref 137, .int a1, .int a2, .int a3, .int a4] K u := by
  refine JCi.ofV (ls := [some (.ref 137), some (.int a1), some (.int a2), some (.int a3), some (.int a4), none]) (by decide +kernel) (Nat.le_of_ble_eq_true rfl) rfl rfl (g_X8_advert_0  ?_)
  unfold anAdvert at hK
  by_cases ok : rg a1 0 7 ∧ rg a2 0 7 ∧ rg a3 0 2 ∧ isAdvW a4
  · rw [if_pos ok] at hK
    obtain ⟨o1, o2, o3, o4⟩ := ok
    have mid : ∀ i5 : Int32, i5 = (a1 * 8 + a2) * 3 + a3 → vp_in i5 192 ∧ ((¬ (u 143 i5.toNatClampNeg) = 0 → ((2 ≤ a4 → ((¬ a4 = 2 → ((a4 < 30 → vp_in (a4 - 10) 12 ∧
            (((u (148 + i5.toNatClampNeg) (a4 - 10).toNatClampNeg) ≤ 0 → K (-1) u) ∧
            (¬ (u (148 + i5.toNatClampNeg) (a4 - 10).toNatClampNeg) ≤ 0 → K (u (148 + i5.toNatClampNeg) (a4 - 10).toNatClampNeg) u))) ∧
           (¬ a4 < 30 → vp_in (a4 - 30) 8 ∧ K (u (341 + i5.toNatClampNeg) (a4 - 30).toNatClampNeg) u))) ∧
          (a4 = 2 → JCi E 1 YX8_linksTold [.ref 137, .int i5] (fun x5 u5 => K x5 u5) u))) ∧
         (¬ 2 ≤ a4 → ((¬ a4 = 0 → K (u 144 i5.toNatClampNeg) u) ∧ (a4 = 0 → K (u 143 i5.toNatClampNeg) u))))) ∧
        ((u 143 i5.toNatClampNeg) = 0 → K (-3) u)) := by
      intro i5 h5
      obtain ⟨r, hr, rfl⟩ := rt_nI o1
      obtain ⟨o, ho, rfl⟩ := rt_nI o2
      obtain ⟨a, ha, rfl⟩ := ar_nI o3
      obtain ⟨x, hx, rfl⟩ : ∃ x, (x ≤ 2 ∨ (10 ≤ x ∧ x ≤ 21) ∨ (30 ≤ x ∧ x ≤ 37)) ∧ a4 = nI x := by
        obtain ⟨x, h1, rfl⟩ := rg_nI (a := a4) (hi := 37) (by decide) (by unfold isAdvW at o4; unfold rg; omega)
        refine ⟨x, ?_, rfl⟩
        unfold isAdvW rg at o4
        rw [nI_toInt (by omega)] at o4
        omega
      rw [pl_nI] at h5
      have hp := pl_lt hr ho ha
      have hrow := rw8_lt hr ha ho
      obtain ⟨k1, k2⟩ := c.1.1.2.1 r o a hr ho ha
      have w7 := ww.2.1 _ hrow
      have wk := num_lt ww.2.1 hr ho ha
      rw [nI_cl (show r < 2147483648 by omega), nI_cl (show o < 2147483648 by omega), nI_cl (show a < 2147483648 by omega), nI_cl (show x < 2147483648 by omega)] at hK
      rw [h5, nI_cl (show pl r o a < 2147483648 by omega), k1]
      have hgt : (30 : Int32) = nI 30 := rfl
      refine ⟨vpI hp (by omega), fun q => ?_, fun q => ?_⟩
      · have q' : ¬ w.1 7 (rw8 r a o) = 0 := fun g => q (by rw [g]; rfl)
        rw [if_neg q'] at hK
        obtain ⟨k3, k4, k5⟩ := k2 (by omega)
        obtain ⟨w8, w9, w10⟩ := w7.2 (by omega)
        rw [k3]
        refine ⟨fun z => ⟨fun z2 => ⟨fun z3 => ?_, fun z3 => ?_⟩, fun z2 => ?_⟩, fun z => ⟨fun z0 => ?_, fun z0 => ?_⟩⟩
        · have x2 : 2 ≤ x := Nat.le_of_not_lt fun g => nI_ge (b := 2) g (by omega) z
          have x3 : x ≠ 2 := fun g => z2 (by rw [g]; rfl)
          rw [hgt, i32_lt (by omega), nI_toInt (by omega)] at z3
          rw [if_neg (show ¬ nI x = 0 from fun g => by have := nI_inj (b := 0) (by omega) (by omega) g; omega), if_neg (show ¬ nI x = 1 from fun g => by have := nI_inj (b := 1) (by omega) (by omega) g; omega), if_neg z2, if_neg (by omega)] at hK
          have b9 : w.1 9 (rw8 r a o * 12 + (x - 10)) ≤ 99 := (w9 (x - 10) (by omega)).1
          rw [show (10 : Int32) = nI 10 from rfl, nI_sub (by omega), nI_cl (show x - 10 < 2147483648 by omega), k4 (x - 10) (by omega), nI_le0 (by omega)]
          unfold ccst at hK
          refine ⟨vpI (by omega) (by omega), fun y => ?_, fun y => ?_⟩
          · rw [if_pos y] at hK; exact hK
          · rw [if_neg y] at hK; exact hK
        · have x2 : 2 ≤ x := Nat.le_of_not_lt fun g => nI_ge (b := 2) g (by omega) z
          rw [hgt, i32_lt (by omega), nI_toInt (by omega)] at z3
          rw [if_neg (show ¬ nI x = 0 from fun g => by have := nI_inj (b := 0) (by omega) (by omega) g; omega), if_neg (show ¬ nI x = 1 from fun g => by have := nI_inj (b := 1) (by omega) (by omega) g; omega), if_neg z2, if_pos (by omega)] at hK
          rw [hgt, nI_sub (by omega), nI_cl (show x - 30 < 2147483648 by omega), k5 (x - 30) (by omega)]
          exact ⟨vpI (by omega) (by omega), hK⟩
        · rw [if_neg (by rw [z2]; decide), if_neg (by rw [z2]; decide), if_pos z2] at hK
          exact c_X8_linksTold c.1.1.2.1 ww.2.1 hr ho ha (by omega) hK
        · have x2 : x < 2 := Nat.lt_of_not_le fun g => z (nI_le (a := 2) g (by omega))
          have x1 : x = 1 := by
            rcases (show x = 0 ∨ x = 1 by omega) with g | g
            · exact absurd (by rw [g]; rfl) z0
            · exact g
          subst x1
          exact hK
        · rw [if_pos z0] at hK; exact hK
      · have q' : w.1 7 (rw8 r a o) = 0 := nI_inj (b := 0) (by omega) (by omega) q
        rw [if_pos q'] at hK
        exact hK
    refine c_X8_isRouter ⟨fun q => absurd o1 (jb_0.mp q), fun _ => c_X8_isRouter ⟨fun q => absurd o2 (jb_0.mp q), fun _ => c_X8_isArea ⟨fun q => absurd o3 (jb_0.mp q), fun _ => ⟨fun _ => mid, fun q => ⟨fun _ => mid, fun q2 => ⟨fun _ => mid, fun q3 => ?_⟩⟩⟩⟩⟩⟩
    exfalso
    have g1 := jb_0.mp q
    have g2 := jb_0.mp q2
    have g3 := jb_0.mp q3
    rcases o4 with g | g | g
    · exact g1 g
    · exact g2 g
    · exact g3 g
  · rw [if_neg ok] at hK
    refine c_X8_isRouter ⟨fun _ => hK, fun q1 => c_X8_isRouter ⟨fun _ => hK, fun q2 => c_X8_isArea ⟨fun _ => hK, fun q3 => ⟨fun q4 => absurd ⟨jb_n0.mp q1, jb_n0.mp q2, jb_n0.mp q3, Or.inl (jb_n0.mp q4)⟩ ok, fun _ => ⟨fun q5 => absurd ⟨jb_n0.mp q1, jb_n0.mp q2, jb_n0.mp q3, Or.inr (Or.inl (jb_n0.mp q5))⟩ ok, fun _ => ⟨fun q6 => absurd ⟨jb_n0.mp q1, jb_n0.mp q2, jb_n0.mp q3, Or.inr (Or.inr (jb_n0.mp q6))⟩ ok, fun _ => hK⟩⟩⟩⟩⟩⟩
/-- a route's first hop and area, where it has a cost -/
theorem rtC_way {s : St} {r d c : Nat} (hd : r ≠ d) (h : (rtC s r d).1 = nI c) (hc : c < 9999) : ∃ h a, a < 3 ∧ (rtC s r d).2.1 = hpI h ∧ (rtC s r d).2.2.1 = nI a := by
  unfold rtC at h ⊢
  rw [if_neg (Ne.symm hd)] at h ⊢
  by_cases c2 : (fiP (arS s r) (DS s r) d 3).2 < 3
  · rw [if_pos c2]; exact ⟨_, _, c2, rfl, rfl⟩
  · rw [if_neg c2] at h ⊢
    by_cases c3 : (fcP s (acA s r) (DS s r) r d 3).2.1 < 3
    · rw [if_pos c3]; exact ⟨_, _, c3, rfl, rfl⟩
    · rw [if_neg c3] at h
      exact absurd h.symm (m1_ne (by omega))
theorem rtC_none {s : St} {r d : Nat} (hd : r ≠ d) (h : (rtC s r d).1 = -1) : (rtC s r d).2.1 = -1 := by
  unfold rtC at h ⊢
  rw [if_neg (Ne.symm hd)] at h ⊢
  by_cases c2 : (fiP (arS s r) (DS s r) d 3).2 < 3
  · rw [if_pos c2] at h
    have := (fiP_ok (arS s r) (DS s r) d 3 (by omega)).1
    exact absurd h (m1_ne (by omega))
  · rw [if_neg c2] at h ⊢
    by_cases c3 : (fcP s (acA s r) (DS s r) r d 3).2.1 < 3
    · rw [if_pos c3] at h
      have := fcP_le s (acA s r) (DS s r) r d 3
      exact absurd h (m1_ne (by omega))
    · rw [if_neg c3]
theorem chS_8 {s : St} (wL : WL s) {r h a : Nat} (hh : 8 ≤ h) : ∀ k, k ≤ s 0 0 → chS s r h a k = 12
  | 0, _ => rfl
  | k + 1, hk => by
    have ih := chS_8 (r := r) (a := a) wL hh k (by omega)
    have ho := oth_lt wL (show k < s 0 0 by omega) r
    unfold chS
    rw [if_neg]
    · exact ih
    · intro g
      have := g.1
      unfold fitB at this
      rw [Bool.and_eq_true, Bool.and_eq_true] at this
      have := of_decide_eq_true this.1.2
      omega
theorem c_X8_packet {E : JE} {u : JM} {K : Int32 → JM → Prop}  {a1 a2 a3 : Int32} {w : Wd} (c : XW w u) (ww : NW w.1) (hK : ∀ u', up u u' → XW w u' → K (anPacket w.1 a1 a2 a3) u') : JCi E 7 YX8_packet [.ref 137, .int a1, .int a2, .int a3] K u := by
  refine JCi.ofV (ls := [some (.ref 137), some (.int a1), some (.int a2), some (.int a3), none, none, none, none, none]) (by decide +kernel) (Nat.le_of_ble_eq_true rfl) rfl rfl (g_X8_packet_0  ?_)
  unfold anPacket at hK
  have h12 := ww.1.1
  by_cases ok : rg a1 0 7 ∧ rg a2 0 7 ∧ pkW a3
  · rw [if_pos ok] at hK
    obtain ⟨o1, o2, o3⟩ := ok
    have go : JVi E 7 YX8_packet K 49 [some (.ref 137), some (.int a1), some (.int a2), some (.int a3), some (.int a1), some (.int 0), some (.int 0), some (.int 1), none] [] u := by
      obtain ⟨fr, hf, rfl⟩ := rt_nI o1
      obtain ⟨to, ht, rfl⟩ := rt_nI o2
      rw [nI_cl (show fr < 2147483648 by omega), nI_cl (show to < 2147483648 by omega)] at hK
      -- the answer, once it is told
      have fin : ∀ (how k c : Nat) (p : Nat → Int32) (u' : JM), k ≤ 9 → (∀ j, j < 9 → (j < k → u' 1345 j = p j) ∧ (k ≤ j → p j = -1)) → K (pickT (how, k, c, p) a3) u' → ((a3 < 10 → ((¬ a3 = 0 → ((¬ a3 = 1 → K (nI c) u') ∧ (a3 = 1 → K (nI k) u'))) ∧ (a3 = 0 → K (nI how) u'))) ∧ (¬ a3 < 10 → ((nI k ≤ (a3 - 10) → K (-1) u') ∧ (¬ nI k ≤ (a3 - 10) → vp_in (a3 - 10) 9 ∧ K (u' 1345 (a3 - 10).toNatClampNeg) u')))) := by
        intro how k c p u' hk9 hp h
        unfold pickT at h
        refine ⟨fun q => ⟨fun q0 => ⟨fun q1 => ?_, fun q1 => ?_⟩, fun q0 => ?_⟩, fun q => ?_⟩
        · have q2 : a3 = 2 := by
            clear h hp hK
            simp only [Int32.lt_iff_toInt_lt, Int32.le_iff_toInt_le, ← Int32.toInt_inj, tI_m14, tI_m13, tI_m12, tI_m11, tI_m10, tI_m9, tI_m8, tI_m7, tI_m6, tI_m5, tI_m4, tI_m3, tI_m2, tI_m1, tI_0, tI_1, tI_2, tI_3, tI_4, tI_5, tI_6, tI_7, tI_8, tI_9, tI_10, tI_11, tI_12, tI_13, tI_14, tI_15, tI_16, tI_17, tI_18, tI_19, tI_20, tI_21, tI_22, tI_23, tI_24, tI_25, tI_26, tI_27, tI_28, tI_29, tI_30, tI_31, tI_32, tI_33, tI_34, tI_35, tI_36, tI_37, tI_38, tI_39, tI_40, tI_60, tI_63, tI_80, tI_99, tI_192, tI_400, tI_9999, tI_12345] at *
            omega
          rw [if_neg q0, if_neg q1, if_pos q2] at h; exact h
        · rw [if_neg q0, if_pos q1] at h; exact h
        · rw [if_pos q0] at h; exact h
        · obtain ⟨x, h1, h2, rfl⟩ : ∃ x, 10 ≤ x ∧ x ≤ 18 ∧ a3 = nI x := by
            obtain ⟨x, h1, rfl⟩ := rg_nI (a := a3) (hi := 18) (by decide) (by unfold rg at *; omega)
            rw [show (10 : Int32) = nI 10 from rfl, i32_lt (by omega), nI_toInt (by omega)] at q
            exact ⟨x, by omega, h1, rfl⟩
          rw [if_neg (show ¬ nI x = 0 from fun g => by have := nI_inj (b := 0) (by omega) (by omega) g; omega), if_neg (show ¬ nI x = 1 from fun g => by have := nI_inj (b := 1) (by omega) (by omega) g; omega), if_neg (show ¬ nI x = 2 from fun g => by have := nI_inj (b := 2) (by omega) (by omega) g; omega), nI_cl (by omega)] at h
          obtain ⟨p1, p2⟩ := hp (x - 10) (by omega)
          rw [show (10 : Int32) = nI 10 from rfl, nI_sub h1, nI_cl (show x - 10 < 2147483648 by omega)]
          refine ⟨fun g => ?_, fun g => ⟨vpI (by omega) (by omega), ?_⟩⟩
          · have g' : k ≤ x - 10 := Nat.le_of_not_lt fun z => nI_ge z (by omega) g
            have h' : K (p (x - 10)) u' := h
            rw [p2 g'] at h'; exact h'
          · have g' : x - 10 < k := Nat.lt_of_not_le fun z => g (nI_le z (by omega))
            have h' : K (p (x - 10)) u' := h
            rw [p1 g']; exact h'
      have main : ∀ (m at_ k c : Nat) (p : Nat → Int32) (u' : JM) (how : Nat), m + k = 9 → at_ < 8 → (at_ ≠ to → how = if m = 0 then 2 else 1) → (at_ = to → how = 1) → up u u' → XW w u' → (∀ j, j < 9 → (j < k → u' 1345 j = p j) ∧ (k ≤ j → p j = -1)) → (∀ u', up u u' → XW w u' → K (pickT (trS w.1 to m at_ k c p) a3) u') →
          JVi E 7 YX8_packet K 49 [some (.ref 137), some (.int (nI fr)), some (.int (nI to)), some (.int a3), some (.int (nI at_)), some (.int (nI k)), some (.int (nI c)), some (.int (nI how)), none] [] u' := by
        intro m
        induction m with
        | zero =>
          intro at_ k c p u' how hm ha h1 h2 hu hX hp hK
          obtain rfl : k = 9 := by omega
          have h := hK u' hu hX
          refine g_X8_packet_49 ⟨fun q => ?_, fun q => ⟨fun _ => ?_, fun q2 => ?_⟩⟩
          · have q' : at_ = to := nI_inj (by omega) (by omega) q
            rw [h2 q']
            have et : trS w.1 to 0 at_ 9 c p = (1, 9, c, p) := by show (if at_ = to then 1 else 2, _, _, _) = _; rw [if_pos q']
            rw [et] at h
            exact fin 1 9 c p u' (by omega) hp h
          · have q' : at_ ≠ to := fun g => q (by rw [g])
            have et : trS w.1 to 0 at_ 9 c p = (2, 9, c, p) := by show (if at_ = to then 1 else 2, _, _, _) = _; rw [if_neg q']
            rw [et] at h
            rw [h1 q', if_pos rfl]
            exact fin 2 9 c p u' (by omega) hp h
          · have q' : at_ ≠ to := fun g => q (by rw [g])
            rw [h1 q', if_pos rfl] at q2
            exact absurd q2 (by decide)
        | succ m ih =>
          intro at_ k c p u' how hm ha h1 h2 hu hX hp hK
          refine g_X8_packet_49 ⟨fun q => ?_, fun q => ⟨fun q2 => ?_, fun _ => ?_⟩⟩
          · have q' : at_ = to := nI_inj (by omega) (by omega) q
            rw [h2 q']
            have h := hK u' hu hX
            have et : trS w.1 to (m + 1) at_ k c p = (1, k, c, p) := by
              show (if at_ = to then _ else _) = _
              rw [if_pos q']
            rw [et] at h
            exact fin 1 k c p u' (by omega) hp h
          · have q' : at_ ≠ to := fun g => q (by rw [g])
            rw [h1 q', if_neg (by omega)] at q2
            exact absurd rfl q2
          · have q' : at_ ≠ to := fun g => q (by rw [g])
            rw [h1 q', if_neg (by omega)]
            refine c_X8_tellRoute hX.1.1.1 hX.1.1.2.1 ww.1 ww.2.1 ha ht q' fun u1 q1 t1 => ?_
            have u1u : up u u1 := hu.trans (up_R q1 fun b q => by unfold inWR at q; omega)
            have X1 := hX.t q1 wr_tmp
            have p1 : ∀ j, j < 9 → (j < k → u1 1345 j = p j) ∧ (k ≤ j → p j = -1) := fun j hj => by
              rw [q1.1 1345 (by decide) (by unfold inWR; omega)]; exact hp j hj
            have lost : lnN w.1 at_ to = 12 → ∀ u2, up u u2 → XW w u2 → (∀ j, j < 9 → (j < k → u2 1345 j = p j) ∧ (k ≤ j → p j = -1)) → JVi E 7 YX8_packet K 49 [some (.ref 137), some (.int (nI fr)), some (.int (nI to)), some (.int a3), some (.int (nI at_)), some (.int (nI k)), some (.int (nI c)), some (.int 0), none] [] u2 := by
              intro hl u2 g1 g2 g3
              have h := hK u2 g1 g2
              have et : trS w.1 to (m + 1) at_ k c p = (0, k, c, p) := by
                show (if at_ = to then _ else if _ then _ else _) = _
                rw [if_neg q', if_pos hl]
              rw [et] at h
              exact g_X8_packet_49 ⟨fun z => absurd (nI_inj (by omega) (by omega) z) q', fun _ => ⟨fun _ => fin 0 k c p u2 (by omega) g3 h, fun z => absurd z (by decide)⟩⟩
            obtain ⟨x, x1, x2, x3, x4, x5, -⟩ := t1
            rw [x2, show (9999 : Int32) = nI 9999 from rfl]
            refine ⟨fun z => ?_, fun z => ?_⟩
            · have z' : ¬ x < 9999 := fun g => nI_ge g (by omega) z
              rw [if_neg z'] at x3
              exact lost (by unfold lnN; rw [if_pos (rtC_none q' x3)]) u1 u1u X1 p1
            · have z' : x < 9999 := Nat.lt_of_not_le fun g => z (nI_le g (by omega))
              rw [if_pos z'] at x3
              obtain ⟨h, a, a3', e1, e2⟩ := rtC_way q' x3 z'
              rw [x4, x5, e1, e2]
              refine c_X8_overLink X1.1.1.1 ww.1 ha a3' ?_
              have hlk : chS w.1 at_ h a (w.1 0 0) = lnN w.1 at_ to := by
                unfold lnN
                by_cases h8 : h < 8
                · have eh : hpN w.1 at_ to = h := by unfold hpN; rw [e1, hpI_lt h8, nI_cl (by omega)]
                  have ea : aaN w.1 at_ to = a := by unfold aaN; rw [e2, nI_cl (by omega)]
                  rw [if_neg (by rw [e1, hpI_lt h8]; exact m1_ne (by omega)), eh, ea]
                · rw [if_pos (by rw [e1]; exact if_neg h8)]
                  exact chS_8 ww.1 (by omega) _ (Nat.le_refl _)
              have hlt : lnN w.1 at_ to = 12 ∨ lnN w.1 at_ to < w.1 0 0 := by rw [← hlk]; exact chS_lt w.1 at_ h a (w.1 0 0) h12
              rw [hlk]
              refine ⟨fun y => ?_, fun y => ?_⟩
              · have y' : lnN w.1 at_ to < w.1 0 0 := hlt.resolve_left fun g => y (by rw [g]; rfl)
                have h8 : h < 8 := Nat.lt_of_not_le fun g => by
                  rw [chS_8 ww.1 g _ (Nat.le_refl _)] at hlk
                  omega
                have eh : hpN w.1 at_ to = h := by unfold hpN; rw [e1, hpI_lt h8, nI_cl (by omega)]
                rw [lkI_lt (by omega), nI_cl (show lnN w.1 at_ to < 2147483648 by omega), (prcR X1.1.1.1 ww.1 y' ha).1, nI_add]
                refine ⟨vpI (by omega) (by omega), fun v3 hv3 => ⟨vpI (by omega) (by omega), fun u4 h4 v5 hv5 => ?_⟩⟩
                rw [x4, e1, hpI_lt h8, nI_cl (show k < 2147483648 by omega)] at h4
                have e4 : ∀ b, b ≠ 1345 → u4 b = u1 b := fun b hb => by rw [h4, jw_ne hb]
                have s4 : sR tmp u1 u4 := by rw [h4]; exact sR.rfl.w (by unfold tmp; omega) (by decide)
                rw [x4, e1, hpI_lt h8, nI_1, hv3]
                rw [x4, e1, hpI_lt h8, nI_1] at hv5
                have ev : v5 = nI (if h = to then 1 else if k + 1 = 9 then 2 else 1) := by
                  rw [hv5]
                  by_cases g : h = to
                  · rw [if_pos (by rw [g]), if_pos g]
                  · rw [if_neg (fun z => g (nI_inj (by omega) (by omega) z)), if_neg g]
                    by_cases g2 : k + 1 = 9
                    · rw [if_pos (by rw [g2]; rfl), if_pos g2]; rfl
                    · rw [if_neg (show ¬ nI (k + 1) = 9 from fun z => g2 (nI_inj (b := 9) (by omega) (by omega) z)), if_neg g2]
                have et : trS w.1 to (m + 1) at_ k c p = trS w.1 to m h (k + 1) (c + prc w.1 (lnN w.1 at_ to) at_) (fun j => if j = k then nI h else p j) := by
                  show (if at_ = to then _ else if _ then _ else _) = _
                  rw [if_neg q', if_neg (by omega), eh]
                rw [et] at hK
                rw [ev]
                refine ih h (k + 1) _ _ u4 _ (by omega) h8 (fun g => ?_) (fun g => ?_) (u1u.trans (up_R s4 fun b q => by unfold tmp at q; omega)) (X1.t s4 fun b q => q) (fun j hj => ⟨fun g => ?_, fun g => ?_⟩) hK
                · rw [if_neg g]
                  by_cases g2 : m = 0
                  · rw [if_pos (by omega), if_pos g2]
                  · rw [if_neg (by omega), if_neg g2]
                · rw [if_pos g]
                · rw [h4, jw_at]
                  by_cases g2 : j = k
                  · rw [if_pos g2, if_pos g2]
                  · rw [if_neg g2, if_neg g2]; exact (p1 j hj).1 (by omega)
                · rw [if_neg (by omega)]; exact (p1 j hj).2 (by omega)
              · have y' : lnN w.1 at_ to = 12 := hlt.resolve_right fun g => by rw [lkI_lt (by omega)] at y; exact m1_ne (by omega) y
                exact lost y' u1 u1u X1 p1
      exact main 9 fr 0 0 (fun _ => -1) u 1 (by omega) hf (fun _ => by rw [if_neg (by omega)]) (fun _ => rfl) up.rfl c (fun j hj => ⟨fun g => absurd g (Nat.not_lt_zero j), fun _ => rfl⟩) hK
    refine c_X8_isRouter ⟨fun q => absurd o1 (jb_0.mp q), fun _ => c_X8_isRouter ⟨fun q => absurd o2 (jb_0.mp q), fun _ => ⟨fun _ => go, fun q => ⟨fun _ => go, fun q2 => ?_⟩⟩⟩⟩
    rcases o3 with g | g
    · exact absurd g (jb_0.mp q)
    · exact absurd g (jb_0.mp q2)
  · have hB : K (-2) u := by
      have := hK u up.rfl c
      rwa [if_neg ok] at this
    exact c_X8_isRouter ⟨fun _ => hB, fun q1 => c_X8_isRouter ⟨fun _ => hB, fun q2 => ⟨fun q3 => absurd ⟨jb_n0.mp q1, jb_n0.mp q2, Or.inl (jb_n0.mp q3)⟩ ok, fun _ => ⟨fun q3 => absurd ⟨jb_n0.mp q1, jb_n0.mp q2, Or.inr (jb_n0.mp q3)⟩ ok, fun _ => hB⟩⟩⟩⟩
