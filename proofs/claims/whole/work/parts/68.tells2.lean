/-! the reference: telling anew -/
def inTl : Nat → Prop := fun b => (143 ≤ b ∧ b ≤ 532) ∨ (1341 ≤ b ∧ b ≤ 1345)
theorem QF.tmp {s : St} {u u' : JM} {A : Nat → Prop} (h : QF s u) (e : sR A u u') (hA : ∀ b, A b → 146 < b) : QF s u' := h.congr fun b h1 h2 => e.1 b (by omega) fun q => by have := hA b q; omega
theorem c_X8_tells {E : JE} {u0 : JM} {K : JM → Prop} {s : St} (hL : QL s u0) (hQ : QK s u0) (hF : QF s u0) (wL : WL s) (wK : WK s) {r a : Nat} (hr : r < 8) (ha : a < 3) (hT : s 7 (rw8 r a r) + 1 < 1000000000)
    (k : ∀ u, sR inTl u0 u → QK (tnS s r a) u → QF (tnS s r a) u → K u) : JCu E 7 YX8_tells [.ref 137, .int (nI r), .int (nI a)] K u0 := by
  have h12 := wL.1
  have hp := pl_lt hr hr ha
  have hrow := rw8_lt hr ha hr
  have tA : ∀ b, tmp b → 532 < b := fun b q => by unfold tmp at q; omega
  have tT : ∀ b, tmp b → inTl b := fun b q => by unfold tmp at q; unfold inTl; omega
  refine JCu.ofV (ls := [some (.ref 137), some (.int (nI r)), some (.int (nI a)), none, none]) (by decide +kernel) (Nat.le_of_ble_eq_true rfl) rfl rfl (g_X8_tells_0 ?_)
  have wk7 := (wK _ hrow).1
  -- the row is written
  have wr : tdS s r a = putS s (rw8 r a r) (s 7 (rw8 r a r) + 1) 0 (nwC s r a) (nwS s r a) 0 → tnS s r a = tdS s r a → ∀ u, sR tmp u0 u → (∀ l, l < 12 → u 1343 l = nI (nwC s r a l)) → (∀ d, d < 8 → u 1344 d = nI (nwS s r a d)) → ∀ u1, u1 = jw u 143 (pl r r a) (nI (s 7 (rw8 r a r) + 1)) → ∀ u2, u2 = jw u1 144 (pl r r a) 0 → ∀ u3, u3 = jw u2 145 (pl r r a) 1 → ∀ u4, u4 = jw u3 146 (pl r r a) 0 →
      (¬ (0 : Int32) < 0 ∧ ¬ (0 : Int32) < 0 ∧ ¬ (12 : Int32) < 0 ∧ (0 : Int32).toNatClampNeg + (12 : Int32).toNatClampNeg ≤ 12 ∧ (0 : Int32).toNatClampNeg + (12 : Int32).toNatClampNeg ≤ 12) ∧
      ∀ u5, u5 = jcp u4 1343 (0 : Int32).toNatClampNeg (148 + pl r r a) (0 : Int32).toNatClampNeg (12 : Int32).toNatClampNeg →
      (¬ (0 : Int32) < 0 ∧ ¬ (0 : Int32) < 0 ∧ ¬ (8 : Int32) < 0 ∧ (0 : Int32).toNatClampNeg + (8 : Int32).toNatClampNeg ≤ 8 ∧ (0 : Int32).toNatClampNeg + (8 : Int32).toNatClampNeg ≤ 8) ∧
      ∀ u6, u6 = jcp u5 1344 (0 : Int32).toNatClampNeg (341 + pl r r a) (0 : Int32).toNatClampNeg (8 : Int32).toNatClampNeg → K u6 := by
    intro et en u hs h3 h4 u1 e1 u2 e2 u3 e3 u4 e4
    refine ⟨by decide, fun u5 e5 => ⟨by decide, fun u6 e6 => ?_⟩⟩
    rw [cl_0, cl_12] at e5
    rw [cl_0, cl_8] at e6
    have o4 : ∀ b, b ≠ 143 → b ≠ 144 → b ≠ 145 → b ≠ 146 → u4 b = u b := fun b b1 b2 b3 b4 => by rw [e4, jw_ne b4, e3, jw_ne b3, e2, jw_ne b2, e1, jw_ne b1]
    have o6 : ∀ b, b ≠ 148 + pl r r a → b ≠ 341 + pl r r a → u6 b = u4 b := fun b b1 b2 => by rw [e6, jcp_ne b2, e5, jcp_ne b1]
    obtain ⟨r1, r2⟩ := QP.put (u' := u6) (num := s 7 (rw8 r a r) + 1) (age := 0) (cb := 0) (cs := nwC s r a) (ms := nwS s r a) (hQ.tmp hs tA) (hF.tmp hs fun b q => by have := tA b q; omega) hr hr ha
      (fun j => by rw [o6 143 (by omega) (by omega), e4, jw_ne (by decide), e3, jw_ne (by decide), e2, jw_ne (by decide), e1, jw_at])
      (fun j => by rw [o6 144 (by omega) (by omega), e4, jw_ne (by decide), e3, jw_ne (by decide), e2, jw_at, e1, jw_ne (by decide)]; rfl)
      (fun j => by rw [o6 145 (by omega) (by omega), e4, jw_ne (by decide), e3, jw_at, e2, jw_ne (by decide), e1, jw_ne (by decide)])
      (fun j => by rw [o6 146 (by omega) (by omega), e4, jw_at, e3, jw_ne (by decide), e2, jw_ne (by decide), e1, jw_ne (by decide)]; rfl)
      (fun l hl => by rw [e6, jcp_ne (by omega), e5, jcp_at, if_pos (by omega), o4 _ (by omega) (by omega) (by omega) (by omega)]; rw [show 0 + (l - 0) = l by omega]; exact h3 l hl)
      (fun d hd => by rw [e6, jcp_at, if_pos (by omega), e5, jcp_ne (by omega), o4 _ (by omega) (by omega) (by omega) (by omega)]; rw [show 0 + (d - 0) = d by omega]; exact h4 d hd)
      (fun b b1 b2 b3 b4 => by rw [o6 b b3 b4, o4 b (by omega) (by omega) (by omega) (by omega)])
    rw [en, et] at k
    refine k u6 ⟨fun b b1 b2 => ?_, fun f hf => ?_⟩ r1 r2
    · unfold inTl at b2
      rw [o6 b (by omega) (by omega), o4 b (by omega) (by omega) (by omega) (by omega)]
      exact hs.1 b b1 fun q => b2 (by unfold tmp at q; omega)
    · rw [o6 137 (by omega) (by omega), o4 137 (by omega) (by omega) (by omega) (by omega)]
      exact hs.2 f hf
  -- sums
  have sums : tnS s r a = tdS s r a → ∀ (m j : Nat) (u : JM), m + j = 8 → sR tmp u0 u → (∀ l, l < 12 → u 1343 l = nI (nwC s r a l)) → (∀ d, d < j → u 1344 d = nI (nwS s r a d)) → JVu E 7 YX8_tells K 107 [some (.ref 137), some (.int (nI r)), some (.int (nI a)), some (.int (nI (pl r r a))), some (.int (nI j))] [] u := by
    intro en m
    induction m with
    | zero =>
      intro j u hm hs h3 h4
      obtain rfl : j = 8 := by omega
      have hQu := hQ.tmp hs tA
      obtain ⟨k1, k2⟩ := hQu r r a hr hr ha
      refine g_X8_tells_107 ⟨fun _ => ?_, fun q => absurd (show (8 : Int32) ≤ nI 8 by decide) q⟩
      rw [nI_cl (show pl r r a < 2147483648 by omega), k1, nI_1, nI_le0 (by omega)]
      refine ⟨vpI hp (by omega), fun c => ?_, fun c => ⟨fun c2 => ?_, fun c2 => ?_⟩⟩
      · exact wr (if_pos (Or.inl c)) en u hs h3 h4
      · obtain ⟨k3, -, -⟩ := k2 (by omega)
        have w8 := ((wK _ hrow).2 (by omega)).1
        rw [k3] at c2
        have c2' : 20 ≤ s 8 (rw8 r a r) := Nat.le_of_not_lt fun g => nI_ge (b := 20) g (by omega) c2
        exact wr (if_pos (Or.inr (Or.inl c2'))) en u hs h3 h4
      · obtain ⟨k3, k4, k5⟩ := k2 (by omega)
        obtain ⟨w8, w9⟩ := (wK _ hrow).2 (by omega)
        rw [k3] at c2
        have c2' : ¬ 20 ≤ s 8 (rw8 r a r) := fun g => c2 (nI_le (a := 20) g (by omega))
        refine c_X8_isOther hp k4 k5 h3 h4 (fun l hl => Nat.le_trans (w9.1 l hl).1 (by decide)) (fun d hd => w9.2 d hd) (fun l hl => Nat.le_trans (nwC_le wL hr).1 (by decide)) (fun d hd => nwS_le) ?_
        by_cases c3 : tellsB (fun l => s 9 (rw8 r a r * 12 + l)) (fun d => s 10 (rw8 r a r * 8 + d)) (nwC s r a) (nwS s r a) = true
        · rw [if_pos c3]
          refine ⟨fun q => absurd rfl q, fun _ => ?_⟩
          have et : tdS s r a = s := if_neg fun g => by
            rcases g with g | g | g
            · exact c g
            · exact c2' g
            · rw [c3] at g; exact absurd g (by decide)
          rw [en, et] at k
          exact k u (hs.mono tT) hQu (hF.tmp hs fun b q => by have := tA b q; omega)
        · rw [if_neg c3]
          rw [k1, nI_1]
          exact ⟨fun _ => wr (if_pos (Or.inr (Or.inr (by simpa using c3)))) en u hs h3 h4, fun q => absurd q (by decide)⟩
    | succ m ih =>
      intro j u hm hs h3 h4
      refine g_X8_tells_107 ⟨fun q => absurd q (nI_ge (a := j) (b := 8) (by omega) (by omega)), fun _ => ?_⟩
      refine c_X8_sumOf (hL.tmp hs fun b q => by have := tA b q; omega) (hQ.tmp hs tA) wL wK hr (by omega) ha fun u1 q1 => ⟨vpI (by omega) (by omega), fun u2 h2 => ?_⟩
      rw [nI_cl (by omega)] at h2
      rw [nI_1]
      refine ih (j + 1) u2 (by omega) ?_ (fun l hl => ?_) (fun d hd => ?_)
      · rw [h2]
        exact (hs.trans (q1.mono fun b q => by unfold inWR at q; unfold tmp; omega)).w (by unfold tmp; omega) (by decide)
      · rw [h2, jw_ne (by decide), q1.1 1343 (by decide) (by unfold inWR; omega)]; exact h3 l hl
      · rw [h2, jw_at]
        by_cases e : d = j
        · rw [if_pos e, e]
        · rw [if_neg e, q1.1 1344 (by decide) (by unfold inWR; omega)]; exact h4 d (by omega)
  -- costs
  have costs : tnS s r a = tdS s r a → ∀ (m j : Nat) (u : JM), m + j = 12 → sR tmp u0 u → (∀ l, l < j → u 1343 l = nI (nwC s r a l)) → JVu E 7 YX8_tells K 32 [some (.ref 137), some (.int (nI r)), some (.int (nI a)), some (.int (nI (pl r r a))), some (.int (nI j))] [] u := by
    intro en m
    induction m with
    | zero =>
      intro j u hm hs h3
      obtain rfl : j = 12 := by omega
      exact g_X8_tells_32 ⟨fun _ => sums en 8 0 u (by omega) hs h3 (fun d hd => absurd hd (Nat.not_lt_zero d)), fun q => absurd (show (12 : Int32) ≤ nI 12 by decide) q⟩
    | succ m ih =>
      intro j u hm hs h3
      have hLu := hL.tmp hs fun b q => by have := tA b q; omega
      have jv : vp_in (nI j) 12 := vpI (by omega) (by omega)
      refine g_X8_tells_32 ⟨fun q => absurd q (nI_ge (a := j) (b := 12) (by omega) (by omega)), fun _ => ⟨⟨fun _ => trivial, fun _ => ⟨jv, fun _ => trivial, fun _ => ⟨jv, fun _ => trivial, fun _ => ⟨jv, fun _ => trivial, fun _ => ⟨jv, trivial⟩⟩⟩⟩⟩, fun v hv => ⟨jv, fun u2 h2 => ?_⟩⟩⟩
      have ev : v = nI (nwC s r a j) := by
        rw [hv, nI_cl (show j < 2147483648 by omega), hLu.1]
        unfold nwC
        by_cases c : j < s 0 0
        · rw [if_neg (nI_ge c (by omega))]
          have h3j := (wL.2 j c).2.2.2.1
          rw [(hLu.2 j c).2.2.1, (prcR hLu wL c hr).1]
          by_cases c3 : s 3 j = a
          · rw [if_pos (by rw [c3]), up_ifR hLu wL c hr]
            by_cases c4 : upB s j r = true
            · rw [if_pos c4, if_pos ⟨c, c3, c4⟩]
            · rw [if_neg c4, if_neg (fun g => c4 g.2.2)]; rfl
          · rw [if_neg (fun g => c3 (nI_inj (by omega) (by omega) g)), if_neg (fun g => c3 g.2.1)]; rfl
        · rw [if_pos (nI_le (Nat.le_of_not_lt c) (by omega)), if_neg (fun g => c g.1)]; rfl
      rw [nI_cl (by omega), ev] at h2
      rw [nI_1]
      refine ih (j + 1) u2 (by omega) (by rw [h2]; exact hs.w (by unfold tmp; omega) (by decide)) fun l hl => ?_
      rw [h2, jw_at]
      by_cases e : l = j
      · rw [if_pos e, e]
      · rw [if_neg e]; exact h3 l (by omega)
  obtain ⟨k1, -⟩ := hQ r r a hr hr ha
  intro v hv
  rw [pl_nI] at hv
  rw [hv, nI_cl (show pl r r a < 2147483648 by omega), k1]
  refine ⟨vpI hp (by omega), fun c => ?_, fun c => ?_⟩
  · have c' : s 7 (rw8 r a r) ≠ 0 := fun g => c (by rw [g]; rfl)
    exact costs (if_pos (Or.inl c')) 12 0 u0 (by omega) sR.rfl fun l hl => absurd hl (Nat.not_lt_zero l)
  · have c' : s 7 (rw8 r a r) = 0 := nI_inj (b := 0) (by omega) (by omega) c
    have hA := arS_lt s r
    refine c_X8_areasOf hL wL hr ?_
    rw [nI_tst (by omega) (by omega)]
    refine ⟨fun c2 => costs (if_pos (Or.inr (by simpa using c2))) 12 0 u0 (by omega) sR.rfl fun l hl => absurd hl (Nat.not_lt_zero l), fun c2 => ?_⟩
    have en : tnS s r a = s := if_neg fun g => by
      rcases g with g | g
      · exact g c'
      · rw [c2] at g; exact absurd g (by decide)
    rw [en] at k
    exact k u0 sR.rfl hQ hF
