/-! the reference: routes -/
def QR (c : Nat) (h ar b : Int32) (u : JM) : Prop := u 137 25 = nI c ∧ u 137 26 = h ∧ u 137 27 = ar ∧ u 137 28 = b
def inWR : Nat → Prop := fun b => b = 1341 ∨ b = 1342
theorem c_X8_noRoute {E : JE} {u0 : JM} {K : JM → Prop} (k : ∀ u, sR (fun _ => False) u0 u → QR 9999 (-1) (-1) (-1) u → K u) : JCu E 1 YX8_noRoute [.ref 137] K u0 := by
  refine JCu.ofV (ls := [some (.ref 137)]) (by decide +kernel) (Nat.le_of_ble_eq_true rfl) rfl rfl (g_X8_noRoute_0 ?_)
  intro u1 h1 u2 h2 u3 h3 u4 h4
  refine k u4 (by rw [h4, h3, h2, h1]; exact (((sR.rfl.f (by decide)).f (by decide)).f (by decide)).f (by decide)) ⟨?_, ?_, ?_, ?_⟩
  · rw [h4, jw_at, if_neg (by decide), h3, jw_at, if_neg (by decide), h2, jw_at, if_neg (by decide), h1, jw_at, if_pos rfl]; rfl
  · rw [h4, jw_at, if_neg (by decide), h3, jw_at, if_neg (by decide), h2, jw_at, if_pos rfl]
  · rw [h4, jw_at, if_neg (by decide), h3, jw_at, if_pos rfl]
  · rw [h4, jw_at, if_pos rfl]
/-- what lies inside, so far -/
def QI (s : St) (x d k : Nat) (H : Nat → Nat → Nat) (D : Nat → Nat → Nat) (u : JM) : Prop := QR (fiP (arS s x) D d k).1 (if (fiP (arS s x) D d k).2 < 3 then hpI (H (fiP (arS s x) D d k).2 d) else -1) (if (fiP (arS s x) D d k).2 < 3 then nI (fiP (arS s x) D d k).2 else -1) (-1) u
theorem c_X8_inside {E : JE} {u0 : JM} {K : JM → Prop} {s : St} (hL : QL s u0) (hK : QK s u0) (wL : WL s) (wK : WK s) {x d : Nat} (hx : x < 8) (hd : d < 8) (h0 : QR 9999 (-1) (-1) (-1) u0)
    (k : ∀ u, sR inWR u0 u → QI s x d 3 (HS s x) (DS s x) u → K u) : JCu E 5 YX8_inside [.ref 137, .int (nI x), .int (nI d)] K u0 := by
  have hA := arS_lt s x
  have qL : ∀ {u}, sR inWR u0 u → QL s u := fun h => hL.tmp h fun b q => by unfold inWR at q; omega
  have qK : ∀ {u}, sR inWR u0 u → QK s u := fun h => hK.tmp h fun b q => by unfold inWR at q; omega
  refine JCu.ofV (ls := [some (.ref 137), some (.int (nI x)), some (.int (nI d)), none, none]) (by decide +kernel) (Nat.le_of_ble_eq_true rfl) rfl rfl (g_X8_inside_0 ?_)
  refine c_X8_areasOf hL wL hx ?_
  have main : ∀ (m j : Nat) (u : JM), m + j = 3 → sR inWR u0 u → QI s x d j (HS s x) (DS s x) u → JVu E 5 YX8_inside K 9 [some (.ref 137), some (.int (nI x)), some (.int (nI d)), some (.int (nI (arS s x))), some (.int (nI j))] [] u := by
    intro m
    induction m with
    | zero =>
      intro j u hm hs hQ
      obtain rfl : j = 3 := by omega
      exact g_X8_inside_9 ⟨fun _ => k u hs hQ, fun q => absurd (show (3 : Int32) ≤ nI 3 by decide) q⟩
    | succ m ih =>
      intro j u hm hs hQ
      have hj : j < 3 := by omega
      have hDd : DS s x j d ≤ 9999 := (dD_is (Ew_ok wL wK hx hj) x).2.1 d
      have hf := (fiP_ok (arS s x) (DS s x) d j (by omega)).1
      have es : fiP (arS s x) (DS s x) d (j + 1) = if (arS s x).testBit j = true ∧ DS s x j d < (fiP (arS s x) (DS s x) d j).1 then (DS s x j d, j) else fiP (arS s x) (DS s x) d j := rfl
      have stay : ∀ u1, ¬ ((arS s x).testBit j = true ∧ DS s x j d < (fiP (arS s x) (DS s x) d j).1) → sR inWR u0 u1 → QI s x d j (HS s x) (DS s x) u1 → JVu E 5 YX8_inside K 9 [some (.ref 137), some (.int (nI x)), some (.int (nI d)), some (.int (nI (arS s x))), some (.int (nI (j + 1)))] [] u1 := fun u1 c hs1 q1 => by
        refine ih (j + 1) u1 (by omega) hs1 ?_
        unfold QI
        rw [es, if_neg c]
        exact q1
      refine g_X8_inside_9 ⟨fun q => absurd q (nI_ge (a := j) (b := 3) (by omega) (by omega)), fun _ => ?_⟩
      rw [nI_tst (by omega) (by omega), nI_1]
      refine ⟨fun q => ?_, fun q => stay u (fun g => by rw [q] at g; exact absurd g.1 (by decide)) hs hQ⟩
      have qt : (arS s x).testBit j = true := by simpa using q
      refine c_X8_tellWithin (qL hs) (qK hs) wL wK hx hj fun u1 q1 hD hH => ⟨vpI hd (by omega), ?_⟩
      have s1 : sR inWR u0 u1 := hs.trans (q1.sR (by unfold inW; omega))
      have e7 : ∀ f, u1 137 f = u 137 f := fun f => by rw [q1 137 (by unfold inW; omega)]
      have hQ1 : QI s x d j (HS s x) (DS s x) u1 := by
        unfold QI QR at hQ ⊢
        rw [e7, e7, e7, e7]
        exact hQ
      rw [nI_cl (show d < 2147483648 by omega), hD d hd, hQ1.1, i32_lt (by omega), nI_toInt (by omega)]
      refine ⟨fun q2 u2 h2 u3 h3 u4 h4 => ?_, fun q2 => stay u1 (fun g => q2 (by omega)) s1 hQ1⟩
      refine ih (j + 1) u4 (by omega) (by rw [h4, h3, h2]; exact ((s1.f (by decide)).f (by decide)).f (by decide)) ?_
      have hc : (arS s x).testBit j = true ∧ DS s x j d < (fiP (arS s x) (DS s x) d j).1 := ⟨qt, by omega⟩
      have e1342 : u2 1342 d = hpI (HS s x j d) := by rw [h2, jw_ne (by decide)]; exact hH d hd
      unfold QI
      rw [es, if_pos hc, if_pos hj, if_pos hj]
      rw [e1342] at h3
      refine ⟨?_, ?_, ?_, ?_⟩
      · rw [h4, jw_at, if_neg (by decide), h3, jw_at, if_neg (by decide), h2, jw_at, if_pos rfl]
      · rw [h4, jw_at, if_neg (by decide), h3, jw_at, if_pos rfl]
      · rw [h4, jw_at, if_pos rfl]
      · rw [h4, jw_at, if_neg (by decide), h3, jw_at, if_neg (by decide), h2, jw_at, if_neg (by decide)]
        exact hQ1.2.2.2
  exact main 3 0 u0 (by omega) sR.rfl h0
