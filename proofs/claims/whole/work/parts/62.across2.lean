/-! the reference: across, tellRoute, costNow -/
/-- what lies across, if it is less than what there is -/
def QX (s : St) (x d a j : Nat) (c : Nat) (h ar b : Int32) (u : JM) : Prop :=
  if (tlP s (DS s x a) x a d j).1 < c then QR (tlP s (DS s x a) x a d j).1 (hpI (HS s x a (tlP s (DS s x a) x a d j).2)) (nI a) (nI (tlP s (DS s x a) x a d j).2) u else QR c h ar b u
theorem QR.c {c : Nat} {h ar b : Int32} {u u' : JM} (q : QR c h ar b u) (e : ∀ f, u' 137 f = u 137 f) : QR c h ar b u' := by
  unfold QR at *
  rw [e, e, e, e]
  exact q
theorem QX.c {s : St} {x d a j c : Nat} {h ar b : Int32} {u u' : JM} (q : QX s x d a j c h ar b u) (e : ∀ f, u' 137 f = u 137 f) : QX s x d a j c h ar b u' := by
  unfold QX at *
  split
  · rename_i g; rw [if_pos g] at q; exact q.c e
  · rename_i g; rw [if_neg g] at q; exact q.c e
theorem c_X8_across {E : JE} {u0 : JM} {K : JM → Prop} {s : St} (hL : QL s u0) (hK : QK s u0) (wL : WL s) (wK : WK s) {x d a : Nat} (hx : x < 8) (hd : d < 8) (ha : a < 3) {c : Nat} (hc : c ≤ 9999) {h ar b : Int32} (h0 : QR c h ar b u0)
    (k : ∀ u, sR inWR u0 u → QX s x d a 8 c h ar b u → K u) : JCu E 5 YX8_across [.ref 137, .int (nI x), .int (nI d), .int (nI a)] K u0 := by
  have qK : ∀ {u}, sR inWR u0 u → QK s u := fun h => hK.tmp h fun b q => by unfold inWR at q; omega
  have hDl : ∀ y, DS s x a y ≤ 9999 := (dD_is (Ew_ok wL wK hx ha) x).2.1
  refine JCu.ofV (ls := [some (.ref 137), some (.int (nI x)), some (.int (nI d)), some (.int (nI a)), none, none]) (by decide +kernel) (Nat.le_of_ble_eq_true rfl) rfl rfl (g_X8_across_0 ?_)
  refine c_X8_tellWithin hL hK wL wK hx ha fun u1 q1 hD1 hH1 => ?_
  have main : ∀ (m j : Nat) (u : JM), m + j = 8 → sR inWR u0 u → QD (DS s x a) u → QH (HS s x a) u → QX s x d a j c h ar b u → JVu E 5 YX8_across K 9 [some (.ref 137), some (.int (nI x)), some (.int (nI d)), some (.int (nI a)), some (.int (nI j)), none] [] u := by
    intro m
    induction m with
    | zero =>
      intro j u hm hs hD hH hQ
      obtain rfl : j = 8 := by omega
      exact g_X8_across_9 ⟨fun _ => k u hs hQ, fun q => absurd (show (8 : Int32) ≤ nI 8 by decide) q⟩
    | succ m ih =>
      intro j u hm hs hD hH hQ
      have hj : j < 8 := by omega
      have hDj := hDl j
      have ht := tlP_ok s (DS s x a) x a d j (by omega)
      have es : tlP s (DS s x a) x a d (j + 1) = if j ≠ x ∧ s 7 (rw8 x a j) ≠ 0 ∧ DS s x a j + s 10 (rw8 x a j * 8 + d) < (tlP s (DS s x a) x a d j).1 then (DS s x a j + s 10 (rw8 x a j * 8 + d), j) else tlP s (DS s x a) x a d j := rfl
      -- what is there now
      obtain ⟨c', hc', hlt, e25⟩ : ∃ c', c' ≤ 9999 ∧ (c' = if (tlP s (DS s x a) x a d j).1 < c then (tlP s (DS s x a) x a d j).1 else c) ∧ u 137 25 = nI c' := by
        unfold QX at hQ
        by_cases g : (tlP s (DS s x a) x a d j).1 < c
        · rw [if_pos g] at hQ; exact ⟨_, ht.1, (if_pos g).symm, hQ.1⟩
        · rw [if_neg g] at hQ; exact ⟨_, hc, (if_neg g).symm, hQ.1⟩
      have stay : ¬ (j ≠ x ∧ s 7 (rw8 x a j) ≠ 0 ∧ DS s x a j + s 10 (rw8 x a j * 8 + d) < c') → JVu E 5 YX8_across K 9 [some (.ref 137), some (.int (nI x)), some (.int (nI d)), some (.int (nI a)), some (.int (nI (j + 1))), none] [] u := fun g => by
        refine ih (j + 1) u (by omega) hs hD hH ?_
        unfold QX at hQ ⊢
        rw [es]
        by_cases z : j ≠ x ∧ s 7 (rw8 x a j) ≠ 0 ∧ DS s x a j + s 10 (rw8 x a j * 8 + d) < (tlP s (DS s x a) x a d j).1
        · rw [if_pos z]
          have z2 : ¬ DS s x a j + s 10 (rw8 x a j * 8 + d) < c' := fun y => g ⟨z.1, z.2.1, y⟩
          by_cases y : (tlP s (DS s x a) x a d j).1 < c
          · rw [if_pos y] at hlt; omega
          · rw [if_neg y] at hlt hQ
            show if DS s x a j + s 10 (rw8 x a j * 8 + d) < c then _ else _
            rw [if_neg (by omega)]
            exact hQ
        · rw [if_neg z]; exact hQ
      refine g_X8_across_9 ⟨fun q => absurd q (nI_ge (a := j) (b := 8) (by omega) (by omega)), fun _ v hv => ?_⟩
      rw [pl_nI] at hv
      have hp := pl_lt hx hj ha
      obtain ⟨k1, k2⟩ := qK hs x j a hx hj ha
      have hn := num_lt wK hx hj ha
      rw [hv, nI_cl (show pl x j a < 2147483648 by omega), nI_cl (show d < 2147483648 by omega), nI_cl (show j < 2147483648 by omega), nI_1, k1, hD j hj, e25, nI_eq (a := j) (by omega) (by omega)]
      refine ⟨fun q => stay fun g => g.1 q, fun q => ⟨vpI hp (by omega), fun q2 => stay fun g => g.2.1 (nI_inj (b := 0) (by omega) (by omega) q2), fun q2 => ⟨vpI hd (by omega), ?_⟩⟩⟩
      have n0 : 0 < s 7 (rw8 x a j) := Nat.pos_of_ne_zero fun g => q2 (by rw [g]; rfl)
      have e10 := (k2 n0).2.2 d hd
      have b10 := ((wK _ (rw8_lt hx ha hj)).2 n0).2.2 d hd
      rw [e10, nI_add]
      have v10 : s 10 (rw8 x a j * 8 + d) ≤ 9999 := b10
      refine ⟨fun q3 => stay fun g => ?_, fun q3 => ⟨vpI hj (by omega), fun q4 => stay fun g => ?_, fun q4 => ⟨fun q5 u2 h2 u3 h3 u4 h4 u5 h5 => ?_, fun q5 => stay fun g => ?_⟩⟩⟩
      · have := nI_inj (b := 9999) (by omega) (by omega) q3
        omega
      · have := nI_inj (b := 9999) (by omega) (by omega) q4
        omega
      · rw [i32_lt (by omega), nI_toInt (by omega)] at q5
        have e1342 : u2 1342 j = hpI (HS s x a j) := by rw [h2, jw_ne (by decide)]; exact hH j hj
        rw [e1342] at h3
        have e : ∀ b', b' ≠ 137 → u5 b' = u b' := fun b' hb => by rw [h5, jw_ne hb, h4, jw_ne hb, h3, jw_ne hb, h2, jw_ne hb]
        refine ih (j + 1) u5 (by omega) (by rw [h5, h4, h3, h2]; exact (((hs.f (by decide)).f (by decide)).f (by decide)).f (by decide)) (fun y hy => by rw [e 1341 (by decide)]; exact hD y hy) (fun y hy => by rw [e 1342 (by decide)]; exact hH y hy) ?_
        have z : j ≠ x ∧ s 7 (rw8 x a j) ≠ 0 ∧ DS s x a j + s 10 (rw8 x a j * 8 + d) < (tlP s (DS s x a) x a d j).1 := ⟨q, by omega, by
          by_cases y : (tlP s (DS s x a) x a d j).1 < c
          · rw [if_pos y] at hlt; omega
          · rw [if_neg y] at hlt; omega⟩
        unfold QX
        rw [es, if_pos z]
        show if DS s x a j + s 10 (rw8 x a j * 8 + d) < c then QR _ _ _ _ _ else _
        rw [if_pos (by
          by_cases y : (tlP s (DS s x a) x a d j).1 < c
          · rw [if_pos y] at hlt; omega
          · rw [if_neg y] at hlt; omega)]
        refine ⟨?_, ?_, ?_, ?_⟩
        · rw [h5, jw_at, if_neg (by decide), h4, jw_at, if_neg (by decide), h3, jw_at, if_neg (by decide), h2, jw_at, if_pos rfl]
        · rw [h5, jw_at, if_neg (by decide), h4, jw_at, if_neg (by decide), h3, jw_at, if_pos rfl]
        · rw [h5, jw_at, if_neg (by decide), h4, jw_at, if_pos rfl]
        · rw [h5, jw_at, if_pos rfl]
      · exact q5 (by rw [i32_lt (by omega), nI_toInt (by omega)]; omega)
  refine main 8 0 u1 (by omega) (q1.sR (by unfold inW; omega)) hD1 hH1 ?_
  unfold QX
  rw [if_neg (show ¬ (tlP s (DS s x a) x a d 0).1 < c from fun g => by have e : (tlP s (DS s x a) x a d 0).1 = 9999 := rfl; omega)]
  exact h0.c fun f => by rw [q1 137 (by unfold inW; omega)]
/-- a route's cells -/
def QT (s : St) (x d : Nat) (u : JM) : Prop := ∃ c, c ≤ 9999 ∧ u 137 25 = nI c ∧ (rtC s x d).1 = (if c < 9999 then nI c else -1) ∧ u 137 26 = (rtC s x d).2.1 ∧ u 137 27 = (rtC s x d).2.2.1 ∧ u 137 28 = (rtC s x d).2.2.2
def QC (s : St) (x d k : Nat) (A : Nat) (u : JM) : Prop := QR (fcP s A (DS s x) x d k).1 (if (fcP s A (DS s x) x d k).2.1 < 3 then hpI (HS s x (fcP s A (DS s x) x d k).2.1 (fcP s A (DS s x) x d k).2.2) else -1) (if (fcP s A (DS s x) x d k).2.1 < 3 then nI (fcP s A (DS s x) x d k).2.1 else -1) (if (fcP s A (DS s x) x d k).2.1 < 3 then nI (fcP s A (DS s x) x d k).2.2 else -1) u
theorem fiP_lt (A : Nat) (D : Nat → Nat → Nat) (d : Nat) : ∀ k, k ≤ 3 → ((fiP A D d k).2 < 3 ↔ (fiP A D d k).1 < 9999)
  | 0, _ => by show (3 < 3) ↔ (9999 < 9999); omega
  | k + 1, h => by
    have ih := fiP_lt A D d k (by omega)
    have h1 := (fiP_ok A D d k (by omega)).1
    unfold fiP
    split
    · rename_i c
      show k < 3 ↔ D k d < 9999
      omega
    · exact ih
theorem fcP_lt (s : St) (A : Nat) (D : Nat → Nat → Nat) (r d : Nat) : ∀ k, k ≤ 3 → ((fcP s A D r d k).2.1 < 3 ↔ (fcP s A D r d k).1 < 9999)
  | 0, _ => by show (3 < 3) ↔ (9999 < 9999); omega
  | k + 1, h => by
    have ih := fcP_lt s A D r d k (by omega)
    have h1 := fcP_le s A D r d k
    unfold fcP
    split
    · rename_i c
      show k < 3 ↔ (tlP s (D k) r k d 8).1 < 9999
      omega
    · exact ih
theorem c_X8_tellRoute {E : JE} {u0 : JM} {K : JM → Prop} {s : St} (hL : QL s u0) (hK : QK s u0) (wL : WL s) (wK : WK s) {x d : Nat} (hx : x < 8) (hd : d < 8) (hxd : x ≠ d)
    (k : ∀ u, sR inWR u0 u → QT s x d u → K u) : JCu E 6 YX8_tellRoute [.ref 137, .int (nI x), .int (nI d)] K u0 := by
  have hA := arS_lt s x
  have qL : ∀ {u}, sR inWR u0 u → QL s u := fun h => hL.tmp h fun b q => by unfold inWR at q; omega
  have qK : ∀ {u}, sR inWR u0 u → QK s u := fun h => hK.tmp h fun b q => by unfold inWR at q; omega
  have er : rtC s x d = if (fiP (arS s x) (DS s x) d 3).2 < 3 then (nI (fiP (arS s x) (DS s x) d 3).1, hpI (HS s x (fiP (arS s x) (DS s x) d 3).2 d), nI (fiP (arS s x) (DS s x) d 3).2, -1)
    else if (fcP s (acA s x) (DS s x) x d 3).2.1 < 3 then (nI (fcP s (acA s x) (DS s x) x d 3).1, hpI (HS s x (fcP s (acA s x) (DS s x) x d 3).2.1 (fcP s (acA s x) (DS s x) x d 3).2.2), nI (fcP s (acA s x) (DS s x) x d 3).2.1, nI (fcP s (acA s x) (DS s x) x d 3).2.2)
    else (-1, -1, -1, -1) := if_neg (Ne.symm hxd)
  refine JCu.ofV (ls := [some (.ref 137), some (.int (nI x)), some (.int (nI d)), none, none]) (by decide +kernel) (Nat.le_of_ble_eq_true rfl) rfl rfl (g_X8_tellRoute_0 ?_)
  refine c_X8_noRoute fun u1 q1 r1 => ?_
  have s1 : sR inWR u0 u1 := q1.mono fun b q => q.elim
  refine c_X8_inside (qL s1) (qK s1) wL wK hx hd r1 fun u2 q2 r2 => ?_
  have s2 : sR inWR u0 u2 := s1.trans q2
  have f1 := (fiP_ok (arS s x) (DS s x) d 3 (by omega)).1
  have f2 := fiP_lt (arS s x) (DS s x) d 3 (by omega)
  have e25 := r2.1
  have main : ∀ A, A = acA s x → A < 8 → ¬ (fiP (arS s x) (DS s x) d 3).2 < 3 → ∀ (m j : Nat) (u : JM), m + j = 3 → sR inWR u0 u → QC s x d j A u → JVu E 6 YX8_tellRoute K 42 [some (.ref 137), some (.int (nI x)), some (.int (nI d)), some (.int (nI A)), some (.int (nI j))] [] u := by
    intro A eA hA8 hno m
    induction m with
    | zero =>
      intro j u hm hs hQ
      obtain rfl : j = 3 := by omega
      refine g_X8_tellRoute_42 ⟨fun _ => k u hs ?_, fun q => absurd (show (3 : Int32) ≤ nI 3 by decide) q⟩
      have g1 := fcP_le s A (DS s x) x d 3
      have g2 := fcP_lt s A (DS s x) x d 3 (by omega)
      rw [if_neg hno, ← eA] at er
      unfold QC at hQ
      by_cases z : (fcP s A (DS s x) x d 3).2.1 < 3
      · rw [if_pos z, if_pos z, if_pos z] at hQ
        rw [if_pos z] at er
        refine ⟨_, g1, hQ.1, ?_, ?_, ?_, ?_⟩
        · rw [er, if_pos (g2.mp z)]
        · rw [er]; exact hQ.2.1
        · rw [er]; exact hQ.2.2.1
        · rw [er]; exact hQ.2.2.2
      · rw [if_neg z, if_neg z, if_neg z] at hQ
        rw [if_neg z] at er
        refine ⟨_, g1, hQ.1, ?_, ?_, ?_, ?_⟩
        · rw [er, if_neg (fun y => z (g2.mpr y))]
        · rw [er]; exact hQ.2.1
        · rw [er]; exact hQ.2.2.1
        · rw [er]; exact hQ.2.2.2
    | succ m ih =>
      intro j u hm hs hQ
      have hj : j < 3 := by omega
      have g1 := fcP_le s A (DS s x) x d j
      have es : fcP s A (DS s x) x d (j + 1) = if A.testBit j = true ∧ (tlP s (DS s x j) x j d 8).1 < (fcP s A (DS s x) x d j).1 then ((tlP s (DS s x j) x j d 8).1, j, (tlP s (DS s x j) x j d 8).2) else fcP s A (DS s x) x d j := rfl
      refine g_X8_tellRoute_42 ⟨fun q => absurd q (nI_ge (a := j) (b := 3) (by omega) (by omega)), fun _ => ?_⟩
      rw [nI_tst1 (by omega) (by omega), nI_1]
      refine ⟨fun q => ?_, fun q => ?_⟩
      · refine ih (j + 1) u (by omega) hs ?_
        unfold QC
        rw [es, if_neg (fun g => q g.1)]
        exact hQ
      · refine c_X8_across (qL hs) (qK hs) wL wK hx hd hj g1 hQ fun u3 q3 r3 => ?_
        refine ih (j + 1) u3 (by omega) (hs.trans q3) ?_
        unfold QX at r3
        unfold QC
        rw [es]
        by_cases z : (tlP s (DS s x j) x j d 8).1 < (fcP s A (DS s x) x d j).1
        · rw [if_pos z] at r3
          rw [if_pos ⟨q, z⟩, if_pos hj, if_pos hj, if_pos hj]
          exact r3
        · rw [if_neg z] at r3
          rw [if_neg (fun g => z g.2)]
          exact r3
  rw [e25, show (9999 : Int32) = nI 9999 from rfl]
  refine ⟨fun q => ?_, fun q => ?_⟩
  · have hno : ¬ (fiP (arS s x) (DS s x) d 3).2 < 3 := fun z => nI_ge (f2.mp z) (by omega) q
    have start : ∀ A, QC s x d 0 A u2 := fun A => by
      have r2' := r2
      unfold QI at r2'
      rw [if_neg hno, if_neg hno] at r2'
      have e9 : (fiP (arS s x) (DS s x) d 3).1 = 9999 := by
        have : ¬ (fiP (arS s x) (DS s x) d 3).1 < 9999 := fun z => hno (f2.mpr z)
        omega
      rw [e9] at r2'
      exact r2'
    refine c_X8_isBorder (qL s2) wL hx ⟨fun q3 => ?_, fun q3 => ?_⟩
    · have g := jb_0.mp q3
      refine c_X8_areasOf (qL s2) wL hx ?_
      exact main (arS s x) (by unfold acA; rw [if_neg g]) hA hno 3 0 u2 (by omega) s2 (start _)
    · have g := jb_n0.mp q3
      exact main 1 (by unfold acA; rw [if_pos g]) (by decide) hno 3 0 u2 (by omega) s2 (start _)
  · have z : (fiP (arS s x) (DS s x) d 3).2 < 3 := f2.mpr (Nat.lt_of_not_le fun g => q (nI_le g (by omega)))
    refine k u2 s2 ?_
    unfold QI at r2
    rw [if_pos z, if_pos z] at r2
    rw [if_pos z] at er
    refine ⟨_, f1, r2.1, ?_, ?_, ?_, ?_⟩
    · rw [er, if_pos (f2.mp z)]
    · rw [er]; exact r2.2.1
    · rw [er]; exact r2.2.2.1
    · rw [er]; exact r2.2.2.2
