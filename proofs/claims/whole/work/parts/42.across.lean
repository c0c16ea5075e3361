/-! Routes.findAcross -/
/-- cost, area (3: none) and teller of the cheapest way across -/
def fcP (s : St) (A : Nat) (D : Nat → Nat → Nat) (r d : Nat) : Nat → Nat × Nat × Nat
  | 0 => (9999, 3, 8)
  | k + 1 => if A.testBit k = true ∧ (tlP s (D k) r k d 8).1 < (fcP s A D r d k).1 then ((tlP s (D k) r k d 8).1, k, (tlP s (D k) r k d 8).2) else fcP s A D r d k
theorem fcP_le (s : St) (A : Nat) (D : Nat → Nat → Nat) (r d : Nat) : ∀ k, (fcP s A D r d k).1 ≤ 9999
  | 0 => Nat.le_refl _
  | k + 1 => by
    have h := fcP_le s A D r d k
    unfold fcP
    split
    · rename_i c
      show (tlP s (D k) r k d 8).1 ≤ _
      omega
    · exact h
def FC (u : JM) (s : St) (A : Nat) (D H : Nat → Nat → Nat) (r d k : Nat) (u' : JM) : Prop :=
  same u u' (fun b => b = 110 ∨ b = 111 ∨ b = 112 ∨ b = 113) ∧
  (∀ j, u' 110 j = if j = d ∧ (fcP s A D r d k).2.1 < 3 then nI (fcP s A D r d k).1 else u 110 j) ∧
  (∀ j, u' 111 j = if j = d ∧ (fcP s A D r d k).2.1 < 3 then hpI (H (fcP s A D r d k).2.1 (fcP s A D r d k).2.2) else u 111 j) ∧
  (∀ j, u' 112 j = if j = d ∧ (fcP s A D r d k).2.1 < 3 then nI (fcP s A D r d k).2.1 else u 112 j) ∧
  ∀ j, u' 113 j = if j = d ∧ (fcP s A D r d k).2.1 < 3 then nI (fcP s A D r d k).2.2 else u 113 j
theorem c_X4_findAcross {E : JE} {u0 : JM} {K : JM → Prop} {N : Nat} (hN : isNet N) {s : St} (cK : CK N s u0) (wK : WK s) {A r d : Nat} (hA : A < 8) (hr : r < 8) (hd : d < 8) {D H : Nat → Nat → Nat} (hT : ∀ a, a < 3 → A.testBit a = true → PT (115 + 4 * a) (D a) (H a) u0) (hD : ∀ a y, D a y ≤ 9999)
    (hK : ∀ u', FC u0 s A D H r d 3 u' → K u') : JCu E 3 YX4_findAcross [.ref 109, .ref N, .int (nI r), .int (nI A), .int (nI d)] K u0 := by
  have hNb : N ≤ 73 := by unfold isNet at hN; omega
  refine JCu.ofV (ls := [some (.ref 109), some (.ref N), some (.int (nI r)), some (.int (nI A)), some (.int (nI d)), none, none, none, none]) (by decide +kernel) (Nat.le_of_ble_eq_true rfl) rfl rfl (g_X4_findAcross_0 hN ?_)
  have main : ∀ (m k : Nat) (u : JM), m + k = 3 → FC u0 s A D H r d k u → JVu E 3 YX4_findAcross K 8 [some (.ref 109), some (.ref N), some (.int (nI r)), some (.int (nI A)), some (.int (nI d)), some (.int (nI (fcP s A D r d k).1)), some (.int (nI k)), none, none] [] u := by
    intro m
    induction m with
    | zero =>
      intro k u hm hF
      obtain rfl : k = 3 := by omega
      exact g_X4_findAcross_8 hN ⟨fun _ => hK u hF, fun c => absurd (show (3 : Int32) ≤ nI 3 by decide) c⟩
    | succ m ih =>
      intro k u hm hF
      have hk : k < 3 := by omega
      have p1 := fcP_le s A D r d k
      have cK' := cK.congr (u' := u) fun j _ _ => hF.1 _ (by omega)
      have es : fcP s A D r d (k + 1) = if A.testBit k = true ∧ (tlP s (D k) r k d 8).1 < (fcP s A D r d k).1 then ((tlP s (D k) r k d 8).1, k, (tlP s (D k) r k d 8).2) else fcP s A D r d k := rfl
      have skip : ¬ (A.testBit k = true ∧ (tlP s (D k) r k d 8).1 < (fcP s A D r d k).1) → JVu E 3 YX4_findAcross K 8 [some (.ref 109), some (.ref N), some (.int (nI r)), some (.int (nI A)), some (.int (nI d)), some (.int (nI (fcP s A D r d k).1)), some (.int (nI (k + 1))), none, none] [] u := by
        intro c
        have e2 : fcP s A D r d (k + 1) = fcP s A D r d k := by rw [es, if_neg c]
        have h := ih (k + 1) u (by omega) (by unfold FC; rw [e2]; exact hF)
        rw [e2] at h
        exact h
      refine g_X4_findAcross_8 hN ⟨fun c => absurd c (nI_ge (a := k) (b := 3) (by omega) (by omega)), fun _ => ?_⟩
      rw [nI_tst (by omega) (by omega), nI_1, nI_cl (show k < 2147483648 by omega)]
      refine ⟨fun c => skip fun q => by rw [q.1] at c; exact absurd c (by decide), fun c => ⟨vpI hk (by omega), ?_⟩⟩
      have c : A.testBit k = true := by simpa using c
      have t0 : PT (115 + 4 * k) (D k) (H k) u := fun y hy => by
        rw [hF.1 _ (by omega), hF.1 _ (by omega)]
        exact hT k hk c y hy
      refine c_X2_teller hN (isPaths_R hk) cK' wK (fun y hy => (t0 y hy).1) (hD k) hr hk hd ?_
      obtain ⟨t1, t2⟩ := tlP_ok s (D k) r k d 8 (Nat.le_refl 8)
      rcases t2 with ⟨e1, e2⟩ | ⟨e1, e2, e3, e4⟩
      · rw [e1, hpI_8]
        exact ⟨fun _ => skip fun q => by have := q.2; omega, fun q => absurd rfl q⟩
      · generalize hb : tlP s (D k) r k d 8 = bp at *
        have hrow := rw8_lt hr hk e1
        have w10 := ((wK _ hrow).2 (by omega)).2.2 d hd
        have w10 : s 10 (rw8 r k bp.2 * 8 + d) ≤ 9999 := w10
        have g10 := ((cK' _ hrow).2.2 (by omega)).2.2 d hd
        have hDb := hD k bp.2
        rw [hpI_lt e1, row_nI, row_div hrow, rw8_o e1, nI_cl (show bp.2 < 2147483648 by omega), show (8 : Int32) = nI 8 from rfl, nI_mul, nI_add, nI_cl (show rw8 r k bp.2 * 8 + d < 2147483648 by omega), g10, (t0 _ e1).1, (t0 _ e1).2, nI_add, ← e4]
        refine ⟨fun q => absurd q (m1_ne (by omega)), fun _ => ⟨vpI e1 (by omega), vpI (by omega) (by omega), ?_⟩⟩
        intro v hv
        subst hv
        refine ⟨fun c2 => skip fun q => nI_ge q.2 (by omega) c2, fun c2 => ⟨vpI e1 (by omega), ?_⟩⟩
        have c3 : bp.1 < (fcP s A D r d k).1 := Nat.lt_of_not_le fun q => c2 (nI_le q (by omega))
        have e5 : fcP s A D r d (k + 1) = (bp.1, k, bp.2) := by rw [es, if_pos ⟨c, c3⟩]
        refine c_X4_take hd fun u2 s2 r0 r1 r2 => ?_
        rw [nI_cl (show d < 2147483648 by omega)]
        refine ⟨vpI hd (by omega), fun u4 h4 => ?_⟩
        have h := ih (k + 1) u4 (by omega) ?_
        · rw [e5] at h
          exact h
        · unfold FC
          rw [e5]
          have s4 : same u u4 (fun b => b = 110 ∨ b = 111 ∨ b = 112 ∨ b = 113) := by
            rw [h4]
            exact (s2.mono fun b q => by omega).jw (by omega)
          refine ⟨hF.1.trans s4, fun j => ?_, fun j => ?_, fun j => ?_, fun j => ?_⟩
          · rw [h4, jw_ne (by omega), r0, hF.2.1]
            by_cases e : j = d
            · rw [if_pos e, if_pos ⟨e, hk⟩]
            · rw [if_neg e, if_neg (fun q => e q.1), if_neg (fun q => e q.1)]
          · rw [h4, jw_ne (by omega), r1, hF.2.2.1]
            by_cases e : j = d
            · rw [if_pos e, if_pos ⟨e, hk⟩]
            · rw [if_neg e, if_neg (fun q => e q.1), if_neg (fun q => e q.1)]
          · rw [h4, jw_ne (by omega), r2, hF.2.2.2.1]
            by_cases e : j = d
            · rw [if_pos e, if_pos ⟨e, hk⟩]
            · rw [if_neg e, if_neg (fun q => e q.1), if_neg (fun q => e q.1)]
          · rw [h4, jw_at, s2 113 (by omega), hF.2.2.2.2]
            by_cases e : j = d
            · rw [if_pos e, if_pos ⟨e, hk⟩]
            · rw [if_neg e, if_neg (fun q => e q.1), if_neg (fun q => e q.1)]
  refine main 3 0 u0 (by omega) ⟨same.rfl, fun j => ?_, fun j => ?_, fun j => ?_, fun j => ?_⟩
  · rw [if_neg (fun q => absurd q.2 (show ¬ 3 < 3 from Nat.lt_irrefl 3))]
  · rw [if_neg (fun q => absurd q.2 (show ¬ 3 < 3 from Nat.lt_irrefl 3))]
  · rw [if_neg (fun q => absurd q.2 (show ¬ 3 < 3 from Nat.lt_irrefl 3))]
  · rw [if_neg (fun q => absurd q.2 (show ¬ 3 < 3 from Nat.lt_irrefl 3))]
