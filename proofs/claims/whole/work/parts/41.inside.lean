/-! Routes.take, findInside -/
theorem c_X4_take {E : JE} {u : JM} {K : JM → Prop} {d : Nat} {c h a : Int32} (hd : d < 8)
    (hK : ∀ u', same u u' (fun b => b = 110 ∨ b = 111 ∨ b = 112) → (∀ k, u' 110 k = if k = d then c else u 110 k) → (∀ k, u' 111 k = if k = d then h else u 111 k) → (∀ k, u' 112 k = if k = d then a else u 112 k) → K u') : JCu E 1 YX4_take [.ref 109, .int (nI d), .int c, .int h, .int a] K u := by
  refine JCu.ofV (ls := [some (.ref 109), some (.int (nI d)), some (.int c), some (.int h), some (.int a)]) (by decide +kernel) (Nat.le_of_ble_eq_true rfl) rfl rfl (g_X4_take_0 ?_)
  rw [nI_cl (show d < 2147483648 by omega)]
  refine ⟨vpI hd (by omega), fun u1 h1 u2 h2 u3 h3 => hK u3 ?_ (fun k => ?_) (fun k => ?_) (fun k => ?_)⟩
  · rw [h3, h2, h1]
    exact ((same.rfl.jw (Or.inl rfl)).jw (Or.inr (Or.inl rfl))).jw (Or.inr (Or.inr rfl))
  · rw [h3, jw_ne (by omega), h2, jw_ne (by omega), h1, jw_at]
  · rw [h3, jw_ne (by omega), h2, jw_at, h1, jw_ne (by omega)]
  · rw [h3, jw_at, h2, jw_ne (by omega), h1, jw_ne (by omega)]
/-- the area of the cheapest way inside (3: none), and its cost -/
def fiP (A : Nat) (D : Nat → Nat → Nat) (d : Nat) : Nat → Nat × Nat
  | 0 => (9999, 3)
  | k + 1 => if A.testBit k = true ∧ D k d < (fiP A D d k).1 then (D k d, k) else fiP A D d k
theorem fiP_ok (A : Nat) (D : Nat → Nat → Nat) (d : Nat) : ∀ k, k ≤ 3 → (fiP A D d k).1 ≤ 9999 ∧ (((fiP A D d k).2 = 3 ∧ (fiP A D d k).1 = 9999) ∨ ((fiP A D d k).2 < k ∧ A.testBit (fiP A D d k).2 = true ∧ (fiP A D d k).1 = D (fiP A D d k).2 d))
  | 0, _ => ⟨Nat.le_refl _, Or.inl ⟨rfl, rfl⟩⟩
  | k + 1, h => by
    obtain ⟨h1, h2⟩ := fiP_ok A D d k (by omega)
    unfold fiP
    split
    · rename_i c
      exact ⟨by show D k d ≤ _; omega, Or.inr ⟨Nat.lt_succ_self k, c.1, rfl⟩⟩
    · exact ⟨h1, h2.imp id fun q => ⟨by omega, q.2⟩⟩
/-- the cells of a way inside: as before, where there is none -/
def FI (u : JM) (A : Nat) (D H : Nat → Nat → Nat) (d k : Nat) (u' : JM) : Prop :=
  same u u' (fun b => b = 110 ∨ b = 111 ∨ b = 112) ∧
  (∀ j, u' 110 j = if j = d ∧ (fiP A D d k).2 < 3 then nI (fiP A D d k).1 else u 110 j) ∧
  (∀ j, u' 111 j = if j = d ∧ (fiP A D d k).2 < 3 then hpI (H (fiP A D d k).2 d) else u 111 j) ∧
  ∀ j, u' 112 j = if j = d ∧ (fiP A D d k).2 < 3 then nI (fiP A D d k).2 else u 112 j
theorem c_X4_findInside {E : JE} {u0 : JM} {K : JM → Prop} {A d : Nat} (hA : A < 8) (hd : d < 8) {D H : Nat → Nat → Nat} (hT : ∀ a, a < 3 → A.testBit a = true → PT (115 + 4 * a) (D a) (H a) u0) (hD : ∀ a y, D a y ≤ 9999)
    (hK : ∀ u', FI u0 A D H d 3 u' → K u') : JCu E 2 YX4_findInside [.ref 109, .int (nI A), .int (nI d)] K u0 := by
  refine JCu.ofV (ls := [some (.ref 109), some (.int (nI A)), some (.int (nI d)), none, none]) (by decide +kernel) (Nat.le_of_ble_eq_true rfl) rfl rfl (g_X4_findInside_0 ?_)
  have main : ∀ (m k : Nat) (u : JM), m + k = 3 → FI u0 A D H d k u → JVu E 2 YX4_findInside K 7 [some (.ref 109), some (.int (nI A)), some (.int (nI d)), some (.int (nI (fiP A D d k).1)), some (.int (nI k))] [] u := by
    intro m
    induction m with
    | zero =>
      intro k u hm hF
      obtain rfl : k = 3 := by omega
      exact g_X4_findInside_7 ⟨fun _ => hK u hF, fun c => absurd (show (3 : Int32) ≤ nI 3 by decide) c⟩
    | succ m ih =>
      intro k u hm hF
      have hk : k < 3 := by omega
      obtain ⟨p1, p2⟩ := fiP_ok A D d k (by omega)
      have es : fiP A D d (k + 1) = if A.testBit k = true ∧ D k d < (fiP A D d k).1 then (D k d, k) else fiP A D d k := rfl
      have skip : ¬ (A.testBit k = true ∧ D k d < (fiP A D d k).1) → JVu E 2 YX4_findInside K 7 [some (.ref 109), some (.int (nI A)), some (.int (nI d)), some (.int (nI (fiP A D d k).1)), some (.int (nI (k + 1)))] [] u := by
        intro c
        have e2 : fiP A D d (k + 1) = fiP A D d k := by rw [es, if_neg c]
        have h := ih (k + 1) u (by omega) (by unfold FI; rw [e2]; exact hF)
        rw [e2] at h
        exact h
      refine g_X4_findInside_7 ⟨fun c => absurd c (nI_ge (a := k) (b := 3) (by omega) (by omega)), fun _ => ?_⟩
      rw [nI_tst (by omega) (by omega), nI_1, nI_cl (show k < 2147483648 by omega), nI_cl (show d < 2147483648 by omega)]
      refine ⟨fun c => skip fun q => by rw [q.1] at c; exact absurd c (by decide), fun c => ⟨vpI hk (by omega), vpI hd (by omega), ?_⟩⟩
      have c : A.testBit k = true := by simpa using c
      obtain ⟨t1, t2⟩ := hT k hk c d hd
      have t1' : u (115 + 4 * k + 1) d = nI (D k d) := by rw [hF.1 _ (by omega)]; exact t1
      have t2' : u (115 + 4 * k + 2) d = hpI (H k d) := by rw [hF.1 _ (by omega)]; exact t2
      have hDk := hD k d
      rw [t1', t2']
      refine ⟨fun c2 => skip fun q => nI_ge q.2 (by omega) c2, fun c2 => ?_⟩
      have c3 : D k d < (fiP A D d k).1 := Nat.lt_of_not_le fun q => c2 (nI_le q (by omega))
      intro v hv
      subst hv
      have e2 : fiP A D d (k + 1) = (D k d, k) := by rw [es, if_pos ⟨c, c3⟩]
      refine c_X4_take hd fun u2 s2 r0 r1 r2 => ?_
      have h := ih (k + 1) u2 (by omega) ?_
      · rw [e2] at h
        exact h
      · unfold FI
        rw [e2]
        refine ⟨hF.1.trans s2, fun j => ?_, fun j => ?_, fun j => ?_⟩
        · rw [r0, hF.2.1]
          by_cases e : j = d
          · rw [if_pos e, if_pos ⟨e, hk⟩]
          · rw [if_neg e, if_neg (fun q => e q.1), if_neg (fun q => e q.1)]
        · rw [r1, hF.2.2.1]
          by_cases e : j = d
          · rw [if_pos e, if_pos ⟨e, hk⟩]
          · rw [if_neg e, if_neg (fun q => e q.1), if_neg (fun q => e q.1)]
        · rw [r2, hF.2.2.2]
          by_cases e : j = d
          · rw [if_pos e, if_pos ⟨e, hk⟩]
          · rw [if_neg e, if_neg (fun q => e q.1), if_neg (fun q => e q.1)]
  refine main 3 0 u0 (by omega) ⟨same.rfl, fun j => ?_, fun j => ?_, fun j => ?_⟩
  · rw [if_neg (fun q => absurd q.2 (show ¬ 3 < 3 from Nat.lt_irrefl 3))]
  · rw [if_neg (fun q => absurd q.2 (show ¬ 3 < 3 from Nat.lt_irrefl 3))]
  · rw [if_neg (fun q => absurd q.2 (show ¬ 3 < 3 from Nat.lt_irrefl 3))]
