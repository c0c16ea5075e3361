/-! one net takes over another -/
theorem c_X0_takeRows {E : JE} {u : JM} {K : JM → Prop} {A : Nat} (hA : isAdv A 192) {B : Nat} (hB : isAdv B 192) (hne : A ≠ B) {n : Nat} (hn : n ≤ 192)
    (hK : ∀ u', same u u' (inAd A) → (∀ i num age cs ms, i < n → RW B u i num age cs ms → RW A u' i num age cs ms) → (∀ k, k < n → u' (A + 1) k = u (B + 1) k ∧ u' (A + 3) k = u (B + 3) k) → K u') : JCu E 1 YX0_takeRows [.ref A, .ref B, .int (nI n)] K u := by
  have hf := isAdv_far hA hB hne
  refine JCu.ofV (ls := [some (.ref A), some (.ref B), some (.int (nI n))]) (by decide +kernel) (Nat.le_of_ble_eq_true rfl) rfl rfl (g_X0_takeRows_0 hA hB ?_)
  rw [show (12 : Int32) = nI 12 from rfl, show (8 : Int32) = nI 8 from rfl, show (0 : Int32) = nI 0 from rfl, nI_mul, nI_mul, nI_cl (show n < 2147483648 by omega), nI_cl (show n * 12 < 2147483648 by omega), nI_cl (show n * 8 < 2147483648 by omega), nI_cl (show 0 < 2147483648 by omega)]
  have z : ¬ nI 0 < nI 0 := by decide
  refine ⟨⟨z, z, nI_nn (by omega), by omega, by omega⟩, fun u1 h1 => ⟨⟨z, z, nI_nn (by omega), by omega, by omega⟩, fun u2 h2 => ⟨⟨z, z, nI_nn (by omega), by omega, by omega⟩, fun u3 h3 => ⟨⟨z, z, nI_nn (by omega), by omega, by omega⟩, fun u4 h4 => ⟨⟨z, z, nI_nn (by omega), by omega, by omega⟩, fun u5 h5 => ?_⟩⟩⟩⟩⟩
  subst h1
  subst h2
  subst h3
  subst h4
  subst h5
  have e1 : ∀ k, k < n → jcp (jcp (jcp (jcp (jcp u (B + 1) 0 (A + 1) 0 n) (B + 2) 0 (A + 2) 0 n) (B + 3) 0 (A + 3) 0 n) (B + 4) 0 (A + 4) 0 (n * 12)) (B + 5) 0 (A + 5) 0 (n * 8) (A + 1) k = u (B + 1) k := fun k hk => by
    rw [jcp_ne (by omega), jcp_ne (by omega), jcp_ne (by omega), jcp_ne (by omega), jcp_at, if_pos (by omega), Nat.zero_add, Nat.sub_zero]
  have e3 : ∀ k, k < n → jcp (jcp (jcp (jcp (jcp u (B + 1) 0 (A + 1) 0 n) (B + 2) 0 (A + 2) 0 n) (B + 3) 0 (A + 3) 0 n) (B + 4) 0 (A + 4) 0 (n * 12)) (B + 5) 0 (A + 5) 0 (n * 8) (A + 3) k = u (B + 3) k := fun k hk => by
    rw [jcp_ne (by omega), jcp_ne (by omega), jcp_at, if_pos (by omega), Nat.zero_add, Nat.sub_zero, jcp_ne (by omega), jcp_ne (by omega)]
  refine hK _ (fun b hb => ?_) (fun i num age cs ms hi hR => ?_) (fun k hk => ⟨e1 k hk, e3 k hk⟩)
  · unfold inAd at hb
    rw [jcp_ne (by omega), jcp_ne (by omega), jcp_ne (by omega), jcp_ne (by omega), jcp_ne (by omega)]
  · obtain ⟨r1, r2, r3, r4, r5⟩ := hR
    refine ⟨by rw [e1 i hi, r1], ?_, by rw [e3 i hi, r3], fun l hl => ?_, fun d hd => ?_⟩
    · rw [jcp_ne (by omega), jcp_ne (by omega), jcp_ne (by omega), jcp_at, if_pos (by omega), Nat.zero_add, Nat.sub_zero, jcp_ne (by omega), r2]
    · rw [jcp_ne (by omega), jcp_at, if_pos (by omega), Nat.zero_add, Nat.sub_zero, jcp_ne (by omega), jcp_ne (by omega), jcp_ne (by omega), r4 l hl]
    · rw [jcp_at, if_pos (by omega), Nat.zero_add, Nat.sub_zero, jcp_ne (by omega), jcp_ne (by omega), jcp_ne (by omega), jcp_ne (by omega), r5 d hd]
theorem net_far {N M : Nat} (hN : isNet N) (hM : isNet M) (hne : N ≠ M) : N + 36 ≤ M ∨ M + 36 ≤ N := by unfold isNet at hN hM; omega
theorem c_X1_takeOver {E : JE} {u : JM} {K : JM → Prop} {N M : Nat} (hN : isNet N) (hM : isNet M) (hne : N ≠ M) {s : St} (hC : CL M s u) (w : WL s)
    (hK : ∀ u', same u u' (fun b => N + 1 ≤ b ∧ b ≤ N + 7) → CL N s u' → K u') : JCu E 1 YX1_takeOver [.ref (N + 1), .ref (M + 1)] K u := by
  have hf := net_far hN hM hne
  obtain ⟨c1, c2, c3⟩ := hC
  have h12 := w.1
  refine JCu.ofV (ls := [some (.ref (N + 1)), some (.ref (M + 1))]) (by decide +kernel) (Nat.le_of_ble_eq_true rfl) rfl rfl (g_X1_takeOver_0 hN hM ?_)
  rw [show (0 : Int32).toNatClampNeg = 0 from cl_0, show (12 : Int32).toNatClampNeg = 12 from cl_12]
  have z : ¬ (0 : Int32) < 0 := by decide
  have z2 : ¬ (12 : Int32) < 0 := by decide
  intro u1 h1
  refine ⟨⟨z, z, z2, by omega, by omega⟩, fun u2 h2 => ⟨⟨z, z, z2, by omega, by omega⟩, fun u3 h3 => ⟨⟨z, z, z2, by omega, by omega⟩, fun u4 h4 => ⟨⟨z, z, z2, by omega, by omega⟩, fun u5 h5 => ⟨⟨z, z, z2, by omega, by omega⟩, fun u6 h6 => ⟨⟨z, z, z2, by omega, by omega, ?_⟩, fun u7 h7 => ?_⟩⟩⟩⟩⟩⟩
  · intro i hi
    subst h1
    subst h2
    subst h3
    subst h4
    subst h5
    subst h6
    rw [jcp_ne (by omega), jcp_ne (by omega), jcp_ne (by omega), jcp_ne (by omega), jcp_ne (by omega), jw_ne (by omega), Nat.zero_add]
    exact c3 i hi
  · subst h1
    subst h2
    subst h3
    subst h4
    subst h5
    subst h6
    subst h7
    refine hK _ (fun b hb => ?_) ⟨?_, fun l hl => ?_, fun l hl => ?_⟩
    · rw [jcp_ne (by omega), jcp_ne (by omega), jcp_ne (by omega), jcp_ne (by omega), jcp_ne (by omega), jcp_ne (by omega), jw_ne (by omega)]
    · rw [jcp_ne (by omega), jcp_ne (by omega), jcp_ne (by omega), jcp_ne (by omega), jcp_ne (by omega), jcp_ne (by omega), jw_at, if_pos rfl, c1]
    · obtain ⟨d1, d2, d3, d4, d5, d6⟩ := c2 l hl
      refine ⟨?_, ?_, ?_, ?_, ?_, ?_⟩
      · rw [jcp_ne (by omega), jcp_ne (by omega), jcp_ne (by omega), jcp_ne (by omega), jcp_ne (by omega), jcp_at, if_pos (by omega), Nat.zero_add, Nat.sub_zero, jw_ne (by omega), d1]
      · rw [jcp_ne (by omega), jcp_ne (by omega), jcp_ne (by omega), jcp_ne (by omega), jcp_at, if_pos (by omega), Nat.zero_add, Nat.sub_zero, jcp_ne (by omega), jw_ne (by omega), d2]
      · rw [jcp_ne (by omega), jcp_ne (by omega), jcp_ne (by omega), jcp_at, if_pos (by omega), Nat.zero_add, Nat.sub_zero, jcp_ne (by omega), jcp_ne (by omega), jw_ne (by omega), d3]
      · rw [jcp_ne (by omega), jcp_ne (by omega), jcp_at, if_pos (by omega), Nat.zero_add, Nat.sub_zero, jcp_ne (by omega), jcp_ne (by omega), jcp_ne (by omega), jw_ne (by omega), d4]
      · rw [jcp_ne (by omega), jcp_at, if_pos (by omega), Nat.zero_add, Nat.sub_zero, jcp_ne (by omega), jcp_ne (by omega), jcp_ne (by omega), jcp_ne (by omega), jw_ne (by omega), d5]
      · rw [jcp_at, if_pos (by omega), Nat.zero_add, Nat.sub_zero, jcp_ne (by omega), jcp_ne (by omega), jcp_ne (by omega), jcp_ne (by omega), jcp_ne (by omega), jw_ne (by omega), d6]
    · rw [jcp_at, if_pos (by omega), Nat.zero_add, Nat.sub_zero, jcp_ne (by omega), jcp_ne (by omega), jcp_ne (by omega), jcp_ne (by omega), jcp_ne (by omega), jw_ne (by omega)]
      exact c3 l hl
