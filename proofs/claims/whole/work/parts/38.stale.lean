/-! counts of what is known and what is stale -/
def stB (s : St) (row : Nat) : Bool := (List.range (s 0 0)).any fun l => decide (0 < s 9 (row * 12 + l)) && (decide (s 6 l = 0) || !decide (prc s l (row % 8) = s 9 (row * 12 + l)))
theorem c_X2_isStale {E : JE} {u : JM} {K : Int32 → JM → Prop} {N : Nat} (hN : isNet N) {s : St} (cL : CL N s u) (cK : CK N s u) (wL : WL s) (wK : WK s) {row : Nat} (hrow : row < 192) (hp : 0 < s 7 row)
    (hK : K (jb (stB s row = true)) u) : JCi E 2 YX2_isStale [.ref N, .int (nI row)] K u := by
  have h12 := wL.1
  obtain ⟨k1, k2, k3⟩ := cK row hrow
  obtain ⟨-, k4, -⟩ := k3 hp
  obtain ⟨-, w2⟩ := wK row hrow
  obtain ⟨-, w3, -⟩ := w2 hp
  refine JCi.ofV (ls := [some (.ref N), some (.int (nI row)), none, none, none]) (by decide +kernel) (Nat.le_of_ble_eq_true rfl) rfl rfl (g_X2_isStale_0 hN ?_)
  intro i2 e2
  rw [row_div hrow] at e2
  subst e2
  have main : ∀ (m k : Nat), m + k = s 0 0 → ((List.range k).any fun l => decide (0 < s 9 (row * 12 + l)) && (decide (s 6 l = 0) || !decide (prc s l (row % 8) = s 9 (row * 12 + l)))) = false → JVi E 2 YX2_isStale K 7 [some (.ref N), some (.int (nI row)), some (.int (nI (row % 8))), some (.int (nI k)), none] [] u := by
    intro m
    induction m with
    | zero =>
      intro k hm h
      obtain rfl : k = s 0 0 := by omega
      refine g_X2_isStale_7 hN ⟨fun _ => ?_, fun c => ?_⟩
      · rw [jb_f (by unfold stB; rw [h]; decide)] at hK
        exact hK
      · rw [cL.1] at c
        exact absurd (nI_le (Nat.le_refl _) (by omega)) c
    | succ m ih =>
      intro k hm h
      have hk : k < s 0 0 := by omega
      have c0 : ¬ u (N + 1) 0 ≤ nI k := by rw [cL.1]; exact nI_ge hk (by omega)
      have w6 := (wL.2 k hk).2.2.2.2.2.2
      have e9 := (w3 k (by omega)).1
      have hl := lks_test (s := s) (row := row) (l := k) (by omega)
      have h4096 := lks_lt s row
      have hit : (decide (0 < s 9 (row * 12 + k)) && (decide (s 6 k = 0) || !decide (prc s k (row % 8) = s 9 (row * 12 + k)))) = true → K 1 u := by
        intro c
        have : stB s row = true := by
          unfold stB
          rw [List.any_eq_true]
          exact ⟨k, List.mem_range.mpr hk, c⟩
        rw [jb_t this] at hK
        exact hK
      have next : (decide (0 < s 9 (row * 12 + k)) && (decide (s 6 k = 0) || !decide (prc s k (row % 8) = s 9 (row * 12 + k)))) = false → JVi E 2 YX2_isStale K 7 [some (.ref N), some (.int (nI row)), some (.int (nI (row % 8))), some (.int (nI (k + 1))), none] [] u := by
        intro c
        refine ih (k + 1) (by omega) ?_
        rw [List.range_succ, List.any_append, h]
        simp only [List.any_cons, List.any_nil, c, Bool.or_false]
      refine g_X2_isStale_7 hN ⟨fun c => absurd c c0, fun _ => ?_⟩
      refine p_X0_tellsLink (isAdv_k hN) (vpI hrow (by omega)) ?_
      rw [nI_cl (show row < 2147483648 by omega), show u (N + 9 + 3) row = _ from k2, nI_1]
      refine ⟨fun c => ?_, fun c => ?_⟩
      · rw [jb_0, nI_tst (by omega) (show k < 31 by omega), hl] at c
        refine next ?_
        have : ¬ 0 < s 9 (row * 12 + k) := fun q => c (by simp; exact ⟨by omega, by omega⟩)
        rw [decide_eq_false this]
        rfl
      · rw [jb_n0, nI_tst (by omega) (show k < 31 by omega), hl] at c
        have c9 : 0 < s 9 (row * 12 + k) := by
          have c' : decide (s 7 row ≠ 0 ∧ 0 < s 9 (row * 12 + k)) = true := by
            cases hx : decide (s 7 row ≠ 0 ∧ 0 < s 9 (row * 12 + k)) with
            | true => rfl
            | false => exact absurd hx c
          exact (of_decide_eq_true c').2
        rw [show (12 : Int32) = nI 12 from rfl, nI_mul, nI_add, nI_cl (show row * 12 + k < 2147483648 by omega), nI_cl (show k < 2147483648 by omega), k4 k (by omega)]
        refine ⟨vpI (by omega) (by omega), ?_⟩
        intro i4 e4
        rw [(prc_cell cL wL hk (show row % 8 < 8 by omega)).1, (cL.2.1 k hk).2.2.2.2.2]
        have hpr := (prc_cell cL wL hk (show row % 8 < 8 by omega)).2
        have e9 : s 9 (row * 12 + k) ≤ 99 := e9
        have ei : i4 = nI (s 9 (row * 12 + k)) := by rw [e4]; unfold ccst; rw [if_neg (by omega)]
        rw [ei]
        refine ⟨vpI (by omega) (by omega), fun c1 => hit ?_, fun c1 => ⟨fun c2 => next ?_, fun c2 => hit ?_⟩⟩
        · have : s 6 k = 0 := nI_inj (by omega) (by omega) (c1.trans (show (0 : Int32) = nI 0 from rfl))
          simp [c9, this]
        · have q1 : s 6 k ≠ 0 := fun q => c1 (by rw [q]; rfl)
          have q2 : prc s k (row % 8) = s 9 (row * 12 + k) := nI_inj (by omega) (by omega) c2
          simp [q1, q2]
        · have q2 : prc s k (row % 8) ≠ s 9 (row * 12 + k) := fun q => c2 (by rw [q])
          simp [c9, q2]
  exact main (s 0 0) 0 (by omega) rfl
