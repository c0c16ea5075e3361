/-! counts, over a router's rows and over all -/
def knS (s : St) (r : Nat) : Nat := cntP 24 fun j => decide (s 7 (r * 24 + j) ≠ 0)
def slS (s : St) (r : Nat) : Nat := cntP 24 fun j => decide (s 7 (r * 24 + j) ≠ 0) && stB s (r * 24 + j)
def sumTo (f : Nat → Nat) : Nat → Nat
  | 0 => 0
  | k + 1 => sumTo f k + f k
theorem row0 {r : Nat} (hr : r < 8) : (nI r * 3 + 0) * 8 + 0 = nI (r * 24) ∧ ((nI r + 1) * 3 + 0) * 8 + 0 = nI (r * 24 + 24) := by
  have h : ((List.range 8).all fun r => decide ((nI r * 3 + 0) * 8 + 0 = nI (r * 24) ∧ ((nI r + 1) * 3 + 0) * 8 + 0 = nI (r * 24 + 24))) = true := by decide +kernel
  exact of_decide_eq_true (List.all_eq_true.mp h r (List.mem_range.mpr hr))
theorem c_X2_knownTo {E : JE} {u : JM} {K : Int32 → JM → Prop} {N : Nat} (hN : isNet N) {s : St} (cK : CK N s u) (wK : WK s) {r : Nat} (hr : r < 8) (hK : K (nI (knS s r)) u) : JCi E 2 YX2_knownTo [.ref N, .int (nI r)] K u := by
  refine JCi.ofV (ls := [some (.ref N), some (.int (nI r)), none, none]) (by decide +kernel) (Nat.le_of_ble_eq_true rfl) rfl rfl (g_X2_knownTo_0 hN ?_)
  intro i3 e3
  rw [(row0 hr).1] at e3
  subst e3
  have main : ∀ (m k : Nat), m + k = 24 → JVi E 2 YX2_knownTo K 9 [some (.ref N), some (.int (nI r)), some (.int (nI (cntP k fun j => decide (s 7 (r * 24 + j) ≠ 0)))), some (.int (nI (r * 24 + k)))] [] u := by
    intro m
    induction m with
    | zero =>
      intro k hm
      obtain rfl : k = 24 := by omega
      refine g_X2_knownTo_9 hN ?_
      rw [(row0 hr).2]
      exact ⟨fun _ => hK, fun c => absurd (nI_le (Nat.le_refl _) (by omega)) c⟩
    | succ m ih =>
      intro k hm
      have h := ih (k + 1) (by omega)
      refine g_X2_knownTo_9 hN ?_
      have hrow : r * 24 + k < 192 := by omega
      have w7 := (wK _ hrow).1
      rw [(row0 hr).2, nI_cl (show r * 24 + k < 2147483648 by omega), (cK _ hrow).1, nI_1]
      refine ⟨fun c => absurd c (nI_ge (by omega) (by omega)), fun _ => ⟨vpI hrow (by omega), ?_⟩⟩
      intro v hv
      by_cases c : s 7 (r * 24 + k) = 0
      · rw [if_pos (by rw [c]; rfl)] at hv
        rw [show cntP (k + 1) (fun j => decide (s 7 (r * 24 + j) ≠ 0)) = cntP k (fun j => decide (s 7 (r * 24 + j) ≠ 0)) by simp [cntP, c]] at h
        rw [hv, show (0 : Int32) = nI 0 from rfl, nI_add, Nat.add_zero]
        exact h
      · rw [if_neg (fun q => c (nI_inj (by omega) (by omega) (q.trans (show (0 : Int32) = nI 0 from rfl))))] at hv
        rw [show cntP (k + 1) (fun j => decide (s 7 (r * 24 + j) ≠ 0)) = cntP k (fun j => decide (s 7 (r * 24 + j) ≠ 0)) + 1 by simp [cntP, c]] at h
        rw [hv, show (1 : Int32) = nI 1 from rfl, nI_add]
        exact h
  exact main 24 0 (by omega)
theorem c_X2_staleTo {E : JE} {u : JM} {K : Int32 → JM → Prop} {N : Nat} (hN : isNet N) {s : St} (cL : CL N s u) (cK : CK N s u) (wL : WL s) (wK : WK s) {r : Nat} (hr : r < 8) (hK : K (nI (slS s r)) u) : JCi E 3 YX2_staleTo [.ref N, .int (nI r)] K u := by
  refine JCi.ofV (ls := [some (.ref N), some (.int (nI r)), none, none]) (by decide +kernel) (Nat.le_of_ble_eq_true rfl) rfl rfl (g_X2_staleTo_0 hN ?_)
  intro i3 e3
  rw [(row0 hr).1] at e3
  subst e3
  have main : ∀ (m k : Nat), m + k = 24 → JVi E 3 YX2_staleTo K 9 [some (.ref N), some (.int (nI r)), some (.int (nI (cntP k fun j => decide (s 7 (r * 24 + j) ≠ 0) && stB s (r * 24 + j)))), some (.int (nI (r * 24 + k)))] [] u := by
    intro m
    induction m with
    | zero =>
      intro k hm
      obtain rfl : k = 24 := by omega
      refine g_X2_staleTo_9 hN ?_
      rw [(row0 hr).2]
      exact ⟨fun _ => hK, fun c => absurd (nI_le (Nat.le_refl _) (by omega)) c⟩
    | succ m ih =>
      intro k hm
      have h := ih (k + 1) (by omega)
      refine g_X2_staleTo_9 hN ?_
      have hrow : r * 24 + k < 192 := by omega
      have w7 := (wK _ hrow).1
      rw [(row0 hr).2, nI_cl (show r * 24 + k < 2147483648 by omega), (cK _ hrow).1, nI_1]
      refine ⟨fun c => absurd c (nI_ge (by omega) (by omega)), fun _ => ⟨vpI hrow (by omega), fun c => ?_, fun c => ?_⟩⟩
      · have c : s 7 (r * 24 + k) = 0 := nI_inj (by omega) (by omega) (c.trans (show (0 : Int32) = nI 0 from rfl))
        rw [show cntP (k + 1) (fun j => decide (s 7 (r * 24 + j) ≠ 0) && stB s (r * 24 + j)) = cntP k (fun j => decide (s 7 (r * 24 + j) ≠ 0) && stB s (r * 24 + j)) by simp [cntP, c]] at h
        rw [show (0 : Int32) = nI 0 from rfl, nI_add, Nat.add_zero]
        exact h
      · have c : s 7 (r * 24 + k) ≠ 0 := fun q => c (by rw [q]; rfl)
        refine c_X2_isStale hN cL cK wL wK hrow (by omega) ?_
        intro v hv
        by_cases d : stB s (r * 24 + k) = true
        · rw [jb_t d, if_neg (by decide)] at hv
          rw [show cntP (k + 1) (fun j => decide (s 7 (r * 24 + j) ≠ 0) && stB s (r * 24 + j)) = cntP k (fun j => decide (s 7 (r * 24 + j) ≠ 0) && stB s (r * 24 + j)) + 1 by simp [cntP, c, d]] at h
          rw [hv, show (1 : Int32) = nI 1 from rfl, nI_add]
          exact h
        · rw [jb_f d, if_pos rfl] at hv
          rw [show cntP (k + 1) (fun j => decide (s 7 (r * 24 + j) ≠ 0) && stB s (r * 24 + j)) = cntP k (fun j => decide (s 7 (r * 24 + j) ≠ 0) && stB s (r * 24 + j)) by simp [cntP, d]] at h
          rw [hv, show (0 : Int32) = nI 0 from rfl, nI_add, Nat.add_zero]
          exact h
  exact main 24 0 (by omega)
theorem c_X2_knownToAll {E : JE} {u : JM} {K : Int32 → JM → Prop} {N : Nat} (hN : isNet N) {s : St} (cK : CK N s u) (wK : WK s) (hK : K (nI (sumTo (knS s) 8)) u) : JCi E 3 YX2_knownToAll [.ref N] K u := by
  refine JCi.ofV (ls := [some (.ref N), none, none]) (by decide +kernel) (Nat.le_of_ble_eq_true rfl) rfl rfl (g_X2_knownToAll_0 hN ?_)
  have main : ∀ (m k : Nat), m + k = 8 → JVi E 3 YX2_knownToAll K 4 [some (.ref N), some (.int (nI (sumTo (knS s) k))), some (.int (nI k))] [] u := by
    intro m
    induction m with
    | zero =>
      intro k hm
      obtain rfl : k = 8 := by omega
      exact g_X2_knownToAll_4 hN ⟨fun _ => hK, fun c => absurd (show (8 : Int32) ≤ nI 8 by decide) c⟩
    | succ m ih =>
      intro k hm
      refine g_X2_knownToAll_4 hN ⟨fun c => absurd c (nI_ge (a := k) (b := 8) (by omega) (by omega)), fun _ => ?_⟩
      refine c_X2_knownTo hN cK wK (by omega) ?_
      rw [nI_add, nI_1]
      exact ih (k + 1) (by omega)
  exact main 8 0 (by omega)
