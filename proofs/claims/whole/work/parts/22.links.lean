/-! Links: areas, counts, the link that a packet takes, true distances -/
theorem cl_0 : (0 : Int32).toNatClampNeg = 0 := by decide
theorem cl_1 : (1 : Int32).toNatClampNeg = 1 := by decide
theorem cl_8 : (8 : Int32).toNatClampNeg = 8 := by decide
theorem cl_12 : (12 : Int32).toNatClampNeg = 12 := by decide
theorem m1_ne {k : Nat} (hk : k < 2147483648) : ¬ nI k = -1 := by
  intro c
  have h1 := congrArg Int32.toInt c
  rw [nI_toInt (by omega), show (-1 : Int32).toInt = -1 from by decide] at h1
  omega
def upB (s : St) (l r : Nat) : Bool := decide (s 6 l = 1 ∧ (s 1 l = r ∨ s 2 l = r))
def inA (s : St) (r a : Nat) : Bool := (List.range (s 0 0)).any fun l => upB s l r && decide (s 3 l = a)
def arS (s : St) (r : Nat) : Nat := bits 3 (inA s r)
theorem arS_lt (s : St) (r : Nat) : arS s r < 8 := bits_lt 3 _
theorem arS_t (s : St) (r a : Nat) (ha : a < 3) : (arS s r).testBit a = inA s r a := by
  unfold arS
  rw [bits_test]
  simp [ha]
theorem inA_ge {s : St} (w : WL s) {r a : Nat} (ha : 3 ≤ a) : inA s r a = false := by
  unfold inA
  rw [List.any_eq_false]
  intro l hl
  have := (w.2 l (List.mem_range.mp hl)).2.2.2.1
  simp
  intro _
  omega
/-- an end that is up, as the cells tell it -/
theorem up_cell {N : Nat} {s : St} {u : JM} (hL : CL N s u) (w : WL s) {l r : Nat} (hl : l < s 0 0) (hr : r < 8) : (jb (¬ u (N + 7) l = 0 ∧ (u (N + 2) l = nI r ∨ u (N + 3) l = nI r)) = 0) ↔ upB s l r = false := by
  obtain ⟨l1, l2, -, -, -, l6⟩ := hL.2.1 l hl
  obtain ⟨w1, w2, -, -, -, -, w7⟩ := w.2 l hl
  rw [jb_0, l1, l2, l6, show (0 : Int32) = nI 0 from rfl, nI_eq (by omega) (by omega), nI_eq (by omega) (by omega), nI_eq (by omega) (by omega)]
  unfold upB
  rw [decide_eq_false_iff_not]
  have : (¬ s 6 l = 0) ↔ s 6 l = 1 := by omega
  rw [this]
theorem up_if {α : Type} {N : Nat} {s : St} {u : JM} (hL : CL N s u) (w : WL s) {l r : Nat} (hl : l < s 0 0) (hr : r < 8) (x y : α) : (if jb (¬ u (N + 7) l = 0 ∧ (u (N + 2) l = nI r ∨ u (N + 3) l = nI r)) = 0 then x else y) = if upB s l r = true then y else x := by
  by_cases c : upB s l r = false
  · rw [if_pos ((up_cell hL w hl hr).mpr c), if_neg (by rw [c]; simp)]
  · rw [if_neg (fun q => c ((up_cell hL w hl hr).mp q)), if_pos (by simpa using c)]
theorem areas_loop {E : JE} {u : JM} {K : Int32 → JM → Prop} {N : Nat} (hN : isNet N) {s : St} (hL : CL N s u) (w : WL s) {r : Nat} (hr : r < 8) (hK : K (nI (arS s r)) u) :
    ∀ (m k b : Nat), m + k = s 0 0 → b < 8 → (∀ i, b.testBit i = (List.range k).any fun l => upB s l r && decide (s 3 l = i)) →
      JVi E 2 YX1_areasOf K 4 [some (.ref (N + 1)), some (.int (nI r)), some (.int (nI b)), some (.int (nI k))] [] u := by
  have h12 := w.1
  intro m
  induction m with
  | zero =>
    intro k b hm hb ht
    obtain rfl : k = s 0 0 := by omega
    have e : b = arS s r := by
      apply bits_eq
      intro i
      rw [ht i]
      by_cases hi : i < 3
      · simp [hi, inA]
      · have := inA_ge w (r := r) (a := i) (by omega)
        unfold inA at this
        simp [hi, this]
    refine g_X1_areasOf_4 hN ⟨fun _ => by rw [e]; exact hK, fun c => ?_⟩
    rw [hL.1] at c
    exact absurd (nI_le (Nat.le_refl _) (by omega)) c
  | succ m ih =>
    intro k b hm hb ht
    have hk : k < s 0 0 := by omega
    have c0 : ¬ u (N + 1) 0 ≤ nI k := by rw [hL.1]; exact nI_ge hk (by omega)
    have h3 := (w.2 k hk).2.2.2.1
    refine g_X1_areasOf_4 hN ⟨fun c => absurd c c0, fun _ => ⟨vpI (by omega) (by omega), ?_⟩⟩
    rw [nI_cl (show k < 2147483648 by omega), nI_1, (hL.2.1 k hk).2.2.1, up_if hL w hk hr]
    intro v hv
    by_cases c : upB s k r = true
    · rw [if_pos c, nI_bit (by omega)] at hv
      rw [hv]
      refine ih (k + 1) (b ||| 2 ^ s 3 k) (by omega) (Nat.or_lt_two_pow (n := 3) hb ?_) fun i => ?_
      · rcases (show s 3 k = 0 ∨ s 3 k = 1 ∨ s 3 k = 2 by omega) with e | e | e <;> rw [e] <;> decide
      · rw [Nat.testBit_or, Nat.testBit_two_pow, ht i, List.range_succ, List.any_append]
        simp [c]
    · rw [if_neg c] at hv
      rw [hv]
      refine ih (k + 1) b (by omega) hb fun i => ?_
      rw [ht i, List.range_succ, List.any_append]
      simp [c]
theorem c_X1_areasOf {E : JE} {u : JM} {K : Int32 → JM → Prop} {N : Nat} (hN : isNet N) {s : St} (hL : CL N s u) (w : WL s) {r : Nat} (hr : r < 8) (hK : K (nI (arS s r)) u) : JCi E 2 YX1_areasOf [.ref (N + 1), .int (nI r)] K u := by
  refine JCi.ofV (ls := [some (.ref (N + 1)), some (.int (nI r)), none, none]) (by decide +kernel) (Nat.le_of_ble_eq_true rfl) rfl rfl (g_X1_areasOf_0 hN ?_)
  exact areas_loop hN hL w hr hK (s 0 0) 0 0 (by omega) (by omega) (fun i => by simp)
theorem upOf_loop {E : JE} {u : JM} {K : Int32 → JM → Prop} {N : Nat} (hN : isNet N) {s : St} (hL : CL N s u) (w : WL s) {r : Nat} (hr : r < 8) (hK : K (nI (cntP (s 0 0) fun l => upB s l r)) u) :
    ∀ (m k : Nat), m + k = s 0 0 → JVi E 2 YX1_upOf K 4 [some (.ref (N + 1)), some (.int (nI r)), some (.int (nI (cntP k fun l => upB s l r))), some (.int (nI k))] [] u := by
  have h12 := w.1
  intro m
  induction m with
  | zero =>
    intro k hm
    obtain rfl : k = s 0 0 := by omega
    refine g_X1_upOf_4 hN ⟨fun _ => hK, fun c => ?_⟩
    rw [hL.1] at c
    exact absurd (nI_le (Nat.le_refl _) (by omega)) c
  | succ m ih =>
    intro k hm
    have hk : k < s 0 0 := by omega
    have c0 : ¬ u (N + 1) 0 ≤ nI k := by rw [hL.1]; exact nI_ge hk (by omega)
    have h := ih (k + 1) (by omega)
    refine g_X1_upOf_4 hN ⟨fun c => absurd c c0, fun _ => ⟨vpI (by omega) (by omega), ?_⟩⟩
    rw [nI_cl (show k < 2147483648 by omega), nI_1, nI_1, up_if hL w hk hr]
    intro v hv
    rw [hv]
    by_cases c : upB s k r = true
    · rw [show cntP (k + 1) (fun l => upB s l r) = cntP k (fun l => upB s l r) + 1 by simp [cntP, c]] at h
      rw [if_pos c]
      exact h
    · rw [show cntP (k + 1) (fun l => upB s l r) = cntP k (fun l => upB s l r) by simp [cntP, c]] at h
      rw [if_neg c]
      exact h
theorem c_X1_upOf {E : JE} {u : JM} {K : Int32 → JM → Prop} {N : Nat} (hN : isNet N) {s : St} (hL : CL N s u) (w : WL s) {r : Nat} (hr : r < 8) (hK : K (nI (cntP (s 0 0) fun l => upB s l r)) u) : JCi E 2 YX1_upOf [.ref (N + 1), .int (nI r)] K u := by
  refine JCi.ofV (ls := [some (.ref (N + 1)), some (.int (nI r)), none, none]) (by decide +kernel) (Nat.le_of_ble_eq_true rfl) rfl rfl (g_X1_upOf_0 hN ?_)
  exact upOf_loop hN hL w hr hK (s 0 0) 0 (by omega)
theorem upAll_loop {E : JE} {u : JM} {K : Int32 → JM → Prop} {N : Nat} (hN : isNet N) {s : St} (hL : CL N s u) (w : WL s) (hK : K (nI (cntP (s 0 0) fun l => decide (s 6 l = 1))) u) :
    ∀ (m k : Nat), m + k = s 0 0 → JVi E 1 YX1_upInAll K 4 [some (.ref (N + 1)), some (.int (nI (cntP k fun l => decide (s 6 l = 1)))), some (.int (nI k))] [] u := by
  have h12 := w.1
  intro m
  induction m with
  | zero =>
    intro k hm
    obtain rfl : k = s 0 0 := by omega
    refine g_X1_upInAll_4 hN ⟨fun _ => hK, fun c => ?_⟩
    rw [hL.1] at c
    exact absurd (nI_le (Nat.le_refl _) (by omega)) c
  | succ m ih =>
    intro k hm
    have hk : k < s 0 0 := by omega
    have c0 : ¬ u (N + 1) 0 ≤ nI k := by rw [hL.1]; exact nI_ge hk (by omega)
    have h := ih (k + 1) (by omega)
    have h6 := (w.2 k hk).2.2.2.2.2.2
    refine g_X1_upInAll_4 hN ⟨fun c => absurd c c0, fun _ => ⟨vpI (by omega) (by omega), ?_⟩⟩
    rw [nI_cl (show k < 2147483648 by omega), nI_1, nI_1, (hL.2.1 k hk).2.2.2.2.2]
    intro v hv
    rw [hv]
    by_cases c : s 6 k = 0
    · rw [show cntP (k + 1) (fun l => decide (s 6 l = 1)) = cntP k (fun l => decide (s 6 l = 1)) by simp [cntP, c]] at h
      rw [if_pos (by rw [c]; rfl)]
      exact h
    · rw [show cntP (k + 1) (fun l => decide (s 6 l = 1)) = cntP k (fun l => decide (s 6 l = 1)) + 1 by simp [cntP, show s 6 k = 1 by omega]] at h
      rw [if_neg (fun q => c (nI_inj (by omega) (by omega) (q.trans (show (0 : Int32) = nI 0 from rfl))))]
      exact h
theorem c_X1_upInAll {E : JE} {u : JM} {K : Int32 → JM → Prop} {N : Nat} (hN : isNet N) {s : St} (hL : CL N s u) (w : WL s) (hK : K (nI (cntP (s 0 0) fun l => decide (s 6 l = 1))) u) : JCi E 1 YX1_upInAll [.ref (N + 1)] K u := by
  refine JCi.ofV (ls := [some (.ref (N + 1)), none, none]) (by decide +kernel) (Nat.le_of_ble_eq_true rfl) rfl rfl (g_X1_upInAll_0 hN ?_)
  exact upAll_loop hN hL w hK (s 0 0) 0 (by omega)
def prc (s : St) (l r : Nat) : Nat := if s 1 l = r then s 4 l else s 5 l
/-- a link or none (12) -/
def lkI (b : Nat) : Int32 := if b < 12 then nI b else -1
theorem lkI_lt {b : Nat} (h : b < 12) : lkI b = nI b := if_pos h
theorem lkI_12 : lkI 12 = -1 := rfl
def fitB (s : St) (r nx a l : Nat) : Bool := upB s l r && decide (oth s l r = nx) && decide (s 3 l = a)
def chS (s : St) (r nx a : Nat) : Nat → Nat
  | 0 => 12
  | k + 1 => if fitB s r nx a k = true ∧ (chS s r nx a k = 12 ∨ prc s k r < prc s (chS s r nx a k) r) then k else chS s r nx a k
theorem chS_lt (s : St) (r nx a : Nat) : ∀ k, k ≤ 12 → chS s r nx a k = 12 ∨ chS s r nx a k < k
  | 0, _ => Or.inl rfl
  | k + 1, h => by
    unfold chS
    split
    · right; omega
    · rcases chS_lt s r nx a k (by omega) with q | q
      · left; exact q
      · right; omega
theorem oth_cell {N : Nat} {s : St} {u : JM} (hL : CL N s u) (w : WL s) {l r : Nat} (hl : l < s 0 0) (hr : r < 8) : (if u (N + 2) l = nI r then u (N + 3) l else u (N + 2) l) = nI (oth s l r) ∧ oth s l r < 8 := by
  obtain ⟨l1, l2, -⟩ := hL.2.1 l hl
  obtain ⟨w1, w2, -⟩ := w.2 l hl
  rw [l1, l2]
  unfold oth
  by_cases e : s 1 l = r
  · rw [if_pos (by rw [e]), if_pos e]; exact ⟨rfl, w2⟩
  · rw [if_neg (fun q => e (nI_inj (by omega) (by omega) q)), if_neg e]; exact ⟨rfl, w1⟩
theorem prc_cell {N : Nat} {s : St} {u : JM} (hL : CL N s u) (w : WL s) {l r : Nat} (hl : l < s 0 0) (hr : r < 8) : (if u (N + 2) l = nI r then u (N + 5) l else u (N + 6) l) = nI (prc s l r) ∧ 1 ≤ prc s l r ∧ prc s l r ≤ 99 := by
  obtain ⟨l1, -, -, l4, l5, -⟩ := hL.2.1 l hl
  obtain ⟨w1, -, -, -, w5, w6, -⟩ := w.2 l hl
  rw [l1, l4, l5]
  unfold prc
  by_cases e : s 1 l = r
  · rw [if_pos (by rw [e]), if_pos e]; exact ⟨rfl, w5⟩
  · rw [if_neg (fun q => e (nI_inj (by omega) (by omega) q)), if_neg e]; exact ⟨rfl, w6⟩
theorem cheap_loop {E : JE} {u : JM} {K : Int32 → JM → Prop} {N : Nat} (hN : isNet N) {s : St} (hL : CL N s u) (w : WL s) {r nx a : Nat} (hr : r < 8) (hx : nx < 8) (ha : a < 3) (hK : K (lkI (chS s r nx a (s 0 0))) u) :
    ∀ (m k : Nat), m + k = s 0 0 → JVi E 2 YX1_cheapest K 6 [some (.ref (N + 1)), some (.int (nI r)), some (.int (nI nx)), some (.int (nI a)), some (.int (lkI (chS s r nx a k))), some (.int (nI k)), none] [] u := by
  have h12 := w.1
  intro m
  induction m with
  | zero =>
    intro k hm
    obtain rfl : k = s 0 0 := by omega
    refine g_X1_cheapest_6 hN ⟨fun _ => hK, fun c => ?_⟩
    rw [hL.1] at c
    exact absurd (nI_le (Nat.le_refl _) (by omega)) c
  | succ m ih =>
    intro k hm
    have hk : k < s 0 0 := by omega
    have c0 : ¬ u (N + 1) 0 ≤ nI k := by rw [hL.1]; exact nI_ge hk (by omega)
    have h := ih (k + 1) (by omega)
    have h3 := (w.2 k hk).2.2.2.1
    obtain ⟨o1, o2⟩ := oth_cell hL w hk hr
    obtain ⟨p1, p2, p3⟩ := prc_cell hL w hk hr
    refine g_X1_cheapest_6 hN ⟨fun c => absurd c c0, fun _ => ⟨vpI (by omega) (by omega), ?_⟩⟩
    rw [nI_cl (show k < 2147483648 by omega), nI_1, o1, p1, (hL.2.1 k hk).2.2.1]
    intro v1 hv1
    have hf : (v1 = 0) ↔ fitB s r nx a k = false := by
      rw [hv1]
      unfold fitB
      by_cases c1 : upB s k r = false
      · rw [if_pos ((up_cell hL w hk hr).mpr c1)]; simp [c1]
      · rw [if_neg (fun q => c1 ((up_cell hL w hk hr).mp q))]
        have c1 : upB s k r = true := by simpa using c1
        by_cases c2 : oth s k r = nx
        · rw [if_pos (by rw [c2])]
          by_cases c3 : s 3 k = a
          · rw [if_pos (by rw [c3])]; simp [c1, c2, c3]
          · rw [if_neg (fun q => c3 (nI_inj (by omega) (by omega) q))]; simp [c3]
        · rw [if_neg (fun q => c2 (nI_inj (by omega) (by omega) q))]; simp [c2]
    have hc : chS s r nx a k = 12 ∨ chS s r nx a k < k := chS_lt s r nx a k (by omega)
    refine ⟨⟨fun _ => trivial, fun _ => ⟨fun _ => trivial, fun c2 => ⟨?_, trivial⟩⟩⟩, fun v hv => ?_⟩
    · rcases hc with q | q
      · rw [q] at c2; exact absurd rfl c2
      · rw [lkI_lt (by omega)]; exact vpI (by omega) (by omega)
    · have e : v = lkI (chS s r nx a (k + 1)) := by
        rw [hv, show chS s r nx a (k + 1) = if fitB s r nx a k = true ∧ (chS s r nx a k = 12 ∨ prc s k r < prc s (chS s r nx a k) r) then k else chS s r nx a k from rfl]
        by_cases c1 : fitB s r nx a k = false
        · rw [if_pos (hf.mpr c1), if_neg (by rw [c1]; simp)]
        · rw [if_neg (fun q => c1 (hf.mp q))]
          have c1 : fitB s r nx a k = true := by simpa using c1
          rcases hc with q | q
          · rw [if_pos (by rw [q]; rfl), if_pos ⟨c1, Or.inl q⟩, lkI_lt (by omega)]
          · rw [lkI_lt (by omega), if_neg (m1_ne (by omega))]
            obtain ⟨q1, q2, q3⟩ := prc_cell hL w (l := chS s r nx a k) (by omega) hr
            rw [nI_cl (by omega), q1]
            by_cases c2 : prc s k r < prc s (chS s r nx a k) r
            · rw [if_neg (nI_ge c2 (by omega)), if_pos ⟨c1, Or.inr c2⟩, lkI_lt (by omega)]
            · rw [if_pos (nI_le (by omega) (by omega)), if_neg (fun g => g.2.elim (by omega) c2), lkI_lt (by omega)]
      rw [e]
      exact h
theorem c_X1_cheapest {E : JE} {u : JM} {K : Int32 → JM → Prop} {N : Nat} (hN : isNet N) {s : St} (hL : CL N s u) (w : WL s) {r nx a : Nat} (hr : r < 8) (hx : nx < 8) (ha : a < 3) (hK : K (lkI (chS s r nx a (s 0 0))) u) : JCi E 2 YX1_cheapest [.ref (N + 1), .int (nI r), .int (nI nx), .int (nI a)] K u := by
  refine JCi.ofV (ls := [some (.ref (N + 1)), some (.int (nI r)), some (.int (nI nx)), some (.int (nI a)), none, none, none]) (by decide +kernel) (Nat.le_of_ble_eq_true rfl) rfl rfl (g_X1_cheapest_0 hN ?_)
  exact cheap_loop hN hL w hr hx ha hK (s 0 0) 0 (by omega)
