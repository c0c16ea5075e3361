/-! the reference: its cells tell the same abstract state -/
def pl (r o a : Nat) : Nat := (r * 8 + o) * 3 + a
theorem pl_lt {r o a : Nat} (hr : r < 8) (ho : o < 8) (ha : a < 3) : pl r o a < 192 := by unfold pl; omega
theorem pl_nI (r o a : Nat) : (nI r * 8 + nI o) * 3 + nI a = nI (pl r o a) := by
  rw [show (8 : Int32) = nI 8 from rfl, show (3 : Int32) = nI 3 from rfl, nI_mul, nI_add, nI_mul, nI_add]; rfl
theorem pl_inj {r o a r' o' a' : Nat} (ho : o < 8) (ha : a < 3) (ho' : o' < 8) (ha' : a' < 3) (h : pl r o a = pl r' o' a') : r = r' ∧ o = o' ∧ a = a' := by unfold pl at h; omega
def QL (s : St) (u : JM) : Prop := u 137 0 = nI (s 0 0) ∧ ∀ l, l < s 0 0 → u 138 l = nI (s 1 l) ∧ u 139 l = nI (s 2 l) ∧ u 140 l = nI (s 3 l) ∧ u 141 l = nI (s 6 l) ∧ u 142 (2 * l) = nI (s 4 l) ∧ u 142 (2 * l + 1) = nI (s 5 l)
def QKi (s : St) (u : JM) (row p : Nat) : Prop := u 143 p = nI (s 7 row) ∧ (0 < s 7 row → u 144 p = nI (s 8 row) ∧ (∀ l, l < 12 → u (148 + p) l = nI (s 9 (row * 12 + l))) ∧ ∀ d, d < 8 → u (341 + p) d = nI (s 10 (row * 8 + d)))
def QK (s : St) (u : JM) : Prop := ∀ r o a, r < 8 → o < 8 → a < 3 → QKi s u (rw8 r a o) (pl r o a)
def QMi (s : St) (u : JM) (i : Nat) : Prop := u 533 i = nI (s 14 i) ∧ u 534 i = nI (s 15 i) ∧ u 535 i = nI (s 16 i) ∧ u 536 i = nI (s 3 (s 14 i)) ∧ u 537 i = nI (s 17 i) ∧ u 538 i = nI (s 18 i) ∧ (∀ l, l < 12 → u (540 + i) l = nI (s 19 (i * 12 + l))) ∧ ∀ d, d < 8 → u (941 + i) d = nI (s 20 (i * 8 + d))
def QM (s : St) (u : JM) : Prop := u 137 12 = nI (s 13 0) ∧ ∀ i, i < s 13 0 → QMi s u i
def QFi (s : St) (u : JM) (row p : Nat) : Prop := u 145 p = nI (s 11 row) ∧ (s 11 row = 1 → u 146 p = nI (s 12 row))
def QF (s : St) (u : JM) : Prop := ∀ r o a, r < 8 → o < 8 → a < 3 → QFi s u (rw8 r a o) (pl r o a)
def QN (s : St) (u : JM) : Prop := QL s u ∧ QK s u ∧ QM s u ∧ QF s u ∧ u 137 13 = nI (s 21 0) ∧ u 137 14 = nI (s 22 0)
/-- nothing but these rows has changed, and of the object itself what is looked up at once -/
def sR (A : Nat → Prop) (u u' : JM) : Prop := (∀ b, b ≠ 137 → ¬ A b → u' b = u b) ∧ ∀ f, (f < 25 ∨ 28 < f) → u' 137 f = u 137 f
theorem sR.rfl {A : Nat → Prop} {u : JM} : sR A u u := ⟨fun _ _ _ => Eq.refl _, fun _ _ => Eq.refl _⟩
theorem sR.trans {A : Nat → Prop} {u v w : JM} (h : sR A u v) (k : sR A v w) : sR A u w := ⟨fun b h1 h2 => (k.1 b h1 h2).trans (h.1 b h1 h2), fun f hf => (k.2 f hf).trans (h.2 f hf)⟩
theorem sR.mono {A B : Nat → Prop} {u v : JM} (h : sR A u v) (k : ∀ b, A b → B b) : sR B u v := ⟨fun b h1 h2 => h.1 b h1 fun q => h2 (k b q), h.2⟩
theorem sR.w {A : Nat → Prop} {u v : JM} (h : sR A u v) {a k : Nat} {x : Int32} (ha : A a) (h7 : a ≠ 137) : sR A u (jw v a k x) := ⟨fun b h1 h2 => by
  rw [jw_ne (fun e => h2 (by rw [e]; exact ha))]; exact h.1 b h1 h2, fun f hf => by rw [jw_ne (Ne.symm h7)]; exact h.2 f hf⟩
theorem sR.f {A : Nat → Prop} {u v : JM} (h : sR A u v) {k : Nat} {x : Int32} (hk : 25 ≤ k ∧ k ≤ 28) : sR A u (jw v 137 k x) := ⟨fun b h1 h2 => by rw [jw_ne h1]; exact h.1 b h1 h2, fun f hf => by rw [jw_at, if_neg (by omega)]; exact h.2 f hf⟩
/-- cells that hold nothing between two calls -/
def tmp : Nat → Prop := fun b => 1341 ≤ b ∧ b ≤ 1345
theorem QL.congr {s : St} {u u' : JM} (h : QL s u) (e0 : u' 137 0 = u 137 0) (e : ∀ b, 138 ≤ b → b ≤ 142 → u' b = u b) : QL s u' := by
  unfold QL
  rw [e0, e 138 (by omega) (by omega), e 139 (by omega) (by omega), e 140 (by omega) (by omega), e 141 (by omega) (by omega), e 142 (by omega) (by omega)]
  exact h
theorem QKi.congr {s : St} {u u' : JM} {row p : Nat} (h : QKi s u row p) (e : ∀ b, b = 143 ∨ b = 144 ∨ b = 148 + p ∨ b = 341 + p → u' b = u b) : QKi s u' row p := by
  unfold QKi
  rw [e 143 (by omega), e 144 (by omega), e (148 + p) (by omega), e (341 + p) (by omega)]
  exact h
theorem QK.congr {s : St} {u u' : JM} (h : QK s u) (e : ∀ b, 143 ≤ b → b ≤ 532 → u' b = u b) : QK s u' := fun r o a hr ho ha =>
  (h r o a hr ho ha).congr fun b hb => e b (by omega) (by have := pl_lt hr ho ha; omega)
theorem QMi.congr {s : St} {u u' : JM} {i : Nat} (h : QMi s u i) (e : ∀ b, (533 ≤ b ∧ b ≤ 538) ∨ b = 540 + i ∨ b = 941 + i → u' b = u b) : QMi s u' i := by
  unfold QMi
  rw [e 533 (by omega), e 534 (by omega), e 535 (by omega), e 536 (by omega), e 537 (by omega), e 538 (by omega), e (540 + i) (by omega), e (941 + i) (by omega)]
  exact h
theorem QM.congr {s : St} {u u' : JM} (h : QM s u) (h13 : s 13 0 ≤ 400) (e0 : u' 137 12 = u 137 12) (e : ∀ b, 533 ≤ b → b ≤ 1340 → u' b = u b) : QM s u' :=
  ⟨by rw [e0]; exact h.1, fun i hi => (h.2 i hi).congr fun b hb => e b (by omega) (by omega)⟩
theorem QF.congr {s : St} {u u' : JM} (h : QF s u) (e : ∀ b, 145 ≤ b → b ≤ 146 → u' b = u b) : QF s u' := fun r o a hr ho ha => by
  unfold QFi
  rw [e 145 (by omega) (by omega), e 146 (by omega) (by omega)]
  exact h r o a hr ho ha
theorem QL.tmp {s : St} {u u' : JM} {A : Nat → Prop} (h : QL s u) (e : sR A u u') (hA : ∀ b, A b → 142 < b) : QL s u' := h.congr (e.2 0 (by omega)) fun b h1 h2 => e.1 b (by omega) fun q => by have := hA b q; omega
theorem QK.tmp {s : St} {u u' : JM} {A : Nat → Prop} (h : QK s u) (e : sR A u u') (hA : ∀ b, A b → 532 < b) : QK s u' := h.congr fun b h1 h2 => e.1 b (by omega) fun q => by have := hA b q; omega
theorem QN.tmp {s : St} {u u' : JM} {A : Nat → Prop} (h : QN s u) (e : sR A u u') (hA : ∀ b, A b → 1341 ≤ b) (h13 : s 13 0 ≤ 400) : QN s u' := by
  obtain ⟨h1, h2, h3, h4, h5, h6⟩ := h
  have e' : ∀ b, b ≠ 137 → b ≤ 1340 → u' b = u b := fun b b1 b2 => e.1 b b1 fun q => by have := hA b q; omega
  exact ⟨h1.congr (e.2 0 (by omega)) fun b _ _ => e' b (by omega) (by omega), h2.congr fun b _ _ => e' b (by omega) (by omega), h3.congr h13 (e.2 12 (by omega)) fun b _ _ => e' b (by omega) (by omega), h4.congr fun b _ _ => e' b (by omega) (by omega), by rw [e.2 13 (by omega)]; exact h5, by rw [e.2 14 (by omega)]; exact h6⟩
theorem c_X8_isRouter {E : JE} {u : JM} {K : Int32 → JM → Prop}  {a1 : Int32} (hK : K (jb (rg a1 0 7)) u) : JCi E 2 YX8_isRouter [.int a1] K u := by
  refine JCi.ofV (ls := [some (.int a1)]) (by decide +kernel) (Nat.le_of_ble_eq_true rfl) rfl rfl (g_X8_isRouter_0  ?_)
  exact ⟨by unfold jb; split <;> simp, hK⟩
theorem c_X8_isArea {E : JE} {u : JM} {K : Int32 → JM → Prop}  {a1 : Int32} (hK : K (jb (rg a1 0 2)) u) : JCi E 2 YX8_isArea [.int a1] K u := by
  refine JCi.ofV (ls := [some (.int a1)]) (by decide +kernel) (Nat.le_of_ble_eq_true rfl) rfl rfl (g_X8_isArea_0  ?_)
  exact ⟨by unfold jb; split <;> simp, hK⟩
theorem c_X8_isSheet {E : JE} {u : JM} {K : Int32 → JM → Prop}  {a1 : Int32} (hK : K (jb (rg a1 0 3)) u) : JCi E 2 YX8_isSheet [.int a1] K u := by
  refine JCi.ofV (ls := [some (.int a1)]) (by decide +kernel) (Nat.le_of_ble_eq_true rfl) rfl rfl (g_X8_isSheet_0  ?_)
  exact ⟨by unfold jb; split <;> simp, hK⟩
theorem c_X8_isLink {E : JE} {u : JM} {K : Int32 → JM → Prop}  {a1 : Int32} {s : St} (h : QL s u) (wL : WL s) (hK : K (jb (isLk (s 0 0) a1)) u) : JCi E 2 YX8_isLink [.ref 137, .int a1] K u := by
  have h12 := wL.1
  refine JCi.ofV (ls := [some (.ref 137), some (.int a1)]) (by decide +kernel) (Nat.le_of_ble_eq_true rfl) rfl rfl (g_X8_isLink_0  ?_)
  have e : jb (rg a1 (0 : Int32).toInt ((u 137 0) - 1).toInt) = jb (isLk (s 0 0) a1) := by
    apply jb_congr
    rw [h.1]
    unfold rg isLk
    rcases Nat.eq_zero_or_pos (s 0 0) with z | z
    · rw [z, show (nI 0 - 1).toInt = -1 from by decide, tI_0]
      omega
    · rw [nI_sub1 z, nI_toInt (by omega), tI_0]
      omega
  rw [e]
  exact ⟨by unfold jb; split <;> simp, hK⟩
theorem up_cellR {s : St} {u : JM} (hL : QL s u) (w : WL s) {l r : Nat} (hl : l < s 0 0) (hr : r < 8) : (u 141 l = 1 ∧ ¬ jb (u 138 l = nI r ∨ u 139 l = nI r) = 0) ↔ upB s l r = true := by
  obtain ⟨l1, l2, -, l6, -⟩ := hL.2 l hl
  obtain ⟨w1, w2, -, -, -, -, w7⟩ := w.2 l hl
  rw [jb_n0, l1, l2, l6, show (1 : Int32) = nI 1 from rfl, nI_eq (by omega) (by omega), nI_eq (by omega) (by omega), nI_eq (by omega) (by omega)]
  unfold upB
  rw [decide_eq_true_iff]
theorem up_ifR {α : Type} {s : St} {u : JM} (hL : QL s u) (w : WL s) {l r : Nat} (hl : l < s 0 0) (hr : r < 8) (x y : α) : (if u 141 l = 1 then (if jb (u 138 l = nI r ∨ u 139 l = nI r) = 0 then x else y) else x) = if upB s l r = true then y else x := by
  by_cases c : upB s l r = true
  · obtain ⟨c1, c2⟩ := (up_cellR hL w hl hr).mpr c
    rw [if_pos c1, if_neg c2, if_pos c]
  · rw [if_neg c]
    by_cases c1 : u 141 l = 1
    · rw [if_pos c1, if_pos (Classical.byContradiction fun c2 => c ((up_cellR hL w hl hr).mp ⟨c1, c2⟩))]
    · rw [if_neg c1]
theorem c_X8_areasOf {E : JE} {u : JM} {K : Int32 → JM → Prop} {s : St} (hL : QL s u) (w : WL s) {r : Nat} (hr : r < 8) (hK : K (nI (arS s r)) u) : JCi E 2 YX8_areasOf [.ref 137, .int (nI r)] K u := by
  have h12 := w.1
  refine JCi.ofV (ls := [some (.ref 137), some (.int (nI r)), none, none]) (by decide +kernel) (Nat.le_of_ble_eq_true rfl) rfl rfl (g_X8_areasOf_0 ?_)
  have main : ∀ (m k b : Nat), m + k = s 0 0 → b < 8 → (∀ i, b.testBit i = (List.range k).any fun l => upB s l r && decide (s 3 l = i)) →
      JVi E 2 YX8_areasOf K 4 [some (.ref 137), some (.int (nI r)), some (.int (nI b)), some (.int (nI k))] [] u := by
    intro m
    induction m with
    | zero =>
      intro k b hm hb ht
      obtain rfl : k = s 0 0 := by omega
      have e : b = arS s r := by
        apply bits_eq
        intro i
        rw [ht i]
        by_cases hi : i < 3
        · simp [hi, inA]
        · have := inA_ge w (r := r) (a := i) (by omega)
          unfold inA at this
          simp [hi, this]
      refine g_X8_areasOf_4 ⟨fun _ => by rw [e]; exact hK, fun c => ?_⟩
      rw [hL.1] at c
      exact absurd (nI_le (Nat.le_refl _) (by omega)) c
    | succ m ih =>
      intro k b hm hb ht
      have hk : k < s 0 0 := by omega
      have c0 : ¬ u 137 0 ≤ nI k := by rw [hL.1]; exact nI_ge hk (by omega)
      have h3 := (w.2 k hk).2.2.2.1
      refine g_X8_areasOf_4 ⟨fun c => absurd c c0, fun _ => ⟨vpI (by omega) (by omega), ?_⟩⟩
      rw [nI_cl (show k < 2147483648 by omega), nI_1, (hL.2 k hk).2.2.1, up_ifR hL w hk hr]
      intro v hv
      by_cases c : upB s k r = true
      · rw [if_pos c, nI_bit (by omega)] at hv
        rw [hv]
        refine ih (k + 1) (b ||| 2 ^ s 3 k) (by omega) (Nat.or_lt_two_pow (n := 3) hb ?_) fun i => ?_
        · rcases (show s 3 k = 0 ∨ s 3 k = 1 ∨ s 3 k = 2 by omega) with e | e | e <;> rw [e] <;> decide
        · rw [Nat.testBit_or, Nat.testBit_two_pow, ht i, List.range_succ, List.any_append]
          simp [c]
      · rw [if_neg c] at hv
        rw [hv]
        refine ih (k + 1) b (by omega) hb fun i => ?_
        rw [ht i, List.range_succ, List.any_append]
        simp [c]
  exact main (s 0 0) 0 0 (by omega) (by omega) (fun i => by simp)
theorem c_X8_isBorder {E : JE} {u : JM} {K : Int32 → JM → Prop} {s : St} (hL : QL s u) (w : WL s) {r : Nat} (hr : r < 8) (hK : K (jb ((arS s r).testBit 0 = true ∧ arS s r ≠ 1)) u) : JCi E 3 YX8_isBorder [.ref 137, .int (nI r)] K u := by
  refine JCi.ofV (ls := [some (.ref 137), some (.int (nI r)), none]) (by decide +kernel) (Nat.le_of_ble_eq_true rfl) rfl rfl (g_X8_isBorder_0 ?_)
  refine c_X8_areasOf hL w hr ?_
  have hA := arS_lt s r
  generalize arS s r = A at *
  have h : ((List.range 8).all fun A => decide ((nI A &&& 1 = 1 ↔ A.testBit 0 = true) ∧ (nI A ≤ 1 ↔ A ≤ 1) ∧ (A.testBit 0 = true → 0 < A))) = true := by decide +kernel
  obtain ⟨h1, h2, h3⟩ := of_decide_eq_true (List.all_eq_true.mp h A (List.mem_range.mpr hA))
  rw [h1, h2]
  refine ⟨fun c => ?_, fun c => ⟨fun c' => ?_, fun c' => ?_⟩⟩
  · rwa [jb_f (fun q => c q.1)] at hK
  · rwa [jb_f (fun q => q.2 (by have := h3 c; omega))] at hK
  · rwa [jb_t ⟨c, by omega⟩] at hK
