/-! the reference: set aside, laid back -/
/-- where a row is set aside -/
def adr (lv b : Nat) : Nat := if b < 142 then 1350 + 4 * lv + (b - 138) else if b = 142 then 3761 + lv else if b < 147 then 1359 + 4 * lv + (b - 143) else if b < 340 then 1382 + 193 * lv + (b - 148) else if b < 533 then 1769 + 193 * lv + (b - 341) else if b < 539 then 1368 + 6 * lv + (b - 533) else if b < 940 then 2156 + 401 * lv + (b - 540) else 2959 + 401 * lv + (b - 941)
/-- a row that is set aside -/
def isB (b : Nat) : Prop := 138 ≤ b ∧ b ≤ 1340 ∧ b ≠ 147 ∧ b ≠ 340 ∧ b ≠ 539 ∧ b ≠ 940
def lnB (m b : Nat) : Nat := if b < 142 then 12 else if b = 142 then 24 else if b < 147 then 192 else if b < 340 then 12 else if b < 533 then 8 else if b < 539 then m else if b < 940 then 12 else 8
theorem adr_inj {lv b b' : Nat} (hl : lv < 2) (h : isB b) (h' : isB b') (e : adr lv b = adr lv b') : b = b' := by
  unfold isB at h h'
  unfold adr at e
  split at e <;> split at e <;> (try omega) <;> (repeat (split at e <;> try omega)) <;> omega
def inAs (lv : Nat) : Nat → Prop := fun a => a = 1347 + lv ∨ (1350 + 4 * lv ≤ a ∧ a < 1354 + 4 * lv) ∨ (1359 + 4 * lv ≤ a ∧ a < 1363 + 4 * lv) ∨ (1368 + 6 * lv ≤ a ∧ a < 1374 + 6 * lv) ∨ (1382 + 193 * lv ≤ a ∧ a < 1574 + 193 * lv) ∨ (1769 + 193 * lv ≤ a ∧ a < 1961 + 193 * lv) ∨ (2156 + 401 * lv ≤ a ∧ a < 2556 + 401 * lv) ∨ (2959 + 401 * lv ≤ a ∧ a < 3359 + 401 * lv) ∨ a = 3761 + lv
theorem adr_in {lv b : Nat} (h : isB b) : inAs lv (adr lv b) := by
  unfold isB at h
  unfold adr inAs
  repeat (split <;> try omega)
theorem adr_ge {lv b : Nat} (h : isB b) : 1350 ≤ adr lv b := by
  unfold isB at h
  unfold adr
  repeat (split <;> try omega)
def fiA (k : Nat) : Nat := if k = 0 then 0 else k - 11
/-- what is set aside, read as if it stood in its place -/
def asd (lv : Nat) (u : JM) : JM := fun b k => if b = 137 then u (1347 + lv) (fiA k) else u (adr lv b) k
/-- both hold the same net, where one is looked up -/
def AG (m : Nat) (v v' : JM) : Prop := (∀ f, f = 0 ∨ f = 12 ∨ f = 13 ∨ f = 14 → v' 137 f = v 137 f) ∧ ∀ b, isB b → (540 ≤ b → b < 540 + m ∨ (941 ≤ b ∧ b < 941 + m)) → ∀ j, j < lnB m b → v' b j = v b j
theorem QN.pt {s : St} {v v' : JM} (h : QN s v) (h12 : s 0 0 ≤ 12) (h400 : s 13 0 ≤ 400) (a : AG (s 13 0) v v') : QN s v' := by
  obtain ⟨a0, a1⟩ := a
  obtain ⟨⟨l0, l1⟩, hK, ⟨m0, m1⟩, hF, t1, t2⟩ := h
  have ea : ∀ b j, 138 ≤ b → b ≤ 141 → j < 12 → v' b j = v b j := fun b j b1 b2 hj => a1 b (by unfold isB; omega) (by omega) j (by unfold lnB; rw [if_pos (by omega)]; exact hj)
  have eb : ∀ j, j < 24 → v' 142 j = v 142 j := fun j hj => a1 142 (by unfold isB; omega) (by omega) j hj
  have ec : ∀ b j, 143 ≤ b → b ≤ 146 → j < 192 → v' b j = v b j := fun b j b1 b2 hj => a1 b (by unfold isB; omega) (by omega) j (by unfold lnB; rw [if_neg (by omega), if_neg (by omega), if_pos (by omega)]; exact hj)
  have ed : ∀ p j, p < 192 → j < 12 → v' (148 + p) j = v (148 + p) j := fun p j hp hj => a1 _ (by unfold isB; omega) (by omega) j (by unfold lnB; rw [if_neg (by omega), if_neg (by omega), if_neg (by omega), if_pos (by omega)]; exact hj)
  have ee : ∀ p j, p < 192 → j < 8 → v' (341 + p) j = v (341 + p) j := fun p j hp hj => a1 _ (by unfold isB; omega) (by omega) j (by unfold lnB; rw [if_neg (by omega), if_neg (by omega), if_neg (by omega), if_neg (by omega), if_pos (by omega)]; exact hj)
  have ef : ∀ b j, 533 ≤ b → b ≤ 538 → j < s 13 0 → v' b j = v b j := fun b j b1 b2 hj => a1 b (by unfold isB; omega) (by omega) j (by unfold lnB; rw [if_neg (by omega), if_neg (by omega), if_neg (by omega), if_neg (by omega), if_neg (by omega), if_pos (by omega)]; exact hj)
  have eg : ∀ i j, i < s 13 0 → j < 12 → v' (540 + i) j = v (540 + i) j := fun i j hi hj => a1 _ (by unfold isB; omega) (by omega) j (by unfold lnB; rw [if_neg (by omega), if_neg (by omega), if_neg (by omega), if_neg (by omega), if_neg (by omega), if_neg (by omega), if_pos (by omega)]; exact hj)
  have eh : ∀ i j, i < s 13 0 → j < 8 → v' (941 + i) j = v (941 + i) j := fun i j hi hj => a1 _ (by unfold isB; omega) (by omega) j (by unfold lnB; rw [if_neg (by omega), if_neg (by omega), if_neg (by omega), if_neg (by omega), if_neg (by omega), if_neg (by omega), if_neg (by omega)]; exact hj)
  refine ⟨⟨by rw [a0 0 (by omega)]; exact l0, fun l hl => ?_⟩, fun r o a hr ho ha => ?_, ⟨by rw [a0 12 (by omega)]; exact m0, fun i hi => ?_⟩, fun r o a hr ho ha => ?_, by rw [a0 13 (by omega)]; exact t1, by rw [a0 14 (by omega)]; exact t2⟩
  · rw [ea 138 l (by omega) (by omega) (by omega), ea 139 l (by omega) (by omega) (by omega), ea 140 l (by omega) (by omega) (by omega), ea 141 l (by omega) (by omega) (by omega), eb _ (by omega), eb _ (by omega)]
    exact l1 l hl
  · have hp := pl_lt hr ho ha
    obtain ⟨k1, k2⟩ := hK r o a hr ho ha
    refine ⟨by rw [ec 143 _ (by omega) (by omega) hp]; exact k1, fun q => ⟨by rw [ec 144 _ (by omega) (by omega) hp]; exact (k2 q).1, fun l hl => by rw [ed _ l hp hl]; exact (k2 q).2.1 l hl, fun d hd => by rw [ee _ d hp hd]; exact (k2 q).2.2 d hd⟩⟩
  · obtain ⟨x1, x2, x3, x4, x5, x6, x7, x8⟩ := m1 i hi
    unfold QMi
    rw [ef 533 i (by omega) (by omega) hi, ef 534 i (by omega) (by omega) hi, ef 535 i (by omega) (by omega) hi, ef 536 i (by omega) (by omega) hi, ef 537 i (by omega) (by omega) hi, ef 538 i (by omega) (by omega) hi]
    exact ⟨x1, x2, x3, x4, x5, x6, fun l hl => by rw [eg i l hi hl]; exact x7 l hl, fun d hd => by rw [eh i d hi hd]; exact x8 d hd⟩
  · have hp := pl_lt hr ho ha
    unfold QFi
    rw [ec 145 _ (by omega) (by omega) hp, ec 146 _ (by omega) (by omega) hp]
    exact hF r o a hr ho ha
theorem b0 {n m : Nat} {x : Int32} (hx : x = nI n) (hn : n ≤ m) (hm : m < 2147483648) : ¬ (0 : Int32) < 0 ∧ ¬ (0 : Int32) < 0 ∧ ¬ x < 0 ∧ (0 : Int32).toNatClampNeg + x.toNatClampNeg ≤ m ∧ (0 : Int32).toNatClampNeg + x.toNatClampNeg ≤ m := by
  rw [hx, nI_cl (by omega), cl_0]
  exact ⟨by decide, by decide, nI_nn (by omega), by omega, by omega⟩
theorem lv_add {c lv k : Nat} : (nI c * nI lv + nI k : Int32) = nI (c * lv + k) := by rw [nI_mul, nI_add]
/-- rows copied so far, from u0 -/
def KV (lv m : Nat) (u0 : JM) (D : Nat → Prop) (u : JM) : Prop := same u0 u (inAs lv) ∧ (∀ f, f = 0 ∨ f = 12 ∨ f = 13 ∨ f = 14 → u (1347 + lv) (fiA f) = u0 137 f) ∧ ∀ b, isB b → D b → ∀ j, j < lnB m b → u (adr lv b) j = u0 b j
theorem KV.step {lv m : Nat} (hl : lv < 2) {u0 u u' : JM} {D D' : Nat → Prop} (h : KV lv m u0 D u) {b n : Nat} (hb : isB b) (hn : n = lnB m b) (e : u' = jcp u b 0 (adr lv b) 0 n) (hD : ∀ c, isB c → D' c → D c ∨ c = b) : KV lv m u0 D' u' := by
  obtain ⟨h1, h2, h3⟩ := h
  have hin := adr_in (lv := lv) hb
  have hg := adr_ge (lv := lv) hb
  have o : ∀ a, a ≠ adr lv b → u' a = u a := fun a ha => by rw [e, jcp_ne ha]
  have hb' := hb
  unfold isB at hb'
  refine ⟨fun a ha => ?_, fun f hf => ?_, fun c hc dc j hj => ?_⟩
  · rw [o a (fun q => ha (by rw [q]; exact hin))]; exact h1 a ha
  · rw [o (1347 + lv) (by omega)]; exact h2 f hf
  · by_cases q : c = b
    · subst q
      rw [e, jcp_at, if_pos (by omega), show 0 + (j - 0) = j by omega, h1 c (by unfold inAs; omega)]
    · rw [o _ (fun z => q (adr_inj hl hc hb z))]
      exact h3 c hc ((hD c hc dc).resolve_right q) j hj
theorem KV.mono {lv m : Nat} {u0 u : JM} {D D' : Nat → Prop} (h : KV lv m u0 D u) (hD : ∀ c, isB c → D' c → D c) : KV lv m u0 D' u := ⟨h.1, h.2.1, fun b hb d => h.2.2 b hb (hD b hb d)⟩
theorem c_X8_keep {E : JE} {u0 : JM} {K : JM → Prop} {s : St} (hN : QN s u0) (h12 : s 0 0 ≤ 12) (h192 : s 13 0 ≤ 192) {lv : Nat} (hl : lv < 2)
    (k : ∀ u, same u0 u (inAs lv) → QN s (asd lv u) → K u) : JCu E 2 YX8_keep [.ref 137, .int (nI lv)] K u0 := by
  have em : u0 137 12 = nI (s 13 0) := hN.2.2.1.1
  have hl' : (nI lv).toNatClampNeg = lv := nI_cl (by omega)
  have l2 : vp_in (nI lv) 2 := vpI hl (by omega)
  refine JCu.ofV (ls := [some (.ref 137), some (.int (nI lv)), none]) (by decide +kernel) (Nat.le_of_ble_eq_true rfl) rfl rfl (g_X8_keep_0 ?_)
  refine ⟨l2, fun u1 e1 u2 e2 u3 e3 u4 e4 => ?_⟩
  rw [hl'] at e1 e2 e3 e4
  rw [show (0 : Int32).toNatClampNeg = 0 from rfl] at e1
  rw [show (1 : Int32).toNatClampNeg = 1 from rfl] at e2
  rw [show (2 : Int32).toNatClampNeg = 2 from rfl] at e3
  rw [show (3 : Int32).toNatClampNeg = 3 from rfl] at e4
  have q12 : ∀ {D : Nat → Prop} {u : JM}, KV lv (s 13 0) u0 D u → u 137 12 = nI (s 13 0) := fun h => by rw [h.1 137 (by unfold inAs; omega)]; exact em
  -- the sums of what waits
  have s8 : ∀ (m j : Nat) (u : JM), m + j = s 13 0 → KV lv (s 13 0) u0 (fun b => b < 940 ∧ (540 ≤ b → b < 540 + s 13 0) ∨ (941 ≤ b ∧ b < 941 + j)) u → JVu E 2 YX8_keep K 286 [some (.ref 137), some (.int (nI lv)), some (.int (nI j))] [] u := by
    intro m
    induction m with
    | zero =>
      intro j u hm h
      obtain rfl : j = s 13 0 := by omega
      refine g_X8_keep_286 ⟨fun _ => k u h.1 (hN.pt h12 (by omega) ⟨fun f hf => ?_, fun b hb hb2 j hj => ?_⟩), fun c => ?_⟩
      · show (if 137 = 137 then u (1347 + lv) (fiA f) else _) = _
        rw [if_pos rfl]; exact h.2.1 f hf
      · have hb' := hb
        unfold isB at hb'
        show (if b = 137 then _ else u (adr lv b) j) = _
        rw [if_neg (by omega)]
        exact h.2.2 b hb (by omega) j hj
      · rw [q12 h] at c
        exact absurd (nI_le (Nat.le_refl _) (by omega)) c
    | succ m ih =>
      intro j u hm h
      refine g_X8_keep_286 ⟨fun c => ?_, fun _ => ⟨vpI (by omega) (by omega), l2, by decide, fun u1 e => ?_⟩⟩
      · rw [q12 h] at c
        exact absurd c (nI_ge (by omega) (by omega))
      · rw [hl', nI_cl (by omega), cl_0, cl_8] at e
        rw [nI_1]
        refine ih (j + 1) u1 (by omega) (h.step hl (b := 941 + j) (by unfold isB; omega) (by unfold lnB; rw [if_neg (by omega), if_neg (by omega), if_neg (by omega), if_neg (by omega), if_neg (by omega), if_neg (by omega), if_neg (by omega)]) ?_ (fun c bc hc => by unfold isB at bc; omega))
        rw [e]
        congr 1
        unfold adr
        rw [if_neg (by omega), if_neg (by omega), if_neg (by omega), if_neg (by omega), if_neg (by omega), if_neg (by omega), if_neg (by omega)]
        omega
  -- the costs of what waits
  have s7 : ∀ (m j : Nat) (u : JM), m + j = s 13 0 → KV lv (s 13 0) u0 (fun b => b < 540 ∨ (540 ≤ b ∧ b < 540 + j)) u → JVu E 2 YX8_keep K 249 [some (.ref 137), some (.int (nI lv)), some (.int (nI j))] [] u := by
    intro m
    induction m with
    | zero =>
      intro j u hm h
      obtain rfl : j = s 13 0 := by omega
      refine g_X8_keep_249 ⟨fun _ => s8 (s 13 0) 0 u (by omega) (h.mono fun c bc hc => by unfold isB at bc; omega), fun c => ?_⟩
      rw [q12 h] at c
      exact absurd (nI_le (Nat.le_refl _) (by omega)) c
    | succ m ih =>
      intro j u hm h
      refine g_X8_keep_249 ⟨fun c => ?_, fun _ => ⟨vpI (by omega) (by omega), l2, by decide, fun u1 e => ?_⟩⟩
      · rw [q12 h] at c
        exact absurd c (nI_ge (by omega) (by omega))
      · rw [hl', nI_cl (by omega), cl_0, cl_12] at e
        rw [nI_1]
        refine ih (j + 1) u1 (by omega) (h.step hl (b := 540 + j) (by unfold isB; omega) (by unfold lnB; rw [if_neg (by omega), if_neg (by omega), if_neg (by omega), if_neg (by omega), if_neg (by omega), if_neg (by omega), if_pos (by omega)]) ?_ (fun c bc hc => by unfold isB at bc; omega))
        rw [e]
        congr 1
        unfold adr
        rw [if_neg (by omega), if_neg (by omega), if_neg (by omega), if_neg (by omega), if_neg (by omega), if_neg (by omega), if_pos (by omega)]
        omega
  -- sums
  have s6 : ∀ (m j : Nat) (u : JM), m + j = 192 → KV lv (s 13 0) u0 (fun b => b < 340 ∨ (533 ≤ b ∧ b < 539) ∨ (341 ≤ b ∧ b < 341 + j)) u → JVu E 2 YX8_keep K 213 [some (.ref 137), some (.int (nI lv)), some (.int (nI j))] [] u := by
    intro m
    induction m with
    | zero =>
      intro j u hm h
      obtain rfl : j = 192 := by omega
      refine g_X8_keep_213 ⟨fun _ => s7 (s 13 0) 0 u (by omega) ⟨h.1, h.2.1, fun b hb d => h.2.2 b hb (by unfold isB at hb; omega)⟩, fun c => absurd (show (192 : Int32) ≤ nI 192 by decide) c⟩
    | succ m ih =>
      intro j u hm h
      refine g_X8_keep_213 ⟨fun c => absurd c (nI_ge (a := j) (b := 192) (by omega) (by omega)), fun _ => ⟨vpI (by omega) (by omega), l2, by decide, fun u1 e => ?_⟩⟩
      rw [hl', nI_cl (by omega), cl_0, cl_8] at e
      rw [nI_1]
      refine ih (j + 1) u1 (by omega) (h.step hl (b := 341 + j) (by unfold isB; omega) (by unfold lnB; rw [if_neg (by omega), if_neg (by omega), if_neg (by omega), if_neg (by omega), if_pos (by omega)]) ?_ (fun c bc hc => by unfold isB at bc; omega))
      rw [e]
      congr 1
      unfold adr
      rw [if_neg (by omega), if_neg (by omega), if_neg (by omega), if_neg (by omega), if_pos (by omega)]
      omega
  -- told
  have s5 : ∀ (m j : Nat) (u : JM), m + j = 192 → KV lv (s 13 0) u0 (fun b => b < 147 ∨ (533 ≤ b ∧ b < 539) ∨ (148 ≤ b ∧ b < 148 + j)) u → JVu E 2 YX8_keep K 177 [some (.ref 137), some (.int (nI lv)), some (.int (nI j))] [] u := by
    intro m
    induction m with
    | zero =>
      intro j u hm h
      obtain rfl : j = 192 := by omega
      refine g_X8_keep_177 ⟨fun _ => s6 192 0 u (by omega) ⟨h.1, h.2.1, fun b hb d => h.2.2 b hb (by unfold isB at hb; omega)⟩, fun c => absurd (show (192 : Int32) ≤ nI 192 by decide) c⟩
    | succ m ih =>
      intro j u hm h
      refine g_X8_keep_177 ⟨fun c => absurd c (nI_ge (a := j) (b := 192) (by omega) (by omega)), fun _ => ⟨vpI (by omega) (by omega), l2, by decide, fun u1 e => ?_⟩⟩
      rw [hl', nI_cl (by omega), cl_0, cl_12] at e
      rw [nI_1]
      refine ih (j + 1) u1 (by omega) (h.step hl (b := 148 + j) (by unfold isB; omega) (by unfold lnB; rw [if_neg (by omega), if_neg (by omega), if_neg (by omega), if_pos (by omega)]) ?_ (fun c bc hc => by unfold isB at bc; omega))
      rw [e]
      congr 1
      unfold adr
      rw [if_neg (by omega), if_neg (by omega), if_neg (by omega), if_pos (by omega)]
      omega
  -- what waits
  have s4 : ∀ (m j : Nat) (u : JM), m + j = 6 → KV lv (s 13 0) u0 (fun b => b < 147 ∨ (533 ≤ b ∧ b < 533 + j)) u → JVu E 2 YX8_keep K 138 [some (.ref 137), some (.int (nI lv)), some (.int (nI j))] [] u := by
    intro m
    induction m with
    | zero =>
      intro j u hm h
      obtain rfl : j = 6 := by omega
      refine g_X8_keep_138 ⟨fun _ => s5 192 0 u (by omega) (h.mono fun c bc hc => by unfold isB at bc; omega), fun c => absurd (show (6 : Int32) ≤ nI 6 by decide) c⟩
    | succ m ih =>
      intro j u hm h
      have e6 : (6 * nI lv + nI j : Int32) = nI (6 * lv + j) := lv_add (c := 6)
      refine g_X8_keep_138 ⟨fun c => absurd c (nI_ge (a := j) (b := 6) (by omega) (by omega)), fun _ => ⟨vpI (by omega) (by omega), ?_⟩⟩
      rw [e6]
      refine ⟨vpI (by omega) (by omega), b0 (q12 h) (by omega) (by omega), fun u1 e => ?_⟩
      rw [nI_cl (show j < 2147483648 by omega), nI_cl (show 6 * lv + j < 2147483648 by omega), cl_0, q12 h, nI_cl (show s 13 0 < 2147483648 by omega)] at e
      rw [nI_1]
      refine ih (j + 1) u1 (by omega) (h.step hl (b := 533 + j) (by unfold isB; omega) (n := s 13 0) (by unfold lnB; rw [if_neg (by omega), if_neg (by omega), if_neg (by omega), if_neg (by omega), if_neg (by omega), if_pos (by omega)]) ?_ (fun c bc hc => by unfold isB at bc; omega))
      rw [e]
      congr 1
      unfold adr
      rw [if_neg (by omega), if_neg (by omega), if_neg (by omega), if_neg (by omega), if_neg (by omega), if_pos (by omega)]
      omega
  -- what is known
  have s3 : ∀ (m j : Nat) (u : JM), m + j = 4 → KV lv (s 13 0) u0 (fun b => b < 143 ∨ (143 ≤ b ∧ b < 143 + j)) u → JVu E 2 YX8_keep K 102 [some (.ref 137), some (.int (nI lv)), some (.int (nI j))] [] u := by
    intro m
    induction m with
    | zero =>
      intro j u hm h
      obtain rfl : j = 4 := by omega
      refine g_X8_keep_102 ⟨fun _ => s4 6 0 u (by omega) (h.mono fun c bc hc => by unfold isB at bc; omega), fun c => absurd (show (4 : Int32) ≤ nI 4 by decide) c⟩
    | succ m ih =>
      intro j u hm h
      have e6 : (4 * nI lv + nI j : Int32) = nI (4 * lv + j) := lv_add (c := 4)
      refine g_X8_keep_102 ⟨fun c => absurd c (nI_ge (a := j) (b := 4) (by omega) (by omega)), fun _ => ⟨vpI (by omega) (by omega), ?_⟩⟩
      rw [e6]
      refine ⟨vpI (by omega) (by omega), by decide, fun u1 e => ?_⟩
      rw [nI_cl (show j < 2147483648 by omega), nI_cl (show 4 * lv + j < 2147483648 by omega), cl_0, show (192 : Int32).toNatClampNeg = 192 from rfl] at e
      rw [nI_1]
      refine ih (j + 1) u1 (by omega) (h.step hl (b := 143 + j) (by unfold isB; omega) (by unfold lnB; rw [if_neg (by omega), if_neg (by omega), if_pos (by omega)]) ?_ (fun c bc hc => by unfold isB at bc; omega))
      rw [e]
      congr 1
      unfold adr
      rw [if_neg (by omega), if_neg (by omega), if_pos (by omega)]
      omega
  -- links
  have s1 : ∀ (m j : Nat) (u : JM), m + j = 4 → KV lv (s 13 0) u0 (fun b => 138 ≤ b ∧ b < 138 + j) u → JVu E 2 YX8_keep K 50 [some (.ref 137), some (.int (nI lv)), some (.int (nI j))] [] u := by
    intro m
    induction m with
    | zero =>
      intro j u hm h
      obtain rfl : j = 4 := by omega
      refine g_X8_keep_50 ⟨fun _ => ⟨l2, by decide, fun u1 e => ?_⟩, fun c => absurd (show (4 : Int32) ≤ nI 4 by decide) c⟩
      rw [hl', cl_0, show (24 : Int32).toNatClampNeg = 24 from rfl] at e
      exact s3 4 0 u1 (by omega) (h.step hl (b := 142) (by unfold isB; omega) rfl e (fun c bc hc => by unfold isB at bc; omega))
    | succ m ih =>
      intro j u hm h
      have e6 : (4 * nI lv + nI j : Int32) = nI (4 * lv + j) := lv_add (c := 4)
      refine g_X8_keep_50 ⟨fun c => absurd c (nI_ge (a := j) (b := 4) (by omega) (by omega)), fun _ => ⟨vpI (by omega) (by omega), ?_⟩⟩
      rw [e6]
      refine ⟨vpI (by omega) (by omega), by decide, fun u1 e => ?_⟩
      rw [nI_cl (show j < 2147483648 by omega), nI_cl (show 4 * lv + j < 2147483648 by omega), cl_0, cl_12] at e
      rw [nI_1]
      refine ih (j + 1) u1 (by omega) (h.step hl (b := 138 + j) (by unfold isB; omega) (by unfold lnB; rw [if_pos (by omega)]) ?_ (fun c bc hc => by unfold isB at bc; omega))
      rw [e]
      congr 1
      unfold adr
      rw [if_pos (by omega)]
      omega
  refine s1 4 0 u4 (by omega) ⟨fun a ha => ?_, fun f hf => ?_, fun b hb d => by omega⟩
  · have h7 : a ≠ 1347 + lv := fun q => ha (Or.inl q)
    rw [e4, jw_ne h7, e3, jw_ne h7, e2, jw_ne h7, e1, jw_ne h7]
  · have r : ∀ {v w : JM} {j : Nat} {x : Int32}, v = jw w (1347 + lv) j x → v 137 = w 137 := fun q => by rw [q, jw_ne (by omega)]
    have r1 := r e1
    have r2 := r e2
    have r3 := r e3
    rw [r1] at e2
    rw [r2, r1] at e3
    rw [r3, r2, r1] at e4
    rcases hf with rfl | rfl | rfl | rfl
    · rw [show fiA 0 = 0 from rfl, e4, jw_at, if_neg (by decide), e3, jw_at, if_neg (by decide), e2, jw_at, if_neg (by decide), e1, jw_at, if_pos rfl]
    · rw [show fiA 12 = 1 from rfl, e4, jw_at, if_neg (by decide), e3, jw_at, if_neg (by decide), e2, jw_at, if_pos rfl]
    · rw [show fiA 13 = 2 from rfl, e4, jw_at, if_neg (by decide), e3, jw_at, if_pos rfl]
    · rw [show fiA 14 = 3 from rfl, e4, jw_at, if_pos rfl]
