/-! the reference: laid back -/
def inB : Nat → Prop := fun b => 138 ≤ b ∧ b ≤ 1340
def fdB : Nat → Prop := fun f => f = 0 ∨ f = 12 ∨ f = 13 ∨ f = 14
/-- rows laid back so far -/
def LV (lv m : Nat) (u0 : JM) (D : Nat → Prop) (u : JM) : Prop := sF inB fdB u0 u ∧ (∀ f, f = 0 ∨ f = 12 ∨ f = 13 ∨ f = 14 → u 137 f = u0 (1347 + lv) (fiA f)) ∧ ∀ b, isB b → D b → ∀ j, j < lnB m b → u b j = u0 (adr lv b) j
theorem LV.step {lv m : Nat} {u0 u u' : JM} {D D' : Nat → Prop} (h : LV lv m u0 D u) {b n a : Nat} (hb : isB b) (hn : n = lnB m b) (ea : a = adr lv b) (e : u' = jcp u a 0 b 0 n) (hD : ∀ c, isB c → D' c → D c ∨ c = b) : LV lv m u0 D' u' := by
  obtain ⟨h1, h2, h3⟩ := h
  have hg := adr_ge (lv := lv) hb
  have o : ∀ a, a ≠ b → u' a = u a := fun a ha => by rw [e, jcp_ne ha]
  have hb' := hb
  unfold isB at hb'
  refine ⟨h1.trans ⟨fun a h7 ha => o a (fun q => ha (by unfold inB; omega)), fun f hf => by rw [o 137 (by omega)]⟩, fun f hf => by rw [o 137 (by omega)]; exact h2 f hf, fun c hc dc j hj => ?_⟩
  by_cases q : c = b
  · subst q
    rw [e, jcp_at, if_pos (by omega), show 0 + (j - 0) = j by omega, ea, h1.1 _ (by omega) (by unfold inB; omega)]
  · rw [o _ q]
    exact h3 c hc ((hD c hc dc).resolve_right q) j hj
theorem LV.mono {lv m : Nat} {u0 u : JM} {D D' : Nat → Prop} (h : LV lv m u0 D u) (hD : ∀ c, isB c → D' c → D c) : LV lv m u0 D' u := ⟨h.1, h.2.1, fun b hb d => h.2.2 b hb (hD b hb d)⟩
theorem c_X8_layBack {E : JE} {u0 : JM} {K : JM → Prop} {s : St} {lv : Nat} (hl : lv < 2) (hN : QN s (asd lv u0)) (h12 : s 0 0 ≤ 12) (h192 : s 13 0 ≤ 192)
    (k : ∀ u, sF inB fdB u0 u → QN s u → K u) : JCu E 2 YX8_layBack [.ref 137, .int (nI lv)] K u0 := by
  have em : u0 (1347 + lv) 1 = nI (s 13 0) := hN.2.2.1.1
  have hl' : (nI lv).toNatClampNeg = lv := nI_cl (by omega)
  have l2 : vp_in (nI lv) 2 := vpI hl (by omega)
  refine JCu.ofV (ls := [some (.ref 137), some (.int (nI lv)), none]) (by decide +kernel) (Nat.le_of_ble_eq_true rfl) rfl rfl (g_X8_layBack_0 ?_)
  refine ⟨l2, fun u1 e1 u2 e2 u3 e3 u4 e4 => ?_⟩
  rw [hl'] at e1 e2 e3 e4
  rw [show (0 : Int32).toNatClampNeg = 0 from rfl] at e1
  rw [show (1 : Int32).toNatClampNeg = 1 from rfl] at e2
  rw [show (2 : Int32).toNatClampNeg = 2 from rfl] at e3
  rw [show (3 : Int32).toNatClampNeg = 3 from rfl] at e4
  have q12 : ∀ {D : Nat → Prop} {u : JM}, LV lv (s 13 0) u0 D u → u 137 12 = nI (s 13 0) := fun h => by rw [h.2.1 12 (by omega)]; exact em
  -- the sums of what waits
  have s8 : ∀ (m j : Nat) (u : JM), m + j = s 13 0 → LV lv (s 13 0) u0 (fun b => b < 940 ∧ (540 ≤ b → b < 540 + s 13 0) ∨ (941 ≤ b ∧ b < 941 + j)) u → JVu E 2 YX8_layBack K 286 [some (.ref 137), some (.int (nI lv)), some (.int (nI j))] [] u := by
    intro m
    induction m with
    | zero =>
      intro j u hm h
      obtain rfl : j = s 13 0 := by omega
      refine g_X8_layBack_286 ⟨fun _ => k u h.1 (hN.pt h12 (by omega) ⟨fun f hf => ?_, fun b hb hb2 j hj => ?_⟩), fun c => ?_⟩
      · rw [h.2.1 f hf]
        show _ = (if 137 = 137 then u0 (1347 + lv) (fiA f) else _)
        rw [if_pos rfl]
      · have hb' := hb
        unfold isB at hb'
        rw [h.2.2 b hb (by omega) j hj]
        show _ = (if b = 137 then _ else u0 (adr lv b) j)
        rw [if_neg (by omega)]
      · rw [q12 h] at c
        exact absurd (nI_le (Nat.le_refl _) (by omega)) c
    | succ m ih =>
      intro j u hm h
      refine g_X8_layBack_286 ⟨fun c => ?_, fun _ => ⟨l2, vpI (by omega) (by omega), by decide, fun u1 e => ?_⟩⟩
      · rw [q12 h] at c
        exact absurd c (nI_ge (by omega) (by omega))
      · rw [hl', nI_cl (by omega), cl_0, cl_8] at e
        rw [nI_1]
        refine ih (j + 1) u1 (by omega) (h.step (b := 941 + j) (by unfold isB; omega) (by unfold lnB; rw [if_neg (by omega), if_neg (by omega), if_neg (by omega), if_neg (by omega), if_neg (by omega), if_neg (by omega), if_neg (by omega)]) ?_ e (fun c bc hc => by unfold isB at bc; omega))
        unfold adr
        rw [if_neg (by omega), if_neg (by omega), if_neg (by omega), if_neg (by omega), if_neg (by omega), if_neg (by omega), if_neg (by omega)]
        omega
  -- the costs of what waits
  have s7 : ∀ (m j : Nat) (u : JM), m + j = s 13 0 → LV lv (s 13 0) u0 (fun b => b < 540 ∨ (540 ≤ b ∧ b < 540 + j)) u → JVu E 2 YX8_layBack K 249 [some (.ref 137), some (.int (nI lv)), some (.int (nI j))] [] u := by
    intro m
    induction m with
    | zero =>
      intro j u hm h
      obtain rfl : j = s 13 0 := by omega
      refine g_X8_layBack_249 ⟨fun _ => s8 (s 13 0) 0 u (by omega) (h.mono fun c bc hc => by unfold isB at bc; omega), fun c => ?_⟩
      rw [q12 h] at c
      exact absurd (nI_le (Nat.le_refl _) (by omega)) c
    | succ m ih =>
      intro j u hm h
      refine g_X8_layBack_249 ⟨fun c => ?_, fun _ => ⟨l2, vpI (by omega) (by omega), by decide, fun u1 e => ?_⟩⟩
      · rw [q12 h] at c
        exact absurd c (nI_ge (by omega) (by omega))
      · rw [hl', nI_cl (by omega), cl_0, cl_12] at e
        rw [nI_1]
        refine ih (j + 1) u1 (by omega) (h.step (b := 540 + j) (by unfold isB; omega) (by unfold lnB; rw [if_neg (by omega), if_neg (by omega), if_neg (by omega), if_neg (by omega), if_neg (by omega), if_neg (by omega), if_pos (by omega)]) ?_ e (fun c bc hc => by unfold isB at bc; omega))
        unfold adr
        rw [if_neg (by omega), if_neg (by omega), if_neg (by omega), if_neg (by omega), if_neg (by omega), if_neg (by omega), if_pos (by omega)]
        omega
  -- sums
  have s6 : ∀ (m j : Nat) (u : JM), m + j = 192 → LV lv (s 13 0) u0 (fun b => b < 340 ∨ (533 ≤ b ∧ b < 539) ∨ (341 ≤ b ∧ b < 341 + j)) u → JVu E 2 YX8_layBack K 213 [some (.ref 137), some (.int (nI lv)), some (.int (nI j))] [] u := by
    intro m
    induction m with
    | zero =>
      intro j u hm h
      obtain rfl : j = 192 := by omega
      refine g_X8_layBack_213 ⟨fun _ => s7 (s 13 0) 0 u (by omega) ⟨h.1, h.2.1, fun b hb d => h.2.2 b hb (by unfold isB at hb; omega)⟩, fun c => absurd (show (192 : Int32) ≤ nI 192 by decide) c⟩
    | succ m ih =>
      intro j u hm h
      refine g_X8_layBack_213 ⟨fun c => absurd c (nI_ge (a := j) (b := 192) (by omega) (by omega)), fun _ => ⟨l2, vpI (by omega) (by omega), by decide, fun u1 e => ?_⟩⟩
      rw [hl', nI_cl (by omega), cl_0, cl_8] at e
      rw [nI_1]
      refine ih (j + 1) u1 (by omega) (h.step (b := 341 + j) (by unfold isB; omega) (by unfold lnB; rw [if_neg (by omega), if_neg (by omega), if_neg (by omega), if_neg (by omega), if_pos (by omega)]) ?_ e (fun c bc hc => by unfold isB at bc; omega))
      unfold adr
      rw [if_neg (by omega), if_neg (by omega), if_neg (by omega), if_neg (by omega), if_pos (by omega)]
      omega
  -- told
  have s5 : ∀ (m j : Nat) (u : JM), m + j = 192 → LV lv (s 13 0) u0 (fun b => b < 147 ∨ (533 ≤ b ∧ b < 539) ∨ (148 ≤ b ∧ b < 148 + j)) u → JVu E 2 YX8_layBack K 177 [some (.ref 137), some (.int (nI lv)), some (.int (nI j))] [] u := by
    intro m
    induction m with
    | zero =>
      intro j u hm h
      obtain rfl : j = 192 := by omega
      refine g_X8_layBack_177 ⟨fun _ => s6 192 0 u (by omega) ⟨h.1, h.2.1, fun b hb d => h.2.2 b hb (by unfold isB at hb; omega)⟩, fun c => absurd (show (192 : Int32) ≤ nI 192 by decide) c⟩
    | succ m ih =>
      intro j u hm h
      refine g_X8_layBack_177 ⟨fun c => absurd c (nI_ge (a := j) (b := 192) (by omega) (by omega)), fun _ => ⟨l2, vpI (by omega) (by omega), by decide, fun u1 e => ?_⟩⟩
      rw [hl', nI_cl (by omega), cl_0, cl_12] at e
      rw [nI_1]
      refine ih (j + 1) u1 (by omega) (h.step (b := 148 + j) (by unfold isB; omega) (by unfold lnB; rw [if_neg (by omega), if_neg (by omega), if_neg (by omega), if_pos (by omega)]) ?_ e (fun c bc hc => by unfold isB at bc; omega))
      unfold adr
      rw [if_neg (by omega), if_neg (by omega), if_neg (by omega), if_pos (by omega)]
      omega
  -- what waits
  have s4 : ∀ (m j : Nat) (u : JM), m + j = 6 → LV lv (s 13 0) u0 (fun b => b < 147 ∨ (533 ≤ b ∧ b < 533 + j)) u → JVu E 2 YX8_layBack K 138 [some (.ref 137), some (.int (nI lv)), some (.int (nI j))] [] u := by
    intro m
    induction m with
    | zero =>
      intro j u hm h
      obtain rfl : j = 6 := by omega
      refine g_X8_layBack_138 ⟨fun _ => s5 192 0 u (by omega) (h.mono fun c bc hc => by unfold isB at bc; omega), fun c => absurd (show (6 : Int32) ≤ nI 6 by decide) c⟩
    | succ m ih =>
      intro j u hm h
      have e6 : (6 * nI lv + nI j : Int32) = nI (6 * lv + j) := lv_add (c := 6)
      refine g_X8_layBack_138 ⟨fun c => absurd c (nI_ge (a := j) (b := 6) (by omega) (by omega)), fun _ => ?_⟩
      rw [e6]
      refine ⟨vpI (by omega) (by omega), vpI (by omega) (by omega), b0 (q12 h) (by omega) (by omega), fun u1 e => ?_⟩
      rw [nI_cl (show j < 2147483648 by omega), nI_cl (show 6 * lv + j < 2147483648 by omega), cl_0, q12 h, nI_cl (show s 13 0 < 2147483648 by omega)] at e
      rw [nI_1]
      refine ih (j + 1) u1 (by omega) (h.step (b := 533 + j) (by unfold isB; omega) (n := s 13 0) (by unfold lnB; rw [if_neg (by omega), if_neg (by omega), if_neg (by omega), if_neg (by omega), if_neg (by omega), if_pos (by omega)]) ?_ e (fun c bc hc => by unfold isB at bc; omega))
      unfold adr
      rw [if_neg (by omega), if_neg (by omega), if_neg (by omega), if_neg (by omega), if_neg (by omega), if_pos (by omega)]
      omega
  -- what is known
  have s3 : ∀ (m j : Nat) (u : JM), m + j = 4 → LV lv (s 13 0) u0 (fun b => b < 143 ∨ (143 ≤ b ∧ b < 143 + j)) u → JVu E 2 YX8_layBack K 102 [some (.ref 137), some (.int (nI lv)), some (.int (nI j))] [] u := by
    intro m
    induction m with
    | zero =>
      intro j u hm h
      obtain rfl : j = 4 := by omega
      refine g_X8_layBack_102 ⟨fun _ => s4 6 0 u (by omega) (h.mono fun c bc hc => by unfold isB at bc; omega), fun c => absurd (show (4 : Int32) ≤ nI 4 by decide) c⟩
    | succ m ih =>
      intro j u hm h
      have e6 : (4 * nI lv + nI j : Int32) = nI (4 * lv + j) := lv_add (c := 4)
      refine g_X8_layBack_102 ⟨fun c => absurd c (nI_ge (a := j) (b := 4) (by omega) (by omega)), fun _ => ?_⟩
      rw [e6]
      refine ⟨vpI (by omega) (by omega), vpI (by omega) (by omega), by decide, fun u1 e => ?_⟩
      rw [nI_cl (show j < 2147483648 by omega), nI_cl (show 4 * lv + j < 2147483648 by omega), cl_0, show (192 : Int32).toNatClampNeg = 192 from rfl] at e
      rw [nI_1]
      refine ih (j + 1) u1 (by omega) (h.step (b := 143 + j) (by unfold isB; omega) (by unfold lnB; rw [if_neg (by omega), if_neg (by omega), if_pos (by omega)]) ?_ e (fun c bc hc => by unfold isB at bc; omega))
      unfold adr
      rw [if_neg (by omega), if_neg (by omega), if_pos (by omega)]
      omega
  -- links
  have s1 : ∀ (m j : Nat) (u : JM), m + j = 4 → LV lv (s 13 0) u0 (fun b => 138 ≤ b ∧ b < 138 + j) u → JVu E 2 YX8_layBack K 50 [some (.ref 137), some (.int (nI lv)), some (.int (nI j))] [] u := by
    intro m
    induction m with
    | zero =>
      intro j u hm h
      obtain rfl : j = 4 := by omega
      refine g_X8_layBack_50 ⟨fun _ => ⟨l2, by decide, fun u1 e => ?_⟩, fun c => absurd (show (4 : Int32) ≤ nI 4 by decide) c⟩
      rw [hl', cl_0, show (24 : Int32).toNatClampNeg = 24 from rfl] at e
      exact s3 4 0 u1 (by omega) (h.step (b := 142) (by unfold isB; omega) rfl (by unfold adr; rw [if_neg (by omega), if_pos rfl]) e (fun c bc hc => by unfold isB at bc; omega))
    | succ m ih =>
      intro j u hm h
      have e6 : (4 * nI lv + nI j : Int32) = nI (4 * lv + j) := lv_add (c := 4)
      refine g_X8_layBack_50 ⟨fun c => absurd c (nI_ge (a := j) (b := 4) (by omega) (by omega)), fun _ => ?_⟩
      rw [e6]
      refine ⟨vpI (by omega) (by omega), vpI (by omega) (by omega), by decide, fun u1 e => ?_⟩
      rw [nI_cl (show j < 2147483648 by omega), nI_cl (show 4 * lv + j < 2147483648 by omega), cl_0, cl_12] at e
      rw [nI_1]
      refine ih (j + 1) u1 (by omega) (h.step (b := 138 + j) (by unfold isB; omega) (by unfold lnB; rw [if_pos (by omega)]) ?_ e (fun c bc hc => by unfold isB at bc; omega))
      unfold adr
      rw [if_pos (by omega)]
      omega
  have z : ∀ {v w : JM} {f : Nat} {x : Int32}, v = jw w 137 f x → v (1347 + lv) = w (1347 + lv) := fun q => by rw [q, jw_ne (by omega)]
  have z1 := z e1
  have z2 := z e2
  have z3 := z e3
  rw [z1] at e2
  rw [z2, z1] at e3
  rw [z3, z2, z1] at e4
  refine s1 4 0 u4 (by omega) ⟨⟨fun a h7 ha => by rw [e4, jw_ne h7, e3, jw_ne h7, e2, jw_ne h7, e1, jw_ne h7], fun f hf => ?_⟩, fun f hf => ?_, fun b hb d => by omega⟩
  · unfold fdB at hf
    rw [e4, jw_at, if_neg (by omega), e3, jw_at, if_neg (by omega), e2, jw_at, if_neg (by omega), e1, jw_at, if_neg (by omega)]
  · rcases hf with rfl | rfl | rfl | rfl
    · rw [show fiA 0 = 0 from rfl, e4, jw_at, if_neg (by decide), e3, jw_at, if_neg (by decide), e2, jw_at, if_neg (by decide), e1, jw_at, if_pos rfl]
    · rw [show fiA 12 = 1 from rfl, e4, jw_at, if_neg (by decide), e3, jw_at, if_neg (by decide), e2, jw_at, if_pos rfl]
    · rw [show fiA 13 = 2 from rfl, e4, jw_at, if_neg (by decide), e3, jw_at, if_pos rfl]
    · rw [show fiA 14 = 3 from rfl, e4, jw_at, if_pos rfl]
