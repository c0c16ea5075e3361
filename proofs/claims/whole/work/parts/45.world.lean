/-! the class's world: nets, the image, sheets -/
abbrev Sh : Type := (Nat → Int32) × (Nat → Nat) × (Nat → Nat → Int32)
/-- live net, kept net, whether one is kept, sheets -/
abbrev Wd : Type := St × St × Bool × Sh
def CS (h : Sh) (u : JM) : Prop := ∀ i, i < 4 → u 130 i = h.1 i ∧ u 131 i = nI (h.2.1 i) ∧ ∀ j, j < 40 → u (133 + i) j = h.2.2 i j
def WS (h : Sh) : Prop := ∀ i, i < 4 → (h.1 i = -1 ∨ h.1 i = 0 ∨ h.1 i = 1) ∧ h.2.1 i ≤ 40
def CW (w : Wd) (u : JM) : Prop := CN 1 w.1 u ∧ (∀ row, row < 192 → u 61 row = 0) ∧ (∀ row, row < 192 → u 97 row = 0) ∧ u 0 3 = (if w.2.2.1 = true then 1 else 0) ∧ (w.2.2.1 = true → CN 73 w.2.1 u) ∧ CS w.2.2.2 u
/-- well formed, ticks up to T -/
def WW (w : Wd) (T : Nat) : Prop := NW w.1 ∧ w.1 21 0 ≤ T ∧ (w.2.2.1 = true → NW w.2.1 ∧ w.2.1 21 0 ≤ T) ∧ WS w.2.2.2
def inC : Nat → Prop := fun b => b < 137
/-- cells that no picture holds -/
def scr : Nat → Prop := fun b => b = 9 ∨ (27 ≤ b ∧ b < 73 ∧ b ≠ 61) ∨ b = 81 ∨ (109 ≤ b ∧ b ≤ 128)
theorem CS.congr {h : Sh} {u u' : JM} (c : CS h u) (e : ∀ b, 130 ≤ b → b ≤ 136 → u' b = u b) : CS h u' := by
  intro i hi
  obtain ⟨c1, c2, c3⟩ := c i hi
  rw [e 130 (by omega) (by omega), e 131 (by omega) (by omega), e (133 + i) (by omega) (by omega)]
  exact ⟨c1, c2, c3⟩
theorem CW.th {w : Wd} {u u' : JM} (c : CW w u) (hs : same u u' (fun b => scr b ∨ b = 61)) (hz : ∀ row, row < 192 → u' 61 row = 0) : CW w u' := by
  obtain ⟨c1, c2, c3, c4, c5, c6⟩ := c
  refine ⟨c1.draft fun b h1 h2 h3 => hs b (by unfold scr; omega), hz, fun row hr => by rw [hs 97 (by unfold scr; omega)]; exact c3 row hr, by rw [hs 0 (by unfold scr; omega)]; exact c4, fun q => (c5 q).draft fun b h1 h2 h3 => hs b (by unfold scr; omega), c6.congr fun b h1 h2 => hs b (by unfold scr; omega)⟩
theorem CW.sc {w : Wd} {u u' : JM} (c : CW w u) (hs : same u u' scr) : CW w u' :=
  c.th (hs.mono fun b q => Or.inl q) fun row hr => by rw [hs 61 (by unfold scr; omega)]; exact c.2.1 row hr
theorem isN1 : isNet 1 := Or.inl rfl
theorem isN37 : isNet 37 := Or.inr (Or.inl rfl)
theorem isN73 : isNet 73 := Or.inr (Or.inr rfl)
/-- the live net changed -/
theorem CW.live {w : Wd} {s' : St} {u u' : JM} (c : CW w u) (hs : same u u' (inNet 1)) (h : CN 1 s' u') : CW (s', w.2) u' := by
  obtain ⟨c1, c2, c3, c4, c5, c6⟩ := c
  have e : ∀ b, b = 0 ∨ 37 ≤ b → u' b = u b := fun b hb => hs b (by unfold inNet; omega)
  refine ⟨h, fun row hr => by rw [e 61 (by omega)]; exact c2 row hr, fun row hr => by rw [e 97 (by omega)]; exact c3 row hr, by rw [e 0 (by omega)]; exact c4, fun q => (c5 q).draft fun b h1 h2 h3 => e b (by omega), c6.congr fun b h1 h2 => e b (by omega)⟩
/-- a number that is a link's -/
abbrev isLk (n : Nat) (a : Int32) : Prop := 0 ≤ a.toInt ∧ a.toInt < n
theorem isLk_nI {n : Nat} {a : Int32} (hn : n ≤ 12) : (0 ≤ a.toInt ∧ a.toInt < (nI n).toInt) ↔ isLk n a := by rw [nI_toInt (by omega)]
theorem lk_nI {n : Nat} {a : Int32} (hn : n ≤ 12) (h : isLk n a) : ∃ k, k < n ∧ a = nI k := by
  obtain ⟨k, h1, h2⟩ := rg_nI (a := a) (hi := n - 1) (by omega) ⟨h.1, by have := h.2; omega⟩
  refine ⟨k, ?_, h2⟩
  have h3 := h.2
  rw [h2, nI_toInt (by omega)] at h3
  omega
theorem lk_of {n k : Nat} (hn : n ≤ 12) (h : k < n) : isLk n (nI k) := by
  unfold isLk
  rw [nI_toInt (by omega)]
  omega
theorem rg1_nI {a : Int32} {hi : Nat} (hh : hi < 2147483647) (h : rg a 1 hi) : ∃ k, 1 ≤ k ∧ k ≤ hi ∧ a = nI k := by
  obtain ⟨k, h1, h2⟩ := rg_nI (a := a) (hi := hi) hh ⟨by have := h.1; omega, h.2⟩
  refine ⟨k, ?_, h1, h2⟩
  have h3 := h.1
  rw [h2, nI_toInt (by omega)] at h3
  omega
theorem rg_of {k hi : Nat} (h : k ≤ hi) (hh : hi < 2147483647) : rg (nI k) 0 hi := by
  unfold rg
  rw [nI_toInt (by omega)]
  omega
theorem rt_nI {a : Int32} (h : rg a 0 7) : ∃ k, k < 8 ∧ a = nI k := by
  obtain ⟨k, h1, h2⟩ := rg_nI (a := a) (hi := 7) (by decide) h
  exact ⟨k, by omega, h2⟩
theorem ar_nI {a : Int32} (h : rg a 0 2) : ∃ k, k < 3 ∧ a = nI k := by
  obtain ⟨k, h1, h2⟩ := rg_nI (a := a) (hi := 2) (by decide) h
  exact ⟨k, by omega, h2⟩
theorem sh_nI {a : Int32} (h : rg a 0 3) : ∃ k, k < 4 ∧ a = nI k := by
  obtain ⟨k, h1, h2⟩ := rg_nI (a := a) (hi := 3) (by decide) h
  exact ⟨k, by omega, h2⟩
/-- the first n: told, costs or state -/
theorem i32_le {a : Int32} {k : Nat} (hk : k < 2147483648) : a ≤ nI k ↔ a.toInt ≤ k := by rw [Int32.le_iff_toInt_le, nI_toInt hk]
theorem i32_lt {a : Int32} {k : Nat} (hk : k < 2147483648) : a < nI k ↔ a.toInt < k := by rw [Int32.lt_iff_toInt_lt, nI_toInt hk]
theorem i32_n {a : Int32} : ¬ a < 0 ↔ 0 ≤ a.toInt := by rw [Int32.lt_iff_toInt_lt, tI_0]; omega
/-! Sheets -/
def shP (h : Sh) (i j : Nat) (v : Int32) : Sh := (h.1, h.2.1, fun i' j' => if i' = i ∧ j' = j then (if h.1 i = 0 then v.toInt16.toInt32 else v) else h.2.2 i' j')
def shB (h : Sh) (i : Nat) (so : Int32) (n : Nat) : Sh := (fun i' => if i' = i then so else h.1 i', fun i' => if i' = i then n else h.2.1 i', fun i' j' => if i' = i then 0 else h.2.2 i' j')
theorem kd_items {i : Nat} (h : i < 4) : jkd (133 + i) = .inr (.int, 40) := by
  rcases (show i = 0 ∨ i = 1 ∨ i = 2 ∨ i = 3 by omega) with rfl | rfl | rfl | rfl <;> decide +kernel
theorem c_X5_become {E : JE} {u : JM} {K : JM → Prop} {h : Sh} (c : CS h u) {i n : Nat} {so : Int32} (hi : i < 4)
    (hK : ∀ u', same u u' (fun b => b = 130 ∨ b = 131 ∨ b = 133 + i) → CS (shB h i so n) u' → K u') : JCu E 2 YX5_become [.ref 129, .int (nI i), .int so, .int (nI n)] K u := by
  refine JCu.ofV (ls := [some (.ref 129), some (.int (nI i)), some (.int so), some (.int (nI n))]) (by decide +kernel) (Nat.le_of_ble_eq_true rfl) rfl rfl (g_X5_become_0 ?_)
  rw [nI_cl (show i < 2147483648 by omega)]
  refine ⟨vpI hi (by omega), fun u1 h1 u2 h2 => ?_⟩
  refine c_fill (kd_items hi) (by show _ < 3771; omega) (by decide) fun u3 s3 f3 => ?_
  have e : ∀ b, b ≠ 130 → b ≠ 131 → b ≠ 133 + i → u3 b = u b := fun b q1 q2 q3 => by rw [s3 b q3, h2, jw_ne q2, h1, jw_ne q1]
  refine hK u3 (fun b hb => e b (fun q => hb (Or.inl q)) (fun q => hb (Or.inr (Or.inl q))) (fun q => hb (Or.inr (Or.inr q)))) fun i' hi' => ?_
  obtain ⟨c1, c2, c3⟩ := c i' hi'
  refine ⟨?_, ?_, fun j hj => ?_⟩
  · rw [s3 130 (by omega), h2, jw_ne (by decide), h1, jw_at]
    show _ = if i' = i then so else h.1 i'
    rw [c1]
  · rw [s3 131 (by omega), h2, jw_at, h1, jw_ne (by decide)]
    show _ = nI (if i' = i then n else h.2.1 i')
    split
    · rfl
    · exact c2
  · show _ = if i' = i then 0 else h.2.2 i' j
    by_cases q : i' = i
    · rw [if_pos q, q]; exact f3 j hj
    · rw [if_neg q, e _ (by omega) (by omega) (by omega)]; exact c3 j hj
theorem c_X5_put {E : JE} {u : JM} {K : JM → Prop} {h : Sh} (c : CS h u) {i j : Nat} {v : Int32} (hi : i < 4) (hj : j < 40)
    (hK : ∀ u', same u u' (fun b => b = 133 + i) → CS (shP h i j v) u' → K u') : JCu E 1 YX5_put [.ref 129, .int (nI i), .int (nI j), .int v] K u := by
  refine JCu.ofV (ls := [some (.ref 129), some (.int (nI i)), some (.int (nI j)), some (.int v)]) (by decide +kernel) (Nat.le_of_ble_eq_true rfl) rfl rfl (g_X5_put_0 ?_)
  rw [nI_cl (show i < 2147483648 by omega), nI_cl (show j < 2147483648 by omega), (c i hi).1]
  refine ⟨vpI hi (by omega), fun x hx => ⟨vpI hj (by omega), fun u2 h2 => ?_⟩⟩
  refine hK u2 (fun b hb => by rw [h2, jw_ne hb]) fun i' hi' => ?_
  obtain ⟨c1, c2, c3⟩ := c i' hi'
  refine ⟨?_, ?_, fun j' hj' => ?_⟩
  · rw [h2, jw_ne (by omega)]; exact c1
  · rw [h2, jw_ne (by omega)]; exact c2
  · show _ = if i' = i ∧ j' = j then (if h.1 i = 0 then v.toInt16.toInt32 else v) else h.2.2 i' j'
    rw [h2]
    by_cases q : i' = i
    · subst q
      rw [jw_at]
      by_cases q2 : j' = j
      · rw [if_pos q2, if_pos ⟨rfl, q2⟩]; exact hx
      · rw [if_neg q2, if_neg (fun g => q2 g.2)]; exact c3 j' hj'
    · rw [jw_ne (by omega), if_neg (fun g => q g.1)]; exact c3 j' hj'
