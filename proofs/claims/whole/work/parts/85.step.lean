/-! a tick: numbers go over each link -/
def SYn (s : St) (B : Nat → Nat → Nat) : Prop := ∀ l y x, l < s 0 0 → s 6 l = 1 → isE s l y → x < 8 → x ≠ oth s l y → B x (s 3 l) < s 7 (rw8 y (s 3 l) x) → s 7 (rw8 y (s 3 l) x) ≤ s 7 (rw8 (oth s l y) (s 3 l) x) ∨ ∃ i, i < s 13 0 ∧ s 14 i = l ∧ s 15 i = oth s l y ∧ s 16 i = x ∧ s 7 (rw8 y (s 3 l) x) ≤ s 17 i
def MSn (s : St) (B : Nat → Nat → Nat) : Prop := ∀ i, i < s 13 0 → B (s 16 i) (s 3 (s 14 i)) < s 17 i → s 6 (s 14 i) = 1 ∧ isE s (s 14 i) (s 15 i) ∧ s 17 i ≤ s 7 (rw8 (oth s (s 14 i) (s 15 i)) (s 3 (s 14 i)) (s 16 i))
theorem isE_oth {s : St} (wL : WL s) {l y : Nat} (hl : l < s 0 0) (h : isE s l y) : isE s l (oth s l y) ∧ oth s l (oth s l y) = y ∧ y < 8 ∧ oth s l y < 8 := by
  obtain ⟨w1, w2, w3, -⟩ := wL.2 l hl
  unfold isE at h ⊢
  unfold oth
  rcases h with h | h
  · rw [if_pos h, if_neg (by omega)]
    exact ⟨Or.inr rfl, h, by omega, w2⟩
  · rw [if_neg (by omega), if_pos rfl]
    exact ⟨Or.inl rfl, h, by omega, w1⟩
theorem grA_row {s : St} {k : Nat} (hk : k < 192) : (dies (avS s) k = true ∧ grA s 7 k = 0) ∨ (dies (avS s) k = false ∧ grA s 7 k = avS s 7 k ∧ grA s 11 k = avS s 11 k ∧ grA s 12 k = avS s 12 k) := by
  unfold grA
  rw [grS_7, grS_11, grS_ne (c := 12) (by omega) (by omega) (by omega)]
  by_cases d : dies (avS s) k = true
  · rw [if_pos ⟨hk, d⟩]
    exact Or.inl ⟨d, rfl⟩
  · rw [if_neg (fun g => d g.2), if_neg (fun g => d g.2)]
    exact Or.inr ⟨Bool.not_eq_true _ ▸ d, rfl, rfl, rfl⟩
theorem avS_AV {s : St} (w : NW s) : (∀ y a x, y < 8 → a < 3 → x < 8 → AV s (avS s) (s 13 0) y a x) ∧ ∀ i, i < s 13 0 → s 6 (s 14 i) = 1 → s 15 i ≠ s 16 i → s 17 i ≤ avS s 7 (rw8 (s 15 i) (s 3 (s 14 i)) (s 16 i)) := by
  obtain ⟨h1, h2⟩ := arv_AV w.1 w.2.2.1 w.2.2.2.1 (s 13 0) (Nat.le_refl _)
  have e : ∀ c, c ≠ 13 → avS s c = arv s (s 13 0) c := fun c hc => set1_ne hc
  refine ⟨fun y a x hy ha hx => ?_, fun i hi u n => ?_⟩
  · have := h1 y a x hy ha hx
    unfold AV at this ⊢
    rw [e 7 (by omega), e 11 (by omega), e 12 (by omega), e 8 (by omega)]
    exact this
  · rw [e 7 (by omega)]
    exact h2 i hi u n
theorem up_tick {s : St} {y a x : Nat} (hy : y < 8) (ha : a < 3) (hx : x < 8) : grA s 7 (rw8 y a x) ≤ tickS s 7 (rw8 y a x) := by
  rw [tick_row s (by omega)]
  unfold tlA
  rcases tnA_7 (s := grA s) (rw8 y a x) 8 (Nat.le_refl 8) with e | ⟨q, b, -, -, -, e⟩ <;> rw [e] <;> omega
/-- what is above the threshold, doesn't die -/
theorem live_gr {s : St} {B M : Nat → Nat → Nat} {T : Nat} {J : Nat → Nat → Prop} (h : ROk (avS s) B M T J) (hT : T < 59) {y a x : Nat} (hy : y < 8) (ha : a < 3) (hx : x < 8) (hB : B x a < avS s 7 (rw8 y a x)) : grA s 7 (rw8 y a x) = avS s 7 (rw8 y a x) := by
  rcases grA_row (s := s) (rw8_lt hy ha hx) with ⟨d, -⟩ | ⟨-, e, -⟩
  · unfold dies at d
    have := of_decide_eq_true d
    have := ((h y a x hy ha hx).2 hB).1
    omega
  · exact e
section
variable {s : St} {B M : Nat → Nat → Nat} {T : Nat} {J : Nat → Nat → Prop}
theorem t_mono (w : NW s) (h : ROk s B M T J) (hm : MOk s B M T J) (hT : T < 59) {y a x : Nat} (hy : y < 8) (ha : a < 3) (hx : x < 8) (hB : B x a < s 7 (rw8 y a x)) : s 7 (rw8 y a x) ≤ tickS s 7 (rw8 y a x) := by
  have k := (avS_ROk w.1 w.2.2.1 h hm).1
  have a1 := ((avS_AV w).1 y a x hy ha hx).1
  have := live_gr k hT hy ha hx (by omega)
  have := up_tick (s := s) hy ha hx
  omega
theorem t_arr (w : NW s) (h : ROk s B M T J) (hm : MOk s B M T J) (hT : T < 59) {i : Nat} (hi : i < s 13 0) (u : s 6 (s 14 i) = 1) (n : s 15 i ≠ s 16 i) (hB : B (s 16 i) (s 3 (s 14 i)) < s 17 i) : s 17 i ≤ tickS s 7 (rw8 (s 15 i) (s 3 (s 14 i)) (s 16 i)) := by
  obtain ⟨w1, w2, w3, -⟩ := w.2.2.1.2 i hi
  have x4 := (w.1.2 _ w1).2.2.2.1
  have k := (avS_ROk w.1 w.2.2.1 h hm).1
  have a1 := (avS_AV w).2 i hi u n
  have := live_gr k hT w2 x4 w3 (by omega)
  have := up_tick (s := s) w2 x4 w3
  omega
theorem t_next (w : NW s) (h : ROk s B M T J) (hm : MOk s B M T J) (hT : T < 59) (hs : SYn s B) {l y x : Nat} (hl : l < s 0 0) (u : s 6 l = 1) (e : isE s l y) (hx : x < 8) (hn : x ≠ oth s l y) (hB : B x (s 3 l) < s 7 (rw8 y (s 3 l) x)) : s 7 (rw8 y (s 3 l) x) ≤ tickS s 7 (rw8 (oth s l y) (s 3 l) x) := by
  have a3 := (w.1.2 l hl).2.2.2.1
  obtain ⟨-, -, -, o8⟩ := isE_oth w.1 hl e
  rcases hs l y x hl u e hx hn hB with g | ⟨i, g1, g2, g3, g4, g5⟩
  · have := t_mono w h hm hT o8 a3 hx (y := oth s l y) (by omega)
    omega
  · have := t_arr w h hm hT g1 (by rw [g2]; exact u) (by rw [g3, g4]; exact fun q => hn q.symm) (by rw [g2, g4]; omega)
    rw [g2, g3, g4] at this
    omega
/-- a row that isn't sent on has the number it had; one sent on but not by a link, came by that link -/
theorem t_row (w : NW s) (hT2 : s 21 0 + 3 < 1000000000) (hms : MSn s B) {y a x : Nat} (hy : y < 8) (ha : a < 3) (hx : x < 8) (hB : B x a < tickS s 7 (rw8 y a x)) :
    (tlA s 11 (rw8 y a x) ≠ 1 → tickS s 7 (rw8 y a x) = s 7 (rw8 y a x)) ∧ ∀ l, tlA s 11 (rw8 y a x) = 1 → (tlA s 12 (rw8 y a x)).testBit l = true → s 3 l = a ∧ tickS s 7 (rw8 y a x) ≤ s 7 (rw8 (oth s l y) a x) := by
  rw [tick_row s (by omega)] at hB ⊢
  obtain ⟨a1, a2, a3, a4⟩ := (avS_AV w).1 y a x hy ha hx
  have nd : grA s 7 (rw8 y a x) ≠ 0 → grA s 7 (rw8 y a x) = avS s 7 (rw8 y a x) ∧ grA s 11 (rw8 y a x) = avS s 11 (rw8 y a x) ∧ grA s 12 (rw8 y a x) = avS s 12 (rw8 y a x) := fun q => by
    rcases grA_row (s := s) (rw8_lt hy ha hx) with ⟨-, e⟩ | ⟨-, e⟩
    · exact absurd e q
    · exact e
  by_cases own : x = y
  · subst own
    rcases grA_row (s := s) (rw8_lt hx ha hx) with ⟨d, -⟩ | ⟨-, d1, d2, d3⟩
    · rw [dies_own hx ha] at d
      exact absurd d (by decide)
    obtain ⟨b1, b2, -⟩ := a4 rfl
    rcases tlA_own (s := s) hx ha with ⟨e1, -, -, -, e5, -⟩ | ⟨-, -, e5, e6⟩
    · refine ⟨fun _ => by rw [e1, d1, b1], fun l f => ?_⟩
      rw [e5, d2] at f
      exact absurd f b2
    · refine ⟨fun q => absurd e5 q, fun l f b => ?_⟩
      rw [e6, Nat.zero_testBit] at b
      exact absurd b (by decide)
  · obtain ⟨e1, -, -, -, e5, e6⟩ := tnA_far (s := grA s) (y := y) ha hx own
    have e1' : tlA s 7 (rw8 y a x) = grA s 7 (rw8 y a x) := e1
    have e5' : tlA s 11 (rw8 y a x) = grA s 11 (rw8 y a x) := e5
    have e6' : tlA s 12 (rw8 y a x) = grA s 12 (rw8 y a x) := e6
    obtain ⟨d1, d2, d3⟩ := nd (by omega)
    rw [e5', d2, e6', d3, e1', d1]
    refine ⟨a2, fun l f b => ?_⟩
    obtain ⟨i, g1, g2, g3, g4, g5, g6⟩ := a3 l f b
    have := hms i g1 (by rw [g2, g4, g5, g6]; omega)
    rw [g2, g3, g4, g5, g6] at this
    exact ⟨g4, this.2.2⟩
theorem t_SYn (w : NW s) (hT2 : s 21 0 + 3 < 1000000000) (h : ROk s B M T J) (hm : MOk s B M T J) (hT : T < 59) (hs : SYn s B) (hms : MSn s B) : SYn (tickS s) B ∧ MSn (tickS s) B := by
  obtain ⟨-, -, ⟨c1, -⟩⟩ := tick_W w hT2
  obtain ⟨s1, s2⟩ := tick_sent (s := s) c1
  have e : ∀ c, c < 7 → tickS s c = s c := fun c hc => tickS_ne (by omega)
  have eA : ∀ c, c < 7 → tlA s c = s c := fun c hc => tlA_st hc
  have eo : ∀ l y, oth (tickS s) l y = oth s l y := fun l y => by unfold oth; rw [e 1 (by omega), e 2 (by omega)]
  have eo' : ∀ l y, oth (tlA s) l y = oth s l y := fun l y => by unfold oth; rw [eA 1 (by omega), eA 2 (by omega)]
  have ei : ∀ l y, isE (tickS s) l y ↔ isE s l y := fun l y => by unfold isE; rw [e 1 (by omega), e 2 (by omega)]
  refine ⟨fun l y x hl u i hx hn hB => ?_, fun i hi hB => ?_⟩
  · rw [e 0 (by omega)] at hl
    rw [e 6 (by omega)] at u
    rw [ei] at i
    rw [eo] at hn
    rw [e 3 (by omega)] at hB ⊢
    rw [eo]
    have a3 := (w.1.2 l hl).2.2.2.1
    obtain ⟨i1, i2, y8, o8⟩ := isE_oth w.1 hl i
    obtain ⟨r1, r2⟩ := t_row w hT2 hms y8 a3 hx hB
    by_cases f : tlA s 11 (rw8 y (s 3 l) x) = 1
    · by_cases b : (tlA s 12 (rw8 y (s 3 l) x)).testBit l = true
      · obtain ⟨-, g⟩ := r2 l f b
        have := t_mono w h hm hT o8 a3 hx (y := oth s l y) (by omega)
        exact Or.inl (by omega)
      · have hr := rw8_lt y8 a3 hx
        have d : rw8 y (s 3 l) x / 24 = y := by unfold rw8; omega
        have fit : fitR (tlA s) (rw8 y (s 3 l) x) l = true := by
          rw [fitR_st eA]
          unfold fitR upB
          rw [d, rw8_a a3 hx, Bool.and_eq_true]
          exact ⟨decide_eq_true rfl, decide_eq_true ⟨u, i⟩⟩
        obtain ⟨j, g, -, -, -, g4, g5, g6, g7, -⟩ := s2 _ l hr f (by rw [eA 0 (by omega)]; exact hl) fit (Bool.not_eq_true _ ▸ b)
        rw [d, eo'] at g5
        refine Or.inr ⟨j, g, g4, g5, by rw [g6, rw8_o hx], ?_⟩
        rw [g7, tick_row s (by omega)]
        exact Nat.le_refl _
    · rw [r1 f] at hB ⊢
      exact Or.inl (t_next w h hm hT hs hl u i hx hn hB)
  · obtain ⟨row, l, g1, g2, h1, h2, -, h4, h5, h6, h7, -⟩ := s1 i hi
    rw [eA 0 (by omega)] at h1
    rw [fitR_st eA] at h2
    unfold fitR upB at h2
    rw [Bool.and_eq_true] at h2
    obtain ⟨f1, f2⟩ := h2
    have f1 := of_decide_eq_true f1
    obtain ⟨f2, f3⟩ := of_decide_eq_true f2
    rw [eo'] at h5
    obtain ⟨i1, i2, -⟩ := isE_oth w.1 h1 f3
    rw [h4, h5, h6, h7, e 6 (by omega), ei, eo, i2, e 3 (by omega), f1]
    refine ⟨f2, i1, ?_⟩
    rw [show rw8 (row / 24) (row / 8 % 3) (row % 8) = row by unfold rw8; omega, tick_row s (by omega)]
    exact Nat.le_refl _
end
