/-! changes of links keep a net well formed; counting bits, parts of numbers -/
theorem NW_keep {s s' : St} (w : NW s) (wl : WL s') (e : ∀ c, 6 < c → s' c = s c) (e0 : s 0 0 ≤ s' 0 0) (e1 : ∀ l, l < s 0 0 → s' 1 l = s 1 l ∧ s' 2 l = s 2 l ∧ s' 3 l = s 3 l) : NW s' := by
  obtain ⟨w1, w2, ⟨w3, w4⟩, w5, w6, w7⟩ := w
  have ea : ∀ x y z t, WA s x y z t → WA s' x y z t := by
    intro x y z t h
    refine ⟨fun l hl => ⟨(h.1 l hl).1, fun q => ?_⟩, h.2⟩
    obtain ⟨g1, g2, g3⟩ := (h.1 l hl).2 q
    obtain ⟨f1, f2, f3⟩ := e1 l g1
    rw [f1, f2, f3]
    exact ⟨by omega, g2, g3⟩
  refine ⟨wl, fun row hr => ?_, ⟨?_, fun i hi => ?_⟩, fun row hr => ?_, fun row hr => ?_, ?_⟩
  · rw [e 7 (by omega), e 8 (by omega), e 9 (by omega), e 10 (by omega)]
    obtain ⟨g1, g2⟩ := w2 row hr
    exact ⟨g1, fun q => ⟨(g2 q).1, ea _ _ _ _ (g2 q).2⟩⟩
  · rw [e 13 (by omega)]; exact w3
  · rw [e 13 (by omega)] at hi
    unfold WMi
    rw [e 14 (by omega), e 15 (by omega), e 16 (by omega), e 17 (by omega), e 18 (by omega), e 19 (by omega), e 20 (by omega)]
    obtain ⟨g1, g2, g3, g4, g5, g6, g7⟩ := w4 i hi
    refine ⟨by omega, g2, g3, g4, g5, g6, ?_⟩
    rw [(e1 _ g1).2.2]
    exact ea _ _ _ _ g7
  · rw [e 11 (by omega)]; exact w5 row hr
  · rw [e 11 (by omega), e 12 (by omega)]; exact w6 row hr
  · unfold WB
    rw [e 7 (by omega), e 8 (by omega), e 13 (by omega), e 17 (by omega), e 18 (by omega), e 21 (by omega)]
    exact w7
theorem set1_NW {s : St} (w : NW s) {c l v : Nat} (hl : l < s 0 0) (h : (c = 4 ∨ c = 5) ∧ 1 ≤ v ∧ v ≤ 99 ∨ c = 6 ∧ v ≤ 1) : NW (set1 s c l v) := by
  have e : ∀ c', c' ≠ c → set1 s c l v c' = s c' := fun c' q => set1_ne q
  refine NW_keep w (set1_WL w.1 hl h) (fun c' h => e c' (by omega)) (by rw [e 0 (by omega)]; exact Nat.le_refl _) fun l hl => ?_
  rw [e 1 (by omega), e 2 (by omega), e 3 (by omega)]
  exact ⟨rfl, rfl, rfl⟩
theorem addS_at (s : St) (x y a f b l : Nat) : addS s x y a f b 0 0 = s 0 0 + 1 ∧ addS s x y a f b 1 l = (if l = s 0 0 then x else s 1 l) ∧ addS s x y a f b 2 l = (if l = s 0 0 then y else s 2 l) ∧ addS s x y a f b 3 l = (if l = s 0 0 then a else s 3 l) ∧ addS s x y a f b 4 l = (if l = s 0 0 then f else s 4 l) ∧ addS s x y a f b 5 l = (if l = s 0 0 then b else s 5 l) ∧ addS s x y a f b 6 l = (if l = s 0 0 then 1 else s 6 l) := by
  refine ⟨rfl, ?_, ?_, ?_, ?_, ?_, ?_⟩ <;> simp [addS, set1]
theorem addS_NW {s : St} (w : NW s) {x y a f b : Nat} (hn : s 0 0 < 12) (hx : x < 8) (hy : y < 8) (hxy : x ≠ y) (ha : a < 3) (hf : 1 ≤ f ∧ f ≤ 99) (hb : 1 ≤ b ∧ b ≤ 99) : NW (addS s x y a f b) := by
  have A := addS_at s x y a f b
  refine NW_keep w ⟨by rw [(A 0).1]; omega, fun l hl => ?_⟩ (fun c h => addS_ne h) (by rw [(A 0).1]; omega) fun l hl => ?_
  · rw [(A 0).1] at hl
    obtain ⟨-, a1, a2, a3, a4, a5, a6⟩ := A l
    rw [a1, a2, a3, a4, a5, a6]
    by_cases q : l = s 0 0
    · simp only [q, if_true]
      exact ⟨hx, hy, hxy, ha, hf, hb, Nat.le_refl _⟩
    · simp only [if_neg q]
      exact w.1.2 l (by omega)
  · obtain ⟨-, a1, a2, a3, -⟩ := A l
    rw [a1, a2, a3, if_neg (by omega), if_neg (by omega), if_neg (by omega)]
    exact ⟨rfl, rfl, rfl⟩
theorem bits_suc {p : Nat → Bool} {k : Nat} : bits (k + 1) p = if p k then bits k p ||| 2 ^ k else bits k p := rfl
/-- a bit more or none -/
theorem nI_bits {p : Nat → Bool} {k : Nat} (hk : k < 31) (q : Prop) [Decidable q] (h : q ↔ p k = true) : (if q then (nI (bits k p) ||| ((1 : Int32) <<< (nI k &&& 31))) else nI (bits k p)) = nI (bits (k + 1) p) := by
  rw [bits_suc]
  by_cases c : q
  · rw [if_pos c, if_pos (h.mp c), nI_bit hk]
  · rw [if_neg c, if_neg (fun g => c (h.mpr g))]
theorem nI_bits' {p : Nat → Bool} {k : Nat} (hk : k < 31) (q : Prop) [Decidable q] (h : q ↔ p k = false) : (if q then nI (bits k p) else (nI (bits k p) ||| ((1 : Int32) <<< (nI k &&& 31)))) = nI (bits (k + 1) p) := by
  rw [bits_suc]
  by_cases c : q
  · rw [if_pos c, if_neg (by rw [h.mp c]; simp)]
  · rw [if_neg c, if_pos (by cases g : p k with | true => rfl | false => exact absurd (h.mpr g) c), nI_bit hk]
