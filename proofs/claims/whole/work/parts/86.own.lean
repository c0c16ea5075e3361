/-! own adverts, tick by tick -/
theorem grA_own {s : St} (w : NW s) {x a : Nat} (hx : x < 8) (ha : a < 3) : grA s 7 (rw8 x a x) = s 7 (rw8 x a x) ∧ grA s 8 (rw8 x a x) = if s 7 (rw8 x a x) ≠ 0 then s 8 (rw8 x a x) + 1 else s 8 (rw8 x a x) := by
  obtain ⟨b1, -, b3⟩ := ((avS_AV w).1 x a x hx ha hx).2.2.2 rfl
  have hr := rw8_lt hx ha hx
  unfold grA
  rw [grS_7, grS_8, b1, b3, if_neg (fun g => by rw [dies_own hx ha] at g; exact absurd g.2 (by decide))]
  refine ⟨rfl, ?_⟩
  by_cases c : s 7 (rw8 x a x) ≠ 0
  · rw [if_pos ⟨hr, c⟩, if_pos c]
  · rw [if_neg (fun g => c g.2), if_neg c]
theorem mdS_st {s : St} {r a c : Nat} (h : c < 7 ∨ 12 < c) : mdS s r a c = s c := (tnR_ne h a).trans (tnA_ne h r)
theorem md_st {s : St} {r a c : Nat} (h : c < 7) : mdS (grA s) r a c = s c := by
  rw [mdS_st (by omega)]
  unfold grA
  rw [grS_ne (by omega) (by omega) (by omega), avS_ne (by omega)]
theorem t_own {s : St} (w : NW s) {x a : Nat} (hx : x < 8) (ha : a < 3) :
    (ow (tickS s) x a = ow s x a + 1 ∨ (ow (tickS s) x a = ow s x a ∧ (ow s x a = 0 → (arS s x).testBit a = false) ∧ (ow s x a ≠ 0 → s 8 (rw8 x a x) + 1 < 20 ∧ tickS s 8 (rw8 x a x) = s 8 (rw8 x a x) + 1))) ∧
    (ow (tickS s) x a ≠ 0 → ∀ d, d < 8 → tickS s 10 (rw8 x a x * 8 + d) = nwS (mdS (grA s) x a) x a d) := by
  obtain ⟨g7, g8⟩ := grA_own w hx ha
  obtain ⟨m7, m8, -, -, -, -⟩ := mdS_own (s := grA s) hx ha
  obtain ⟨o7, o8, -, o10, -, -⟩ := tnA_own (s := grA s) hx ha
  unfold ow
  rw [tick_row s (c := 7) (by omega), tick_row s (c := 8) (by omega), tick_row s (c := 10) (by omega)]
  have eA : arS (mdS (grA s) x a) x = arS s x := arS_congr (fun c hc => md_st hc) x
  unfold tlA
  rw [o7, o8]
  unfold tnS
  rw [eA]
  unfold tnS at o10
  rw [eA] at o10
  rw [g7] at m7
  rw [g8] at m8
  by_cases c1 : mdS (grA s) x a 7 (rw8 x a x) ≠ 0 ∨ (arS s x).testBit a = true
  · rw [if_pos c1] at o10 ⊢
    unfold tdS at o10 ⊢
    by_cases c2 : mdS (grA s) x a 7 (rw8 x a x) = 0 ∨ 20 ≤ mdS (grA s) x a 8 (rw8 x a x) ∨ tellsB (fun l => mdS (grA s) x a 9 (rw8 x a x * 12 + l)) (fun d => mdS (grA s) x a 10 (rw8 x a x * 8 + d)) (nwC (mdS (grA s) x a) x a) (nwS (mdS (grA s) x a) x a) = false
    · rw [if_pos c2] at o10 ⊢
      obtain ⟨p1, -, -, p4, -, -⟩ := putS_row (s := mdS (grA s) x a) (row := rw8 x a x) (num := mdS (grA s) x a 7 (rw8 x a x) + 1) (age := 0) (cs := nwC (mdS (grA s) x a) x a) (ms := nwS (mdS (grA s) x a) x a) (cb := 0)
      rw [p1, m7]
      exact ⟨Or.inl rfl, fun _ d hd => (o10 d hd).trans (p4 d hd)⟩
    · rw [if_neg c2] at o10 ⊢
      rw [m7, m8]
      rw [m7, m8] at c2
      have c3 : s 7 (rw8 x a x) ≠ 0 := fun q => c2 (Or.inl q)
      rw [if_pos c3] at c2 ⊢
      refine ⟨Or.inr ⟨rfl, fun q => absurd q c3, fun _ => ⟨Nat.lt_of_not_le fun q => c2 (Or.inr (Or.inl q)), rfl⟩⟩, fun _ d hd => ?_⟩
      rw [o10 d hd]
      have t : tellsB (fun l => mdS (grA s) x a 9 (rw8 x a x * 12 + l)) (fun d => mdS (grA s) x a 10 (rw8 x a x * 8 + d)) (nwC (mdS (grA s) x a) x a) (nwS (mdS (grA s) x a) x a) = true := by
        cases q : tellsB (fun l => mdS (grA s) x a 9 (rw8 x a x * 12 + l)) (fun d => mdS (grA s) x a 10 (rw8 x a x * 8 + d)) (nwC (mdS (grA s) x a) x a) (nwS (mdS (grA s) x a) x a) with
        | true => rfl
        | false => exact absurd (Or.inr (Or.inr q)) c2
      exact (tellsB_iff.mp t).2 d hd
  · rw [if_neg c1, m7]
    rw [m7] at c1
    have z : s 7 (rw8 x a x) = 0 := Classical.byContradiction fun q => c1 (Or.inl q)
    refine ⟨Or.inr ⟨rfl, fun _ => Bool.not_eq_true _ ▸ fun q => c1 (Or.inr q), fun q => absurd z q⟩, fun q => absurd z q⟩
theorem ow_mono1 {s : St} (w : NW s) {x a : Nat} (hx : x < 8) (ha : a < 3) : ow s x a ≤ ow (tickS s) x a := by
  rcases (t_own w hx ha).1 with e | ⟨e, -⟩ <;> omega
theorem tk_NW {t0 : St} (w : NW t0) (hT : t0 21 0 + 90 < 1000000000) {t : Nat} (ht : t ≤ 80) : NW (ticksS t0 t) ∧ ticksS t0 t 21 0 + 3 < 1000000000 := by
  obtain ⟨h1, h2⟩ := ticksS_NW w t (by omega)
  exact ⟨h1, by omega⟩
theorem tk_st {t0 : St} {c : Nat} (hc : c < 7) : ∀ t, ticksS t0 t c = t0 c
  | 0 => rfl
  | t + 1 => by
    show tickS (ticksS t0 t) c = _
    rw [tickS_ne (by omega), tk_st hc t]
theorem ow_mono {t0 : St} (w : NW t0) (hT : t0 21 0 + 90 < 1000000000) {x a : Nat} (hx : x < 8) (ha : a < 3) {u : Nat} : ∀ t, u ≤ t → t ≤ 80 → ow (ticksS t0 u) x a ≤ ow (ticksS t0 t) x a
  | 0, h, _ => by
    have : u = 0 := by omega
    rw [this]
    exact Nat.le_refl _
  | t + 1, h, h8 => by
    by_cases e : u = t + 1
    · rw [e]; exact Nat.le_refl _
    · have i := ow_mono w hT hx ha (u := u) t (by omega) (by omega)
      have := ow_mono1 (tk_NW w hT (t := t) (by omega)).1 hx ha
      show _ ≤ ow (tickS (ticksS t0 t)) x a
      omega
/-- within 20 ticks each advert is told anew -/
theorem ow_told {t0 : St} (w : NW t0) (hT : t0 21 0 + 90 < 1000000000) {x a : Nat} (hx : x < 8) (ha : a < 3) : ∀ t, t ≤ 80 → ow t0 x a < ow (ticksS t0 t) x a ∨ (ow (ticksS t0 t) x a = 0 ∧ ow t0 x a = 0 ∧ (t = 0 ∨ (arS t0 x).testBit a = false)) ∨ (ow (ticksS t0 t) x a = ow t0 x a ∧ ow t0 x a ≠ 0 ∧ t ≤ ticksS t0 t 8 (rw8 x a x) ∧ t < 20)
  | 0, _ => by
    by_cases c : ow t0 x a = 0
    · exact Or.inr (Or.inl ⟨c, c, Or.inl rfl⟩)
    · exact Or.inr (Or.inr ⟨rfl, c, Nat.zero_le _, by omega⟩)
  | t + 1, h8 => by
    have o := (t_own (tk_NW w hT (t := t) (by omega)).1 hx ha).1
    have eA : arS (ticksS t0 t) x = arS t0 x := arS_congr (fun c hc => tk_st hc t) x
    rw [eA] at o
    have i := ow_told w hT hx ha t (by omega)
    show ow t0 x a < ow (tickS (ticksS t0 t)) x a ∨ (ow (tickS (ticksS t0 t)) x a = 0 ∧ _) ∨ (ow (tickS (ticksS t0 t)) x a = _ ∧ _ ∧ _ ≤ tickS (ticksS t0 t) 8 _ ∧ _)
    rcases i with i | ⟨i1, i2, i3⟩ | ⟨i1, i2, i3, i4⟩
    · rcases o with o | ⟨o, -⟩ <;> exact Or.inl (by omega)
    · rcases o with o | ⟨o1, o2, -⟩
      · exact Or.inl (by omega)
      · exact Or.inr (Or.inl ⟨by omega, i2, Or.inr (o2 i1)⟩)
    · rcases o with o | ⟨o1, -, o3⟩
      · exact Or.inl (by omega)
      · obtain ⟨p1, p2⟩ := o3 (by omega)
        exact Or.inr (Or.inr ⟨by omega, i2, by omega, by omega⟩)
