/-! numbers go from end to end of a link -/
theorem tp_bit {n m : Nat} (h : (2 ^ n).testBit m = true) : m = n := by
  rw [Nat.testBit_two_pow] at h
  exact (of_decide_eq_true h).symm
/-- a row, as messages arrive -/
def AV (s P : St) (k y a x : Nat) : Prop := s 7 (rw8 y a x) ≤ P 7 (rw8 y a x) ∧ (P 11 (rw8 y a x) ≠ 1 → P 7 (rw8 y a x) = s 7 (rw8 y a x)) ∧ (∀ l, P 11 (rw8 y a x) = 1 → (P 12 (rw8 y a x)).testBit l = true → ∃ i, i < k ∧ s 14 i = l ∧ s 15 i = y ∧ s 3 l = a ∧ s 16 i = x ∧ s 17 i = P 7 (rw8 y a x)) ∧ (x = y → P 7 (rw8 y a x) = s 7 (rw8 y a x) ∧ P 11 (rw8 y a x) ≠ 1 ∧ P 8 (rw8 y a x) = s 8 (rw8 y a x))
theorem AV.up {s P : St} {k y a x : Nat} (h : AV s P k y a x) : AV s P (k + 1) y a x := by
  obtain ⟨h1, h2, h3, h4⟩ := h
  refine ⟨h1, h2, fun l f b => ?_, h4⟩
  obtain ⟨i, g, g'⟩ := h3 l f b
  exact ⟨i, by omega, g'⟩
theorem arv_AV {s : St} (wL : WL s) (wM : WM s) (fZ : FZ s) : ∀ k, k ≤ s 13 0 → (∀ y a x, y < 8 → a < 3 → x < 8 → AV s (arv s k) k y a x) ∧ ∀ i, i < k → s 6 (s 14 i) = 1 → s 15 i ≠ s 16 i → s 17 i ≤ arv s k 7 (rw8 (s 15 i) (s 3 (s 14 i)) (s 16 i))
  | 0, _ => by
    refine ⟨fun y a x hy ha hx => ?_, fun i h => absurd h (Nat.not_lt_zero i)⟩
    have f := fZ _ (rw8_lt hy ha hx)
    refine ⟨Nat.le_refl _, fun _ => rfl, fun l g => ?_, fun _ => ⟨rfl, fun g => ?_, rfl⟩⟩
    · exact absurd (show s 11 (rw8 y a x) = 1 from g) (by omega)
    · exact absurd (show s 11 (rw8 y a x) = 1 from g) (by omega)
  | k + 1, hk => by
    obtain ⟨i1, i2⟩ := arv_AV wL wM fZ k (by omega)
    obtain ⟨w1, w2, w3, -⟩ := wM.2 k (by omega)
    have x4 := (wL.2 _ w1).2.2.2.1
    have eP : ∀ c, c < 7 ∨ 12 < c → arv s k c = s c := fun c hc => arv_ne s hc k
    rw [arv_suc]
    unfold msS
    generalize arv s k = P at *
    rw [eP 6 (by omega), eP 14 (by omega), eP 15 (by omega), eP 16 (by omega)]
    by_cases c : s 6 (s 14 k) = 1 ∧ s 15 k ≠ s 16 k
    · rw [if_pos c, tkS_eq, eP 15 (by omega), eP 14 (by omega), eP 16 (by omega), eP 3 (by omega), eP 17 (by omega), eP 18 (by omega)]
      by_cases lt : P 7 (rw8 (s 15 k) (s 3 (s 14 k)) (s 16 k)) < s 17 k
      · rw [if_pos lt]
        obtain ⟨p1, p2, -, -, p5, p6⟩ := putS_row (s := P) (row := rw8 (s 15 k) (s 3 (s 14 k)) (s 16 k)) (num := s 17 k) (age := s 18 k) (cs := fun l => P 19 (k * 12 + l)) (ms := fun d => P 20 (k * 8 + d)) (cb := 2 ^ s 14 k)
        refine ⟨fun y a x hy ha hx => ?_, fun i hi u n => ?_⟩
        · by_cases e : rw8 y a x = rw8 (s 15 k) (s 3 (s 14 k)) (s 16 k)
          · obtain ⟨q1, q2, q3⟩ := rw8_inj ha hx x4 w3 e
            obtain ⟨h1, -⟩ := i1 y a x hy ha hx
            unfold AV
            rw [e, p1, p2, p5, p6, ← e]
            refine ⟨by rw [← e] at lt; omega, fun g => absurd rfl g, fun l _ b => ?_, fun q => ?_⟩
            · have := tp_bit b
              exact ⟨k, by omega, this.symm, q1.symm, by rw [this, q2], q3.symm, rfl⟩
            · exact absurd (by rw [← q1, ← q3, q] : s 15 k = s 16 k) c.2
          · obtain ⟨o1, o2, -, -, o5, o6⟩ := putS_other (s := P) (num := s 17 k) (age := s 18 k) (cs := fun l => P 19 (k * 12 + l)) (ms := fun d => P 20 (k * 8 + d)) (cb := 2 ^ s 14 k) e
            have := (i1 y a x hy ha hx).up
            unfold AV at this ⊢
            rw [o1, o2, o5, o6]
            exact this
        · by_cases e : rw8 (s 15 i) (s 3 (s 14 i)) (s 16 i) = rw8 (s 15 k) (s 3 (s 14 k)) (s 16 k)
          · rw [e, p1]
            by_cases ik : i = k
            · rw [ik]; exact Nat.le_refl _
            · have := i2 i (by omega) u n
              rw [e] at this
              omega
          · obtain ⟨o1, -⟩ := putS_other (s := P) (num := s 17 k) (age := s 18 k) (cs := fun l => P 19 (k * 12 + l)) (ms := fun d => P 20 (k * 8 + d)) (cb := 2 ^ s 14 k) e
            rw [o1]
            exact i2 i (by
              have : i ≠ k := fun q => e (by rw [q])
              omega) u n
      · rw [if_neg lt]
        by_cases eq : P 7 (rw8 (s 15 k) (s 3 (s 14 k)) (s 16 k)) = s 17 k ∧ P 11 (rw8 (s 15 k) (s 3 (s 14 k)) (s 16 k)) = 1
        · rw [if_pos eq]
          refine ⟨fun y a x hy ha hx => ?_, fun i hi u n => ?_⟩
          · obtain ⟨h1, h2, h3, h4⟩ := i1 y a x hy ha hx
            unfold AV
            rw [set1_ne (by omega), set1_ne (c' := 11) (by omega), set1_ne (c' := 8) (by omega), set1_at]
            refine ⟨h1, h2, fun l f b => ?_, h4⟩
            by_cases e : rw8 y a x = rw8 (s 15 k) (s 3 (s 14 k)) (s 16 k)
            · obtain ⟨q1, q2, q3⟩ := rw8_inj ha hx x4 w3 e
              rw [if_pos e, Nat.testBit_or, Bool.or_eq_true] at b
              rcases b with b | b
              · obtain ⟨i, g, g'⟩ := h3 l f (by rw [e]; exact b)
                exact ⟨i, by omega, g'⟩
              · have := tp_bit b
                exact ⟨k, by omega, this.symm, q1.symm, by rw [this, q2], q3.symm, by rw [e]; exact eq.1.symm⟩
            · rw [if_neg e] at b
              obtain ⟨i, g, g'⟩ := h3 l f b
              exact ⟨i, by omega, g'⟩
          · rw [set1_ne (by omega)]
            by_cases ik : i = k
            · rw [ik]; omega
            · exact i2 i (by omega) u n
        · rw [if_neg eq]
          refine ⟨fun y a x hy ha hx => (i1 y a x hy ha hx).up, fun i hi u n => ?_⟩
          by_cases ik : i = k
          · rw [ik]; omega
          · exact i2 i (by omega) u n
    · rw [if_neg c]
      refine ⟨fun y a x hy ha hx => (i1 y a x hy ha hx).up, fun i hi u n => ?_⟩
      by_cases ik : i = k
      · rw [ik] at u n
        exact absurd ⟨u, n⟩ c
      · exact i2 i (by omega) u n
/-! rows as routers tell -/
def rSame (s s' : St) (k : Nat) : Prop := s' 7 k = s 7 k ∧ s' 8 k = s 8 k ∧ (∀ l, l < 12 → s' 9 (k * 12 + l) = s 9 (k * 12 + l)) ∧ (∀ d, d < 8 → s' 10 (k * 8 + d) = s 10 (k * 8 + d)) ∧ s' 11 k = s 11 k ∧ s' 12 k = s 12 k
theorem rSame.rfl_ (s : St) (k : Nat) : rSame s s k := ⟨rfl, rfl, fun _ _ => rfl, fun _ _ => rfl, rfl, rfl⟩
theorem rSame.tr {s t u : St} {k : Nat} (h : rSame s t k) (g : rSame t u k) : rSame s u k := by
  obtain ⟨h1, h2, h3, h4, h5, h6⟩ := h
  obtain ⟨g1, g2, g3, g4, g5, g6⟩ := g
  exact ⟨g1.trans h1, g2.trans h2, fun l hl => (g3 l hl).trans (h3 l hl), fun d hd => (g4 d hd).trans (h4 d hd), g5.trans h5, g6.trans h6⟩
theorem tnR_keep {s : St} {r k : Nat} : ∀ n, (∀ b, b < n → k ≠ rw8 r b r) → rSame s (tnR s r n) k
  | 0, _ => rSame.rfl_ s k
  | n + 1, h => (tnR_keep n fun b hb => h b (by omega)).tr (tnS_keep (h n (by omega)))
theorem tnA_keep {s : St} {k : Nat} : ∀ n, (∀ q b, q < n → b < 3 → k ≠ rw8 q b q) → rSame s (tnA s n) k
  | 0, _ => rSame.rfl_ s k
  | n + 1, h => (tnA_keep n fun q b hq hb => h q b (by omega) hb).tr (tnR_keep 3 fun b hb => h n b (by omega) hb)
theorem mdS_own {s : St} {x a : Nat} (hx : x < 8) (ha : a < 3) : rSame s (mdS s x a) (rw8 x a x) :=
  (tnA_keep x fun q b hq hb e => by have := (rw8_inj ha hx hb (by omega) e).1; omega).tr (tnR_keep a fun b hb e => by have := (rw8_inj ha hx (by omega) hx e).2.1; omega)
theorem tnA_own {s : St} {x a : Nat} (hx : x < 8) (ha : a < 3) : rSame (tnS (mdS s x a) x a) (tnA s 8) (rw8 x a x) := by
  have g1 : ∀ n, a + 1 ≤ n → n ≤ 3 → rSame (tnR (tnA s x) x (a + 1)) (tnR (tnA s x) x n) (rw8 x a x) := by
    intro n
    induction n with
    | zero => intro h; omega
    | succ n ih =>
      intro h h3
      by_cases e : a + 1 = n + 1
      · rw [e]; exact rSame.rfl_ _ _
      · exact (ih (by omega) (by omega)).tr (tnS_keep fun q => by have := (rw8_inj ha hx (show n < 3 by omega) hx q).2.1; omega)
  have g2 : ∀ n, x + 1 ≤ n → n ≤ 8 → rSame (tnA s (x + 1)) (tnA s n) (rw8 x a x) := by
    intro n
    induction n with
    | zero => intro h; omega
    | succ n ih =>
      intro h h3
      by_cases e : x + 1 = n + 1
      · rw [e]; exact rSame.rfl_ _ _
      · exact (ih (by omega) (by omega)).tr (tnR_keep 3 fun b hb q => by have := (rw8_inj ha hx hb (show n < 8 by omega) q).1; omega)
  exact (g1 3 (by omega) (Nat.le_refl 3)).tr (g2 8 (by omega) (Nat.le_refl 8))
theorem tnA_far {s : St} {y a x : Nat} (ha : a < 3) (hx : x < 8) (n : x ≠ y) : rSame s (tnA s 8) (rw8 y a x) :=
  tnA_keep 8 fun q b hq hb e => by
    obtain ⟨e1, -, e3⟩ := rw8_inj ha hx hb hq e
    omega
/-- an own row as it is told, or not -/
theorem tlA_own {s : St} {x a : Nat} (hx : x < 8) (ha : a < 3) : rSame (grA s) (tlA s) (rw8 x a x) ∨ (tlA s 7 (rw8 x a x) = grA s 7 (rw8 x a x) + 1 ∧ tlA s 8 (rw8 x a x) = 0 ∧ tlA s 11 (rw8 x a x) = 1 ∧ tlA s 12 (rw8 x a x) = 0) := by
  obtain ⟨m1, -⟩ := mdS_own (s := grA s) hx ha
  have g := tnA_own (s := grA s) hx ha
  rcases tnS_own (mdS (grA s) x a) x a with e | e
  · rw [e] at g
    exact Or.inl ((mdS_own hx ha).tr g)
  · rw [e] at g
    obtain ⟨g1, g2, -, -, g5, g6⟩ := g
    obtain ⟨p1, p2, -, -, p5, p6⟩ := putS_row (s := mdS (grA s) x a) (row := rw8 x a x) (num := mdS (grA s) x a 7 (rw8 x a x) + 1) (age := 0) (cs := nwC (mdS (grA s) x a) x a) (ms := nwS (mdS (grA s) x a) x a) (cb := 0)
    exact Or.inr ⟨by rw [← m1]; exact g1.trans p1, g2.trans p2, g5.trans p5, g6.trans p6⟩
