/-! the reference: growing older -/
def GP (s : St) (p : Nat) (u : JM) : Prop := ∀ r o a, r < 8 → o < 8 → a < 3 → QKi (if pl r o a < p then grS s 192 else s) u (rw8 r a o) (pl r o a) ∧ QFi (if pl r o a < p then grS s 192 else s) u (rw8 r a o) (pl r o a)
theorem GP.step {s : St} {p : Nat} {u u' : JM} (h : GP s p u) {r o a : Nat} (hr : r < 8) (ho : o < 8) (ha : a < 3) (hp : pl r o a = p) (e1 : ∀ b, b = 143 ∨ b = 144 ∨ b = 145 → ∀ k, k ≠ p → u' b k = u b k) (e2 : ∀ b, b ≠ 143 → b ≠ 144 → b ≠ 145 → u' b = u b)
    (n1 : QKi (grS s 192) u' (rw8 r a o) p) (n2 : QFi (grS s 192) u' (rw8 r a o) p) : GP s (p + 1) u' := by
  intro r' o' a' hr' ho' ha'
  have hpl := pl_lt hr' ho' ha'
  by_cases e : pl r' o' a' = p
  · obtain ⟨rfl, rfl, rfl⟩ := pl_inj ho' ha' ho ha (e.trans hp.symm)
    rw [if_pos (show pl r' o' a' < p + 1 by omega), e]
    exact ⟨n1, n2⟩
  · obtain ⟨k, f⟩ := h r' o' a' hr' ho' ha'
    have ei : (if pl r' o' a' < p + 1 then grS s 192 else s) = (if pl r' o' a' < p then grS s 192 else s) := by
      by_cases g : pl r' o' a' < p
      · rw [if_pos g, if_pos (by omega)]
      · rw [if_neg g, if_neg (by omega)]
    rw [ei]
    unfold QKi QFi at *
    rw [e1 143 (by omega) _ e, e1 144 (by omega) _ e, e1 145 (by omega) _ e, e2 146 (by decide) (by decide) (by decide), e2 (148 + pl r' o' a') (by omega) (by omega) (by omega), e2 (341 + pl r' o' a') (by omega) (by omega) (by omega)]
    exact ⟨k, f⟩
def inG : Nat → Prop := fun b => b = 143 ∨ b = 144 ∨ b = 145
theorem c_X8_grows {E : JE} {u0 : JM} {K : JM → Prop} {s : St} (hQ : QK s u0) (hF : QF s u0) (wK : WK s)
    (k : ∀ u, same u0 u inG → QK (grS s 192) u → QF (grS s 192) u → K u) : JCu E 2 YX8_grows [.ref 137] K u0 := by
  refine JCu.ofV (ls := [some (.ref 137), none, none, none, none]) (by decide +kernel) (Nat.le_of_ble_eq_true rfl) rfl rfl (g_X8_grows_0 ?_)
  have fin : ∀ u, same u0 u inG → GP s 192 u → K u := fun u hs hG => k u hs (fun r o a hr ho ha => by have := (hG r o a hr ho ha).1; rwa [if_pos (pl_lt hr ho ha)] at this) (fun r o a hr ho ha => by have := (hG r o a hr ho ha).2; rwa [if_pos (pl_lt hr ho ha)] at this)
  have one : ∀ r o a u, r < 8 → o < 8 → a < 3 → same u0 u inG → GP s (pl r o a) u → (∀ u', same u0 u' inG → GP s (pl r o a + 1) u' → JVu E 2 YX8_grows K 18 [some (.ref 137), some (.int (nI r)), some (.int (nI o)), some (.int (nI (a + 1))), none] [] u') → JVu E 2 YX8_grows K 18 [some (.ref 137), some (.int (nI r)), some (.int (nI o)), some (.int (nI a)), none] [] u := by
    intro r o a u hr ho ha hs hG next
    have hp := pl_lt hr ho ha
    have hrow := rw8_lt hr ha ho
    obtain ⟨k0, f0⟩ := hG r o a hr ho ha
    rw [if_neg (Nat.lt_irrefl _)] at k0 f0
    obtain ⟨k1, k2⟩ := k0
    obtain ⟨f1, f2⟩ := f0
    obtain ⟨w7, w8⟩ := wK _ hrow
    have ed : dies s (rw8 r a o) = decide (s 7 (rw8 r a o) ≠ 0 ∧ 60 ≤ s 8 (rw8 r a o) + 1 ∧ o ≠ r) := by
      unfold dies
      rw [rw8_o ho, show rw8 r a o / 24 = r by unfold rw8; omega]
    have g7 := grS_7 s 192 (rw8 r a o)
    have g8 := grS_8 s 192 (rw8 r a o)
    have g11 := grS_11 s 192 (rw8 r a o)
    refine g_X8_grows_18 ⟨fun q => absurd q (nI_ge (a := a) (b := 3) (by omega) (by omega)), fun _ v hv => ?_⟩
    rw [pl_nI] at hv
    rw [hv, nI_cl (show pl r o a < 2147483648 by omega), nI_1, k1]
    refine ⟨vpI hp (by omega), fun c u2 h2 => ?_, fun c => ?_⟩
    · have c' : s 7 (rw8 r a o) ≠ 0 := fun g => c (by rw [g]; rfl)
      obtain ⟨k3, k4, k5⟩ := k2 (by omega)
      obtain ⟨w9, -⟩ := w8 (by omega)
      rw [k3, nI_1] at h2
      have s2 : same u0 u2 inG := by rw [h2]; exact hs.jw (Or.inr (Or.inl rfl))
      have e144 : u2 144 (pl r o a) = nI (s 8 (rw8 r a o) + 1) := by rw [h2, jw_at, if_pos rfl]
      have o2 : ∀ b, b ≠ 144 → u2 b = u b := fun b hb => by rw [h2, jw_ne hb]
      have x2 : ∀ k, k ≠ pl r o a → u2 144 k = u 144 k := fun k hk => by rw [h2, jw_at, if_neg hk]
      rw [if_pos ⟨hrow, c'⟩] at g8
      have live : dies s (rw8 r a o) = false → JVu E 2 YX8_grows K 18 [some (.ref 137), some (.int (nI r)), some (.int (nI o)), some (.int (nI (a + 1))), none] [] u2 := fun nd => by
        rw [if_neg (fun g => by rw [nd] at g; exact absurd g.2 (by decide))] at g7 g11
        refine next u2 s2 (hG.step hr ho ha rfl (fun b hb k hk => ?_) (fun b b1 b2 b3 => o2 b b2) ?_ ?_)
        · rcases hb with rfl | rfl | rfl
          · rw [o2 143 (by decide)]
          · exact x2 k hk
          · rw [o2 145 (by decide)]
        · unfold QKi
          rw [g7, g8, e144, o2 143 (by decide), o2 (148 + pl r o a) (by omega), o2 (341 + pl r o a) (by omega), grS_ne (c := 9) (by omega) (by omega) (by omega), grS_ne (c := 10) (by omega) (by omega) (by omega)]
          exact ⟨k1, fun _ => ⟨rfl, k4, k5⟩⟩
        · unfold QFi
          rw [g11, o2 145 (by decide), o2 146 (by decide), grS_ne (c := 12) (by omega) (by omega) (by omega)]
          exact ⟨f1, f2⟩
      rw [e144, show (60 : Int32) = nI 60 from rfl, i32_lt (k := 60) (by omega), nI_toInt (by omega), nI_eq (a := r) (by omega) (by omega)]
      refine ⟨fun c2 => live (by rw [ed]; exact decide_eq_false (by omega)), fun c2 => ⟨fun c3 u3 h3 u4 h4 => ?_, fun c3 => live (by rw [ed]; exact decide_eq_false (by omega))⟩⟩
      have dd : dies s (rw8 r a o) = true := by rw [ed]; exact decide_eq_true ⟨c', by omega, fun g => c3 g.symm⟩
      rw [if_pos ⟨hrow, dd⟩] at g7 g11
      have o4 : ∀ b, b ≠ 143 → b ≠ 144 → b ≠ 145 → u4 b = u b := fun b b1 b2 b3 => by rw [h4, jw_ne b3, h3, jw_ne b1, o2 b b2]
      refine next u4 (by rw [h4, h3]; exact (s2.jw (Or.inl rfl)).jw (Or.inr (Or.inr rfl))) (hG.step hr ho ha rfl (fun b hb k hk => ?_) o4 ?_ ?_)
      · rcases hb with rfl | rfl | rfl
        · rw [h4, jw_ne (by decide), h3, jw_at, if_neg hk, o2 143 (by decide)]
        · rw [h4, jw_ne (by decide), h3, jw_ne (by decide)]; exact x2 k hk
        · rw [h4, jw_at, if_neg hk, h3, jw_ne (by decide), o2 145 (by decide)]
      · unfold QKi
        rw [g7]
        exact ⟨by rw [h4, jw_ne (by decide), h3, jw_at, if_pos rfl]; rfl, fun g => absurd g (Nat.lt_irrefl 0)⟩
      · unfold QFi
        rw [g11]
        exact ⟨by rw [h4, jw_at, if_pos rfl]; rfl, fun g => absurd g (by decide)⟩
    · have c' : s 7 (rw8 r a o) = 0 := nI_inj (b := 0) (by omega) (by omega) c
      have nd : dies s (rw8 r a o) = false := by rw [ed]; exact decide_eq_false (fun g => g.1 c')
      rw [if_neg (fun g => by rw [nd] at g; exact absurd g.2 (by decide))] at g7 g11
      refine next u hs (hG.step hr ho ha rfl (fun _ _ _ _ => rfl) (fun _ _ _ _ => rfl) ?_ ?_)
      · unfold QKi
        rw [g7, c']
        exact ⟨by rw [k1, c'], fun g => absurd g (Nat.lt_irrefl 0)⟩
      · unfold QFi
        rw [g11, grS_ne (c := 12) (by omega) (by omega) (by omega)]
        exact ⟨f1, f2⟩
  have la : ∀ r o, r < 8 → o < 8 → (∀ u, same u0 u inG → GP s (pl r (o + 1) 0) u → JVu E 2 YX8_grows K 10 [some (.ref 137), some (.int (nI r)), some (.int (nI (o + 1))), none, none] [] u) → ∀ (m a : Nat) (u : JM), m + a = 3 → same u0 u inG → GP s (pl r o a) u → JVu E 2 YX8_grows K 18 [some (.ref 137), some (.int (nI r)), some (.int (nI o)), some (.int (nI a)), none] [] u := by
    intro r o hr ho next m
    induction m with
    | zero =>
      intro a u hm hs hG
      obtain rfl : a = 3 := by omega
      refine g_X8_grows_18 ⟨fun _ => ?_, fun q => absurd (show (3 : Int32) ≤ nI 3 by decide) q⟩
      rw [nI_1]
      exact next u hs (by rw [show pl r (o + 1) 0 = pl r o 3 by unfold pl; omega]; exact hG)
    | succ m ih =>
      intro a u hm hs hG
      exact one r o a u hr ho (by omega) hs hG fun u' hs' hG' => ih (a + 1) u' (by omega) hs' hG'
  have lo : ∀ r, r < 8 → (∀ u, same u0 u inG → GP s (pl (r + 1) 0 0) u → JVu E 2 YX8_grows K 2 [some (.ref 137), some (.int (nI (r + 1))), none, none, none] [] u) → ∀ (m o : Nat) (u : JM), m + o = 8 → same u0 u inG → GP s (pl r o 0) u → JVu E 2 YX8_grows K 10 [some (.ref 137), some (.int (nI r)), some (.int (nI o)), none, none] [] u := by
    intro r hr next m
    induction m with
    | zero =>
      intro o u hm hs hG
      obtain rfl : o = 8 := by omega
      refine g_X8_grows_10 ⟨fun _ => ?_, fun q => absurd (show (8 : Int32) ≤ nI 8 by decide) q⟩
      rw [nI_1]
      exact next u hs (by rw [show pl (r + 1) 0 0 = pl r 8 0 by unfold pl; omega]; exact hG)
    | succ m ih =>
      intro o u hm hs hG
      refine g_X8_grows_10 ⟨fun q => absurd q (nI_ge (a := o) (b := 8) (by omega) (by omega)), fun _ => ?_⟩
      exact la r o hr (by omega) (fun u' hs' hG' => ih (o + 1) u' (by omega) hs' hG') 3 0 u (by omega) hs hG
  have lr : ∀ (m r : Nat) (u : JM), m + r = 8 → same u0 u inG → GP s (pl r 0 0) u → JVu E 2 YX8_grows K 2 [some (.ref 137), some (.int (nI r)), none, none, none] [] u := by
    intro m
    induction m with
    | zero =>
      intro r u hm hs hG
      obtain rfl : r = 8 := by omega
      exact g_X8_grows_2 ⟨fun _ => fin u hs hG, fun q => absurd (show (8 : Int32) ≤ nI 8 by decide) q⟩
    | succ m ih =>
      intro r u hm hs hG
      refine g_X8_grows_2 ⟨fun q => absurd q (nI_ge (a := r) (b := 8) (by omega) (by omega)), fun _ => ?_⟩
      exact lo r (by omega) (fun u' hs' hG' => ih (r + 1) u' (by omega) hs' hG') 8 0 u (by omega) hs hG
  refine lr 8 0 u0 (by omega) same.rfl fun r o a hr ho ha => ?_
  rw [if_neg (by unfold pl; omega)]
  exact ⟨hQ r o a hr ho ha, hF r o a hr ho ha⟩
