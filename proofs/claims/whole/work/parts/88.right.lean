/-! who has a route after 40 ticks, is joined -/
theorem md_W {s : St} (w : NW s) (hT : s 21 0 + 3 < 1000000000) {r b : Nat} (hr : r < 8) (hb : b ≤ 3) : WL (mdS (grA s) r b) ∧ WK (mdS (grA s) r b) := by
  obtain ⟨-, ⟨b1, b2, -, b4, -, b6⟩, -⟩ := tick_W w hT
  have wL : WL (grA s) := b1
  have wK : WK (grA s) := b2
  have wF : WF (grA s) := b4
  have wN : WN (grA s) (s 21 0) := b6
  obtain ⟨c1, c2⟩ := tnA_W wL wK wF wN (by omega) r (by omega)
  have wL' : WL (tnA (grA s) r) := wL.congr fun c hc => tnA_ne (by omega) r
  have d := (tnR_W wL' c1 c2 hr (fun q hq => by
    have hrow := rw8_lt hr hq hr
    have := wN _ hrow
    rcases tnA_7 (s := grA s) (rw8 r q r) r (by omega) with e | ⟨-, -, -, -, -, e⟩ <;> rw [e] <;> omega) b hb).1
  exact ⟨wL.congr fun c hc => mdS_st (by omega), d⟩
theorem md_ROk {s : St} {B M : Nat → Nat → Nat} {T : Nat} {J : Nat → Nat → Prop} (h : ROk s B M T J) (hR : ∀ r a, r < 8 → a < 3 → M r a ≤ ow (mdS s r a) r a + 1 → ∀ d, d < 8 → nwS (mdS s r a) r a d < 9999 → J r d) {r : Nat} (hr : r < 8) : ∀ b, b ≤ 3 → ROk (mdS s r b) B M T J
  | 0, _ => tnA_ROk h hR r (by omega)
  | b + 1, hb => tnS_ROk (md_ROk h hR hr b (by omega)) hr (by omega) (hR r b hr (by omega))
theorem md_keep {s : St} {r b y a : Nat} (hr : r < 8) (hb : b ≤ 3) (ha : a < 3) (hy : y < 8) (n : y ≠ r) : mdS s r b 7 (rw8 r a y) = s 7 (rw8 r a y) := by
  have h1 : rSame s (tnA s r) (rw8 r a y) := tnA_keep r fun q c hq hc e => by
    obtain ⟨e1, -, e3⟩ := rw8_inj ha hy hc (show q < 8 by omega) e
    omega
  have h2 : rSame (tnA s r) (tnR (tnA s r) r b) (rw8 r a y) := tnR_keep b fun c hc e => by
    have := (rw8_inj ha hy (show c < 3 by omega) hr e).2.2
    omega
  exact (h1.tr h2).1
theorem kn {t0 D : St} {M : Nat → Nat → Nat} {T : Nat} {J : Nat → Nat → Prop} (wL : WL D) (wK : WK D) (e : ∀ c, c < 7 → D c = t0 c) (hR : ROk D (bB t0) M T J) {r a : Nat} (hr : r < 8) (ha : a < 3) (hk : ∀ y n, y < 8 → AR t0 a r n y → D 7 (rw8 r a y) = 0 ∨ ow t0 y a < D 7 (rw8 r a y)) {y : Nat} (hy : y < 8) (hF : dD (Ew D r a) r y < 9999) : ∃ n, AR t0 a r n y := by
  refine known_ar wL wK hr ha e (fun z n hz hn l hl ht => ?_) _ y hy (Nat.le_refl _) hF
  unfold tl at ht
  by_cases c : D 7 (rw8 r a z) = 0
  · rw [if_pos c] at ht; exact absurd ht (Nat.lt_irrefl 0)
  · rw [if_neg c] at ht
    rcases hk z n hz hn with g | g
    · exact absurd g c
    · exact ((hR r a z hr ha hz).2 g).2.1 l hl ht
section
variable {t0 : St} {J : Nat → Nat → Prop}
/-- rows within an area, in the midst of a tick -/
theorem kd {r a b t : Nat} (o : OWN t0) (w : NW t0) (hT : t0 21 0 + 90 < 1000000000) (hr : r < 8) (ha : a < 3) (hb : b ≤ 3) (h20 : 20 ≤ t) (hK : 20 + Km t0 a ≤ t + 1) (h58 : t + 1 ≤ 58) : ∀ y n, y < 8 → AR t0 a r n y → mdS (grA (ticksS t0 t)) r b 7 (rw8 r a y) = 0 ∨ ow t0 y a < mdS (grA (ticksS t0 t)) r b 7 (rw8 r a y) := by
  intro y n hy h
  obtain ⟨n1, n2⟩ := tk_NW w hT (t := t) (by omega)
  by_cases e : y = r
  · subst e
    have g := (grA_own n1 hy ha).1
    rcases ow_told w hT hy ha t (by omega) with q | ⟨q1, q2, -⟩ | q
    · rcases md_7 (s := grA (ticksS t0 t)) (k := rw8 y a y) hr hb with m | m <;> rw [m, g] <;> refine Or.inr ?_ <;> unfold ow at q ⊢ <;> omega
    · rcases md_7 (s := grA (ticksS t0 t)) (k := rw8 y a y) hr hb with m | m <;> rw [m, g]
      · exact Or.inl q1
      · refine Or.inr ?_
        unfold ow at q2 ⊢
        omega
    · omega
  · rw [md_keep hr hb ha hy e]
    obtain ⟨q1, q2⟩ := told_far o w hT hr ha hy h e (v := 20) (t := t + 1) (by omega) (by omega) h58
    have e1 : ticksS t0 (t + 1) 7 (rw8 r a y) = grA (ticksS t0 t) 7 (rw8 r a y) := by
      show tickS (ticksS t0 t) 7 _ = _
      rw [tick_row _ (by omega)]
      exact (tnA_far ha hy e).1
    rw [← e1]
    exact Or.inr (by omega)
theorem md_e {r b t : Nat} : ∀ c, c < 7 → mdS (grA (ticksS t0 t)) r b c = t0 c := fun c hc => by rw [md_st hc, tk_st hc]
theorem gr_ROk {M : Nat → Nat → Nat} {t : Nat} (w : NW t0) (hT : t0 21 0 + 90 < 1000000000) (ht : t ≤ 80) (h1 : ROk (ticksS t0 t) (bB t0) M t J) (h2 : MOk (ticksS t0 t) (bB t0) M t J) : ROk (grA (ticksS t0 t)) (bB t0) M (t + 1) J := by
  obtain ⟨n1, n2⟩ := tk_NW w hT (t := t) ht
  exact grS_ROk (avS_ROk n1.1 n1.2.2.1 h1 h2).1
theorem kn_md {r a b t y : Nat} (o : OWN t0) (w : NW t0) (hT : t0 21 0 + 90 < 1000000000) (hr : r < 8) (ha : a < 3) (hb : b ≤ 3) (h20 : 20 ≤ t) (hK : 20 + Km t0 a ≤ t + 1) (h58 : t + 1 ≤ 58) (hy : y < 8) (hF : dD (Ew (mdS (grA (ticksS t0 t)) r b) r a) r y < 9999) : ∃ n, AR t0 a r n y := by
  obtain ⟨n1, n2⟩ := tk_NW w hT (t := t) (by omega)
  obtain ⟨i1, i2, -⟩ := Iv_all o w hT (Jn t0) t (by omega)
  obtain ⟨w1, w2⟩ := md_W n1 n2 hr hb
  refine kn (M := noM) w1 w2 md_e (md_ROk (gr_ROk w hT (by omega) i1 i2) (fun r a hr ha q => noM_R n1 n2 hr ha q) hr b hb) hr ha (kd o w hT hr ha hb h20 hK h58) hy hF
theorem mn_lt {a b : Nat} (h : mn a b < 9999) : a < 9999 ∨ b < 9999 := by
  unfold mn at h
  split at h
  · exact Or.inl h
  · exact Or.inr h
theorem smS_lt {s : St} {r su d : Nat} : ∀ k, smS s r su d k < 9999 → ∃ j, j < k ∧ su.testBit j = true ∧ dD (Ew s r j) r d < 9999
  | 0, h => absurd h (Nat.lt_irrefl _)
  | k + 1, h => by
    unfold smS at h
    by_cases c : su.testBit k = true
    · rw [if_pos c] at h
      rcases mn_lt h with g | g
      · obtain ⟨j, h1, h2⟩ := smS_lt k g
        exact ⟨j, by omega, h2⟩
      · exact ⟨k, by omega, c, g⟩
    · rw [if_neg c] at h
      obtain ⟨j, h1, h2⟩ := smS_lt k h
      exact ⟨j, by omega, h2⟩
/-- sums of the areas 1 and 2, told to the backbone -/
theorem rt0 {r t d : Nat} (o : OWN t0) (w : NW t0) (hT : t0 21 0 + 90 < 1000000000) (hr : r < 8) (h20 : 20 ≤ t) (h1 : 20 + Km t0 1 ≤ t + 1) (h2 : 20 + Km t0 2 ≤ t + 1) (h58 : t + 1 ≤ 58) (hd : d < 8) (h : nwS (mdS (grA (ticksS t0 t)) r 0) r 0 d < 9999) : Jn t0 r d := by
  unfold nwS at h
  split at h
  · split at h
    · omega
    · rw [if_pos rfl] at h
      obtain ⟨j, j3, jb_, jd⟩ := smS_lt 3 h
      unfold suS at jb_
      rw [if_pos rfl, Nat.testBit_and, Bool.and_eq_true] at jb_
      have j0 : j ≠ 0 := fun q => by rw [q] at jb_; exact absurd jb_.2 (by decide)
      have hk : 20 + Km t0 j ≤ t + 1 := by
        rcases (show j = 1 ∨ j = 2 by omega) with rfl | rfl <;> assumption
      obtain ⟨n, hn⟩ := kn_md o w hT hr j3 (show 0 ≤ 3 by omega) h20 hk h58 hd jd
      exact AR.jn n d hn
  · omega
/-- sums of the backbone and behind it, told to the areas 1 and 2 -/
theorem rt12 {M : Nat → Nat → Nat} {r a t d : Nat} (o : OWN t0) (w : NW t0) (hT : t0 21 0 + 90 < 1000000000) (hr : r < 8) (ha : a < 3) (ha0 : a ≠ 0) (h20 : 20 ≤ t) (h0 : 20 + Km t0 0 ≤ t + 1) (h58 : t + 1 ≤ 58) (hR : ROk (mdS (grA (ticksS t0 t)) r a) (bB t0) M (t + 1) (Jn t0))
    (hM : ∀ k n, k < 8 → k ≠ r → AR t0 0 r n k → ow t0 k 0 < mdS (grA (ticksS t0 t)) r a 7 (rw8 r 0 k) ∧ M k 0 ≤ mdS (grA (ticksS t0 t)) r a 7 (rw8 r 0 k)) (hd : d < 8) (h : nwS (mdS (grA (ticksS t0 t)) r a) r a d < 9999) : Jn t0 r d := by
  unfold nwS at h
  split at h
  · split at h
    · omega
    · split at h
      · obtain ⟨j, j3, jb_, jd⟩ := smS_lt 3 h
        unfold suS at jb_
        rw [if_neg ha0] at jb_
        have j0 : j = 0 := by
          rcases (show j = 0 ∨ j = 1 ∨ j = 2 by omega) with q | q | q
          · exact q
          · rw [q] at jb_; exact absurd jb_ (by decide)
          · rw [q] at jb_; exact absurd jb_ (by decide)
        rw [j0] at jd
        obtain ⟨n, hn⟩ := kn_md o w hT hr (show 0 < 3 by omega) (show a ≤ 3 by omega) h20 h0 h58 hd jd
        exact AR.jn n d hn
      · rcases (tlP_ok (mdS (grA (ticksS t0 t)) r a) (dD (Ew (mdS (grA (ticksS t0 t)) r a) r 0) r) r 0 d 8 (Nat.le_refl 8)).2 with ⟨-, q⟩ | ⟨q1, q2, q3, q4⟩
        · omega
        · generalize (tlP (mdS (grA (ticksS t0 t)) r a) (dD (Ew (mdS (grA (ticksS t0 t)) r a) r 0) r) r 0 d 8).2 = k at *
          rw [q4] at h
          obtain ⟨n, hn⟩ := kn_md o w hT hr (show 0 < 3 by omega) (show a ≤ 3 by omega) h20 h0 h58 q1 (y := k) (by omega)
          obtain ⟨m1, m2⟩ := hM k n q1 q2 hn
          exact (AR.jn n k hn).tr (((hR r 0 k hr (by omega) q1).2 m1).2.2.2 m2 d hd (by
            show mdS (grA (ticksS t0 t)) r a 10 (rw8 r 0 k * 8 + d) < 9999
            omega))
  · omega
end
