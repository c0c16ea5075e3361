/-! adverts go from each to all of an area -/
/-- what is known of a state, each advert's own -/
def OWN (s : St) : Prop := (∀ y a x, y < 8 → a < 3 → x < 8 → s 7 (rw8 y a x) ≤ ow s x a) ∧ ∀ i, i < s 13 0 → s 17 i ≤ ow s (s 16 i) (s 3 (s 14 i))
abbrev bB (t0 : St) : Nat → Nat → Nat := fun x a => ow t0 x a
abbrev noM : Nat → Nat → Nat := fun _ _ => 2000000000
def Iv (t0 : St) (J : Nat → Nat → Prop) (t : Nat) : Prop := ROk (ticksS t0 t) (bB t0) noM t J ∧ MOk (ticksS t0 t) (bB t0) noM t J ∧ SYn (ticksS t0 t) (bB t0) ∧ MSn (ticksS t0 t) (bB t0)
theorem AOk_own {s : St} {B M : Nat → Nat → Nat} {T : Nat} {J : Nat → Nat → Prop} {x a N age : Nat} {cs ms : Nat → Nat} (h1 : N ≤ ow s x a) (h2 : N ≤ B x a) : AOk s B M T J x a N age cs ms := ⟨h1, fun q => absurd q (Nat.not_lt.mpr h2)⟩
theorem Iv_0 {t0 : St} (o : OWN t0) (w : NW t0) (J : Nat → Nat → Prop) : Iv t0 J 0 := by
  refine ⟨fun y a x hy ha hx => AOk_own (o.1 y a x hy ha hx) (o.1 y a x hy ha hx), fun i hi => AOk_own (o.2 i hi) (o.2 i hi), fun l y x hl u e hx hn hB => ?_, fun i hi hB => ?_⟩
  · have a3 := (w.1.2 l hl).2.2.2.1
    exact absurd (o.1 y _ x (isE_oth w.1 hl e).2.2.1 a3 hx) (Nat.not_le.mpr hB)
  · exact absurd (o.2 i hi) (Nat.not_le.mpr hB)
theorem md_7 {s : St} {r b k : Nat} (hr : r < 8) (hb : b ≤ 3) : mdS s r b 7 k = s 7 k ∨ mdS s r b 7 k = s 7 k + 1 := by
  unfold mdS
  rcases tnA_7 (s := s) k r (by omega) with e | ⟨q, c, hq, hc, ek, e⟩
  · rcases tnR_7 (s := tnA s r) hr k b hb with f | ⟨-, -, -, f⟩ <;> omega
  · rcases tnR_7 (s := tnA s r) hr k b hb with f | ⟨c', hc', ek', f⟩
    · omega
    · have := (rw8_inj hc (show q < 8 by omega) (show c' < 3 by omega) hr (ek.symm.trans ek')).1
      omega
theorem NW_7 {s : St} (w : NW s) {k : Nat} (hk : k < 192) : s 7 k ≤ s 21 0 := (w.2.2.2.2.2.1 k hk).1
theorem grA_le {s : St} (w : NW s) (hT : s 21 0 + 3 < 1000000000) {k : Nat} (hk : k < 192) : grA s 7 k ≤ s 21 0 := (tick_W w hT).2.1.2.2.2.2.2 k hk
theorem noM_R {s : St} (w : NW s) (hT : s 21 0 + 3 < 1000000000) {r a : Nat} (hr : r < 8) (ha : a < 3) {p : Prop} (h : 2000000000 ≤ ow (mdS (grA s) r a) r a + 1) : p := by
  have hrow := rw8_lt hr ha hr
  have g := grA_le w hT hrow
  unfold ow at h
  rcases md_7 (s := grA s) (k := rw8 r a r) hr (show a ≤ 3 by omega) with e | e <;> rw [e] at h <;> omega
theorem Iv_all {t0 : St} (o : OWN t0) (w : NW t0) (hT : t0 21 0 + 90 < 1000000000) (J : Nat → Nat → Prop) : ∀ t, t ≤ 58 → Iv t0 J t
  | 0, _ => Iv_0 o w J
  | t + 1, h => by
    obtain ⟨i1, i2, i3, i4⟩ := Iv_all o w hT J t (by omega)
    obtain ⟨n1, n2⟩ := tk_NW w hT (t := t) (by omega)
    obtain ⟨-, k1, k2⟩ := tick_ROk n1 n2 i1 i2 fun r a hr ha q => noM_R n1 n2 hr ha q
    obtain ⟨k3, k4⟩ := t_SYn n1 n2 i1 i2 (by omega) i3 i4
    exact ⟨k1, k2, k3, k4⟩
theorem flood {t0 : St} (o : OWN t0) (w : NW t0) (hT : t0 21 0 + 90 < 1000000000) {x a v : Nat} (hx : x < 8) (ha : a < 3) (hB : ow t0 x a < ow (ticksS t0 v) x a) : ∀ k y, AR t0 a x k y → ∀ t, v + k ≤ t → t ≤ 58 → ow (ticksS t0 v) x a ≤ ticksS t0 t 7 (rw8 y a x)
  | 0, y, h, t, h1, h2 => by
    rw [show y = x from h]
    exact ow_mono w hT hx ha t (by omega) (by omega)
  | k + 1, y, h, t, h1, h2 => by
    rcases h with g | ⟨z, l, g1, g2⟩
    · exact flood o w hT hx ha hB k y g t (by omega) h2
    · by_cases e : x = y
      · rw [← e]
        exact ow_mono w hT hx ha t (by omega) (by omega)
      · obtain ⟨t', rfl⟩ : ∃ t', t = t' + 1 := ⟨t - 1, by omega⟩
        have i := flood o w hT hx ha hB k z g1 t' (by omega) (by omega)
        obtain ⟨i1, i2, i3, i4⟩ := Iv_all o w hT (fun _ _ => True) t' (by omega)
        obtain ⟨n1, n2⟩ := tk_NW w hT (t := t') (by omega)
        obtain ⟨l1, l2, l3, l4⟩ := g2
        have w12 := (w.1.2 l l1).2.2.1
        have eE : isE (ticksS t0 t') l z := by
          unfold isE
          rw [tk_st (by omega), tk_st (by omega)]
          exact l4.elim (fun g => Or.inl g.1) (fun g => Or.inr g.1)
        have eo : oth (ticksS t0 t') l z = y := by
          unfold oth
          rw [tk_st (by omega), tk_st (by omega)]
          rcases l4 with g | g
          · rw [if_pos g.1]; exact g.2
          · rw [if_neg (by omega)]; exact g.2
        have n := t_next n1 i1 i2 (by omega) i3 (l := l) (y := z) (x := x) (by rw [tk_st (by omega)]; exact l1) (by rw [tk_st (by omega)]; exact l2) eE hx (by rw [eo]; exact e) (by rw [tk_st (t := t') (c := 3) (by omega), l3]; show ow t0 x a < _; omega)
        rw [eo, tk_st (c := 3) (by omega), l3] at n
        exact Nat.le_trans i n
/-- there and back -/
theorem AR.fst_ {s : St} {a x z l : Nat} (h : Lk s a l x z) : ∀ k y, AR s a z k y → AR s a x (k + 1) y
  | 0, y, g => by rw [show y = z from g]; exact Or.inr ⟨x, l, rfl, h⟩
  | k + 1, y, g => by
    rcases g with g | ⟨v, m, g1, g2⟩
    · exact Or.inl (AR.fst_ h k y g)
    · exact Or.inr ⟨v, m, AR.fst_ h k v g1, g2⟩
theorem AR.sym {s : St} {a x : Nat} : ∀ k y, AR s a x k y → AR s a y k x
  | 0, y, h => Eq.symm h
  | k + 1, y, h => by
    rcases h with g | ⟨z, l, g1, g2⟩
    · exact Or.inl (AR.sym k y g)
    · exact AR.fst_ g2.symm k x (AR.sym k z g1)
theorem AR.out {s : St} {a x : Nat} : ∀ k y, AR s a x k y → y = x ∨ ∃ l z, Lk s a l x z
  | 0, y, h => Or.inl h
  | k + 1, y, h => by
    rcases h with g | ⟨z, l, g1, g2⟩
    · exact AR.out k y g
    · rcases AR.out k z g1 with e | e
      · rw [e] at g2; exact Or.inr ⟨l, y, g2⟩
      · exact Or.inr e
theorem Lk.bit {s : St} {a l x z : Nat} (ha : a < 3) (h : Lk s a l x z) : (arS s x).testBit a = true := by
  obtain ⟨h1, h2, h3, h4⟩ := h
  rw [arS_t s x a ha]
  unfold inA
  rw [List.any_eq_true]
  refine ⟨l, List.mem_range.mpr h1, ?_⟩
  unfold upB
  rw [Bool.and_eq_true]
  exact ⟨decide_eq_true ⟨h2, h4.elim (fun g => Or.inl g.1) (fun g => Or.inr g.1)⟩, decide_eq_true h3⟩
/-- who is told of, within an area: by 20 ticks and as many as it is far -/
theorem told_far {t0 : St} (o : OWN t0) (w : NW t0) (hT : t0 21 0 + 90 < 1000000000) {r a y n v t : Nat} (hr : r < 8) (ha : a < 3) (hy : y < 8) (h : AR t0 a r n y) (ne : y ≠ r) (hv : 20 ≤ v) (ht : v + Km t0 a ≤ t) (h58 : t ≤ 58) : ow t0 y a < ow (ticksS t0 v) y a ∧ ow (ticksS t0 v) y a ≤ ticksS t0 t 7 (rw8 r a y) := by
  have k := AR.km w.1 hy (AR.sym n y h)
  have b : ow t0 y a < ow (ticksS t0 v) y a := by
    rcases ow_told w hT hy ha v (by omega) with g | ⟨-, -, g⟩ | g
    · exact g
    · rcases AR.out _ r k with e | ⟨l, z, e⟩
      · exact absurd e.symm ne
      · have := e.bit ha
        rcases g with g | g
        · omega
        · rw [g] at this; exact absurd this (by decide)
    · omega
  exact ⟨b, flood o w hT hy ha b (Km t0 a) r k t ht h58⟩
