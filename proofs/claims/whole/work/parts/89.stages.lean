/-! the stages: each area; the backbone; each area again -/
theorem AOk.raise {s : St} {B M M' : Nat → Nat → Nat} {T : Nat} {J : Nat → Nat → Prop} {x a N age : Nat} {cs ms : Nat → Nat} (h : AOk s B M T J x a N age cs ms) (o : M' x a = M x a ∨ (ow s x a ≤ M' x a ∧ (ow s x a ≠ 0 → ∀ d, d < 8 → s 10 (rw8 x a x * 8 + d) < 9999 → J x d))) : AOk s B M' T J x a N age cs ms := by
  obtain ⟨h1, h2⟩ := h
  refine ⟨h1, fun q => ?_⟩
  obtain ⟨g1, g2, g3, g4⟩ := h2 q
  refine ⟨g1, g2, g3, fun z => ?_⟩
  rcases o with e | ⟨o1, o2⟩
  · exact g4 (by omega)
  · intro d hd hm
    have e : N = ow s x a := by omega
    exact o2 (by omega) d hd (by rw [← (g3 e).2 d hd]; exact hm)
noncomputable def M1 (t0 : St) (v : Nat) : Nat → Nat → Nat := fun x a => if a = 0 then ow (ticksS t0 v) x 0 else 2000000000
noncomputable def M2 (t0 : St) (v v' : Nat) : Nat → Nat → Nat := fun x a => if a = 0 then ow (ticksS t0 v) x 0 else ow (ticksS t0 v') x a
theorem M1_0 {t0 : St} {v x : Nat} : M1 t0 v x 0 = ow (ticksS t0 v) x 0 := if_pos rfl
theorem M1_n {t0 : St} {v x a : Nat} (h : a ≠ 0) : M1 t0 v x a = 2000000000 := if_neg h
theorem M2_0 {t0 : St} {v v' x : Nat} : M2 t0 v v' x 0 = ow (ticksS t0 v) x 0 := if_pos rfl
theorem M2_n {t0 : St} {v v' x a : Nat} (h : a ≠ 0) : M2 t0 v v' x a = ow (ticksS t0 v') x a := if_neg h
section
variable {t0 : St}
/-- own sums, as last told -/
theorem own_at {t x a : Nat} (w : NW t0) (hT : t0 21 0 + 90 < 1000000000) (ht : t ≤ 80) (hx : x < 8) (ha : a < 3) (h0 : ow (ticksS t0 (t + 1)) x a ≠ 0) : ∀ d, d < 8 → ticksS t0 (t + 1) 10 (rw8 x a x * 8 + d) = nwS (mdS (grA (ticksS t0 t)) x a) x a d :=
  (t_own (tk_NW w hT ht).1 hx ha).2 h0
theorem raise_ {t : Nat} {M M' : Nat → Nat → Nat} (w : NW t0) (hT : t0 21 0 + 90 < 1000000000) (ht : t ≤ 80) (h1 : ROk (ticksS t0 t) (bB t0) M t (Jn t0)) (h2 : MOk (ticksS t0 t) (bB t0) M t (Jn t0))
    (o : ∀ x a, x < 8 → a < 3 → M' x a = M x a ∨ (ow (ticksS t0 t) x a ≤ M' x a ∧ (ow (ticksS t0 t) x a ≠ 0 → ∀ d, d < 8 → ticksS t0 t 10 (rw8 x a x * 8 + d) < 9999 → Jn t0 x d))) : ROk (ticksS t0 t) (bB t0) M' t (Jn t0) ∧ MOk (ticksS t0 t) (bB t0) M' t (Jn t0) := by
  obtain ⟨n1, -⟩ := tk_NW w hT (t := t) ht
  refine ⟨fun y a x hy ha hx => (h1 y a x hy ha hx).raise (o x a hx ha), fun i hi => (h2 i hi).raise ?_⟩
  obtain ⟨w1, -, w3, -⟩ := n1.2.2.1.2 i hi
  exact o _ _ w3 (n1.1.2 _ w1).2.2.2.1
/-- the first stage -/
theorem stage1 {v : Nat} (o : OWN t0) (w : NW t0) (hT : t0 21 0 + 90 < 1000000000) (hv : 21 ≤ v) (h1 : 20 + Km t0 1 ≤ v) (h2 : 20 + Km t0 2 ≤ v) : ∀ t, v ≤ t → t ≤ 58 → ROk (ticksS t0 t) (bB t0) (M1 t0 v) t (Jn t0) ∧ MOk (ticksS t0 t) (bB t0) (M1 t0 v) t (Jn t0)
  | 0, h, _ => by omega
  | t + 1, h, h58 => by
    by_cases e : v = t + 1
    · obtain ⟨i1, i2, -⟩ := Iv_all o w hT (Jn t0) (t + 1) h58
      refine raise_ w hT (by omega) i1 i2 fun x a hx ha => ?_
      by_cases a0 : a = 0
      · subst a0
        rw [M1_0, e]
        refine Or.inr ⟨Nat.le_refl _, fun q d hd hm => ?_⟩
        rw [own_at w hT (by omega) hx ha q d hd] at hm
        exact rt0 o w hT hx (by omega) (by omega) (by omega) h58 hd hm
      · rw [M1_n a0]
        exact Or.inl rfl
    · obtain ⟨i1, i2⟩ := stage1 o w hT hv h1 h2 t (by omega) (by omega)
      obtain ⟨n1, n2⟩ := tk_NW w hT (t := t) (by omega)
      exact (tick_ROk n1 n2 i1 i2 fun r a hr ha q d hd hm => by
        by_cases a0 : a = 0
        · subst a0
          exact rt0 o w hT hr (by omega) (by omega) (by omega) h58 hd hm
        · rw [M1_n a0] at q
          exact noM_R n1 n2 hr ha q).2
/-- in the midst of a tick of the first stage -/
theorem mid1 {v t r a d : Nat} (o : OWN t0) (w : NW t0) (hT : t0 21 0 + 90 < 1000000000) (hv : 21 ≤ v) (h1 : 20 + Km t0 1 ≤ v) (h2 : 20 + Km t0 2 ≤ v) (hvt : v ≤ t) (h0 : v + Km t0 0 ≤ t + 1) (h58 : t + 1 ≤ 58) (hr : r < 8) (ha : a < 3) (ha0 : a ≠ 0) (hd : d < 8) (h : nwS (mdS (grA (ticksS t0 t)) r a) r a d < 9999) : Jn t0 r d := by
  obtain ⟨i1, i2⟩ := stage1 o w hT hv h1 h2 t hvt (by omega)
  obtain ⟨n1, n2⟩ := tk_NW w hT (t := t) (by omega)
  have hR := md_ROk (gr_ROk w hT (by omega) i1 i2) (fun r a hr ha q d hd hm => by
        by_cases a0 : a = 0
        · subst a0
          exact rt0 o w hT hr (by omega) (by omega) (by omega) h58 hd hm
        · rw [M1_n a0] at q
          exact noM_R n1 n2 hr ha q) hr a (by omega)
  refine rt12 o w hT hr ha ha0 (by omega) (by omega) h58 hR (fun k n hk ne hn => ?_) hd h
  obtain ⟨q1, q2⟩ := told_far o w hT hr (show 0 < 3 by omega) hk hn ne (v := v) (t := t + 1) (by omega) (by omega) h58
  have e1 : ticksS t0 (t + 1) 7 (rw8 r 0 k) = grA (ticksS t0 t) 7 (rw8 r 0 k) := by
    show tickS (ticksS t0 t) 7 _ = _
    rw [tick_row _ (by omega)]
    exact (tnA_far (by omega) hk ne).1
  rw [md_keep hr (by omega) (by omega) hk ne, ← e1, M1_0]
  exact ⟨by omega, q2⟩
/-- the second stage -/
theorem stage2 {v v' : Nat} (o : OWN t0) (w : NW t0) (hT : t0 21 0 + 90 < 1000000000) (hv : 21 ≤ v) (h1 : 20 + Km t0 1 ≤ v) (h2 : 20 + Km t0 2 ≤ v) (hv' : v + 1 ≤ v') (h0 : v + Km t0 0 ≤ v') : ∀ t, v' ≤ t → t ≤ 58 → ROk (ticksS t0 t) (bB t0) (M2 t0 v v') t (Jn t0) ∧ MOk (ticksS t0 t) (bB t0) (M2 t0 v v') t (Jn t0)
  | 0, h, _ => by omega
  | t + 1, h, h58 => by
    by_cases e : v' = t + 1
    · obtain ⟨i1, i2⟩ := stage1 o w hT hv h1 h2 (t + 1) (by omega) h58
      refine raise_ w hT (by omega) i1 i2 fun x a hx ha => ?_
      by_cases a0 : a = 0
      · subst a0
        rw [M1_0, M2_0]
        exact Or.inl rfl
      · rw [M2_n a0, e]
        refine Or.inr ⟨Nat.le_refl _, fun q d hd hm => ?_⟩
        rw [own_at w hT (by omega) hx ha q d hd] at hm
        exact mid1 o w hT hv h1 h2 (by omega) (by omega) h58 hx ha a0 hd hm
    · obtain ⟨i1, i2⟩ := stage2 o w hT hv h1 h2 hv' h0 t (by omega) (by omega)
      obtain ⟨n1, n2⟩ := tk_NW w hT (t := t) (by omega)
      exact (tick_ROk n1 n2 i1 i2 fun r a hr ha q d hd hm => by
        by_cases a0 : a = 0
        · subst a0
          exact rt0 o w hT hr (by omega) (by omega) (by omega) h58 hd hm
        · exact mid1 o w hT hv h1 h2 (by omega) (by omega) h58 hr ha a0 hd hm).2
theorem fcP_ex (s : St) (A : Nat) (D : Nat → Nat → Nat) (r d : Nat) : ∀ n, (fcP s A D r d n).1 < 9999 → ∃ k, k < n ∧ (tlP s (D k) r k d 8).1 < 9999
  | 0, h => absurd h (Nat.lt_irrefl _)
  | n + 1, h => by
    unfold fcP at h
    by_cases c : A.testBit n = true ∧ (tlP s (D n) r n d 8).1 < (fcP s A D r d n).1
    · rw [if_pos c] at h
      exact ⟨n, by omega, h⟩
    · rw [if_neg c] at h
      obtain ⟨k, h1, h2⟩ := fcP_ex s A D r d n h
      exact ⟨k, by omega, h2⟩
theorem kn_40 {r a y : Nat} (o : OWN t0) (w : NW t0) (hT : t0 21 0 + 90 < 1000000000) (hr : r < 8) (ha : a < 3) (hy : y < 8) (hF : dD (Ew (ticksS t0 40) r a) r y < 9999) : ∃ n, AR t0 a r n y := by
  obtain ⟨n1, n2⟩ := tk_NW w hT (t := 40) (by omega)
  obtain ⟨i1, -⟩ := Iv_all o w hT (Jn t0) 40 (by omega)
  refine kn (M := noM) n1.1 n1.2.1 (fun c hc => tk_st hc 40) i1 hr ha (fun z n hz h => ?_) hy hF
  by_cases e : z = r
  · subst e
    rcases ow_told w hT hz ha 40 (by omega) with q | ⟨q1, q2, -⟩ | q
    · exact Or.inr q
    · exact Or.inl q1
    · omega
  · have := Km_or t0 a
    obtain ⟨q1, q2⟩ := told_far o w hT hr ha hz h e (v := 20) (t := 40) (by omega) (by omega) (by omega)
    exact Or.inr (by omega)
theorem routed {r d : Nat} (o : OWN t0) (w : NW t0) (hT : t0 21 0 + 90 < 1000000000) (hr : r < 8) (hd : d < 8) (h : (rtC (ticksS t0 40) r d).1 ≠ -1) : Jn t0 r d := by
  have k0 := Km_or t0 0
  have k1 := Km_or t0 1
  have k2 := Km_or t0 2
  have ks := nA_sum w.1
  obtain ⟨v, hv, h1, h2, hv3⟩ : ∃ v, 21 ≤ v ∧ 20 + Km t0 1 ≤ v ∧ 20 + Km t0 2 ≤ v ∧ (v = 21 + Km t0 1 ∨ v = 21 + Km t0 2) := by
    by_cases c : Km t0 1 ≤ Km t0 2
    · exact ⟨21 + Km t0 2, by omega, by omega, by omega, Or.inr rfl⟩
    · exact ⟨21 + Km t0 1, by omega, by omega, by omega, Or.inl rfl⟩
  obtain ⟨v', hv', h0, hv4⟩ : ∃ v', v + 1 ≤ v' ∧ v + Km t0 0 ≤ v' ∧ (v' = v + Km t0 0 ∨ (Km t0 0 = 0 ∧ v' = v + 1)) := by
    by_cases c : Km t0 0 = 0
    · exact ⟨v + 1, by omega, by omega, Or.inr ⟨c, rfl⟩⟩
    · exact ⟨v + Km t0 0, by omega, by omega, Or.inl rfl⟩
  have hA : ∀ a, a < 3 → a ≠ 0 → v' + Km t0 a ≤ 40 := fun a ha a0 => by
    rcases (show a = 1 ∨ a = 2 by omega) with rfl | rfl <;> omega
  have h40 := hA 1 (by omega) (by omega)
  obtain ⟨i1, i2⟩ := stage2 o w hT hv h1 h2 hv' h0 40 (by omega) (by omega)
  unfold rtC at h
  split at h
  · rename_i e
    rw [e]
    exact Jn.rfl_ r
  · split at h
    · rename_i c
      rcases (fiP_ok (arS (ticksS t0 40) r) (DS (ticksS t0 40) r) d 3 (Nat.le_refl 3)).2 with ⟨q, -⟩ | ⟨q1, q2, q3⟩
      · omega
      · have lt := (fiP_lt (arS (ticksS t0 40) r) (DS (ticksS t0 40) r) d 3 (Nat.le_refl 3)).mp c
        rw [q3] at lt
        obtain ⟨n, hn⟩ := kn_40 o w hT hr c hd lt
        exact AR.jn n d hn
    · split at h
      · rename_i c
        obtain ⟨a, ha, hm⟩ := fcP_ex _ _ _ r d 3 ((fcP_lt (ticksS t0 40) (acA (ticksS t0 40) r) (DS (ticksS t0 40) r) r d 3 (Nat.le_refl 3)).mp c)
        rcases (tlP_ok (ticksS t0 40) (DS (ticksS t0 40) r a) r a d 8 (Nat.le_refl 8)).2 with ⟨-, q⟩ | ⟨q1, q2, q3, q4⟩
        · omega
        · generalize (tlP (ticksS t0 40) (DS (ticksS t0 40) r a) r a d 8).2 = k at *
          rw [q4] at hm
          obtain ⟨n, hn⟩ := kn_40 o w hT hr ha q1 (y := k) (show DS (ticksS t0 40) r a k < 9999 by omega)
          have b : ow t0 k a < ticksS t0 40 7 (rw8 r a k) ∧ M2 t0 v v' k a ≤ ticksS t0 40 7 (rw8 r a k) := by
            by_cases a0 : a = 0
            · subst a0
              rw [M2_0]
              obtain ⟨p1, p2⟩ := told_far o w hT hr ha q1 hn q2 (v := v) (t := 40) (by omega) (by omega) (by omega)
              exact ⟨by omega, p2⟩
            · rw [M2_n a0]
              obtain ⟨p1, p2⟩ := told_far o w hT hr ha q1 hn q2 (v := v') (t := 40) (by omega) (hA a ha a0) (by omega)
              exact ⟨by omega, p2⟩
          exact (AR.jn n k hn).tr (((i1 r a k hr ha q1).2 b.1).2.2.2 b.2 d hd (by
            show ticksS t0 40 10 (rw8 r a k * 8 + d) < 9999
            omega))
      · exact absurd rfl h
theorem SubR_40 {r : Nat} (o : OWN t0) (w : NW t0) (hT : t0 21 0 + 90 < 1000000000) (hr : r < 8) : SubR (ticksS t0 40) r := by
  intro d hd h
  have e : Et (ticksS t0 40) 12 = Et t0 12 := by
    unfold Et
    rw [tk_st (c := 0) (by omega), tk_st (c := 1) (by omega), tk_st (c := 2) (by omega), tk_st (c := 4) (by omega), tk_st (c := 5) (by omega), tk_st (c := 6) (by omega)]
  rw [e]
  exact Jn.way w.1 hr (routed o w hT hr hd h)
end
