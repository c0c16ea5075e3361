/-! Paths: the nearest, an edge relaxed, all measured -/
def NrI (dn : Nat → Bool) (f : Nat → Nat) (k : Nat) (x : Int32) (L : Nat) : Prop :=
  (x = -1 ∧ L = 9999 ∧ ∀ y, y < k → dn y = true ∨ ¬ f y < FAR) ∨ ∃ z, z < 8 ∧ x = nI z ∧ L = f z ∧ dn z = false ∧ f z < FAR ∧ ∀ y, y < k → dn y = false → f z ≤ f y
theorem nearest_loop {E : JE} {u : JM} {K : Int32 → JM → Prop} {P : Nat} (hP : isPaths P) {f h : Nat → Nat} {dn : Nat → Bool} (hT : PT P f h u) (hD : PD P dn u) (hF : ∀ y, f y ≤ 9999) (hK : ∀ x L, NrI dn f 8 x L → K x u) :
    ∀ (m k : Nat) (i1 : Int32) (L : Nat), m + k = 8 → NrI dn f k i1 L → JVi E 1 YX3_nearest K 8 [some (.ref P), some (.int i1), some (.int (nI L)), some (.int (nI k))] [] u := by
  intro m
  induction m with
  | zero =>
    intro k i1 L hm hi
    obtain rfl : k = 8 := by omega
    refine g_X3_nearest_8 hP ⟨fun _ => hK _ _ hi, fun c => absurd (by decide) c⟩
  | succ m ih =>
    intro k i1 L hm hi
    have hk : k < 8 := by omega
    have hLb : L ≤ 9999 := by
      rcases hi with ⟨-, e, -⟩ | ⟨z, -, -, e, -⟩
      · omega
      · rw [e]; exact hF z
    have hfk := hF k
    have c0 : ¬ (8 : Int32) ≤ nI k := by rw [show (8 : Int32) = nI 8 from rfl, nI_leI (by omega) (by omega)]; omega
    refine g_X3_nearest_8 hP ⟨fun c => absurd c c0, fun _ => ⟨vpI hk (by omega), ?_⟩⟩
    rw [nI_cl (by omega), (hT k hk).1, hD k hk, nI_1]
    intro v1 hv1 v2 hv2
    by_cases c : dn k = true
    · rw [if_neg (by rw [jb_t c]; decide)] at hv1 hv2
      rw [hv1, hv2]
      refine ih (k + 1) i1 L (by omega) ?_
      rcases hi with ⟨e1, e2, e3⟩ | ⟨z, e1, e2, e3, e4, e5, e6⟩
      · refine Or.inl ⟨e1, e2, fun y hy => ?_⟩
        rcases Nat.lt_or_ge y k with q | q
        · exact e3 y q
        · rw [show y = k by omega]; exact Or.inl c
      · refine Or.inr ⟨z, e1, e2, e3, e4, e5, fun y hy hn => ?_⟩
        rcases Nat.lt_or_ge y k with q | q
        · exact e6 y q hn
        · rw [show y = k by omega] at hn; rw [c] at hn; cases hn
    · rw [if_pos (jb_f c)] at hv1 hv2
      have hd : dn k = false := by
        cases hq : dn k with
        | false => rfl
        | true => exact absurd hq c
      by_cases c1 : L ≤ f k
      · rw [if_pos (nI_le c1 (by omega))] at hv1 hv2
        rw [hv1, hv2]
        refine ih (k + 1) i1 L (by omega) ?_
        rcases hi with ⟨e1, e2, e3⟩ | ⟨z, e1, e2, e3, e4, e5, e6⟩
        · refine Or.inl ⟨e1, e2, fun y hy => ?_⟩
          rcases Nat.lt_or_ge y k with q | q
          · exact e3 y q
          · rw [show y = k by omega]; exact Or.inr (by unfold FAR; omega)
        · refine Or.inr ⟨z, e1, e2, e3, e4, e5, fun y hy hn => ?_⟩
          rcases Nat.lt_or_ge y k with q | q
          · exact e6 y q hn
          · rw [show y = k by omega]; omega
      · rw [if_neg (nI_ge (by omega) (by omega))] at hv1 hv2
        rw [hv1, hv2]
        refine ih (k + 1) (nI k) (f k) (by omega) (Or.inr ⟨k, hk, rfl, rfl, hd, ?_, fun y hy hn => ?_⟩)
        · unfold FAR; omega
        · rcases Nat.lt_or_ge y k with q | q
          · rcases hi with ⟨e1, e2, e3⟩ | ⟨z, e1, e2, e3, e4, e5, e6⟩
            · rcases e3 y q with r | r
              · rw [hn] at r; cases r
              · unfold FAR at r; omega
            · have := e6 y q hn; omega
          · rw [show y = k by omega]; exact Nat.le_refl _
theorem c_X3_nearest {E : JE} {u : JM} {K : Int32 → JM → Prop} {P : Nat} (hP : isPaths P) {f h : Nat → Nat} {dn : Nat → Bool} (hT : PT P f h u) (hD : PD P dn u) (hF : ∀ y, f y ≤ 9999) (hK : ∀ x L, NrI dn f 8 x L → K x u) : JCi E 1 YX3_nearest [.ref P] K u := by
  refine JCi.ofV (ls := [some (.ref P), none, none, none]) (by decide +kernel) (Nat.le_of_ble_eq_true rfl) rfl rfl (g_X3_nearest_0 hP ?_)
  exact (nearest_loop hP hT hD hF hK 8 0 (-1) 9999 (by omega) (Or.inl ⟨rfl, rfl, fun y hy => absurd hy (Nat.not_lt_zero y)⟩))
theorem hpI_lt {h : Nat} (hh : h < 8) : hpI h = nI h := if_pos hh
theorem rows_add {r a o : Nat} : nI (rw8 r a 0) + nI o = nI (rw8 r a o) := by
  rw [nI_add]; congr 1
theorem cost_ix {r a o l : Nat} : nI (rw8 r a o) * 12 + nI l = nI (rw8 r a o * 12 + l) := by
  rw [show (12 : Int32) = nI 12 from rfl, pk_mul, nI_add]
/-- the edges that are in force: from those done before, and from z over links below k -/
def Ak (s : St) (r a : Nat) (dn : Nat → Bool) (z k : Nat) : Eg := fun x y w => (dn x = true ∧ Ew s r a x y w) ∨ (x = z ∧ ∃ l, l < k ∧ El s r a l z y w)
theorem goOn_loop {E : JE} {K : JM → Prop} {P N : Nat} (hP : isPaths P) (hN : isNet N) {s : St} {u0 : JM} {r a z : Nat} {dn : Nat → Bool} (hL : CL N s u0) (hK : CK N s u0) (wL : WL s) (wK : WK s) (hr : r < 8) (ha : a < 3) (hz8 : z < 8)
    (hmax : ∀ x, dup dn z x = true → dD (Ew s r a) r x ≤ dD (Ew s r a) r z)
    (hE : ∀ u f h, same u0 u (inP P) → u (P + 3) = u0 (P + 3) → PT P f h u → DI (Ew s r a) r (Ak s r a dn z (s 0 0)) (dup dn z) f h → K u) :
    ∀ (m k : Nat) (u : JM) (f h : Nat → Nat), m + k = s 0 0 → same u0 u (inP P) → u (P + 3) = u0 (P + 3) → PT P f h u → DI (Ew s r a) r (Ak s r a dn z k) (dup dn z) f h →
      JVu E 1 YX3_goOn K 15 [some (.ref P), some (.ref N), some (.int (nI (rw8 r a 0))), some (.int (nI r)), some (.int (nI z)), some (.ref (N + 1)), some (.ref (N + 9)), some (.int (nI k)), none, none, none, none] [] u := by
  have hn12 := wL.1
  have hEok := Ew_ok wL wK hr ha
  intro m
  induction m with
  | zero =>
    intro k u f h hm hs h3 hT hI
    obtain rfl : k = s 0 0 := by omega
    have hLu : CL N s u := hL.congr fun j _ _ => hs _ (inP_N hP hN (by omega))
    refine g_X3_goOn_15 hP hN ⟨fun _ => hE u f h hs h3 hT hI, fun c => ?_⟩
    rw [hLu.1] at c
    exact absurd (nI_le (Nat.le_refl _) (by omega)) c
  | succ m ih =>
    intro k u f h hm hs h3 hT hI
    have hk : k < s 0 0 := by omega
    have hLu : CL N s u := hL.congr fun j _ _ => hs _ (inP_N hP hN (by omega))
    have hKu : CK N s u := hK.congr fun j _ _ => hs _ (inP_N hP hN (by omega))
    obtain ⟨l1, l2, l3, -⟩ := hLu.2.1 k hk
    obtain ⟨w1, w2, w3, w4, -⟩ := wL.2 k hk
    have c0 : ¬ u (N + 1) 0 ≤ nI k := by rw [hLu.1]; exact nI_ge hk (by omega)
    refine g_X3_goOn_15 hP hN ⟨fun c => absurd c c0, fun _ => ⟨vpI (by omega) (by omega), ?_⟩⟩
    rw [nI_cl (show k < 2147483648 by omega), l1, l2]
    intro v1 hv1
    obtain ⟨nx, hnx8, hnxe, hvx⟩ : ∃ nx, nx < 8 ∧ (nx = if s 1 k = z then s 2 k else s 1 k) ∧ v1 = nI nx := by
      by_cases e : s 1 k = z
      · exact ⟨s 2 k, w2, by rw [if_pos e], by rw [hv1, if_pos (by rw [e])]⟩
      · exact ⟨s 1 k, w1, by rw [if_neg e], by rw [hv1, if_neg (fun q => e (nI_inj (by omega) (by omega) q))]⟩
    subst hvx
    have b1 := rw8_lt hr ha hz8
    have b2 := rw8_lt hr ha hnx8
    rw [rows_add, rows_add]
    refine ⟨vpI b1 (by omega), vpI b2 (by omega), ?_⟩
    rw [nI_cl (show rw8 r a z < 2147483648 by omega), nI_cl (show rw8 r a nx < 2147483648 by omega), (hKu _ b1).2.1, (hKu _ b2).2.1, fa_and]
    intro i9 hi9
    rw [hi9, nI_1]
    have hlt2 : lks s (rw8 r a z) &&& lks s (rw8 r a nx) < 2 ^ 31 := Nat.lt_of_le_of_lt Nat.and_le_left (by have := lks_lt s (rw8 r a z); omega)
    have hbit : (lks s (rw8 r a z) &&& lks s (rw8 r a nx)).testBit k = decide (0 < tl s r a z k ∧ 0 < tl s r a nx k) := by
      rw [Nat.testBit_and, lks_test (by omega), lks_test (by omega)]
      unfold tl
      by_cases q1 : s 7 (rw8 r a z) = 0 <;> by_cases q2 : s 7 (rw8 r a nx) = 0 <;> simp [q1, q2]
    refine ⟨fun c => ?_, fun c => ?_⟩
    · -- no edge over this link
      rw [nI_tst hlt2 (by omega), hbit] at c
      refine ih (k + 1) u f h (by omega) hs h3 hT (hI.congr fun x y w => ⟨?_, ?_⟩)
      · rintro (q | ⟨rfl, l, hl, he⟩)
        · exact Or.inl q
        · rcases Nat.lt_or_ge l k with g | g
          · exact Or.inr ⟨rfl, l, g, he⟩
          · obtain rfl : l = k := by omega
            exfalso
            obtain ⟨e1, e2, e3, e4, e5, e6, e7⟩ := he
            have : y = nx := by
              rw [hnxe]
              rcases e4 with ⟨g1, g2⟩ | ⟨g1, g2⟩
              · rw [if_pos g1]; exact g2.symm
              · by_cases g3 : s 1 l = x
                · exact absurd (g3.trans g1.symm) w3
                · rw [if_neg g3]; exact g2.symm
            subst this
            have := of_decide_eq_false c
            exact this ⟨by omega, e5⟩
      · rintro (q | ⟨rfl, l, hl, he⟩)
        · exact Or.inl q
        · exact Or.inr ⟨rfl, l, by omega, he⟩
    · have hb : 0 < tl s r a z k ∧ 0 < tl s r a nx k := by
        have : ¬ (lks s (rw8 r a z) &&& lks s (rw8 r a nx)).testBit k = false := fun q => c ((nI_tst hlt2 (by omega)).mpr q)
        rw [hbit] at this
        have this := by simpa using this
        exact ⟨this.1, by omega⟩
      obtain ⟨t1, t2, t3⟩ := tl_end wK hr ha hz8 (by omega) hb.1
      have hw9 := tl_le wK hr ha hz8 (show k < 12 by omega)
      have h7 : 0 < s 7 (rw8 r a z) := by
        have := hb.1; unfold tl at this; split at this <;> omega
      have hcost : u (N + 13) (rw8 r a z * 12 + k) = nI (tl s r a z k) := by
        rw [((hKu _ b1).2.2 h7).2.1 k (by omega)]
        have e : tl s r a z k = s 9 (rw8 r a z * 12 + k) := by unfold tl; rw [if_neg (by omega)]
        rw [e]
        unfold ccst
        rw [if_neg (by have := hb.1; omega)]
      have hEl : El s r a k z nx (tl s r a z k) := by
        refine ⟨hz8, hnx8, hk, ?_, hb.2, hb.1, rfl⟩
        by_cases e : s 1 k = z
        · exact Or.inl ⟨e, by rw [hnxe, if_pos e]⟩
        · rcases t3 with q | q
          · exact absurd q e
          · exact Or.inr ⟨q, by rw [hnxe, if_neg e]⟩
      have hzd : dup dn z z = true := by unfold dup; simp
      obtain ⟨fz1, fz2, -⟩ := hI.2.2.1 z hzd
      have hfb : ∀ y, f y ≤ 9999 := fun y => (hI.2.1 y).2
      unfold FAR at fz2
      have hhz : z ≠ r → h z < 8 := fun q => ((hI.2.2.2.2 z q).2 (by unfold FAR; omega)).1
      have hc8 : cnd r h z nx < 8 := by
        unfold cnd; split
        · exact hnx8
        · rename_i q; exact hhz q
      rw [cost_ix]
      refine ⟨vpI hz8 (by omega), vpI (by omega) (by omega), ?_⟩
      rw [nI_cl (show z < 2147483648 by omega), nI_cl (show rw8 r a z * 12 + k < 2147483648 by omega), (hT z hz8).1, hcost, nI_add]
      intro i10 hi10 v4 hv4
      have hv : v4 = nI (cnd r h z nx) := by
        rw [hv4]
        unfold cnd
        by_cases q : z = r
        · rw [if_pos (by rw [q]), if_pos q]
        · rw [if_neg (fun e => q (nI_inj (by omega) (by omega) e)), if_neg q, (hT z hz8).2, hpI_lt (hhz q)]
      subst hi10
      subst hv
      refine ⟨vpI hnx8 (by omega), ?_⟩
      rw [nI_cl (show nx < 2147483648 by omega), (hT nx hnx8).1, (hT nx hnx8).2]
      have hfn := hfb nx
      have step : ∀ f' h', ((f z + tl s r a z k < f nx ∧ f' = fup f nx (f z + tl s r a z k) ∧ h' = fup h nx (cnd r h z nx)) ∨ (f z + tl s r a z k = f nx ∧ hlt (cnd r h z nx) (h nx) ∧ f' = f ∧ h' = fup h nx (cnd r h z nx)) ∨ (¬ f z + tl s r a z k < f nx ∧ ¬ (f z + tl s r a z k = f nx ∧ hlt (cnd r h z nx) (h nx)) ∧ f' = f ∧ h' = h)) → DI (Ew s r a) r (Ak s r a dn z (k + 1)) (dup dn z) f' h' := by
        intro f' h' hh
        refine (hI.edge hEok hzd hmax ⟨k, hEl⟩ hh).congr fun x y w => ⟨?_, ?_⟩
        · rintro (q | ⟨rfl, l, hl, he⟩)
          · exact Or.inl (Or.inl q)
          · rcases Nat.lt_or_ge l k with g | g
            · exact Or.inl (Or.inr ⟨rfl, l, g, he⟩)
            · obtain rfl : l = k := by omega
              refine Or.inr ⟨rfl, ?_, he.2.2.2.2.2.2⟩
              rw [hnxe]
              rcases he.2.2.2.1 with ⟨g1, g2⟩ | ⟨g1, g2⟩
              · rw [if_pos g1]; exact g2.symm
              · by_cases g3 : s 1 l = x
                · exact absurd (g3.trans g1.symm) w3
                · rw [if_neg g3]; exact g2.symm
        · rintro ((q | ⟨rfl, l, hl, he⟩) | ⟨rfl, rfl, rfl⟩)
          · exact Or.inl q
          · exact Or.inr ⟨rfl, l, by omega, he⟩
          · exact Or.inr ⟨rfl, k, by omega, hEl⟩
      have e13 : P + 1 ≠ P + 2 := by omega
      refine ⟨fun c1 u5 hu5 u6 hu6 => ?_, fun c1 => ⟨fun c2 => ?_, fun c2 => ⟨fun c3 => ?_, fun c3 u7 hu7 u8 hu8 => ?_⟩⟩⟩
      · rw [nI_ltI (by omega) (by omega)] at c1
        refine ih (k + 1) u6 (fup f nx (f z + tl s r a z k)) (fup h nx (cnd r h z nx)) (by omega) ?_ ?_ ?_ (step _ _ (Or.inl ⟨c1, rfl, rfl⟩))
        · rw [hu6, hu5]; exact (hs.jw (Or.inl rfl)).jw (Or.inr (Or.inl rfl))
        · rw [hu6, hu5, jw_ne (by omega), jw_ne (by omega)]; exact h3
        · intro y hy
          rw [hu6, hu5, jw_ne e13, jw_at, jw_at, jw_ne (Ne.symm e13)]
          unfold fup
          refine ⟨?_, ?_⟩
          · split
            · rfl
            · exact (hT y hy).1
          · split
            · exact (hpI_lt hc8).symm
            · exact (hT y hy).2
      · rw [nI_ltI (by omega) (by omega)] at c1
        have c2' : ¬ f z + tl s r a z k = f nx := fun q => c2 (by rw [q])
        exact ih (k + 1) u f h (by omega) hs h3 hT (step _ _ (Or.inr (Or.inr ⟨c1, fun q => c2' q.1, rfl, rfl⟩)))
      · rw [nI_ltI (by omega) (by omega)] at c1
        refine ih (k + 1) u f h (by omega) hs h3 hT (step _ _ (Or.inr (Or.inr ⟨c1, fun q => ?_, rfl, rfl⟩)))
        have q1 := q.2.1
        have q2 := q.2.2
        rw [hpI_lt q1, nI_leI (by omega) (by omega)] at c3
        omega
      · rw [nI_ltI (by omega) (by omega)] at c1
        have c2' : f z + tl s r a z k = f nx := nI_inj (by omega) (by omega) c2
        have q1 : hlt (cnd r h z nx) (h nx) := by
          by_cases q : h nx < 8
          · rw [hpI_lt q, nI_leI (by omega) (by omega)] at c3
            exact ⟨q, by omega⟩
          · exfalso
            apply c3
            unfold hpI
            rw [if_neg q, Int32.le_iff_toInt_le, nI_toInt (by omega), show (-1 : Int32).toInt = -1 from by decide]
            omega
        refine ih (k + 1) u8 f (fup h nx (cnd r h z nx)) (by omega) ?_ ?_ ?_ (step _ _ (Or.inr (Or.inl ⟨c2', q1, rfl, rfl⟩)))
        · rw [hu8, hu7]; exact (hs.jw (Or.inl rfl)).jw (Or.inr (Or.inl rfl))
        · rw [hu8, hu7, jw_ne (by omega), jw_ne (by omega)]; exact h3
        · intro y hy
          rw [hu8, hu7, jw_ne e13, jw_at, jw_at, jw_ne (Ne.symm e13)]
          unfold fup
          refine ⟨?_, ?_⟩
          · split
            · rename_i q; rw [q, c2']
            · exact (hT y hy).1
          · split
            · exact (hpI_lt hc8).symm
            · exact (hT y hy).2
theorem c_X3_goOn {E : JE} {K : JM → Prop} {P N : Nat} (hP : isPaths P) (hN : isNet N) {s : St} {u0 : JM} {r a z : Nat} {dn : Nat → Bool} {f h : Nat → Nat} (hL : CL N s u0) (hK : CK N s u0) (wL : WL s) (wK : WK s) (hr : r < 8) (ha : a < 3) (hz8 : z < 8)
    (hmax : ∀ x, dup dn z x = true → dD (Ew s r a) r x ≤ dD (Ew s r a) r z) (hT : PT P f h u0) (hI : DI (Ew s r a) r (fun x y w => dn x = true ∧ Ew s r a x y w) (dup dn z) f h)
    (hE : ∀ u f h, same u0 u (inP P) → u (P + 3) = u0 (P + 3) → PT P f h u → DI (Ew s r a) r (fun x y w => dup dn z x = true ∧ Ew s r a x y w) (dup dn z) f h → K u) :
    JCu E 1 YX3_goOn [.ref P, .ref N, .int (nI (rw8 r a 0)), .int (nI r), .int (nI z)] K u0 := by
  have hA : ∀ x y w, Ak s r a dn z (s 0 0) x y w ↔ (dup dn z x = true ∧ Ew s r a x y w) := by
    intro x y w
    unfold Ak dup
    constructor
    · rintro (⟨q1, q2⟩ | ⟨rfl, l, hl, he⟩)
      · refine ⟨?_, q2⟩
        split
        · rfl
        · exact q1
      · exact ⟨by simp, l, he⟩
    · rintro ⟨q1, l, he⟩
      by_cases e : x = z
      · subst e
        exact Or.inr ⟨rfl, l, he.2.2.1, he⟩
      · rw [if_neg e] at q1
        exact Or.inl ⟨q1, l, he⟩
  refine JCu.ofV (ls := [some (.ref P), some (.ref N), some (.int (nI (rw8 r a 0))), some (.int (nI r)), some (.int (nI z)), none, none, none, none, none, none, none]) (by decide +kernel) (Nat.le_of_ble_eq_true rfl) rfl rfl (g_X3_goOn_0 hP hN ?_)
  refine goOn_loop hP hN hL hK wL wK hr ha hz8 hmax (fun u f h h1 h2 h3 h4 => hE u f h h1 h2 h3 (h4.congr fun x y w => (hA x y w).symm)) (s 0 0) 0 u0 f h (by omega) same.rfl rfl hT (hI.congr fun x y w => ⟨?_, Or.inl⟩)
  rintro (q | ⟨-, l, hl, -⟩)
  · exact q
  · exact absurd hl (Nat.not_lt_zero l)
theorem row_e {r a : Nat} : (nI r * 3 + nI a) * 8 + 0 = nI (rw8 r a 0) := by
  rw [show (3 : Int32) = nI 3 from rfl, show (8 : Int32) = nI 8 from rfl, show (0 : Int32) = nI 0 from rfl, pk_mul, nI_add, pk_mul, nI_add]
  rfl
theorem measure_main {E : JE} {K : JM → Prop} {P N : Nat} (hP : isPaths P) (hN : isNet N) {s : St} {u0 : JM} {r a : Nat} (hL : CL N s u0) (hK : CK N s u0) (wL : WL s) (wK : WK s) (hr : r < 8) (ha : a < 3)
    (hE : ∀ u, same u0 u (inP P) → PT P (dD (Ew s r a) r) (hD (Ew s r a) r) u → K u) :
    ∀ (m k : Nat) (u : JM) (dn : Nat → Bool) (f h : Nat → Nat), m + k = 8 → k ≤ cntP 8 dn → same u0 u (inP P) → PT P f h u → PD P dn u → DI (Ew s r a) r (fun x y w => dn x = true ∧ Ew s r a x y w) dn f h → (∀ x y, dn x = true → dn y = false → dD (Ew s r a) r x ≤ dD (Ew s r a) r y) →
      JVu E 2 YX3_measure K 60 [some (.ref P), some (.ref N), some (.int (nI r)), some (.int (nI a)), some (.int (nI (rw8 r a 0))), some (.int (nI k)), none] [] u := by
  have hEok := Ew_ok wL wK hr ha
  intro m
  induction m with
  | zero =>
    intro k u dn f h hm hc hs hT hPD hI hord
    obtain rfl : k = 8 := by omega
    refine g_X3_measure_60 hP hN ⟨fun _ => ?_, fun c => absurd (by decide) c⟩
    obtain ⟨e1, e2⟩ := hI.done hEok hr (fun y hy => Or.inl (cntP_all (Nat.le_antisymm (cntP_le _ _) hc) y hy))
    rw [e1, e2] at hT
    exact hE u hs hT
  | succ m ih =>
    intro k u dn f h hm hc hs hT hPD hI hord
    have hLu : CL N s u := hL.congr fun j _ _ => hs _ (inP_N hP hN (by omega))
    have hKu : CK N s u := hK.congr fun j _ _ => hs _ (inP_N hP hN (by omega))
    refine g_X3_measure_60 hP hN ⟨fun c => ?_, fun c => ?_⟩
    · rw [show (8 : Int32) = nI 8 from rfl, nI_leI (by omega) (by omega)] at c
      omega
    · refine c_X3_nearest hP hT hPD (fun y => (hI.2.1 y).2) fun x L hx => ?_
      rcases hx with ⟨rfl, -, h3⟩ | ⟨z, hz8, rfl, -, hzd, hzF, hzm⟩
      · refine ⟨fun c => absurd rfl c, fun _ => ?_⟩
        obtain ⟨e1, e2⟩ := hI.done hEok hr h3
        rw [e1, e2] at hT
        exact hE u hs hT
      · refine ⟨fun _ => ⟨vpI hz8 (by omega), ?_⟩, fun c => ?_⟩
        · rw [nI_cl (show z < 2147483648 by omega)]
          intro u2 hu2
          obtain ⟨p1, p2, p3⟩ := hI.pick hEok hz8 hzd hzF hzm hord
          have hs2 : same u0 u2 (inP P) := by rw [hu2]; exact hs.jw (Or.inr (Or.inr rfl))
          have hT2 : PT P f h u2 := by
            intro y hy
            rw [hu2, jw_ne (by omega), jw_ne (by omega)]
            exact hT y hy
          have hPD2 : PD P (dup dn z) u2 := by
            intro y hy
            rw [hu2, jw_at]
            unfold dup
            by_cases e : y = z
            · rw [if_pos e, if_pos e]; rfl
            · rw [if_neg e, if_neg e]; exact hPD y hy
          refine c_X3_goOn hP hN (hLu.congr fun j _ _ => by rw [hu2, jw_ne (fun e => inP_N hP hN (show j ≤ 32 by omega) (Or.inr (Or.inr e)))]) (hKu.congr fun j _ _ => by rw [hu2, jw_ne (fun e => inP_N hP hN (show j ≤ 32 by omega) (Or.inr (Or.inr e)))]) wL wK hr ha hz8 p2 hT2 p1 fun u3 f3 h3 q1 q2 q3 q4 => ?_
          rw [nI_1]
          refine ih (k + 1) u3 (dup dn z) f3 h3 (by omega) ?_ (hs2.trans q1) q3 (fun y hy => by rw [q2]; exact hPD2 y hy) q4 p3
          have := cntP_lt (n := 8) (p := dn) (q := dup dn z) (fun i _ hi => by unfold dup; split <;> simp [hi]) hz8 hzd (by unfold dup; simp)
          omega
        · exfalso
          have h1 := congrArg Int32.toInt c
          rw [nI_toInt (by omega), show (-1 : Int32).toInt = -1 from by decide] at h1
          omega
theorem measure_init {E : JE} {K : JM → Prop} {P N : Nat} (hP : isPaths P) (hN : isNet N) {u0 : JM} {r a : Nat} (hr : r < 8) (ha : a < 3)
    (hE : ∀ u, same u0 u (inP P) → PT P (f0 r) (fun _ => 8) u → PD P (fun _ => false) u → JVu E 2 YX3_measure K 60 [some (.ref P), some (.ref N), some (.int (nI r)), some (.int (nI a)), some (.int (nI (rw8 r a 0))), some (.int 0), none] [] u) :
    ∀ (m k : Nat) (u : JM), m + k = 8 → same u0 u (inP P) → (∀ y, y < k → u (P + 1) y = nI 9999 ∧ u (P + 2) y = -1 ∧ u (P + 3) y = 0) →
      JVu E 2 YX3_measure K 3 [some (.ref P), some (.ref N), some (.int (nI r)), some (.int (nI a)), some (.int (nI k)), none, none] [] u := by
  intro m
  induction m with
  | zero =>
    intro k u hm hs hy
    obtain rfl : k = 8 := by omega
    refine g_X3_measure_3 hP hN ⟨fun _ => ⟨vpI hr (by omega), ?_⟩, fun c => absurd (by decide) c⟩
    rw [nI_cl (show r < 2147483648 by omega), row_e]
    intro u1 hu1 i hi
    rw [hi]
    refine hE u1 (by rw [hu1]; exact hs.jw (Or.inl rfl)) (fun y h8 => ?_) (fun y h8 => ?_)
    · rw [hu1, jw_at, jw_ne (by omega)]
      refine ⟨?_, (hy y h8).2.1⟩
      unfold f0
      split
      · rfl
      · exact (hy y h8).1
    · rw [hu1, jw_ne (by omega)]
      exact (hy y h8).2.2
  | succ m ih =>
    intro k u hm hs hy
    have hk : k < 8 := by omega
    refine g_X3_measure_3 hP hN ⟨fun c => ?_, fun _ => ⟨vpI hk (by omega), ?_⟩⟩
    · rw [show (8 : Int32) = nI 8 from rfl, nI_leI (by omega) (by omega)] at c
      omega
    · rw [nI_cl (show k < 2147483648 by omega), nI_1]
      intro u3 h3 u4 h4 u5 h5
      refine ih (k + 1) u5 (by omega) (by rw [h5, h4, h3]; exact ((hs.jw (Or.inl rfl)).jw (Or.inr (Or.inl rfl))).jw (Or.inr (Or.inr rfl))) (fun y hy1 => ?_)
      rw [h5, h4, h3, jw_ne (by omega), jw_ne (by omega), jw_at, jw_ne (by omega), jw_at, jw_ne (by omega), jw_at, jw_ne (by omega), jw_ne (by omega)]
      by_cases e : y = k
      · rw [if_pos e, if_pos e, if_pos e]
        exact ⟨rfl, rfl, rfl⟩
      · rw [if_neg e, if_neg e, if_neg e]
        exact hy y (by omega)
/-- Paths.measure: the rows hold the distances and first hops by what the router knows within the area -/
theorem c_X3_measure {E : JE} {K : JM → Prop} {P N : Nat} (hP : isPaths P) (hN : isNet N) {s : St} {u0 : JM} {r a : Nat} (hL : CL N s u0) (hK : CK N s u0) (wL : WL s) (wK : WK s) (hr : r < 8) (ha : a < 3)
    (hE : ∀ u, same u0 u (inP P) → PT P (dD (Ew s r a) r) (hD (Ew s r a) r) u → K u) : JCu E 2 YX3_measure [.ref P, .ref N, .int (nI r), .int (nI a)] K u0 := by
  refine JCu.ofV (ls := [some (.ref P), some (.ref N), some (.int (nI r)), some (.int (nI a)), none, none, none]) (by decide +kernel) (Nat.le_of_ble_eq_true rfl) rfl rfl (g_X3_measure_0 hP hN ?_)
  refine measure_init hP hN hr ha (fun u h1 h2 h3 => ?_) 8 0 u0 (by omega) same.rfl (fun y hy => absurd hy (Nat.not_lt_zero y))
  exact measure_main hP hN (hL.congr fun j _ _ => h1 _ (inP_N hP hN (by omega))) (hK.congr fun j _ _ => h1 _ (inP_N hP hN (by omega))) wL wK hr ha (fun u' q1 q2 => hE u' (h1.trans q1) q2) 8 0 u (fun _ => false) (f0 r) (fun _ => 8) (by omega) (Nat.zero_le _) same.rfl h2 h3 (DI.init (Ew_ok wL wK hr ha)) (fun x y hx => by cases hx)
