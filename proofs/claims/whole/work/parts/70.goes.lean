/-! the reference: a tick -/
theorem arv_suc (s : St) (k : Nat) : arv s (k + 1) = msS (arv s k) k := by
  unfold msS
  rw [arv_ne s (c := 6) (by omega), arv_ne s (c := 14) (by omega), arv_ne s (c := 15) (by omega), arv_ne s (c := 16) (by omega)]
  rfl
/-- all of the reference's rows, but for far, hop and the like -/
def inQ : Nat → Prop := fun b => 143 ≤ b ∧ b ≤ 1345
def fdQ : Nat → Prop := fun f => f = 12 ∨ f = 13 ∨ f = 14 ∨ (25 ≤ f ∧ f ≤ 28)
def fdT : Nat → Prop := fun f => f = 12 ∨ (25 ≤ f ∧ f ≠ 43)
theorem c_X8_goes {E : JE} {u0 : JM} {K : Int32 → JM → Prop} {s : St} (hN : QN s u0) (w : NW s) (hT : s 21 0 + 3 < 1000000000)
    (k : ∀ u, (∀ b, b ≠ 137 → ¬ inQ b → u b = u0 b) → (∀ f, f ≠ 12 → f ≠ 13 → f ≠ 14 → (f < 25 ∨ f = 43) → u 137 f = u0 137 f) → QN (tickS s) u → K (nI (tickS s 13 0)) u) : JCi E 8 YX8_goes [.ref 137] K u0 := by
  obtain ⟨⟨a1, a2, a3, a4, a5⟩, ⟨b1, b2, b3, b4, b5, b6⟩, c1, c2, c3, c4, c5⟩ := tick_W w hT
  have w' := w
  obtain ⟨wL, wK, wM, fZ, wF, wB⟩ := w
  obtain ⟨hL, hK, hM, hF, h13, h14⟩ := hN
  have m192 := wM.1
  refine JCi.ofV (ls := [some (.ref 137), none, none, none]) (by decide +kernel) (Nat.le_of_ble_eq_true rfl) rfl rfl (g_X8_goes_0 ?_)
  -- what changes in all
  have R : ∀ u u', sF inQ fdT u u' → True := fun _ _ _ => trivial
  -- fresh: none; ticks, messages
  have fresh : ∀ (m j : Nat) (u : JM), m + j = 192 → sF inQ fdT u0 u → QL (sno (tnA (grS (avS s) 192) 8) 192) u → QK (sno (tnA (grS (avS s) 192) 8) 192) u → QM (sno (tnA (grS (avS s) 192) 8) 192) u → (∀ p, p < j → u 145 p = 0) → JVi E 8 YX8_goes K 113 [some (.ref 137), some (.int (nI j)), none, none] [] u := by
    intro m
    induction m with
    | zero =>
      intro j u hm hs qL qK qM hz
      obtain rfl : j = 192 := by omega
      refine g_X8_goes_113 ⟨fun _ u1 h1 u2 h2 => ?_, fun q => absurd (show (192 : Int32) ≤ nI 192 by decide) q⟩
      have e1 : ∀ b, b ≠ 137 → u2 b = u b := fun b hb => by rw [h2, jw_ne hb, h1, jw_ne hb]
      have x13 : u 137 13 = nI (s 21 0) := by rw [hs.2 13 (by unfold fdT; omega)]; exact h13
      have x14 : u 137 14 = nI (s 22 0) := by rw [hs.2 14 (by unfold fdT; omega)]; exact h14
      have x12 := qM.1
      rw [x13, nI_1] at h1
      have y14 : u1 137 14 = nI (s 22 0) := by rw [h1, jw_at, if_neg (by decide)]; exact x14
      have y12 : u1 137 12 = nI (sno (tnA (grS (avS s) 192) 8) 192 13 0) := by rw [h1, jw_at, if_neg (by decide)]; exact x12
      rw [y14, y12, nI_add] at h2
      have e7 : ∀ f, f ≠ 13 → f ≠ 14 → u2 137 f = u 137 f := fun f f1 f2 => by rw [h2, jw_at, if_neg f2, h1, jw_at, if_neg f1]
      have et : ∀ c, c < 21 → tickS s c = sno (tnA (grS (avS s) 192) 8) 192 c := fun c hc => by
        unfold tickS sendS
        rw [set1_ne (by omega), set1_ne (by omega)]
      have et13 : tickS s 13 0 = sno (tnA (grS (avS s) 192) 8) 192 13 0 := by rw [et 13 (by omega)]
      have w22 : tnA (grS (avS s) 192) 8 22 0 = s 22 0 := by rw [tnA_ne (by omega), grS_ne (by omega) (by omega) (by omega), avS_ne (by omega)]
      have tz := (tickS_NW w' hT).2.2.2.1
      have hQ : QN (tickS s) u2 := by
        refine ⟨(qL.congr (e7 0 (by decide) (by decide)) fun b b1 b2 => e1 b (by omega)).st fun c hc => et c (by omega), (qK.congr fun b b1 b2 => e1 b (by omega)).st fun c b1 b2 => et c (by omega), ⟨?_, fun i hi => ?_⟩, fun r o a hr ho ha => ?_, ?_, ?_⟩
        · rw [e7 12 (by decide) (by decide), et13]; exact x12
        · rw [et13] at hi
          have z := (sno_W c1 c3 c2 (fun row hr q => (c5 row hr).2.2 q) 192 (Nat.le_refl _)).1
          exact ((qM.2 i hi).congr fun b hb => e1 b (by omega)).st (et 3 (by omega)) fun c b1 b2 => et c (by omega)
        · have z := tz _ (rw8_lt hr ha ho)
          unfold QFi
          rw [z, e1 145 (by decide), hz _ (pl_lt hr ho ha)]
          exact ⟨rfl, fun q => absurd q (by decide)⟩
        · rw [tickS_21, h2, jw_at, if_neg (by decide), h1, jw_at, if_pos rfl]
        · rw [h2, jw_at, if_pos rfl]
          unfold tickS
          rw [set1_ne (by omega)]
          unfold sendS
          rw [set1_at, if_pos rfl, w22]
      have h := k u2 (fun b b1 b2 => by rw [e1 b b1]; exact hs.1 b b1 b2) (fun f f1 f2 f3 f4 => by rw [e7 f f2 f3]; exact hs.2 f (by unfold fdT; omega)) hQ
      rw [show u2 137 12 = nI (tickS s 13 0) by rw [e7 12 (by decide) (by decide), et13]; exact x12]
      exact h
    | succ m ih =>
      intro j u hm hs qL qK qM hz
      refine g_X8_goes_113 ⟨fun q => absurd q (nI_ge (a := j) (b := 192) (by omega) (by omega)), fun _ => ⟨vpI (by omega) (by omega), fun u3 h3 => ?_⟩⟩
      rw [nI_cl (by omega)] at h3
      have e : ∀ b, b ≠ 145 → u3 b = u b := fun b hb => by rw [h3, jw_ne hb]
      rw [nI_1]
      refine ih (j + 1) u3 (by omega) (hs.trans ⟨fun b b1 b2 => e b (fun q => b2 (by unfold inQ; omega)), fun f _ => by rw [e 137 (by decide)]⟩) (qL.congr (by rw [e 137 (by decide)]) fun b b1 b2 => e b (by omega)) ?_ ⟨by rw [e 137 (by decide)]; exact qM.1, fun i hi => (qM.2 i hi).congr fun b hb => e b (by omega)⟩ (fun p hp => ?_)
      · intro r o a hr ho ha
        have := pl_lt hr ho ha
        exact (qK r o a hr ho ha).congr fun b hb => e b (by omega)
      · rw [h3, jw_at]
        split
        · rfl
        · exact hz p (by omega)
  -- sending: what is fresh is told by the rows before
  generalize ht : tnA (grS (avS s) 192) 8 = t at *
  have t13 : t 13 0 = 0 := by
    rw [← ht, tnA_ne (by omega), grS_ne (by omega) (by omega) (by omega)]
    unfold avS
    rw [set1_at, if_pos rfl]
  have fN : FN t := fun row hr q => (c5 row hr).2.2 q
  have wW : ∀ j, j ≤ 192 → WL (sno t j) ∧ WK (sno t j) ∧ WM (sno t j) := fun j hj => ⟨c1.congr fun c hc => sno_ne (by omega) j, c2.st fun c hc => sno_ne (by omega) j, sno_W c1 c3 c2 fN j hj⟩
  have send1 : ∀ r o a u, r < 8 → o < 8 → a < 3 → sF inQ fdT u0 u → QL t u → QK t u → QM (sno t (rw8 r a o)) u → QF t u → (∀ u', sF inQ fdT u0 u' → QL t u' → QK t u' → QM (sno t (rw8 r a o + 1)) u' → QF t u' → JVi E 8 YX8_goes K 80 [some (.ref 137), some (.int (nI r)), some (.int (nI a)), some (.int (nI (o + 1)))] [] u') → JVi E 8 YX8_goes K 80 [some (.ref 137), some (.int (nI r)), some (.int (nI a)), some (.int (nI o))] [] u := by
    intro r o a u hr ho ha hs qL qK qM qF next
    have hrow := rw8_lt hr ha ho
    obtain ⟨v1, v2, v3⟩ := wW (rw8 r a o) (by omega)
    obtain ⟨f1, f2⟩ := qF r o a hr ho ha
    obtain ⟨y1, y2⟩ := c4 _ hrow
    have hw13 := sno_13 t (rw8 r a o)
    have hmono := sumTo_mono (wR t) (show rw8 r a o + 1 ≤ 192 by omega)
    have h192 := wR_192 c1
    have ew : wR (sno t (rw8 r a o)) (rw8 r a o) = wR t (rw8 r a o) := by
      unfold wR
      rw [sno_ne (c := 0) (by omega)]
      exact cntP_ext fun l _ => fitR_st (fun c hc => sno_ne (by omega) _) _ l
    have hs1 : sumTo (wR t) (rw8 r a o + 1) = sumTo (wR t) (rw8 r a o) + wR t (rw8 r a o) := rfl
    refine g_X8_goes_80 ⟨fun q => absurd q (nI_ge (a := o) (b := 8) (by omega) (by omega)), fun _ => ?_⟩
    rw [nI_1]
    refine c_X8_sends (t := sno t (rw8 r a o)) (fr := t 11 (rw8 r a o)) (cb := t 12 (rw8 r a o)) (qL.st fun c hc => sno_ne (by omega) _) (qK.st fun c z1 z2 => sno_ne (by omega) _) qM v1 v2 v3 hr ho ha f1 f2 y1 y2 (fun q => by rw [sno_ne (by omega)]; exact fN _ hrow q) (by rw [ew]; omega) fun u' q1 q2 => ?_
    have eb : ∀ b, b ≠ 137 → b < 533 → u' b = u b := fun b b1 b2 => q1.1 b b1 (by unfold inM; omega)
    refine next u' (hs.trans (q1.mono (fun b q => by unfold inM at q; unfold inQ; omega) (fun f q => by unfold fdT; omega))) (qL.congr (q1.2 0 (by decide)) fun b z1 z2 => eb b (by omega) (by omega)) (qK.congr fun b z1 z2 => eb b (by omega) (by omega)) ?_ (qF.congr fun b z1 z2 => eb b (by omega) (by omega))
    unfold sno
    by_cases g : t 11 (rw8 r a o) = 1
    · rw [if_pos g] at q2 ⊢
      rw [sno_ne (c := 0) (by omega)] at q2
      have key : ∀ n, QM (snL (sno t (rw8 r a o)) (rw8 r a o) (t 12 (rw8 r a o)) n) u' → QM (snL (set1 (sno t (rw8 r a o)) 11 (rw8 r a o) 0) (rw8 r a o) (t 12 (rw8 r a o)) n) u' := fun n h => by
        have ec : ∀ n c, c ≠ 11 → snL (set1 (sno t (rw8 r a o)) 11 (rw8 r a o) 0) (rw8 r a o) (t 12 (rw8 r a o)) n c = snL (sno t (rw8 r a o)) (rw8 r a o) (t 12 (rw8 r a o)) n c := by
          intro n
          induction n with
          | zero => intro c hc; exact set1_ne hc
          | succ n ih =>
            intro c hc
            have eu : upB (set1 (sno t (rw8 r a o)) 11 (rw8 r a o) 0) n (rw8 r a o / 24) = upB (sno t (rw8 r a o)) n (rw8 r a o / 24) := by unfold upB; rw [set1_ne (by omega), set1_ne (by omega), set1_ne (by omega)]
            unfold snL
            rw [set1_ne (c' := 3) (by omega), eu, ih 13 (by omega)]
            split
            · funext i
              unfold pmS oth
              rw [ih 13 (by omega), ih 14 (by omega), ih 15 (by omega), ih 16 (by omega), ih 17 (by omega), ih 18 (by omega), ih 19 (by omega), ih 20 (by omega), ih 7 (by omega), ih 8 (by omega), ih 9 (by omega), ih 10 (by omega), ih 1 (by omega), ih 2 (by omega), ih c hc]
            · exact ih c hc
        refine ⟨by rw [ec n 13 (by omega)]; exact h.1, fun i hi => ?_⟩
        rw [ec n 13 (by omega)] at hi
        exact (h.2 i hi).st (ec n 3 (by omega)) fun c z1 z2 => ec n c (by omega)
      exact key _ q2
    · rw [if_neg g] at q2 ⊢
      exact q2
  have so : ∀ r a, r < 8 → a < 3 → (∀ u, sF inQ fdT u0 u → QL t u → QK t u → QM (sno t (rw8 r (a + 1) 0)) u → QF t u → JVi E 8 YX8_goes K 73 [some (.ref 137), some (.int (nI r)), some (.int (nI (a + 1))), none] [] u) → ∀ (m o : Nat) (u : JM), m + o = 8 → sF inQ fdT u0 u → QL t u → QK t u → QM (sno t (rw8 r a o)) u → QF t u → JVi E 8 YX8_goes K 80 [some (.ref 137), some (.int (nI r)), some (.int (nI a)), some (.int (nI o))] [] u := by
    intro r a hr ha next m
    induction m with
    | zero =>
      intro o u hm hs qL qK qM qF
      obtain rfl : o = 8 := by omega
      refine g_X8_goes_80 ⟨fun _ => ?_, fun q => absurd (show (8 : Int32) ≤ nI 8 by decide) q⟩
      rw [nI_1]
      exact next u hs qL qK (by rw [show rw8 r (a + 1) 0 = rw8 r a 8 by unfold rw8; omega]; exact qM) qF
    | succ m ih =>
      intro o u hm hs qL qK qM qF
      exact send1 r o a u hr (by omega) ha hs qL qK qM qF fun u' q1 q2 q3 q4 q5 => ih (o + 1) u' (by omega) q1 q2 q3 (by rw [show rw8 r a (o + 1) = rw8 r a o + 1 by unfold rw8; omega]; exact q4) q5
  have sa : ∀ r, r < 8 → (∀ u, sF inQ fdT u0 u → QL t u → QK t u → QM (sno t (rw8 (r + 1) 0 0)) u → QF t u → JVi E 8 YX8_goes K 65 [some (.ref 137), some (.int (nI (r + 1))), none, none] [] u) → ∀ (m a : Nat) (u : JM), m + a = 3 → sF inQ fdT u0 u → QL t u → QK t u → QM (sno t (rw8 r a 0)) u → QF t u → JVi E 8 YX8_goes K 73 [some (.ref 137), some (.int (nI r)), some (.int (nI a)), none] [] u := by
    intro r hr next m
    induction m with
    | zero =>
      intro a u hm hs qL qK qM qF
      obtain rfl : a = 3 := by omega
      refine g_X8_goes_73 ⟨fun _ => ?_, fun q => absurd (show (3 : Int32) ≤ nI 3 by decide) q⟩
      rw [nI_1]
      exact next u hs qL qK (by rw [show rw8 (r + 1) 0 0 = rw8 r 3 0 by unfold rw8; omega]; exact qM) qF
    | succ m ih =>
      intro a u hm hs qL qK qM qF
      refine g_X8_goes_73 ⟨fun q => absurd q (nI_ge (a := a) (b := 3) (by omega) (by omega)), fun _ => ?_⟩
      exact so r a hr (by omega) (fun u' q1 q2 q3 q4 q5 => ih (a + 1) u' (by omega) q1 q2 q3 q4 q5) 8 0 u (by omega) hs qL qK qM qF
  have sr : ∀ (m r : Nat) (u : JM), m + r = 8 → sF inQ fdT u0 u → QL t u → QK t u → QM (sno t (rw8 r 0 0)) u → QF t u → JVi E 8 YX8_goes K 65 [some (.ref 137), some (.int (nI r)), none, none] [] u := by
    intro m
    induction m with
    | zero =>
      intro r u hm hs qL qK qM qF
      obtain rfl : r = 8 := by omega
      refine g_X8_goes_65 ⟨fun _ => ?_, fun q => absurd (show (8 : Int32) ≤ nI 8 by decide) q⟩
      refine fresh 192 0 u (by omega) hs (qL.st fun c hc => sno_ne (by omega) _) (qK.st fun c z1 z2 => sno_ne (by omega) _) (by rw [show rw8 8 0 0 = 192 by decide] at qM; exact qM) fun p hp => absurd hp (Nat.not_lt_zero p)
    | succ m ih =>
      intro r u hm hs qL qK qM qF
      refine g_X8_goes_65 ⟨fun q => absurd q (nI_ge (a := r) (b := 8) (by omega) (by omega)), fun _ => ?_⟩
      exact sa r (by omega) (fun u' q1 q2 q3 q4 q5 => ih (r + 1) u' (by omega) q1 q2 q3 q4 q5) 3 0 u (by omega) hs qL qK qM qF
  -- telling
  have ta : ∀ r, r < 8 → (∀ u, sF inQ fdT u0 u → QL s u → QK (tnA (grS (avS s) 192) (r + 1)) u → QF (tnA (grS (avS s) 192) (r + 1)) u → u 137 12 = 0 → JVi E 8 YX8_goes K 32 [some (.ref 137), some (.int (nI (r + 1))), none, none] [] u) → ∀ (m a : Nat) (u : JM), m + a = 3 → sF inQ fdT u0 u → QL s u → QK (tnR (tnA (grS (avS s) 192) r) r a) u → QF (tnR (tnA (grS (avS s) 192) r) r a) u → u 137 12 = 0 → JVi E 8 YX8_goes K 40 [some (.ref 137), some (.int (nI r)), some (.int (nI a)), none] [] u := by
    intro r hr next m
    have hTr := tnA_W b1 b2 b4 b6 (by omega) r (by omega)
    have el : ∀ a c, c < 7 → tnR (tnA (grS (avS s) 192) r) r a c = s c := fun a c hc => by rw [tnR_ne (by omega), tnA_ne (by omega), grS_ne (by omega) (by omega) (by omega), avS_ne (by omega)]
    have b7 : ∀ b, b < 3 → tnA (grS (avS s) 192) r 7 (rw8 r b r) + 1 < 1000000000 := fun b hb => by
      rcases tnA_7 (s := grS (avS s) 192) (rw8 r b r) r (by omega) with e | ⟨q, b', e0, e1, e2, -⟩
      · have := b6 _ (rw8_lt (r := r) (a := b) (o := r) (by omega) hb (by omega)); omega
      · have := rw8_inj (r := r) (a := b) (o := r) (r' := q) (a' := b') (o' := q) hb (by omega) e1 (by omega) e2
        omega
    have wLr : WL (tnA (grS (avS s) 192) r) := b1.congr fun c hc => tnA_ne (by omega) r
    induction m with
    | zero =>
      intro a u hm hs qL qK qF e12
      obtain rfl : a = 3 := by omega
      refine g_X8_goes_40 ⟨fun _ => ?_, fun q => absurd (show (3 : Int32) ≤ nI 3 by decide) q⟩
      rw [nI_1]
      exact next u hs qL qK qF e12
    | succ m ih =>
      intro a u hm hs qL qK qF e12
      have ha : a < 3 := by omega
      refine g_X8_goes_40 ⟨fun q => absurd q (nI_ge (a := a) (b := 3) (by omega) (by omega)), fun _ => ?_⟩
      obtain ⟨v1, v2⟩ := tnR_W wLr hTr.1 hTr.2 hr b7 a (by omega)
      have v0 : WL (tnR (tnA (grS (avS s) 192) r) r a) := wLr.congr fun c hc => tnR_ne (by omega) a
      have v7 : tnR (tnA (grS (avS s) 192) r) r a 7 (rw8 r a r) + 1 < 1000000000 := by
        rcases tnR_7 (s := tnA (grS (avS s) 192) r) hr (rw8 r a r) a (by omega) with e | ⟨b, e0, e1, -⟩
        · rw [e]; exact b7 a ha
        · have := rw8_inj (r := r) (a := a) (o := r) (r' := r) (a' := b) (o' := r) (by omega) hr (by omega) hr e1
          omega
      refine c_X8_tells (qL.st fun c hc => el a c hc) qK qF v0 v1 hr ha v7 fun u' q1 q2 q3 => ?_
      rw [nI_1]
      refine ih (a + 1) u' (by omega) (hs.trans (q1.sF.mono (fun b q => by unfold inTl at q; unfold inQ; omega) (fun f q => by unfold fdT; omega))) (qL.congr (q1.2 0 (by omega)) fun b z1 z2 => q1.1 b (by omega) (by unfold inTl; omega)) q2 q3 (by rw [q1.2 12 (by omega)]; exact e12)
  have tr : ∀ (m r : Nat) (u : JM), m + r = 8 → sF inQ fdT u0 u → QL s u → QK (tnA (grS (avS s) 192) r) u → QF (tnA (grS (avS s) 192) r) u → u 137 12 = 0 → JVi E 8 YX8_goes K 32 [some (.ref 137), some (.int (nI r)), none, none] [] u := by
    intro m
    induction m with
    | zero =>
      intro r u hm hs qL qK qF e12
      obtain rfl : r = 8 := by omega
      rw [ht] at qK qF
      refine g_X8_goes_32 ⟨fun _ => ?_, fun q => absurd (show (8 : Int32) ≤ nI 8 by decide) q⟩
      have elt : ∀ c, c < 7 → t c = s c := fun c hc => by rw [← ht, tnA_ne (by omega), grS_ne (by omega) (by omega) (by omega), avS_ne (by omega)]
      refine sr 8 0 u (by omega) hs (qL.st elt) qK ⟨?_, fun i hi => ?_⟩ qF
      · show u 137 12 = nI (t 13 0)
        rw [t13]; exact e12
      · rw [show sno t (rw8 0 0 0) = t from rfl, t13] at hi
        exact absurd hi (Nat.not_lt_zero i)
    | succ m ih =>
      intro r u hm hs qL qK qF e12
      refine g_X8_goes_32 ⟨fun q => absurd q (nI_ge (a := r) (b := 8) (by omega) (by omega)), fun _ => ?_⟩
      exact ta r (by omega) (fun u' q1 q2 q3 q4 q5 => ih (r + 1) u' (by omega) q1 q2 q3 q4 q5) 3 0 u (by omega) hs qL qK qF e12
  -- arriving
  have ar : ∀ (m j : Nat) (u : JM), m + j = s 13 0 → same u0 u inK → QK (arv s j) u → QF (arv s j) u → JVi E 8 YX8_goes K 2 [some (.ref 137), some (.int (nI j)), none, none] [] u := by
    intro m
    induction m with
    | zero =>
      intro j u hm hs qK qF
      obtain rfl : j = s 13 0 := by omega
      refine g_X8_goes_2 ⟨fun _ u1 h1 => ?_, fun c => ?_⟩
      · have e1 : ∀ b, b ≠ 137 → u1 b = u b := fun b hb => by rw [h1, jw_ne hb]
        have qK1 : QK (avS s) u1 := by
          unfold avS
          exact (qK.congr fun b z1 z2 => e1 b (by omega)).st fun c z1 z2 => set1_ne (by omega)
        have qF1 : QF (avS s) u1 := by
          intro r o a hr ho ha
          have := qF r o a hr ho ha
          unfold QFi avS
          rw [set1_ne (by omega), set1_ne (by omega), e1 145 (by decide), e1 146 (by decide)]
          exact this
        refine c_X8_grows qK1 qF1 a2 fun u2 q2 q3 q4 => ?_
        have e2 : ∀ b, b ≠ 137 → ¬ inK b → u2 b = u0 b := fun b b1' b2' => by
          rw [q2 b (fun q => b2' (by unfold inG at q; unfold inK; omega)), e1 b b1', hs b b2']
        have e27 : ∀ f, f ≠ 12 → u2 137 f = u0 137 f := fun f hf => by
          rw [q2 137 (by unfold inG; omega), h1, jw_at, if_neg hf, hs 137 (by unfold inK; omega)]
        refine tr 8 0 u2 (by omega) ⟨fun b z1 z2 => e2 b z1 (fun q => z2 (by unfold inK at q; unfold inQ; omega)), fun f hf => e27 f (fun q => hf (by unfold fdT; omega))⟩ (hL.congr (e27 0 (by decide)) fun b z1 z2 => e2 b (by omega) (by unfold inK; omega)) q3 q4 ?_
        rw [q2 137 (by unfold inG; omega), h1, jw_at, if_pos rfl]
      · rw [hs 137 (by unfold inK; omega), hM.1] at c
        exact absurd (nI_le (Nat.le_refl _) (by omega)) c
    | succ m ih =>
      intro j u hm hs qK qF
      have hj : j < s 13 0 := by omega
      obtain ⟨v1, v2⟩ := arv_W wL wK wM wF j (by omega)
      have v0 : WL (arv s j) := wL.congr fun c hc => arv_ne s (by omega) j
      have wi : WMi (arv s j) j := (wM.2 j hj).st (fun c hc => arv_ne s (by omega) j) (fun c h1 h2 => arv_ne s (by omega) j)
      have eK : ∀ b, b < 143 ∨ 532 < b → u b = u0 b := fun b hb => hs b (by unfold inK; omega)
      refine g_X8_goes_2 ⟨fun c => ?_, fun _ => ?_⟩
      · rw [hs 137 (by unfold inK; omega), hM.1] at c
        exact absurd c (nI_ge hj (by omega))
      · have qLj : QL (arv s j) u := (hL.congr (by rw [eK 137 (by omega)]) fun b z1 z2 => eK b (by omega)).st fun c hc => arv_ne s (by omega) j
        have qMj : QMi (arv s j) u j := ((hM.2 j hj).congr fun b hb => eK b (by omega)).st (arv_ne s (by omega) j) fun c z1 z2 => arv_ne s (by omega) j
        refine c_X8_arrives qLj qK qF v0 v1 v2 (by omega) qMj wi fun u' q1 q2 q3 => ?_
        rw [nI_1]
        exact ih (j + 1) u' (by omega) (hs.trans q1) (by rw [arv_suc]; exact q2) (by rw [arv_suc]; exact q3)
  exact ar (s 13 0) 0 u0 (by omega) same.rfl hK hF
