/-! sums, and what a router tells anew -/
theorem hpI_8 : hpI 8 = -1 := rfl
theorem c_X2_sumUpAcross {E : JE} {u0 : JM} {K : JM → Prop} {N : Nat} (hN : isNet N) {s : St} (cK : CK N s u0) (wK : WK s) {f m : Nat → Nat} (hT : ∀ y, y < 8 → u0 (N + 33) y = nI (f y)) (hF : ∀ y, f y ≤ 9999) {r : Nat} (hr : r < 8)
    (hm0 : ∀ d, d < 8 → u0 (N + 31) d = nI (m d)) (hm1 : ∀ d, d < 8 → m d ≤ 9999)
    (hK : ∀ u', same u0 u' (· = N + 31) → (∀ d, d < 8 → u' (N + 31) d = nI (if m d < 9999 then m d else (tlP s f r 0 d 8).1)) → K u') : JCu E 3 YX2_sumUpAcross [.ref N, .int (nI r)] K u0 := by
  refine JCu.ofV (ls := [some (.ref N), some (.int (nI r)), none, none]) (by decide +kernel) (Nat.le_of_ble_eq_true rfl) rfl rfl (g_X2_sumUpAcross_0 hN ?_)
  have main : ∀ (j k : Nat) (u : JM), j + k = 8 → same u0 u (· = N + 31) → (∀ d, d < 8 → u (N + 31) d = nI (if d < k then (if m d < 9999 then m d else (tlP s f r 0 d 8).1) else m d)) → JVu E 3 YX2_sumUpAcross K 2 [some (.ref N), some (.int (nI r)), some (.int (nI k)), none] [] u := by
    intro j
    induction j with
    | zero =>
      intro k u hj hs ht
      obtain rfl : k = 8 := by omega
      refine g_X2_sumUpAcross_2 hN ⟨fun _ => hK u hs fun d hd => ?_, fun c => absurd (show (8 : Int32) ≤ nI 8 by decide) c⟩
      rw [ht d hd, if_pos hd]
    | succ j ih =>
      intro k u hj hs ht
      have hk : k < 8 := by omega
      have cK' := cK.congr (u' := u) fun j _ _ => hs _ (by omega)
      have hmk := hm1 k hk
      have htk := ht k hk
      rw [if_neg (Nat.lt_irrefl k)] at htk
      refine g_X2_sumUpAcross_2 hN ⟨fun c => absurd c (nI_ge (a := k) (b := 8) (by omega) (by omega)), fun _ => ⟨vpI hk (by omega), ?_⟩⟩
      have q0 : (nI (m k) < (9999 : Int32)) ↔ m k < 9999 := by
        rw [Int32.lt_iff_toInt_lt, nI_toInt (by omega), show (9999 : Int32).toInt = 9999 from by decide]
        omega
      rw [nI_cl (show k < 2147483648 by omega), nI_1, htk, q0]
      refine ⟨fun c => ?_, fun c => ?_⟩
      · refine ih (k + 1) u (by omega) hs fun d hd => ?_
        rw [ht d hd]
        rcases Nat.lt_trichotomy d k with q | q | q
        · rw [if_pos q, if_pos (show d < k + 1 by omega)]
        · subst q
          rw [if_neg (Nat.lt_irrefl _), if_pos (show d < d + 1 by omega), if_pos c]
        · rw [if_neg (show ¬ d < k by omega), if_neg (show ¬ d < k + 1 by omega)]
      · refine c_X2_teller (f := f) (a := 0) hN (isPaths_N hN) cK' wK (fun y hy => by rw [show N + 32 + 1 = N + 33 from rfl, hs _ (by omega)]; exact hT y hy) hF hr (by omega) hk ?_
        obtain ⟨t1, t2⟩ := tlP_ok s f r 0 k 8 (Nat.le_refl 8)
        have key : ∀ v2 : Int32, v2 = nI (tlP s f r 0 k 8).1 → ∀ u3, u3 = jw u (N + 31) k v2 → JVu E 3 YX2_sumUpAcross K 2 [some (.ref N), some (.int (nI r)), some (.int (nI (k + 1))), none] [] u3 := by
          intro v2 h2 u3 h3
          refine ih (k + 1) u3 (by omega) (by rw [h3]; exact hs.jw rfl) fun d hd => ?_
          rw [h3, jw_at, h2]
          rcases Nat.lt_trichotomy d k with q | q | q
          · rw [if_neg (show ¬ d = k by omega), ht d hd, if_pos q, if_pos (show d < k + 1 by omega)]
          · subst q
            rw [if_pos rfl, if_pos (show d < d + 1 by omega), if_neg c]
          · rw [if_neg (show ¬ d = k by omega), ht d hd, if_neg (show ¬ d < k by omega), if_neg (show ¬ d < k + 1 by omega)]
        rcases t2 with ⟨e1, e2⟩ | ⟨e1, e2, e3, e4⟩
        · rw [e1, hpI_8]
          refine ⟨⟨fun c => absurd rfl c, fun _ => trivial⟩, ?_⟩
          intro v2 h2
          rw [if_pos rfl] at h2
          exact key v2 (by rw [h2, e2]; rfl)
        · generalize hb : (tlP s f r 0 k 8).2 = b at *
          have hrow := rw8_lt (a := 0) hr (by omega) e1
          have w10 := ((wK _ hrow).2 (by omega)).2.2 k hk
          have w10 : s 10 (rw8 r 0 b * 8 + k) ≤ 9999 := w10
          have g10 := ((cK' _ hrow).2.2 (by omega)).2.2 k hk
          rw [hpI_lt e1]
          have er : (nI r * 3 + 0) * 8 + nI b = nI (rw8 r 0 b) := row_nI (a := r) (b := 0) (c := b)
          rw [er, row_div hrow, rw8_o e1, nI_cl (show b < 2147483648 by omega), show (8 : Int32) = nI 8 from rfl, nI_mul, nI_add, nI_cl (show rw8 r 0 b * 8 + k < 2147483648 by omega), g10, hs (N + 33) (by omega), hT b e1, nI_add]
          refine ⟨⟨fun _ => ⟨vpI e1 (by omega), vpI (by omega) (by omega), trivial⟩, fun _ => trivial⟩, ?_⟩
          intro v2 h2
          rw [if_neg (m1_ne (by omega)), ← e4] at h2
          exact key v2 h2
  exact main 8 0 u0 (by omega) same.rfl (fun d hd => by rw [if_neg (by omega)]; exact hm0 d hd)
/-- the least distances over the first areas that are summed up -/
noncomputable def smS (s : St) (r su d : Nat) : Nat → Nat
  | 0 => 9999
  | k + 1 => if su.testBit k = true then mn (smS s r su d k) (dD (Ew s r k) r d) else smS s r su d k
theorem smS_le (s : St) (r su d : Nat) : ∀ k, smS s r su d k ≤ 9999
  | 0 => Nat.le_refl _
  | k + 1 => by
    have := smS_le s r su d k
    unfold smS
    split
    · exact Nat.le_trans (mn_le _ _) this
    · exact this
def isBd (A : Nat) : Prop := A.testBit 0 = true ∧ A ≠ 1
def suS (A a : Nat) : Nat := if a = 0 then A &&& 6 else 1
noncomputable def nwS (s : St) (r a d : Nat) : Nat :=
  if (arS s r).testBit 0 = true ∧ arS s r ≠ 1 then
    if d = r then 9999 else if a = 0 then smS s r (suS (arS s r) a) d 3 else if smS s r (suS (arS s r) a) d 3 < 9999 then smS s r (suS (arS s r) a) d 3 else (tlP s (dD (Ew s r 0) r) r 0 d 8).1
  else 9999
theorem nwS_le {s : St} {r a d : Nat} : nwS s r a d ≤ 9999 := by
  have h := smS_le s r (suS (arS s r) a) d 3
  have h2 := (tlP_ok s (dD (Ew s r 0) r) r 0 d 8 (Nat.le_refl 8)).1
  unfold nwS
  split
  · split
    · omega
    · split
      · exact h
      · split <;> assumption
  · omega
theorem kd_sums {N : Nat} (hN : isNet N) : jkd (N + 31) = .inr (.int, 8) := by rcases hN with rfl | rfl | rfl <;> decide +kernel
def inS (N : Nat) : Nat → Prop := fun b => b = N + 31 ∨ inP (N + 32) b
theorem c_X2_draftSums {E : JE} {u0 : JM} {K : JM → Prop} {N : Nat} (hN : isNet N) {s : St} (cL : CL N s u0) (cK : CK N s u0) (wL : WL s) (wK : WK s) {r a : Nat} (hr : r < 8) (ha : a < 3)
    (hK : ∀ u', same u0 u' (inS N) → (∀ d, d < 8 → u' (N + 31) d = nI (nwS s r a d)) → K u') : JCu E 4 YX2_draftSums [.ref N, .int (nI r), .int (nI a), .int (nI (arS s r))] K u0 := by
  have hA := arS_lt s r
  refine JCu.ofV (ls := [some (.ref N), some (.int (nI r)), some (.int (nI a)), some (.int (nI (arS s r))), none, none, none]) (by decide +kernel) (Nat.le_of_ble_eq_true rfl) rfl rfl (g_X2_draftSums_0 hN ?_)
  refine c_fill (kd_sums hN) (lt_N hN 31 rfl) (by decide) fun u1 h1 h2 => ?_
  have hb : (¬ nI (arS s r) &&& 1 = 0 ∧ ¬ nI (arS s r) = 1) ↔ ((arS s r).testBit 0 = true ∧ arS s r ≠ 1) := by
    generalize arS s r = A at *
    have h : ((List.range 8).all fun A => decide ((¬ nI A &&& 1 = 0 ∧ ¬ nI A = 1) ↔ (A.testBit 0 = true ∧ A ≠ 1))) = true := by decide +kernel
    exact of_decide_eq_true (List.all_eq_true.mp h A (List.mem_range.mpr hA))
  have hs1 : same u0 u1 (inS N) := h1.mono fun b q => Or.inl q
  have keepL : ∀ u, same u0 u (inS N) → CL N s u := fun u h => cL.congr fun j _ _ => h _ (by unfold inS inP; omega)
  have keepK : ∀ u, same u0 u (inS N) → CK N s u := fun u h => cK.congr fun j _ _ => h _ (by unfold inS inP; omega)
  refine And.comm.mp ⟨fun c => ?_, fun c => ?_⟩
  · rw [jb_0, hb] at c
    refine hK u1 hs1 fun d hd => ?_
    rw [h2 d hd]
    unfold nwS
    rw [if_neg c]
    rfl
  rw [jb_n0, hb] at c
  intro v hv
  have ev : v = nI (suS (arS s r) a) := by
    rw [hv]
    unfold suS
    by_cases e : a = 0
    · rw [if_pos (by rw [e]; rfl), if_pos e]
      generalize arS s r = A at *
      have h : ((List.range 8).all fun A => decide (nI A &&& (-2) = nI (A &&& 6))) = true := by decide +kernel
      exact of_decide_eq_true (List.all_eq_true.mp h A (List.mem_range.mpr hA))
    · rw [if_neg (fun q => e (nI_inj (by omega) (by omega) (q.trans (show (0 : Int32) = nI 0 from rfl)))), if_neg e]
      rfl
  have hsu : suS (arS s r) a < 8 := by
    unfold suS
    split
    · exact Nat.lt_of_le_of_lt Nat.and_le_left hA
    · omega
  rw [ev]
  have fin : ∀ u', same u0 u' (inS N) → (∀ d, d < 8 → u' (N + 31) d = nI (if a = 0 then smS s r (suS (arS s r) a) d 3 else if smS s r (suS (arS s r) a) d 3 < 9999 then smS s r (suS (arS s r) a) d 3 else (tlP s (dD (Ew s r 0) r) r 0 d 8).1)) → vp_in (nI r) 8 ∧ ∀ u1, u1 = jw u' (N + 31) (nI r).toNatClampNeg 9999 → K u1 := by
    intro u' hs ht
    rw [nI_cl (by omega)]
    refine ⟨vpI hr (by omega), fun u1 g1 => hK u1 (by rw [g1]; exact hs.jw (Or.inl rfl)) fun d hd => ?_⟩
    rw [g1, jw_at]
    unfold nwS
    rw [if_pos c]
    by_cases e : d = r
    · rw [if_pos e, if_pos e]; rfl
    · rw [if_neg e, if_neg e]; exact ht d hd
  have main : ∀ (j k : Nat) (u : JM), j + k = 3 → same u0 u (inS N) → (∀ d, d < 8 → u (N + 31) d = nI (smS s r (suS (arS s r) a) d k)) → (a ≠ 0 → 0 < k → ∀ y, y < 8 → u (N + 33) y = nI (dD (Ew s r 0) r y)) →
      JVu E 4 YX2_draftSums K 38 [some (.ref N), some (.int (nI r)), some (.int (nI a)), some (.int (nI (arS s r))), some (.int (nI (suS (arS s r) a))), some (.int (nI k)), none] [] u := by
    intro j
    induction j with
    | zero =>
      intro k u hj hs ht hp
      obtain rfl : k = 3 := by omega
      refine g_X2_draftSums_38 hN ⟨fun _ => ⟨fun e => ?_, fun e => ?_⟩, fun c => absurd (show (3 : Int32) ≤ nI 3 by decide) c⟩
      · have e : a = 0 := nI_inj (by omega) (by omega) (e.trans (show (0 : Int32) = nI 0 from rfl))
        refine fin u hs fun d hd => ?_
        rw [if_pos e, ht d hd]
      · have e : a ≠ 0 := fun q => e (by rw [q]; rfl)
        refine c_X2_sumUpAcross hN (keepK u hs) wK (hp e (by omega)) (dD_is (Ew_ok wL wK hr (by omega)) r).2.1 hr ht (fun d hd => smS_le _ _ _ _ _) fun u2 g1 g2 => ?_
        refine fin u2 (hs.trans (g1.mono fun b q => Or.inl q)) fun d hd => ?_
        rw [if_neg e, g2 d hd]
    | succ j ih =>
      intro k u hj hs ht hp
      have hk : k < 3 := by omega
      refine g_X2_draftSums_38 hN ⟨fun c => absurd c (nI_ge (a := k) (b := 3) (by omega) (by omega)), fun _ => ?_⟩
      rw [nI_tst (by omega) (by omega), nI_1]
      refine ⟨fun c1 => ih (k + 1) u (by omega) hs (fun d hd => ?_) (fun e _ => ?_), fun c1 => ?_⟩
      · rw [ht d hd, show smS s r (suS (arS s r) a) d (k + 1) = if (suS (arS s r) a).testBit k = true then mn (smS s r (suS (arS s r) a) d k) (dD (Ew s r k) r d) else smS s r (suS (arS s r) a) d k from rfl, if_neg (by rw [c1]; decide)]
      · refine hp e (Nat.pos_of_ne_zero fun q => ?_)
        rw [q] at c1
        unfold suS at c1
        rw [if_neg e] at c1
        exact absurd c1 (by decide)
      · have c1 : (suS (arS s r) a).testBit k = true := by simpa using c1
        refine c_X3_measure (isPaths_N hN) hN (keepL u hs) (keepK u hs) wL wK hr hk fun u2 g1 g2 => ?_
        have hs2 : same u0 u2 (inS N) := hs.trans (g1.mono fun b q => Or.inr q)
        have ek : a ≠ 0 → k = 0 := fun e => by
          unfold suS at c1
          rw [if_neg e] at c1
          rcases (show k = 0 ∨ k = 1 ∨ k = 2 by omega) with q | q | q
          · exact q
          · rw [q] at c1; exact absurd c1 (by decide)
          · rw [q] at c1; exact absurd c1 (by decide)
        have hdk := (dD_is (Ew_ok wL wK hr hk) r).2.1
        -- the eight minima
        have inner : ∀ (i d : Nat) (u' : JM), i + d = 8 → same u2 u' (· = N + 31) → (∀ e, e < 8 → u' (N + 31) e = nI (if e < d then smS s r (suS (arS s r) a) e (k + 1) else smS s r (suS (arS s r) a) e k)) →
            JVu E 4 YX2_draftSums K 68 [some (.ref N), some (.int (nI r)), some (.int (nI a)), some (.int (nI (arS s r))), some (.int (nI (suS (arS s r) a))), some (.int (nI k)), some (.int (nI d))] [] u' := by
          intro i
          induction i with
          | zero =>
            intro d u' hi hs' ht'
            obtain rfl : d = 8 := by omega
            refine g_X2_draftSums_68 hN ⟨fun _ => ?_, fun c => absurd (show (8 : Int32) ≤ nI 8 by decide) c⟩
            rw [nI_1]
            refine ih (k + 1) u' (by omega) (hs2.trans (hs'.mono fun b q => Or.inl q)) (fun e he => ?_) (fun e _ y hy => ?_)
            · rw [ht' e he, if_pos he]
            · rw [hs' _ (by omega), ← ek e]
              exact (g2 y hy).1
          | succ i ih2 =>
            intro d u' hi hs' ht'
            have hd : d < 8 := by omega
            refine g_X2_draftSums_68 hN ⟨fun c => absurd c (nI_ge (a := d) (b := 8) (by omega) (by omega)), fun _ => ⟨vpI hd (by omega), ?_⟩⟩
            have q1 := ht' d hd
            rw [if_neg (Nat.lt_irrefl d)] at q1
            have q2 : u' (N + 33) d = nI (dD (Ew s r k) r d) := by rw [hs' _ (by omega)]; exact (g2 d hd).1
            have q3 := smS_le s r (suS (arS s r) a) d k
            have q4 : dD (Ew s r k) r d ≤ 9999 := hdk d
            rw [nI_cl (show d < 2147483648 by omega), nI_1, q1, q2, mn_nI (by omega) (by omega)]
            intro u3 h3
            refine ih2 (d + 1) u3 (by omega) (by rw [h3]; exact hs'.jw rfl) fun e he => ?_
            rw [h3, jw_at]
            have q5 : smS s r (suS (arS s r) a) d (k + 1) = mn (smS s r (suS (arS s r) a) d k) (dD (Ew s r k) r d) := by
              show (if (suS (arS s r) a).testBit k = true then _ else _) = _
              rw [if_pos c1]
            rcases Nat.lt_trichotomy e d with q | q | q
            · rw [if_neg (by omega), ht' e he, if_pos q, if_pos (by omega)]
            · subst q
              rw [if_pos rfl, if_pos (by omega), q5]
            · rw [if_neg (by omega), ht' e he, if_neg (by omega), if_neg (by omega)]
        refine inner 8 0 u2 (by omega) same.rfl fun e he => ?_
        rw [g1 _ (by unfold inP; omega), ht e he, if_neg (by omega)]
  exact main 3 0 u1 (by omega) hs1 (fun d hd => h2 d hd) (fun _ q => absurd q (Nat.lt_irrefl 0))
