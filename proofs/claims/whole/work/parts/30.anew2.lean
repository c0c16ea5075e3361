/-! tellAnew -/
theorem tnS_7 {s : St} {r a k : Nat} : tnS s r a 7 k = s 7 k ∨ (k = rw8 r a r ∧ tnS s r a 7 k = s 7 k + 1) := by
  unfold tnS
  split
  · exact tdS_7
  · left; rfl
theorem tnR_7 {s : St} {r : Nat} (hr : r < 8) (k : Nat) : ∀ a, a ≤ 3 → tnR s r a 7 k = s 7 k ∨ (∃ b, b < a ∧ k = rw8 r b r ∧ tnR s r a 7 k = s 7 k + 1)
  | 0, _ => Or.inl rfl
  | a + 1, h => by
    have ih := tnR_7 (s := s) hr k a (by omega)
    rcases tnS_7 (s := tnR s r a) (r := r) (a := a) (k := k) with e | ⟨e1, e2⟩
    · rcases ih with q | ⟨b, q1, q2, q3⟩
      · left; exact e.trans q
      · right; exact ⟨b, by omega, q2, e.trans q3⟩
    · rcases ih with q | ⟨b, q1, q2, q3⟩
      · right; exact ⟨a, by omega, e1, e2.trans (by rw [q])⟩
      · have := rw8_inj (r := r) (a := b) (o := r) (r' := r) (a' := a) (o' := r) (by omega) hr (by omega) hr (q2.symm.trans e1)
        omega
theorem tnA_7 {s : St} (k : Nat) : ∀ r, r ≤ 8 → tnA s r 7 k = s 7 k ∨ (∃ q b, q < r ∧ b < 3 ∧ k = rw8 q b q ∧ tnA s r 7 k = s 7 k + 1)
  | 0, _ => Or.inl rfl
  | r + 1, h => by
    have ih := tnA_7 (s := s) k r (by omega)
    rcases tnR_7 (s := tnA s r) (show r < 8 by omega) k 3 (Nat.le_refl 3) with e | ⟨b, e0, e1, e2⟩
    · rcases ih with q | ⟨x, b, q1, q2, q3, q4⟩
      · left; exact e.trans q
      · right; exact ⟨x, b, by omega, q2, q3, e.trans q4⟩
    · rcases ih with q | ⟨x, b', q1, q2, q3, q4⟩
      · right; exact ⟨r, b, by omega, e0, e1, e2.trans (by rw [q])⟩
      · have := rw8_inj (r := x) (a := b') (o := x) (r' := r) (a' := b) (o' := r) q2 (by omega) e0 (by omega) (q3.symm.trans e1)
        omega
theorem tnS_W {s : St} (wL : WL s) (wK : WK s) (wF : WF s) {r a : Nat} (hr : r < 8) (ha : a < 3) (hT : s 7 (rw8 r a r) + 1 < 1000000000) : WK (tnS s r a) ∧ WF (tnS s r a) := by
  unfold tnS
  split
  · exact tdS_W wL wK wF hr ha hT
  · exact ⟨wK, wF⟩
theorem tnR_W {s : St} (wL : WL s) (wK : WK s) (wF : WF s) {r : Nat} (hr : r < 8) (hT : ∀ b, b < 3 → s 7 (rw8 r b r) + 1 < 1000000000) : ∀ a, a ≤ 3 → WK (tnR s r a) ∧ WF (tnR s r a)
  | 0, _ => ⟨wK, wF⟩
  | a + 1, h => by
    obtain ⟨h1, h2⟩ := tnR_W wL wK wF hr hT a (by omega)
    refine tnS_W (wL.congr fun c hc => tnR_ne (by omega) a) h1 h2 hr (by omega) ?_
    rcases tnR_7 (s := s) hr (rw8 r a r) a (by omega) with e | ⟨b, e0, e1, -⟩
    · rw [e]; exact hT a (by omega)
    · have := rw8_inj (r := r) (a := a) (o := r) (r' := r) (a' := b) (o' := r) (by omega) hr (by omega) hr e1
      omega
theorem tnA_W {s : St} (wL : WL s) (wK : WK s) (wF : WF s) {T : Nat} (wN : WN s T) (hT : T + 1 < 1000000000) : ∀ r, r ≤ 8 → WK (tnA s r) ∧ WF (tnA s r)
  | 0, _ => ⟨wK, wF⟩
  | r + 1, h => by
    obtain ⟨h1, h2⟩ := tnA_W wL wK wF wN hT r (by omega)
    refine tnR_W (wL.congr fun c hc => tnA_ne (by omega) r) h1 h2 (by omega) (fun b hb => ?_) 3 (Nat.le_refl 3)
    rcases tnA_7 (s := s) (rw8 r b r) r (by omega) with e | ⟨q, b', e0, e1, e2, -⟩
    · have := wN _ (rw8_lt (r := r) (a := b) (o := r) (by omega) hb (by omega)); omega
    · have := rw8_inj (r := r) (a := b) (o := r) (r' := q) (a' := b') (o' := q) hb (by omega) e1 (by omega) e2
      omega
theorem tnA_N {s : St} {T : Nat} (wN : WN s T) : WN (tnA s 8) (T + 1) := by
  intro k hk
  have := wN k hk
  rcases tnA_7 (s := s) k 8 (Nat.le_refl 8) with e | ⟨_, _, _, _, _, e⟩ <;> omega
theorem inD_net {N : Nat} : ∀ b, inD N b → inNet N b := fun b h => by unfold inD at h; unfold inNet; omega
theorem inS_net {N : Nat} : ∀ b, inS N b → inNet N b := fun b h => by unfold inS inP at h; unfold inNet; omega
/-- cells of drafts and paths are none of the net's -/
theorem CN.draft {N : Nat} {s : St} {u u' : JM} (h : CN N s u) (hs : ∀ b, N ≤ b → b ≤ N + 25 → b ≠ N + 8 → u' b = u b) : CN N s u' := by
  obtain ⟨cL, cK, cM, cF, cT⟩ := h
  refine ⟨cL.congr fun j _ _ => hs _ (by omega) (by omega) (by omega), cK.congr fun j _ _ => hs _ (by omega) (by omega) (by omega), cM.congr (fun c _ _ => rfl) (by rw [hs N (by omega) (by omega) (by omega)]) (fun j _ _ => hs _ (by omega) (by omega) (by omega)), fun k hk => ?_, ?_⟩
  · rw [hs (N + 24) (by omega) (by omega) (by omega), hs (N + 25) (by omega) (by omega) (by omega)]
    exact cF k hk
  · rw [hs N (by omega) (by omega) (by omega)]
    exact cT
theorem c_X2_tellAnew {E : JE} {u0 : JM} {K : JM → Prop} {N : Nat} (hN : isNet N) {s : St} (hC : CN N s u0) (wL : WL s) (wK : WK s) (wF : WF s) {T : Nat} (wN : WN s T) (hT : T + 1 < 1000000000)
    (hK : ∀ u', same u0 u' (inNet N) → CN N (tnA s 8) u' → K u') : JCu E 5 YX2_tellAnew [.ref N] K u0 := by
  refine JCu.ofV (ls := [some (.ref N), none, none, none, none]) (by decide +kernel) (Nat.le_of_ble_eq_true rfl) rfl rfl (g_X2_tellAnew_0 hN ?_)
  have main : ∀ (m r : Nat) (u : JM), m + r = 8 → same u0 u (inNet N) → CN N (tnA s r) u → JVu E 5 YX2_tellAnew K 2 [some (.ref N), some (.int (nI r)), none, none, none] [] u := by
    intro m
    induction m with
    | zero =>
      intro r u hm hs hC
      obtain rfl : r = 8 := by omega
      exact g_X2_tellAnew_2 hN ⟨fun _ => hK u hs hC, fun c => absurd (show (8 : Int32) ≤ nI 8 by decide) c⟩
    | succ m ih =>
      intro r u hm hs hC
      have hr : r < 8 := by omega
      have wL' : WL (tnA s r) := wL.congr fun c hc => tnA_ne (by omega) r
      obtain ⟨wK', wF'⟩ := tnA_W wL wK wF wN hT r (by omega)
      have own : ∀ b, b < 3 → tnA s r 7 (rw8 r b r) + 1 < 1000000000 := fun b hb => by
        rcases tnA_7 (s := s) (rw8 r b r) r (by omega) with e | ⟨q, b', e0, e1, e2, -⟩
        · have := wN _ (rw8_lt (r := r) (a := b) (o := r) hr hb hr); omega
        · have := rw8_inj (r := r) (a := b) (o := r) (r' := q) (a' := b') (o' := q) hb hr e1 (by omega) e2
          omega
      refine g_X2_tellAnew_2 hN ⟨fun c => absurd c (nI_ge (a := r) (b := 8) (by omega) (by omega)), fun _ => ?_⟩
      refine c_X1_areasOf hN hC.1 wL' hr ?_
      have inner : ∀ (j a : Nat) (u : JM), j + a = 3 → same u0 u (inNet N) → CN N (tnR (tnA s r) r a) u → JVu E 5 YX2_tellAnew K 19 [some (.ref N), some (.int (nI r)), some (.int (nI (arS (tnA s r) r))), some (.int (nI a)), none] [] u := by
        intro j
        induction j with
        | zero =>
          intro a u hj hs hC
          obtain rfl : a = 3 := by omega
          refine g_X2_tellAnew_19 hN ⟨fun _ => ?_, fun c => absurd (show (3 : Int32) ≤ nI 3 by decide) c⟩
          rw [nI_1]
          exact ih (r + 1) u (by omega) hs hC
        | succ j ih2 =>
          intro a u hj hs hC
          have ha : a < 3 := by omega
          have hrow := rw8_lt hr ha hr
          have eA : arS (tnR (tnA s r) r a) r = arS (tnA s r) r := arS_congr (fun c hc => tnR_ne (by omega) a) r
          have hlt := arS_lt (tnA s r) r
          obtain ⟨wKa, wFa⟩ := tnR_W wL' wK' wF' hr own a (by omega)
          have wLa : WL (tnR (tnA s r) r a) := wL'.congr fun c hc => tnR_ne (by omega) a
          have go : (tnR (tnA s r) r a 7 (rw8 r a r) ≠ 0 ∨ (arS (tnR (tnA s r) r a) r).testBit a = true) →
              JCu E 2 YX2_draftLinks [.ref N, .int (nI r), .int (nI a)] (fun u2 =>
                JCu E 4 YX2_draftSums [.ref N, .int (nI r), .int (nI a), .int (nI (arS (tnA s r) r))] (fun u3 =>
                  JCu E 2 YX2_tellDraft [.ref N, .int (nI (rw8 r a r))] (fun u4 =>
                    JVu E 5 YX2_tellAnew K 19 [some (.ref N), some (.int (nI r)), some (.int (nI (arS (tnA s r) r))), some (.int (nI (a + 1))), none] [] u4) u3) u2) u := by
            intro cond
            refine c_X2_draftLinks hN hC.1 wLa hr ha fun u2 g1 g2 g3 => ?_
            have hC2 := hC.draft (u' := u2) fun b _ _ _ => g1 b (by unfold inD; omega)
            rw [← eA]
            refine c_X2_draftSums hN hC2.1 hC2.2.1 wLa wKa hr ha fun u3 t1 t2 => ?_
            have hC3 := hC2.draft (u' := u3) fun b _ _ _ => t1 b (by unfold inS inP; omega)
            refine c_X2_tellDraft hN hC3 wLa wKa hr ha (by rw [t1 _ (by unfold inS inP; omega)]; exact g2) (fun l hl => by rw [t1 _ (by unfold inS inP; omega)]; exact g3 l hl) t2 fun u4 q1 q2 => ?_
            rw [eA]
            refine ih2 (a + 1) u4 (by omega) (((hs.trans (g1.mono inD_net)).trans (t1.mono inS_net)).trans q1) ?_
            rw [show tnR (tnA s r) r (a + 1) = tnS (tnR (tnA s r) r a) r a from rfl]
            unfold tnS
            rw [if_pos cond]
            exact q2
          refine g_X2_tellAnew_19 hN ⟨fun c => absurd c (nI_ge (a := a) (b := 3) (by omega) (by omega)), fun _ => ?_⟩
          intro i4 h4
          rw [row_nI] at h4
          subst h4
          have w7 := (wKa _ hrow).1
          rw [nI_cl (show rw8 r a r < 2147483648 by omega), nI_1, (hC.2.1 _ hrow).1, nI_tst (by omega) (by omega)]
          refine ⟨vpI hrow (by omega), fun c => go (Or.inl fun q => c (by rw [q]; rfl)), fun c => ⟨fun c2 => ?_, fun c2 => go (Or.inr (by rw [eA]; simpa using c2))⟩⟩
          refine ih2 (a + 1) u (by omega) hs ?_
          rw [show tnR (tnA s r) r (a + 1) = tnS (tnR (tnA s r) r a) r a from rfl]
          unfold tnS
          rw [if_neg (fun q => q.elim (fun q => q (nI_inj (by omega) (by omega) (c.trans (show (0 : Int32) = nI 0 from rfl)))) fun q => by rw [eA, c2] at q; exact absurd q (by decide))]
          exact hC
      exact inner 3 0 u (by omega) hs hC
  exact main 8 0 u0 (by omega) same.rfl hC
