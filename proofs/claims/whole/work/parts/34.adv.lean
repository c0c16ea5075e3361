/-! advance -/
/-- a net between two ticks -/
def NW (s : St) : Prop := WL s ∧ WK s ∧ WM s ∧ FZ s ∧ WF s ∧ WB s (s 21 0)
theorem sendS_ne {s : St} {c : Nat} (h : c < 11 ∨ c = 12 ∨ c = 21 ∨ 22 < c) : sendS s c = s c := by
  unfold sendS
  rw [set1_ne (by omega), sno_ne (by omega)]
theorem avS_ne {s : St} {c : Nat} (h : c < 7 ∨ 13 < c) : avS s c = s c := by
  unfold avS
  rw [set1_ne (by omega), arv_ne s (by omega)]
theorem tickS_ne {s : St} {c : Nat} (h : c < 7 ∨ 22 < c) : tickS s c = s c := by
  unfold tickS
  rw [set1_ne (by omega), sendS_ne (by omega), tnA_ne (by omega), grS_ne (by omega) (by omega) (by omega), avS_ne (by omega)]
theorem tickS_21 (s : St) : tickS s 21 0 = s 21 0 + 1 := by unfold tickS; rw [set1_at, if_pos rfl]
/-- the stages of a tick, each well formed -/
theorem tick_W {s : St} (w : NW s) (hT : s 21 0 + 3 < 1000000000) :
    (WL (avS s) ∧ WK (avS s) ∧ WM (avS s) ∧ WF (avS s) ∧ RB (avS s) (s 21 0)) ∧
    (WL (grS (avS s) 192) ∧ WK (grS (avS s) 192) ∧ WM (grS (avS s) 192) ∧ WF (grS (avS s) 192) ∧ RB (grS (avS s) 192) (s 21 0 + 1) ∧ WN (grS (avS s) 192) (s 21 0)) ∧
    (WL (tnA (grS (avS s) 192) 8) ∧ WK (tnA (grS (avS s) 192) 8) ∧ WM (tnA (grS (avS s) 192) 8) ∧ WF (tnA (grS (avS s) 192) 8) ∧ RB (tnA (grS (avS s) 192) 8) (s 21 0 + 1)) := by
  obtain ⟨wL, wK, wM, fZ, wF, wB⟩ := w
  have h1 := avS_W wL wK wM fZ wF wB
  have h2 := grS_W h1.1 h1.2.1 h1.2.2.1 h1.2.2.2.1 (T := s 21 0) (by omega) h1.2.2.2.2
  have h2' : WN (grS (avS s) 192) (s 21 0) := by
    intro row hr
    rw [grS_7]
    have := (h1.2.2.2.2 row hr).1
    split <;> omega
  obtain ⟨h3, h4⟩ := tnA_W h2.1 h2.2.1 h2.2.2.2.1 h2' (by omega) 8 (Nat.le_refl 8)
  refine ⟨h1, ⟨h2.1, h2.2.1, h2.2.2.1, h2.2.2.2.1, h2.2.2.2.2, h2'⟩, h2.1.congr fun c hc => tnA_ne (by omega) 8, h3, h2.2.2.1.congr (fun c hc => tnA_ne (by omega) 8) (fun c _ _ => tnA_ne (by omega) 8), h4, ?_⟩
  exact tnA_RB h2.2.2.2.2 (fun row hr => by have := h2' row hr; omega) 8 (Nat.le_refl 8)
theorem tickS_NW {s : St} (w : NW s) (hT : s 21 0 + 3 < 1000000000) : NW (tickS s) := by
  obtain ⟨-, -, g1, g2, g3, g4, g5⟩ := tick_W w hT
  have m0 : tnA (grS (avS s) 192) 8 13 0 = 0 := by
    rw [tnA_ne (by omega), grS_ne (by omega) (by omega) (by omega)]
    unfold avS
    rw [set1_at, if_pos rfl]
  have hM := sno_W g1 g3 g2 (fun row hr q => (g5 row hr).2.2 q) 192 (Nat.le_refl _)
  have hB := sno_MB (T := s 21 0 + 1) (fun i hi => by rw [m0] at hi; exact absurd hi (Nat.not_lt_zero i)) g5 192 (Nat.le_refl _)
  have e : ∀ c, c < 21 → tickS s c = sno (tnA (grS (avS s) 192) 8) 192 c := fun c hc => by
    unfold tickS sendS
    rw [set1_ne (by omega), set1_ne (by omega)]
  refine ⟨?_, ?_, ?_, fun k hk => ?_, fun k hk => ?_, ?_, ?_⟩
  · exact (g1.congr (s' := sno _ 192) fun c hc => sno_ne (by omega) 192).congr fun c hc => e c (by omega)
  · exact (g2.st (s' := sno _ 192) fun c hc => sno_ne (by omega) 192).st fun c hc => e c (by omega)
  · exact hM.congr (fun c hc => e c (by omega)) (fun c _ _ => e c (by omega))
  · rw [e 11 (by omega), sno_11]
    have := (g4 k hk).1
    split
    · rfl
    · omega
  · rw [e 11 (by omega), e 12 (by omega), sno_11, sno_ne (c := 12) (by omega)]
    have := g4 k hk
    exact ⟨by split <;> omega, this.2⟩
  · intro k hk
    rw [tickS_21, e 7 (by omega), e 8 (by omega), sno_ne (c := 7) (by omega), sno_ne (c := 8) (by omega)]
    exact ⟨(g5 k hk).1, (g5 k hk).2.1⟩
  · intro i hi
    rw [e 13 (by omega)] at hi
    rw [tickS_21, e 17 (by omega), e 18 (by omega)]
    exact hB i hi
theorem ticksS_NW {s : St} (w : NW s) : ∀ n, s 21 0 + n + 2 < 1000000000 → NW (ticksS s n) ∧ ticksS s n 21 0 = s 21 0 + n
  | 0, _ => ⟨w, rfl⟩
  | n + 1, h => by
    obtain ⟨h1, h2⟩ := ticksS_NW w n (by omega)
    refine ⟨tickS_NW h1 (by omega), ?_⟩
    show tickS (ticksS s n) 21 0 = _
    rw [tickS_21, h2]
    omega
/-- one tick of the class -/
theorem tick_step {E : JE} {u0 : JM} {K : JM → Prop} {N : Nat} (hN : isNet N) {s : St} (hC : CN N s u0) (w : NW s) (hT : s 21 0 + 3 < 1000000000)
    (hK : ∀ u', same u0 u' (inNet N) → CN N (tickS s) u' → K u') : JCu E 3 YX2_arrive [.ref N] (fun u1 =>
      JCu E 2 YX2_growOlder [.ref N] (fun u2 => JCu E 5 YX2_tellAnew [.ref N] (fun u3 => JCu E 3 YX2_sendOn [.ref N] (fun u4 => ∀ u5, u5 = jw u4 N 7 ((u4 N 7) + 1) → K u5) u3) u2) u1) u0 := by
  obtain ⟨⟨a1, a2, a3, a4, a5⟩, ⟨b1, b2, b3, b4, b5, b6⟩, c1, c2, c3, c4, c5⟩ := tick_W w hT
  obtain ⟨wL, wK, wM, fZ, wF, wB⟩ := w
  refine c_X2_arrive hN hC wL wK wM wF fun u1 q1 d1 => ?_
  refine c_X2_growOlder hN d1 a2 fun u2 q2 d2 => ?_
  refine c_X2_tellAnew hN d2 b1 b2 b4 b6 (by omega) fun u3 q3 d3 => ?_
  refine c_X2_sendOn hN d3 c1 c3 c2 c4 (fun row hr q => (c5 row hr).2.2 q) fun u4 q4 d4 => ?_
  intro u5 h5
  have hs : ∀ b, b ≠ N → u5 b = u4 b := fun b hb => by rw [h5, jw_ne hb]
  refine hK u5 ((((q1.trans q2).trans q3).trans q4).trans fun b hb => hs b fun q => hb (by rw [q]; exact ⟨by omega, by omega⟩)) ?_
  obtain ⟨cL, cK, cM, cF, cT7, cT8⟩ := d4
  have e21 : sendS (tnA (grS (avS s) 192) 8) 21 0 = s 21 0 := by
    rw [sendS_ne (by omega), tnA_ne (by omega), grS_ne (by omega) (by omega) (by omega), avS_ne (by omega)]
  unfold tickS
  refine ⟨(cL.congr fun j _ _ => hs _ (by omega)).st fun c hc => set1_ne (by omega), fun k hk => ?_, cM.congr (fun c h1 h2 => set1_ne (by omega)) (by rw [h5, jw_at, if_neg (by omega)]) (fun j _ _ => hs _ (by omega)), fun k hk => ?_, ?_, ?_⟩
  · exact KR.keep (N := N) (s := sendS (tnA (grS (avS s) 192) 8)) (u := u4) (cK k hk) (by rw [hs _ (by omega)]) (by rw [hs _ (by omega)]) (by rw [hs _ (by omega)]) (fun l hl => by rw [hs _ (by omega)]) (fun l hl => by rw [hs _ (by omega)]) (by rw [set1_ne (by omega)]) (by rw [set1_ne (by omega)]) (fun l hl => by rw [set1_ne (by omega)]) (fun l hl => by rw [set1_ne (by omega)])
  · rw [hs _ (by omega), hs _ (by omega), set1_ne (c' := 11) (by omega), set1_ne (c' := 12) (by omega)]
    exact cF k hk
  · rw [h5, jw_at, if_pos rfl, cT7, e21, nI_1, set1_at, if_pos rfl]
  · rw [h5, jw_at, if_neg (by omega), set1_ne (by omega)]
    exact cT8
theorem c_X2_advance {E : JE} {u0 : JM} {K : Int32 → JM → Prop} {N : Nat} (hN : isNet N) {s : St} (hC : CN N s u0) (w : NW s) {n : Nat} (hn : s 21 0 + n + 3 < 1000000000)
    (hK : ∀ u', same u0 u' (inNet N) → CN N (ticksS s n) u' → K (nI (ticksS s n 22 0) - nI (s 22 0)) u') : JCi E 6 YX2_advance [.ref N, .int (nI n)] K u0 := by
  refine JCi.ofV (ls := [some (.ref N), some (.int (nI n)), none, none]) (by decide +kernel) (Nat.le_of_ble_eq_true rfl) rfl rfl (g_X2_advance_0 hN ?_)
  rw [hC.2.2.2.2.2]
  have main : ∀ (m k : Nat) (u : JM), m + k = n → same u0 u (inNet N) → CN N (ticksS s k) u → JVi E 6 YX2_advance K 7 [some (.ref N), some (.int (nI n)), some (.int (nI (s 22 0))), some (.int (nI k))] [] u := by
    intro m
    induction m with
    | zero =>
      intro k u hm hs hC
      obtain rfl : k = n := by omega
      refine g_X2_advance_7 hN ⟨fun _ => ?_, fun c => absurd (nI_le (Nat.le_refl _) (by omega)) c⟩
      rw [hC.2.2.2.2.2]
      exact hK u hs hC
    | succ m ih =>
      intro k u hm hs hC
      obtain ⟨w1, w2⟩ := ticksS_NW w k (by omega)
      refine g_X2_advance_7 hN ⟨fun c => absurd c (nI_ge (by omega) (by omega)), fun _ => ?_⟩
      rw [nI_1]
      exact tick_step hN hC w1 (by omega) fun u' q1 q2 => ih (k + 1) u' (by omega) (hs.trans q1) q2
  exact main n 0 u0 (by omega) same.rfl hC
