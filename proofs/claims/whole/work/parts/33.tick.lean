/-! a tick -/
def WB (s : St) (T : Nat) : Prop := (∀ row, row < 192 → s 7 row ≤ T ∧ (0 < s 7 row → s 8 row ≤ T)) ∧ ∀ i, i < s 13 0 → s 17 i ≤ T ∧ s 18 i ≤ T
def FZ (s : St) : Prop := ∀ row, row < 192 → s 11 row = 0
noncomputable def tickS (s : St) : St := set1 (sendS (tnA (grS (avS s) 192) 8)) 21 0 (s 21 0 + 1)
noncomputable def ticksS (s : St) : Nat → St
  | 0 => s
  | n + 1 => tickS (ticksS s n)
theorem tkS_eq (s : St) (i : Nat) : tkS s i = if s 7 (rw8 (s 15 i) (s 3 (s 14 i)) (s 16 i)) < s 17 i then putS s (rw8 (s 15 i) (s 3 (s 14 i)) (s 16 i)) (s 17 i) (s 18 i) (fun l => s 19 (i * 12 + l)) (fun d => s 20 (i * 8 + d)) (2 ^ s 14 i) else if s 7 (rw8 (s 15 i) (s 3 (s 14 i)) (s 16 i)) = s 17 i ∧ s 11 (rw8 (s 15 i) (s 3 (s 14 i)) (s 16 i)) = 1 then set1 s 12 (rw8 (s 15 i) (s 3 (s 14 i)) (s 16 i)) (s 12 (rw8 (s 15 i) (s 3 (s 14 i)) (s 16 i)) ||| 2 ^ s 14 i) else s := rfl
/-- rows within bounds, the fresh ones with adverts -/
def RB (s : St) (T : Nat) : Prop := ∀ row, row < 192 → s 7 row ≤ T ∧ (0 < s 7 row → s 8 row ≤ T) ∧ (s 11 row = 1 → 0 < s 7 row)
theorem putS_RB {s : St} {T : Nat} (h : RB s T) {row num age cb : Nat} {cs ms : Nat → Nat} (h1 : num ≤ T) (h2 : age ≤ T) (h3 : 0 < num) : RB (putS s row num age cs ms cb) T := by
  intro k hk
  by_cases e : k = row
  · obtain ⟨p1, p2, -, -, -, -⟩ := putS_row (s := s) (row := row) (num := num) (age := age) (cs := cs) (ms := ms) (cb := cb)
    rw [e, p1, p2]
    exact ⟨h1, fun _ => h2, fun _ => h3⟩
  · obtain ⟨o1, o2, -, -, o5, -⟩ := putS_other (s := s) (row := row) (num := num) (age := age) (cs := cs) (ms := ms) (cb := cb) e
    rw [o1, o2, o5]
    exact h k hk
theorem tkS_RB {s : St} {T i : Nat} (h : RB s T) (h1 : s 17 i ≤ T) (h2 : s 18 i ≤ T) (h3 : 0 < s 17 i) : RB (tkS s i) T := by
  rw [tkS_eq]
  split
  · exact putS_RB h h1 h2 h3
  · split
    · intro k hk
      rw [set1_ne (by omega), set1_ne (c' := 8) (by omega), set1_ne (c' := 11) (by omega)]
      exact h k hk
    · exact h
theorem arv_RB {s : St} (wM : WM s) {T : Nat} (h : RB s T) (hm : ∀ i, i < s 13 0 → s 17 i ≤ T ∧ s 18 i ≤ T) : ∀ k, k ≤ s 13 0 → RB (arv s k) T
  | 0, _ => h
  | k + 1, hk => by
    have ih := arv_RB wM h hm k (by omega)
    unfold arv
    split
    · refine tkS_RB ih ?_ ?_ ?_
      · rw [arv_ne s (by omega)]; exact (hm k (by omega)).1
      · rw [arv_ne s (by omega)]; exact (hm k (by omega)).2
      · rw [arv_ne s (by omega)]; exact (wM.2 k (by omega)).2.2.2.1
    · exact ih
theorem avS_W {s : St} (wL : WL s) (wK : WK s) (wM : WM s) (fZ : FZ s) (wF : WF s) {T : Nat} (wB : WB s T) : WL (avS s) ∧ WK (avS s) ∧ WM (avS s) ∧ WF (avS s) ∧ RB (avS s) T := by
  obtain ⟨h1, h2⟩ := arv_W wL wK wM wF (s 13 0) (Nat.le_refl _)
  have h3 := arv_RB (T := T) wM (fun row hr => ⟨(wB.1 row hr).1, (wB.1 row hr).2, fun q => by rw [fZ row hr] at q; exact absurd q (by decide)⟩) wB.2 (s 13 0) (Nat.le_refl _)
  unfold avS
  refine ⟨(wL.congr (s' := arv s (s 13 0)) fun c hc => arv_ne s (by omega) _).congr fun c hc => set1_ne (by omega), h1.st fun c hc => set1_ne (by omega), ?_, fun k hk => ?_, fun k hk => ?_⟩
  · refine ⟨?_, fun i hi => ?_⟩
    · rw [set1_at, if_pos rfl]; omega
    · rw [set1_at, if_pos rfl] at hi; exact absurd hi (Nat.not_lt_zero i)
  · rw [set1_ne (by omega), set1_ne (by omega)]; exact h2 k hk
  · rw [set1_ne (by omega), set1_ne (c' := 8) (by omega), set1_ne (c' := 11) (by omega)]; exact h3 k hk
theorem grS_W {s : St} (wL : WL s) (wK : WK s) (wM : WM s) (wF : WF s) {T : Nat} (hT : T + 2 < 1000000000) (rB : RB s T) : WL (grS s 192) ∧ WK (grS s 192) ∧ WM (grS s 192) ∧ WF (grS s 192) ∧ RB (grS s 192) (T + 1) := by
  have hc : ∀ c, c < 7 → grS s 192 c = s c := fun c hc => grS_ne (by omega) (by omega) (by omega)
  refine ⟨wL.congr hc, fun k hk => ?_, wM.congr hc (fun c h1 h2 => grS_ne (by omega) (by omega) (by omega)), fun k hk => ?_, fun k hk => ?_⟩
  · obtain ⟨b1, b2, -⟩ := rB k hk
    obtain ⟨w1, w2⟩ := wK k hk
    rw [grS_7, grS_8, grS_ne (c := 9) (by omega) (by omega) (by omega), grS_ne (c := 10) (by omega) (by omega) (by omega)]
    by_cases d : k < 192 ∧ dies s k = true
    · rw [if_pos d]
      exact ⟨by omega, fun q => absurd q (Nat.lt_irrefl 0)⟩
    · rw [if_neg d]
      refine ⟨w1, fun q => ⟨?_, (w2 q).2.congr hc⟩⟩
      have := b2 q
      split <;> omega
  · obtain ⟨w1, w2⟩ := wF k hk
    rw [grS_11, grS_ne (c := 12) (by omega) (by omega) (by omega)]
    exact ⟨by split <;> omega, w2⟩
  · obtain ⟨b1, b2, b3⟩ := rB k hk
    rw [grS_7, grS_8, grS_11]
    by_cases d : k < 192 ∧ dies s k = true
    · rw [if_pos d, if_pos d]
      exact ⟨by omega, fun q => absurd q (Nat.lt_irrefl 0), fun q => absurd q (by decide)⟩
    · rw [if_neg d, if_neg d]
      refine ⟨by omega, fun q => ?_, b3⟩
      have := b2 q
      split <;> omega
theorem tdS_RB {s : St} {T r a : Nat} (h : RB s T) (h1 : s 7 (rw8 r a r) + 1 ≤ T) : RB (tdS s r a) T := by
  unfold tdS
  split
  · exact putS_RB h h1 (Nat.zero_le _) (Nat.succ_pos _)
  · exact h
theorem tnS_RB {s : St} {T r a : Nat} (h : RB s T) (h1 : s 7 (rw8 r a r) + 1 ≤ T) : RB (tnS s r a) T := by
  unfold tnS
  split
  · exact tdS_RB h h1
  · exact h
theorem tnR_RB {s : St} {T r : Nat} (hr : r < 8) (h : RB s T) (h1 : ∀ b, b < 3 → s 7 (rw8 r b r) + 1 ≤ T) : ∀ a, a ≤ 3 → RB (tnR s r a) T
  | 0, _ => h
  | a + 1, ha => by
    refine tnS_RB (tnR_RB hr h h1 a (by omega)) ?_
    rcases tnR_7 (s := s) hr (rw8 r a r) a (by omega) with e | ⟨b, e0, e1, -⟩
    · rw [e]; exact h1 a (by omega)
    · have := rw8_inj (r := r) (a := a) (o := r) (r' := r) (a' := b) (o' := r) (by omega) hr (by omega) hr e1
      omega
theorem tnA_RB {s : St} {T : Nat} (h : RB s T) (h1 : ∀ row, row < 192 → s 7 row + 1 ≤ T) : ∀ r, r ≤ 8 → RB (tnA s r) T
  | 0, _ => h
  | r + 1, hr => by
    refine tnR_RB (by omega) (tnA_RB h h1 r (by omega)) (fun b hb => ?_) 3 (Nat.le_refl 3)
    rcases tnA_7 (s := s) (rw8 r b r) r (by omega) with e | ⟨q, b', e0, e1, e2, -⟩
    · rw [e]; exact h1 _ (rw8_lt (by omega) hb (by omega))
    · have := rw8_inj (r := r) (a := b) (o := r) (r' := q) (a' := b') (o' := q) hb (by omega) e1 (by omega) e2
      omega
def MB (s : St) (T : Nat) : Prop := ∀ i, i < s 13 0 → s 17 i ≤ T ∧ s 18 i ≤ T
theorem snL_MB {s : St} {T row cb : Nat} (h : MB s T) (h7 : s 7 row ≤ T) (h8 : s 8 row ≤ T) : ∀ k, MB (snL s row cb k) T
  | 0 => h
  | k + 1 => by
    have ih := snL_MB (cb := cb) h h7 h8 k
    unfold snL
    split
    · intro i hi
      rw [pmS_13] at hi
      rw [pmS_17, pmS_18, snL_ne (c := 7) (by omega), snL_ne (c := 8) (by omega)]
      by_cases e : i = snL s row cb k 13 0
      · rw [if_pos e, if_pos e]; exact ⟨h7, h8⟩
      · rw [if_neg e, if_neg e]; exact ih i (by omega)
    · exact ih
theorem sno_MB {s : St} {T : Nat} (h : MB s T) (rB : RB s T) : ∀ k, k ≤ 192 → MB (sno s k) T
  | 0, _ => h
  | k + 1, hk => by
    have ih := sno_MB h rB k (by omega)
    obtain ⟨b1, b2, b3⟩ := rB k (by omega)
    unfold sno
    split
    · rename_i c
      refine snL_MB (fun i hi => ?_) ?_ ?_ _
      · rw [set1_ne (by omega)] at hi
        rw [set1_ne (by omega), set1_ne (c' := 18) (by omega)]
        exact ih i hi
      · rw [set1_ne (by omega), sno_ne (by omega)]; exact b1
      · rw [set1_ne (by omega), sno_ne (by omega)]; exact b2 (b3 c)
    · exact ih
