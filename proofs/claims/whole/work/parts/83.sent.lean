/-! what is sent in a tick -/
def mSame (S S' : St) (i : Nat) : Prop := S' 14 i = S 14 i ∧ S' 15 i = S 15 i ∧ S' 16 i = S 16 i ∧ S' 17 i = S 17 i ∧ S' 18 i = S 18 i ∧ (∀ l, l < 12 → S' 19 (i * 12 + l) = S 19 (i * 12 + l)) ∧ ∀ d, d < 8 → S' 20 (i * 8 + d) = S 20 (i * 8 + d)
theorem mSame.rfl_ (S : St) (i : Nat) : mSame S S i := ⟨rfl, rfl, rfl, rfl, rfl, fun _ _ => rfl, fun _ _ => rfl⟩
theorem mSame.tr {S T U : St} {i : Nat} (h : mSame S T i) (k : mSame T U i) : mSame S U i := by
  obtain ⟨h1, h2, h3, h4, h5, h6, h7⟩ := h
  obtain ⟨k1, k2, k3, k4, k5, k6, k7⟩ := k
  exact ⟨k1.trans h1, k2.trans h2, k3.trans h3, k4.trans h4, k5.trans h5, fun l hl => (k6 l hl).trans (h6 l hl), fun d hd => (k7 d hd).trans (h7 d hd)⟩
theorem mSame.of {S S' : St} (h : ∀ c, 14 ≤ c → c ≤ 20 → S' c = S c) (i : Nat) : mSame S S' i := by
  unfold mSame
  rw [h 14 (by omega) (by omega), h 15 (by omega) (by omega), h 16 (by omega) (by omega), h 17 (by omega) (by omega), h 18 (by omega) (by omega), h 19 (by omega) (by omega), h 20 (by omega) (by omega)]
  exact mSame.rfl_ S i
/-- a message, from the row it was made of -/
def SnR (A S : St) (i row l : Nat) : Prop := l < A 0 0 ∧ fitR A row l = true ∧ (A 12 row).testBit l = false ∧ S 14 i = l ∧ S 15 i = oth A l (row / 24) ∧ S 16 i = row % 8 ∧ S 17 i = A 7 row ∧ S 18 i = A 8 row ∧ (∀ j, j < 12 → S 19 (i * 12 + j) = A 9 (row * 12 + j)) ∧ ∀ j, j < 8 → S 20 (i * 8 + j) = A 10 (row * 8 + j)
theorem SnR.ms {A S S' : St} {i row l : Nat} (h : SnR A S i row l) (e : mSame S S' i) : SnR A S' i row l := by
  obtain ⟨h1, h2, h3, h4, h5, h6, h7, h8, h9, h10⟩ := h
  obtain ⟨k1, k2, k3, k4, k5, k6, k7⟩ := e
  exact ⟨h1, h2, h3, k1.trans h4, k2.trans h5, k3.trans h6, k4.trans h7, k5.trans h8, fun l hl => (k6 l hl).trans (h9 l hl), fun d hd => (k7 d hd).trans (h10 d hd)⟩
theorem SnR.st {A A' S : St} {i row l : Nat} (h : SnR A S i row l) (e : ∀ c, c < 11 ∨ c = 12 → A' c = A c) : SnR A' S i row l := by
  unfold SnR at h ⊢
  have eo : oth A' l (row / 24) = oth A l (row / 24) := by unfold oth; rw [e 1 (by omega), e 2 (by omega)]
  rw [fitR_st (fun c hc => e c (by omega)), eo, e 0 (by omega), e 12 (by omega), e 7 (by omega), e 8 (by omega), e 9 (by omega), e 10 (by omega)]
  exact h
theorem pmS_same {s : St} {row l r i : Nat} (h : i ≠ s 13 0) : mSame s (pmS s row l r) i := by
  refine ⟨?_, ?_, ?_, ?_, ?_, fun j hj => ?_, fun j hj => ?_⟩
  · rw [pmS_14, if_neg h]
  · rw [pmS_15, if_neg h]
  · rw [pmS_16, if_neg h]
  · rw [pmS_17, if_neg h]
  · rw [pmS_18, if_neg h]
  · rw [pmS_19, if_neg (by omega)]
  · rw [pmS_20, if_neg (by omega)]
theorem pmS_SnR {s : St} {row l : Nat} (hl : l < s 0 0) (hf : fitR s row l = true) (hb : (s 12 row).testBit l = false) : SnR s (pmS s row l (row / 24)) (s 13 0) row l := by
  refine ⟨hl, hf, hb, ?_, ?_, ?_, ?_, ?_, fun j hj => ?_, fun j hj => ?_⟩
  · rw [pmS_14, if_pos rfl]
  · rw [pmS_15, if_pos rfl]
  · rw [pmS_16, if_pos rfl]
  · rw [pmS_17, if_pos rfl]
  · rw [pmS_18, if_pos rfl]
  · rw [pmS_19, if_pos (by omega), show (s 13 0 * 12 + j) % 12 = j by omega]
  · rw [pmS_20, if_pos (by omega), show (s 13 0 * 8 + j) % 8 = j by omega]
theorem snL_sn {s : St} {row : Nat} : ∀ k, k ≤ s 0 0 → s 13 0 ≤ snL s row (s 12 row) k 13 0 ∧ (∀ i, i < s 13 0 → mSame s (snL s row (s 12 row) k) i) ∧ (∀ i, s 13 0 ≤ i → i < snL s row (s 12 row) k 13 0 → ∃ l, SnR s (snL s row (s 12 row) k) i row l) ∧ (s 13 0 + wR s row ≤ 192 → ∀ l, l < k → fitR s row l = true → (s 12 row).testBit l = false → ∃ i, i < snL s row (s 12 row) k 13 0 ∧ SnR s (snL s row (s 12 row) k) i row l)
  | 0, _ => ⟨Nat.le_refl _, fun i _ => mSame.rfl_ _ i, fun i h1 h2 => absurd h2 (by show ¬ i < s 13 0; omega), fun _ l h => absurd h (Nat.not_lt_zero l)⟩
  | k + 1, hk => by
    obtain ⟨i1, i2, i3, i4⟩ := snL_sn (s := s) (row := row) k (by omega)
    have c13 := snL_13 s row (s 12 row) k
    have nb : ∀ c, c < 13 → snL s row (s 12 row) k c = s c := fun c hc => snL_ne (by omega) k
    unfold snL
    by_cases c : (s 3 k = row / 8 % 3 ∧ upB s k (row / 24) = true ∧ (s 12 row).testBit k = false) ∧ snL s row (s 12 row) k 13 0 < 192
    · rw [if_pos c]
      generalize snL s row (s 12 row) k = P at *
      have hf : fitR s row k = true := by
        unfold fitR
        rw [Bool.and_eq_true]
        exact ⟨decide_eq_true c.1.1, c.1.2.1⟩
      have hn : SnR s (pmS P row k (row / 24)) (P 13 0) row k := (pmS_SnR (s := P) (row := row) (l := k) (by rw [nb 0 (by omega)]; omega) (by rw [fitR_st fun c hc => nb c (by omega)]; exact hf) (by rw [nb 12 (by omega)]; exact c.1.2.2)).st fun c hc => (nb c (by omega)).symm
      rw [pmS_13]
      refine ⟨by omega, fun i hi => (i2 i hi).tr (pmS_same (by omega)), fun i h1 h2 => ?_, fun h l hl f b => ?_⟩
      · by_cases e : i = P 13 0
        · rw [e]; exact ⟨k, hn⟩
        · obtain ⟨l, g⟩ := i3 i h1 (by omega)
          exact ⟨l, g.ms (pmS_same e)⟩
      · by_cases e : l = k
        · rw [e]; exact ⟨P 13 0, by omega, hn⟩
        · obtain ⟨i, g1, g2⟩ := i4 h l (by omega) f b
          exact ⟨i, by omega, g2.ms (pmS_same (by omega))⟩
    · rw [if_neg c]
      refine ⟨i1, i2, i3, fun h l hl f b => ?_⟩
      by_cases e : l = k
      · subst e
        have := wR_fit (s := s) (row := row) (k := l) (by omega) f
        exfalso
        apply c
        unfold fitR at f
        rw [Bool.and_eq_true] at f
        exact ⟨⟨of_decide_eq_true f.1, f.2, b⟩, by omega⟩
      · exact i4 h l (by omega) f b
theorem sno_sn {A : St} (w : WL A) (h0 : A 13 0 = 0) : ∀ k, k ≤ 192 → (∀ i, i < sno A k 13 0 → ∃ row l, row < k ∧ A 11 row = 1 ∧ SnR A (sno A k) i row l) ∧ ∀ row l, row < k → A 11 row = 1 → l < A 0 0 → fitR A row l = true → (A 12 row).testBit l = false → ∃ i, i < sno A k 13 0 ∧ SnR A (sno A k) i row l
  | 0, _ => ⟨fun i h => absurd h (by show ¬ i < A 13 0; omega), fun row l h => absurd h (Nat.not_lt_zero row)⟩
  | k + 1, hk => by
    obtain ⟨i1, i2⟩ := sno_sn w h0 k (by omega)
    have c13 := sno_13 A k
    have nb : ∀ c, c < 11 ∨ c = 12 → sno A k c = A c := fun c hc => sno_ne (by omega) k
    have cap : sumTo (wR A) k + wR A k ≤ 192 := Nat.le_trans (sumTo_mono (wR A) (show k + 1 ≤ 192 from hk)) (wR_192 w)
    unfold sno
    by_cases c : A 11 k = 1
    · rw [if_pos c]
      generalize hP : set1 (sno A k) 11 k 0 = P
      have nP : ∀ c, c < 11 ∨ c = 12 → P c = A c := fun c hc => by rw [← hP, set1_ne (by omega)]; exact nb c hc
      have p13 : P 13 0 = sno A k 13 0 := by rw [← hP, set1_ne (by omega)]
      have pm : ∀ i, mSame (sno A k) P i := mSame.of fun c h1 h2 => by rw [← hP, set1_ne (by omega)]
      obtain ⟨j1, j2, j3, j4⟩ := snL_sn (s := P) (row := k) (P 0 0) (Nat.le_refl _)
      rw [show A 12 k = P 12 k from (congrFun (nP 12 (by omega)) k).symm, show A 0 0 = P 0 0 from (congrFun (nP 0 (by omega)) 0).symm]
      have eW : wR P k = wR A k := by
        unfold wR
        rw [nP 0 (by omega), show fitR P k = fitR A k from funext fun l => fitR_st (fun c hc => nP c (by omega)) k l]
      refine ⟨fun i hi => ?_, fun row l hr f11 hl hf hb => ?_⟩
      · by_cases e : i < P 13 0
        · obtain ⟨row, l, g1, g2, g3⟩ := i1 i (by omega)
          exact ⟨row, l, by omega, g2, (g3.ms (pm i)).ms (j2 i e)⟩
        · obtain ⟨l, g⟩ := j3 i (by omega) hi
          exact ⟨k, l, by omega, c, g.st fun c hc => (nP c hc).symm⟩
      · by_cases e : row = k
        · subst e
          obtain ⟨i, g1, g2⟩ := j4 (by omega) l (by omega) (by rw [fitR_st fun c hc => nP c (by omega)]; exact hf) (by rw [nP 12 (by omega)]; exact hb)
          exact ⟨i, g1, g2.st fun c hc => (nP c hc).symm⟩
        · obtain ⟨i, g1, g2⟩ := i2 row l (by omega) f11 (by rw [nP 0 (by omega)] at hl; exact hl) hf hb
          exact ⟨i, by omega, (g2.ms (pm i)).ms (j2 i (by omega))⟩
    · rw [if_neg c]
      refine ⟨fun i hi => ?_, fun row l hr f11 hl hf hb => ?_⟩
      · obtain ⟨row, l, g1, g2, g3⟩ := i1 i hi
        exact ⟨row, l, by omega, g2, g3⟩
      · by_cases e : row = k
        · rw [e] at f11; exact absurd f11 c
        · exact i2 row l (by omega) f11 hl hf hb
/-! a tick, taken apart -/
/-- the state as routers tell, and the state as it is sent -/
noncomputable def grA (s : St) : St := grS (avS s) 192
noncomputable def tlA (s : St) : St := tnA (grA s) 8
theorem tickS_at (s : St) {c : Nat} (h : c ≠ 21) (h2 : c ≠ 22) : tickS s c = sno (tlA s) 192 c := by
  show set1 (sendS (tlA s)) 21 0 (s 21 0 + 1) c = _
  rw [set1_ne h]
  unfold sendS
  rw [set1_ne h2]
theorem tlA_13 (s : St) : tlA s 13 0 = 0 := by
  unfold tlA grA
  rw [tnA_ne (by omega), grS_ne (by omega) (by omega) (by omega)]
  show set1 (arv s (s 13 0)) 13 0 0 13 0 = 0
  rw [set1_at, if_pos rfl]
theorem tlA_st {s : St} {c : Nat} (h : c < 7) : tlA s c = s c := by
  unfold tlA grA
  rw [tnA_ne (by omega), grS_ne (by omega) (by omega) (by omega), avS_ne (by omega)]
theorem tick_sent {s : St} (wL : WL (tlA s)) : (∀ i, i < tickS s 13 0 → ∃ row l, row < 192 ∧ tlA s 11 row = 1 ∧ SnR (tlA s) (tickS s) i row l) ∧ ∀ row l, row < 192 → tlA s 11 row = 1 → l < tlA s 0 0 → fitR (tlA s) row l = true → (tlA s 12 row).testBit l = false → ∃ i, i < tickS s 13 0 ∧ SnR (tlA s) (tickS s) i row l := by
  obtain ⟨h1, h2⟩ := sno_sn wL (tlA_13 s) 192 (Nat.le_refl _)
  have e : ∀ i, mSame (sno (tlA s) 192) (tickS s) i := mSame.of fun c g1 g2 => tickS_at s (by omega) (by omega)
  rw [tickS_at s (by omega) (by omega)]
  refine ⟨fun i hi => ?_, fun row l hr f hl hf hb => ?_⟩
  · obtain ⟨row, l, g1, g2, g3⟩ := h1 i hi
    exact ⟨row, l, g1, g2, g3.ms (e i)⟩
  · obtain ⟨i, g1, g2⟩ := h2 row l hr f hl hf hb
    exact ⟨i, g1, g2.ms (e i)⟩
/-- rows are the same behind the sending -/
theorem tick_row (s : St) {c : Nat} (h : 7 ≤ c ∧ c ≤ 10) : tickS s c = tlA s c := by
  rw [tickS_at s (by omega) (by omega), sno_ne (by omega)]
theorem tick_ROk {s : St} (w : NW s) (hT : s 21 0 + 3 < 1000000000) {B M : Nat → Nat → Nat} {T : Nat} {J : Nat → Nat → Prop} (h : ROk s B M T J) (hm : MOk s B M T J)
    (hR : ∀ r a, r < 8 → a < 3 → M r a ≤ ow (mdS (grA s) r a) r a + 1 → ∀ d, d < 8 → nwS (mdS (grA s) r a) r a d < 9999 → J r d) : ROk (tlA s) B M (T + 1) J ∧ ROk (tickS s) B M (T + 1) J ∧ MOk (tickS s) B M (T + 1) J := by
  obtain ⟨⟨a1, -⟩, ⟨b1, -⟩, ⟨c1, -⟩⟩ := tick_W w hT
  have k1 := (avS_ROk w.1 w.2.2.1 h hm).1
  have k2 : ROk (tlA s) B M (T + 1) J := tnA_ROk (grS_ROk k1) hR 8 (Nat.le_refl 8)
  have eO : OwS (tlA s) (tickS s) := by
    refine ⟨by rw [tickS_at s (by omega) (by omega), sno_ne (by omega)], fun x a hx ha => ?_⟩
    unfold ow
    rw [tick_row s (by omega), tick_row s (by omega), tick_row s (by omega)]
    exact ⟨rfl, fun _ _ => rfl, fun _ _ => rfl⟩
  refine ⟨k2, fun y a x hy ha hx => ?_, fun i hi => ?_⟩
  · rw [tick_row s (by omega), tick_row s (by omega), tick_row s (by omega), tick_row s (by omega)]
    exact (k2 y a x hy ha hx).st hx ha eO
  · obtain ⟨row, l, g1, g2, g3⟩ := (tick_sent c1).1 i hi
    obtain ⟨h1, h2, h3, h4, h5, h6, h7, h8, h9, h10⟩ := g3
    have ea : tickS s 3 (tickS s 14 i) = row / 8 % 3 := by
      unfold fitR at h2
      rw [Bool.and_eq_true] at h2
      rw [h4, tickS_ne (by omega), ← tlA_st (s := s) (by omega)]
      exact of_decide_eq_true h2.1
    have er : row = rw8 (row / 24) (row / 8 % 3) (row % 8) := by unfold rw8; omega
    have := (k2 (row / 24) (row / 8 % 3) (row % 8) (by omega) (by omega) (by omega)).st (by omega) (by omega) eO
    rw [← er] at this
    rw [h6, ea]
    exact this.ext h7 h8 h9 h10
