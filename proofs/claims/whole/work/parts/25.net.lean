/-! a net: what waits, what is fresh; take and arrive -/
def set1 (s : St) (c k v : Nat) : St := fun c' k' => if c' = c ∧ k' = k then v else s c' k'
theorem set1_ne {s : St} {c k v c' : Nat} (h : c' ≠ c) : set1 s c k v c' = s c' := by
  funext k'
  unfold set1
  rw [if_neg (fun q => h q.1)]
theorem set1_at {s : St} {c k v : Nat} (k' : Nat) : set1 s c k v c k' = if k' = k then v else s c k' := by
  unfold set1
  by_cases e : k' = k
  · rw [if_pos ⟨rfl, e⟩, if_pos e]
  · rw [if_neg (fun q => e q.2), if_neg e]
def setRow (s : St) (row num age : Nat) (cs ms : Nat → Nat) : St := fun c k =>
  if c = 7 then (if k = row then num else s 7 k) else if c = 8 then (if k = row then age else s 8 k) else if c = 9 then (if k / 12 = row then cs (k % 12) else s 9 k) else if c = 10 then (if k / 8 = row then ms (k % 8) else s 10 k) else s c k
theorem setRow_ne {s : St} {row num age : Nat} {cs ms : Nat → Nat} {c : Nat} (h : c < 7 ∨ 10 < c) : setRow s row num age cs ms c = s c := by
  funext k
  unfold setRow
  rw [if_neg (by omega), if_neg (by omega), if_neg (by omega), if_neg (by omega)]
theorem setRow_7 {s : St} {row num age : Nat} {cs ms : Nat → Nat} (k : Nat) : setRow s row num age cs ms 7 k = if k = row then num else s 7 k := rfl
theorem setRow_8 {s : St} {row num age : Nat} {cs ms : Nat → Nat} (k : Nat) : setRow s row num age cs ms 8 k = if k = row then age else s 8 k := rfl
theorem setRow_9 {s : St} {row num age : Nat} {cs ms : Nat → Nat} (k : Nat) : setRow s row num age cs ms 9 k = if k / 12 = row then cs (k % 12) else s 9 k := rfl
theorem setRow_10 {s : St} {row num age : Nat} {cs ms : Nat → Nat} (k : Nat) : setRow s row num age cs ms 10 k = if k / 8 = row then ms (k % 8) else s 10 k := rfl
/-- one row of what is known -/
def KR (N : Nat) (s : St) (u : JM) (row : Nat) : Prop :=
  u (N + 10) row = nI (s 7 row) ∧ u (N + 12) row = nI (lks s row) ∧ (0 < s 7 row → u (N + 11) row = nI (s 8 row) ∧ (∀ l, l < 12 → u (N + 13) (row * 12 + l) = ccst (s 9 (row * 12 + l))) ∧ ∀ d, d < 8 → u (N + 14) (row * 8 + d) = nI (s 10 (row * 8 + d)))
theorem KR.rw {N : Nat} {s : St} {u : JM} {row : Nat} (h : KR N s u row) (hp : 0 < s 7 row) : RW (N + 9) u row (s 7 row) (s 8 row) (fun l => s 9 (row * 12 + l)) (fun d => s 10 (row * 8 + d)) := by
  obtain ⟨h1, h2, h3⟩ := h
  obtain ⟨g1, g2, g3⟩ := h3 hp
  unfold lks at h2
  rw [if_neg (by omega)] at h2
  exact ⟨h1, g1, h2, g2, g3⟩
theorem KR.of {N : Nat} {s : St} {u : JM} {row num age : Nat} {cs ms : Nat → Nat} (h : RW (N + 9) u row num age cs ms) (e1 : s 7 row = num) (hp : 0 < num) (e2 : s 8 row = age) (e3 : ∀ l, l < 12 → s 9 (row * 12 + l) = cs l) (e4 : ∀ d, d < 8 → s 10 (row * 8 + d) = ms d) : KR N s u row := by
  obtain ⟨r1, r2, r3, r4, r5⟩ := h
  refine ⟨by rw [e1]; exact r1, ?_, fun _ => ⟨by rw [e2]; exact r2, fun l hl => by rw [e3 l hl]; exact r4 l hl, fun d hd => by rw [e4 d hd]; exact r5 d hd⟩⟩
  unfold lks
  rw [e1, if_neg (by omega), bits_ext fun l hl => by rw [e3 l hl]]
  exact r3
/-- a row where neither side changed -/
theorem KR.keep {N : Nat} {s s' : St} {u u' : JM} {row : Nat} (h : KR N s u row) (a1 : u' (N + 10) row = u (N + 10) row) (a2 : u' (N + 11) row = u (N + 11) row) (a3 : u' (N + 12) row = u (N + 12) row)
    (a4 : ∀ l, l < 12 → u' (N + 13) (row * 12 + l) = u (N + 13) (row * 12 + l)) (a5 : ∀ d, d < 8 → u' (N + 14) (row * 8 + d) = u (N + 14) (row * 8 + d))
    (b1 : s' 7 row = s 7 row) (b2 : s' 8 row = s 8 row) (b3 : ∀ l, l < 12 → s' 9 (row * 12 + l) = s 9 (row * 12 + l)) (b4 : ∀ d, d < 8 → s' 10 (row * 8 + d) = s 10 (row * 8 + d)) : KR N s' u' row := by
  obtain ⟨h1, h2, h3⟩ := h
  refine ⟨by rw [a1, b1, h1], ?_, fun hp => ?_⟩
  · rw [a3, h2]
    unfold lks
    rw [b1, bits_ext (n := 12) (p := fun l => decide (0 < s' 9 (row * 12 + l))) (q := fun l => decide (0 < s 9 (row * 12 + l))) (fun l hl => by rw [b3 l hl])]
  · rw [b1] at hp
    obtain ⟨g1, g2, g3⟩ := h3 hp
    exact ⟨by rw [a2, b2, g1], fun l hl => by rw [a4 l hl, b3 l hl, g2 l hl], fun d hd => by rw [a5 d hd, b4 d hd, g3 d hd]⟩
def CMi (N : Nat) (s : St) (u : JM) (i : Nat) : Prop :=
  RW (N + 15) u i (s 17 i) (s 18 i) (fun l => s 19 (i * 12 + l)) (fun d => s 20 (i * 8 + d)) ∧ u (N + 21) i = nI (s 14 i) ∧ u (N + 22) i = nI (s 15 i) ∧ u (N + 23) i = nI (s 16 i)
def CM (N : Nat) (s : St) (u : JM) : Prop := u N 6 = nI (s 13 0) ∧ ∀ i, i < s 13 0 → CMi N s u i
def CF (N : Nat) (s : St) (u : JM) : Prop := ∀ row, row < 192 → u (N + 24) row = nI (s 11 row) ∧ (s 11 row = 1 → u (N + 25) row = nI (s 12 row))
def CN (N : Nat) (s : St) (u : JM) : Prop := CL N s u ∧ CK N s u ∧ CM N s u ∧ CF N s u ∧ u N 7 = nI (s 21 0) ∧ u N 8 = nI (s 22 0)
/-- what waits is well formed -/
def WMi (s : St) (i : Nat) : Prop :=
  s 14 i < s 0 0 ∧ s 15 i < 8 ∧ s 16 i < 8 ∧ 0 < s 17 i ∧ s 17 i < 1000000000 ∧ s 18 i < 1000000000 ∧ WA s (fun l => s 19 (i * 12 + l)) (fun d => s 20 (i * 8 + d)) (s 3 (s 14 i)) (s 16 i)
def WM (s : St) : Prop := s 13 0 ≤ 192 ∧ ∀ i, i < s 13 0 → WMi s i
def WF (s : St) : Prop := ∀ row, row < 192 → s 11 row ≤ 1 ∧ s 12 row < 4096
def inNet (N : Nat) : Nat → Prop := fun b => N ≤ b ∧ b < N + 36
def tkS (s : St) (i : Nat) : St :=
  if s 7 (rw8 (s 15 i) (s 3 (s 14 i)) (s 16 i)) < s 17 i then
    set1 (set1 (setRow s (rw8 (s 15 i) (s 3 (s 14 i)) (s 16 i)) (s 17 i) (s 18 i) (fun l => s 19 (i * 12 + l)) (fun d => s 20 (i * 8 + d))) 11 (rw8 (s 15 i) (s 3 (s 14 i)) (s 16 i)) 1) 12 (rw8 (s 15 i) (s 3 (s 14 i)) (s 16 i)) (2 ^ s 14 i)
  else if s 7 (rw8 (s 15 i) (s 3 (s 14 i)) (s 16 i)) = s 17 i ∧ s 11 (rw8 (s 15 i) (s 3 (s 14 i)) (s 16 i)) = 1 then
    set1 s 12 (rw8 (s 15 i) (s 3 (s 14 i)) (s 16 i)) (s 12 (rw8 (s 15 i) (s 3 (s 14 i)) (s 16 i)) ||| 2 ^ s 14 i)
  else s
theorem tkS_ne {s : St} {i c : Nat} (h : c < 7 ∨ 12 < c) : tkS s i c = s c := by
  unfold tkS
  split
  · rw [set1_ne (by omega), set1_ne (by omega), setRow_ne (by omega)]
  · split
    · rw [set1_ne (by omega)]
    · rfl
theorem WA.congr {s s' : St} {cs ms : Nat → Nat} {a o : Nat} (h : WA s cs ms a o) (e : ∀ c, c < 7 → s' c = s c) : WA s' cs ms a o := by
  unfold WA
  rw [e 0 (by omega), e 1 (by omega), e 2 (by omega), e 3 (by omega)]
  exact h
theorem WA.ext {s : St} {cs ms cs' ms' : Nat → Nat} {a o : Nat} (h : WA s cs ms a o) (e : ∀ l, l < 12 → cs' l = cs l) (e' : ∀ d, d < 8 → ms' d = ms d) : WA s cs' ms' a o :=
  ⟨fun l hl => by rw [e l hl]; exact h.1 l hl, fun d hd => by rw [e' d hd]; exact h.2 d hd⟩
theorem WL.congr {s s' : St} (h : WL s) (e : ∀ c, c < 7 → s' c = s c) : WL s' := by
  unfold WL
  rw [e 0 (by omega), e 1 (by omega), e 2 (by omega), e 3 (by omega), e 4 (by omega), e 5 (by omega), e 6 (by omega)]
  exact h
theorem CL.st {N : Nat} {s s' : St} {u : JM} (h : CL N s u) (e : ∀ c, c < 7 → s' c = s c) : CL N s' u := by
  unfold CL
  rw [e 0 (by omega), e 1 (by omega), e 2 (by omega), e 3 (by omega), e 4 (by omega), e 5 (by omega), e 6 (by omega)]
  exact h
theorem WM.congr {s s' : St} (h : WM s) (e : ∀ c, c < 7 → s' c = s c) (e2 : ∀ c, 13 ≤ c → c ≤ 20 → s' c = s c) : WM s' := by
  obtain ⟨h1, h2⟩ := h
  refine ⟨by rw [e2 13 (by omega) (by omega)]; exact h1, fun i hi => ?_⟩
  rw [e2 13 (by omega) (by omega)] at hi
  obtain ⟨g1, g2, g3, g4, g5, g6, g7⟩ := h2 i hi
  unfold WMi
  rw [e2 14 (by omega) (by omega), e2 15 (by omega) (by omega), e2 16 (by omega) (by omega), e2 17 (by omega) (by omega), e2 18 (by omega) (by omega), e2 19 (by omega) (by omega), e2 20 (by omega) (by omega), e 0 (by omega), e 3 (by omega)]
  exact ⟨g1, g2, g3, g4, g5, g6, g7.congr e⟩
theorem CM.congr {N : Nat} {s s' : St} {u u' : JM} (h : CM N s u) (e : ∀ c, 13 ≤ c → c ≤ 20 → s' c = s c) (e1 : u' N 6 = u N 6) (e2 : ∀ j, 16 ≤ j → j ≤ 23 → u' (N + j) = u (N + j)) : CM N s' u' := by
  unfold CM CMi RW
  rw [e 13 (by omega) (by omega), e 14 (by omega) (by omega), e 15 (by omega) (by omega), e 16 (by omega) (by omega), e 17 (by omega) (by omega), e 18 (by omega) (by omega), e 19 (by omega) (by omega), e 20 (by omega) (by omega), e1, e2 21 (by omega) (by omega), e2 22 (by omega) (by omega), e2 23 (by omega) (by omega),
    show u' (N + 15 + 1) = u (N + 15 + 1) from e2 16 (by omega) (by omega), show u' (N + 15 + 2) = u (N + 15 + 2) from e2 17 (by omega) (by omega), show u' (N + 15 + 3) = u (N + 15 + 3) from e2 18 (by omega) (by omega), show u' (N + 15 + 4) = u (N + 15 + 4) from e2 19 (by omega) (by omega), show u' (N + 15 + 5) = u (N + 15 + 5) from e2 20 (by omega) (by omega)]
  exact h
theorem tk_row {s : St} (wL : WL s) {i : Nat} (w : WMi s i) : rw8 (s 15 i) (s 3 (s 14 i)) (s 16 i) < 192 := rw8_lt w.2.1 (wL.2 _ w.1).2.2.2.1 w.2.2.1
theorem WK_set {s s' : St} (h : WK s) (e : ∀ c, c < 7 → s' c = s c) {row : Nat}
    (hr : s' 7 row < 1000000000 ∧ (0 < s' 7 row → s' 8 row < 1000000000 ∧ WA s (fun l => s' 9 (row * 12 + l)) (fun d => s' 10 (row * 8 + d)) (row / 8 % 3) (row % 8)))
    (ho : ∀ k, k < 192 → k ≠ row → s' 7 k = s 7 k ∧ s' 8 k = s 8 k ∧ (∀ l, l < 12 → s' 9 (k * 12 + l) = s 9 (k * 12 + l)) ∧ ∀ d, d < 8 → s' 10 (k * 8 + d) = s 10 (k * 8 + d)) : WK s' := by
  intro k hk
  by_cases c : k = row
  · subst c
    exact ⟨hr.1, fun hp => ⟨(hr.2 hp).1, (hr.2 hp).2.congr e⟩⟩
  · obtain ⟨a1, a2, a3, a4⟩ := ho k hk c
    obtain ⟨b1, b2⟩ := h k hk
    rw [a1, a2]
    exact ⟨b1, fun hp => ⟨(b2 hp).1, ((b2 hp).2.ext a3 a4).congr e⟩⟩
theorem tkS_WK {s : St} (wL : WL s) (wK : WK s) {i : Nat} (w : WMi s i) : WK (tkS s i) := by
  have hr := tk_row wL w
  have ha := (wL.2 _ w.1).2.2.2.1
  have e : ∀ c, c < 7 → tkS s i c = s c := fun c hc => tkS_ne (by omega)
  have f1 : rw8 (s 15 i) (s 3 (s 14 i)) (s 16 i) / 8 % 3 = s 3 (s 14 i) := rw8_a ha w.2.2.1
  have f2 : rw8 (s 15 i) (s 3 (s 14 i)) (s 16 i) % 8 = s 16 i := rw8_o w.2.2.1
  unfold tkS at e ⊢
  generalize rw8 (s 15 i) (s 3 (s 14 i)) (s 16 i) = row at *
  obtain ⟨g1, g2, g3, g4, g5, g6, g7⟩ := w
  split
  · refine WK_set wK (by intro c hc; rw [set1_ne (by omega), set1_ne (by omega), setRow_ne (by omega)]) (row := row) ?_ fun k hk hne => ?_
    · rw [set1_ne (by omega), set1_ne (by omega), set1_ne (c' := 8) (by omega), set1_ne (c' := 8) (by omega), set1_ne (c' := 9) (by omega), set1_ne (c' := 9) (by omega), set1_ne (c' := 10) (by omega), set1_ne (c' := 10) (by omega), setRow_7, setRow_8, if_pos rfl, if_pos rfl]
      refine ⟨g5, fun _ => ⟨g6, ?_⟩⟩
      rw [f1, f2]
      refine g7.ext (fun l hl => ?_) (fun d hd => ?_)
      · rw [setRow_9, if_pos (by omega), show (row * 12 + l) % 12 = l by omega]
      · rw [setRow_10, if_pos (by omega), show (row * 8 + d) % 8 = d by omega]
    · rw [set1_ne (by omega), set1_ne (by omega), set1_ne (c' := 8) (by omega), set1_ne (c' := 8) (by omega), set1_ne (c' := 9) (by omega), set1_ne (c' := 9) (by omega), set1_ne (c' := 10) (by omega), set1_ne (c' := 10) (by omega), setRow_7, setRow_8, if_neg hne, if_neg hne]
      exact ⟨rfl, rfl, fun l hl => by rw [setRow_9, if_neg (by omega)], fun d hd => by rw [setRow_10, if_neg (by omega)]⟩
  · split
    · intro k hk
      have := wK k hk
      rw [set1_ne (by omega), set1_ne (c' := 8) (by omega), set1_ne (c' := 9) (by omega), set1_ne (c' := 10) (by omega)]
      exact ⟨this.1, fun hp => ⟨(this.2 hp).1, (this.2 hp).2.congr (fun c hc => set1_ne (by omega))⟩⟩
    · exact wK
theorem p2_lt {l : Nat} (h : l < 12) : 2 ^ l < 4096 := Nat.pow_lt_pow_right (n := 12) (by decide) h
theorem tkS_WF {s : St} (wL : WL s) (wF : WF s) {i : Nat} (w : WMi s i) : WF (tkS s i) := by
  have hl : s 14 i < 12 := Nat.lt_of_lt_of_le w.1 wL.1
  have hp := p2_lt hl
  intro k hk
  have := wF k hk
  unfold tkS
  generalize rw8 (s 15 i) (s 3 (s 14 i)) (s 16 i) = row at *
  split
  · rw [set1_ne (c' := 11) (by omega), set1_at, set1_at, set1_ne (c' := 12) (by omega), setRow_ne (c := 11) (by omega), setRow_ne (c := 12) (by omega)]
    constructor
    · split <;> omega
    · split <;> omega
  · split
    · rw [set1_ne (c' := 11) (by omega), set1_at]
      refine ⟨this.1, ?_⟩
      split
      · rename_i e
        subst e
        exact Nat.or_lt_two_pow (n := 12) this.2 hp
      · exact this.2
    · exact this
theorem row_nI {a b c : Nat} : (nI a * 3 + nI b) * 8 + nI c = nI (rw8 a b c) := by
  rw [show (3 : Int32) = nI 3 from rfl, show (8 : Int32) = nI 8 from rfl, nI_mul, nI_add, nI_mul, nI_add]
  rfl
theorem inNet_of {N j : Nat} (h : j < 36) : inNet N (N + j) := ⟨by omega, by omega⟩
theorem inAd_net {N A : Nat} (h : N ≤ A) (h' : A < N + 31) : ∀ b, inAd A b → inNet N b := fun b hb => ⟨by have := hb.1; omega, by have := hb.2; omega⟩
theorem same.mono {u u' : JM} {A B : Nat → Prop} (h : same u u' A) (hs : ∀ b, A b → B b) : same u u' B := fun b hb => h b fun q => hb (hs b q)
theorem c_X2_take {E : JE} {u : JM} {K : JM → Prop} {N : Nat} (hN : isNet N) {s : St} (hC : CN N s u) (wL : WL s) (wF : WF s) {i : Nat} (hi : i < s 13 0) (h192 : s 13 0 ≤ 192) (w : WMi s i)
    (wK : WK s) (hK : ∀ u', same u u' (inNet N) → CN N (tkS s i) u' → K u') : JCu E 2 YX2_take [.ref N, .int (nI i)] K u := by
  obtain ⟨cL, cK, cM, cF, cT⟩ := hC
  obtain ⟨cR, c14, c15, c16⟩ := cM.2 i hi
  obtain ⟨r1, -⟩ := cR
  have hl : s 14 i < 12 := Nat.lt_of_lt_of_le w.1 wL.1
  have hrow := tk_row wL w
  have h8 := w.2.1
  have h8' := w.2.2.1
  have ha := (wL.2 _ w.1).2.2.2.1
  refine JCu.ofV (ls := [some (.ref N), some (.int (nI i)), none, none]) (by decide +kernel) (Nat.le_of_ble_eq_true rfl) rfl rfl (g_X2_take_0 hN ?_)
  rw [nI_cl (show i < 2147483648 by omega), c14, c15, c16, show u (N + 16) i = nI (s 17 i) from r1]
  refine ⟨vpI (by omega) (by omega), ?_⟩
  intro i2 e2
  subst e2
  rw [nI_cl (show s 14 i < 2147483648 by omega), (cL.2.1 _ w.1).2.2.1]
  refine ⟨vpI hl (by omega), ?_⟩
  intro i3 e3
  rw [row_nI] at e3
  subst e3
  have k7 := (wK _ hrow).1
  have w5 := w.2.2.2.2.1
  have w4 := w.2.2.2.1
  obtain ⟨kr1, kr2, kr3⟩ := cK _ hrow
  obtain ⟨f1, f2⟩ := cF _ hrow
  obtain ⟨q1, q2⟩ := wF _ hrow
  rw [nI_cl (by omega), kr1, f1]
  refine ⟨vpI hrow (by omega), fun c => ?_, fun c => ?_⟩
  · have c' : ¬ s 7 (rw8 (s 15 i) (s 3 (s 14 i)) (s 16 i)) < s 17 i := fun q => nI_ge q (by omega) c
    have e : tkS s i = if s 7 (rw8 (s 15 i) (s 3 (s 14 i)) (s 16 i)) = s 17 i ∧ s 11 (rw8 (s 15 i) (s 3 (s 14 i)) (s 16 i)) = 1 then set1 s 12 (rw8 (s 15 i) (s 3 (s 14 i)) (s 16 i)) (s 12 (rw8 (s 15 i) (s 3 (s 14 i)) (s 16 i)) ||| 2 ^ s 14 i) else s := if_neg c'
    refine ⟨fun c2 => ?_, fun c2 => ⟨fun c3 => ?_, fun c3 => ?_⟩⟩
    · refine hK u same.rfl ?_
      rw [e, if_neg (fun q => c2 (by rw [q.1]))]
      exact ⟨cL, cK, cM, cF, cT⟩
    · refine hK u same.rfl ?_
      rw [e, if_neg (fun q => by rw [q.2] at c3; exact absurd c3 (by decide))]
      exact ⟨cL, cK, cM, cF, cT⟩
    · intro u3 h3
      have e1 : s 7 (rw8 (s 15 i) (s 3 (s 14 i)) (s 16 i)) = s 17 i := nI_inj (by omega) (by omega) c2
      have e2 : s 11 (rw8 (s 15 i) (s 3 (s 14 i)) (s 16 i)) = 1 := by
        rcases (show s 11 (rw8 (s 15 i) (s 3 (s 14 i)) (s 16 i)) = 0 ∨ s 11 (rw8 (s 15 i) (s 3 (s 14 i)) (s 16 i)) = 1 by omega) with q | q
        · rw [q] at c3; exact absurd rfl c3
        · exact q
      rw [f2 e2, nI_bit (by omega)] at h3
      have hs : ∀ b, b ≠ N + 25 → u3 b = u b := fun b hb => by rw [h3, jw_ne hb]
      refine hK u3 (fun b hb => hs b fun q => hb (by rw [q]; exact inNet_of (by omega))) ?_
      rw [e, if_pos ⟨e1, e2⟩]
      generalize rw8 (s 15 i) (s 3 (s 14 i)) (s 16 i) = row at *
      refine ⟨(cL.congr fun j _ _ => hs _ (by omega)).st fun c hc => set1_ne (by omega), ?_, cM.congr (fun c h1 h2 => set1_ne (by omega)) (by rw [hs N (by omega)]) (fun j h1 h2 => hs _ (by omega)), fun k hk => ?_, ?_⟩
      · intro k hk
        have := (cK k hk : KR N s u k)
        refine KR.keep (N := N) (s := s) (u := u) this (by rw [hs _ (by omega)]) (by rw [hs _ (by omega)]) (by rw [hs _ (by omega)]) (fun l hl => by rw [hs _ (by omega)]) (fun l hl => by rw [hs _ (by omega)]) (by rw [set1_ne (by omega)]) (by rw [set1_ne (by omega)]) (fun l hl => by rw [set1_ne (by omega)]) (fun l hl => by rw [set1_ne (by omega)])
      · rw [set1_ne (c' := 11) (by omega), hs (N + 24) (by omega), h3, jw_at, set1_at]
        refine ⟨(cF k hk).1, fun q => ?_⟩
        split
        · rfl
        · exact (cF k hk).2 q
      · rw [set1_ne (c' := 21) (by omega), set1_ne (c' := 22) (by omega), hs N (by omega)]
        exact cT
  · have c' : s 7 (rw8 (s 15 i) (s 3 (s 14 i)) (s 16 i)) < s 17 i := Nat.lt_of_not_le fun q => c (nI_le q (by omega))
    have e : tkS s i = set1 (set1 (setRow s (rw8 (s 15 i) (s 3 (s 14 i)) (s 16 i)) (s 17 i) (s 18 i) (fun l => s 19 (i * 12 + l)) (fun d => s 20 (i * 8 + d))) 11 (rw8 (s 15 i) (s 3 (s 14 i)) (s 16 i)) 1) 12 (rw8 (s 15 i) (s 3 (s 14 i)) (s 16 i)) (2 ^ s 14 i) := if_pos c'
    rw [e] at hK
    generalize rw8 (s 15 i) (s 3 (s 14 i)) (s 16 i) = row at *
    refine c_X0_takeRow (isAdv_k hN) (isAdv_s hN) (by omega) hrow (show i < 192 by omega) fun u4 h4 u5 h5 u6 h6 => ?_
    rw [nI_shl1 (by omega)] at h6
    have hs : ∀ b, b < N + 10 ∨ N + 14 < b → b ≠ N + 24 → b ≠ N + 25 → u6 b = u b := fun b hb h1 h2 => by
      rw [h6, jw_ne h2, h5, jw_ne h1, h4.1 b (fun q => by unfold inAd at q; omega)]
    have hs4 : ∀ b, b ≠ N + 24 → b ≠ N + 25 → u6 b = u4 b := fun b h1 h2 => by rw [h6, jw_ne h2, h5, jw_ne h1]
    refine hK u6 (fun b hb => hs b (by unfold inNet at hb; omega) (by unfold inNet at hb; omega) (by unfold inNet at hb; omega)) ?_
    refine ⟨(cL.congr fun j _ _ => hs _ (by omega) (by omega) (by omega)).st fun c hc => by rw [set1_ne (by omega), set1_ne (by omega), setRow_ne (by omega)], ?_, cM.congr (fun c h1 h2 => by rw [set1_ne (by omega), set1_ne (by omega), setRow_ne (by omega)]) (by rw [hs N (by omega) (by omega) (by omega)]) (fun j h1 h2 => hs _ (by omega) (by omega) (by omega)), fun k hk => ?_, ?_⟩
    · intro k hk
      by_cases ck : k = row
      · subst ck
        have h := (h4.at (by exact (cM.2 i hi).1)).congr (u' := u6) fun b hb => by unfold inAd at hb; exact hs4 b (by omega) (by omega)
        refine KR.of h ?_ w4 ?_ (fun l hl => ?_) (fun d hd => ?_)
        · rw [set1_ne (by omega), set1_ne (by omega), setRow_7, if_pos rfl]
        · rw [set1_ne (by omega), set1_ne (by omega), setRow_8, if_pos rfl]
        · rw [set1_ne (by omega), set1_ne (by omega), setRow_9, if_pos (by omega), show (k * 12 + l) % 12 = l by omega]
        · rw [set1_ne (by omega), set1_ne (by omega), setRow_10, if_pos (by omega), show (k * 8 + d) % 8 = d by omega]
      · obtain ⟨-, t1, t2, t3, t4, t5⟩ := h4
        refine KR.keep (N := N) (s := s) (u := u) (cK k hk) ?_ ?_ ?_ (fun l hl => ?_) (fun d hd => ?_) ?_ ?_ (fun l hl => ?_) (fun d hd => ?_)
        · rw [hs4 _ (by omega) (by omega), show u4 (N + 10) k = _ from t1 k, if_neg ck]
        · rw [hs4 _ (by omega) (by omega), show u4 (N + 11) k = _ from t2 k, if_neg ck]
        · rw [hs4 _ (by omega) (by omega), show u4 (N + 12) k = _ from t3 k, if_neg ck]
        · rw [hs4 _ (by omega) (by omega), show u4 (N + 13) (k * 12 + l) = _ from t4 _, if_neg (by omega)]
        · rw [hs4 _ (by omega) (by omega), show u4 (N + 14) (k * 8 + d) = _ from t5 _, if_neg (by omega)]
        · rw [set1_ne (by omega), set1_ne (by omega), setRow_7, if_neg ck]
        · rw [set1_ne (by omega), set1_ne (by omega), setRow_8, if_neg ck]
        · rw [set1_ne (by omega), set1_ne (by omega), setRow_9, if_neg (by omega)]
        · rw [set1_ne (by omega), set1_ne (by omega), setRow_10, if_neg (by omega)]
    · have g4 : u4 (N + 24) = u (N + 24) := h4.1 _ (fun q => by unfold inAd at q; omega)
      have g5 : u4 (N + 25) = u (N + 25) := h4.1 _ (fun q => by unfold inAd at q; omega)
      rw [set1_ne (c' := 11) (by omega), set1_at, set1_at, set1_ne (c' := 12) (by omega), setRow_ne (c := 11) (by omega), setRow_ne (c := 12) (by omega), h6, jw_ne (a' := N + 24) (by omega), jw_at, h5, jw_at, jw_ne (a' := N + 25) (by omega), g4, g5]
      by_cases ck : k = row
      · rw [if_pos ck, if_pos ck, if_pos ck, if_pos ck]
        exact ⟨rfl, fun _ => rfl⟩
      · rw [if_neg ck, if_neg ck, if_neg ck, if_neg ck]
        exact cF k hk
    · rw [set1_ne (c' := 21) (by omega), set1_ne (c' := 22) (by omega), set1_ne (c' := 21) (by omega), set1_ne (c' := 22) (by omega), setRow_ne (c := 21) (by omega), setRow_ne (c := 22) (by omega), hs N (by omega) (by omega) (by omega)]
      exact cT
