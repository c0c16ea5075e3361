/-! what the class's cells hold: the links of a net, what its routers know -/
def rw8 (r a o : Nat) : Nat := (r * 3 + a) * 8 + o
theorem rw8_lt {r a o : Nat} (hr : r < 8) (ha : a < 3) (ho : o < 8) : rw8 r a o < 192 := by unfold rw8; omega
theorem rw8_o {r a o : Nat} (ho : o < 8) : rw8 r a o % 8 = o := by unfold rw8; omega
theorem rw8_a {r a o : Nat} (ha : a < 3) (ho : o < 8) : rw8 r a o / 8 % 3 = a := by unfold rw8; omega
theorem rw8_r {r a o : Nat} (ha : a < 3) (ho : o < 8) : rw8 r a o / 24 = r := by unfold rw8; omega
theorem rw8_inj {r a o r' a' o' : Nat} (ha : a < 3) (ho : o < 8) (ha' : a' < 3) (ho' : o' < 8) (h : rw8 r a o = rw8 r' a' o') : r = r' ∧ a = a' ∧ o = o' := by unfold rw8 at h; omega
def ccst (c : Nat) : Int32 := if c = 0 then -1 else nI c
def lks (s : St) (row : Nat) : Nat := if s 7 row = 0 then 0 else bits 12 (fun l => decide (0 < s 9 (row * 12 + l)))
def hpI (h : Nat) : Int32 := if h < 8 then nI h else -1
theorem lks_lt (s : St) (row : Nat) : lks s row < 4096 := by
  unfold lks; split
  · decide
  · exact bits_lt 12 _
theorem lks_test {s : St} {row l : Nat} (hl : l < 12) : (lks s row).testBit l = decide (s 7 row ≠ 0 ∧ 0 < s 9 (row * 12 + l)) := by
  unfold lks
  by_cases h : s 7 row = 0
  · simp [h]
  · rw [if_neg h, bits_test]
    simp [hl, h]
def CL (N : Nat) (s : St) (u : JM) : Prop :=
  u (N + 1) 0 = nI (s 0 0) ∧ (∀ l, l < s 0 0 → u (N + 2) l = nI (s 1 l) ∧ u (N + 3) l = nI (s 2 l) ∧ u (N + 4) l = nI (s 3 l) ∧ u (N + 5) l = nI (s 4 l) ∧ u (N + 6) l = nI (s 5 l) ∧ u (N + 7) l = nI (s 6 l)) ∧ ∀ l, l < 12 → u (N + 7) l = 0 ∨ u (N + 7) l = 1
def WL (s : St) : Prop := s 0 0 ≤ 12 ∧ ∀ l, l < s 0 0 → s 1 l < 8 ∧ s 2 l < 8 ∧ s 1 l ≠ s 2 l ∧ s 3 l < 3 ∧ (1 ≤ s 4 l ∧ s 4 l ≤ 99) ∧ (1 ≤ s 5 l ∧ s 5 l ≤ 99) ∧ s 6 l ≤ 1
def CK (N : Nat) (s : St) (u : JM) : Prop :=
  ∀ row, row < 192 → u (N + 10) row = nI (s 7 row) ∧ u (N + 12) row = nI (lks s row) ∧ (0 < s 7 row → u (N + 11) row = nI (s 8 row) ∧ (∀ l, l < 12 → u (N + 13) (row * 12 + l) = ccst (s 9 (row * 12 + l))) ∧ ∀ d, d < 8 → u (N + 14) (row * 8 + d) = nI (s 10 (row * 8 + d)))
/-- an advert's costs and sums, told by router o for area a -/
def WA (s : St) (c : Nat → Nat) (m : Nat → Nat) (a o : Nat) : Prop :=
  (∀ l, l < 12 → c l ≤ 99 ∧ (0 < c l → l < s 0 0 ∧ s 3 l = a ∧ (s 1 l = o ∨ s 2 l = o))) ∧ ∀ d, d < 8 → m d ≤ 9999
def WK (s : St) : Prop := ∀ row, row < 192 → s 7 row < 1000000000 ∧ (0 < s 7 row → s 8 row < 1000000000 ∧ WA s (fun l => s 9 (row * 12 + l)) (fun d => s 10 (row * 8 + d)) (row / 8 % 3) (row % 8))
theorem CL.congr {N : Nat} {s : St} {u u' : JM} (h : CL N s u) (e : ∀ j, 1 ≤ j → j ≤ 7 → u' (N + j) = u (N + j)) : CL N s u' := by
  unfold CL
  rw [e 1 (by omega) (by omega), e 2 (by omega) (by omega), e 3 (by omega) (by omega), e 4 (by omega) (by omega), e 5 (by omega) (by omega), e 6 (by omega) (by omega), e 7 (by omega) (by omega)]
  exact h
theorem CK.congr {N : Nat} {s : St} {u u' : JM} (h : CK N s u) (e : ∀ j, 10 ≤ j → j ≤ 14 → u' (N + j) = u (N + j)) : CK N s u' := by
  unfold CK
  rw [e 10 (by omega) (by omega), e 11 (by omega) (by omega), e 12 (by omega) (by omega), e 13 (by omega) (by omega), e 14 (by omega) (by omega)]
  exact h
/-- what router r knows of o's cost over link l, within area a; 0: it isn't told -/
def tl (s : St) (r a o l : Nat) : Nat := if s 7 (rw8 r a o) = 0 then 0 else s 9 (rw8 r a o * 12 + l)
def oth (s : St) (l x : Nat) : Nat := if s 1 l = x then s 2 l else s 1 l
def isE (s : St) (l x : Nat) : Prop := s 1 l = x ∨ s 2 l = x
/-- the edge over a link from x -/
def El (s : St) (r a l : Nat) (x y w : Nat) : Prop := x < 8 ∧ y < 8 ∧ l < s 0 0 ∧ ((s 1 l = x ∧ s 2 l = y) ∨ (s 2 l = x ∧ s 1 l = y)) ∧ 0 < tl s r a y l ∧ 0 < w ∧ w = tl s r a x l
def Ew (s : St) (r a : Nat) : Eg := fun x y w => ∃ l, El s r a l x y w
theorem tl_le {s : St} (hW : WK s) {r a o l : Nat} (hr : r < 8) (ha : a < 3) (ho : o < 8) (hl : l < 12) : tl s r a o l ≤ 99 := by
  unfold tl; split
  · omega
  · rename_i h
    exact (((hW _ (rw8_lt hr ha ho)).2 (by omega)).2.1 l hl).1
theorem tl_end {s : St} (hW : WK s) {r a o l : Nat} (hr : r < 8) (ha : a < 3) (ho : o < 8) (hl : l < 12) (h : 0 < tl s r a o l) : l < s 0 0 ∧ s 3 l = a ∧ isE s l o := by
  unfold tl at h; split at h
  · omega
  · rename_i h7
    have := (((hW _ (rw8_lt hr ha ho)).2 (by omega)).2.1 l hl).2 h
    rw [rw8_a ha ho, rw8_o ho] at this
    exact this
theorem Ew_ok {s : St} (hL : WL s) (hW : WK s) {r a : Nat} (hr : r < 8) (ha : a < 3) : EgOk (Ew s r a) := by
  rintro x y w ⟨l, hx, hy, hl, -, -, hw, e⟩
  have h12 := hL.1
  exact ⟨hx, hy, hw, by rw [e]; exact tl_le hW hr ha hx (by omega)⟩
/-- the ways' rows: distances, hops, who is done -/
def PT (P : Nat) (f h : Nat → Nat) (u : JM) : Prop := ∀ y, y < 8 → u (P + 1) y = nI (f y) ∧ u (P + 2) y = hpI (h y)
def PD (P : Nat) (dn : Nat → Bool) (u : JM) : Prop := ∀ y, y < 8 → u (P + 3) y = jb (dn y = true)
/-- nothing but these rows has changed -/
def same (u u' : JM) (A : Nat → Prop) : Prop := ∀ b, ¬ A b → u' b = u b
theorem same.rfl {u : JM} {A : Nat → Prop} : same u u A := fun _ _ => Eq.refl _
theorem same.trans {u v w : JM} {A : Nat → Prop} (h : same u v A) (k : same v w A) : same u w A := fun b hb => (k b hb).trans (h b hb)
theorem same.jw {u v : JM} {A : Nat → Prop} (h : same u v A) {a k : Nat} {x : Int32} (ha : A a) : same u (jw v a k x) A := fun b hb => by
  rw [jw_ne (fun e => hb (by rw [e]; exact ha))]
  exact h b hb
theorem jw_at {u : JM} {a k : Nat} {x : Int32} (j : Nat) : jw u a k x a j = if j = k then x else u a j := by rw [jw_eq]; rfl
def inP (P : Nat) : Nat → Prop := fun b => b = P + 1 ∨ b = P + 2 ∨ b = P + 3
theorem inP_N {P N j : Nat} (hP : isPaths P) (hN : isNet N) (hj : j ≤ 32) : ¬ inP P (N + j) := by
  unfold isPaths at hP; unfold isNet at hN; unfold inP; omega
