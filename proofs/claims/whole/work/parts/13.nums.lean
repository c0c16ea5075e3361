/-! numbers: nI under bits, the abstract state, bit sets -/
theorem fa_and (a b : Nat) : nI a &&& nI b = nI (a &&& b) := by
  apply Int32.toBitVec_inj.1
  show BitVec.ofNat 32 a &&& BitVec.ofNat 32 b = BitVec.ofNat 32 (a &&& b)
  apply BitVec.eq_of_getLsbD_eq
  intro i hi
  simp [hi]
theorem fa_or (a b : Nat) : nI a ||| nI b = nI (a ||| b) := by
  apply Int32.toBitVec_inj.1
  show BitVec.ofNat 32 a ||| BitVec.ofNat 32 b = BitVec.ofNat 32 (a ||| b)
  apply BitVec.eq_of_getLsbD_eq
  intro i hi
  simp [hi]
theorem s_l : ∀ n, n < 32 → ((nI n &&& 31).toBitVec.smod 32).toNat = n := by decide +kernel
theorem nI_shl1 {b : Nat} (hb : b < 31) : (1 : Int32) <<< (nI b &&& 31) = nI (2 ^ b) := by
  have h := pk_shlN (n := 1) (nI b &&& 31) b (s_l b (by omega)) (by rw [Nat.one_mul]; exact Nat.pow_lt_pow_right (by decide) (by omega))
  rw [Nat.one_mul] at h
  exact h
theorem nI_bit {m b : Nat} (hb : b < 31) : nI m ||| ((1 : Int32) <<< (nI b &&& 31)) = nI (m ||| 2 ^ b) := by
  rw [nI_shl1 hb, fa_or]
theorem nI_shr {m b : Nat} (hm : m < 2 ^ 31) (hb : b < 31) : nI m >>> (nI b &&& 31) = nI (m / 2 ^ b) := pk_shrN hm _ b (s_l b (by omega))
theorem nI_tst {m b : Nat} (hm : m < 2 ^ 31) (hb : b < 31) : ((nI m >>> (nI b &&& 31)) &&& 1 = 0) ↔ m.testBit b = false := by
  rw [nI_shr hm hb, show (1 : Int32) = nI 1 from rfl, fa_and, show (0 : Int32) = nI 0 from rfl, Nat.and_one_is_mod, nI_eq (by omega) (by decide), Nat.testBit_eq_decide_div_mod_eq]
  simp
theorem nI_inj {a b : Nat} (ha : a < 2 ^ 31) (hb : b < 2 ^ 31) (h : nI a = nI b) : a = b := (nI_eq ha hb).mp h
theorem nI_toI {n : Nat} (h : n < 2147483648) : (nI n).toInt = (n : Int) := nI_toInt h
theorem nI_cl {n : Nat} (h : n < 2147483648) : (nI n).toNatClampNeg = n := nI_clamp h
theorem vpI {n N : Nat} (h : n < N) (hN : N < 2147483648) : vp_in (nI n) N := vp_in_nI h hN
theorem rg_nI {a : Int32} {hi : Nat} (hh : hi < 2147483647) (h : rg a 0 hi) : ∃ k, k ≤ hi ∧ a = nI k := by
  obtain ⟨j, hj, rfl⟩ := nI_of (x := a) (by rw [Int32.lt_iff_toInt_lt, tI_0]; omega)
  have := h.2
  rw [nI_toInt hj] at this
  exact ⟨j, by omega, rfl⟩
theorem nI_sub1 {n : Nat} (h : 0 < n) : nI n - 1 = nI (n - 1) := by
  obtain ⟨m, rfl⟩ : ∃ m, n = m + 1 := ⟨n - 1, by omega⟩
  exact nI_pred m
/-- the abstract state. 0 links (at 0), 1 one, 2 two, 3 area, 4 from, 5 back, 6 up; of advert row (router * 3 + area) * 8 + of: 7 number, 8 age, 9 costs told (row * 12 + link; 0: not told), 10 sums (row * 8 + d), 11 fresh, 12 come by (bits); 13 waiting (at 0), of message i: 14 over, 15 to, 16 of, 17 number, 18 age, 19 costs, 20 sums; 21 ticks, 22 messages -/
abbrev St : Type := Nat → Nat → Nat
/-- a set of bits below n -/
def bits : Nat → (Nat → Bool) → Nat
  | 0, _ => 0
  | n + 1, p => if p n then bits n p ||| 2 ^ n else bits n p
theorem bits_lt (n : Nat) (p : Nat → Bool) : bits n p < 2 ^ n := by
  induction n with
  | zero => show 0 < 2 ^ 0; decide
  | succ n ih =>
    unfold bits
    have h2 : 2 ^ n < 2 ^ (n + 1) := by rw [Nat.pow_succ]; have := Nat.two_pow_pos n; omega
    split
    · exact Nat.or_lt_two_pow (Nat.lt_trans ih h2) h2
    · exact Nat.lt_trans ih h2
theorem bits_test (p : Nat → Bool) : ∀ n i, (bits n p).testBit i = (decide (i < n) && p i)
  | 0, i => by simp [bits]
  | n + 1, i => by
    have ih := bits_test p n i
    unfold bits
    by_cases e : i = n
    · subst e
      split
      · rename_i hp
        rw [Nat.testBit_or, ih, Nat.testBit_two_pow]
        simp [hp]
      · rename_i hp
        rw [ih]
        simp [hp]
    · have h1 : decide (i < n + 1) = decide (i < n) := by
        have : (i < n + 1) ↔ (i < n) := by omega
        simp [this]
      rw [h1]
      split
      · rw [Nat.testBit_or, ih, Nat.testBit_two_pow]
        simp [Ne.symm e]
      · exact ih
theorem bits_eq {m n : Nat} {p : Nat → Bool} (h : ∀ i, m.testBit i = (decide (i < n) && p i)) : m = bits n p := by
  apply Nat.eq_of_testBit_eq
  intro i
  rw [h, bits_test]
theorem bits_ext {n : Nat} {p q : Nat → Bool} (h : ∀ i, i < n → p i = q i) : bits n p = bits n q := by
  apply bits_eq
  intro i
  rw [bits_test]
  by_cases hi : i < n
  · rw [h i hi]
  · simp [hi]
theorem bits_0 {n : Nat} {p : Nat → Bool} : bits n p = 0 ↔ ∀ i, i < n → p i = false := by
  constructor
  · intro h i hi
    have := bits_test p n i
    rw [h] at this
    simpa [hi] using this.symm
  · intro h
    rw [show (0 : Nat) = bits n (fun _ => false) from bits_eq (fun i => by simp)]
    exact bits_ext h
