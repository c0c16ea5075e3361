/-! Rows of adverts: taken over, forgotten, compared -/
def inAd (A : Nat) : Nat → Prop := fun b => A + 1 ≤ b ∧ b ≤ A + 5
/-- what one row of adverts holds -/
def RW (A : Nat) (u : JM) (row num age : Nat) (cs ms : Nat → Nat) : Prop :=
  u (A + 1) row = nI num ∧ u (A + 2) row = nI age ∧ u (A + 3) row = nI (bits 12 fun l => decide (0 < cs l)) ∧ (∀ l, l < 12 → u (A + 4) (row * 12 + l) = ccst (cs l)) ∧ ∀ d, d < 8 → u (A + 5) (row * 8 + d) = nI (ms d)
theorem RW.congr {A : Nat} {u u' : JM} {row num age : Nat} {cs ms : Nat → Nat} (h : RW A u row num age cs ms) (e : ∀ b, inAd A b → u' b = u b) : RW A u' row num age cs ms := by
  unfold RW
  rw [e (A + 1) ⟨by omega, by omega⟩, e (A + 2) ⟨by omega, by omega⟩, e (A + 3) ⟨by omega, by omega⟩, e (A + 4) ⟨by omega, by omega⟩, e (A + 5) ⟨by omega, by omega⟩]
  exact h
/-- the memory behind a row that is taken over -/
def TR (u : JM) (A row B other : Nat) (u' : JM) : Prop :=
  same u u' (inAd A) ∧ (∀ k, u' (A + 1) k = if k = row then u (B + 1) other else u (A + 1) k) ∧ (∀ k, u' (A + 2) k = if k = row then u (B + 2) other else u (A + 2) k) ∧ (∀ k, u' (A + 3) k = if k = row then u (B + 3) other else u (A + 3) k)
  ∧ (∀ k, u' (A + 4) k = if k / 12 = row then u (B + 4) (other * 12 + k % 12) else u (A + 4) k) ∧ ∀ k, u' (A + 5) k = if k / 8 = row then u (B + 5) (other * 8 + k % 8) else u (A + 5) k
theorem jcp_ne {u : JM} {a0 sp a dp n b : Nat} (h : b ≠ a) : jcp u a0 sp a dp n b = u b := if_neg h
theorem jcp_at {u : JM} {a0 sp a dp n : Nat} (k : Nat) : jcp u a0 sp a dp n a k = if dp ≤ k ∧ k < dp + n then u a0 (sp + (k - dp)) else u a k := by
  show (if a = a then va_cpy (u a0) (u a) sp dp n else u a) k = _
  rw [if_pos rfl]
  rfl
theorem isAdv_n {A n : Nat} (h : isAdv A n) : n = 192 ∨ n = 1 := by unfold isAdv at h; omega
theorem isAdv_far {A n B m : Nat} (h : isAdv A n) (h' : isAdv B m) (hne : A ≠ B) : A + 6 ≤ B ∨ B + 6 ≤ A := by unfold isAdv at h h'; omega
theorem nI_mul {a b : Nat} : nI a * nI b = nI (a * b) := by
  apply Int32.toBitVec_inj.1
  show BitVec.ofNat 32 a * BitVec.ofNat 32 b = BitVec.ofNat 32 (a * b)
  apply BitVec.eq_of_toNat_eq
  simp
theorem nI_nn {a : Nat} (h : a < 2147483648) : ¬ nI a < 0 := by
  rw [Int32.lt_iff_toInt_lt, nI_toInt h, tI_0]
  omega
theorem c_X0_takeRow {E : JE} {u : JM} {K : JM → Prop} {A n : Nat} (hA : isAdv A n) {B n2 : Nat} (hB : isAdv B n2) (hne : A ≠ B) {row other : Nat} (hr : row < n) (ho : other < n2)
    (hK : ∀ u', TR u A row B other u' → K u') : JCu E 1 YX0_takeRow [.ref A, .int (nI row), .ref B, .int (nI other)] K u := by
  have n1 := isAdv_n hA
  have n2' := isAdv_n hB
  have hf := isAdv_far hA hB hne
  refine JCu.ofV (ls := [some (.ref A), some (.int (nI row)), some (.ref B), some (.int (nI other))]) (by decide +kernel) (Nat.le_of_ble_eq_true rfl) rfl rfl (g_X0_takeRow_0 hA hB ?_)
  rw [show (12 : Int32) = nI 12 from rfl, show (8 : Int32) = nI 8 from rfl, nI_mul, nI_mul, nI_mul, nI_mul, nI_cl (show row < 2147483648 by omega), nI_cl (show other < 2147483648 by omega), nI_cl (show row * 12 < 2147483648 by omega), nI_cl (show other * 12 < 2147483648 by omega), nI_cl (show row * 8 < 2147483648 by omega), nI_cl (show other * 8 < 2147483648 by omega), nI_cl (show 12 < 2147483648 by omega), nI_cl (show 8 < 2147483648 by omega)]
  refine ⟨vpI ho (by omega), vpI hr (by omega), fun u1 h1 u2 h2 u3 h3 => ⟨⟨nI_nn (by omega), nI_nn (by omega), nI_nn (by omega), by omega, by omega⟩, fun u4 h4 => ⟨⟨nI_nn (by omega), nI_nn (by omega), nI_nn (by omega), by omega, by omega⟩, fun u5 h5 => hK u5 ?_⟩⟩⟩
  subst h1
  subst h2
  subst h3
  subst h4
  subst h5
  refine ⟨fun b hb => ?_, fun k => ?_, fun k => ?_, fun k => ?_, fun k => ?_, fun k => ?_⟩
  · unfold inAd at hb
    rw [jcp_ne (by omega), jcp_ne (by omega), jw_ne (by omega), jw_ne (by omega), jw_ne (by omega)]
  · rw [jcp_ne (by omega), jcp_ne (by omega), jw_ne (by omega), jw_ne (by omega), jw_at]
  · rw [jcp_ne (by omega), jcp_ne (by omega), jw_ne (by omega), jw_at, jw_ne (by omega), jw_ne (by omega)]
  · rw [jcp_ne (by omega), jcp_ne (by omega), jw_at, jw_ne (a' := B + 3) (by omega), jw_ne (a' := B + 3) (by omega), jw_ne (a' := A + 3) (by omega), jw_ne (a' := A + 3) (by omega)]
  · rw [jcp_ne (by omega), jcp_at, jw_ne (by omega), jw_ne (by omega), jw_ne (by omega), jw_ne (by omega), jw_ne (by omega), jw_ne (by omega)]
    by_cases c : k / 12 = row
    · rw [if_pos (by omega), if_pos c]
      congr 1
      omega
    · rw [if_neg (by omega), if_neg c]
  · rw [jcp_at, jcp_ne (by omega), jcp_ne (by omega), jw_ne (by omega), jw_ne (by omega), jw_ne (by omega), jw_ne (by omega), jw_ne (by omega), jw_ne (by omega)]
    by_cases c : k / 8 = row
    · rw [if_pos (by omega), if_pos c]
      congr 1
      omega
    · rw [if_neg (by omega), if_neg c]
/-- the row taken -/
theorem TR.at {u u' : JM} {A row B other num age : Nat} {cs ms : Nat → Nat} (h : TR u A row B other u') (hB : RW B u other num age cs ms) : RW A u' row num age cs ms := by
  obtain ⟨-, t1, t2, t3, t4, t5⟩ := h
  obtain ⟨r1, r2, r3, r4, r5⟩ := hB
  refine ⟨by rw [t1, if_pos rfl, r1], by rw [t2, if_pos rfl, r2], by rw [t3, if_pos rfl, r3], fun l hl => ?_, fun d hd => ?_⟩
  · rw [t4, if_pos (by omega), show (row * 12 + l) % 12 = l by omega, r4 l hl]
  · rw [t5, if_pos (by omega), show (row * 8 + d) % 8 = d by omega, r5 d hd]
/-- another row -/
theorem TR.other {u u' : JM} {A row B other row' num age : Nat} {cs ms : Nat → Nat} (h : TR u A row B other u') (hne : row' ≠ row) (hA : RW A u row' num age cs ms) : RW A u' row' num age cs ms := by
  obtain ⟨-, t1, t2, t3, t4, t5⟩ := h
  obtain ⟨r1, r2, r3, r4, r5⟩ := hA
  refine ⟨by rw [t1, if_neg hne, r1], by rw [t2, if_neg hne, r2], by rw [t3, if_neg hne, r3], fun l hl => ?_, fun d hd => ?_⟩
  · rw [t4, if_neg (by omega), r4 l hl]
  · rw [t5, if_neg (by omega), r5 d hd]
theorem c_X0_forget {E : JE} {u : JM} {K : JM → Prop} {A n : Nat} (hA : isAdv A n) {row : Nat} (hr : row < n)
    (hK : ∀ u', same u u' (fun b => b = A + 1 ∨ b = A + 3) → (∀ k, u' (A + 1) k = if k = row then 0 else u (A + 1) k) → (∀ k, u' (A + 3) k = if k = row then 0 else u (A + 3) k) → K u') : JCu E 1 YX0_forget [.ref A, .int (nI row)] K u := by
  have n1 := isAdv_n hA
  refine JCu.ofV (ls := [some (.ref A), some (.int (nI row))]) (by decide +kernel) (Nat.le_of_ble_eq_true rfl) rfl rfl (g_X0_forget_0 hA ?_)
  rw [nI_cl (by omega)]
  refine ⟨vpI hr (by omega), fun u1 h1 u2 h2 => hK u2 ?_ (fun k => ?_) (fun k => ?_)⟩
  · rw [h2, h1]
    exact (same.rfl.jw (Or.inl rfl)).jw (Or.inr rfl)
  · rw [h2, jw_ne (by omega), h1, jw_at]
  · rw [h2, jw_at, h1, jw_ne (by omega)]
theorem ccst_inj {a b : Nat} (ha : a ≤ 99) (hb : b ≤ 99) (h : ccst a = ccst b) : a = b := by
  unfold ccst at h
  by_cases ca : a = 0
  · by_cases cb : b = 0
    · omega
    · rw [if_pos ca, if_neg cb] at h
      exact absurd h.symm (m1_ne (by omega))
  · by_cases cb : b = 0
    · rw [if_neg ca, if_pos cb] at h
      exact absurd h (m1_ne (by omega))
    · rw [if_neg ca, if_neg cb] at h
      exact nI_inj (by omega) (by omega) h
/-- two rows tell the same -/
def tellsB (cs ms cs' ms' : Nat → Nat) : Bool := (List.range 12).all (fun l => decide (cs l = cs' l)) && (List.range 8).all (fun d => decide (ms d = ms' d))
theorem tellsB_iff {cs ms cs' ms' : Nat → Nat} : tellsB cs ms cs' ms' = true ↔ (∀ l, l < 12 → cs l = cs' l) ∧ ∀ d, d < 8 → ms d = ms' d := by
  unfold tellsB
  rw [Bool.and_eq_true, List.all_eq_true, List.all_eq_true]
  simp
theorem c_X0_tellsAs {E : JE} {u : JM} {K : Int32 → JM → Prop} {A n : Nat} (hA : isAdv A n) {B n2 : Nat} (hB : isAdv B n2) {row other : Nat} (hr : row < n) (ho : other < n2) {n1 a1 n2' a2 : Nat} {cs ms cs' ms' : Nat → Nat}
    (rA : RW A u row n1 a1 cs ms) (rB : RW B u other n2' a2 cs' ms') (b1 : ∀ l, l < 12 → cs l ≤ 99) (b2 : ∀ l, l < 12 → cs' l ≤ 99) (b3 : ∀ d, d < 8 → ms d ≤ 9999) (b4 : ∀ d, d < 8 → ms' d ≤ 9999)
    (hK : K (jb (tellsB cs ms cs' ms' = true)) u) : JCi E 1 YX0_tellsAs [.ref A, .int (nI row), .ref B, .int (nI other)] K u := by
  have m1 := isAdv_n hA
  have m2 := isAdv_n hB
  obtain ⟨-, -, p3, p4, p5⟩ := rA
  obtain ⟨-, -, q3, q4, q5⟩ := rB
  have hno : ∀ {P : Prop}, P → (tellsB cs ms cs' ms' = true → ¬ P) → K 0 u := by
    intro P p hp
    rw [jb_f (fun q => hp q p)] at hK
    exact hK
  refine JCi.ofV (ls := [some (.ref A), some (.int (nI row)), some (.ref B), some (.int (nI other)), none]) (by decide +kernel) (Nat.le_of_ble_eq_true rfl) rfl rfl (g_X0_tellsAs_0 hA hB ?_)
  rw [nI_cl (show row < 2147483648 by omega), nI_cl (show other < 2147483648 by omega), p3, q3]
  refine ⟨vpI hr (by omega), vpI ho (by omega), fun _ => ?_, fun c => hno c fun t => ?_⟩
  · have h2 : ∀ (m k : Nat), m + k = 8 → (∀ l, l < 12 → cs l = cs' l) → (∀ d, d < k → ms d = ms' d) → JVi E 1 YX0_tellsAs K 65 [some (.ref A), some (.int (nI row)), some (.ref B), some (.int (nI other)), some (.int (nI k))] [] u := by
      intro m
      induction m with
      | zero =>
        intro k hm t1 t2
        obtain rfl : k = 8 := by omega
        refine g_X0_tellsAs_65 hA hB ⟨fun _ => ?_, fun c => absurd (show (8 : Int32) ≤ nI 8 by decide) c⟩
        rw [jb_t (tellsB_iff.mpr ⟨t1, t2⟩)] at hK
        exact hK
      | succ m ih =>
        intro k hm t1 t2
        refine g_X0_tellsAs_65 hA hB ⟨fun c => absurd c (nI_ge (a := k) (b := 8) (by omega) (by omega)), fun _ => ?_⟩
        rw [show (8 : Int32) = nI 8 from rfl, nI_mul, nI_mul, nI_add, nI_add, nI_1, nI_cl (by omega), nI_cl (by omega), p5 k (by omega), q5 k (by omega)]
        refine ⟨vpI (by omega) (by omega), vpI (by omega) (by omega), fun c => ?_, fun c => ?_⟩
        · have e := nI_inj (by have := b3 k (by omega); omega) (by have := b4 k (by omega); omega) c
          exact ih (k + 1) (by omega) t1 fun d hd => by
            rcases Nat.lt_or_ge d k with q | q
            · exact t2 d q
            · obtain rfl : d = k := by omega
              exact e
        · exact hno c fun t => fun c => c (by rw [(tellsB_iff.mp t).2 k (by omega)])
    have h1 : ∀ (m k : Nat), m + k = 12 → (∀ l, l < k → cs l = cs' l) → JVi E 1 YX0_tellsAs K 20 [some (.ref A), some (.int (nI row)), some (.ref B), some (.int (nI other)), some (.int (nI k))] [] u := by
      intro m
      induction m with
      | zero =>
        intro k hm t1
        obtain rfl : k = 12 := by omega
        exact g_X0_tellsAs_20 hA hB ⟨fun _ => h2 8 0 (by omega) t1 (fun d hd => absurd hd (Nat.not_lt_zero d)), fun c => absurd (show (12 : Int32) ≤ nI 12 by decide) c⟩
      | succ m ih =>
        intro k hm t1
        refine g_X0_tellsAs_20 hA hB ⟨fun c => absurd c (nI_ge (a := k) (b := 12) (by omega) (by omega)), fun _ => ?_⟩
        rw [show (12 : Int32) = nI 12 from rfl, nI_mul, nI_mul, nI_add, nI_add, nI_1, nI_cl (by omega), nI_cl (by omega), p4 k (by omega), q4 k (by omega)]
        refine ⟨vpI (by omega) (by omega), vpI (by omega) (by omega), fun c => ?_, fun c => ?_⟩
        · have e := ccst_inj (b1 k (by omega)) (b2 k (by omega)) c
          exact ih (k + 1) (by omega) fun d hd => by
            rcases Nat.lt_or_ge d k with q | q
            · exact t1 d q
            · obtain rfl : d = k := by omega
              exact e
        · exact hno c fun t => fun c => c (by rw [(tellsB_iff.mp t).1 k (by omega)])
    exact h1 12 0 (by omega) (fun d hd => absurd hd (Nat.not_lt_zero d))
  · intro c
    apply c
    rw [bits_ext fun l hl => by rw [(tellsB_iff.mp t).1 l hl]]
