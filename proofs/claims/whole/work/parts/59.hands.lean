/-! the reference: handing on -/
theorem same.sR {A : Nat → Prop} {u u' : JM} (h : same u u' A) (hA : ¬ A 137) : sR A u u' := ⟨fun b _ hb => h b hb, fun f _ => by rw [h 137 hA]⟩
theorem nI_tst1 {m b : Nat} (hm : m < 2 ^ 31) (hb : b < 31) : ((nI m >>> (nI b &&& 31)) &&& 1 = 1) ↔ m.testBit b = true := by
  rw [nI_shr hm hb, show (1 : Int32) = nI 1 from rfl, fa_and, Nat.and_one_is_mod, nI_eq (by omega) (by decide), Nat.testBit_eq_decide_div_mod_eq]
  simp
/-- the ends that a walk over links, both ends each, has behind it -/
def Pk (s : St) (k e l x : Nat) : Prop := isE s l x ∧ (l < k ∨ (l = k ∧ ((1 ≤ e ∧ x = s 1 l) ∨ (2 ≤ e ∧ x = s 2 l))))
def hx (s : St) (k e : Nat) : Nat := if e = 0 then s 1 k else s 2 k
theorem Pk_s {s : St} {k e l x : Nat} (he : e < 2) (h : Pk s k (e + 1) l x) : Pk s k e l x ∨ (l = k ∧ x = hx s k e) := by
  obtain ⟨h1, h2⟩ := h
  unfold hx Pk
  rcases h2 with g | ⟨g1, ⟨g2, g3⟩ | ⟨g2, g3⟩⟩
  · exact Or.inl ⟨h1, Or.inl g⟩
  · rcases (show e = 0 ∨ e = 1 by omega) with e0 | e0
    · rw [if_pos e0]; exact Or.inr ⟨g1, by rw [g3, g1]⟩
    · exact Or.inl ⟨h1, Or.inr ⟨g1, Or.inl ⟨by omega, g3⟩⟩⟩
  · rw [if_neg (by omega)]; exact Or.inr ⟨g1, by rw [g3, g1]⟩
theorem Pk_n {s : St} {k l x : Nat} (h : Pk s (k + 1) 0 l x) : Pk s k 2 l x := by
  obtain ⟨h1, h2⟩ := h
  refine ⟨h1, ?_⟩
  rcases h2 with g | ⟨g1, ⟨g2, g3⟩ | ⟨g2, g3⟩⟩
  · by_cases e : l = k
    · refine Or.inr ⟨e, ?_⟩
      rcases h1 with q | q
      · exact Or.inl ⟨by omega, q.symm⟩
      · exact Or.inr ⟨by omega, q.symm⟩
    · exact Or.inl (by omega)
  · omega
  · omega
theorem hx_isE (s : St) (k e : Nat) : isE s k (hx s k e) := by
  unfold hx; split
  · exact Or.inl rfl
  · exact Or.inr rfl
theorem hx_lt {s : St} (w : WL s) {k e : Nat} (hk : k < s 0 0) : hx s k e < 8 := by
  obtain ⟨w1, w2, -⟩ := w.2 k hk
  unfold hx; split <;> assumption
theorem hxR {s : St} {u : JM} (h : QL s u) {k e : Nat} (hk : k < s 0 0) (he : e < 2) : (if nI e = 0 then u 138 k else u 139 k) = nI (hx s k e) := by
  obtain ⟨l1, l2, -⟩ := h.2 k hk
  unfold hx
  rcases (show e = 0 ∨ e = 1 by omega) with g | g
  · rw [if_pos (by rw [g]; rfl), if_pos g, l1]
  · rw [if_neg (by rw [g]; decide), if_neg (by omega), l2]
theorem tb_or {b y z : Nat} : (b ||| 2 ^ y).testBit z = true ↔ b.testBit z = true ∨ z = y := by
  rw [Nat.testBit_or, Nat.testBit_two_pow, Bool.or_eq_true, decide_eq_true_iff]
  constructor
  · rintro (g | g)
    · exact Or.inl g
    · exact Or.inr g.symm
  · rintro (g | g)
    · exact Or.inl g
    · exact Or.inr g.symm
/-- the set within a pass -/
def hdN (s : St) (r a : Nat) (D : Nat → Nat) (b l x : Nat) : Nat := if b.testBit x = true ∧ 0 < egN s r a l x ∧ D x + egN s r a l x = D (oth s l x) then b ||| 2 ^ oth s l x else b
/-- it grows from b0, holds the first and who is behind it; where it hasn't grown, what is passed is closed -/
def HI (s : St) (r a f : Nat) (D : Nat → Nat) (b0 b : Nat) (P : Nat → Nat → Prop) : Prop :=
  b < 256 ∧ b.testBit f = true ∧ (∀ z, b.testBit z = true → Rch (Ew s r a) D f z) ∧ (∀ z, b0.testBit z = true → b.testBit z = true) ∧
    (b = b0 → ∀ l x, P l x → l < s 0 0 → b0.testBit x = true → 0 < egN s r a l x → D x + egN s r a l x = D (oth s l x) → b0.testBit (oth s l x) = true)
theorem HI.step {s : St} {r a f b0 b l x : Nat} {D : Nat → Nat} {P P' : Nat → Nat → Prop} (wL : WL s) (h : HI s r a f D b0 b P) (hl : l < s 0 0) (hx : isE s l x) (hP : ∀ l' x', P' l' x' → P l' x' ∨ (l' = l ∧ x' = x)) : HI s r a f D b0 (hdN s r a D b l x) P' := by
  obtain ⟨h1, h2, h3, h4, h5⟩ := h
  have ho := oth_lt wL hl x
  unfold hdN
  by_cases c : b.testBit x = true ∧ 0 < egN s r a l x ∧ D x + egN s r a l x = D (oth s l x)
  · rw [if_pos c]
    refine ⟨Nat.or_lt_two_pow (n := 8) h1 (Nat.pow_lt_pow_right (by decide) ho), tb_or.mpr (Or.inl h2), fun z hz => ?_, fun z hz => tb_or.mpr (Or.inl (h4 z hz)), fun e l' x' p' hl' c1 c2 c3 => ?_⟩
    · rcases tb_or.mp hz with g | g
      · exact h3 z g
      · rw [g]
        exact (h3 x c.1).step ⟨_, ⟨l, egN_El wL hl hx c.2.1⟩, c.2.2⟩
    · have e0 : b = b0 := by
        apply Nat.eq_of_testBit_eq
        intro z
        have g1 := h4 z
        have g2 : b.testBit z = true → b0.testBit z = true := fun g => by rw [← e]; exact tb_or.mpr (Or.inl g)
        cases g3 : b.testBit z <;> cases g4 : b0.testBit z <;> simp_all
      rcases hP l' x' p' with g | ⟨g1, g2⟩
      · exact h5 e0 l' x' g hl' c1 c2 c3
      · rw [← e, g1, g2]; exact tb_or.mpr (Or.inr rfl)
  · rw [if_neg c]
    refine ⟨h1, h2, h3, h4, fun e l' x' p' hl' c1 c2 c3 => ?_⟩
    rcases hP l' x' p' with g | ⟨g1, g2⟩
    · exact h5 e l' x' g hl' c1 c2 c3
    · rw [g1, g2] at c2 c3
      rw [g2, ← e] at c1
      exact absurd ⟨c1, c2, c3⟩ c
theorem HI.mono {s : St} {r a f b0 b : Nat} {D : Nat → Nat} {P P' : Nat → Nat → Prop} (h : HI s r a f D b0 b P) (hP : ∀ l' x', P' l' x' → P l' x') : HI s r a f D b0 b P' :=
  ⟨h.1, h.2.1, h.2.2.1, h.2.2.2.1, fun e l x p => h.2.2.2.2 e l x (hP l x p)⟩
/-- closed: just who is behind -/
theorem HI.all {s : St} {r a f b : Nat} {D : Nat → Nat} (wL : WL s) (h : HI s r a f D b b (Pk s (s 0 0) 0)) (z : Nat) : b.testBit z = true ↔ Rch (Ew s r a) D f z := by
  refine ⟨h.2.2.1 z, fun g => g (fun z => b.testBit z = true) h.2.1 fun x z hx t => ?_⟩
  obtain ⟨w, ⟨l, t1⟩, t2⟩ := t
  obtain ⟨e1, e2, e3⟩ := El_egN wL t1
  rw [e2]
  rw [e2, e3] at t2
  exact h.2.2.2.2 rfl l x ⟨e1, Or.inl t1.2.2.1⟩ t1.2.2.1 hx (by rw [← e3]; exact t1.2.2.2.2.2.1) t2
theorem cnt_grow {b b' : Nat} (h8 : b' < 256) (hs : ∀ z, b.testBit z = true → b'.testBit z = true) (hne : b' ≠ b) : cntP 8 (fun z => b.testBit z) < cntP 8 (fun z => b'.testBit z) := by
  have hb8 : ∀ z, 8 ≤ z → b'.testBit z = false := fun z hz => Nat.testBit_lt_two_pow (Nat.lt_of_lt_of_le h8 (show 2 ^ 8 ≤ 2 ^ z from Nat.pow_le_pow_right (show 0 < 2 by decide) hz))
  obtain ⟨z, z1, z2⟩ : ∃ z, b'.testBit z = true ∧ b.testBit z = false := Classical.byContradiction fun q => hne (Nat.eq_of_testBit_eq fun z => by
    cases g : b.testBit z with
    | true => exact hs z g
    | false => cases g' : b'.testBit z with
      | true => exact absurd ⟨z, g', g⟩ q
      | false => rfl)
  have z8 : z < 8 := Nat.lt_of_not_le fun q => by rw [hb8 z q] at z1; exact absurd z1 (by decide)
  exact cntP_lt (fun i _ h => hs i h) z8 z2 z1
theorem c_X8_handsOn {E : JE} {u0 : JM} {K : JM → Prop} {s : St} (hL : QL s u0) (hK : QK s u0) (wL : WL s) (wK : WK s) {r a f : Nat} (hr : r < 8) (ha : a < 3) (hf : f < 8) {h : Nat → Nat} (hD : QD (dD (Ew s r a) r) u0) (hH : QH h u0) (hn : Nx (Ew s r a) r (dD (Ew s r a) r) f)
    (k : ∀ u h', same u0 u (· = 1342) → QH h' u → (∀ y, y < 8 → (Rch (Ew s r a) (dD (Ew s r a) r) f y ∧ y ≠ r → h' y = f) ∧ (¬ (Rch (Ew s r a) (dD (Ew s r a) r) f y ∧ y ≠ r) → h' y = h y)) → K u) : JCu E 3 YX8_handsOn [.ref 137, .int (nI r), .int (nI a), .int (nI f)] K u0 := by
  have h12 := wL.1
  have hE := Ew_ok wL wK hr ha
  have hDl : ∀ y, dD (Ew s r a) r y ≤ 9999 := (dD_is hE r).2.1
  refine JCu.ofV (ls := [some (.ref 137), some (.int (nI r)), some (.int (nI a)), some (.int (nI f)), none, none, none, none, none, none, none]) (by decide +kernel) (Nat.le_of_ble_eq_true rfl) rfl rfl (g_X8_handsOn_0 ?_)
  intro v hv
  rw [nI_shl1 (by omega)] at hv
  rw [hv]
  -- the end: hops are written
  have fin : ∀ b, b < 256 → (∀ z, b.testBit z = true ↔ Rch (Ew s r a) (dD (Ew s r a) r) f z) → ∀ (m j : Nat) (u : JM) (h' : Nat → Nat), m + j = 8 → same u0 u (· = 1342) → QH h' u → (∀ y, y < 8 → (y < j ∧ b.testBit y = true ∧ y ≠ r → h' y = f) ∧ (¬ (y < j ∧ b.testBit y = true ∧ y ≠ r) → h' y = h y)) → ∀ c : Int32, JVu E 3 YX8_handsOn K 149 [some (.ref 137), some (.int (nI r)), some (.int (nI a)), some (.int (nI f)), some (.int (nI b)), some (.int c), some (.int (nI j)), none, none, none, none] [] u := by
    intro b hb hall m
    induction m with
    | zero =>
      intro j u h' hm hs hQ hh c
      obtain rfl : j = 8 := by omega
      refine g_X8_handsOn_149 ⟨fun _ => k u h' hs hQ fun y hy => ⟨fun g => (hh y hy).1 ⟨hy, (hall y).mpr g.1, g.2⟩, fun g => (hh y hy).2 fun q => g ⟨(hall y).mp q.2.1, q.2.2⟩⟩, fun q => absurd (show (8 : Int32) ≤ nI 8 by decide) q⟩
    | succ m ih =>
      intro j u h' hm hs hQ hh c
      refine g_X8_handsOn_149 ⟨fun q => absurd q (nI_ge (a := j) (b := 8) (by omega) (by omega)), fun _ => ?_⟩
      rw [nI_tst1 (by omega) (by omega), nI_1, nI_eq (a := j) (by omega) (by omega)]
      have stay : ¬ (b.testBit j = true ∧ j ≠ r) → JVu E 3 YX8_handsOn K 149 [some (.ref 137), some (.int (nI r)), some (.int (nI a)), some (.int (nI f)), some (.int (nI b)), some (.int c), some (.int (nI (j + 1))), none, none, none, none] [] u := fun g => ih (j + 1) u h' (by omega) hs hQ (fun y hy => by
        obtain ⟨g1, g2⟩ := hh y hy
        refine ⟨fun q => g1 ⟨?_, q.2⟩, fun q => g2 fun q2 => q ⟨by omega, q2.2⟩⟩
        by_cases e : y = j
        · rw [e] at q; exact absurd q.2 g
        · omega) c
      refine ⟨fun q => stay fun g => q g.1, fun q => ⟨fun q2 => stay fun g => g.2 q2, fun q2 => ⟨vpI (by omega) (by omega), fun u1 h1 => ?_⟩⟩⟩
      rw [nI_cl (by omega)] at h1
      refine ih (j + 1) u1 (fup h' j f) (by omega) (by rw [h1]; exact hs.jw rfl) (fun y hy => ?_) (fun y hy => ?_) c
      · rw [h1, jw_at]
        unfold fup
        split
        · exact (hpI_lt hf).symm
        · exact hQ y hy
      · obtain ⟨g1, g2⟩ := hh y hy
        unfold fup
        by_cases e : y = j
        · rw [if_pos e]
          exact ⟨fun _ => rfl, fun q3 => absurd ⟨by omega, by rw [e]; exact q, by rw [e]; exact q2⟩ q3⟩
        · rw [if_neg e]
          exact ⟨fun q3 => g1 ⟨by omega, q3.2⟩, fun q3 => g2 fun q4 => q3 ⟨by omega, q4.2⟩⟩
  -- a pass
  have pass : ∀ b0, b0 < 256 → (∀ b, HI s r a f (dD (Ew s r a) r) b0 b (Pk s (s 0 0) 0) → JVu E 3 YX8_handsOn K 8 [some (.ref 137), some (.int (nI r)), some (.int (nI a)), some (.int (nI f)), some (.int (nI b)), some (.int (nI b0)), none, none, none, none, none] [] u0) →
      ∀ (m k : Nat) (b : Nat), m + k = s 0 0 → HI s r a f (dD (Ew s r a) r) b0 b (Pk s k 0) → JVu E 3 YX8_handsOn K 22 [some (.ref 137), some (.int (nI r)), some (.int (nI a)), some (.int (nI f)), some (.int (nI b)), some (.int (nI b0)), some (.int (nI k)), none, none, none, none] [] u0 := by
    intro b0 hb0 ex m
    induction m with
    | zero =>
      intro k b hm hI
      obtain rfl : k = s 0 0 := by omega
      refine g_X8_handsOn_22 ⟨fun _ => ex b hI, fun c => ?_⟩
      rw [hL.1] at c
      exact absurd (nI_le (Nat.le_refl _) (by omega)) c
    | succ m ih =>
      intro k b hm hI
      have hk : k < s 0 0 := by omega
      have c0 : ¬ u0 137 0 ≤ nI k := by rw [hL.1]; exact nI_ge hk (by omega)
      refine g_X8_handsOn_22 ⟨fun c => absurd c c0, fun _ => ?_⟩
      have inner : ∀ (n e b : Nat), n + e = 2 → HI s r a f (dD (Ew s r a) r) b0 b (Pk s k e) → JVu E 3 YX8_handsOn K 34 [some (.ref 137), some (.int (nI r)), some (.int (nI a)), some (.int (nI f)), some (.int (nI b)), some (.int (nI b0)), some (.int (nI k)), some (.int (nI e)), none, none, none] [] u0 := by
        intro n
        induction n with
        | zero =>
          intro e b hn hI
          obtain rfl : e = 2 := by omega
          refine g_X8_handsOn_34 ⟨fun _ => ?_, fun c => absurd (show (2 : Int32) ≤ nI 2 by decide) c⟩
          rw [nI_1]
          exact ih (k + 1) b (by omega) (hI.mono fun l x p => Pk_n p)
        | succ n ih2 =>
          intro e b hn hI
          refine g_X8_handsOn_34 ⟨fun c => absurd c (nI_ge (a := e) (b := 2) (by omega) (by omega)), fun _ => ?_⟩
          have kv : vp_in (nI k) 12 := vpI (by omega) (by omega)
          refine ⟨⟨fun _ => ⟨kv, trivial⟩, fun _ => ⟨kv, trivial⟩⟩, fun v1 hv1 => ⟨kv, fun v2 hv2 => ?_⟩⟩
          have hx8 := hx_lt wL (e := e) hk
          have ho8 := oth_lt wL hk (hx s k e)
          rw [nI_cl (show k < 2147483648 by omega), hxR hL hk (by omega)] at hv1
          rw [nI_cl (show k < 2147483648 by omega), hv1, othR hL wL hk hx8] at hv2
          rw [hv1, hv2]
          refine c_X8_edge hL hK wL wK hr ha hk hx8 ?_
          have be : egN s r a k (hx s k e) ≤ 99 := by unfold egN; split; exact tl_le wK hr ha hx8 (by omega); omega
          have hb := hI.1
          have hDx := hDl (hx s k e)
          have hDo := hDl (oth s k (hx s k e))
          refine ⟨⟨fun _ => trivial, fun _ => ⟨fun _ => trivial, fun _ => ⟨vpI hx8 (by omega), vpI ho8 (by omega), trivial⟩⟩⟩, fun v3 hv3 => ?_⟩
          have e3 : v3 = nI (hdN s r a (dD (Ew s r a) r) b k (hx s k e)) := by
            rw [hv3, nI_cl (show hx s k e < 2147483648 by omega), nI_cl (show oth s k (hx s k e) < 2147483648 by omega), hD _ hx8, hD _ ho8, nI_add]
            unfold hdN
            by_cases q1 : b.testBit (hx s k e) = true
            · rw [if_pos ((nI_tst1 (by omega) (by omega)).mpr q1)]
              by_cases q2 : 0 < egN s r a k (hx s k e)
              · rw [if_neg (fun g => by rw [nI_le0 (by omega)] at g; omega)]
                by_cases q3 : dD (Ew s r a) r (hx s k e) + egN s r a k (hx s k e) = dD (Ew s r a) r (oth s k (hx s k e))
                · rw [if_pos (by rw [q3]), if_pos ⟨q1, q2, q3⟩, nI_bit (by omega)]
                · rw [if_neg (fun g => q3 (nI_inj (by omega) (by omega) g)), if_neg (fun g => q3 g.2.2)]
              · rw [if_pos (by rw [nI_le0 (by omega)]; omega), if_neg (fun g => q2 g.2.1)]
            · rw [if_neg (fun g => q1 ((nI_tst1 (by omega) (by omega)).mp g)), if_neg (fun g => q1 g.1)]
          rw [e3, nI_1]
          exact ih2 (e + 1) _ (by omega) (hI.step wL hk (hx_isE s k e) fun l' x' p => Pk_s (by omega) p)
      exact inner 2 0 b (by omega) hI
  -- passes
  have exitAt : ∀ b, HI s r a f (dD (Ew s r a) r) b b (Pk s (s 0 0) 0) → JVu E 3 YX8_handsOn K 8 [some (.ref 137), some (.int (nI r)), some (.int (nI a)), some (.int (nI f)), some (.int (nI b)), some (.int (nI b)), none, none, none, none, none] [] u0 := by
    intro b hI
    refine g_X8_handsOn_8 ⟨fun _ => fin b hI.1 (fun z => hI.all wL z) 8 0 u0 h (by omega) same.rfl hH (fun y hy => ⟨fun g => absurd g.1 (Nat.not_lt_zero y), fun _ => rfl⟩) (nI b), fun q => absurd rfl q⟩
  have main : ∀ (m b c : Nat), 8 ≤ m + cntP 8 (fun z => b.testBit z) → c < 256 → b ≠ c → b < 256 → b.testBit f = true → (∀ z, b.testBit z = true → Rch (Ew s r a) (dD (Ew s r a) r) f z) →
      JVu E 3 YX8_handsOn K 8 [some (.ref 137), some (.int (nI r)), some (.int (nI a)), some (.int (nI f)), some (.int (nI b)), some (.int (nI c)), none, none, none, none, none] [] u0 := by
    intro m
    induction m with
    | zero =>
      intro b c hm hc hbc hb h1 h2
      refine g_X8_handsOn_8 ⟨fun q => absurd (nI_inj (by omega) (by omega) q) hbc, fun _ => ?_⟩
      refine pass b hb (fun b' hI => ?_) (s 0 0) 0 b (by omega) ⟨hb, h1, h2, fun z g => g, fun _ l x p => absurd p.2 (by omega)⟩
      by_cases e : b' = b
      · rw [e] at hI ⊢; exact exitAt b hI
      · have g1 := cnt_grow hI.1 hI.2.2.2.1 e
        have g2 := cntP_le 8 (fun z => b'.testBit z)
        omega
    | succ m ih =>
      intro b c hm hc hbc hb h1 h2
      refine g_X8_handsOn_8 ⟨fun q => absurd (nI_inj (by omega) (by omega) q) hbc, fun _ => ?_⟩
      refine pass b hb (fun b' hI => ?_) (s 0 0) 0 b (by omega) ⟨hb, h1, h2, fun z g => g, fun _ l x p => absurd p.2 (by omega)⟩
      by_cases e : b' = b
      · rw [e] at hI ⊢; exact exitAt b hI
      · have g1 := cnt_grow hI.1 hI.2.2.2.1 e
        exact ih b' b (by omega) hb e hI.1 hI.2.1 hI.2.2.1
  have hf2 : 2 ^ f < 256 := Nat.pow_lt_pow_right (n := 8) (by decide) hf
  exact main 8 (2 ^ f) 0 (by omega) (by decide) (by have := Nat.two_pow_pos f; omega) hf2 (by rw [Nat.testBit_two_pow]; simp) fun z hz => by
    rw [Nat.testBit_two_pow] at hz
    rw [← of_decide_eq_true hz]
    exact Rch.refl f
