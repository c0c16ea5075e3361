/-! who is joined, by an area's links that are up; how far at most -/
/-- a link of an area that is up, from one end to the other -/
def Lk (s : St) (a l x y : Nat) : Prop := l < s 0 0 ∧ s 6 l = 1 ∧ s 3 l = a ∧ ((s 1 l = x ∧ s 2 l = y) ∨ (s 2 l = x ∧ s 1 l = y))
theorem Lk.symm {s : St} {a l x y : Nat} (h : Lk s a l x y) : Lk s a l y x := ⟨h.1, h.2.1, h.2.2.1, h.2.2.2.elim (fun g => Or.inr ⟨g.2, g.1⟩) (fun g => Or.inl ⟨g.2, g.1⟩)⟩
/-- within k steps -/
def AR (s : St) (a x : Nat) : Nat → Nat → Prop
  | 0, y => y = x
  | k + 1, y => AR s a x k y ∨ ∃ z l, AR s a x k z ∧ Lk s a l z y
theorem AR.up {s : St} {a x y k n : Nat} (h : AR s a x k y) (hn : k ≤ n) : AR s a x n y := by
  induction n with
  | zero => have e : k = 0 := by omega
            rw [e] at h; exact h
  | succ n ih =>
    by_cases e : k = n + 1
    · rw [e] at h; exact h
    · exact Or.inl (ih (by omega))
/-- nothing new within a step: nothing new ever -/
theorem AR.stay {s : St} {a x k : Nat} (h : ∀ y, AR s a x (k + 1) y → AR s a x k y) : ∀ n y, AR s a x n y → AR s a x k y := by
  intro n
  induction n with
  | zero => intro y hy; exact hy.up (Nat.zero_le _)
  | succ n ih =>
    intro y hy
    rcases hy with g | ⟨z, l, g1, g2⟩
    · exact ih y g
    · exact h y (Or.inr ⟨z, l, ih z g1, g2⟩)
noncomputable def dcd (p : Prop) : Bool := @decide p (Classical.propDecidable p)
theorem dcd_t {p : Prop} : dcd p = true ↔ p := by unfold dcd; exact @decide_eq_true_iff p (Classical.propDecidable p)
theorem dcd_f {p : Prop} : dcd p = false ↔ ¬ p := by unfold dcd; exact @decide_eq_false_iff_not p (Classical.propDecidable p)
theorem AR.lt8 {s : St} (w : WL s) {a x : Nat} (hx : x < 8) : ∀ k y, AR s a x k y → y < 8
  | 0, y, h => by rw [show y = x from h]; exact hx
  | k + 1, y, h => by
    rcases h with g | ⟨z, l, -, g2⟩
    · exact AR.lt8 w hx k y g
    · obtain ⟨w1, w2, -⟩ := w.2 l g2.1
      rcases g2.2.2.2 with e | e
      · rw [← e.2]; exact w2
      · rw [← e.2]; exact w1
/-- links of an area -/
def nA (s : St) (a : Nat) : Nat := cntP (s 0 0) fun l => decide (s 3 l = a)
noncomputable def arN (s : St) (a x k : Nat) : Nat := cntP 8 (fun y => dcd (AR s a x k y))
noncomputable def arM (s : St) (a x k : Nat) : Nat := cntP (s 0 0) (fun l => decide (s 3 l = a) && dcd (AR s a x k (s 1 l) ∧ AR s a x k (s 2 l)))
theorem AR.far {s : St} (w : WL s) {a x : Nat} (hx : x < 8) : ∀ k, (∃ y, AR s a x (k + 1) y ∧ ¬ AR s a x k y) → k + 2 ≤ arN s a x (k + 1) ∧ k + 1 ≤ arM s a x (k + 1)
  | 0, ⟨y, h1, h2⟩ => by
    have a0 : cntP 8 (fun _ => false) < arN s a x 0 := cntP_lt (n := 8) (p := fun _ => false) (q := fun y => dcd (AR s a x 0 y)) (fun _ _ h => absurd h (by decide)) hx rfl (dcd_t.mpr rfl)
    have a1 : arN s a x 0 < arN s a x (0 + 1) := cntP_lt (n := 8) (p := fun y => dcd (AR s a x 0 y)) (q := fun y => dcd (AR s a x (0 + 1) y)) (fun z _ h => dcd_t.mpr (Or.inl (dcd_t.mp h))) (AR.lt8 w hx (0 + 1) y h1) (dcd_f.mpr h2) (dcd_t.mpr h1)
    refine ⟨by omega, ?_⟩
    rcases h1 with g | ⟨z, l, g1, g2⟩
    · exact absurd g h2
    · have hz : AR s a x (0 + 1) z := Or.inl g1
      have hy : AR s a x (0 + 1) y := Or.inr ⟨z, l, g1, g2⟩
      have : cntP (s 0 0) (fun _ => false) < arM s a x (0 + 1) := cntP_lt (n := s 0 0) (p := fun _ => false) (q := fun l => decide (s 3 l = a) && dcd (AR s a x (0 + 1) (s 1 l) ∧ AR s a x (0 + 1) (s 2 l))) (fun _ _ h => absurd h (by decide)) g2.1 rfl (by
        rw [Bool.and_eq_true]
        refine ⟨decide_eq_true g2.2.2.1, dcd_t.mpr ?_⟩
        rcases g2.2.2.2 with ⟨e1, e2⟩ | ⟨e1, e2⟩
        · rw [e1, e2]; exact ⟨hz, hy⟩
        · rw [e1, e2]; exact ⟨hy, hz⟩)
      omega
  | k + 1, ⟨y, h1, h2⟩ => by
    rcases h1 with g | ⟨z, l, g1, g2⟩
    · exact absurd g h2
    have hz : ¬ AR s a x k z := fun q => h2 (Or.inr ⟨z, l, q, g2⟩)
    obtain ⟨i1, i2⟩ := AR.far w hx k ⟨z, g1, hz⟩
    have hy : AR s a x (k + 1 + 1) y := Or.inr ⟨z, l, g1, g2⟩
    have a1 : arN s a x (k + 1) < arN s a x (k + 1 + 1) := cntP_lt (n := 8) (p := fun y => dcd (AR s a x (k + 1) y)) (q := fun y => dcd (AR s a x (k + 1 + 1) y)) (fun z _ h => dcd_t.mpr (Or.inl (dcd_t.mp h))) (AR.lt8 w hx (k + 1 + 1) y hy) (dcd_f.mpr h2) (dcd_t.mpr hy)
    have a2 : arM s a x (k + 1) < arM s a x (k + 1 + 1) := cntP_lt (n := s 0 0) (p := fun l => decide (s 3 l = a) && dcd (AR s a x (k + 1) (s 1 l) ∧ AR s a x (k + 1) (s 2 l))) (q := fun l => decide (s 3 l = a) && dcd (AR s a x (k + 1 + 1) (s 1 l) ∧ AR s a x (k + 1 + 1) (s 2 l)))
      (fun l' _ h => by
        rw [Bool.and_eq_true] at h ⊢
        have := dcd_t.mp h.2
        exact ⟨h.1, dcd_t.mpr ⟨Or.inl this.1, Or.inl this.2⟩⟩) g2.1 (by
        rw [Bool.and_eq_false_iff]
        refine Or.inr (dcd_f.mpr fun q => ?_)
        rcases g2.2.2.2 with ⟨e1, e2⟩ | ⟨e1, e2⟩
        · rw [e2] at q; exact h2 q.2
        · rw [e2] at q; exact h2 q.1) (by
        rw [Bool.and_eq_true]
        refine ⟨decide_eq_true g2.2.2.1, dcd_t.mpr ?_⟩
        rcases g2.2.2.2 with ⟨e1, e2⟩ | ⟨e1, e2⟩
        · rw [e1, e2]; exact ⟨Or.inl g1, hy⟩
        · rw [e1, e2]; exact ⟨hy, Or.inl g1⟩)
    exact ⟨by omega, by omega⟩
/-- how far at most within an area -/
def Km (s : St) (a : Nat) : Nat := mn 7 (nA s a)
theorem Km_or (s : St) (a : Nat) : Km s a ≤ 7 ∧ Km s a ≤ nA s a ∧ (Km s a = 7 ∨ Km s a = nA s a) := by
  unfold Km mn
  split
  · exact ⟨Nat.le_refl _, by assumption, Or.inl rfl⟩
  · exact ⟨by omega, Nat.le_refl _, Or.inr rfl⟩
theorem AR.km {s : St} (w : WL s) {a x y n : Nat} (hx : x < 8) (h : AR s a x n y) : AR s a x (Km s a) y := by
  refine AR.stay (fun z hz => Classical.byContradiction fun q => ?_) n y h
  obtain ⟨i1, i2⟩ := AR.far w hx (Km s a) ⟨z, hz, q⟩
  have c1 : arN s a x (Km s a + 1) ≤ 8 := cntP_le 8 _
  have c2 : arM s a x (Km s a + 1) ≤ nA s a := cntP_mono fun l _ h => by
    rw [Bool.and_eq_true] at h
    exact h.1
  have := Km_or s a
  omega
theorem nA_sum {s : St} (w : WL s) : nA s 0 + nA s 1 + nA s 2 ≤ 12 := by
  have h12 := w.1
  have go : ∀ n, n ≤ s 0 0 → cntP n (fun l => decide (s 3 l = 0)) + cntP n (fun l => decide (s 3 l = 1)) + cntP n (fun l => decide (s 3 l = 2)) ≤ n := by
    intro n
    induction n with
    | zero => intro _; exact Nat.le_refl _
    | succ n ih =>
      intro hn
      have := ih (by omega)
      have h3 := (w.2 n (by omega)).2.2.2.1
      show cntP n (fun l => decide (s 3 l = 0)) + (if decide (s 3 n = 0) = true then 1 else 0) + (cntP n (fun l => decide (s 3 l = 1)) + (if decide (s 3 n = 1) = true then 1 else 0)) + (cntP n (fun l => decide (s 3 l = 2)) + (if decide (s 3 n = 2) = true then 1 else 0)) ≤ n + 1
      rcases (show s 3 n = 0 ∨ s 3 n = 1 ∨ s 3 n = 2 by omega) with e | e | e <;> rw [e] <;> simp <;> omega
  have := go (s 0 0) (Nat.le_refl _)
  unfold nA
  omega
theorem Km_sum {s : St} (w : WL s) {a b : Nat} (ha : a < 3) (hb : b = 1 ∨ b = 2) (ha0 : a ≠ 0) : Km s b + Km s 0 + Km s a ≤ 19 := by
  have h := nA_sum w
  have k0 := Km_or s 0
  have k1 := Km_or s 1
  have k2 := Km_or s 2
  rcases (show a = 1 ∨ a = 2 by omega) with rfl | rfl <;> rcases hb with rfl | rfl <;> omega
/-- truly joined -/
def Jn (s : St) (x y : Nat) : Prop := ∀ S : Nat → Prop, S x → (∀ a l u v, S u → Lk s a l u v → S v) → S y
theorem Jn.rfl_ {s : St} (x : Nat) : Jn s x x := fun _ h _ => h
theorem Jn.tr {s : St} {x y z : Nat} (h : Jn s x y) (k : Jn s y z) : Jn s x z := fun S h1 h2 => k S (h S h1 h2) h2
theorem Jn.lk {s : St} {a l x y : Nat} (h : Lk s a l x y) : Jn s x y := fun S h1 h2 => h2 a l x y h1 h
theorem AR.jn {s : St} {a x : Nat} : ∀ k y, AR s a x k y → Jn s x y
  | 0, y, h => by rw [show y = x from h]; exact Jn.rfl_ x
  | k + 1, y, h => by
    rcases h with g | ⟨z, l, g1, g2⟩
    · exact AR.jn k y g
    · exact (AR.jn k z g1).tr (Jn.lk g2)
/-- who is joined, has a true way -/
theorem Jn.way {s : St} (w : WL s) {x y : Nat} (hx : x < 8) (h : Jn s x y) : dD (Et s 12) x y < 9999 := by
  have h12 := w.1
  have hE := Et_ok w 12
  have hD := dD_is hE x
  refine (h (fun y => y < 8 ∧ dD (Et s 12) x y < 9999) ⟨hx, by rw [hD.1]; omega⟩ fun a l u v hu hl => ?_).2
  obtain ⟨w1, w2, -, -, w4, w5, -⟩ := w.2 l hl.1
  have b := dD_792 hE hu.1 hu.2
  rcases hl.2.2.2 with ⟨e1, e2⟩ | ⟨e1, e2⟩
  · have := hD.2.2.1 u v (s 4 l) ⟨l, hl.1, by have := hl.1; omega, hl.2.1, Or.inl ⟨e1, e2, rfl⟩⟩
    exact ⟨by omega, by omega⟩
  · have := hD.2.2.1 u v (s 5 l) ⟨l, hl.1, by have := hl.1; omega, hl.2.1, Or.inr ⟨e1, e2, rfl⟩⟩
    exact ⟨by omega, by omega⟩
/-- known edges that are truly up: whoever has a way within an area is joined there -/
theorem known_ar {s t : St} (wL : WL s) (wK : WK s) {r a : Nat} (hr : r < 8) (ha : a < 3) (e : ∀ c, c < 7 → s c = t c) (h : ∀ y n, y < 8 → AR t a r n y → ∀ l, l < 12 → 0 < tl s r a y l → s 6 l = 1) : ∀ (m y : Nat), y < 8 → DS s r a y ≤ m → DS s r a y < 9999 → ∃ n, AR t a r n y := by
  have hE := Ew_ok wL wK hr ha
  have hD := dD_is hE r
  have h12 := wL.1
  intro m
  induction m with
  | zero =>
    intro y hy h0 hF
    by_cases c : y = r
    · exact ⟨0, c⟩
    · obtain ⟨x, w, g1, g2⟩ := hD.2.2.2 y c hF
      have := (hE x y w g1).2.2.1
      unfold DS at h0
      omega
  | succ m ih =>
    intro y hy h0 hF
    by_cases c : y = r
    · exact ⟨0, c⟩
    · obtain ⟨x, w, ⟨l, g1⟩, g2⟩ := hD.2.2.2 y c hF
      obtain ⟨x8, y8, ll, ends, ty, w0, hw⟩ := g1
      obtain ⟨n, hn⟩ := ih x x8 (by unfold DS at h0 ⊢; omega) (by unfold DS at hF ⊢; omega)
      have u := h x n x8 hn l (by omega) (by omega)
      have ea := (tl_end wK hr ha x8 (l := l) (by omega) (by omega)).2.1
      refine ⟨n + 1, Or.inr ⟨x, l, hn, ?_⟩⟩
      unfold Lk
      rw [← e 0 (by omega), ← e 6 (by omega), ← e 3 (by omega), ← e 1 (by omega), ← e 2 (by omega)]
      exact ⟨ll, u, ea, ends⟩
