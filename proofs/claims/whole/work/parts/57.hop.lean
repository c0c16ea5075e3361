/-! first hops, as the reference tells them -/
theorem dD_bnd {E : Eg} (hE : EgOk E) {src : Nat} : ∀ (m y : Nat), y < 8 → dD E src y ≤ m → dD E src y < 9999 → dD E src y ≤ 99 * cntP 8 (fun z => decide (dD E src z < dD E src y)) := by
  have hD := dD_is hE src
  intro m
  induction m with
  | zero => intro y _ h _; omega
  | succ m ih =>
    intro y hy h hF
    by_cases e : y = src
    · rw [e, hD.1]; exact Nat.zero_le _
    · obtain ⟨x, w, h1, h2⟩ := hD.2.2.2 y e hF
      obtain ⟨x8, y8, w0, w99⟩ := hE x y w h1
      have h3 := ih x x8 (by omega) (by omega)
      have h4 := cntP_lt (n := 8) (p := fun z => decide (dD E src z < dD E src x)) (q := fun z => decide (dD E src z < dD E src y)) (fun z _ hz => decide_eq_true (by have := of_decide_eq_true hz; omega)) x8 (decide_eq_false (by omega)) (decide_eq_true (by omega))
      omega
theorem dD_792 {E : Eg} (hE : EgOk E) {src y : Nat} (hy : y < 8) (h : dD E src y < 9999) : dD E src y ≤ 792 := by
  have h1 := dD_bnd hE (src := src) _ y hy (Nat.le_refl _) h
  have h2 := cntP_le 8 (fun z => decide (dD E src z < dD E src y))
  omega
/-- a tight edge -/
def Tt (E : Eg) (D : Nat → Nat) (x y : Nat) : Prop := ∃ w, E x y w ∧ D x + w = D y
/-- behind one, over tight edges -/
def Rch (E : Eg) (D : Nat → Nat) (f y : Nat) : Prop := ∀ S : Nat → Prop, S f → (∀ x z, S x → Tt E D x z → S z) → S y
theorem Rch.refl {E : Eg} {D : Nat → Nat} (f : Nat) : Rch E D f f := fun _ h _ => h
theorem Rch.step {E : Eg} {D : Nat → Nat} {f x y : Nat} (h : Rch E D f x) (t : Tt E D x y) : Rch E D f y := fun S h1 h2 => h2 x y (h S h1 h2) t
theorem Rch.last {E : Eg} {D : Nat → Nat} {f y : Nat} (h : Rch E D f y) : y = f ∨ ∃ x, Rch E D f x ∧ Tt E D x y := by
  have := h (fun z => Rch E D f z ∧ (z = f ∨ ∃ x, Rch E D f x ∧ Tt E D x z)) ⟨Rch.refl f, Or.inl rfl⟩ (fun x z hx t => ⟨hx.1.step t, Or.inr ⟨x, hx.1, t⟩⟩)
  exact this.2
/-- right behind the source on a least way to itself -/
def Nx (E : Eg) (src : Nat) (D : Nat → Nat) (f : Nat) : Prop := E src f (D f)
def Vl (E : Eg) (src : Nat) (D : Nat → Nat) (f y : Nat) : Prop := Nx E src D f ∧ Rch E D f y
theorem Vl.pos {E : Eg} (hE : EgOk E) {src f y : Nat} (h : Vl E src (dD E src) f y) : y < 8 ∧ 0 < dD E src y ∧ dD E src y < 9999 := by
  obtain ⟨h1, h2⟩ := h
  have g := hE _ _ _ h1
  refine h2 (fun y => y < 8 ∧ 0 < dD E src y ∧ dD E src y < 9999) ⟨g.2.1, g.2.2.1, by omega⟩ fun x z hx t => ?_
  obtain ⟨w, t1, t2⟩ := t
  have g2 := hE _ _ _ t1
  have := dD_792 hE hx.1 hx.2.2
  omega
/-- the hops when all from k on are through -/
def HV (E : Eg) (src : Nat) (D : Nat → Nat) (k : Nat) (h : Nat → Nat) : Prop := ∀ y, y < 8 → (y = src → h y = 8) ∧ (y ≠ src → (h y = 8 ∧ ∀ f, k ≤ f → f < 8 → ¬ Vl E src D f y) ∨ (k ≤ h y ∧ h y < 8 ∧ Vl E src D (h y) y ∧ ∀ f, k ≤ f → f < h y → ¬ Vl E src D f y))
theorem HV.skip {E : Eg} {src k : Nat} {D h : Nat → Nat} (a : HV E src D (k + 1) h) (n : ¬ Nx E src D k) : HV E src D k h := by
  intro y hy
  obtain ⟨a1, a2⟩ := a y hy
  refine ⟨a1, fun q => ?_⟩
  have nv : ∀ y, ¬ Vl E src D k y := fun y v => n v.1
  rcases a2 q with ⟨b1, b2⟩ | ⟨b1, b2, b3, b4⟩
  · refine Or.inl ⟨b1, fun f h1 h2 => ?_⟩
    by_cases e : f = k
    · rw [e]; exact nv y
    · exact b2 f (by omega) h2
  · refine Or.inr ⟨by omega, b2, b3, fun f h1 h2 => ?_⟩
    by_cases e : f = k
    · rw [e]; exact nv y
    · exact b4 f (by omega) h2
theorem HV.take {E : Eg} {src k : Nat} {D h h' : Nat → Nat} (hk : k < 8) (a : HV E src D (k + 1) h) (n : Nx E src D k) (e : ∀ y, y < 8 → (Rch E D k y ∧ y ≠ src → h' y = k) ∧ (¬ (Rch E D k y ∧ y ≠ src) → h' y = h y)) : HV E src D k h' := by
  intro y hy
  obtain ⟨a1, a2⟩ := a y hy
  obtain ⟨e1, e2⟩ := e y hy
  refine ⟨fun q => by rw [e2 (fun g => g.2 q)]; exact a1 q, fun q => ?_⟩
  by_cases c : Rch E D k y
  · rw [e1 ⟨c, q⟩]
    exact Or.inr ⟨Nat.le_refl _, hk, ⟨n, c⟩, fun f h1 h2 => by omega⟩
  · rw [e2 (fun g => c g.1)]
    have nv : ¬ Vl E src D k y := fun v => c v.2
    rcases a2 q with ⟨b1, b2⟩ | ⟨b1, b2, b3, b4⟩
    · refine Or.inl ⟨b1, fun f h1 h2 => ?_⟩
      by_cases e : f = k
      · rw [e]; exact nv
      · exact b2 f (by omega) h2
    · refine Or.inr ⟨by omega, b2, b3, fun f h1 h2 => ?_⟩
      by_cases e : f = k
      · rw [e]; exact nv
      · exact b4 f (by omega) h2
theorem HV.isH {E : Eg} (hE : EgOk E) {src : Nat} {h : Nat → Nat} (hs : src < 8) (a : HV E src (dD E src) 0 h) : IsH E src (dD E src) (fun y => if y < 8 then h y else 8) := by
  have hD := dD_is hE src
  -- whoever is valid, is not below the one that is held
  have low : ∀ y f, y < 8 → y ≠ src → f < 8 → Vl E src (dD E src) f y → h y ≤ f ∧ h y < 8 ∧ Vl E src (dD E src) (h y) y := by
    intro y f hy q hf v
    rcases (a y hy).2 q with ⟨b1, b2⟩ | ⟨b1, b2, b3, b4⟩
    · exact absurd v (b2 f (Nat.zero_le _) hf)
    · exact ⟨Nat.le_of_not_lt fun g => b4 f (Nat.zero_le _) g v, b2, b3⟩
  have ex : ∀ (m y : Nat), y < 8 → y ≠ src → dD E src y ≤ m → dD E src y < 9999 → ∃ f, f < 8 ∧ Vl E src (dD E src) f y := by
    intro m
    induction m with
    | zero =>
      intro y hy q h0 hF
      obtain ⟨x, w, h1, h2⟩ := hD.2.2.2 y q hF
      have := (hE x y w h1).2.2.1
      omega
    | succ m ih =>
      intro y hy q h0 hF
      obtain ⟨x, w, h1, h2⟩ := hD.2.2.2 y q hF
      obtain ⟨x8, -, w0, -⟩ := hE x y w h1
      by_cases e : x = src
      · rw [e, hD.1, Nat.zero_add] at h2
        refine ⟨y, hy, ?_, Rch.refl y⟩
        unfold Nx
        rw [← h2, ← e]
        exact h1
      · obtain ⟨f, f8, v1, v2⟩ := ih x x8 e (by omega) (by omega)
        exact ⟨f, f8, v1, v2.step ⟨w, h1, h2⟩⟩
  intro y
  refine ⟨fun q => ?_, fun q hF => ?_⟩
  · by_cases hy : y < 8
    · show (if y < 8 then h y else 8) = 8
      rw [if_pos hy]
      rcases q with q | q
      · exact (a y hy).1 q
      · by_cases e : y = src
        · exact (a y hy).1 e
        · rcases (a y hy).2 e with b | b
          · exact b.1
          · exact absurd (Vl.pos hE b.2.2.1).2.2 q
    · exact if_neg hy
  · have hy : y < 8 := by
      obtain ⟨x, w, h1, h2⟩ := hD.2.2.2 y q hF
      exact (hE x y w h1).2.1
    obtain ⟨f, f8, v⟩ := ex _ y hy q (Nat.le_refl _) hF
    obtain ⟨l1, l2, l3⟩ := low y f hy q f8 v
    refine ⟨?_, fun x w h1 h2 => ?_⟩
    · show ∃ x w, E x y w ∧ dD E src x + w = dD E src y ∧ cnd src (fun y => if y < 8 then h y else 8) x y = (if y < 8 then h y else 8)
      rw [if_pos hy]
      rcases l3.2.last with e | ⟨x, r1, w, t1, t2⟩
      · refine ⟨src, dD E src y, ?_, by rw [hD.1, Nat.zero_add], ?_⟩
        · have := l3.1
          unfold Nx at this
          rw [← e] at this
          exact this
        · unfold cnd; rw [if_pos rfl]; exact e
      · have p := Vl.pos hE ⟨l3.1, r1⟩
        have xs : x ≠ src := fun g => by have := p.2.1; rw [g, hD.1] at this; omega
        obtain ⟨k1, k2, k3⟩ := low x (h y) p.1 xs l2 ⟨l3.1, r1⟩
        have k4 := (low y (h x) hy q k2 ⟨k3.1, k3.2.step ⟨w, t1, t2⟩⟩).1
        refine ⟨x, w, t1, t2, ?_⟩
        unfold cnd
        rw [if_neg xs]
        show (if x < 8 then h x else 8) = h y
        rw [if_pos p.1]
        omega
    · show (if y < 8 then h y else 8) ≤ cnd src (fun y => if y < 8 then h y else 8) x y
      rw [if_pos hy]
      unfold cnd
      obtain ⟨x8, -, w0, -⟩ := hE x y w h1
      by_cases xs : x = src
      · rw [if_pos xs]
        rw [xs, hD.1, Nat.zero_add] at h2
        refine (low y y hy q hy ⟨?_, Rch.refl y⟩).1
        unfold Nx
        rw [← h2, ← xs]
        exact h1
      · rw [if_neg xs]
        show h y ≤ (if x < 8 then h x else 8)
        rw [if_pos x8]
        rcases (a x x8).2 xs with ⟨b1, -⟩ | ⟨-, b2, b3, -⟩
        · omega
        · exact (low y (h x) hy q b2 ⟨b3.1, b3.2.step ⟨w, h1, h2⟩⟩).1
/-- what is held within the eight is the first hop -/
theorem HV.eq {E : Eg} (hE : EgOk E) {src : Nat} {h : Nat → Nat} (hs : src < 8) (a : HV E src (dD E src) 0 h) {y : Nat} (hy : y < 8) : h y = hD E src y := by
  have := congrFun (hD_eq hE (a.isH hE hs)) y
  rw [← this]
  exact (if_pos hy).symm
