/-! Dijkstra's way with first hops, by active edges -/
/-- lt on hops: 8 is none -/
def hlt (a b : Nat) : Prop := b < 8 ∧ a < b
theorem fup_eq {f : Nat → Nat} {y v : Nat} : fup f y v y = v := if_pos rfl
theorem fup_ne {f : Nat → Nat} {y v z : Nat} (h : z ≠ y) : fup f y v z = f z := if_neg h
def DI (E : Eg) (src : Nat) (Ac : Eg) (dn : Nat → Bool) (f h : Nat → Nat) : Prop :=
  (f src = 0 ∧ h src = 8) ∧ (∀ y, dD E src y ≤ f y ∧ f y ≤ FAR) ∧ (∀ y, dn y = true → f y = dD E src y ∧ f y < FAR ∧ y < 8) ∧ (∀ x y w, Ac x y w → E x y w ∧ dn x = true ∧ f y ≤ dD E src x + w) ∧
  ∀ y, y ≠ src → (¬ f y < FAR → h y = 8) ∧ (f y < FAR → h y < 8 ∧ (∃ x w, Ac x y w ∧ dD E src x + w = f y ∧ cnd src h x y = h y) ∧ ∀ x w, Ac x y w → dD E src x + w = f y → h y ≤ cnd src h x y)
/-- one more edge from the node that was chosen last -/
theorem DI.edge {E : Eg} (hE : EgOk E) {src z y w : Nat} {Ac : Eg} {dn : Nat → Bool} {f h : Nat → Nat} (H : DI E src Ac dn f h) (hz : dn z = true) (hmax : ∀ x, dn x = true → dD E src x ≤ dD E src z) (he : E z y w)
    {f' h' : Nat → Nat} (hn : (f z + w < f y ∧ f' = fup f y (f z + w) ∧ h' = fup h y (cnd src h z y)) ∨ (f z + w = f y ∧ hlt (cnd src h z y) (h y) ∧ f' = f ∧ h' = fup h y (cnd src h z y)) ∨ (¬ f z + w < f y ∧ ¬ (f z + w = f y ∧ hlt (cnd src h z y) (h y)) ∧ f' = f ∧ h' = h)) :
    DI E src (fun x1 y1 w1 => Ac x1 y1 w1 ∨ (x1 = z ∧ y1 = y ∧ w1 = w)) dn f' h' := by
  obtain ⟨⟨a1, a2⟩, b, c, d, e⟩ := H
  obtain ⟨hz8, hy8, hw, hw9⟩ := hE z y w he
  obtain ⟨cz1, cz2, -⟩ := c z hz
  have hD := dD_is hE src
  have hrel : dD E src y ≤ f z + w := by have := hD.2.2.1 z y w he; omega
  have hfirst : cnd src h z y < 8 := by
    unfold cnd; split
    · exact hy8
    · rename_i q; exact ((e z q).2 cz2).1
  have hnd : f z + w ≤ f y → dn y = false := by
    intro q
    cases hq : dn y with
    | false => rfl
    | true =>
      have h1 := hmax y hq
      have h2 := (c y hq).1
      omega
  have hys : f z + w ≤ f y → y ≠ src := by
    intro q e0
    rw [e0, a1] at q
    omega
  rcases hn with ⟨h1, z1, z2⟩ | ⟨h1, h2, z1, z2⟩ | ⟨h1, h2, z1, z2⟩
  · rw [z1, z2]
    have hy := hnd (by omega)
    have hs := hys (by omega)
    have ne : ∀ x, dn x = true → x ≠ y := fun x hx q => by rw [q, hy] at hx; cases hx
    have hc : ∀ x y1, dn x = true → cnd src (fup h y (cnd src h z y)) x y1 = cnd src h x y1 := by
      intro x y1 hx
      unfold cnd fup
      simp [ne x hx]
    refine ⟨⟨by simp [fup, Ne.symm hs, a1], by simp [fup, Ne.symm hs, a2]⟩, fun y1 => ?_, fun y1 hy1 => ?_, fun x y1 w1 hx => ?_, fun y1 hy1 => ?_⟩
    · by_cases q : y1 = y
      · subst q; simp only [fup, if_true]; have := (b y1).2; omega
      · simp only [fup, if_neg q]; exact b y1
    · simp only [fup, if_neg (ne y1 hy1)]; exact c y1 hy1
    · rcases hx with hx | ⟨rfl, rfl, rfl⟩
      · obtain ⟨d1, d2, d3⟩ := d x y1 w1 hx
        refine ⟨d1, d2, ?_⟩
        by_cases q : y1 = y
        · subst q; simp only [fup, if_true]; omega
        · simp only [fup, if_neg q]; exact d3
      · exact ⟨he, hz, by simp only [fup, if_true]; omega⟩
    · by_cases q : y1 = y
      · subst q
        rw [fup_eq, fup_eq]
        have hF : f z + w < FAR := by have := (b y1).2; omega
        refine ⟨fun q => absurd hF q, fun _ => ⟨hfirst, ⟨z, w, Or.inr ⟨rfl, rfl, rfl⟩, by omega, ?_⟩, fun x w1 hx ht => ?_⟩⟩
        · exact hc z y1 hz
        · rcases hx with hx | ⟨rfl, -, rfl⟩
          · have := (d x y1 w1 hx).2.2
            omega
          · rw [hc x y1 hz]
            exact Nat.le_refl _
      · rw [fup_ne q, fup_ne q]
        obtain ⟨e1, e2⟩ := e y1 hy1
        refine ⟨e1, fun hF => ?_⟩
        obtain ⟨e3, ⟨x, w1, g1, g2, g3⟩, g4⟩ := e2 hF
        refine ⟨e3, ⟨x, w1, Or.inl g1, g2, ?_⟩, fun x1 w2 hx ht => ?_⟩
        · rw [hc x y1 (d x y1 w1 g1).2.1]; exact g3
        · rcases hx with hx | ⟨-, q2, -⟩
          · rw [hc x1 y1 (d x1 y1 w2 hx).2.1]; exact g4 x1 w2 hx ht
          · exact absurd q2 q
  · rw [z1, z2]
    have hy := hnd (by omega)
    have hs := hys (by omega)
    have ne : ∀ x, dn x = true → x ≠ y := fun x hx q => by rw [q, hy] at hx; cases hx
    have hc : ∀ x y1, dn x = true → cnd src (fup h y (cnd src h z y)) x y1 = cnd src h x y1 := by
      intro x y1 hx
      unfold cnd fup
      simp [ne x hx]
    have hF : f y < FAR := by
      rcases Nat.lt_or_ge (f y) FAR with q | q
      · exact q
      · have := (e y hs).1 (Nat.not_lt.mpr q)
        have := h2.1
        omega
    refine ⟨⟨a1, by simp [fup, Ne.symm hs, a2]⟩, b, c, fun x y1 w1 hx => ?_, fun y1 hy1 => ?_⟩
    · rcases hx with hx | ⟨rfl, rfl, rfl⟩
      · exact d x y1 w1 hx
      · exact ⟨he, hz, by omega⟩
    · by_cases q : y1 = y
      · subst q
        obtain ⟨e3, ⟨x0, w0, g1, g2, g3⟩, g4⟩ := (e y1 hy1).2 hF
        have hl := h2.2
        rw [fup_eq]
        refine ⟨fun q => absurd hF q, fun _ => ⟨hfirst, ⟨z, w, Or.inr ⟨rfl, rfl, rfl⟩, by omega, hc z y1 hz⟩, fun x w1 hx ht => ?_⟩⟩
        · rcases hx with hx | ⟨rfl, -, rfl⟩
          · rw [hc x y1 (d x y1 w1 hx).2.1]
            have := g4 x w1 hx ht
            omega
          · rw [hc x y1 hz]; exact Nat.le_refl _
      · rw [fup_ne q]
        obtain ⟨e1, e2⟩ := e y1 hy1
        refine ⟨e1, fun hF1 => ?_⟩
        obtain ⟨e3, ⟨x, w1, g1, g2, g3⟩, g4⟩ := e2 hF1
        refine ⟨e3, ⟨x, w1, Or.inl g1, g2, ?_⟩, fun x1 w2 hx ht => ?_⟩
        · rw [hc x y1 (d x y1 w1 g1).2.1]; exact g3
        · rcases hx with hx | ⟨-, q2, -⟩
          · rw [hc x1 y1 (d x1 y1 w2 hx).2.1]; exact g4 x1 w2 hx ht
          · exact absurd q2 q
  · rw [z1, z2]
    refine ⟨⟨a1, a2⟩, b, c, fun x y1 w1 hx => ?_, fun y1 hy1 => ?_⟩
    · rcases hx with hx | ⟨rfl, rfl, rfl⟩
      · exact d x y1 w1 hx
      · exact ⟨he, hz, by omega⟩
    · obtain ⟨e1, e2⟩ := e y1 hy1
      refine ⟨e1, fun hF => ?_⟩
      obtain ⟨e3, ⟨x, w1, g1, g2, g3⟩, g4⟩ := e2 hF
      refine ⟨e3, ⟨x, w1, Or.inl g1, g2, g3⟩, fun x1 w2 hx ht => ?_⟩
      rcases hx with hx | ⟨rfl, rfl, rfl⟩
      · exact g4 x1 w2 hx ht
      · have q : ¬ hlt (cnd src h x1 y1) (h y1) := fun q => h2 ⟨by omega, q⟩
        unfold hlt at q
        omega
theorem DI.congr {E : Eg} {src : Nat} {Ac Ac' : Eg} {dn : Nat → Bool} {f h : Nat → Nat} (H : DI E src Ac dn f h) (hA : ∀ x y w, Ac' x y w ↔ Ac x y w) : DI E src Ac' dn f h := by
  have : Ac' = Ac := by funext x y w; exact propext (hA x y w)
  rw [this]; exact H
/-- the nearest of those that aren't done: its distance is right, and all others' are no less -/
theorem DI.near {E : Eg} (hE : EgOk E) {src : Nat} {dn : Nat → Bool} {f h : Nat → Nat} (H : DI E src (fun x y w => dn x = true ∧ E x y w) dn f h) :
    ∀ (k y : Nat), dD E src y ≤ k → dn y = false → dD E src y < FAR → ∃ y', dn y' = false ∧ dD E src y' ≤ dD E src y ∧ f y' = dD E src y' := by
  obtain ⟨⟨a1, a2⟩, b, c, d, e⟩ := H
  have hD := dD_is hE src
  intro k
  induction k with
  | zero =>
    intro y hk hy hF
    by_cases q : y = src
    · subst q; exact ⟨y, hy, Nat.le_refl _, by rw [a1, hD.1]⟩
    · obtain ⟨x, w, h1, h2⟩ := hD.2.2.2 y q hF
      have := (hE x y w h1).2.2.1
      omega
  | succ k ih =>
    intro y hk hy hF
    by_cases q : y = src
    · subst q; exact ⟨y, hy, Nat.le_refl _, by rw [a1, hD.1]⟩
    · obtain ⟨x, w, h1, h2⟩ := hD.2.2.2 y q hF
      have hw := (hE x y w h1).2.2.1
      cases hx : dn x with
      | true =>
        have h3 := (d x y w ⟨hx, h1⟩).2.2
        have h4 := (b y).1
        exact ⟨y, hy, Nat.le_refl _, by omega⟩
      | false =>
        obtain ⟨y', g1, g2, g3⟩ := ih x (by omega) hx (by omega)
        exact ⟨y', g1, by omega, g3⟩
def dup (dn : Nat → Bool) (z : Nat) : Nat → Bool := fun y => if y = z then true else dn y
theorem DI.pick {E : Eg} (hE : EgOk E) {src z : Nat} {dn : Nat → Bool} {f h : Nat → Nat} (H : DI E src (fun x y w => dn x = true ∧ E x y w) dn f h) (hz8 : z < 8) (hz : dn z = false) (hF : f z < FAR) (hmin : ∀ y, y < 8 → dn y = false → f z ≤ f y)
    (hord : ∀ x y, dn x = true → dn y = false → dD E src x ≤ dD E src y) :
    DI E src (fun x y w => dn x = true ∧ E x y w) (dup dn z) f h ∧ (∀ x, dup dn z x = true → dD E src x ≤ dD E src z) ∧ (∀ x y, dup dn z x = true → dup dn z y = false → dD E src x ≤ dD E src y) := by
  have hD := dD_is hE src
  have far8 : ∀ y, dD E src y < FAR → y < 8 ∨ y = src := by
    intro y hy
    by_cases q : y = src
    · exact Or.inr q
    · obtain ⟨x, w, h1, -⟩ := hD.2.2.2 y q hy
      exact Or.inl (hE x y w h1).2.1
  have hfz : f z = dD E src z := by
    have h1 := (H.2.1 z).1
    obtain ⟨y', g1, g2, g3⟩ := H.near hE _ z (Nat.le_refl _) hz (by omega)
    rcases far8 y' (by omega) with q | q
    · have := hmin y' q g1
      omega
    · subst q
      rw [hD.1] at g2 g3
      by_cases e : y' = z
      · subst e; rw [hD.1]; exact g3
      · have := hmin 
        by_cases h8 : y' < 8
        · have := hmin y' h8 g1; omega
        · -- src is among the eight or the only node
          have : dD E y' z < FAR := by omega
          rcases far8 z this with r | r
          · obtain ⟨x, w, p1, p2⟩ := hD.2.2.2 z (Ne.symm e) this
            have key : ∀ (m x : Nat), dD E y' x ≤ m → dD E y' x < FAR → x ≠ y' → False := by
              intro m
              induction m with
              | zero => intro x hx _ hne; obtain ⟨x2, w2, s1, s2⟩ := hD.2.2.2 x hne (by omega); have := (hE x2 x w2 s1).2.2.1; omega
              | succ m ih =>
                intro x hx hxF hne
                obtain ⟨x2, w2, s1, s2⟩ := hD.2.2.2 x hne hxF
                have t := hE x2 x w2 s1
                by_cases e2 : x2 = y'
                · subst e2; exact h8 t.1
                · exact ih x2 (by omega) (by omega) e2
            exact (key _ z (Nat.le_refl _) this (Ne.symm e)).elim
          · exact (e r.symm).elim
  have hle : ∀ y, dn y = false → dD E src z ≤ dD E src y := by
    intro y hy
    rcases Nat.lt_or_ge (dD E src y) (dD E src z) with q | q
    · exfalso
      obtain ⟨y', g1, g2, g3⟩ := H.near hE _ y (Nat.le_refl _) hy (by have := hD.2.1 z; omega)
      rcases far8 y' (by have := hD.2.1 z; omega) with r | r
      · have := hmin y' r g1
        omega
      · subst r
        rcases far8 z (by omega) with t | t
        · by_cases h8 : y' < 8
          · have := hmin y' h8 g1; omega
          · have key : ∀ (m x : Nat), dD E y' x ≤ m → dD E y' x < FAR → x ≠ y' → False := by
              intro m
              induction m with
              | zero => intro x hx _ hne; obtain ⟨x2, w2, s1, s2⟩ := hD.2.2.2 x hne (by omega); have := (hE x2 x w2 s1).2.2.1; omega
              | succ m ih =>
                intro x hx hxF hne
                obtain ⟨x2, w2, s1, s2⟩ := hD.2.2.2 x hne hxF
                have t := hE x2 x w2 s1
                by_cases e2 : x2 = y'
                · subst e2; exact h8 t.1
                · exact ih x2 (by omega) (by omega) e2
            have hzy : z ≠ y' := fun e => h8 (by omega)
            exact key _ z (Nat.le_refl _) (by omega) hzy
        · subst t
          rw [hD.1] at q
          omega
    · exact q
  obtain ⟨⟨a1, a2⟩, b, c, d, e⟩ := H
  refine ⟨⟨⟨a1, a2⟩, b, fun y hy => ?_, fun x y w hx => ?_, e⟩, fun x hx => ?_, fun x y hx hy => ?_⟩
  · unfold dup at hy
    by_cases q : y = z
    · subst q; exact ⟨hfz, hF, hz8⟩
    · rw [if_neg q] at hy; exact c y hy
  · obtain ⟨d1, d2, d3⟩ := d x y w hx
    refine ⟨d1, ?_, d3⟩
    unfold dup; split
    · rfl
    · exact d2
  · unfold dup at hx
    by_cases q : x = z
    · subst q; exact Nat.le_refl _
    · rw [if_neg q] at hx; exact hord x z hx hz
  · unfold dup at hx hy
    by_cases q2 : y = z
    · rw [if_pos q2] at hy; cases hy
    · rw [if_neg q2] at hy
      by_cases q : x = z
      · subst q; exact hle y hy
      · rw [if_neg q] at hx; exact hord x y hx hy
theorem DI.done {E : Eg} (hE : EgOk E) {src : Nat} (hs8 : src < 8) {dn : Nat → Bool} {f h : Nat → Nat} (H : DI E src (fun x y w => dn x = true ∧ E x y w) dn f h) (hall : ∀ y, y < 8 → dn y = true ∨ ¬ f y < FAR) : f = dD E src ∧ h = hD E src := by
  have hD := dD_is hE src
  have hf : ∀ y, f y = dD E src y := by
    intro y
    have h1 := (H.2.1 y)
    rcases Nat.lt_or_ge (dD E src y) FAR with q | q
    · have hy8 : y < 8 := by
        by_cases e : y = src
        · omega
        · obtain ⟨x, w, g1, -⟩ := hD.2.2.2 y e q
          exact (hE x y w g1).2.1
      cases hd : dn y with
      | true => exact (H.2.2.1 y hd).1
      | false =>
        exfalso
        obtain ⟨y', g1, g2, g3⟩ := H.near hE _ y (Nat.le_refl _) hd q
        have hy8' : y' < 8 := by
          by_cases e : y' = src
          · omega
          · obtain ⟨x, w, g1, -⟩ := hD.2.2.2 y' e (by omega)
            exact (hE x y' w g1).2.1
        rcases hall y' hy8' with r | r
        · rw [r] at g1; cases g1
        · omega
    · omega
  have hfe : f = dD E src := funext hf
  refine ⟨hfe, hD_eq hE fun y => ?_⟩
  obtain ⟨⟨a1, a2⟩, b, c, d, e⟩ := H
  refine ⟨fun q => ?_, fun hy hF => ?_⟩
  · rcases q with q | q
    · rw [q]; exact a2
    · by_cases e0 : y = src
      · rw [e0]; exact a2
      · exact (e y e0).1 (by rw [hf y]; exact q)
  · obtain ⟨-, ⟨x, w, g1, g2, g3⟩, g4⟩ := (e y hy).2 (by rw [hf y]; exact hF)
    refine ⟨⟨x, w, g1.2, by rw [← hf y]; exact g2, g3⟩, fun x1 w1 he ht => g4 x1 w1 ⟨?_, he⟩ (by rw [hf y]; exact ht)⟩
    have h8 := (hE x1 y w1 he).1
    rcases hall x1 h8 with r | r
    · exact r
    · rw [hf x1] at r; omega
theorem DI.init {E : Eg} (hE : EgOk E) {src : Nat} : DI E src (fun x y w => (fun _ => false) x = true ∧ E x y w) (fun _ => false) (f0 src) (fun _ => 8) := by
  have hD := dD_is hE src
  refine ⟨⟨by unfold f0; simp, rfl⟩, fun y => ?_, fun y hy => (by cases hy), fun x y w hx => (by cases hx.1), fun y hy => ⟨fun _ => rfl, fun hF => ?_⟩⟩
  · unfold f0
    by_cases e : y = src
    · subst e; rw [hD.1]; simp
    · rw [if_neg e]; exact ⟨hD.2.1 y, Nat.le_refl _⟩
  · unfold f0 at hF
    rw [if_neg hy] at hF
    exact absurd hF (Nat.lt_irrefl _)
