/-! distances and first hops over edges of positive cost, among eight nodes: each is one function, whoever computes it -/
abbrev Eg : Type := Nat → Nat → Nat → Prop
def FAR : Nat := 9999
/-- the edges: among eight, of cost 1 .. 99 -/
def EgOk (E : Eg) : Prop := ∀ x y w, E x y w → x < 8 ∧ y < 8 ∧ 0 < w ∧ w ≤ 99
def IsD (E : Eg) (src : Nat) (f : Nat → Nat) : Prop :=
  f src = 0 ∧ (∀ y, f y ≤ FAR) ∧ (∀ x y w, E x y w → f y ≤ f x + w) ∧ ∀ y, y ≠ src → f y < FAR → ∃ x w, E x y w ∧ f x + w = f y
theorem IsD.le {E : Eg} {src : Nat} {f g : Nat → Nat} (hE : EgOk E) (hf : IsD E src f) (hg : IsD E src g) : ∀ (k y : Nat), f y ≤ k → g y ≤ f y := by
  intro k
  induction k with
  | zero =>
    intro y hy
    by_cases e : y = src
    · subst e; rw [hg.1]; exact Nat.zero_le _
    · obtain ⟨x, w, h1, h2⟩ := hf.2.2.2 y e (by unfold FAR; omega)
      have := (hE x y w h1).2.2.1
      omega
  | succ k ih =>
    intro y hy
    by_cases e : y = src
    · subst e; rw [hg.1]; exact Nat.zero_le _
    · by_cases hF : f y < FAR
      · obtain ⟨x, w, h1, h2⟩ := hf.2.2.2 y e hF
        have hw := (hE x y w h1).2.2.1
        have h3 := ih x (by omega)
        have h4 := hg.2.2.1 x y w h1
        omega
      · have := hg.2.1 y
        omega
theorem IsD.uniq {E : Eg} {src : Nat} {f g : Nat → Nat} (hE : EgOk E) (hf : IsD E src f) (hg : IsD E src g) : f = g := by
  funext y
  exact Nat.le_antisymm (hg.le hE hf _ y (Nat.le_refl _)) (hf.le hE hg _ y (Nat.le_refl _))
/-- counting among the first n -/
def cntP : Nat → (Nat → Bool) → Nat
  | 0, _ => 0
  | n + 1, p => cntP n p + if p n then 1 else 0
theorem cntP_le (n : Nat) (p : Nat → Bool) : cntP n p ≤ n := by
  induction n with
  | zero => exact Nat.le_refl _
  | succ n ih => unfold cntP; split <;> omega
theorem cntP_mono {n : Nat} {p q : Nat → Bool} (h : ∀ i, i < n → p i = true → q i = true) : cntP n p ≤ cntP n q := by
  induction n with
  | zero => exact Nat.le_refl _
  | succ n ih =>
    have := ih (fun i hi => h i (by omega))
    have h2 := h n (by omega)
    unfold cntP
    by_cases e : p n = true
    · simp [e, h2 e]; exact this
    · simp [e]; omega
theorem cntP_lt {n : Nat} {p q : Nat → Bool} (h : ∀ i, i < n → p i = true → q i = true) {y : Nat} (hy : y < n) (h1 : p y = false) (h2 : q y = true) : cntP n p < cntP n q := by
  induction n with
  | zero => omega
  | succ n ih =>
    unfold cntP
    by_cases e : y = n
    · subst e
      have := cntP_mono (n := y) (p := p) (q := q) (fun i hi => h i (by omega))
      simp [h1, h2]; omega
    · have := ih (fun i hi => h i (by omega)) (by omega)
      have h3 := h n (by omega)
      by_cases e2 : p n = true
      · simp [e2, h3 e2]; exact this
      · simp [e2]; omega
theorem cntP_all {n : Nat} {p : Nat → Bool} (h : cntP n p = n) : ∀ i, i < n → p i = true := by
  intro i hi
  cases hp : p i with
  | true => rfl
  | false =>
    have := cntP_lt (n := n) (p := p) (q := fun _ => true) (fun _ _ _ => rfl) hi hp rfl
    have := cntP_le n (fun _ => true)
    omega
theorem cntP_ext {n : Nat} {p q : Nat → Bool} (h : ∀ i, i < n → p i = q i) : cntP n p = cntP n q :=
  Nat.le_antisymm (cntP_mono fun i hi hp => by rw [← h i hi]; exact hp) (cntP_mono fun i hi hp => by rw [h i hi]; exact hp)
/-- what relaxing keeps -/
def Rlx (E : Eg) (src : Nat) (f : Nat → Nat) : Prop :=
  f src = 0 ∧ (∀ y, f y ≤ FAR) ∧ ∀ y, y ≠ src → f y < FAR → ∃ x w, E x y w ∧ f x + w ≤ f y
def fup (f : Nat → Nat) (y v : Nat) : Nat → Nat := fun z => if z = y then v else f z
theorem Rlx.step {E : Eg} (hE : EgOk E) {src : Nat} {f : Nat → Nat} (h : Rlx E src f) {x y w : Nat} (he : E x y w) (hl : f x + w < f y) : Rlx E src (fup f y (f x + w)) := by
  obtain ⟨h0, h1, h2⟩ := h
  obtain ⟨-, -, hw, -⟩ := hE x y w he
  have hys : y ≠ src := by intro e; subst e; omega
  have hxy : x ≠ y := by intro e; subst e; omega
  refine ⟨by simp [fup, Ne.symm hys, h0], fun z => ?_, fun z hz hzF => ?_⟩
  · unfold fup; split
    · have := h1 y; omega
    · exact h1 z
  · by_cases e : z = y
    · subst e
      exact ⟨x, w, he, by simp [fup, hxy]⟩
    · have hz' : fup f y (f x + w) z = f z := by simp [fup, e]
      rw [hz'] at hzF ⊢
      obtain ⟨x', w', a1, a2⟩ := h2 z hz hzF
      refine ⟨x', w', a1, ?_⟩
      by_cases e2 : x' = y
      · subst e2
        simp only [fup, if_true]; omega
      · simp only [fup, if_neg e2]; exact a2
def sum8 (f : Nat → Nat) : Nat := f 0 + f 1 + f 2 + f 3 + f 4 + f 5 + f 6 + f 7
theorem sum8_up {f : Nat → Nat} {y v : Nat} (hy : y < 8) (hv : v < f y) : sum8 (fup f y v) < sum8 f := by
  unfold sum8 fup
  rcases (show y = 0 ∨ y = 1 ∨ y = 2 ∨ y = 3 ∨ y = 4 ∨ y = 5 ∨ y = 6 ∨ y = 7 by omega) with rfl | rfl | rfl | rfl | rfl | rfl | rfl | rfl <;> simp <;> omega
theorem exD_aux {E : Eg} (hE : EgOk E) {src : Nat} : ∀ (S : Nat) (f : Nat → Nat), sum8 f ≤ S → Rlx E src f → ∃ g, IsD E src g := by
  intro S
  induction S with
  | zero =>
    intro f hS h
    by_cases hx : ∃ x y w, E x y w ∧ f x + w < f y
    · obtain ⟨x, y, w, he, hl⟩ := hx
      have := sum8_up (f := f) (hE x y w he).2.1 hl
      omega
    · refine ⟨f, h.1, h.2.1, fun x y w he => Nat.le_of_not_lt fun q => hx ⟨x, y, w, he, q⟩, fun y hy hF => ?_⟩
      obtain ⟨x, w, a, b⟩ := h.2.2 y hy hF
      exact ⟨x, w, a, Nat.le_antisymm b (Nat.le_of_not_lt fun q => hx ⟨x, y, w, a, q⟩)⟩
  | succ S ih =>
    intro f hS h
    by_cases hx : ∃ x y w, E x y w ∧ f x + w < f y
    · obtain ⟨x, y, w, he, hl⟩ := hx
      have := sum8_up (f := f) (hE x y w he).2.1 hl
      exact ih _ (by omega) (h.step hE he hl)
    · refine ⟨f, h.1, h.2.1, fun x y w he => Nat.le_of_not_lt fun q => hx ⟨x, y, w, he, q⟩, fun y hy hF => ?_⟩
      obtain ⟨x, w, a, b⟩ := h.2.2 y hy hF
      exact ⟨x, w, a, Nat.le_antisymm b (Nat.le_of_not_lt fun q => hx ⟨x, y, w, a, q⟩)⟩
def f0 (src : Nat) : Nat → Nat := fun y => if y = src then 0 else FAR
theorem Rlx_f0 {E : Eg} {src : Nat} : Rlx E src (f0 src) := by
  refine ⟨by unfold f0; rw [if_pos rfl], fun y => ?_, fun y hy hF => ?_⟩
  · unfold f0; split
    · exact Nat.zero_le _
    · exact Nat.le_refl _
  · unfold f0 at hF
    rw [if_neg hy] at hF
    exact absurd hF (Nat.lt_irrefl _)
theorem exD {E : Eg} (hE : EgOk E) (src : Nat) : ∃ g, IsD E src g := exD_aux hE _ _ (Nat.le_refl _) Rlx_f0
noncomputable def dD (E : Eg) (src : Nat) : Nat → Nat := Classical.epsilon (IsD E src)
theorem dD_is {E : Eg} (hE : EgOk E) (src : Nat) : IsD E src (dD E src) := Classical.epsilon_spec (exD hE src)
theorem dD_eq {E : Eg} (hE : EgOk E) {src : Nat} {f : Nat → Nat} (h : IsD E src f) : f = dD E src := h.uniq hE (dD_is hE src)
/-- rounds of relaxing: what is above the distances, is above them behind a step -/
theorem dD_relax {E : Eg} (hE : EgOk E) {src x y w : Nat} {g : Nat → Nat} (hg : ∀ z, dD E src z ≤ g z) (he : E x y w) : dD E src y ≤ g x + w := by
  have h1 := (dD_is hE src).2.2.1 x y w he
  have h2 := hg x
  omega
/-- a round that relaxes every edge makes one more of them right -/
theorem dD_round {E : Eg} (hE : EgOk E) {src k : Nat} {g g' : Nat → Nat} (h0 : ∀ z, dD E src z ≤ g z) (hF : ∀ z, g z ≤ FAR) (h1 : ∀ z, dD E src z ≤ g' z) (h2 : ∀ z, g' z ≤ g z) (hr : ∀ x y w, E x y w → g x = dD E src x → g' y ≤ dD E src x + w)
    (hs : g src = 0) (hc : k ≤ cntP 8 (fun y => decide (g y = dD E src y))) (hk : k < 8) : k + 1 ≤ cntP 8 (fun y => decide (g' y = dD E src y)) := by
  have hm : ∀ i, i < 8 → decide (g i = dD E src i) = true → decide (g' i = dD E src i) = true := by
    intro i _ h
    have h := of_decide_eq_true h
    have a := h1 i
    have b := h2 i
    exact decide_eq_true (by omega)
  by_cases hall : ∀ i, i < 8 → g i = dD E src i
  · have : cntP 8 (fun y => decide (g' y = dD E src y)) = cntP 8 (fun _ => true) := cntP_ext (fun i hi => by rw [hm i hi (decide_eq_true (hall i hi))])
    rw [this]
    have : cntP 8 (fun _ => true) = 8 := by decide
    omega
  · -- the least wrong one
    have hD := dD_is hE src
    have key : ∀ (m : Nat) (y : Nat), y < 8 → dD E src y ≤ m → g y ≠ dD E src y → ∃ z, z < 8 ∧ g z ≠ dD E src z ∧ ∀ x, x < 8 → dD E src x < dD E src z → g x = dD E src x := by
      intro m
      induction m with
      | zero => intro y hy hm' hne; exact ⟨y, hy, hne, fun x _ hx => by omega⟩
      | succ m ih =>
        intro y hy hm' hne
        by_cases hx : ∃ x, x < 8 ∧ dD E src x < dD E src y ∧ g x ≠ dD E src x
        · obtain ⟨x, a, b, c⟩ := hx
          exact ih x a (by omega) c
        · exact ⟨y, hy, hne, fun x a b => Classical.byContradiction fun c => hx ⟨x, a, b, c⟩⟩
    obtain ⟨y, hy, hne⟩ : ∃ y, y < 8 ∧ g y ≠ dD E src y := Classical.byContradiction fun q => hall fun i hi => Classical.byContradiction fun q2 => q ⟨i, hi, q2⟩
    obtain ⟨z, hz, hzn, hzm⟩ := key _ y hy (Nat.le_refl _) hne
    have hzF : dD E src z < FAR := by
      have a := h0 z
      have b := hF z
      rcases Nat.lt_or_ge (dD E src z) FAR with q | q
      · exact q
      · exact absurd (show g z = dD E src z by omega) hzn
    have hzs : z ≠ src := by
      intro e
      rw [e, hs, hD.1] at hzn
      exact hzn rfl
    obtain ⟨x, w, he, hw⟩ := hD.2.2.2 z hzs hzF
    obtain ⟨q1, q2, q3, q4⟩ := hE x z w he
    have hx := hzm x q1 (by omega)
    have h3 := hr x z w he hx
    have h4 := h1 z
    have := cntP_lt hm hz (decide_eq_false hzn) (decide_eq_true (show g' z = dD E src z by omega))
    omega
theorem dD_done {E : Eg} {src : Nat} {g : Nat → Nat} (h : 8 ≤ cntP 8 (fun y => decide (g y = dD E src y))) : ∀ y, y < 8 → g y = dD E src y := fun y hy =>
  of_decide_eq_true (cntP_all (Nat.le_antisymm (cntP_le _ _) h) y hy)
/-! first hops: 8 is none -/
def cnd (src : Nat) (h : Nat → Nat) (x y : Nat) : Nat := if x = src then y else h x
def IsH (E : Eg) (src : Nat) (f h : Nat → Nat) : Prop :=
  ∀ y, ((y = src ∨ ¬ f y < FAR) → h y = 8) ∧ (y ≠ src → f y < FAR → (∃ x w, E x y w ∧ f x + w = f y ∧ cnd src h x y = h y) ∧ ∀ x w, E x y w → f x + w = f y → h y ≤ cnd src h x y)
theorem IsH.uniq {E : Eg} (hE : EgOk E) {src : Nat} {f h h' : Nat → Nat} (a : IsH E src f h) (b : IsH E src f h') : h = h' := by
  funext y
  have key : ∀ (k y : Nat), f y ≤ k → h y = h' y := by
    intro k
    induction k with
    | zero =>
      intro y hy
      by_cases e : y = src ∨ ¬ f y < FAR
      · rw [(a y).1 e, (b y).1 e]
      · have e1 : y ≠ src := fun q => e (Or.inl q)
        have e2 : f y < FAR := Classical.byContradiction fun q => e (Or.inr q)
        obtain ⟨⟨x, w, h1, h2, h3⟩, -⟩ := (a y).2 e1 e2
        have := (hE x y w h1).2.2.1
        omega
    | succ k ih =>
      intro y hy
      by_cases e : y = src ∨ ¬ f y < FAR
      · rw [(a y).1 e, (b y).1 e]
      · have e1 : y ≠ src := fun q => e (Or.inl q)
        have e2 : f y < FAR := Classical.byContradiction fun q => e (Or.inr q)
        obtain ⟨⟨x, w, h1, h2, h3⟩, h4⟩ := (a y).2 e1 e2
        obtain ⟨⟨x', w', g1, g2, g3⟩, g4⟩ := (b y).2 e1 e2
        have p1 := (hE x y w h1).2.2.1
        have p2 := (hE x' y w' g1).2.2.1
        have r1 := ih x (by omega)
        have r2 := ih x' (by omega)
        have s1 := g4 x w h1 h2
        have s2 := h4 x' w' g1 g2
        have t1 : cnd src h x y = cnd src h' x y := by unfold cnd; rw [r1]
        have t2 : cnd src h x' y = cnd src h' x' y := by unfold cnd; rw [r2]
        omega
  exact key _ y (Nat.le_refl _)
noncomputable def hD (E : Eg) (src : Nat) : Nat → Nat := Classical.epsilon (IsH E src (dD E src))
theorem hD_eq {E : Eg} (hE : EgOk E) {src : Nat} {h : Nat → Nat} (a : IsH E src (dD E src) h) : h = hD E src := a.uniq hE (Classical.epsilon_spec (p := IsH E src (dD E src)) ⟨h, a⟩)
