/-! the true distances: Links.spread, leastCost, joinedTo -/
theorem fill_loop {E : JE} {u0 : JM} {K : JM → Prop} {A m : Nat} (hk : jkd A = .inr (.int, m)) (hl : A < NC) {v : Int32} (hm : m < 2147483648)
    (hE : ∀ u, same u0 u (· = A) → (∀ i, i < m → u A i = v) → K u) :
    ∀ (j k : Nat) (u : JM), j + k = m → same u0 u (· = A) → (∀ i, i < k → u A i = v) → JVu E 1 YJ7_fill_53178 K 5 [some (.ref A), some (.int v), some (.int (nI k)), some (.int (nI m))] [] u := by
  intro j
  induction j with
  | zero =>
    intro k u hj hs ht
    obtain rfl : k = m := by omega
    exact g_J7_fill_53178_5 hk hl ⟨fun _ => hE u hs ht, fun c => absurd (nI_le (Nat.le_refl _) hm) c⟩
  | succ j ih =>
    intro k u hj hs ht
    refine g_J7_fill_53178_5 hk hl ⟨fun c => absurd c (nI_ge (by omega) hm), fun _ => ⟨vpI (by omega) hm, ?_⟩⟩
    rw [nI_cl (by omega), nI_1]
    intro u1 hu
    refine ih (k + 1) u1 (by omega) (by rw [hu]; exact hs.jw rfl) fun i hi => ?_
    rw [hu, jw_at]
    split
    · rfl
    · exact ht i (by omega)
theorem c_fill {E : JE} {u0 : JM} {K : JM → Prop} {A m : Nat} (hk : jkd A = .inr (.int, m)) (hl : A < NC) {v : Int32} (hm : m < 2147483648)
    (hE : ∀ u, same u0 u (· = A) → (∀ i, i < m → u A i = v) → K u) : JCu E 1 YJ7_fill_53178 [.ref A, .int v] K u0 := by
  refine JCu.ofV (ls := [some (.ref A), some (.int v), none, none]) (by decide +kernel) (Nat.le_of_ble_eq_true rfl) rfl rfl (g_J7_fill_53178_0 hk hl ?_)
  exact fill_loop hk hl hm hE m 0 u0 (by omega) same.rfl (fun i hi => absurd hi (Nat.not_lt_zero i))
/-- the true network's edges: links that are up, but for one -/
def Et (s : St) (wo : Nat) : Eg := fun x y w => ∃ l, l < s 0 0 ∧ l ≠ wo ∧ s 6 l = 1 ∧ ((s 1 l = x ∧ s 2 l = y ∧ w = s 4 l) ∨ (s 2 l = x ∧ s 1 l = y ∧ w = s 5 l))
theorem Et_ok {s : St} (w : WL s) (wo : Nat) : EgOk (Et s wo) := by
  rintro x y c ⟨l, hl, -, -, h⟩
  obtain ⟨w1, w2, -, -, w5, w6, -⟩ := w.2 l hl
  rcases h with ⟨e1, e2, e3⟩ | ⟨e1, e2, e3⟩
  · subst e1; subst e2; subst e3; exact ⟨w1, w2, w5.1, w5.2⟩
  · subst e1; subst e2; subst e3; exact ⟨w2, w1, w6.1, w6.2⟩
def LE (N : Nat) (f : Nat → Nat) (u : JM) : Prop := ∀ y, y < 8 → u (N + 8) y = nI (f y)
theorem LE.jw {N y v : Nat} {f : Nat → Nat} {u : JM} (h : LE N f u) : LE N (fup f y v) (jw u (N + 8) y (nI v)) := by
  intro z hz
  rw [jw_at]
  unfold fup
  split
  · rfl
  · exact h z hz
/-- within a round: above the true ones, not above the round's first, and what is passed is relaxed -/
def RI (s : St) (wo src : Nat) (g : Nat → Nat) (k : Nat) (f : Nat → Nat) : Prop :=
  (∀ z, dD (Et s wo) src z ≤ f z) ∧ (∀ z, f z ≤ g z) ∧ ∀ l, l < k → l ≠ wo → s 6 l = 1 → (g (s 1 l) = dD (Et s wo) src (s 1 l) → f (s 2 l) ≤ dD (Et s wo) src (s 1 l) + s 4 l) ∧ (g (s 2 l) = dD (Et s wo) src (s 2 l) → f (s 1 l) ≤ dD (Et s wo) src (s 2 l) + s 5 l)
theorem RI.skip {s : St} {wo src k : Nat} {g f : Nat → Nat} (h : RI s wo src g k f) (hk : k = wo ∨ ¬ s 6 k = 1) : RI s wo src g (k + 1) f := by
  refine ⟨h.1, h.2.1, fun l hl h1 h2 => ?_⟩
  rcases Nat.lt_or_ge l k with q | q
  · exact h.2.2 l q h1 h2
  · obtain rfl : l = k := by omega
    exact hk.elim (fun e => absurd e h1) (fun e => absurd h2 e)
def mn (a b : Nat) : Nat := if a ≤ b then a else b
theorem mn_le (a b : Nat) : mn a b ≤ a := by unfold mn; split <;> omega
theorem mn_le' (a b : Nat) : mn a b ≤ b := by unfold mn; split <;> omega
theorem le_mn {a b c : Nat} (h : c ≤ a) (h' : c ≤ b) : c ≤ mn a b := by unfold mn; split <;> omega
theorem fup_le {f : Nat → Nat} {y v : Nat} (h : v ≤ f y) : ∀ z, fup f y v z ≤ f z := by
  intro z
  unfold fup
  split
  · rename_i e; rw [e]; exact h
  · exact Nat.le_refl _
theorem le_fup {d f : Nat → Nat} {y v : Nat} (h : ∀ z, d z ≤ f z) (h' : d y ≤ v) : ∀ z, d z ≤ fup f y v z := by
  intro z
  unfold fup
  split
  · rename_i e; rw [e]; exact h'
  · exact h z
theorem RI.pass {s : St} (w : WL s) {wo src k : Nat} {g f : Nat → Nat} (h : RI s wo src g k f) (hk : k < s 0 0) (h1 : k ≠ wo) (h2 : s 6 k = 1) :
    RI s wo src g (k + 1) (fup (fup f (s 2 k) (mn (f (s 2 k)) (f (s 1 k) + s 4 k))) (s 1 k) (mn (fup f (s 2 k) (mn (f (s 2 k)) (f (s 1 k) + s 4 k)) (s 1 k)) (fup f (s 2 k) (mn (f (s 2 k)) (f (s 1 k) + s 4 k)) (s 2 k) + s 5 k))) := by
  obtain ⟨-, -, ne, -⟩ := w.2 k hk
  have e1 : Et s wo (s 1 k) (s 2 k) (s 4 k) := ⟨k, hk, h1, h2, Or.inl ⟨rfl, rfl, rfl⟩⟩
  have e2 : Et s wo (s 2 k) (s 1 k) (s 5 k) := ⟨k, hk, h1, h2, Or.inr ⟨rfl, rfl, rfl⟩⟩
  obtain ⟨a, b, c⟩ := h
  have E := Et_ok w wo
  generalize hf1 : fup f (s 2 k) (mn (f (s 2 k)) (f (s 1 k) + s 4 k)) = f1
  have l1 : ∀ z, f1 z ≤ f z := by rw [← hf1]; exact fup_le (mn_le _ _)
  have d1 : ∀ z, dD (Et s wo) src z ≤ f1 z := by rw [← hf1]; exact le_fup a (le_mn (a _) (dD_relax E a e1))
  have r1 : f1 (s 2 k) ≤ f (s 1 k) + s 4 k := by
    rw [← hf1]; unfold fup; rw [if_pos rfl]; exact mn_le' _ _
  have l2 : ∀ z, fup f1 (s 1 k) (mn (f1 (s 1 k)) (f1 (s 2 k) + s 5 k)) z ≤ f1 z := fup_le (mn_le _ _)
  refine ⟨le_fup d1 (le_mn (d1 _) (dD_relax E d1 e2)), fun z => Nat.le_trans (l2 z) (Nat.le_trans (l1 z) (b z)), fun l hl g1 g2 => ?_⟩
  rcases Nat.lt_or_ge l k with q | q
  · obtain ⟨p1, p2⟩ := c l q g1 g2
    exact ⟨fun e => Nat.le_trans (l2 _) (Nat.le_trans (l1 _) (p1 e)), fun e => Nat.le_trans (l2 _) (Nat.le_trans (l1 _) (p2 e))⟩
  · obtain rfl : l = k := by omega
    refine ⟨fun e => ?_, fun e => ?_⟩
    · have := l2 (s 2 l)
      have := b (s 1 l)
      omega
    · have q1 : fup f1 (s 1 l) (mn (f1 (s 1 l)) (f1 (s 2 l) + s 5 l)) (s 1 l) ≤ f1 (s 2 l) + s 5 l := by
        unfold fup; rw [if_pos rfl]; exact mn_le' _ _
      have := l1 (s 2 l)
      have := b (s 2 l)
      omega
theorem RI.round {s : St} (w : WL s) {wo src k : Nat} {g f : Nat → Nat} (hsrc : src < 8) (h0 : ∀ z, dD (Et s wo) src z ≤ g z) (hF : ∀ z, g z ≤ FAR) (hs : g src = 0) (h : RI s wo src g (s 0 0) f)
    (hc : k ≤ cntP 8 (fun y => decide (g y = dD (Et s wo) src y))) (hk : k < 8) : k + 1 ≤ cntP 8 (fun y => decide (f y = dD (Et s wo) src y)) := by
  refine dD_round (Et_ok w wo) h0 hF h.1 h.2.1 ?_ hs hc hk
  rintro x y c ⟨l, hl, l1, l2, h'⟩ hx
  obtain ⟨p1, p2⟩ := h.2.2 l hl l1 l2
  rcases h' with ⟨e1, e2, e3⟩ | ⟨e1, e2, e3⟩
  · subst e1; subst e2; subst e3; exact p1 hx
  · subst e1; subst e2; subst e3; exact p2 hx
theorem mn_nI {a b : Nat} (ha : a < 2147483648) (hb : b < 2147483648) : (if nI a ≤ nI b then nI a else nI b) = nI (mn a b) := by
  unfold mn
  by_cases c : a ≤ b
  · rw [if_pos (nI_le c hb), if_pos c]
  · rw [if_neg (nI_ge (by omega) ha), if_neg c]
def inL (N : Nat) : Nat → Prop := fun b => b = N + 8
theorem spread_round {E : JE} {u0 : JM} {K : JM → Prop} {N : Nat} (hN : isNet N) {s : St} (hL : CL N s u0) (w : WL s) {src wo i : Nat} {g : Nat → Nat} (hF : ∀ z, g z ≤ FAR)
    (hE : ∀ u f, same u0 u (inL N) → LE N f u → RI s wo src g (s 0 0) f → JVu E 2 YX1_spread K 19 [some (.ref (N + 1)), some (.int (nI src)), some (.int (lkI wo)), some (.int (nI (i + 1))), none, none, none] [] u) :
    ∀ (m k : Nat) (u : JM) (f : Nat → Nat), m + k = s 0 0 → same u0 u (inL N) → LE N f u → RI s wo src g k f → JVu E 2 YX1_spread K 28 [some (.ref (N + 1)), some (.int (nI src)), some (.int (lkI wo)), some (.int (nI i)), some (.int (nI k)), none, none] [] u := by
  have h12 := w.1
  intro m
  induction m with
  | zero =>
    intro k u f hm hs hT hI
    have hL := hL.congr (u' := u) fun j _ _ => hs _ (by unfold inL; omega)
    obtain rfl : k = s 0 0 := by omega
    refine g_X1_spread_28 hN ⟨fun _ => ?_, fun c => ?_⟩
    · rw [nI_1]; exact hE u f hs hT hI
    · rw [hL.1] at c
      exact absurd (nI_le (Nat.le_refl _) (by omega)) c
  | succ m ih =>
    intro k u f hm hs hT hI
    have hL' := hL.congr (u' := u) fun j _ _ => hs _ (by unfold inL; omega)
    have hk : k < s 0 0 := by omega
    have c0 : ¬ u (N + 1) 0 ≤ nI k := by rw [hL'.1]; exact nI_ge hk (by omega)
    obtain ⟨l1, l2, -, l4, l5, l6⟩ := hL'.2.1 k hk
    obtain ⟨w1, w2, wn, -, w5, w6, w7⟩ := w.2 k hk
    refine g_X1_spread_28 hN ⟨fun c => absurd c c0, fun _ => ⟨vpI (by omega) (by omega), ?_⟩⟩
    rw [nI_cl (show k < 2147483648 by omega), nI_1, l1, l2, l4, l6]
    refine ⟨fun c => ?_, fun c => ⟨fun c2 => ?_, fun c2 => ?_⟩⟩
    · refine ih (k + 1) u f (by omega) hs hT (hI.skip (Or.inr fun q => ?_))
      rw [q] at c
      exact absurd c (by decide)
    · refine ih (k + 1) u f (by omega) hs hT (hI.skip (Or.inl ?_))
      unfold lkI at c2
      split at c2
      · exact nI_inj (by omega) (by omega) c2
      · exact absurd c2 (m1_ne (by omega))
    · have q1 : s 6 k = 1 := by
        rcases (show s 6 k = 0 ∨ s 6 k = 1 by omega) with q | q
        · rw [q] at c; exact absurd rfl c
        · exact q
      have q2 : k ≠ wo := by
        intro e
        apply c2
        rw [← e, lkI_lt (by omega)]
      intro i5 h5 i6 h6
      subst h5; subst h6
      rw [nI_cl (show s 2 k < 2147483648 by omega), nI_cl (show s 1 k < 2147483648 by omega)]
      refine ⟨vpI w2 (by omega), vpI w1 (by omega), fun u3 h3 u4 h4 => ?_⟩
      have hb : ∀ z, f z ≤ 9999 := fun z => Nat.le_trans (hI.2.1 z) (hF z)
      have hb1 := hb (s 1 k)
      have hb2 := hb (s 2 k)
      rw [hT _ w2, hT _ w1, nI_add, mn_nI (by omega) (by omega)] at h3
      have hT3 : LE N (fup f (s 2 k) (mn (f (s 2 k)) (f (s 1 k) + s 4 k))) u3 := by rw [h3]; exact hT.jw
      have hs3 : same u0 u3 (inL N) := by rw [h3]; exact hs.jw rfl
      have g1 := (hL.congr (u' := u3) fun j _ _ => hs3 _ (by unfold inL; omega)).2.1 k hk
      have hm1 := mn_le (f (s 2 k)) (f (s 1 k) + s 4 k)
      have hp := hI.pass w hk q2 q1
      have hg1 : fup f (s 2 k) (mn (f (s 2 k)) (f (s 1 k) + s 4 k)) (s 1 k) ≤ 9999 := Nat.le_trans (fup_le hm1 _) (hb _)
      have hg2 : fup f (s 2 k) (mn (f (s 2 k)) (f (s 1 k) + s 4 k)) (s 2 k) ≤ 9999 := Nat.le_trans (fup_le hm1 _) (hb _)
      rw [hT3 _ w2, hT3 _ w1, g1.2.2.2.2.1, nI_add, mn_nI (by omega) (by omega)] at h4
      refine ih (k + 1) u4 _ (by omega) (by rw [h4]; exact hs3.jw rfl) (by rw [h4]; exact hT3.jw) hp
theorem spread_loop {E : JE} {u0 : JM} {K : JM → Prop} {N : Nat} (hN : isNet N) {s : St} (hL : CL N s u0) (w : WL s) {src wo : Nat} (hsrc : src < 8)
    (hE : ∀ u, same u0 u (inL N) → LE N (dD (Et s wo) src) u → K u) :
    ∀ (m i : Nat) (u : JM) (g : Nat → Nat), m + i = 8 → 1 ≤ i → same u0 u (inL N) → LE N g u → (∀ z, dD (Et s wo) src z ≤ g z) → (∀ z, g z ≤ FAR) → g src = 0 → i ≤ cntP 8 (fun y => decide (g y = dD (Et s wo) src y)) →
      JVu E 2 YX1_spread K 19 [some (.ref (N + 1)), some (.int (nI src)), some (.int (lkI wo)), some (.int (nI i)), none, none, none] [] u := by
  intro m
  induction m with
  | zero =>
    intro i u g hm h1 hs hT h0 hF hz hc
    obtain rfl : i = 8 := by omega
    refine g_X1_spread_19 hN ⟨fun _ => hE u hs fun y hy => ?_, fun c => absurd (show (8 : Int32) ≤ nI 8 by decide) c⟩
    rw [hT y hy, dD_done hc y hy]
  | succ m ih =>
    intro i u g hm h1 hs hT h0 hF hz hc
    refine g_X1_spread_19 hN ⟨fun c => absurd c (nI_ge (a := i) (b := 8) (by omega) (by omega)), fun _ => ?_⟩
    have hL' := hL.congr (u' := u) fun j _ _ => hs _ (by unfold inL; omega)
    refine spread_round hN hL' w hF (fun u' f q1 q2 q3 => ?_) (s 0 0) 0 u g (by omega) same.rfl hT ⟨h0, fun z => Nat.le_refl _, fun l hl => absurd hl (Nat.not_lt_zero l)⟩
    have hD := (dD_is (Et_ok w wo) src).1
    have : f src = 0 := by have := q3.2.1 src; omega
    exact ih (i + 1) u' f (by omega) (by omega) (hs.trans q1) q2 q3.1 (fun z => Nat.le_trans (q3.2.1 z) (hF z)) this (RI.round w hsrc h0 hF hz q3 hc (by omega))
theorem kd_least {N : Nat} (hN : isNet N) : jkd (N + 8) = .inr (.int, 8) := by rcases hN with rfl | rfl | rfl <;> decide +kernel
theorem c_X1_spread {E : JE} {u0 : JM} {K : JM → Prop} {N : Nat} (hN : isNet N) {s : St} (hL : CL N s u0) (w : WL s) {src wo : Nat} (hsrc : src < 8)
    (hE : ∀ u, same u0 u (inL N) → LE N (dD (Et s wo) src) u → K u) : JCu E 2 YX1_spread [.ref (N + 1), .int (nI src), .int (lkI wo)] K u0 := by
  refine JCu.ofV (ls := [some (.ref (N + 1)), some (.int (nI src)), some (.int (lkI wo)), none, none, none, none]) (by decide +kernel) (Nat.le_of_ble_eq_true rfl) rfl rfl (g_X1_spread_0 hN ?_)
  refine c_fill (kd_least hN) (lt_N hN 8 rfl) (by decide) fun u1 h1 h2 => ⟨vpI hsrc (by omega), fun u2 hu2 => ?_⟩
  rw [nI_cl (by omega)] at hu2
  have hD := dD_is (Et_ok w wo) src
  have h0 : ∀ z, dD (Et s wo) src z ≤ f0 src z := by
    intro z
    unfold f0
    split
    · rename_i e; rw [e, hD.1]; exact Nat.le_refl _
    · exact hD.2.1 z
  refine spread_loop hN hL w hsrc hE 7 1 u2 (f0 src) (by omega) (by omega) ?_ ?_ h0 ?_ ?_ ?_
  · rw [hu2]; exact same.jw h1 rfl
  · intro y hy
    rw [hu2, jw_at]
    unfold f0
    split
    · rfl
    · exact h2 y hy
  · intro z; unfold f0; split
    · exact Nat.zero_le _
    · exact Nat.le_refl _
  · unfold f0; rw [if_pos rfl]
  · have := cntP_lt (n := 8) (p := fun _ => false) (q := fun y => decide (f0 src y = dD (Et s wo) src y)) (fun _ _ h => by cases h) hsrc rfl (decide_eq_true (by unfold f0; rw [if_pos rfl, hD.1]))
    omega
theorem c_X1_leastCost {E : JE} {u0 : JM} {K : Int32 → JM → Prop} {N : Nat} (hN : isNet N) {s : St} (hL : CL N s u0) (w : WL s) {src to wo : Nat} (hsrc : src < 8) (hto : to < 8)
    (hE : ∀ u, same u0 u (inL N) → K (nI (dD (Et s wo) src to)) u) : JCi E 3 YX1_leastCost [.ref (N + 1), .int (nI src), .int (nI to), .int (lkI wo)] K u0 := by
  refine JCi.ofV (ls := [some (.ref (N + 1)), some (.int (nI src)), some (.int (nI to)), some (.int (lkI wo))]) (by decide +kernel) (Nat.le_of_ble_eq_true rfl) rfl rfl (g_X1_leastCost_0 hN ?_)
  refine c_X1_spread hN hL w hsrc fun u h1 h2 => ⟨vpI hto (by omega), ?_⟩
  rw [nI_cl (by omega), h2 to hto]
  exact hE u h1
noncomputable def jnS (s : St) (x : Nat) : Nat := bits 8 fun y => decide (dD (Et s 12) x y < 9999)
theorem joined_loop {E : JE} {u : JM} {K : Int32 → JM → Prop} {N : Nat} (hN : isNet N) {D : Nat → Nat} {src : Nat} (hT : LE N D u) (hF : ∀ z, D z ≤ FAR) (hK : K (nI (bits 8 fun y => decide (D y < 9999))) u) :
    ∀ (m k : Nat), m + k = 8 → JVi E 3 YX1_joinedTo K 10 [some (.ref (N + 1)), some (.int (nI src)), some (.int (nI (bits k fun y => decide (D y < 9999)))), some (.int (nI k))] [] u := by
  intro m
  induction m with
  | zero =>
    intro k hm
    obtain rfl : k = 8 := by omega
    exact g_X1_joinedTo_10 hN ⟨fun _ => hK, fun c => absurd (show (8 : Int32) ≤ nI 8 by decide) c⟩
  | succ m ih =>
    intro k hm
    refine g_X1_joinedTo_10 hN ⟨fun c => absurd c (nI_ge (a := k) (b := 8) (by omega) (by omega)), fun _ => ⟨vpI (by omega) (by omega), ?_⟩⟩
    rw [nI_cl (by omega), nI_1, nI_bit (by omega), hT k (by omega)]
    intro v hv
    have h := ih (k + 1) (by omega)
    have hb : D k ≤ 9999 := hF k
    rw [hv]
    by_cases c : D k < 9999
    · rw [if_neg (show ¬ (9999 : Int32) ≤ nI (D k) from nI_ge (a := D k) (b := 9999) c (by omega))]
      rw [show bits (k + 1) (fun y => decide (D y < 9999)) = bits k (fun y => decide (D y < 9999)) ||| 2 ^ k by simp [bits, c]] at h
      exact h
    · rw [if_pos (show (9999 : Int32) ≤ nI (D k) from nI_le (a := 9999) (b := D k) (by omega) (by omega))]
      rw [show bits (k + 1) (fun y => decide (D y < 9999)) = bits k (fun y => decide (D y < 9999)) by simp [bits, c]] at h
      exact h
theorem c_X1_joinedTo {E : JE} {u0 : JM} {K : Int32 → JM → Prop} {N : Nat} (hN : isNet N) {s : St} (hL : CL N s u0) (w : WL s) {src : Nat} (hsrc : src < 8)
    (hE : ∀ u, same u0 u (inL N) → K (nI (jnS s src)) u) : JCi E 3 YX1_joinedTo [.ref (N + 1), .int (nI src)] K u0 := by
  refine JCi.ofV (ls := [some (.ref (N + 1)), some (.int (nI src)), none, none]) (by decide +kernel) (Nat.le_of_ble_eq_true rfl) rfl rfl (g_X1_joinedTo_0 hN ?_)
  refine c_X1_spread (wo := 12) hN hL w hsrc fun u h1 h2 => ?_
  exact joined_loop hN h2 (dD_is (Et_ok w 12) src).2.1 (hE u h1) 8 0 (by omega)
