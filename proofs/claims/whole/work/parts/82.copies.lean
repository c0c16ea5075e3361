/-! copies of adverts, beside the owner's own -/
abbrev ow (s : St) (x a : Nat) : Nat := s 7 (rw8 x a x)
/-- a copy's number, age, costs, sums, beside the owner's own advert -/
def AOk (s : St) (B M : Nat → Nat → Nat) (T : Nat) (J : Nat → Nat → Prop) (x a N age : Nat) (cs ms : Nat → Nat) : Prop :=
  N ≤ ow s x a ∧ (B x a < N → age ≤ T ∧ (∀ l, l < 12 → 0 < cs l → s 6 l = 1) ∧ (N = ow s x a → (∀ l, l < 12 → cs l = s 9 (rw8 x a x * 12 + l)) ∧ ∀ d, d < 8 → ms d = s 10 (rw8 x a x * 8 + d)) ∧ (M x a ≤ N → ∀ d, d < 8 → ms d < 9999 → J x d))
def ROk (s : St) (B M : Nat → Nat → Nat) (T : Nat) (J : Nat → Nat → Prop) : Prop := ∀ y a x, y < 8 → a < 3 → x < 8 → AOk s B M T J x a (s 7 (rw8 y a x)) (s 8 (rw8 y a x)) (fun l => s 9 (rw8 y a x * 12 + l)) (fun d => s 10 (rw8 y a x * 8 + d))
def MOk (s : St) (B M : Nat → Nat → Nat) (T : Nat) (J : Nat → Nat → Prop) : Prop := ∀ i, i < s 13 0 → AOk s B M T J (s 16 i) (s 3 (s 14 i)) (s 17 i) (s 18 i) (fun l => s 19 (i * 12 + l)) (fun d => s 20 (i * 8 + d))
/-- own adverts are the same -/
def OwS (s s' : St) : Prop := s' 6 = s 6 ∧ ∀ x a, x < 8 → a < 3 → ow s' x a = ow s x a ∧ (∀ l, l < 12 → s' 9 (rw8 x a x * 12 + l) = s 9 (rw8 x a x * 12 + l)) ∧ ∀ d, d < 8 → s' 10 (rw8 x a x * 8 + d) = s 10 (rw8 x a x * 8 + d)
theorem AOk.st {s s' : St} {B M : Nat → Nat → Nat} {T : Nat} {J : Nat → Nat → Prop} {x a N age : Nat} {cs ms : Nat → Nat} (h : AOk s B M T J x a N age cs ms) (hx : x < 8) (ha : a < 3) (e : OwS s s') : AOk s' B M T J x a N age cs ms := by
  obtain ⟨e6, e7⟩ := e
  obtain ⟨o1, o2, o3⟩ := e7 x a hx ha
  obtain ⟨h1, h2⟩ := h
  refine ⟨by rw [o1]; exact h1, fun q => ?_⟩
  obtain ⟨g1, g2, g3, g4⟩ := h2 q
  refine ⟨g1, fun l hl hc => by rw [e6]; exact g2 l hl hc, fun z => ?_, g4⟩
  rw [o1] at z
  obtain ⟨z1, z2⟩ := g3 z
  exact ⟨fun l hl => by rw [o2 l hl]; exact z1 l hl, fun d hd => by rw [o3 d hd]; exact z2 d hd⟩
theorem AOk.ext {s : St} {B M : Nat → Nat → Nat} {T : Nat} {J : Nat → Nat → Prop} {x a N age N' age' : Nat} {cs ms cs' ms' : Nat → Nat} (h : AOk s B M T J x a N age cs ms) (e1 : N' = N) (e2 : age' = age) (e3 : ∀ l, l < 12 → cs' l = cs l) (e4 : ∀ d, d < 8 → ms' d = ms d) : AOk s B M T J x a N' age' cs' ms' := by
  obtain ⟨h1, h2⟩ := h
  subst e1
  subst e2
  refine ⟨h1, fun q => ?_⟩
  obtain ⟨g1, g2, g3, g4⟩ := h2 q
  refine ⟨g1, fun l hl hc => g2 l hl (by rw [← e3 l hl]; exact hc), fun z => ?_, fun z d hd hm => g4 z d hd (by rw [← e4 d hd]; exact hm)⟩
  obtain ⟨z1, z2⟩ := g3 z
  exact ⟨fun l hl => by rw [e3 l hl]; exact z1 l hl, fun d hd => by rw [e4 d hd]; exact z2 d hd⟩
theorem OwS.rfl_ (s : St) : OwS s s := ⟨rfl, fun _ _ _ _ => ⟨rfl, fun _ _ => rfl, fun _ _ => rfl⟩⟩
theorem OwS.tr {s t v : St} (h : OwS s t) (k : OwS t v) : OwS s v := ⟨k.1.trans h.1, fun x a hx ha => by
  obtain ⟨a1, a2, a3⟩ := h.2 x a hx ha
  obtain ⟨b1, b2, b3⟩ := k.2 x a hx ha
  exact ⟨b1.trans a1, fun l hl => (b2 l hl).trans (a2 l hl), fun d hd => (b3 d hd).trans (a3 d hd)⟩⟩
/-- a message taken -/
theorem ms_OwS {s : St} (wL : WL s) {i : Nat} (w : WMi s i) : OwS s (msS s i) := by
  obtain ⟨w1, w2, w3, -⟩ := w
  have x4 := (wL.2 _ w1).2.2.2.1
  unfold msS
  split
  · rename_i c
    rw [tkS_eq]
    split
    · refine ⟨putS_ne (by omega), fun x a hx ha => ?_⟩
      have ne : rw8 x a x ≠ rw8 (s 15 i) (s 3 (s 14 i)) (s 16 i) := fun q => by
        obtain ⟨q1, q2, q3⟩ := rw8_inj ha hx x4 w3 q
        exact c.2 (by rw [← q1, ← q3])
      obtain ⟨o1, -, o3, o4, -, -⟩ := putS_other (s := s) (num := s 17 i) (age := s 18 i) (cs := fun l => s 19 (i * 12 + l)) (ms := fun d => s 20 (i * 8 + d)) (cb := 2 ^ s 14 i) ne
      exact ⟨o1, o3, o4⟩
    · split
      · refine ⟨set1_ne (by omega), fun x a hx ha => ?_⟩
        unfold ow
        rw [set1_ne (by omega), set1_ne (by omega), set1_ne (by omega)]
        exact ⟨rfl, fun _ _ => rfl, fun _ _ => rfl⟩
      · exact OwS.rfl_ s
  · exact OwS.rfl_ s
/-- each row behind a message: as before, or the message's -/
theorem ms_row {s : St} (wL : WL s) {i : Nat} (w : WMi s i) {y a x : Nat} (ha : a < 3) (hx : x < 8) :
    (msS s i 7 (rw8 y a x) = s 7 (rw8 y a x) ∧ msS s i 8 (rw8 y a x) = s 8 (rw8 y a x) ∧ (∀ l, l < 12 → msS s i 9 (rw8 y a x * 12 + l) = s 9 (rw8 y a x * 12 + l)) ∧ ∀ d, d < 8 → msS s i 10 (rw8 y a x * 8 + d) = s 10 (rw8 y a x * 8 + d)) ∨
    ((y = s 15 i ∧ a = s 3 (s 14 i) ∧ x = s 16 i) ∧ s 7 (rw8 y a x) < s 17 i ∧ msS s i 7 (rw8 y a x) = s 17 i ∧ msS s i 8 (rw8 y a x) = s 18 i ∧ (∀ l, l < 12 → msS s i 9 (rw8 y a x * 12 + l) = s 19 (i * 12 + l)) ∧ ∀ d, d < 8 → msS s i 10 (rw8 y a x * 8 + d) = s 20 (i * 8 + d)) := by
  obtain ⟨w1, w2, w3, -⟩ := w
  have x4 := (wL.2 _ w1).2.2.2.1
  unfold msS
  split
  · rw [tkS_eq]
    split
    · rename_i lt
      by_cases e : rw8 y a x = rw8 (s 15 i) (s 3 (s 14 i)) (s 16 i)
      · obtain ⟨q1, q2, q3⟩ := rw8_inj ha hx x4 w3 e
        obtain ⟨p1, p2, p3, p4, -, -⟩ := putS_row (s := s) (row := rw8 (s 15 i) (s 3 (s 14 i)) (s 16 i)) (num := s 17 i) (age := s 18 i) (cs := fun l => s 19 (i * 12 + l)) (ms := fun d => s 20 (i * 8 + d)) (cb := 2 ^ s 14 i)
        rw [e]
        exact Or.inr ⟨⟨q1, q2, q3⟩, lt, p1, p2, p3, p4⟩
      · obtain ⟨o1, o2, o3, o4, -, -⟩ := putS_other (s := s) (num := s 17 i) (age := s 18 i) (cs := fun l => s 19 (i * 12 + l)) (ms := fun d => s 20 (i * 8 + d)) (cb := 2 ^ s 14 i) e
        exact Or.inl ⟨o1, o2, o3, o4⟩
    · split
      · rw [set1_ne (by omega), set1_ne (c' := 8) (by omega), set1_ne (c' := 9) (by omega), set1_ne (c' := 10) (by omega)]
        exact Or.inl ⟨rfl, rfl, fun _ _ => rfl, fun _ _ => rfl⟩
      · exact Or.inl ⟨rfl, rfl, fun _ _ => rfl, fun _ _ => rfl⟩
  · exact Or.inl ⟨rfl, rfl, fun _ _ => rfl, fun _ _ => rfl⟩
theorem ms_ROk {s : St} (wL : WL s) {i : Nat} (w : WMi s i) {B M : Nat → Nat → Nat} {T : Nat} {J : Nat → Nat → Prop} (h : ROk s B M T J) (hi : AOk s B M T J (s 16 i) (s 3 (s 14 i)) (s 17 i) (s 18 i) (fun l => s 19 (i * 12 + l)) (fun d => s 20 (i * 8 + d))) : ROk (msS s i) B M T J := by
  intro y a x hy ha hx
  have eO := ms_OwS wL w
  rcases ms_row wL w (y := y) ha hx with ⟨e1, e2, e3, e4⟩ | ⟨⟨q1, q2, q3⟩, -, e1, e2, e3, e4⟩
  · exact ((h y a x hy ha hx).ext e1 e2 e3 e4).st hx ha eO
  · rw [← q2, ← q3] at hi
    exact (hi.ext e1 e2 e3 e4).st hx ha eO
theorem arv_ROk {s : St} (wL : WL s) (wM : WM s) {B M : Nat → Nat → Nat} {T : Nat} {J : Nat → Nat → Prop} (h : ROk s B M T J) (hm : MOk s B M T J) : ∀ k, k ≤ s 13 0 → ROk (arv s k) B M T J ∧ OwS s (arv s k)
  | 0, _ => ⟨h, OwS.rfl_ s⟩
  | k + 1, hk => by
    obtain ⟨i1, i2⟩ := arv_ROk wL wM h hm k (by omega)
    have wL' : WL (arv s k) := wL.congr fun c hc => arv_ne s (by omega) k
    have wi : WMi (arv s k) k := (wM.2 k (by omega)).st (fun c hc => arv_ne s (by omega) k) (fun c h1 h2 => arv_ne s (by omega) k)
    have wi0 := wM.2 k (by omega)
    have x4 := (wL.2 _ wi0.1).2.2.2.1
    rw [arv_suc]
    refine ⟨ms_ROk wL' wi i1 ?_, i2.tr (ms_OwS wL' wi)⟩
    have := (hm k (by omega)).st wi0.2.2.1 x4 i2
    rw [arv_ne s (c := 16) (by omega), arv_ne s (c := 3) (by omega), arv_ne s (c := 14) (by omega), arv_ne s (c := 17) (by omega), arv_ne s (c := 18) (by omega), arv_ne s (c := 19) (by omega), arv_ne s (c := 20) (by omega)]
    exact this
theorem avS_ROk {s : St} (wL : WL s) (wM : WM s) {B M : Nat → Nat → Nat} {T : Nat} {J : Nat → Nat → Prop} (h : ROk s B M T J) (hm : MOk s B M T J) : ROk (avS s) B M T J ∧ OwS s (avS s) := by
  obtain ⟨i1, i2⟩ := arv_ROk wL wM h hm (s 13 0) (Nat.le_refl _)
  have e : ∀ c, c ≠ 13 → avS s c = arv s (s 13 0) c := fun c hc => set1_ne hc
  have o : OwS (arv s (s 13 0)) (avS s) := by
    refine ⟨e 6 (by omega), fun x a hx ha => ?_⟩
    unfold ow
    rw [e 7 (by omega), e 9 (by omega), e 10 (by omega)]
    exact ⟨rfl, fun _ _ => rfl, fun _ _ => rfl⟩
  refine ⟨fun y a x hy ha hx => ?_, i2.tr o⟩
  rw [e 7 (by omega), e 8 (by omega), e 9 (by omega), e 10 (by omega)]
  exact (i1 y a x hy ha hx).st hx ha o
/-- grown older -/
theorem dies_own {s : St} {x a : Nat} (hx : x < 8) (ha : a < 3) : dies s (rw8 x a x) = false := by
  unfold dies
  rw [rw8_o hx, show rw8 x a x / 24 = x by unfold rw8; omega]
  exact decide_eq_false (fun g => g.2.2 rfl)
theorem grS_OwS (s : St) : OwS s (grS s 192) := by
  refine ⟨grS_ne (by omega) (by omega) (by omega), fun x a hx ha => ?_⟩
  unfold ow
  rw [grS_7, grS_ne (c := 9) (by omega) (by omega) (by omega), grS_ne (c := 10) (by omega) (by omega) (by omega), if_neg (fun g => by rw [dies_own hx ha] at g; exact absurd g.2 (by decide))]
  exact ⟨rfl, fun _ _ => rfl, fun _ _ => rfl⟩
theorem grS_ROk {s : St} {B M : Nat → Nat → Nat} {T : Nat} {J : Nat → Nat → Prop} (h : ROk s B M T J) : ROk (grS s 192) B M (T + 1) J := by
  intro y a x hy ha hx
  have hrow := rw8_lt hy ha hx
  obtain ⟨h1, h2⟩ := (h y a x hy ha hx).st hx ha (grS_OwS s)
  rw [grS_7, grS_8, grS_ne (c := 9) (by omega) (by omega) (by omega), grS_ne (c := 10) (by omega) (by omega) (by omega)]
  by_cases d : rw8 y a x < 192 ∧ dies s (rw8 y a x) = true
  · rw [if_pos d]
    exact ⟨Nat.zero_le _, fun q => absurd q (Nat.not_lt_zero _)⟩
  · rw [if_neg d]
    refine ⟨h1, fun q => ?_⟩
    obtain ⟨g1, g2, g3, g4⟩ := h2 q
    rw [if_pos ⟨hrow, by omega⟩]
    exact ⟨by omega, g2, g3, g4⟩
/-- told anew: the owner's own row alone changes -/
theorem tnS_keep {s : St} {r a k : Nat} (h : k ≠ rw8 r a r) : tnS s r a 7 k = s 7 k ∧ tnS s r a 8 k = s 8 k ∧ (∀ l, l < 12 → tnS s r a 9 (k * 12 + l) = s 9 (k * 12 + l)) ∧ (∀ d, d < 8 → tnS s r a 10 (k * 8 + d) = s 10 (k * 8 + d)) ∧ tnS s r a 11 k = s 11 k ∧ tnS s r a 12 k = s 12 k := by
  unfold tnS
  split
  · unfold tdS
    split
    · exact putS_other h
    · exact ⟨rfl, rfl, fun _ _ => rfl, fun _ _ => rfl, rfl, rfl⟩
  · exact ⟨rfl, rfl, fun _ _ => rfl, fun _ _ => rfl, rfl, rfl⟩
/-- the owner's own row: as before, or told -/
theorem tnS_own (s : St) (r a : Nat) : tnS s r a = s ∨ tnS s r a = putS s (rw8 r a r) (s 7 (rw8 r a r) + 1) 0 (nwC s r a) (nwS s r a) 0 := by
  unfold tnS
  split
  · unfold tdS
    split
    · exact Or.inr rfl
    · exact Or.inl rfl
  · exact Or.inl rfl
theorem nwC_up {s : St} {r a l : Nat} (h : 0 < nwC s r a l) : s 6 l = 1 := by
  unfold nwC at h
  split at h
  · rename_i c
    have := c.2.2
    unfold upB at this
    exact (of_decide_eq_true this).1
  · omega
theorem tnS_ROk {s : St} {B M : Nat → Nat → Nat} {T : Nat} {J : Nat → Nat → Prop} (h : ROk s B M T J) {r a : Nat} (hr : r < 8) (ha : a < 3) (hR : M r a ≤ ow s r a + 1 → ∀ d, d < 8 → nwS s r a d < 9999 → J r d) : ROk (tnS s r a) B M T J := by
  rcases tnS_own s r a with e | e
  · rw [e]; exact h
  · rw [e]
    obtain ⟨p1, p2, p3, p4, -, -⟩ := putS_row (s := s) (row := rw8 r a r) (num := s 7 (rw8 r a r) + 1) (age := 0) (cs := nwC s r a) (ms := nwS s r a) (cb := 0)
    have e6 : putS s (rw8 r a r) (s 7 (rw8 r a r) + 1) 0 (nwC s r a) (nwS s r a) 0 6 = s 6 := putS_ne (by omega)
    have other : ∀ k, k ≠ rw8 r a r → _ := fun k hk => putS_other (s := s) (row := rw8 r a r) (k := k) (num := s 7 (rw8 r a r) + 1) (age := 0) (cs := nwC s r a) (ms := nwS s r a) (cb := 0) hk
    intro y b x hy hb hx
    by_cases own : x = r ∧ b = a
    · obtain ⟨rfl, rfl⟩ := own
      by_cases ey : y = x
      · subst ey
        refine ⟨Nat.le_refl _, fun _ => ⟨by rw [p2]; omega, fun l hl hc => ?_, fun _ => ⟨fun _ _ => rfl, fun _ _ => rfl⟩, fun z d hd hm => ?_⟩⟩
        · dsimp only at hc
          rw [p3 l hl] at hc
          rw [e6]
          exact nwC_up hc
        · rw [p1] at z
          dsimp only at hm
          rw [p4 d hd] at hm
          exact hR z d hd hm
      · have ne : rw8 y b x ≠ rw8 x b x := fun q => ey (rw8_inj hb hx hb hx q).1
        obtain ⟨o1, o2, o3, o4, -, -⟩ := other _ ne
        obtain ⟨h1, h2⟩ := h y b x hy hb hx
        refine ⟨?_, fun q => ?_⟩
        · unfold ow
          rw [o1, p1]
          have : s 7 (rw8 y b x) ≤ s 7 (rw8 x b x) := h1
          omega
        · rw [o1] at q
          obtain ⟨g1, g2, g3, g4⟩ := h2 q
          refine ⟨by rw [o2]; exact g1, fun l hl hc => ?_, fun z => ?_, fun z d hd hm => ?_⟩
          · dsimp only at hc
            rw [o3 l hl] at hc
            rw [e6]
            exact g2 l hl hc
          · unfold ow at z
            rw [o1, p1] at z
            have : s 7 (rw8 y b x) ≤ s 7 (rw8 x b x) := h1
            omega
          · rw [o1] at z
            dsimp only at hm
            rw [o4 d hd] at hm
            exact g4 z d hd hm
    · have nO : rw8 x b x ≠ rw8 r a r := fun q => own (by obtain ⟨q1, q2, -⟩ := rw8_inj hb hx ha hr q; exact ⟨q1, q2⟩)
      have nR : rw8 y b x ≠ rw8 r a r := fun q => own (by obtain ⟨q1, q2, q3⟩ := rw8_inj hb hx ha hr q; exact ⟨q3, q2⟩)
      obtain ⟨o1, o2, o3, o4, -, -⟩ := other _ nR
      obtain ⟨w1, -, w3, w4, -, -⟩ := other _ nO
      obtain ⟨h1, h2⟩ := (h y b x hy hb hx).ext o1 o2 o3 o4
      refine ⟨by unfold ow; rw [w1]; exact h1, fun q => ?_⟩
      obtain ⟨g1, g2, g3, g4⟩ := h2 q
      refine ⟨g1, fun l hl hc => by rw [e6]; exact g2 l hl hc, fun z => ?_, g4⟩
      unfold ow at z
      rw [w1] at z
      obtain ⟨z1, z2⟩ := g3 z
      exact ⟨fun l hl => by rw [w3 l hl]; exact z1 l hl, fun d hd => by rw [w4 d hd]; exact z2 d hd⟩
/-- the state as a router's turn for an area comes -/
noncomputable def mdS (s : St) (r a : Nat) : St := tnR (tnA s r) r a
theorem tnA_ROk {s : St} {B M : Nat → Nat → Nat} {T : Nat} {J : Nat → Nat → Prop} (h : ROk s B M T J) (hR : ∀ r a, r < 8 → a < 3 → M r a ≤ ow (mdS s r a) r a + 1 → ∀ d, d < 8 → nwS (mdS s r a) r a d < 9999 → J r d) : ∀ r, r ≤ 8 → ROk (tnA s r) B M T J
  | 0, _ => h
  | r + 1, hr => by
    have ih := tnA_ROk h hR r (by omega)
    have go : ∀ a, a ≤ 3 → ROk (tnR (tnA s r) r a) B M T J := by
      intro a
      induction a with
      | zero => intro _; exact ih
      | succ a iha => intro ha; exact tnS_ROk (iha (by omega)) (by omega) (by omega) (hR r a (by omega) (by omega))
    exact go 3 (Nat.le_refl 3)
