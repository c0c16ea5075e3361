/-! what is kept from call to call -/
theorem XW.cls {w : Wd} {u u' : JM} (h : XW w u) (e : same u u' inC) : XW w u' := by
  have e7 : ∀ b, 137 ≤ b → u' b = u b := fun b hb => e b (by unfold inC; omega)
  obtain ⟨⟨h1, h2, h3⟩, h4, h5, h6⟩ := h
  refine ⟨⟨h1.pt h2 (by omega) ⟨fun f _ => by rw [e7 137 (by omega)], fun b hb _ j _ => ?_⟩, h2, h3⟩, by rw [e7 137 (by omega)]; exact h4, fun k => ?_, h6.congr fun b hb => e7 b (by omega)⟩
  · unfold isB at hb
    rw [e7 b (by omega)]
  · refine asd_keep (A := inC) (F := fun _ => False) (h5 k) ⟨fun b _ hb => e b hb, fun f _ => by rw [e7 137 (by omega)]⟩ (by unfold inC; omega) fun b hb => ?_
    have := adr_ge (lv := 1) hb
    unfold inC
    omega
theorem CW.up_ {w : Wd} {u u' : JM} (h : CW w u) (e : up u u') : CW w u' := by
  obtain ⟨c1, c2, c3, c4, c5, c6⟩ := h
  exact ⟨c1.draft fun b h1 h2 h3 => e b (by omega), fun row hr => by rw [e 61 (by omega)]; exact c2 row hr, fun row hr => by rw [e 97 (by omega)]; exact c3 row hr, by rw [e 0 (by omega)]; exact c4, fun q => (c5 q).draft fun b h1 h2 h3 => e b (by omega), c6.congr fun b h1 h2 => e b (by omega)⟩
abbrev hugeB : Nat → Nat → Nat := fun _ _ => 2000000000
theorem OWN_iff {s : St} (w : NW s) (h21 : s 21 0 < 1000000000) {T : Nat} {J : Nat → Nat → Prop} : OWN s ↔ ROk s hugeB noM T J ∧ MOk s hugeB noM T J := by
  have b : ∀ x a, x < 8 → a < 3 → ow s x a < 1000000000 := fun x a hx ha => by
    have := NW_7 w (rw8_lt hx ha hx)
    unfold ow
    omega
  constructor
  · rintro ⟨h1, h2⟩
    refine ⟨fun y a x hy ha hx => ⟨h1 y a x hy ha hx, fun q => ?_⟩, fun i hi => ⟨h2 i hi, fun q => ?_⟩⟩
    · have := h1 y a x hy ha hx
      have := b x a hx ha
      have q' : 2000000000 < s 7 (rw8 y a x) := q
      omega
    · have := h2 i hi
      obtain ⟨w1, -, w3, -⟩ := w.2.2.1.2 i hi
      have := b _ _ w3 (w.1.2 _ w1).2.2.2.1
      have q' : 2000000000 < s 17 i := q
      omega
  · rintro ⟨h1, h2⟩
    exact ⟨fun y a x hy ha hx => (h1 y a x hy ha hx).1, fun i hi => (h2 i hi).1⟩
theorem OWN_tick {s : St} (o : OWN s) (w : NW s) (hT : s 21 0 + 3 < 1000000000) : OWN (tickS s) := by
  obtain ⟨i1, i2⟩ := (OWN_iff w (by omega) (T := 0) (J := fun _ _ => True)).mp o
  obtain ⟨-, k1, k2⟩ := tick_ROk w hT i1 i2 fun r a hr ha q => noM_R w hT hr ha q
  exact (OWN_iff (tickS_NW w hT) (by rw [tickS_21]; omega)).mpr ⟨k1, k2⟩
theorem OWN_ticks {s : St} (o : OWN s) (w : NW s) : ∀ n, s 21 0 + n + 3 < 1000000000 → OWN (ticksS s n)
  | 0, _ => o
  | n + 1, h => by
    obtain ⟨h1, h2⟩ := ticksS_NW w n (by omega)
    exact OWN_tick (OWN_ticks o w n (by omega)) h1 (by omega)
theorem OWN_keep {s s' : St} (o : OWN s) (w : NW s) (e : ∀ c, 7 ≤ c → s' c = s c) (e3 : ∀ l, l < s 0 0 → s' 3 l = s 3 l) : OWN s' := by
  obtain ⟨h1, h2⟩ := o
  have eo : ∀ x a, ow s' x a = ow s x a := fun x a => by unfold ow; rw [e 7 (by omega)]
  refine ⟨fun y a x hy ha hx => by rw [eo, e 7 (by omega)]; exact h1 y a x hy ha hx, fun i hi => ?_⟩
  rw [e 13 (by omega)] at hi
  rw [e 17 (by omega), e 16 (by omega), e 14 (by omega), e3 _ (w.2.2.1.2 i hi).1, eo]
  exact h2 i hi
theorem OWN_set {s : St} (o : OWN s) (w : NW s) {c l v : Nat} (h : c = 4 ∨ c = 5 ∨ c = 6) : OWN (set1 s c l v) :=
  OWN_keep o w (fun c' h' => set1_ne (by omega)) fun l' _ => by rw [set1_ne (by omega)]
theorem OWN_dr {s : St} (o : OWN s) (w : NW s) (z : Int32) : ∀ n, n ≤ s 0 0 → OWN (drS s z n)
  | 0, _ => o
  | n + 1, h => by
    have ih := OWN_dr o w z n (by omega)
    unfold drS
    split
    · exact OWN_set ih (drS_NW w z n (by omega)) (Or.inr (Or.inr rfl))
    · exact ih
theorem SubR_se {s : St} (o : OWN s) (w : NW s) (hT : s 21 0 + 90 < 1000000000) : ∀ z r, r < 8 → SubR (seS s z) r := fun z r hr =>
  SubR_40 (OWN_dr o w z (s 0 0) (Nat.le_refl _)) (drS_NW w z (s 0 0) (Nat.le_refl _)) (by rw [drS_ne s z (s 0 0) 21 (by omega)]; exact hT) hr
/-- all that is kept -/
def WV (w : Wd) (T : Nat) : Prop := WW w T ∧ OWN w.1 ∧ (w.2.2.1 = true → OWN w.2.1)
theorem WV.mono {w : Wd} {T T' : Nat} (h : WV w T) (hT : T ≤ T') : WV w T' := by
  obtain ⟨⟨h1, h2, h3, h4⟩, h5, h6⟩ := h
  exact ⟨⟨h1, by omega, fun q => ⟨(h3 q).1, by have := (h3 q).2; omega⟩, h4⟩, h5, h6⟩
theorem WV.live {w : Wd} {s : St} {T T' : Nat} (h : WV w T) (hT : T ≤ T') (h1 : NW s) (h2 : s 21 0 ≤ T') (h3 : OWN s) : WV (s, w.2) T' := by
  obtain ⟨⟨-, -, k3, k4⟩, -, k6⟩ := h.mono hT
  exact ⟨⟨h1, h2, k3, k4⟩, h3, k6⟩
theorem WV.shs {w : Wd} {T : Nat} (h : WV w T) {h' : Sh} (k : WS h') : WV (w.1, w.2.1, w.2.2.1, h') T := by
  obtain ⟨⟨h1, h2, h3, -⟩, h5, h6⟩ := h
  exact ⟨⟨h1, h2, h3, k⟩, h5, h6⟩
theorem WV_link {w : Wd} {T : Nat} (h : WV w T) (a1 a2 a3 a4 a5 : Int32) : WV (nxLink w a1 a2 a3 a4 a5) T := by
  unfold nxLink
  split
  · rename_i c
    obtain ⟨⟨o1, o2, o3, o4, o5, o6⟩, hn⟩ := c
    obtain ⟨x, hx, rfl⟩ := rt_nI o1
    obtain ⟨y, hy, rfl⟩ := rt_nI o2
    obtain ⟨a, ha, rfl⟩ := ar_nI o4
    obtain ⟨f, f1, f2, rfl⟩ := rg1_nI (hi := 99) (by decide) o5
    obtain ⟨b, b1, b2, rfl⟩ := rg1_nI (hi := 99) (by decide) o6
    rw [nI_cl (show x < 2147483648 by omega), nI_cl (show y < 2147483648 by omega), nI_cl (show a < 2147483648 by omega), nI_cl (show f < 2147483648 by omega), nI_cl (show b < 2147483648 by omega)]
    have w1 := h.1.1
    refine h.live (Nat.le_refl _) (addS_NW w1 hn hx hy (fun q => o3 (by rw [q])) ha ⟨f1, f2⟩ ⟨b1, b2⟩) (by rw [addS_ne (by omega)]; exact h.1.2.1) (OWN_keep h.2.1 w1 (fun c hc => addS_ne (by omega)) fun l hl => ?_)
    rw [(addS_at w.1 x y a f b l).2.2.2.1, if_neg (by omega)]
  · exact h
theorem WV_set {w : Wd} {T : Nat} (h : WV w T) (a1 a2 : Int32) : WV (nxSet w a1 a2) T := by
  unfold nxSet
  split
  · rename_i c
    obtain ⟨o1, o2⟩ := c
    have w1 := h.1.1
    obtain ⟨l, hl, rfl⟩ := lk_nI w1.1.1 o1
    obtain ⟨v, hv, rfl⟩ := rg_nI (hi := 1) (by decide) o2
    have := w1.1.1
    rw [nI_cl (show l < 2147483648 by omega), nI_cl (show v < 2147483648 by omega)]
    exact h.live (Nat.le_refl _) (set1_NW w1 hl (Or.inr ⟨rfl, hv⟩)) (by rw [set1_ne (by omega)]; exact h.1.2.1) (OWN_set h.2.1 w1 (Or.inr (Or.inr rfl)))
  · exact h
theorem WV_cost {w : Wd} {T : Nat} (h : WV w T) (a1 a2 a3 : Int32) : WV (nxCost w a1 a2 a3) T := by
  unfold nxCost
  split
  · rename_i c
    obtain ⟨o1, o2, o3⟩ := c
    have w1 := h.1.1
    obtain ⟨l, hl, rfl⟩ := lk_nI w1.1.1 o1
    obtain ⟨v, v1, v2, rfl⟩ := rg1_nI (hi := 99) (by decide) o3
    have := w1.1.1
    rw [nI_cl (show l < 2147483648 by omega), nI_cl (show v < 2147483648 by omega)]
    split
    · exact h.live (Nat.le_refl _) (set1_NW w1 hl (Or.inl ⟨Or.inl rfl, v1, v2⟩)) (by rw [set1_ne (by omega)]; exact h.1.2.1) (OWN_set h.2.1 w1 (Or.inl rfl))
    · exact h.live (Nat.le_refl _) (set1_NW w1 hl (Or.inl ⟨Or.inr rfl, v1, v2⟩)) (by rw [set1_ne (by omega)]; exact h.1.2.1) (OWN_set h.2.1 w1 (Or.inr (Or.inl rfl)))
  · exact h
theorem WV_ticks {w : Wd} {T n : Nat} (h : WV w T) (hn : n ≤ 80) (hT : T + 90 < 1000000000) : WV (ticksS w.1 n, w.2) (T + 80) := by
  have h2 := h.1.2.1
  obtain ⟨k1, k2⟩ := ticksS_NW h.1.1 n (by omega)
  exact h.live (by omega) k1 (by omega) (OWN_ticks h.2.1 h.1.1 n (by omega))
theorem WV_tks {w : Wd} {T : Nat} (h : WV w T) (hT : T + 90 < 1000000000) (a1 : Int32) : WV (nxTks w a1) (T + 80) := by
  unfold nxTks
  split
  · rename_i c
    obtain ⟨n, hn, rfl⟩ := rg_nI (hi := 80) (by decide) c
    rw [nI_cl (show n < 2147483648 by omega)]
    exact WV_ticks h hn hT
  · exact h.mono (by omega)
theorem WS_B {h : Sh} (k : WS h) (i : Nat) {so : Int32} {n : Nat} (hs : so = -1 ∨ so = 0 ∨ so = 1) (hn : n ≤ 40) : WS (shB h i so n) := by
  intro j hj
  obtain ⟨k1, k2⟩ := k j hj
  unfold shB
  dsimp only
  split
  · exact ⟨hs, hn⟩
  · exact ⟨k1, k2⟩
theorem WS_F {h : Sh} (k : WS h) (i : Nat) (f : Nat → Int32) : ∀ n, WS (shF h i f n)
  | 0 => WS_B k i (Or.inr (Or.inr rfl)) (by omega)
  | n + 1 => WS_F k i f n
theorem WV_film {w : Wd} {T : Nat} (h : WV w T) (a1 a2 : Int32) : WV (nxFilm w a1 a2) T := by
  unfold nxFilm
  split
  · exact h.shs (WS_F h.1.2.2.2 _ _ 8)
  · exact h
theorem WV_image {w : Wd} {T : Nat} (h : WV w T) : WV (nxImage w) T := by
  obtain ⟨⟨h1, h2, h3, h4⟩, h5, h6⟩ := h
  exact ⟨⟨h1, h2, fun _ => ⟨h1, h2⟩, h4⟩, h5, fun _ => h5⟩
theorem WV_back {w : Wd} {T : Nat} (h : WV w T) : WV (nxBack w) T := by
  unfold nxBack
  split
  · rename_i c
    obtain ⟨⟨h1, h2, h3, h4⟩, h5, h6⟩ := h
    exact ⟨⟨(h3 c).1, (h3 c).2, h3, h4⟩, h6 c, h6⟩
  · exact h
theorem WV_sheet {w : Wd} {T : Nat} (h : WV w T) (a1 a2 a3 : Int32) : WV (nxSheet w a1 a2 a3) T := by
  unfold nxSheet
  split
  · rename_i c
    split
    · exact h.shs (WS_B h.1.2.2.2 _ (Or.inl rfl) (by omega))
    · rename_i c2
      split
      · exact h
      · split
        · exact h
        · rename_i c3 c4
          obtain ⟨n, hn, rfl⟩ := rg_nI (a := a3) (hi := 40) (by decide) ⟨by omega, by omega⟩
          rw [nI_cl (show n < 2147483648 by omega)]
          refine h.shs (WS_B h.1.2.2.2 _ ?_ hn)
          obtain ⟨-, c5, c6⟩ := c
          refine Or.inr ?_
          have n1 : a2.toInt ≠ -1 := fun q => c2 (Int32.toInt_inj.mp (by rw [q]; rfl))
          rcases (show a2.toInt = 0 ∨ a2.toInt = 1 by omega) with q | q
          · exact Or.inl (Int32.toInt_inj.mp (by rw [q]; rfl))
          · exact Or.inr (Int32.toInt_inj.mp (by rw [q]; rfl))
  · exact h
theorem WV_cell {w : Wd} {T : Nat} (h : WV w T) (a1 a2 a3 : Int32) : WV (nxCell w a1 a2 a3) T := by
  unfold nxCell
  split
  · split
    · exact h
    · split
      · exact h.shs h.1.2.2.2
      · exact h
  · exact h
theorem WV_copy {w : Wd} {T : Nat} (h : WV w T) (a1 a2 a3 a4 a5 : Int32) : WV (w.1, w.2.1, w.2.2.1, nxCopy w.2.2.2 a1 a2 a3 a4 a5) T := by
  refine h.shs ?_
  unfold nxCopy
  split
  · split
    · exact h.1.2.2.2
    · split
      · exact h.1.2.2.2
      · split
        · exact h.1.2.2.2
        · exact h.1.2.2.2
  · exact h.1.2.2.2
