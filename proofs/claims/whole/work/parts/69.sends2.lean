/-! the reference: sending; never more than 192 at once -/
def fitR (s : St) (row l : Nat) : Bool := decide (s 3 l = row / 8 % 3) && upB s l (row / 24)
def wR (s : St) (row : Nat) : Nat := cntP (s 0 0) (fitR s row)
theorem sumTo_ext {f g : Nat → Nat} : ∀ k, (∀ i, i < k → f i = g i) → sumTo f k = sumTo g k
  | 0, _ => rfl
  | k + 1, h => by
    show sumTo f k + f k = sumTo g k + g k
    rw [sumTo_ext k fun i hi => h i (by omega), h k (by omega)]
theorem sumTo_mono (f : Nat → Nat) {k n : Nat} (h : k ≤ n) : sumTo f k ≤ sumTo f n := by
  induction n with
  | zero => have : k = 0 := by omega
            rw [this]; exact Nat.le_refl _
  | succ n ih =>
    by_cases e : k = n + 1
    · rw [e]; exact Nat.le_refl _
    · have := ih (by omega)
      show sumTo f k ≤ sumTo f n + f n
      omega
theorem sumTo_add (f g : Nat → Nat) : ∀ k, sumTo (fun i => f i + g i) k = sumTo f k + sumTo g k
  | 0 => rfl
  | k + 1 => by
    show sumTo (fun i => f i + g i) k + (f k + g k) = (sumTo f k + f k) + (sumTo g k + g k)
    rw [sumTo_add f g k]
    omega
theorem sumTo_cnt (p : Nat → Bool) : ∀ k, sumTo (fun i => if p i then 1 else 0) k = cntP k p
  | 0 => rfl
  | k + 1 => by
    show sumTo (fun i => if p i then 1 else 0) k + (if p k then 1 else 0) = _
    rw [sumTo_cnt p k]
    rfl
theorem sumTo_swap (F : Nat → Nat → Bool) (m : Nat) : ∀ n, sumTo (fun row => cntP n (F row)) m = sumTo (fun l => cntP m (fun row => F row l)) n
  | 0 => by
    show sumTo (fun _ => 0) m = 0
    induction m with
    | zero => rfl
    | succ m ih => show sumTo (fun _ => 0) m + 0 = 0; rw [ih]
  | n + 1 => by
    have ih := sumTo_swap F m n
    show sumTo (fun row => cntP n (F row) + (if F row n then 1 else 0)) m = sumTo (fun l => cntP m (fun row => F row l)) n + cntP m (fun row => F row n)
    rw [sumTo_add, ih, sumTo_cnt (fun row => F row n)]
theorem sumTo_le {f : Nat → Nat} {c : Nat} : ∀ k, (∀ i, i < k → f i ≤ c) → sumTo f k ≤ c * k
  | 0, _ => Nat.le_refl _
  | k + 1, h => by
    have ih := sumTo_le (f := f) (c := c) k fun i hi => h i (by omega)
    have := h k (by omega)
    show sumTo f k + f k ≤ c * (k + 1)
    rw [Nat.mul_succ]
    omega
theorem cnt16 {x y a : Nat} (hx : x < 8) (hy : y < 8) (ha : a < 3) : cntP 192 (fun row => decide (a = row / 8 % 3) && decide (x = row / 24 ∨ y = row / 24)) ≤ 16 := by
  have h : ((List.range 8).all fun x => (List.range 8).all fun y => (List.range 3).all fun a => decide (cntP 192 (fun row => decide (a = row / 8 % 3) && decide (x = row / 24 ∨ y = row / 24)) ≤ 16)) = true := by decide +kernel
  exact of_decide_eq_true (List.all_eq_true.mp (List.all_eq_true.mp (List.all_eq_true.mp h x (List.mem_range.mpr hx)) y (List.mem_range.mpr hy)) a (List.mem_range.mpr ha))
theorem wR_192 {s : St} (w : WL s) : sumTo (wR s) 192 ≤ 192 := by
  have h12 := w.1
  have e : sumTo (wR s) 192 = sumTo (fun l => cntP 192 (fun row => fitR s row l)) (s 0 0) := sumTo_swap (fitR s) 192 (s 0 0)
  rw [e]
  have := sumTo_le (f := fun l => cntP 192 (fun row => fitR s row l)) (c := 16) (s 0 0) fun l hl => by
    obtain ⟨w1, w2, -, w4, -⟩ := w.2 l hl
    refine Nat.le_trans (cntP_mono fun row _ h => ?_) (cnt16 w1 w2 w4)
    unfold fitR upB at h
    rw [Bool.and_eq_true] at h ⊢
    exact ⟨decide_eq_true (of_decide_eq_true h.1), decide_eq_true (of_decide_eq_true h.2).2⟩
  omega
theorem wR_fit {s : St} {row k : Nat} (hk : k < s 0 0) (h : fitR s row k = true) : cntP k (fitR s row) + 1 ≤ wR s row := by
  unfold wR
  have e : cntP (k + 1) (fitR s row) = cntP k (fitR s row) + 1 := by show cntP k (fitR s row) + (if fitR s row k then 1 else 0) = _; rw [if_pos h]
  rw [← e]
  have mono : ∀ n, k + 1 ≤ n → cntP (k + 1) (fitR s row) ≤ cntP n (fitR s row) := by
    intro n
    induction n with
    | zero => intro h; omega
    | succ n ih =>
      intro hn
      by_cases e : k + 1 = n + 1
      · rw [e]; exact Nat.le_refl _
      · have := ih (by omega)
        show _ ≤ cntP n (fitR s row) + (if fitR s row n then 1 else 0)
        omega
  exact mono _ hk
theorem fitR_st {s s' : St} (e : ∀ c, c < 7 → s' c = s c) (row l : Nat) : fitR s' row l = fitR s row l := by
  unfold fitR upB
  rw [e 3 (by omega), e 6 (by omega), e 1 (by omega), e 2 (by omega)]
/-- what waits stays within the links that fit -/
theorem snL_13 (s : St) (row cb : Nat) : ∀ k, snL s row cb k 13 0 ≤ s 13 0 + cntP k (fitR s row)
  | 0 => Nat.le_refl _
  | k + 1 => by
    have ih := snL_13 s row cb k
    show _ ≤ s 13 0 + (cntP k (fitR s row) + (if fitR s row k then 1 else 0))
    unfold snL
    split
    · rename_i c
      rw [pmS_13]
      have : fitR s row k = true := by unfold fitR; rw [c.1.2.1, decide_eq_true c.1.1]; rfl
      rw [if_pos this]
      omega
    · omega
theorem sno_13 (s : St) : ∀ k, sno s k 13 0 ≤ s 13 0 + sumTo (wR s) k
  | 0 => Nat.le_refl _
  | k + 1 => by
    have ih := sno_13 s k
    show _ ≤ s 13 0 + (sumTo (wR s) k + wR s k)
    unfold sno
    split
    · have h := snL_13 (set1 (sno s k) 11 k 0) k (s 12 k) (s 0 0)
      rw [set1_ne (c' := 13) (by omega)] at h
      have e : cntP (s 0 0) (fitR (set1 (sno s k) 11 k 0) k) = wR s k := cntP_ext fun l _ => fitR_st (fun c hc => by rw [set1_ne (by omega), sno_ne (by omega)]) k l
      rw [e] at h
      omega
    · omega
/-- nothing but these rows and these fields has changed -/
def sF (A F : Nat → Prop) (u u' : JM) : Prop := (∀ b, b ≠ 137 → ¬ A b → u' b = u b) ∧ ∀ f, ¬ F f → u' 137 f = u 137 f
theorem sF.rfl {A F : Nat → Prop} {u : JM} : sF A F u u := ⟨fun _ _ _ => Eq.refl _, fun _ _ => Eq.refl _⟩
theorem sF.trans {A F : Nat → Prop} {u v w : JM} (h : sF A F u v) (k : sF A F v w) : sF A F u w := ⟨fun b h1 h2 => (k.1 b h1 h2).trans (h.1 b h1 h2), fun f hf => (k.2 f hf).trans (h.2 f hf)⟩
theorem sF.mono {A B F G : Nat → Prop} {u v : JM} (h : sF A F u v) (k : ∀ b, A b → B b) (g : ∀ f, F f → G f) : sF B G u v := ⟨fun b h1 h2 => h.1 b h1 fun q => h2 (k b q), fun f hf => h.2 f fun q => hf (g f q)⟩
theorem sR.sF {A : Nat → Prop} {u v : JM} (h : sR A u v) : sF A (fun f => 25 ≤ f ∧ f ≠ 43) u v := ⟨h.1, fun f hf => h.2 f (by omega)⟩
theorem same.sF {A F : Nat → Prop} {u u' : JM} (h : same u u' A) (hA : ¬ A 137) : sF A F u u' := ⟨fun b _ hb => h b hb, fun f _ => by rw [h 137 hA]⟩
def inM : Nat → Prop := fun b => 533 ≤ b ∧ b ≤ 1340
theorem QM.pm {s : St} {u u6 : JM} (wM : WM s) (hM : QM s u) {row l r : Nat} (hc : s 13 0 < 192)
    (e0 : u6 137 12 = nI (s 13 0 + 1)) (e1 : ∀ k, u6 533 k = if k = s 13 0 then nI l else u 533 k) (e2 : ∀ k, u6 534 k = if k = s 13 0 then nI (oth s l r) else u 534 k) (e3 : ∀ k, u6 535 k = if k = s 13 0 then nI (row % 8) else u 535 k) (e4 : ∀ k, u6 536 k = if k = s 13 0 then nI (s 3 l) else u 536 k)
    (e5 : ∀ k, u6 537 k = if k = s 13 0 then nI (s 7 row) else u 537 k) (e6 : ∀ k, u6 538 k = if k = s 13 0 then nI (s 8 row) else u 538 k) (e7 : ∀ j, j < 12 → u6 (540 + s 13 0) j = nI (s 9 (row * 12 + j))) (e8 : ∀ d, d < 8 → u6 (941 + s 13 0) d = nI (s 10 (row * 8 + d)))
    (e9 : ∀ b, 540 ≤ b → b ≤ 1340 → b ≠ 540 + s 13 0 → b ≠ 941 + s 13 0 → u6 b = u b) : QM (pmS s row l r) u6 := by
  refine ⟨by rw [e0, pmS_13], fun i hi => ?_⟩
  rw [pmS_13] at hi
  unfold QMi
  rw [e1, e2, e3, e4, e5, e6, pmS_14, pmS_15, pmS_16, pmS_17, pmS_18, pmS_ne (c := 3) (by omega)]
  by_cases e : i = s 13 0
  · rw [if_pos e, if_pos e, if_pos e, if_pos e, if_pos e, if_pos e, if_pos e, if_pos e, if_pos e, if_pos e, if_pos e, e]
    refine ⟨rfl, rfl, rfl, rfl, rfl, rfl, fun j hj => ?_, fun d hd => ?_⟩
    · rw [e7 j hj, pmS_19, if_pos (by omega), show (s 13 0 * 12 + j) % 12 = j by omega]
    · rw [e8 d hd, pmS_20, if_pos (by omega), show (s 13 0 * 8 + d) % 8 = d by omega]
  · rw [if_neg e, if_neg e, if_neg e, if_neg e, if_neg e, if_neg e, if_neg e, if_neg e, if_neg e, if_neg e, if_neg e]
    obtain ⟨m1, m2, m3, m4, m5, m6, m7, m8⟩ := hM.2 i (by omega)
    refine ⟨m1, m2, m3, m4, m5, m6, fun j hj => ?_, fun d hd => ?_⟩
    · rw [e9 _ (by omega) (by omega) (by omega) (by omega), pmS_19, if_neg (by omega)]; exact m7 j hj
    · rw [e9 _ (by omega) (by omega) (by omega) (by omega), pmS_20, if_neg (by omega)]; exact m8 d hd
/-- one router's row of one area -/
theorem c_X8_sends {E : JE} {u0 : JM} {K : JM → Prop} {t : St} (hL : QL t u0) (hQ : QK t u0) (hM : QM t u0) (wL : WL t) (wK : WK t) (wM : WM t) {r o a fr cb : Nat} (hr : r < 8) (ho : o < 8) (ha : a < 3)
    (h145 : u0 145 (pl r o a) = nI fr) (h146 : fr = 1 → u0 146 (pl r o a) = nI cb) (hfr : fr ≤ 1) (hcb : cb < 4096) (hp : fr = 1 → 0 < t 7 (rw8 r a o)) (hW : t 13 0 + wR t (rw8 r a o) ≤ 192)
    (k : ∀ u, sF inM (· = 12) u0 u → QM (if fr = 1 then snL t (rw8 r a o) cb (t 0 0) else t) u → K u) : JCu E 2 YX8_sends [.ref 137, .int (nI r), .int (nI o), .int (nI a)] K u0 := by
  have h12 := wL.1
  have hpl := pl_lt hr ho ha
  have hrow := rw8_lt hr ha ho
  have e24 : rw8 r a o / 24 = r := by unfold rw8; omega
  have e3 : rw8 r a o / 8 % 3 = a := rw8_a ha ho
  have e8 : rw8 r a o % 8 = o := rw8_o ho
  obtain ⟨k1, k2⟩ := hQ r o a hr ho ha
  have wk7 := (wK _ hrow).1
  refine JCu.ofV (ls := [some (.ref 137), some (.int (nI r)), some (.int (nI o)), some (.int (nI a)), none, none]) (by decide +kernel) (Nat.le_of_ble_eq_true rfl) rfl rfl (g_X8_sends_0 ?_)
  intro v hv
  rw [pl_nI] at hv
  rw [hv, nI_cl (show pl r o a < 2147483648 by omega), k1, h145]
  have noF : fr = 0 → K u0 := fun q => by
    rw [if_neg (by omega)] at k
    exact k u0 sF.rfl hM
  refine ⟨vpI hpl (by omega), fun c => noF ?_, fun c => ⟨fun c2 => ?_, fun c2 => noF (nI_inj (b := 0) (by omega) (by omega) c2)⟩⟩
  · have c' := nI_inj (b := 0) (by omega) (by omega) c
    rcases (show fr = 0 ∨ fr = 1 by omega) with q | q
    · exact q
    · have := hp q; omega
  · have f1 : fr = 1 := by
      rcases (show fr = 0 ∨ fr = 1 by omega) with q | q
      · rw [q] at c2; exact absurd rfl c2
      · exact q
    have p7 := hp f1
    obtain ⟨k3, k4, k5⟩ := k2 p7
    rw [if_pos f1] at k
    have main : ∀ (m j : Nat) (u : JM), m + j = t 0 0 → sF inM (· = 12) u0 u → QM (snL t (rw8 r a o) cb j) u → JVu E 2 YX8_sends K 32 [some (.ref 137), some (.int (nI r)), some (.int (nI o)), some (.int (nI a)), some (.int (nI (pl r o a))), some (.int (nI j))] [] u := by
      intro m
      induction m with
      | zero =>
        intro j u hm hs hN
        obtain rfl : j = t 0 0 := by omega
        refine g_X8_sends_32 ⟨fun _ => k u hs hN, fun c => ?_⟩
        rw [hs.2 0 (by decide), hL.1] at c
        exact absurd (nI_le (Nat.le_refl _) (by omega)) c
      | succ m ih =>
        intro j u hm hs hN
        have hj : j < t 0 0 := by omega
        have eb : ∀ b, b ≠ 137 → b < 533 → u b = u0 b := fun b b1 b2 => hs.1 b b1 (by unfold inM; omega)
        have hLu : QL t u := hL.congr (hs.2 0 (by decide)) fun b b1 b2 => eb b (by omega) (by omega)
        have c0 : ¬ u 137 0 ≤ nI j := by rw [hLu.1]; exact nI_ge hj (by omega)
        obtain ⟨l1, l2, l3, l6, -⟩ := hLu.2 j hj
        obtain ⟨x1, x2, x3, x4, -, -, x7⟩ := wL.2 j hj
        have b13 := snL_13 t (rw8 r a o) cb j
        have snc : ∀ c, c < 13 → snL t (rw8 r a o) cb j c = t c := fun c hc => snL_ne (by omega) j
        have skip : ¬ (t 3 j = rw8 r a o / 8 % 3 ∧ upB t j (rw8 r a o / 24) = true ∧ cb.testBit j = false) → JVu E 2 YX8_sends K 32 [some (.ref 137), some (.int (nI r)), some (.int (nI o)), some (.int (nI a)), some (.int (nI (pl r o a))), some (.int (nI (j + 1)))] [] u := fun g => by
          refine ih (j + 1) u (by omega) hs ?_
          show QM (if (t 3 j = rw8 r a o / 8 % 3 ∧ upB t j (rw8 r a o / 24) = true ∧ cb.testBit j = false) ∧ snL t (rw8 r a o) cb j 13 0 < 192 then _ else _) u
          rw [if_neg (fun z => g z.1)]
          exact hN
        rw [e3, e24] at skip
        refine g_X8_sends_32 ⟨fun c => absurd c c0, fun _ => ⟨vpI (by omega) (by omega), ?_⟩⟩
        rw [nI_cl (show j < 2147483648 by omega), nI_cl (show pl r o a < 2147483648 by omega), nI_1, l3, l6, eb 146 (by decide) (by decide), h146 f1, nI_tst1 (by omega) (by omega), endR hLu wL hj hr, nI_eq (a := t 3 j) (by omega) (by omega)]
        refine ⟨fun c => skip fun g => c g.1, fun c => ⟨fun c3 => skip fun g => ?_, fun c3 => ⟨fun c4 => skip fun g => ?_, fun c4 => ⟨vpI hpl (by omega), fun c5 => ?_, fun c5 => skip fun g => by rw [c5] at g; exact absurd g.2.2 (by decide)⟩⟩⟩⟩
        · have c3' : t 6 j = 0 := nI_inj (b := 0) (by omega) (by omega) c3
          have g2 := g.2.1
          unfold upB at g2
          have := (of_decide_eq_true g2).1
          omega
        · have g2 := g.2.1
          unfold upB at g2
          exact c4 (of_decide_eq_true g2).2
        · have c6 : t 6 j = 1 := by
            rcases (show t 6 j = 0 ∨ t 6 j = 1 by omega) with q | q
            · rw [q] at c3; exact absurd rfl c3
            · exact q
          have cu : upB t j r = true := by unfold upB; exact decide_eq_true ⟨c6, Classical.not_not.mp c4⟩
          have cb0 : cb.testBit j = false := by simpa using c5
          have fit : fitR t (rw8 r a o) j = true := by unfold fitR; rw [e3, e24, cu, decide_eq_true c]; rfl
          have wf := wR_fit hj fit
          generalize hn : snL t (rw8 r a o) cb j 13 0 = n at *
          have n192 : n < 192 := by omega
          have e12 : u 137 12 = nI n := by rw [hN.1, hn]
          have hn' : (nI n).toNatClampNeg = n := nI_cl (by omega)
          have nv : vp_in (nI n) 400 := vpI (by omega) (by omega)
          have ho8 := oth_lt wL hj r
          rw [e12, hn']
          refine ⟨nv, fun u1 h1 => ?_⟩
          have z1 : ∀ b, b ≠ 533 → u1 b = u b := fun b hb => by rw [h1, jw_ne hb]
          rw [z1 137 (by decide), e12, hn', z1 138 (by decide), z1 139 (by decide), othR hLu wL hj hr]
          refine ⟨nv, fun u2 h2 => ?_⟩
          have z2 : ∀ b, b ≠ 533 → b ≠ 534 → u2 b = u b := fun b b1 b2 => by rw [h2, jw_ne b2, z1 b b1]
          rw [z2 137 (by decide) (by decide), e12, hn']
          refine ⟨nv, fun u3 h3 => ?_⟩
          have z3 : ∀ b, b ≠ 533 → b ≠ 534 → b ≠ 535 → u3 b = u b := fun b b1 b2 b3 => by rw [h3, jw_ne b3, z2 b b1 b2]
          rw [z3 137 (by decide) (by decide) (by decide), e12, hn']
          refine ⟨nv, fun u4 h4 => ?_⟩
          have z4 : ∀ b, b ≠ 533 → b ≠ 534 → b ≠ 535 → b ≠ 536 → u4 b = u b := fun b b1 b2 b3 b4 => by rw [h4, jw_ne b4, z3 b b1 b2 b3]
          rw [z4 137 (by decide) (by decide) (by decide) (by decide), e12, hn', z4 143 (by decide) (by decide) (by decide) (by decide), eb 143 (by decide) (by decide), k1]
          refine ⟨nv, fun u5 h5 => ?_⟩
          have z5 : ∀ b, b < 533 → u5 b = u b := fun b b1 => by rw [h5, jw_ne (by omega), z4 b (by omega) (by omega) (by omega) (by omega)]
          rw [z5 137 (by decide), e12, hn', z5 144 (by decide), eb 144 (by decide) (by decide), k3]
          refine ⟨nv, fun u6 h6 => ?_⟩
          have z6 : ∀ b, b < 533 → u6 b = u b := fun b b1 => by rw [h6, jw_ne (by omega), z5 b b1]
          have y6 : ∀ b, 540 ≤ b → u6 b = u b := fun b b1 => by rw [h6, jw_ne (by omega), h5, jw_ne (by omega), z4 b (by omega) (by omega) (by omega) (by omega)]
          rw [z6 137 (by decide), e12, hn']
          refine ⟨nv, by decide, fun u7 h7 => ?_⟩
          rw [cl_0, cl_12] at h7
          have z7 : ∀ b, b ≠ 540 + n → u7 b = u6 b := fun b b1 => by rw [h7, jcp_ne b1]
          rw [z7 137 (by omega), z6 137 (by decide), e12, hn']
          refine ⟨nv, by decide, fun u8 h8 => ?_⟩
          rw [cl_0, cl_8] at h8
          have z8 : ∀ b, b ≠ 540 + n → b ≠ 941 + n → u8 b = u6 b := fun b b1 b2 => by rw [h8, jcp_ne b2, z7 b b1]
          rw [z8 137 (by omega) (by omega), z6 137 (by decide), e12, nI_1]
          intro u9 h9
          have z9 : ∀ b, b ≠ 137 → u9 b = u8 b := fun b b1 => by rw [h9, jw_ne b1]
          refine ih (j + 1) u9 (by omega) (hs.trans ⟨fun b b1 b2 => ?_, fun f hf => ?_⟩) ?_
          · unfold inM at b2
            rw [z9 b b1, z8 b (by omega) (by omega)]
            by_cases b3 : b < 533
            · exact z6 b b3
            · exact y6 b (by omega)
          · rw [h9, jw_at, if_neg hf, z8 137 (by omega) (by omega), z6 137 (by decide)]
          · show QM (if (t 3 j = rw8 r a o / 8 % 3 ∧ upB t j (rw8 r a o / 24) = true ∧ cb.testBit j = false) ∧ snL t (rw8 r a o) cb j 13 0 < 192 then pmS (snL t (rw8 r a o) cb j) (rw8 r a o) j (rw8 r a o / 24) else _) u9
            rw [if_pos ⟨⟨c.trans e3.symm, by rw [e24]; exact cu, cb0⟩, by rw [hn]; exact n192⟩, e24]
            have wMn := snL_W (cb := cb) wL wM wK hrow p7 j (by omega)
            have q4 : ∀ b, b ≠ 137 → b < 540 → b ≠ 533 → b ≠ 534 → b ≠ 535 → b ≠ 536 → b ≠ 537 → b ≠ 538 → u9 b = u b := fun b b0 b1 b2 b3 b4 b5 b6 b7 => by
              rw [z9 b b0, z8 b (by omega) (by omega), h6, jw_ne b7, h5, jw_ne b6, z4 b b2 b3 b4 b5]
            refine QM.pm (u := u) wMn hN (by rw [hn]; exact n192) ?_ ?_ ?_ ?_ ?_ ?_ ?_ ?_ ?_ ?_
            · rw [hn, h9, jw_at, if_pos rfl]
            · intro i; rw [hn, z9 533 (by decide), z8 533 (by omega) (by omega), h6, jw_ne (by decide), h5, jw_ne (by decide), h4, jw_ne (by decide), h3, jw_ne (by decide), h2, jw_ne (by decide), h1, jw_at]
            · intro i; rw [hn, z9 534 (by decide), z8 534 (by omega) (by omega), h6, jw_ne (by decide), h5, jw_ne (by decide), h4, jw_ne (by decide), h3, jw_ne (by decide), h2, jw_at, z1 534 (by decide)]
              have : oth (snL t (rw8 r a o) cb j) j r = oth t j r := by unfold oth; rw [snc 1 (by omega), snc 2 (by omega)]
              rw [this]
            · intro i; rw [hn, e8, z9 535 (by decide), z8 535 (by omega) (by omega), h6, jw_ne (by decide), h5, jw_ne (by decide), h4, jw_ne (by decide), h3, jw_at, z2 535 (by decide) (by decide)]
            · intro i; rw [hn, snc 3 (by omega), c, z9 536 (by decide), z8 536 (by omega) (by omega), h6, jw_ne (by decide), h5, jw_ne (by decide), h4, jw_at, z3 536 (by decide) (by decide) (by decide)]
            · intro i; rw [hn, snc 7 (by omega), z9 537 (by decide), z8 537 (by omega) (by omega), h6, jw_ne (by decide), h5, jw_at, z4 537 (by decide) (by decide) (by decide) (by decide)]
            · intro i; rw [hn, snc 8 (by omega), z9 538 (by decide), z8 538 (by omega) (by omega), h6, jw_at, h5, jw_ne (by decide), z4 538 (by decide) (by decide) (by decide) (by decide)]
            · intro i hi; rw [hn, snc 9 (by omega), z9 _ (by omega), h8, jcp_ne (by omega), h7, jcp_at, if_pos (by omega), z6 _ (by omega), eb _ (by omega) (by omega)]; rw [show 0 + (i - 0) = i by omega]; exact k4 i hi
            · intro i hi; rw [hn, snc 10 (by omega), z9 _ (by omega), h8, jcp_at, if_pos (by omega), z7 _ (by omega), z6 _ (by omega), eb _ (by omega) (by omega)]; rw [show 0 + (i - 0) = i by omega]; exact k5 i hi
            · intro b b1 b2 b3 b4; rw [hn] at b3 b4; rw [z9 b (by omega), z8 b b3 b4, y6 b (by omega)]
    exact main (t 0 0) 0 u0 (by omega) sF.rfl hM
