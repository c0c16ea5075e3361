/-! arrive and growOlder -/
def arv (s : St) : Nat → St
  | 0 => s
  | k + 1 => if s 6 (s 14 k) = 1 ∧ s 15 k ≠ s 16 k then tkS (arv s k) k else arv s k
theorem arv_ne (s : St) {c : Nat} (h : c < 7 ∨ 12 < c) : ∀ k, arv s k c = s c
  | 0 => rfl
  | k + 1 => by
    unfold arv
    split
    · rw [tkS_ne h, arv_ne s h k]
    · exact arv_ne s h k
theorem WMi.st {s s' : St} {i : Nat} (h : WMi s i) (e : ∀ c, c < 7 → s' c = s c) (e2 : ∀ c, 13 ≤ c → c ≤ 20 → s' c = s c) : WMi s' i := by
  obtain ⟨g1, g2, g3, g4, g5, g6, g7⟩ := h
  unfold WMi
  rw [e2 14 (by omega) (by omega), e2 15 (by omega) (by omega), e2 16 (by omega) (by omega), e2 17 (by omega) (by omega), e2 18 (by omega) (by omega), e2 19 (by omega) (by omega), e2 20 (by omega) (by omega), e 0 (by omega), e 3 (by omega)]
  exact ⟨g1, g2, g3, g4, g5, g6, g7.congr e⟩
theorem arv_W {s : St} (wL : WL s) (wK : WK s) (wM : WM s) (wF : WF s) : ∀ k, k ≤ s 13 0 → WK (arv s k) ∧ WF (arv s k)
  | 0, _ => ⟨wK, wF⟩
  | k + 1, h => by
    obtain ⟨h1, h2⟩ := arv_W wL wK wM wF k (by omega)
    have wL' : WL (arv s k) := wL.congr fun c hc => arv_ne s (by omega) k
    have wi : WMi (arv s k) k := (wM.2 k (by omega)).st (fun c hc => arv_ne s (by omega) k) (fun c h1 h2 => arv_ne s (by omega) k)
    unfold arv
    split
    · exact ⟨tkS_WK wL' h1 wi, tkS_WF wL' h2 wi⟩
    · exact ⟨h1, h2⟩
/-- behind the arrival: nothing waits -/
def avS (s : St) : St := set1 (arv s (s 13 0)) 13 0 0
theorem arrive_loop {E : JE} {u0 : JM} {K : JM → Prop} {N : Nat} (hN : isNet N) {s : St} (wL : WL s) (wK : WK s) (wM : WM s) (wF : WF s)
    (hK : ∀ u', same u0 u' (inNet N) → CN N (avS s) u' → K u') :
    ∀ (m k : Nat) (u : JM), m + k = s 13 0 → same u0 u (inNet N) → CN N (arv s k) u → JVu E 3 YX2_arrive K 2 [some (.ref N), some (.int (nI k))] [] u := by
  have h192 := wM.1
  intro m
  induction m with
  | zero =>
    intro k u hm hs hC
    obtain rfl : k = s 13 0 := by omega
    obtain ⟨cL, cK, cM, cF, cT⟩ := hC
    have c6 : u N 6 = nI (s 13 0) := by rw [cM.1, arv_ne s (by omega)]
    refine g_X2_arrive_2 hN ⟨fun _ => ?_, fun c => ?_⟩
    · intro u1 h1
      have hs1 : ∀ b, b ≠ N → u1 b = u b := fun b hb => by rw [h1, jw_ne hb]
      refine hK u1 (hs.trans fun b hb => hs1 b fun q => hb (by rw [q]; exact ⟨by omega, by omega⟩)) ?_
      unfold avS
      refine ⟨(cL.congr fun j _ _ => hs1 _ (by omega)).st fun c hc => set1_ne (by omega), ?_, ⟨?_, fun i hi => ?_⟩, ?_, ?_⟩
      · intro k hk
        exact KR.keep (N := N) (s := arv s (s 13 0)) (u := u) (cK k hk) (by rw [hs1 _ (by omega)]) (by rw [hs1 _ (by omega)]) (by rw [hs1 _ (by omega)]) (fun l hl => by rw [hs1 _ (by omega)]) (fun l hl => by rw [hs1 _ (by omega)]) (by rw [set1_ne (by omega)]) (by rw [set1_ne (by omega)]) (fun l hl => by rw [set1_ne (by omega)]) (fun l hl => by rw [set1_ne (by omega)])
      · rw [h1, jw_at, set1_at]; rfl
      · rw [set1_at, if_pos rfl] at hi
        exact absurd hi (Nat.not_lt_zero i)
      · intro k hk
        rw [hs1 _ (by omega), hs1 _ (by omega), set1_ne (by omega), set1_ne (by omega)]
        exact cF k hk
      · rw [set1_ne (by omega), set1_ne (by omega), h1, jw_at, if_neg (by omega), jw_at, if_neg (by omega)]
        exact cT
    · rw [c6] at c
      exact absurd (nI_le (Nat.le_refl _) (by omega)) c
  | succ m ih =>
    intro k u hm hs hC
    have hk : k < s 13 0 := by omega
    have wi := wM.2 k hk
    have hl : s 14 k < 12 := Nat.lt_of_lt_of_le wi.1 wL.1
    have w6 := (wL.2 _ wi.1).2.2.2.2.2.2
    have w7 := wi.2.1
    have w8 := wi.2.2.1
    have hC' := hC
    obtain ⟨cL, cK, cM, cF, cT⟩ := hC
    have c6 : u N 6 = nI (s 13 0) := by rw [cM.1, arv_ne s (by omega)]
    have hk' : k < arv s k 13 0 := by rw [arv_ne s (by omega)]; exact hk
    obtain ⟨-, c14, c15, c16⟩ := cM.2 k hk'
    rw [arv_ne s (by omega)] at c14 c15 c16
    have c7 := (cL.2.1 (s 14 k) (by rw [arv_ne s (by omega)]; exact wi.1)).2.2.2.2.2
    rw [arv_ne s (by omega)] at c7
    have c0 : ¬ u N 6 ≤ nI k := by rw [c6]; exact nI_ge hk (by omega)
    refine g_X2_arrive_2 hN ⟨fun c => absurd c c0, fun _ => ⟨vpI (by omega) (by omega), ?_⟩⟩
    rw [nI_cl (show k < 2147483648 by omega), nI_1, c14, nI_cl (show s 14 k < 2147483648 by omega), c15, c16, c7]
    refine ⟨vpI hl (by omega), fun c => ?_, fun c => ⟨fun c2 => ?_, fun c2 => ?_⟩⟩
    · refine ih (k + 1) u (by omega) hs ?_
      rw [show arv s (k + 1) = if s 6 (s 14 k) = 1 ∧ s 15 k ≠ s 16 k then tkS (arv s k) k else arv s k from rfl, if_neg (fun q => by rw [q.1] at c; exact absurd c (by decide))]
      exact hC'
    · refine ih (k + 1) u (by omega) hs ?_
      rw [show arv s (k + 1) = if s 6 (s 14 k) = 1 ∧ s 15 k ≠ s 16 k then tkS (arv s k) k else arv s k from rfl, if_neg (fun q => q.2 (nI_inj (by omega) (by omega) c2))]
      exact hC'
    · have g1 : s 6 (s 14 k) = 1 := by
        rcases (show s 6 (s 14 k) = 0 ∨ s 6 (s 14 k) = 1 by omega) with q | q
        · rw [q] at c; exact absurd rfl c
        · exact q
      obtain ⟨h1, h2⟩ := arv_W wL wK wM wF k (by omega)
      refine c_X2_take hN hC' (wL.congr fun c hc => arv_ne s (by omega) k) h2 hk' (by rw [arv_ne s (by omega)]; omega) (wi.st (fun c hc => arv_ne s (by omega) k) (fun c h1 h2 => arv_ne s (by omega) k)) h1 fun u' q1 q2 => ?_
      refine ih (k + 1) u' (by omega) (hs.trans q1) ?_
      rw [show arv s (k + 1) = if s 6 (s 14 k) = 1 ∧ s 15 k ≠ s 16 k then tkS (arv s k) k else arv s k from rfl, if_pos ⟨g1, fun q => c2 (by rw [q])⟩]
      exact q2
theorem c_X2_arrive {E : JE} {u : JM} {K : JM → Prop} {N : Nat} (hN : isNet N) {s : St} (hC : CN N s u) (wL : WL s) (wK : WK s) (wM : WM s) (wF : WF s)
    (hK : ∀ u', same u u' (inNet N) → CN N (avS s) u' → K u') : JCu E 3 YX2_arrive [.ref N] K u := by
  refine JCu.ofV (ls := [some (.ref N), none]) (by decide +kernel) (Nat.le_of_ble_eq_true rfl) rfl rfl (g_X2_arrive_0 hN ?_)
  exact arrive_loop hN wL wK wM wF hK (s 13 0) 0 u (by omega) same.rfl hC
/-- forgotten in this tick -/
def dies (s : St) (k : Nat) : Bool := decide (s 7 k ≠ 0 ∧ 60 ≤ s 8 k + 1 ∧ k % 8 ≠ k / 24)
/-- the first m rows grown older -/
def grS (s : St) (m : Nat) : St := fun c k =>
  if c = 7 then (if k < m ∧ dies s k = true then 0 else s 7 k) else if c = 8 then (if k < m ∧ s 7 k ≠ 0 then s 8 k + 1 else s 8 k) else if c = 11 then (if k < m ∧ dies s k = true then 0 else s 11 k) else s c k
theorem grS_ne {s : St} {m c : Nat} (h : c ≠ 7) (h8 : c ≠ 8) (h11 : c ≠ 11) : grS s m c = s c := by
  funext k
  unfold grS
  rw [if_neg h, if_neg h8, if_neg h11]
theorem grS_7 (s : St) (m k : Nat) : grS s m 7 k = if k < m ∧ dies s k = true then 0 else s 7 k := rfl
theorem grS_8 (s : St) (m k : Nat) : grS s m 8 k = if k < m ∧ s 7 k ≠ 0 then s 8 k + 1 else s 8 k := rfl
theorem grS_11 (s : St) (m k : Nat) : grS s m 11 k = if k < m ∧ dies s k = true then 0 else s 11 k := rfl
theorem grS_0 (s : St) : grS s 0 = s := by
  have n : ∀ (k : Nat) (p : Prop), ¬ (k < 0 ∧ p) := fun k p q => absurd q.1 (Nat.not_lt_zero k)
  funext c k
  by_cases h7 : c = 7
  · subst h7
    rw [grS_7, if_neg (n _ _)]
  · by_cases h8 : c = 8
    · subst h8
      rw [grS_8, if_neg (n _ _)]
    · by_cases h11 : c = 11
      · subst h11
        rw [grS_11, if_neg (n _ _)]
      · rw [grS_ne h7 h8 h11]
/-- a step from m to m + 1 changes row m alone -/
theorem grS_keep {s : St} {m k c : Nat} (h : k ≠ m) : grS s (m + 1) c k = grS s m c k := by
  have : ∀ {p : Prop}, (k < m + 1 ∧ p) ↔ (k < m ∧ p) := fun {p} => ⟨fun q => ⟨by omega, q.2⟩, fun q => ⟨by omega, q.2⟩⟩
  unfold grS
  simp only [this]
theorem c_X2_growOlder {E : JE} {u0 : JM} {K : JM → Prop} {N : Nat} (hN : isNet N) {s : St} (hC : CN N s u0) (wK : WK s)
    (hK : ∀ u', same u0 u' (inNet N) → CN N (grS s 192) u' → K u') : JCu E 2 YX2_growOlder [.ref N] K u0 := by
  refine JCu.ofV (ls := [some (.ref N), none]) (by decide +kernel) (Nat.le_of_ble_eq_true rfl) rfl rfl (g_X2_growOlder_0 hN ?_)
  have main : ∀ (m k : Nat) (u : JM), m + k = 192 → same u0 u (inNet N) → CN N (grS s k) u → JVu E 2 YX2_growOlder K 2 [some (.ref N), some (.int (nI k))] [] u := by
    intro m
    induction m with
    | zero =>
      intro k u hm hs hC
      obtain rfl : k = 192 := by omega
      exact g_X2_growOlder_2 hN ⟨fun _ => hK u hs hC, fun c => absurd (show (192 : Int32) ≤ nI 192 by decide) c⟩
    | succ m ih =>
      intro k u hm hs hC
      have hk : k < 192 := by omega
      obtain ⟨cL, cK, cM, cF, cT⟩ := hC
      obtain ⟨w7, w8⟩ := wK k hk
      have a7 : grS s k 7 k = s 7 k := by rw [grS_7, if_neg (fun q => absurd q.1 (Nat.lt_irrefl k))]
      have a8 : grS s k 8 k = s 8 k := by rw [grS_8, if_neg (fun q => absurd q.1 (Nat.lt_irrefl k))]
      have b7 : grS s (k + 1) 7 k = if dies s k = true then 0 else s 7 k := by
        rw [grS_7]
        by_cases d : dies s k = true
        · rw [if_pos ⟨by omega, d⟩, if_pos d]
        · rw [if_neg (fun q => d q.2), if_neg d]
      have b8 : grS s (k + 1) 8 k = if s 7 k ≠ 0 then s 8 k + 1 else s 8 k := by
        rw [grS_8]
        by_cases d : s 7 k ≠ 0
        · rw [if_pos ⟨by omega, d⟩, if_pos d]
        · rw [if_neg (fun q => d q.2), if_neg d]
      have b11 : grS s (k + 1) 11 k = if dies s k = true then 0 else s 11 k := by
        rw [grS_11]
        by_cases d : dies s k = true
        · rw [if_pos ⟨by omega, d⟩, if_pos d]
        · rw [if_neg (fun q => d q.2), if_neg d]
      obtain ⟨r1, r2, r3⟩ := cK k hk
      -- what the step must leave, row by row
      have fin : ∀ u', same u0 u' (inNet N) → (∀ b, b ≠ N + 10 → b ≠ N + 11 → b ≠ N + 12 → b ≠ N + 24 → u' b = u b) → (∀ b, ∀ j, j ≠ k → u' b j = u b j) → u' (N + 10) k = nI (grS s (k + 1) 7 k) → u' (N + 12) k = nI (if dies s k = true then 0 else lks s k) → (s 7 k ≠ 0 → dies s k = false → u' (N + 11) k = nI (s 8 k + 1)) → u' (N + 24) k = nI (grS s (k + 1) 11 k) →
          JVu E 2 YX2_growOlder K 2 [some (.ref N), some (.int (nI (k + 1)))] [] u' := by
        intro u' f0 f1 f2 f3 f4 f5 f6
        refine ih (k + 1) u' (by omega) f0 ⟨(cL.congr fun j _ _ => f1 _ (by omega) (by omega) (by omega) (by omega)).st fun c hc => ?_, fun j hj => ?_, cM.congr (fun c h1 h2 => ?_) (by rw [f1 N (by omega) (by omega) (by omega) (by omega)]) (fun j h1 h2 => f1 _ (by omega) (by omega) (by omega) (by omega)), fun j hj => ?_, ?_⟩
        · rw [grS_ne (by omega) (by omega) (by omega), grS_ne (by omega) (by omega) (by omega)]
        · by_cases e : j = k
          · subst e
            refine ⟨f3, ?_, fun hp => ?_⟩
            · rw [f4]
              unfold lks
              rw [b7, grS_ne (c := 9) (by omega) (by omega) (by omega)]
              by_cases d : dies s j = true
              · rw [if_pos d, if_pos d, if_pos rfl]
              · rw [if_neg d, if_neg d]
            · rw [b7] at hp
              have d : dies s j = false := by
                cases hd : dies s j with
                | false => rfl
                | true => rw [if_pos hd] at hp; exact absurd hp (Nat.lt_irrefl 0)
              rw [d] at hp
              have hp : 0 < s 7 j := hp
              rw [b8, if_pos (by omega), f1 (N + 13) (by omega) (by omega) (by omega) (by omega), f1 (N + 14) (by omega) (by omega) (by omega) (by omega), grS_ne (c := 9) (by omega) (by omega) (by omega), grS_ne (c := 10) (by omega) (by omega) (by omega)]
              refine ⟨f5 (by omega) d, ?_⟩
              obtain ⟨-, g2, g3⟩ := r3 (by rw [a7]; exact hp)
              rw [grS_ne (c := 9) (by omega) (by omega) (by omega)] at g2
              rw [grS_ne (c := 10) (by omega) (by omega) (by omega)] at g3
              exact ⟨g2, g3⟩
          · refine KR.keep (N := N) (s := grS s k) (u := u) (cK j hj) (f2 _ _ e) (f2 _ _ e) (f2 _ _ e) (fun l hl => by rw [f1 _ (by omega) (by omega) (by omega) (by omega)]) (fun l hl => by rw [f1 _ (by omega) (by omega) (by omega) (by omega)]) (grS_keep e) (grS_keep e) (fun l hl => ?_) (fun l hl => ?_)
            · rw [grS_ne (by omega) (by omega) (by omega), grS_ne (by omega) (by omega) (by omega)]
            · rw [grS_ne (by omega) (by omega) (by omega), grS_ne (by omega) (by omega) (by omega)]
        · rw [grS_ne (by omega) (by omega) (by omega), grS_ne (by omega) (by omega) (by omega)]
        · by_cases e : j = k
          · subst e
            refine ⟨f6, fun q => ?_⟩
            have q' : grS s j 11 j = 1 := by
              rw [b11] at q
              rw [grS_11, if_neg (fun q => absurd q.1 (Nat.lt_irrefl j))]
              split at q
              · exact absurd q (by decide)
              · exact q
            rw [f1 (N + 25) (by omega) (by omega) (by omega) (by omega), (cF j hj).2 q', grS_ne (by omega) (by omega) (by omega), grS_ne (by omega) (by omega) (by omega)]
          · rw [f2 _ _ e, f2 _ _ e, grS_keep e, grS_keep e]
            exact cF j hj
        · rw [f1 N (by omega) (by omega) (by omega) (by omega), grS_ne (c := 21) (by omega) (by omega) (by omega), grS_ne (c := 22) (by omega) (by omega) (by omega)]
          rw [grS_ne (c := 21) (by omega) (by omega) (by omega), grS_ne (c := 22) (by omega) (by omega) (by omega)] at cT
          exact cT
      have l12 : u (N + 12) k = nI (lks s k) := by
        rw [r2]
        unfold lks
        rw [a7, grS_ne (c := 9) (by omega) (by omega) (by omega)]
      have f24 : u (N + 24) k = nI (s 11 k) := by
        rw [(cF k hk).1, grS_11, if_neg (fun q => absurd q.1 (Nat.lt_irrefl k))]
      refine g_X2_growOlder_2 hN ⟨fun c => absurd c (nI_ge (a := k) (b := 192) (by omega) (by omega)), fun _ => ⟨vpI (by omega) (by omega), ?_⟩⟩
      rw [nI_cl (show k < 2147483648 by omega), nI_1, r1, a7]
      refine ⟨fun c => ?_, fun c => ?_⟩
      · have c : s 7 k = 0 := nI_inj (by omega) (by omega) (c.trans (show (0 : Int32) = nI 0 from rfl))
        have d : ¬ dies s k = true := by unfold dies; rw [decide_eq_true_iff]; exact fun q => q.1 c
        refine fin u hs (fun b _ _ _ _ => rfl) (fun b j _ => rfl) ?_ ?_ (fun q => absurd c q) ?_
        · rw [r1, a7, b7, if_neg d]
        · rw [if_neg d, l12]
        · rw [f24, b11, if_neg d]
      · have c : s 7 k ≠ 0 := fun q => c (by rw [q]; rfl)
        intro u1 h1
        obtain ⟨w8, -⟩ := w8 (by omega)
        have r8 : u (N + 11) k = nI (s 8 k) := by rw [(r3 (by rw [a7]; omega)).1, a8]
        rw [r8, nI_1] at h1
        have e1 : u1 (N + 11) k = nI (s 8 k + 1) := by rw [h1, jw_at, if_pos rfl]
        have s1 : ∀ b, b ≠ N + 11 → u1 b = u b := fun b hb => by rw [h1, jw_ne hb]
        have s2 : ∀ b j, j ≠ k → u1 b j = u b j := fun b j hj => by
          by_cases e : b = N + 11
          · rw [e, h1, jw_at, if_neg hj]
          · rw [s1 b e]
        have hs1 : same u0 u1 (inNet N) := by rw [h1]; exact hs.jw (inNet_of (by omega))
        rw [e1]
        have q0 : ((nI (s 8 k + 1)) < (60 : Int32)) ↔ s 8 k + 1 < 60 := by
          rw [Int32.lt_iff_toInt_lt, nI_toInt (by omega), show (60 : Int32).toInt = 60 from by decide]
          omega
        rw [q0]
        have out : ¬ dies s k = true → JVu E 2 YX2_growOlder K 2 [some (.ref N), some (.int (nI (k + 1)))] [] u1 := by
          intro d
          refine fin u1 hs1 (fun b _ h _ _ => s1 b h) s2 ?_ ?_ (fun _ _ => e1) ?_
          · rw [s1 _ (by omega), r1, a7, b7, if_neg d]
          · rw [if_neg d, s1 _ (by omega), l12]
          · rw [s1 _ (by omega), f24, b11, if_neg d]
        refine ⟨fun c2 => out (by unfold dies; rw [decide_eq_true_iff]; omega), fun c2 => ?_⟩
        have q1 : jb (nI k - nI k / 8 * 8 = nI k / 24) = jb (k % 8 = k / 24) := by
          have : (nI k - nI k / 8 * 8 = nI k / 24) ↔ (k % 8 = k / 24) := by
            have h : ((List.range 192).all fun k => decide ((nI k - nI k / 8 * 8 = nI k / 24) ↔ (k % 8 = k / 24))) = true := by decide +kernel
            exact of_decide_eq_true (List.all_eq_true.mp h k (List.mem_range.mpr hk))
          unfold jb
          by_cases e : k % 8 = k / 24
          · rw [if_pos e, if_pos (this.mpr e)]
          · rw [if_neg e, if_neg (fun q => e (this.mp q))]
        rw [q1]
        refine ⟨fun c3 => out ?_, fun c3 => ?_⟩
        · rw [jb_n0] at c3
          unfold dies
          rw [decide_eq_true_iff]
          omega
        · rw [jb_0] at c3
          have d : dies s k = true := by unfold dies; rw [decide_eq_true_iff]; omega
          refine c_X0_forget (isAdv_k hN) hk fun u2 t1 t2 t3 u3 h3 => ?_
          have s3 : ∀ b, b ≠ N + 10 → b ≠ N + 12 → b ≠ N + 24 → u3 b = u1 b := fun b g1 g2 g3 => by rw [h3, jw_ne g3, t1 b (by omega)]
          refine fin u3 (fun b hb => ?_) (fun b g1 g2 g3 g4 => by rw [s3 b g1 g3 g4, s1 b g2]) (fun b j hj => ?_) ?_ ?_ (fun _ q => by rw [d] at q; cases q) ?_
          · rw [s3 b (fun q => hb (by rw [q]; exact inNet_of (by omega))) (fun q => hb (by rw [q]; exact inNet_of (by omega))) (fun q => hb (by rw [q]; exact inNet_of (by omega))), hs1 b hb]
          · rw [← s2 b j hj]
            by_cases g3 : b = N + 24
            · rw [g3, h3, jw_at, if_neg hj, t1 _ (by omega)]
            · rw [h3, jw_ne g3]
              by_cases g1 : b = N + 10
              · rw [g1, show u2 (N + 10) j = _ from t2 j, if_neg hj]
              · by_cases g2 : b = N + 12
                · rw [g2, show u2 (N + 12) j = _ from t3 j, if_neg hj]
                · rw [t1 b (by omega)]
          · rw [h3, jw_ne (by omega), show u2 (N + 10) k = _ from t2 k, if_pos rfl, b7, if_pos d]
            rfl
          · rw [h3, jw_ne (by omega), show u2 (N + 12) k = _ from t3 k, if_pos rfl, if_pos d]
            rfl
          · rw [h3, jw_at, if_pos rfl, b11, if_pos d]
            rfl
  exact main 192 0 u0 (by omega) same.rfl (by rw [grS_0]; exact hC)
