/-! sendRow, sendOn -/
theorem RW.ext {A : Nat} {u : JM} {row num age : Nat} {cs ms cs' ms' : Nat → Nat} (h : RW A u row num age cs ms) (e : ∀ l, l < 12 → cs' l = cs l) (e' : ∀ d, d < 8 → ms' d = ms d) : RW A u row num age cs' ms' := by
  obtain ⟨r1, r2, r3, r4, r5⟩ := h
  refine ⟨r1, r2, ?_, fun l hl => by rw [e l hl]; exact r4 l hl, fun d hd => by rw [e' d hd]; exact r5 d hd⟩
  rw [r3]
  congr 1
  exact bits_ext fun l hl => by rw [e l hl]
/-- a row sent over a link -/
def pmS (s : St) (row l r : Nat) : St := fun c k =>
  if c = 13 then (if k = 0 then s 13 0 + 1 else s 13 k) else if c = 14 then (if k = s 13 0 then l else s 14 k) else if c = 15 then (if k = s 13 0 then oth s l r else s 15 k) else if c = 16 then (if k = s 13 0 then row % 8 else s 16 k)
  else if c = 17 then (if k = s 13 0 then s 7 row else s 17 k) else if c = 18 then (if k = s 13 0 then s 8 row else s 18 k) else if c = 19 then (if k / 12 = s 13 0 then s 9 (row * 12 + k % 12) else s 19 k) else if c = 20 then (if k / 8 = s 13 0 then s 10 (row * 8 + k % 8) else s 20 k) else s c k
theorem pmS_ne {s : St} {row l r c : Nat} (h : c < 13 ∨ 20 < c) : pmS s row l r c = s c := by
  funext k
  unfold pmS
  rw [if_neg (by omega), if_neg (by omega), if_neg (by omega), if_neg (by omega), if_neg (by omega), if_neg (by omega), if_neg (by omega), if_neg (by omega)]
theorem pmS_13 {s : St} {row l r : Nat} : pmS s row l r 13 0 = s 13 0 + 1 := rfl
theorem pmS_14 {s : St} {row l r k : Nat} : pmS s row l r 14 k = if k = s 13 0 then l else s 14 k := rfl
theorem pmS_15 {s : St} {row l r k : Nat} : pmS s row l r 15 k = if k = s 13 0 then oth s l r else s 15 k := rfl
theorem pmS_16 {s : St} {row l r k : Nat} : pmS s row l r 16 k = if k = s 13 0 then row % 8 else s 16 k := rfl
theorem pmS_17 {s : St} {row l r k : Nat} : pmS s row l r 17 k = if k = s 13 0 then s 7 row else s 17 k := rfl
theorem pmS_18 {s : St} {row l r k : Nat} : pmS s row l r 18 k = if k = s 13 0 then s 8 row else s 18 k := rfl
theorem pmS_19 {s : St} {row l r k : Nat} : pmS s row l r 19 k = if k / 12 = s 13 0 then s 9 (row * 12 + k % 12) else s 19 k := rfl
theorem pmS_20 {s : St} {row l r k : Nat} : pmS s row l r 20 k = if k / 8 = s 13 0 then s 10 (row * 8 + k % 8) else s 20 k := rfl
theorem pmS_WM {s : St} (wL : WL s) (wM : WM s) {row l : Nat} (hrow : row < 192) (wK : WK s) (hp : 0 < s 7 row) (hl : l < s 0 0) (h3 : s 3 l = row / 8 % 3) (hc : s 13 0 < 192) : WM (pmS s row l (row / 24)) := by
  obtain ⟨k1, k2⟩ := wK row hrow
  obtain ⟨k3, k4⟩ := k2 hp
  obtain ⟨m1, m2⟩ := wM
  have ho : oth s l (row / 24) < 8 := by
    obtain ⟨w1, w2, -⟩ := wL.2 l hl
    unfold oth
    split <;> assumption
  refine ⟨by rw [pmS_13]; omega, fun i hi => ?_⟩
  rw [pmS_13] at hi
  unfold WMi
  rw [pmS_14, pmS_15, pmS_16, pmS_17, pmS_18, pmS_ne (c := 0) (by omega), pmS_ne (c := 3) (by omega)]
  by_cases e : i = s 13 0
  · rw [if_pos e, if_pos e, if_pos e, if_pos e, if_pos e]
    refine ⟨hl, ho, by omega, hp, k1, k3, ?_⟩
    rw [h3]
    refine (k4.ext (fun l hl => ?_) (fun d hd => ?_)).congr fun c hc => pmS_ne (by omega)
    · rw [pmS_19, if_pos (by omega), show (i * 12 + l) % 12 = l by omega]
    · rw [pmS_20, if_pos (by omega), show (i * 8 + d) % 8 = d by omega]
  · rw [if_neg e, if_neg e, if_neg e, if_neg e, if_neg e]
    obtain ⟨g1, g2, g3, g4, g5, g6, g7⟩ := m2 i (by omega)
    refine ⟨g1, g2, g3, g4, g5, g6, ?_⟩
    refine (g7.ext (fun l hl => ?_) (fun d hd => ?_)).congr fun c hc => pmS_ne (by omega)
    · rw [pmS_19, if_neg (by omega)]
    · rw [pmS_20, if_neg (by omega)]
theorem CN.pm {N : Nat} {s : St} {u u2 u6 : JM} (hC : CN N s u) {row l r : Nat} (hrow : row < 192) (hp : 0 < s 7 row) (h4 : TR u (N + 15) (s 13 0) (N + 9) row u2)
    (h6 : u6 = jw (jw (jw (jw u2 (N + 21) (s 13 0) (nI l)) (N + 22) (s 13 0) (nI (oth s l r))) (N + 23) (s 13 0) (nI (row % 8))) N 6 (nI (s 13 0 + 1))) : CN N (pmS s row l r) u6 ∧ same u u6 (inNet N) ∧ u6 (N + 25) = u (N + 25) := by
  obtain ⟨cL, cK, cM, cF, cT⟩ := hC
  have hs : ∀ b, b < N + 16 ∨ N + 23 < b → b ≠ N → u6 b = u b := fun b hb h0 => by
    rw [h6, jw_ne h0, jw_ne (by omega), jw_ne (by omega), jw_ne (by omega), h4.1 b (fun q => by unfold inAd at q; omega)]
  have hs2 : ∀ b, inAd (N + 15) b → u6 b = u2 b := fun b hb => by
    unfold inAd at hb
    rw [h6, jw_ne (by omega), jw_ne (by omega), jw_ne (by omega), jw_ne (by omega)]
  have hN0 : ∀ k, k ≠ 6 → u6 N k = u N k := fun k hk => by
    rw [h6, jw_at, if_neg hk, jw_ne (by omega), jw_ne (by omega), jw_ne (by omega), h4.1 N (fun q => by unfold inAd at q; omega)]
  refine ⟨⟨(cL.congr fun j _ _ => hs _ (by omega) (by omega)).st fun c hc => pmS_ne (by omega), fun k hk => ?_, ⟨?_, fun i hi => ?_⟩, fun k hk => ?_, ?_⟩, fun b hb => by unfold inNet at hb; exact hs b (by omega) (by omega), hs _ (by omega) (by omega)⟩
  · exact KR.keep (N := N) (s := s) (u := u) (cK k hk) (by rw [hs _ (by omega) (by omega)]) (by rw [hs _ (by omega) (by omega)]) (by rw [hs _ (by omega) (by omega)]) (fun l hl => by rw [hs _ (by omega) (by omega)]) (fun l hl => by rw [hs _ (by omega) (by omega)]) (by rw [pmS_ne (by omega)]) (by rw [pmS_ne (by omega)]) (fun l hl => by rw [pmS_ne (by omega)]) (fun l hl => by rw [pmS_ne (by omega)])
  · rw [h6, jw_at, if_pos rfl]; rfl
  · rw [pmS_13] at hi
    have e21 : u6 (N + 21) i = if i = s 13 0 then nI l else u (N + 21) i := by
      rw [h6, jw_ne (by omega), jw_ne (by omega), jw_ne (by omega), jw_at, h4.1 (N + 21) (fun q => by unfold inAd at q; omega)]
    have e22 : u6 (N + 22) i = if i = s 13 0 then nI (oth s l r) else u (N + 22) i := by
      rw [h6, jw_ne (by omega), jw_ne (by omega), jw_at, jw_ne (by omega), h4.1 (N + 22) (fun q => by unfold inAd at q; omega)]
    have e23 : u6 (N + 23) i = if i = s 13 0 then nI (row % 8) else u (N + 23) i := by
      rw [h6, jw_ne (by omega), jw_at, jw_ne (by omega), jw_ne (by omega), h4.1 (N + 23) (fun q => by unfold inAd at q; omega)]
    unfold CMi
    rw [pmS_14, pmS_15, pmS_16, pmS_17, pmS_18, e21, e22, e23]
    by_cases e : i = s 13 0
    · rw [if_pos e, if_pos e, if_pos e, if_pos e, if_pos e, if_pos e, if_pos e, if_pos e]
      refine ⟨?_, rfl, rfl, rfl⟩
      have h := (h4.at (KR.rw (N := N) (s := s) (u := u) (cK row hrow) hp)).congr (u' := u6) hs2
      rw [← e] at h
      refine h.ext (fun j hj => ?_) (fun d hd => ?_)
      · show pmS s row l r 19 (i * 12 + j) = s 9 (row * 12 + j)
        rw [pmS_19, if_pos (by omega), show (i * 12 + j) % 12 = j by omega]
      · show pmS s row l r 20 (i * 8 + d) = s 10 (row * 8 + d)
        rw [pmS_20, if_pos (by omega), show (i * 8 + d) % 8 = d by omega]
    · rw [if_neg e, if_neg e, if_neg e, if_neg e, if_neg e, if_neg e, if_neg e, if_neg e]
      obtain ⟨g1, g2⟩ := cM.2 i (by omega)
      refine ⟨?_, g2⟩
      refine ((h4.other e g1).congr (u' := u6) hs2).ext (fun j hj => ?_) (fun d hd => ?_)
      · show pmS s row l r 19 (i * 12 + j) = s 19 (i * 12 + j)
        rw [pmS_19, if_neg (by omega)]
      · show pmS s row l r 20 (i * 8 + d) = s 20 (i * 8 + d)
        rw [pmS_20, if_neg (by omega)]
  · rw [hs _ (by omega) (by omega), hs _ (by omega) (by omega), pmS_ne (c := 11) (by omega), pmS_ne (c := 12) (by omega)]
    exact cF k hk
  · rw [hN0 7 (by omega), hN0 8 (by omega), pmS_ne (c := 21) (by omega), pmS_ne (c := 22) (by omega)]
    exact cT
theorem WK.st {s s' : St} (h : WK s) (e : ∀ c, c < 11 → s' c = s c) : WK s' := by
  intro row hrow
  have := h row hrow
  rw [e 7 (by omega), e 8 (by omega), e 9 (by omega), e 10 (by omega)]
  exact ⟨this.1, fun q => ⟨(this.2 q).1, (this.2 q).2.congr fun c hc => e c (by omega)⟩⟩
/-- a row sent over the first k links, but for those it came by -/
def snL (s : St) (row cb : Nat) : Nat → St
  | 0 => s
  | k + 1 => if (s 3 k = row / 8 % 3 ∧ upB s k (row / 24) = true ∧ cb.testBit k = false) ∧ snL s row cb k 13 0 < 192 then pmS (snL s row cb k) row k (row / 24) else snL s row cb k
theorem snL_ne {s : St} {row cb c : Nat} (h : c < 13 ∨ 20 < c) : ∀ k, snL s row cb k c = s c
  | 0 => rfl
  | k + 1 => by
    unfold snL
    split
    · rw [pmS_ne h, snL_ne h k]
    · exact snL_ne h k
theorem snL_W {s : St} (wL : WL s) (wM : WM s) (wK : WK s) {row cb : Nat} (hrow : row < 192) (hp : 0 < s 7 row) : ∀ k, k ≤ s 0 0 → WM (snL s row cb k)
  | 0, _ => wM
  | k + 1, h => by
    have ih := snL_W (cb := cb) wL wM wK hrow hp k (by omega)
    unfold snL
    split
    · rename_i c
      exact pmS_WM (wL.congr fun c hc => snL_ne (by omega) k) ih hrow (wK.st fun c hc => snL_ne (by omega) k) (by rw [snL_ne (by omega)]; exact hp) (by rw [snL_ne (by omega)]; omega) (by rw [snL_ne (by omega)]; exact c.1.1) c.2
    · exact ih
theorem c_X2_sendRow {E : JE} {u0 : JM} {K : JM → Prop} {N : Nat} (hN : isNet N) {s : St} (hC : CN N s u0) (wL : WL s) (wM : WM s) (wK : WK s) {row cb : Nat} (hrow : row < 192) (hp : 0 < s 7 row) (hcb : u0 (N + 25) row = nI cb) (hcl : cb < 4096)
    (hK : ∀ u', same u0 u' (inNet N) → CN N (snL s row cb (s 0 0)) u' → u' (N + 25) = u0 (N + 25) → K u') : JCu E 2 YX2_sendRow [.ref N, .int (nI row)] K u0 := by
  have h12 := wL.1
  refine JCu.ofV (ls := [some (.ref N), some (.int (nI row)), none, none, none, none]) (by decide +kernel) (Nat.le_of_ble_eq_true rfl) rfl rfl (g_X2_sendRow_0 hN ?_)
  have hd : nI row / 24 = nI (row / 24) ∧ nI row / 8 - nI row / 8 / 3 * 3 = nI (row / 8 % 3) := by
    have h : ((List.range 192).all fun k => decide (nI k / 24 = nI (k / 24) ∧ nI k / 8 - nI k / 8 / 3 * 3 = nI (k / 8 % 3))) = true := by decide +kernel
    exact of_decide_eq_true (List.all_eq_true.mp h row (List.mem_range.mpr hrow))
  rw [hd.1, hd.2]
  intro i3 e3
  subst e3
  have hr8 : row / 24 < 8 := by omega
  have ha3 : row / 8 % 3 < 3 := by omega
  have main : ∀ (m k : Nat) (u : JM), m + k = s 0 0 → same u0 u (inNet N) → CN N (snL s row cb k) u → u (N + 25) = u0 (N + 25) → JVu E 2 YX2_sendRow K 15 [some (.ref N), some (.int (nI row)), some (.int (nI (row / 24))), some (.int (nI (row / 8 % 3))), some (.int (nI k)), none] [] u := by
    intro m
    induction m with
    | zero =>
      intro k u hm hs hC h25
      obtain rfl : k = s 0 0 := by omega
      refine g_X2_sendRow_15 hN ⟨fun _ => hK u hs hC h25, fun c => ?_⟩
      rw [hC.1.1, snL_ne (by omega)] at c
      exact absurd (nI_le (Nat.le_refl _) (by omega)) c
    | succ m ih =>
      intro k u hm hs hC h25
      have hk : k < s 0 0 := by omega
      have hC' := hC
      obtain ⟨cL, cK, cM, cF, cT⟩ := hC
      have wLk : WL (snL s row cb k) := wL.congr fun c hc => snL_ne (by omega) k
      have wMk := snL_W (cb := cb) wL wM wK hrow hp k (by omega)
      have hkn : k < snL s row cb k 0 0 := by rw [snL_ne (by omega)]; exact hk
      have c0 : ¬ u (N + 1) 0 ≤ nI k := by rw [cL.1, snL_ne (by omega)]; exact nI_ge hk (by omega)
      have h3 := (wL.2 k hk).2.2.2.1
      have c4 := (cL.2.1 k hkn).2.2.1
      rw [snL_ne (by omega)] at c4
      have eU : upB (snL s row cb k) k (row / 24) = upB s k (row / 24) := by
        unfold upB
        rw [snL_ne (c := 6) (by omega), snL_ne (c := 1) (by omega), snL_ne (c := 2) (by omega)]
      have e13 : u N 6 = nI (snL s row cb k 13 0) := cM.1
      have m192 := wMk.1
      refine g_X2_sendRow_15 hN ⟨fun c => absurd c c0, fun _ => ⟨vpI (by omega) (by omega), ?_⟩⟩
      rw [nI_cl (show k < 2147483648 by omega), nI_1, c4, up_if cL wLk hkn hr8, eU, nI_cl (show row < 2147483648 by omega), h25, hcb, nI_tst (by omega) (show k < 31 by omega), e13]
      intro v hv
      have skip : ¬ ((s 3 k = row / 8 % 3 ∧ upB s k (row / 24) = true ∧ cb.testBit k = false) ∧ snL s row cb k 13 0 < 192) → JVu E 2 YX2_sendRow K 15 [some (.ref N), some (.int (nI row)), some (.int (nI (row / 24))), some (.int (nI (row / 8 % 3))), some (.int (nI (k + 1))), none] [] u := by
        intro c
        refine ih (k + 1) u (by omega) hs ?_ h25
        unfold snL
        rw [if_neg c]
        exact hC'
      have hv' : v = if s 3 k = row / 8 % 3 ∧ upB s k (row / 24) = true then 1 else 0 := by
        rw [hv]
        by_cases q : s 3 k = row / 8 % 3
        · rw [if_pos (by rw [q])]
          by_cases q2 : upB s k (row / 24) = true
          · rw [if_pos q2, if_pos ⟨q, q2⟩]
          · rw [if_neg q2, if_neg (fun g => q2 g.2)]
        · rw [if_neg (fun g => q (nI_inj (by omega) (by omega) g)), if_neg (fun g => q g.1)]
      rw [hv']
      refine ⟨fun c => skip fun g => ?_, fun c => ⟨vpI hrow (by omega), fun c2 => skip fun g => c2 g.1.2.2, fun c2 => ⟨fun c3 => skip fun g => ?_, fun c3 => ?_⟩⟩⟩
      · rw [if_pos ⟨g.1.1, g.1.2.1⟩] at c
        exact absurd c (by decide)
      · exact nI_ge (a := snL s row cb k 13 0) (b := 192) g.2 (by omega) c3
      · have hc : snL s row cb k 13 0 < 192 := by
          rcases Nat.lt_or_ge (snL s row cb k 13 0) 192 with q | q
          · exact q
          · exact absurd (nI_le (a := 192) (b := snL s row cb k 13 0) q (by omega)) c3
        have hcond : s 3 k = row / 8 % 3 ∧ upB s k (row / 24) = true := by
          by_cases q : s 3 k = row / 8 % 3 ∧ upB s k (row / 24) = true
          · exact q
          · rw [if_neg q] at c; exact absurd rfl c
        refine c_X0_takeRow (isAdv_s hN) (isAdv_k hN) (by omega) hc hrow fun u2 h2 => ?_
        have g6 : u2 N 6 = nI (snL s row cb k 13 0) := by rw [h2.1 N (fun q => by unfold inAd at q; omega), e13]
        rw [g6, nI_cl (show snL s row cb k 13 0 < 2147483648 by omega)]
        refine ⟨vpI hc (by omega), fun u3 h3' => ?_⟩
        have g6' : u3 N 6 = nI (snL s row cb k 13 0) := by rw [h3', jw_ne (by omega), g6]
        rw [g6', nI_cl (show snL s row cb k 13 0 < 2147483648 by omega)]
        refine ⟨vpI hc (by omega), fun u4 h4 => ?_⟩
        have cL3 : CL N (snL s row cb k) u3 := cL.congr fun j _ _ => by rw [h3', jw_ne (by omega), h2.1 _ (fun q => by unfold inAd at q; omega)]
        rw [(oth_cell cL3 wLk hkn hr8).1] at h4
        have g6'' : u4 N 6 = nI (snL s row cb k 13 0) := by rw [h4, jw_ne (by omega), g6']
        rw [g6'', nI_cl (show snL s row cb k 13 0 < 2147483648 by omega), row_div hrow]
        refine ⟨vpI hc (by omega), fun u5 h5 u6 h6 => ?_⟩
        have g6''' : u5 N 6 = nI (snL s row cb k 13 0) := by rw [h5, jw_ne (by omega), g6'']
        rw [g6''', nI_1] at h6
        obtain ⟨q1, q2, q3⟩ := hC'.pm (u6 := u6) hrow (by rw [snL_ne (by omega)]; exact hp) h2 (by rw [h6, h5, h4, h3'])
        refine ih (k + 1) u6 (by omega) (hs.trans q2) ?_ (q3.trans h25)
        unfold snL
        rw [if_pos ⟨⟨hcond.1, hcond.2, c2⟩, hc⟩]
        exact q1
  exact main (s 0 0) 0 u0 (by omega) same.rfl hC rfl
