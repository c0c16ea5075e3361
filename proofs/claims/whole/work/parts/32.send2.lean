/-! sendOn -/
def sno (s : St) : Nat → St
  | 0 => s
  | k + 1 => if s 11 k = 1 then snL (set1 (sno s k) 11 k 0) k (s 12 k) (s 0 0) else sno s k
theorem sno_ne {s : St} {c : Nat} (h : c < 11 ∨ c = 12 ∨ 20 < c) : ∀ k, sno s k c = s c
  | 0 => rfl
  | k + 1 => by
    unfold sno
    split
    · rw [snL_ne (by omega), set1_ne (by omega), sno_ne h k]
    · exact sno_ne h k
theorem sno_11 (s : St) (j : Nat) : ∀ k, sno s k 11 j = if j < k ∧ s 11 j = 1 then 0 else s 11 j
  | 0 => by rw [if_neg (fun q => absurd q.1 (Nat.not_lt_zero j))]; rfl
  | k + 1 => by
    have ih := sno_11 s j k
    unfold sno
    by_cases c : s 11 k = 1
    · rw [if_pos c, snL_ne (by omega), set1_at]
      by_cases e : j = k
      · subst e
        rw [if_pos rfl, if_pos ⟨by omega, c⟩]
      · rw [if_neg e, ih]
        by_cases q : j < k ∧ s 11 j = 1
        · rw [if_pos q, if_pos ⟨by omega, q.2⟩]
        · rw [if_neg q, if_neg (fun g => q ⟨by omega, g.2⟩)]
    · rw [if_neg c, ih]
      by_cases q : j < k ∧ s 11 j = 1
      · rw [if_pos q, if_pos ⟨by omega, q.2⟩]
      · rw [if_neg q, if_neg (fun g => q ⟨by
          rcases Nat.lt_or_ge j k with h | h
          · exact h
          · have : j = k := by omega
            rw [this] at g
            exact absurd g.2 c, g.2⟩)]
/-- what is fresh holds an advert -/
def FN (s : St) : Prop := ∀ row, row < 192 → s 11 row = 1 → 0 < s 7 row
theorem sno_W {s : St} (wL : WL s) (wM : WM s) (wK : WK s) (fN : FN s) : ∀ k, k ≤ 192 → WM (sno s k)
  | 0, _ => wM
  | k + 1, h => by
    have ih := sno_W wL wM wK fN k (by omega)
    unfold sno
    split
    · rename_i c
      refine snL_W ((wL.congr (s' := sno s k) fun c hc => sno_ne (by omega) k).congr fun c hc => set1_ne (by omega)) (ih.congr (fun c hc => set1_ne (by omega)) (fun c h1 h2 => set1_ne (by omega))) ((wK.st (s' := sno s k) fun c hc => sno_ne (by omega) k).st fun c hc => set1_ne (by omega)) (by omega) (by rw [set1_ne (by omega), sno_ne (by omega)]; exact fN k (by omega) c) (s 0 0) (by rw [set1_ne (by omega), sno_ne (by omega)]; exact Nat.le_refl _)
    · exact ih
def sendS (s : St) : St := set1 (sno s 192) 22 0 (s 22 0 + sno s 192 13 0)
theorem c_X2_sendOn {E : JE} {u0 : JM} {K : JM → Prop} {N : Nat} (hN : isNet N) {s : St} (hC : CN N s u0) (wL : WL s) (wM : WM s) (wK : WK s) (wF : WF s) (fN : FN s)
    (hK : ∀ u', same u0 u' (inNet N) → CN N (sendS s) u' → K u') : JCu E 3 YX2_sendOn [.ref N] K u0 := by
  refine JCu.ofV (ls := [some (.ref N), none]) (by decide +kernel) (Nat.le_of_ble_eq_true rfl) rfl rfl (g_X2_sendOn_0 hN ?_)
  have main : ∀ (m k : Nat) (u : JM), m + k = 192 → same u0 u (inNet N) → CN N (sno s k) u → JVu E 3 YX2_sendOn K 2 [some (.ref N), some (.int (nI k))] [] u := by
    intro m
    induction m with
    | zero =>
      intro k u hm hs hC
      obtain rfl : k = 192 := by omega
      refine g_X2_sendOn_2 hN ⟨fun _ => ?_, fun c => absurd (show (192 : Int32) ≤ nI 192 by decide) c⟩
      obtain ⟨cL, cK, cM, cF, cT7, cT8⟩ := hC
      rw [cT8, cM.1, nI_add, sno_ne (c := 22) (by omega)]
      intro u1 h1
      have hs1 : ∀ b, b ≠ N → u1 b = u b := fun b hb => by rw [h1, jw_ne hb]
      refine hK u1 (hs.trans fun b hb => hs1 b fun q => hb (by rw [q]; exact ⟨by omega, by omega⟩)) ?_
      unfold sendS
      refine ⟨(cL.congr fun j _ _ => hs1 _ (by omega)).st fun c hc => set1_ne (by omega), fun k hk => ?_, cM.congr (fun c h1 h2 => set1_ne (by omega)) ?_ (fun j _ _ => hs1 _ (by omega)), fun k hk => ?_, ?_, ?_⟩
      · exact KR.keep (N := N) (s := sno s 192) (u := u) (cK k hk) (by rw [hs1 _ (by omega)]) (by rw [hs1 _ (by omega)]) (by rw [hs1 _ (by omega)]) (fun l hl => by rw [hs1 _ (by omega)]) (fun l hl => by rw [hs1 _ (by omega)]) (by rw [set1_ne (by omega)]) (by rw [set1_ne (by omega)]) (fun l hl => by rw [set1_ne (by omega)]) (fun l hl => by rw [set1_ne (by omega)])
      · rw [h1, jw_at, if_neg (by omega)]
      · rw [hs1 _ (by omega), hs1 _ (by omega), set1_ne (by omega), set1_ne (by omega)]
        exact cF k hk
      · rw [h1, jw_at, if_neg (by omega), set1_ne (by omega)]
        exact cT7
      · rw [h1, jw_at, if_pos rfl, set1_at, if_pos rfl]
    | succ m ih =>
      intro k u hm hs hC
      have hk : k < 192 := by omega
      have e11 : sno s k 11 k = s 11 k := by rw [sno_11, if_neg (fun q => absurd q.1 (Nat.lt_irrefl k))]
      have hC' := hC
      obtain ⟨cL, cK, cM, cF, cT⟩ := hC
      obtain ⟨f1, f2⟩ := cF k hk
      obtain ⟨w1, w2⟩ := wF k hk
      rw [e11] at f1 f2
      rw [sno_ne (c := 12) (by omega)] at f2
      refine g_X2_sendOn_2 hN ⟨fun c => absurd c (nI_ge (a := k) (b := 192) (by omega) (by omega)), fun _ => ⟨vpI (by omega) (by omega), ?_⟩⟩
      rw [nI_cl (show k < 2147483648 by omega), nI_1, f1]
      refine ⟨fun c => ?_, fun c => ?_⟩
      · refine ih (k + 1) u (by omega) hs ?_
        unfold sno
        rw [if_neg (fun q => by rw [q] at c; exact absurd c (by decide))]
        exact hC'
      · have c : s 11 k = 1 := by
          rcases (show s 11 k = 0 ∨ s 11 k = 1 by omega) with q | q
          · rw [q] at c; exact absurd rfl c
          · exact q
        intro u2 h2
        have hs2 : ∀ b, b ≠ N + 24 → u2 b = u b := fun b hb => by rw [h2, jw_ne hb]
        have hC2 : CN N (set1 (sno s k) 11 k 0) u2 := by
          refine ⟨(cL.congr fun j _ _ => hs2 _ (by omega)).st fun c hc => set1_ne (by omega), fun j hj => ?_, cM.congr (fun c h1 h2 => set1_ne (by omega)) (by rw [hs2 _ (by omega)]) (fun j _ _ => hs2 _ (by omega)), fun j hj => ?_, ?_⟩
          · exact KR.keep (N := N) (s := sno s k) (u := u) (cK j hj) (by rw [hs2 _ (by omega)]) (by rw [hs2 _ (by omega)]) (by rw [hs2 _ (by omega)]) (fun l hl => by rw [hs2 _ (by omega)]) (fun l hl => by rw [hs2 _ (by omega)]) (by rw [set1_ne (by omega)]) (by rw [set1_ne (by omega)]) (fun l hl => by rw [set1_ne (by omega)]) (fun l hl => by rw [set1_ne (by omega)])
          · rw [set1_at, h2, jw_at, jw_ne (a' := N + 25) (by omega), set1_ne (c' := 12) (by omega)]
            by_cases e : j = k
            · rw [if_pos e, if_pos e]
              exact ⟨rfl, fun q => absurd q (by decide)⟩
            · rw [if_neg e, if_neg e]
              exact cF j hj
          · rw [hs2 N (by omega), set1_ne (c' := 21) (by omega), set1_ne (c' := 22) (by omega)]
            exact cT
        have e0 : set1 (sno s k) 11 k 0 0 0 = s 0 0 := by rw [set1_ne (by omega), sno_ne (by omega)]
        refine c_X2_sendRow (cb := s 12 k) hN hC2 ((wL.congr (s' := sno s k) fun c hc => sno_ne (by omega) k).congr fun c hc => set1_ne (by omega)) ((sno_W wL wM wK fN k (by omega)).congr (fun c hc => set1_ne (by omega)) (fun c h1 h2 => set1_ne (by omega))) ((wK.st (s' := sno s k) fun c hc => sno_ne (by omega) k).st fun c hc => set1_ne (by omega)) hk (by rw [set1_ne (by omega), sno_ne (by omega)]; exact fN k hk c) (by rw [hs2 _ (by omega)]; exact f2 c) w2 fun u3 q1 q2 _ => ?_
        refine ih (k + 1) u3 (by omega) ((hs.trans (by rw [h2]; exact same.rfl.jw (inNet_of (by omega)))).trans q1) ?_
        unfold sno
        rw [if_pos c]
        rw [e0] at q2
        exact q2
  exact main 192 0 u0 (by omega) same.rfl hC
