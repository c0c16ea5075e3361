/-! Net.takeOver -/
theorem c_X2_takeOver {E : JE} {u : JM} {K : JM → Prop} {N M : Nat} (hN : isNet N) (hM : isNet M) (hne : N ≠ M) {s : St} (hC : CN M s u) (wL : WL s) (wM : WM s) (fZ : FZ s) (h24 : ∀ row, row < 192 → u (N + 24) row = 0)
    (hK : ∀ u', same u u' (inNet N) → CN N s u' → K u') : JCu E 2 YX2_takeOver [.ref N, .ref M] K u := by
  have hf := net_far hN hM hne
  obtain ⟨cL, cK, cM, cF, cT7, cT8⟩ := hC
  obtain ⟨m1, m2⟩ := wM
  refine JCu.ofV (ls := [some (.ref N), some (.ref M)]) (by decide +kernel) (Nat.le_of_ble_eq_true rfl) rfl rfl (g_X2_takeOver_0 hN hM ?_)
  refine c_X1_takeOver hN hM hne cL wL fun u1 s1 L1 => ?_
  refine c_X0_takeRows (n := 192) (isAdv_k hN) (isAdv_k hM) (by omega) (by omega) fun u2 s2 R2 z2 => ?_
  intro u3 h3
  have keep2 : ∀ b, b < N + 1 ∨ N + 14 < b → u2 b = u b := fun b hb => by
    rw [s2 b (fun q => by unfold inAd at q; omega), s1 b (fun q => by omega)]
  have e13 : u2 M 6 = nI (s 13 0) := by rw [keep2 M (by omega), cM.1]
  rw [e13] at h3
  have e13' : u3 N 6 = nI (s 13 0) := by rw [h3, jw_at, if_pos rfl]
  have keep3 : ∀ b, b ≠ N → u3 b = u2 b := fun b hb => by rw [h3, jw_ne hb]
  rw [e13']
  refine c_X0_takeRows (n := s 13 0) (isAdv_s hN) (isAdv_s hM) (by omega) m1 fun u4 s4 R4 _ => ?_
  have e13'' : u4 N 6 = nI (s 13 0) := by rw [s4 N (fun q => by unfold inAd at q; omega), e13']
  have keep4 : ∀ b, b < N ∨ N + 20 < b → u4 b = u b := fun b hb => by
    rw [s4 b (fun q => by unfold inAd at q; omega), keep3 b (by omega), keep2 b (by omega)]
  have z : ¬ (0 : Int32) < 0 := by decide
  have cl0 : (0 : Int32).toNatClampNeg = 0 := cl_0
  rw [e13'', cl0, nI_cl (show s 13 0 < 2147483648 by omega)]
  refine ⟨⟨z, z, nI_nn (by omega), by omega, by omega⟩, fun u5 h5 => ?_⟩
  have g5 : u5 N 6 = nI (s 13 0) := by rw [h5, jcp_ne (by omega), e13'']
  rw [g5, nI_cl (show s 13 0 < 2147483648 by omega)]
  refine ⟨⟨z, z, nI_nn (by omega), by omega, by omega⟩, fun u6 h6 => ?_⟩
  have g6 : u6 N 6 = nI (s 13 0) := by rw [h6, jcp_ne (by omega), g5]
  rw [g6, nI_cl (show s 13 0 < 2147483648 by omega)]
  refine ⟨⟨z, z, nI_nn (by omega), by omega, by omega⟩, fun u7 h7 u8 h8 u9 h9 => ?_⟩
  have keep7 : ∀ b, b ≠ N + 21 → b ≠ N + 22 → b ≠ N + 23 → u7 b = u4 b := fun b q1 q2 q3 => by
    rw [h7, jcp_ne q3, h6, jcp_ne q2, h5, jcp_ne q1]
  have keep9 : ∀ b, b ≠ N → u9 b = u7 b := fun b hb => by rw [h9, jw_ne hb, h8, jw_ne hb]
  have m7 : u7 M 7 = nI (s 21 0) := by rw [keep7 M (by omega) (by omega) (by omega), keep4 M (by omega), cT7]
  have m8 : u8 M 8 = nI (s 22 0) := by rw [h8, jw_ne (by omega), keep7 M (by omega) (by omega) (by omega), keep4 M (by omega), cT8]
  have all : ∀ b, b < N ∨ N + 23 < b → u9 b = u b := fun b hb => by
    rw [keep9 b (by omega), keep7 b (by omega) (by omega) (by omega), keep4 b (by omega)]
  have low : ∀ b, N < b → b ≤ N + 14 → u9 b = u2 b := fun b h h' => by
    rw [keep9 b (by omega), keep7 b (by omega) (by omega) (by omega), s4 b (fun q => by unfold inAd at q; omega), keep3 b (by omega)]
  have keep1 : ∀ b, b < N + 1 ∨ N + 7 < b → u1 b = u b := fun b hb => s1 b (fun q => by omega)
  refine hK u9 (fun b hb => all b (by unfold inNet at hb; omega)) ⟨?_, fun k hk => ?_, ⟨?_, fun i hi => ?_⟩, fun k hk => ?_, ?_, ?_⟩
  · exact L1.congr fun j h h' => by rw [low _ (by omega) (by omega), s2 _ (fun q => by unfold inAd at q; omega)]
  · obtain ⟨k1, k2, k3⟩ := cK k hk
    by_cases c : 0 < s 7 k
    · have h : RW (N + 9) u2 k _ _ _ _ := R2 k _ _ _ _ hk ((KR.rw (N := M) (s := s) (u := u) ⟨k1, k2, k3⟩ c).congr (u' := u1) fun b hb => by unfold inAd at hb; exact keep1 b (by omega))
      exact KR.of (h.congr (u' := u9) fun b hb => by unfold inAd at hb; exact low b (by omega) (by omega)) rfl c rfl (fun l hl => rfl) (fun d hd => rfl)
    · obtain ⟨z1, z3⟩ := z2 k hk
      refine ⟨?_, ?_, fun q => absurd q c⟩
      · rw [low _ (by omega) (by omega), show u2 (N + 10) k = _ from z1, keep1 _ (by omega)]
        exact k1
      · rw [low _ (by omega) (by omega), show u2 (N + 12) k = _ from z3, keep1 _ (by omega)]
        exact k2
  · rw [h9, jw_at, if_neg (by omega), h8, jw_at, if_neg (by omega), h7, jcp_ne (by omega), g6]
  · obtain ⟨g1, g2, g3, g4⟩ := cM.2 i hi
    have h := R4 i _ _ _ _ hi (g1.congr (u' := u3) fun b hb => by unfold inAd at hb; rw [keep3 b (by omega), keep2 b (by omega)])
    refine ⟨h.congr (u' := u9) fun b hb => by unfold inAd at hb; rw [keep9 b (by omega), keep7 b (by omega) (by omega) (by omega)], ?_, ?_, ?_⟩
    · rw [keep9 _ (by omega), h7, jcp_ne (by omega), h6, jcp_ne (by omega), h5, jcp_at, if_pos (by omega), Nat.zero_add, Nat.sub_zero, keep4 _ (by omega), g2]
    · rw [keep9 _ (by omega), h7, jcp_ne (by omega), h6, jcp_at, if_pos (by omega), Nat.zero_add, Nat.sub_zero, h5, jcp_ne (by omega), keep4 _ (by omega), g3]
    · rw [keep9 _ (by omega), h7, jcp_at, if_pos (by omega), Nat.zero_add, Nat.sub_zero, h6, jcp_ne (by omega), h5, jcp_ne (by omega), keep4 _ (by omega), g4]
  · rw [fZ k hk, all _ (by omega), h24 k hk]
    exact ⟨rfl, fun q => absurd q (by decide)⟩
  · rw [h9, jw_at, if_neg (by omega), h8, jw_at, if_pos rfl, m7]
  · rw [h9, jw_at, if_pos rfl, m8]
