/-! staleToAll, Links.add -/
theorem c_X2_staleToAll {E : JE} {u : JM} {K : Int32 → JM → Prop} {N : Nat} (hN : isNet N) {s : St} (cL : CL N s u) (cK : CK N s u) (wL : WL s) (wK : WK s) (hK : K (nI (sumTo (slS s) 8)) u) : JCi E 4 YX2_staleToAll [.ref N] K u := by
  refine JCi.ofV (ls := [some (.ref N), none, none]) (by decide +kernel) (Nat.le_of_ble_eq_true rfl) rfl rfl (g_X2_staleToAll_0 hN ?_)
  have main : ∀ (m k : Nat), m + k = 8 → JVi E 4 YX2_staleToAll K 4 [some (.ref N), some (.int (nI (sumTo (slS s) k))), some (.int (nI k))] [] u := by
    intro m
    induction m with
    | zero =>
      intro k hm
      obtain rfl : k = 8 := by omega
      exact g_X2_staleToAll_4 hN ⟨fun _ => hK, fun c => absurd (show (8 : Int32) ≤ nI 8 by decide) c⟩
    | succ m ih =>
      intro k hm
      refine g_X2_staleToAll_4 hN ⟨fun c => absurd c (nI_ge (a := k) (b := 8) (by omega) (by omega)), fun _ => ?_⟩
      refine c_X2_staleTo hN cL cK wL wK (by omega) ?_
      rw [nI_add, nI_1]
      exact ih (k + 1) (by omega)
  exact main 8 0 (by omega)
theorem addS_ne {s : St} {x y a f b c : Nat} (h : 6 < c) : addS s x y a f b c = s c := by
  unfold addS
  rw [set1_ne (by omega), set1_ne (by omega), set1_ne (by omega), set1_ne (by omega), set1_ne (by omega), set1_ne (by omega), set1_ne (by omega)]
theorem c_X1_add {E : JE} {u : JM} {K : Int32 → JM → Prop} {N : Nat} (hN : isNet N) {s : St} (cL : CL N s u) (hn : s 0 0 < 12) {x y a f b : Nat}
    (hK : ∀ u', same u u' (fun b => N + 1 ≤ b ∧ b ≤ N + 7) → CL N (addS s x y a f b) u' → K (nI (s 0 0)) u') : JCi E 1 YX1_add [.ref (N + 1), .int (nI x), .int (nI y), .int (nI a), .int (nI f), .int (nI b)] K u := by
  obtain ⟨c1, c2, c3⟩ := cL
  refine JCi.ofV (ls := [some (.ref (N + 1)), some (.int (nI x)), some (.int (nI y)), some (.int (nI a)), some (.int (nI f)), some (.int (nI b)), none]) (by decide +kernel) (Nat.le_of_ble_eq_true rfl) rfl rfl (g_X1_add_0 hN ?_)
  rw [c1, nI_cl (show s 0 0 < 2147483648 by omega)]
  refine ⟨vpI hn (by omega), fun u1 h1 u2 h2 u3 h3 u4 h4 u5 h5 u6 h6 u7 h7 => ?_⟩
  have e6 : u6 (N + 1) 0 = nI (s 0 0) := by rw [h6, jw_ne (by omega), h5, jw_ne (by omega), h4, jw_ne (by omega), h3, jw_ne (by omega), h2, jw_ne (by omega), h1, jw_ne (by omega), c1]
  rw [e6, nI_1] at h7
  have r2 : ∀ l, u7 (N + 2) l = if l = s 0 0 then nI x else u (N + 2) l := fun l => by rw [h7, jw_ne (by omega), h6, jw_ne (by omega), h5, jw_ne (by omega), h4, jw_ne (by omega), h3, jw_ne (by omega), h2, jw_ne (by omega), h1, jw_at]
  have r3 : ∀ l, u7 (N + 3) l = if l = s 0 0 then nI y else u (N + 3) l := fun l => by rw [h7, jw_ne (by omega), h6, jw_ne (by omega), h5, jw_ne (by omega), h4, jw_ne (by omega), h3, jw_ne (by omega), h2, jw_at, h1, jw_ne (by omega)]
  have r4 : ∀ l, u7 (N + 4) l = if l = s 0 0 then nI a else u (N + 4) l := fun l => by rw [h7, jw_ne (by omega), h6, jw_ne (by omega), h5, jw_ne (by omega), h4, jw_ne (by omega), h3, jw_at, h2, jw_ne (by omega), h1, jw_ne (by omega)]
  have r5 : ∀ l, u7 (N + 5) l = if l = s 0 0 then nI f else u (N + 5) l := fun l => by rw [h7, jw_ne (by omega), h6, jw_ne (by omega), h5, jw_ne (by omega), h4, jw_at, h3, jw_ne (by omega), h2, jw_ne (by omega), h1, jw_ne (by omega)]
  have r6 : ∀ l, u7 (N + 6) l = if l = s 0 0 then nI b else u (N + 6) l := fun l => by rw [h7, jw_ne (by omega), h6, jw_ne (by omega), h5, jw_at, h4, jw_ne (by omega), h3, jw_ne (by omega), h2, jw_ne (by omega), h1, jw_ne (by omega)]
  have r7 : ∀ l, u7 (N + 7) l = if l = s 0 0 then 1 else u (N + 7) l := fun l => by rw [h7, jw_ne (by omega), h6, jw_at, h5, jw_ne (by omega), h4, jw_ne (by omega), h3, jw_ne (by omega), h2, jw_ne (by omega), h1, jw_ne (by omega)]
  have p0 : addS s x y a f b 0 0 = s 0 0 + 1 := rfl
  have pk : ∀ c l v, addS s x y a f b c l = v → addS s x y a f b c l = v := fun _ _ _ h => h
  have q1 : ∀ l, addS s x y a f b 1 l = if l = s 0 0 then x else s 1 l := fun l => by unfold addS; rw [set1_ne (by omega), set1_ne (by omega), set1_ne (by omega), set1_ne (by omega), set1_ne (by omega), set1_ne (by omega), set1_at]
  have q2 : ∀ l, addS s x y a f b 2 l = if l = s 0 0 then y else s 2 l := fun l => by unfold addS; rw [set1_ne (by omega), set1_ne (by omega), set1_ne (by omega), set1_ne (by omega), set1_ne (by omega), set1_at, set1_ne (by omega)]
  have q3 : ∀ l, addS s x y a f b 3 l = if l = s 0 0 then a else s 3 l := fun l => by unfold addS; rw [set1_ne (by omega), set1_ne (by omega), set1_ne (by omega), set1_ne (by omega), set1_at, set1_ne (by omega), set1_ne (by omega)]
  have q4 : ∀ l, addS s x y a f b 4 l = if l = s 0 0 then f else s 4 l := fun l => by unfold addS; rw [set1_ne (by omega), set1_ne (by omega), set1_ne (by omega), set1_at, set1_ne (by omega), set1_ne (by omega), set1_ne (by omega)]
  have q5 : ∀ l, addS s x y a f b 5 l = if l = s 0 0 then b else s 5 l := fun l => by unfold addS; rw [set1_ne (by omega), set1_ne (by omega), set1_at, set1_ne (by omega), set1_ne (by omega), set1_ne (by omega), set1_ne (by omega)]
  have q6 : ∀ l, addS s x y a f b 6 l = if l = s 0 0 then 1 else s 6 l := fun l => by unfold addS; rw [set1_ne (by omega), set1_at, set1_ne (by omega), set1_ne (by omega), set1_ne (by omega), set1_ne (by omega), set1_ne (by omega)]
  refine hK u7 (fun b hb => ?_) ⟨?_, fun l hl => ?_, fun l hl => ?_⟩
  · rw [h7, jw_ne (by omega), h6, jw_ne (by omega), h5, jw_ne (by omega), h4, jw_ne (by omega), h3, jw_ne (by omega), h2, jw_ne (by omega), h1, jw_ne (by omega)]
  · rw [h7, jw_at, if_pos rfl, p0]
  · rw [p0] at hl
    rw [r2, r3, r4, r5, r6, r7, q1, q2, q3, q4, q5, q6]
    by_cases e : l = s 0 0
    · rw [if_pos e, if_pos e, if_pos e, if_pos e, if_pos e, if_pos e, if_pos e, if_pos e, if_pos e, if_pos e, if_pos e, if_pos e]
      exact ⟨rfl, rfl, rfl, rfl, rfl, rfl⟩
    · rw [if_neg e, if_neg e, if_neg e, if_neg e, if_neg e, if_neg e, if_neg e, if_neg e, if_neg e, if_neg e, if_neg e, if_neg e]
      exact c2 l (by omega)
  · rw [r7]
    split
    · exact Or.inr rfl
    · exact c3 l hl
