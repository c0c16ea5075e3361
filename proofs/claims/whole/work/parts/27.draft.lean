/-! what a router drafts anew: links and sums -/
def nwC (s : St) (r a l : Nat) : Nat := if l < s 0 0 ∧ s 3 l = a ∧ upB s l r = true then prc s l r else 0
theorem nwC_le {s : St} (w : WL s) {r a l : Nat} (hr : r < 8) : nwC s r a l ≤ 99 ∧ (0 < nwC s r a l ↔ l < s 0 0 ∧ s 3 l = a ∧ upB s l r = true) := by
  unfold nwC
  split
  · rename_i h
    obtain ⟨-, -, -, -, w5, w6, -⟩ := w.2 l h.1
    have : 1 ≤ prc s l r ∧ prc s l r ≤ 99 := by unfold prc; split <;> assumption
    exact ⟨this.2, ⟨fun _ => h, fun _ => this.1⟩⟩
  · rename_i h
    exact ⟨by omega, ⟨fun q => absurd q (Nat.lt_irrefl 0), fun q => absurd q h⟩⟩
def inD (N : Nat) : Nat → Prop := fun b => b = N + 29 ∨ b = N + 30
theorem c_X2_draftLinks {E : JE} {u0 : JM} {K : JM → Prop} {N : Nat} (hN : isNet N) {s : St} (cL : CL N s u0) (w : WL s) {r a : Nat} (hr : r < 8) (ha : a < 3)
    (hK : ∀ u', same u0 u' (inD N) → u' (N + 29) 0 = nI (bits 12 fun l => decide (0 < nwC s r a l)) → (∀ l, l < 12 → u' (N + 30) l = ccst (nwC s r a l)) → K u') : JCu E 2 YX2_draftLinks [.ref N, .int (nI r), .int (nI a)] K u0 := by
  have h12 := w.1
  refine JCu.ofV (ls := [some (.ref N), some (.int (nI r)), some (.int (nI a)), none, none]) (by decide +kernel) (Nat.le_of_ble_eq_true rfl) rfl rfl (g_X2_draftLinks_0 hN ?_)
  have z0 : (0 : Int32).toNatClampNeg = 0 := cl_0
  have main : ∀ (m k : Nat) (u : JM), m + k = 12 → same u0 u (inD N) → u (N + 29) 0 = nI (bits k fun l => decide (0 < nwC s r a l)) → (∀ l, l < k → u (N + 30) l = ccst (nwC s r a l)) →
      JVu E 2 YX2_draftLinks K 12 [some (.ref N), some (.int (nI r)), some (.int (nI a)), some (.int (nI k)), none] [] u := by
    intro m
    induction m with
    | zero =>
      intro k u hm hs t1 t2
      obtain rfl : k = 12 := by omega
      exact g_X2_draftLinks_12 hN ⟨fun _ => hK u hs t1 t2, fun c => absurd (show (12 : Int32) ≤ nI 12 by decide) c⟩
    | succ m ih =>
      intro k u hm hs t1 t2
      have cL' := cL.congr (u' := u) fun j _ _ => hs _ (by unfold inD; omega)
      refine g_X2_draftLinks_12 hN ⟨fun c => absurd c (nI_ge (a := k) (b := 12) (by omega) (by omega)), fun _ => ?_⟩
      rw [nI_cl (show k < 2147483648 by omega), nI_1, nI_shl1 (show k < 31 by omega), cL'.1, z0]
      refine ⟨⟨fun _ => trivial, fun _ => ⟨vpI (by omega) (by omega), fun _ => trivial, fun _ => ⟨vpI (by omega) (by omega), trivial⟩⟩⟩, ?_⟩
      intro v1 hv1
      obtain ⟨n1, n2⟩ := nwC_le (a := a) (l := k) w hr
      have hf : v1 = if 0 < nwC s r a k then 1 else 0 := by
        rw [hv1]
        by_cases c : s 0 0 ≤ k
        · rw [if_pos (nI_le c (by omega)), if_neg (fun q => absurd (n2.mp q).1 (by omega))]
        · have hk : k < s 0 0 := by omega
          have h3 := (w.2 k hk).2.2.2.1
          rw [if_neg (nI_ge hk (by omega)), up_if cL' w hk hr, (cL'.2.1 k hk).2.2.1]
          by_cases c3 : s 3 k = a
          · rw [if_pos (by rw [c3])]
            by_cases c4 : upB s k r = true
            · rw [if_pos c4, if_pos (n2.mpr ⟨hk, c3, c4⟩)]
            · rw [if_neg c4, if_neg (fun q => c4 (n2.mp q).2.2)]
          · rw [if_neg (fun q => c3 (nI_inj (by omega) (by omega) q)), if_neg (fun q => c3 (n2.mp q).2.1)]
      refine ⟨⟨fun _ => trivial, fun _ => ⟨vpI (by omega) (by omega), trivial⟩⟩, ?_⟩
      intro v2 hv2
      refine ⟨vpI (by omega) (by omega), ?_⟩
      intro u3 h3 v4 hv4 u5 h5
      have e2 : v2 = ccst (nwC s r a k) := by
        rw [hv2, hf]
        by_cases c : 0 < nwC s r a k
        · have hk := (n2.mp c).1
          rw [if_pos c, if_neg (by decide), (prc_cell cL' w hk hr).1]
          unfold ccst
          rw [if_neg (by omega)]
          unfold nwC
          rw [if_pos (n2.mp c)]
        · rw [if_neg c, if_pos rfl]
          unfold ccst
          rw [if_pos (by omega)]
      refine ih (k + 1) u5 (by omega) ?_ ?_ fun l hl => ?_
      · rw [h5, h3]
        exact (hs.jw (Or.inr rfl)).jw (Or.inl rfl)
      · rw [h5, jw_at, if_pos rfl, h3, jw_ne (by omega), t1, hv4, hf]
        by_cases c : 0 < nwC s r a k
        · rw [if_pos c, if_neg (by decide), fa_or, show bits (k + 1) (fun l => decide (0 < nwC s r a l)) = bits k (fun l => decide (0 < nwC s r a l)) ||| 2 ^ k by simp [bits, c]]
        · rw [if_neg c, if_pos rfl, show (0 : Int32) = nI 0 from rfl, fa_or, Nat.or_zero, show bits (k + 1) (fun l => decide (0 < nwC s r a l)) = bits k (fun l => decide (0 < nwC s r a l)) by simp [bits, c]]
      · rw [h5, jw_ne (by omega), h3, jw_at]
        split
        · rename_i e; rw [e, e2]
        · exact t2 l (by omega)
  intro u1 h1
  rw [z0] at h1
  refine main 12 0 u1 (by omega) (by rw [h1]; exact same.rfl.jw (Or.inl rfl)) ?_ (fun l hl => absurd hl (Nat.not_lt_zero l))
  rw [h1, jw_at, if_pos rfl]
  rfl
/-- the cheapest way across an area by others' sums: what it costs, and by whom (8: none) -/
def tlP (s : St) (f : Nat → Nat) (r a d : Nat) : Nat → Nat × Nat
  | 0 => (9999, 8)
  | k + 1 => if k ≠ r ∧ s 7 (rw8 r a k) ≠ 0 ∧ f k + s 10 (rw8 r a k * 8 + d) < (tlP s f r a d k).1 then (f k + s 10 (rw8 r a k * 8 + d), k) else tlP s f r a d k
theorem tlP_ok (s : St) (f : Nat → Nat) (r a d : Nat) : ∀ k, k ≤ 8 → (tlP s f r a d k).1 ≤ 9999 ∧ (((tlP s f r a d k).2 = 8 ∧ (tlP s f r a d k).1 = 9999) ∨ ((tlP s f r a d k).2 < k ∧ (tlP s f r a d k).2 ≠ r ∧ s 7 (rw8 r a (tlP s f r a d k).2) ≠ 0 ∧ (tlP s f r a d k).1 = f (tlP s f r a d k).2 + s 10 (rw8 r a (tlP s f r a d k).2 * 8 + d)))
  | 0, _ => ⟨Nat.le_refl _, Or.inl ⟨rfl, rfl⟩⟩
  | k + 1, h => by
    obtain ⟨h1, h2⟩ := tlP_ok s f r a d k (by omega)
    unfold tlP
    split
    · rename_i c
      exact ⟨by show f k + _ ≤ _; omega, Or.inr ⟨Nat.lt_succ_self k, c.1, c.2.1, rfl⟩⟩
    · refine ⟨h1, h2.imp id fun q => ⟨by omega, q.2⟩⟩
theorem row_div {k : Nat} (hk : k < 192) : nI k - nI k / 8 * 8 = nI (k % 8) := by
  have h : ((List.range 192).all fun k => decide (nI k - nI k / 8 * 8 = nI (k % 8))) = true := by decide +kernel
  exact of_decide_eq_true (List.all_eq_true.mp h k (List.mem_range.mpr hk))
theorem c_X2_teller {E : JE} {u : JM} {K : Int32 → JM → Prop} {N : Nat} (hN : isNet N) {P : Nat} (hP : isPaths P) {s : St} (cK : CK N s u) (wK : WK s) {f : Nat → Nat} (hT : ∀ y, y < 8 → u (P + 1) y = nI (f y)) (hF : ∀ y, f y ≤ 9999) {r a d : Nat} (hr : r < 8) (ha : a < 3) (hd : d < 8)
    (hK : K (hpI (tlP s f r a d 8).2) u) : JCi E 2 YX2_teller [.ref N, .ref P, .int (nI r), .int (nI a), .int (nI d)] K u := by
  refine JCi.ofV (ls := [some (.ref N), some (.ref P), some (.int (nI r)), some (.int (nI a)), some (.int (nI d)), none, none, none, none]) (by decide +kernel) (Nat.le_of_ble_eq_true rfl) rfl rfl (g_X2_teller_0 hN hP ?_)
  have main : ∀ (m k : Nat), m + k = 8 → JVi E 2 YX2_teller K 11 [some (.ref N), some (.ref P), some (.int (nI r)), some (.int (nI a)), some (.int (nI d)), some (.int (hpI (tlP s f r a d k).2)), some (.int (nI (tlP s f r a d k).1)), some (.int (nI k)), none] [] u := by
    intro m
    induction m with
    | zero =>
      intro k hm
      obtain rfl : k = 8 := by omega
      exact g_X2_teller_11 hN hP ⟨fun _ => hK, fun c => absurd (show (8 : Int32) ≤ nI 8 by decide) c⟩
    | succ m ih =>
      intro k hm
      have hk : k < 8 := by omega
      have hrow := rw8_lt hr ha hk
      obtain ⟨t1, t2⟩ := tlP_ok s f r a d k (by omega)
      refine g_X2_teller_11 hN hP ⟨fun c => absurd c (nI_ge (a := k) (b := 8) (by omega) (by omega)), fun _ => ?_⟩
      intro i8 e8
      rw [row_nI] at e8
      subst e8
      have h8 : rw8 r a k % 8 = k := rw8_o hk
      rw [nI_cl (show rw8 r a k < 2147483648 by omega), row_div hrow, h8, nI_cl (show k < 2147483648 by omega), nI_1, show (8 : Int32) = nI 8 from rfl, nI_mul, nI_add, nI_cl (show rw8 r a k * 8 + d < 2147483648 by omega), hT k hk, (cK _ hrow).1]
      have w7 := (wK _ hrow).1
      have hn := ih (k + 1) (by omega)
      rw [show tlP s f r a d (k + 1) = if k ≠ r ∧ s 7 (rw8 r a k) ≠ 0 ∧ f k + s 10 (rw8 r a k * 8 + d) < (tlP s f r a d k).1 then (f k + s 10 (rw8 r a k * 8 + d), k) else tlP s f r a d k from rfl] at hn
      refine ⟨⟨fun _ => trivial, fun _ => ⟨vpI hrow (by omega), fun _ => trivial, fun _ => ⟨vpI hk (by omega), vpI (by omega) (by omega), fun _ => trivial, fun _ => ⟨vpI hk (by omega), vpI (by omega) (by omega), trivial⟩⟩⟩⟩, ?_⟩
      intro v5 h5 v6 h6
      by_cases c1 : k = r
      · rw [if_pos (by rw [c1])] at h5 h6
        rw [if_neg (fun q => q.1 c1)] at hn
        rw [h5, h6]
        exact hn
      · rw [if_neg (fun q => c1 (nI_inj (by omega) (by omega) q))] at h5 h6
        by_cases c2 : s 7 (rw8 r a k) = 0
        · rw [if_pos (by rw [c2]; rfl)] at h5 h6
          rw [if_neg (fun q => q.2.1 c2)] at hn
          rw [h5, h6]
          exact hn
        · rw [if_neg (fun q => c2 (nI_inj (by omega) (by omega) (q.trans (show (0 : Int32) = nI 0 from rfl))))] at h5 h6
          have w10 := ((wK _ hrow).2 (by omega)).2.2 d hd
          have g10 := ((cK _ hrow).2.2 (by omega)).2.2 d hd
          have hfk := hF k
          have w10 : s 10 (rw8 r a k * 8 + d) ≤ 9999 := w10
          rw [g10, nI_add] at h5 h6
          by_cases c3 : f k + s 10 (rw8 r a k * 8 + d) < (tlP s f r a d k).1
          · rw [if_neg (nI_ge c3 (by omega))] at h5 h6
            rw [if_pos ⟨c1, c2, c3⟩] at hn
            rw [h5, h6, show nI k = hpI k by unfold hpI; rw [if_pos hk]]
            rw [show (nI k : Int32) = hpI k by unfold hpI; rw [if_pos hk]] at *
            exact hn
          · rw [if_pos (nI_le (by omega) (by omega))] at h5 h6
            rw [if_neg (fun q => c3 q.2.2)] at hn
            rw [h5, h6]
            exact hn
  exact main 8 0 (by omega)
