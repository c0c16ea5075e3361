/-! the reference: what is read -/
theorem prcR {s : St} {u : JM} (hL : QL s u) (w : WL s) {l r : Nat} (hl : l < s 0 0) (hr : r < 8) : u 142 (2 * nI l + (if u 138 l = nI r then 0 else 1)).toNatClampNeg = nI (prc s l r) ∧ 1 ≤ prc s l r ∧ prc s l r ≤ 99 := by
  obtain ⟨l1, -, -, -, l4, l5⟩ := hL.2 l hl
  obtain ⟨w1, -, -, -, w5, w6, -⟩ := w.2 l hl
  have h12 := w.1
  rw [l1]
  unfold prc
  by_cases e : s 1 l = r
  · rw [if_pos (by rw [e]), if_pos e, show (2 : Int32) = nI 2 from rfl, show (0 : Int32) = nI 0 from rfl, nI_mul, nI_add, nI_cl (by omega)]
    exact ⟨l4, w5⟩
  · rw [if_neg (fun q => e (nI_inj (by omega) (by omega) q)), if_neg e, show (2 : Int32) = nI 2 from rfl, show (1 : Int32) = nI 1 from rfl, nI_mul, nI_add, nI_cl (by omega)]
    exact ⟨l5, w6⟩
theorem hpI_eq {o h : Nat} (ho : o < 8) : nI o = hpI h ↔ o = h := by
  unfold hpI
  by_cases c : h < 8
  · rw [if_pos c, nI_eq (by omega) (by omega)]
  · rw [if_neg c]
    exact ⟨fun q => absurd q (m1_ne (by omega)), fun q => absurd (q ▸ ho) c⟩
theorem c_X8_overLink {E : JE} {u : JM} {K : Int32 → JM → Prop} {s : St} (hL : QL s u) (w : WL s) {r h a : Nat} (hr : r < 8) (ha : a < 3) (hK : K (lkI (chS s r h a (s 0 0))) u) : JCi E 2 YX8_overLink [.ref 137, .int (nI r), .int (hpI h), .int (nI a)] K u := by
  have h12 := w.1
  refine JCi.ofV (ls := [some (.ref 137), some (.int (nI r)), some (.int (hpI h)), some (.int (nI a)), none, none]) (by decide +kernel) (Nat.le_of_ble_eq_true rfl) rfl rfl (g_X8_overLink_0 ?_)
  have main : ∀ (m k : Nat), m + k = s 0 0 → JVi E 2 YX8_overLink K 6 [some (.ref 137), some (.int (nI r)), some (.int (hpI h)), some (.int (nI a)), some (.int (lkI (chS s r h a k))), some (.int (nI k))] [] u := by
    intro m
    induction m with
    | zero =>
      intro k hm
      obtain rfl : k = s 0 0 := by omega
      refine g_X8_overLink_6 ⟨fun _ => hK, fun c => ?_⟩
      rw [hL.1] at c
      exact absurd (nI_le (Nat.le_refl _) (by omega)) c
    | succ m ih =>
      intro k hm
      have hk : k < s 0 0 := by omega
      have c0 : ¬ u 137 0 ≤ nI k := by rw [hL.1]; exact nI_ge hk (by omega)
      have hn := ih (k + 1) (by omega)
      have h3 := (w.2 k hk).2.2.2.1
      have ho := oth_lt w hk r
      obtain ⟨p1, p2, p3⟩ := prcR hL w hk hr
      refine g_X8_overLink_6 ⟨fun c => absurd c c0, fun _ => ⟨vpI (by omega) (by omega), ?_⟩⟩
      rw [nI_cl (show k < 2147483648 by omega), nI_1, p1, (hL.2 k hk).2.2.1, othR hL w hk hr]
      have hc : chS s r h a k = 12 ∨ chS s r h a k < k := chS_lt s r h a k (by omega)
      have kv : ¬ lkI (chS s r h a k) = -1 → vp_in (lkI (chS s r h a k)) 12 := fun c2 => by
        rcases hc with q | q
        · rw [q] at c2; exact absurd rfl c2
        · rw [lkI_lt (by omega)]; exact vpI (by omega) (by omega)
      refine ⟨⟨fun _ => trivial, fun _ => ⟨fun _ => trivial, fun _ => ⟨fun _ => trivial, fun _ => ⟨fun _ => trivial, fun _ => ⟨fun _ => trivial, fun c => ⟨kv c, trivial⟩⟩⟩⟩⟩⟩, fun v hv => ?_⟩
      have e : v = lkI (chS s r h a (k + 1)) := by
        rw [hv, show chS s r h a (k + 1) = if fitB s r h a k = true ∧ (chS s r h a k = 12 ∨ prc s k r < prc s (chS s r h a k) r) then k else chS s r h a k from rfl]
        by_cases u1 : u 141 k = 1 ∧ ¬ jb (u 138 k = nI r ∨ u 139 k = nI r) = 0
        · have c1 := (up_cellR hL w hk hr).mp u1
          rw [if_pos u1.1, if_neg u1.2]
          by_cases c3 : s 3 k = a
          · rw [if_pos (by rw [c3])]
            by_cases c2 : oth s k r = h
            · rw [if_pos ((hpI_eq ho).mpr c2)]
              have cf : fitB s r h a k = true := by unfold fitB; simp [c1, c2, c3]
              rcases hc with q | q
              · rw [if_pos (by rw [q]; rfl), if_pos ⟨cf, Or.inl q⟩, lkI_lt (by omega)]
              · rw [lkI_lt (by omega), if_neg (m1_ne (by omega))]
                obtain ⟨q1, q2, q3⟩ := prcR hL w (l := chS s r h a k) (by omega) hr
                rw [nI_cl (by omega), q1]
                by_cases c4 : prc s k r < prc s (chS s r h a k) r
                · rw [if_neg (nI_ge c4 (by omega)), if_pos ⟨cf, Or.inr c4⟩, lkI_lt (by omega)]
                · rw [if_pos (nI_le (by omega) (by omega)), if_neg (fun g => g.2.elim (by omega) c4), lkI_lt (by omega)]
            · rw [if_neg (fun g => c2 ((hpI_eq ho).mp g)), if_neg (fun g => by have := g.1; unfold fitB at this; simp [c2] at this)]
          · rw [if_neg (fun g => c3 (nI_inj (by omega) (by omega) g)), if_neg (fun g => by have := g.1; unfold fitB at this; simp [c3] at this)]
        · have c1 : ¬ upB s k r = true := fun g => u1 ((up_cellR hL w hk hr).mpr g)
          have cf : ¬ (fitB s r h a k = true ∧ (chS s r h a k = 12 ∨ prc s k r < prc s (chS s r h a k) r)) := fun g => by have := g.1; unfold fitB at this; simp [c1] at this
          rw [if_neg cf]
          by_cases u2 : u 141 k = 1
          · rw [if_pos u2]
            by_cases c3 : nI (s 3 k) = nI a
            · rw [if_pos c3, if_pos (Classical.byContradiction fun g => u1 ⟨u2, g⟩)]
            · rw [if_neg c3]
          · rw [if_neg u2]
      rw [e]
      exact hn
  exact main (s 0 0) 0 (by omega)
theorem c_X8_costNow {E : JE} {u0 : JM} {K : Int32 → JM → Prop} {s : St} (hL : QL s u0) (hK : QK s u0) (wL : WL s) (wK : WK s) {x d : Nat} (hx : x < 8) (hd : d < 8)
    (k : ∀ u, sR inWR u0 u → K (rtC s x d).1 u) : JCi E 7 YX8_costNow [.ref 137, .int (nI x), .int (nI d)] K u0 := by
  refine JCi.ofV (ls := [some (.ref 137), some (.int (nI x)), some (.int (nI d))]) (by decide +kernel) (Nat.le_of_ble_eq_true rfl) rfl rfl (g_X8_costNow_0 ?_)
  rw [nI_eq (by omega) (by omega)]
  refine ⟨fun c => ?_, fun c => ?_⟩
  · refine c_X8_tellRoute hL hK wL wK hx hd c fun u q1 q2 => ?_
    obtain ⟨e, e1, e2, e3, -⟩ := q2
    have h := k u q1
    rw [e2, show (9999 : Int32) = nI 9999 from rfl]
    rw [e3] at h
    refine ⟨fun z => ?_, fun z => ?_⟩
    · rw [if_neg (fun g => nI_ge g (by omega) z)] at h; exact h
    · rw [if_pos (Nat.lt_of_not_le fun g => z (nI_le g (by omega)))] at h; exact h
  · have h := k u0 sR.rfl
    rw [c, rtC_at] at h
    exact h
theorem c_X8_isStale {E : JE} {u : JM} {K : Int32 → JM → Prop} {s : St} (hL : QL s u) (hQ : QK s u) (wL : WL s) (wK : WK s) {r o a : Nat} (hr : r < 8) (ho : o < 8) (ha : a < 3) (hp : 0 < s 7 (rw8 r a o))
    (hK : K (jb (stB s (rw8 r a o) = true)) u) : JCi E 2 YX8_isStale [.ref 137, .int (nI (pl r o a)), .int (nI o)] K u := by
  have h12 := wL.1
  have hpl := pl_lt hr ho ha
  obtain ⟨-, k2⟩ := hQ r o a hr ho ha
  have k3 := (k2 hp).2.1
  have w3 := ((wK _ (rw8_lt hr ha ho)).2 hp).2.1
  refine JCi.ofV (ls := [some (.ref 137), some (.int (nI (pl r o a))), some (.int (nI o)), none]) (by decide +kernel) (Nat.le_of_ble_eq_true rfl) rfl rfl (g_X8_isStale_0 ?_)
  have main : ∀ (m k : Nat), m + k = s 0 0 → ((List.range k).any fun l => decide (0 < s 9 (rw8 r a o * 12 + l)) && (decide (s 6 l = 0) || !decide (prc s l (rw8 r a o % 8) = s 9 (rw8 r a o * 12 + l)))) = false → JVi E 2 YX8_isStale K 2 [some (.ref 137), some (.int (nI (pl r o a))), some (.int (nI o)), some (.int (nI k))] [] u := by
    intro m
    induction m with
    | zero =>
      intro k hm h
      obtain rfl : k = s 0 0 := by omega
      refine g_X8_isStale_2 ⟨fun _ => ?_, fun c => ?_⟩
      · rw [jb_f (by unfold stB; rw [h]; decide)] at hK
        exact hK
      · rw [hL.1] at c
        exact absurd (nI_le (Nat.le_refl _) (by omega)) c
    | succ m ih =>
      intro k hm h
      have hk : k < s 0 0 := by omega
      have c0 : ¬ u 137 0 ≤ nI k := by rw [hL.1]; exact nI_ge hk (by omega)
      have w6 := (wL.2 k hk).2.2.2.2.2.2
      have b9 : s 9 (rw8 r a o * 12 + k) ≤ 99 := (w3 k (by omega)).1
      obtain ⟨p1, p2, p3⟩ := prcR hL wL hk ho
      have next : ¬ (0 < s 9 (rw8 r a o * 12 + k) ∧ (s 6 k = 0 ∨ ¬ prc s k o = s 9 (rw8 r a o * 12 + k))) → JVi E 2 YX8_isStale K 2 [some (.ref 137), some (.int (nI (pl r o a))), some (.int (nI o)), some (.int (nI (k + 1)))] [] u := fun g => by
        refine ih (k + 1) (by omega) ?_
        rw [List.range_succ, List.any_append, h, rw8_o ho]
        simp only [List.any_cons, List.any_nil, Bool.or_false, Bool.false_or]
        simp
        intro g1
        have g2 : ¬ (s 6 k = 0 ∨ ¬ prc s k o = s 9 (rw8 r a o * 12 + k)) := fun g2 => g ⟨g1, g2⟩
        constructor
        · exact fun q => g2 (Or.inl q)
        · exact Classical.byContradiction fun q => g2 (Or.inr q)
      have yes : (0 < s 9 (rw8 r a o * 12 + k) ∧ (s 6 k = 0 ∨ ¬ prc s k o = s 9 (rw8 r a o * 12 + k))) → K 1 u := fun g => by
        have : stB s (rw8 r a o) = true := by
          unfold stB
          rw [List.any_eq_true]
          refine ⟨k, List.mem_range.mpr hk, ?_⟩
          rw [rw8_o ho]
          simp
          exact g
        rw [jb_t this] at hK
        exact hK
      refine g_X8_isStale_2 ⟨fun c => absurd c c0, fun _ => ⟨vpI hpl (by omega), vpI (by omega) (by omega), ?_⟩⟩
      rw [nI_cl (show k < 2147483648 by omega), nI_cl (show pl r o a < 2147483648 by omega), nI_1, p1, k3 k (by omega), (hL.2 k hk).2.2.2.1, nI_le0 (by omega)]
      refine ⟨fun c => next fun g => by omega, fun c => ⟨fun c2 => yes ⟨by omega, Or.inl (nI_inj (b := 0) (by omega) (by omega) c2)⟩, fun c2 => ⟨fun c3 => next fun g => ?_, fun c3 => yes ⟨by omega, Or.inr fun g => c3 (by rw [g])⟩⟩⟩⟩
      rcases g.2 with g2 | g2
      · exact c2 (by rw [g2]; rfl)
      · exact g2 (nI_inj (by omega) (by omega) c3).symm
  exact main (s 0 0) 0 (by omega) (by simp)
