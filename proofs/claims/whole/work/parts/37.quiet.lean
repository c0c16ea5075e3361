/-! advanceTillQuiet, Links.add -/
noncomputable def quF : Nat → Nat → St → Int32 × St
  | 0, _, s => (-1, s)
  | m + 1, n, s => if nI (tickS s 22 0) - nI (s 22 0) = 0 ∧ s 13 0 = 0 then (nI n, tickS s) else quF m (n + 1) (tickS s)
theorem c_X2_advanceTillQuiet {E : JE} {u0 : JM} {K : Int32 → JM → Prop} {N : Nat} (hN : isNet N) {s : St} (hC : CN N s u0) (w : NW s) (hn : s 21 0 + 90 < 1000000000)
    (hK : ∀ u', same u0 u' (inNet N) → CN N (quF 80 1 s).2 u' → K (quF 80 1 s).1 u') : JCi E 7 YX2_advanceTillQuiet [.ref N] K u0 := by
  refine JCi.ofV (ls := [some (.ref N), none, none]) (by decide +kernel) (Nat.le_of_ble_eq_true rfl) rfl rfl (g_X2_advanceTillQuiet_0 hN ?_)
  have main : ∀ (m n : Nat) (u : JM) (t : St), m + n = 81 → t 21 0 + m + 3 < 1000000000 → NW t → same u0 u (inNet N) → CN N t u → (∀ u', same u0 u' (inNet N) → CN N (quF m n t).2 u' → K (quF m n t).1 u') → JVi E 7 YX2_advanceTillQuiet K 2 [some (.ref N), some (.int (nI n)), none] [] u := by
    intro m
    induction m with
    | zero =>
      intro n u t hm ht wt hs hC hK
      obtain rfl : n = 81 := by omega
      exact g_X2_advanceTillQuiet_2 hN ⟨fun _ => hK u hs hC, fun c => absurd (show (80 : Int32) < nI 81 by decide) c⟩
    | succ m ih =>
      intro n u t hm ht wt hs hC hK
      have q0 : ¬ (80 : Int32) < nI n := by
        rw [Int32.lt_iff_toInt_lt, nI_toInt (by omega), show (80 : Int32).toInt = 80 from by decide]
        omega
      refine g_X2_advanceTillQuiet_2 hN ⟨fun c => absurd c q0, fun _ => ?_⟩
      rw [nI_1]
      intro v hv
      have m192 := wt.2.2.1.1
      rw [hC.2.2.1.1] at hv
      refine c_X2_advance (n := 1) hN hC wt (by omega) fun u' g1 g2 => ?_
      have e1 : ticksS t 1 = tickS t := rfl
      rw [e1] at g2 ⊢
      have hK' : (∀ u', same u0 u' (inNet N) → CN N (if nI (tickS t 22 0) - nI (t 22 0) = 0 ∧ t 13 0 = 0 then (nI n, tickS t) else quF m (n + 1) (tickS t)).2 u' → K (if nI (tickS t 22 0) - nI (t 22 0) = 0 ∧ t 13 0 = 0 then (nI n, tickS t) else quF m (n + 1) (tickS t)).1 u') := hK
      have go : ¬ (nI (tickS t 22 0) - nI (t 22 0) = 0 ∧ t 13 0 = 0) → JVi E 7 YX2_advanceTillQuiet K 2 [some (.ref N), some (.int (nI (n + 1))), none] [] u' := by
        intro c
        rw [if_neg c] at hK'
        exact ih (n + 1) u' (tickS t) (by omega) (by rw [tickS_21]; omega) (tickS_NW wt (by omega)) (hs.trans g1) g2 hK'
      have hv' : v = if t 13 0 = 0 then 1 else 0 := by
        rw [hv]
        by_cases c : t 13 0 = 0
        · rw [if_pos (by rw [c]; rfl), if_pos c]
        · rw [if_neg (fun q => c (nI_inj (by omega) (by omega) (q.trans (show (0 : Int32) = nI 0 from rfl)))), if_neg c]
      rw [hv']
      refine ⟨fun c => go fun q => c q.1, fun c => ⟨fun c2 => go fun q => ?_, fun c2 => ?_⟩⟩
      · rw [if_pos q.2] at c2
        exact absurd c2 (by decide)
      · have c3 : t 13 0 = 0 := by
          by_cases d : t 13 0 = 0
          · exact d
          · rw [if_neg d] at c2; exact absurd rfl c2
        rw [if_pos ⟨c, c3⟩] at hK'
        exact hK' u' (hs.trans g1) g2
  exact main 80 1 u0 s (by omega) (by omega) w same.rfl hC hK
/-- a link more -/
def addS (s : St) (x y a f b : Nat) : St := set1 (set1 (set1 (set1 (set1 (set1 (set1 s 1 (s 0 0) x) 2 (s 0 0) y) 3 (s 0 0) a) 4 (s 0 0) f) 5 (s 0 0) b) 6 (s 0 0) 1) 0 0 (s 0 0 + 1)
