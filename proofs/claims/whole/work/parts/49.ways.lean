/-! the class's public methods: ways -/
def pickR (t : Int32 × Int32 × Int32 × Int32) (a3 : Int32) : Int32 := if a3 = 0 then t.1 else if a3 = 1 then t.2.1 else if a3 = 2 then t.2.2.1 else t.2.2.2
noncomputable def anRoute (s : St) (a1 a2 a3 : Int32) : Int32 := if rg a1 0 7 ∧ rg a2 0 7 ∧ rg a3 0 3 then pickR (rtC s a1.toNatClampNeg a2.toNatClampNeg) a3 else -2
theorem c_X7_route {E : JE} {u : JM} {K : Int32 → JM → Prop}  {a1 a2 a3 : Int32} {s : St} (c : CN 1 s u) (wL : WL s) (wK : WK s) (hK : ∀ u', same u u' scr → K (anRoute s a1 a2 a3) u') : JCi E 5 YX7_route [.ref 0, .int a1, .int a2, .int a3] K u := by
  refine JCi.ofV (ls := [some (.ref 0), some (.int a1), some (.int a2), some (.int a3)]) (by decide +kernel) (Nat.le_of_ble_eq_true rfl) rfl rfl (g_X7_route_0  ?_)
  unfold anRoute at hK
  by_cases ok : rg a1 0 7 ∧ rg a2 0 7 ∧ rg a3 0 3
  · rw [if_pos ok] at hK
    obtain ⟨o1, o2, o3⟩ := ok
    refine ⟨fun q => absurd o1 (jb_0.mp q), fun _ => ⟨fun q => absurd o2 (jb_0.mp q), fun _ => ⟨fun q => absurd q (i32_n.mpr o3.1), fun _ => ⟨fun _ => ?_, fun q => absurd ((i32_le (k := 3) (by decide)).mpr o3.2) q⟩⟩⟩⟩
    obtain ⟨r, hr, rfl⟩ := rt_nI o1
    obtain ⟨d, hd, rfl⟩ := rt_nI o2
    rw [nI_cl (show r < 2147483648 by omega), nI_cl (show d < 2147483648 by omega)] at hK
    refine c_X4_find isN1 c.1 c.2.1 wL wK hr fun u1 q1 t1 => ?_
    have h := hK u1 (q1.mono fun b q => by unfold inR at q; unfold scr; omega)
    obtain ⟨t2, t3, t4, t5⟩ := t1 d hd
    rw [nI_cl (show d < 2147483648 by omega), t2, t3, t4, t5]
    unfold pickR at h
    refine ⟨fun q => ⟨vpI hd (by omega), ?_⟩, fun q => ⟨vpI hd (by omega), ?_⟩, fun q => ⟨vpI hd (by omega), ?_⟩, fun q0 q1 q2 => ⟨vpI hd (by omega), ?_⟩⟩
    · rw [if_pos q] at h; exact h
    · rw [if_neg (by rw [q]; decide), if_pos q] at h; exact h
    · rw [if_neg (by rw [q]; decide), if_neg (by rw [q]; decide), if_pos q] at h; exact h
    · rw [if_neg q0, if_neg q1, if_neg q2] at h; exact h
  · have hB : K (-2) u := by
      have := hK u same.rfl
      rwa [if_neg ok] at this
    clear hK
    repeat' (first | apply And.intro | intro q_)
    all_goals first | exact hB | (exfalso; (try simp only [jb_0, jb_n0, ne_eq] at *); simp only [Int32.lt_iff_toInt_lt, Int32.le_iff_toInt_le, ← Int32.toInt_inj, tI_m14, tI_m13, tI_m12, tI_m11, tI_m10, tI_m9, tI_m8, tI_m7, tI_m6, tI_m5, tI_m4, tI_m3, tI_m2, tI_m1, tI_0, tI_1, tI_2, tI_3, tI_4, tI_5, tI_6, tI_7, tI_8, tI_9, tI_10, tI_11, tI_12, tI_13, tI_14, tI_15, tI_16, tI_17, tI_18, tI_19, tI_20, tI_21, tI_22, tI_23, tI_24, tI_25, tI_26, tI_27, tI_28, tI_29, tI_30, tI_31, tI_32, tI_33, tI_34, tI_35, tI_36, tI_37, tI_38, tI_39, tI_40, tI_60, tI_63, tI_80, tI_99, tI_192, tI_400, tI_9999, tI_12345] at *; omega)
abbrev pkW (a : Int32) : Prop := rg a 0 2 ∨ rg a 10 18
def pickT (t : Nat × Nat × Nat × (Nat → Int32)) (a3 : Int32) : Int32 := if a3 = 0 then nI t.1 else if a3 = 1 then nI t.2.1 else if a3 = 2 then nI t.2.2.1 else t.2.2.2 (a3.toNatClampNeg - 10)
noncomputable def anPacket (s : St) (a1 a2 a3 : Int32) : Int32 := if rg a1 0 7 ∧ rg a2 0 7 ∧ pkW a3 then pickT (trS s a2.toNatClampNeg 9 a1.toNatClampNeg 0 0 (fun _ => -1)) a3 else -2
theorem c_X7_packet {E : JE} {u : JM} {K : Int32 → JM → Prop}  {a1 a2 a3 : Int32} {s : St} (c : CN 1 s u) (wL : WL s) (wK : WK s) (hK : ∀ u', same u u' scr → K (anPacket s a1 a2 a3) u') : JCi E 6 YX7_packet [.ref 0, .int a1, .int a2, .int a3] K u := by
  refine JCi.ofV (ls := [some (.ref 0), some (.int a1), some (.int a2), some (.int a3), none]) (by decide +kernel) (Nat.le_of_ble_eq_true rfl) rfl rfl (g_X7_packet_0  ?_)
  unfold anPacket at hK
  intro v hv
  by_cases ok : rg a1 0 7 ∧ rg a2 0 7 ∧ pkW a3
  · rw [if_pos ok] at hK
    obtain ⟨o1, o2, o3⟩ := ok
    have go : JCu E 5 YX6_go [.ref 127, .ref 1, .ref 109, .int a1, .int a2] (fun u2 => ((a3 = 0 → K (u2 127 0) u2) ∧ (a3 = 1 → K (u2 127 1) u2) ∧ (a3 = 2 → K (u2 127 2) u2) ∧ (¬ a3 = 0 → ¬ a3 = 1 → ¬ a3 = 2 → vp_in (a3 - 10) 9 ∧ K (u2 128 (a3 - 10).toNatClampNeg) u2))) u := by
      obtain ⟨r, hr, rfl⟩ := rt_nI o1
      obtain ⟨d, hd, rfl⟩ := rt_nI o2
      rw [nI_cl (show r < 2147483648 by omega), nI_cl (show d < 2147483648 by omega)] at hK
      refine c_X6_go isN1 c.1 c.2.1 wL wK hr hd fun u1 q1 t1 => ?_
      have h := hK u1 (q1.mono fun b q => by unfold inT inR at q; unfold scr; omega)
      obtain ⟨t2, t3, t4, t5⟩ := t1
      rw [t2, t3, t4]
      unfold pickT at h
      refine ⟨fun q => ?_, fun q => ?_, fun q => ?_, fun q0 q1 q2 => ?_⟩
      · rw [if_pos q] at h; exact h
      · rw [if_neg (by rw [q]; decide), if_pos q] at h; exact h
      · rw [if_neg (by rw [q]; decide), if_neg (by rw [q]; decide), if_pos q] at h; exact h
      · rw [if_neg q0, if_neg q1, if_neg q2] at h
        obtain ⟨x, h1, h2, rfl⟩ : ∃ x, 10 ≤ x ∧ x ≤ 18 ∧ a3 = nI x := by
          obtain ⟨x, h1, rfl⟩ := rg_nI (a := a3) (hi := 18) (by decide) (by unfold rg at *; omega)
          refine ⟨x, ?_, h1, rfl⟩
          have n0 : ∀ k : Nat, k < 10 → (nI x = nI k ↔ x = k) := fun k hk => nI_eq (by omega) (by omega)
          rw [show (0 : Int32) = nI 0 from rfl, n0 0 (by omega)] at q0
          rw [show (1 : Int32) = nI 1 from rfl, n0 1 (by omega)] at q1
          rw [show (2 : Int32) = nI 2 from rfl, n0 2 (by omega)] at q2
          unfold pkW rg at o3
          rw [nI_toInt (by omega)] at o3
          omega
        rw [show (10 : Int32) = nI 10 from rfl, nI_sub h1, nI_cl (by omega), t5 (x - 10) (by omega)]
        rw [nI_cl (by omega)] at h
        exact ⟨vpI (by omega) (by omega), h⟩
    refine ⟨fun q => absurd o1 (jb_0.mp q), fun _ => ⟨fun q => absurd o2 (jb_0.mp q), fun _ => ⟨fun q => ?_, fun _ => ⟨fun _ => go, fun q => ⟨fun _ => go, fun q2 => ?_⟩⟩⟩⟩⟩
    · exfalso; simp only [Int32.lt_iff_toInt_lt, Int32.le_iff_toInt_le, ← Int32.toInt_inj, tI_m14, tI_m13, tI_m12, tI_m11, tI_m10, tI_m9, tI_m8, tI_m7, tI_m6, tI_m5, tI_m4, tI_m3, tI_m2, tI_m1, tI_0, tI_1, tI_2, tI_3, tI_4, tI_5, tI_6, tI_7, tI_8, tI_9, tI_10, tI_11, tI_12, tI_13, tI_14, tI_15, tI_16, tI_17, tI_18, tI_19, tI_20, tI_21, tI_22, tI_23, tI_24, tI_25, tI_26, tI_27, tI_28, tI_29, tI_30, tI_31, tI_32, tI_33, tI_34, tI_35, tI_36, tI_37, tI_38, tI_39, tI_40, tI_60, tI_63, tI_80, tI_99, tI_192, tI_400, tI_9999, tI_12345] at *; omega
    · exfalso
      have e : ¬ a3 < 10 ∧ ¬ 19 ≤ a3 := by clear hv q2 go hK; constructor <;> exact (by simp only [Int32.lt_iff_toInt_lt, Int32.le_iff_toInt_le, ← Int32.toInt_inj, tI_m14, tI_m13, tI_m12, tI_m11, tI_m10, tI_m9, tI_m8, tI_m7, tI_m6, tI_m5, tI_m4, tI_m3, tI_m2, tI_m1, tI_0, tI_1, tI_2, tI_3, tI_4, tI_5, tI_6, tI_7, tI_8, tI_9, tI_10, tI_11, tI_12, tI_13, tI_14, tI_15, tI_16, tI_17, tI_18, tI_19, tI_20, tI_21, tI_22, tI_23, tI_24, tI_25, tI_26, tI_27, tI_28, tI_29, tI_30, tI_31, tI_32, tI_33, tI_34, tI_35, tI_36, tI_37, tI_38, tI_39, tI_40, tI_60, tI_63, tI_80, tI_99, tI_192, tI_400, tI_9999, tI_12345] at *; omega)
      rw [if_neg e.1, if_neg e.2] at hv
      rw [hv] at q2
      exact absurd q2 (by decide)
  · have hB : K (-2) u := by
      have := hK u same.rfl
      rwa [if_neg ok] at this
    clear hK
    by_cases o1 : rg a1 0 7
    · refine ⟨fun _ => hB, fun _ => ?_⟩
      by_cases o2 : rg a2 0 7
      · refine ⟨fun _ => hB, fun _ => ⟨fun _ => hB, fun q1 => ⟨fun q2 => absurd ⟨o1, o2, Or.inl ⟨i32_n.mp q1, (i32_le (k := 2) (by decide)).mp q2⟩⟩ ok, fun q2 => ⟨fun q3 => ?_, fun _ => hB⟩⟩⟩⟩
        exfalso
        apply ok
        refine ⟨o1, o2, Or.inr ?_⟩
        by_cases e1 : a3 < 10
        · rw [if_pos e1] at hv; exact absurd hv q3
        · by_cases e2 : 19 ≤ a3
          · rw [if_neg e1, if_pos e2] at hv; exact absurd hv q3
          · clear hv q3 ok
            simp only [Int32.lt_iff_toInt_lt, Int32.le_iff_toInt_le, ← Int32.toInt_inj, tI_m14, tI_m13, tI_m12, tI_m11, tI_m10, tI_m9, tI_m8, tI_m7, tI_m6, tI_m5, tI_m4, tI_m3, tI_m2, tI_m1, tI_0, tI_1, tI_2, tI_3, tI_4, tI_5, tI_6, tI_7, tI_8, tI_9, tI_10, tI_11, tI_12, tI_13, tI_14, tI_15, tI_16, tI_17, tI_18, tI_19, tI_20, tI_21, tI_22, tI_23, tI_24, tI_25, tI_26, tI_27, tI_28, tI_29, tI_30, tI_31, tI_32, tI_33, tI_34, tI_35, tI_36, tI_37, tI_38, tI_39, tI_40, tI_60, tI_63, tI_80, tI_99, tI_192, tI_400, tI_9999, tI_12345] at *
            omega
      · exact ⟨fun _ => hB, fun q => absurd (jb_n0.mp q) o2⟩
    · exact ⟨fun _ => hB, fun q => absurd (jb_n0.mp q) o1⟩
theorem c_least1 {E : JE} {u0 : JM} {K : Int32 → JM → Prop} {s : St} (hL : CL 1 s u0) (w : WL s) {x d l : Nat} (hx : x < 8) (hd : d < 8) (hl : l < 12) (hE : ∀ u, same u0 u (inL 1) → K (nI (dD (Et s l) x d)) u) : JCi E 3 YX1_leastCost [.ref 2, .int (nI x), .int (nI d), .int (nI l)] K u0 := by
  have h := c_X1_leastCost (E := E) (K := K) isN1 hL w (wo := l) hx hd hE
  rw [lkI_lt hl] at h
  exact h
theorem c_least0 {E : JE} {u0 : JM} {K : Int32 → JM → Prop} {s : St} (hL : CL 1 s u0) (w : WL s) {x d : Nat} (hx : x < 8) (hd : d < 8) (hE : ∀ u, same u0 u (inL 1) → K (nI (dD (Et s 12) x d)) u) : JCi E 3 YX1_leastCost [.ref 2, .int (nI x), .int (nI d), .int (-1)] K u0 :=
  c_X1_leastCost (E := E) (K := K) isN1 hL w (wo := 12) hx hd hE
noncomputable def anTruly (s : St) (a1 a2 : Int32) : Int32 := if rg a1 0 7 ∧ rg a2 0 7 then nI (dD (Et s 12) a1.toNatClampNeg a2.toNatClampNeg) else -2
theorem c_X7_truly {E : JE} {u : JM} {K : Int32 → JM → Prop}  {a1 a2 : Int32} {s : St} (c : CN 1 s u) (wL : WL s) (hK : ∀ u', same u u' scr → K (anTruly s a1 a2) u') : JCi E 4 YX7_truly [.ref 0, .int a1, .int a2] K u := by
  refine JCi.ofV (ls := [some (.ref 0), some (.int a1), some (.int a2)]) (by decide +kernel) (Nat.le_of_ble_eq_true rfl) rfl rfl (g_X7_truly_0  ?_)
  unfold anTruly at hK
  by_cases ok : rg a1 0 7 ∧ rg a2 0 7
  · rw [if_pos ok] at hK
    obtain ⟨o1, o2⟩ := ok
    refine ⟨fun q => absurd o1 (jb_0.mp q), fun _ => ⟨fun _ => ?_, fun q => absurd o2 (jb_0.mp q)⟩⟩
    obtain ⟨r, hr, rfl⟩ := rt_nI o1
    obtain ⟨d, hd, rfl⟩ := rt_nI o2
    rw [nI_cl (show r < 2147483648 by omega), nI_cl (show d < 2147483648 by omega)] at hK
    exact c_least0 c.1 wL hr hd fun u1 q1 => hK u1 (q1.mono fun b q => by unfold inL at q; unfold scr; omega)
  · have hB : K (-2) u := by
      have := hK u same.rfl
      rwa [if_neg ok] at this
    by_cases o1 : rg a1 0 7
    · exact ⟨fun _ => hB, fun _ => ⟨fun q => absurd ⟨o1, jb_n0.mp q⟩ ok, fun _ => hB⟩⟩
    · exact ⟨fun _ => hB, fun q => absurd (jb_n0.mp q) o1⟩
noncomputable def cutB (s : St) (x d l : Nat) : Bool := decide (s 6 l = 1) && decide (9999 ≤ dD (Et s l) x d)
noncomputable def anCuts (s : St) (a1 a2 : Int32) : Int32 := if rg a1 0 7 ∧ rg a2 0 7 then (if dD (Et s 12) a1.toNatClampNeg a2.toNatClampNeg < 9999 then nI (bits (s 0 0) (cutB s a1.toNatClampNeg a2.toNatClampNeg)) else 0) else -2
theorem c_X7_cuts {E : JE} {u : JM} {K : Int32 → JM → Prop}  {a1 a2 : Int32} {s : St} (c : CN 1 s u) (wL : WL s) (hK : ∀ u', same u u' scr → K (anCuts s a1 a2) u') : JCi E 4 YX7_cuts [.ref 0, .int a1, .int a2] K u := by
  refine JCi.ofV (ls := [some (.ref 0), some (.int a1), some (.int a2), none, none, none]) (by decide +kernel) (Nat.le_of_ble_eq_true rfl) rfl rfl (g_X7_cuts_0  ?_)
  unfold anCuts at hK
  have h12 := wL.1
  by_cases ok : rg a1 0 7 ∧ rg a2 0 7
  · rw [if_pos ok] at hK
    obtain ⟨o1, o2⟩ := ok
    refine ⟨fun q => absurd o1 (jb_0.mp q), fun _ => ⟨fun _ => ?_, fun q => absurd o2 (jb_0.mp q)⟩⟩
    obtain ⟨r, hr, rfl⟩ := rt_nI o1
    obtain ⟨d, hd, rfl⟩ := rt_nI o2
    rw [nI_cl (show r < 2147483648 by omega), nI_cl (show d < 2147483648 by omega)] at hK
    have hD : ∀ wo, dD (Et s wo) r d ≤ 9999 := fun wo => (dD_is (Et_ok wL wo) r).2.1 d
    have h0 := hD 12
    refine c_least0 c.1 wL hr hd fun u1 q1 => ?_
    have s1 : same u u1 scr := q1.mono fun b q => by unfold inL at q; unfold scr; omega
    rw [show (9999 : Int32) = nI 9999 from rfl]
    refine ⟨fun q => ?_, fun q => ?_⟩
    · have g : ¬ dD (Et s 12) r d < 9999 := fun g => nI_ge g (by omega) q
      rw [if_neg g] at hK
      exact hK u1 s1
    · have g : dD (Et s 12) r d < 9999 := Nat.lt_of_not_le fun g => q (nI_le g (by omega))
      rw [if_pos g] at hK
      have main : ∀ (m k : Nat) (u' : JM), m + k = s 0 0 → same u u' scr → CL 1 s u' → JVi E 4 YX7_cuts K 44 [some (.ref 0), some (.int (nI r)), some (.int (nI d)), some (.ref 2), some (.int (nI (bits k (cutB s r d)))), some (.int (nI k))] [] u' := by
        intro m
        induction m with
        | zero =>
          intro k u' hm hs hL
          obtain rfl : k = s 0 0 := by omega
          refine g_X7_cuts_44 ⟨fun _ => hK u' hs, fun q => ?_⟩
          rw [show u' 2 0 = nI (s 0 0) from hL.1] at q
          exact absurd (nI_le (Nat.le_refl _) (by omega)) q
        | succ m ih =>
          intro k u' hm hs hL
          have hk : k < s 0 0 := by omega
          have h6 := (wL.2 k hk).2.2.2.2.2.2
          refine g_X7_cuts_44 ⟨fun q => ?_, fun _ => ⟨vpI (by omega) (by omega), ?_⟩⟩
          · rw [show u' 2 0 = nI (s 0 0) from hL.1] at q
            exact absurd q (nI_ge hk (by omega))
          · rw [nI_cl (show k < 2147483648 by omega), show u' 8 k = nI (s 6 k) from (hL.2.1 k hk).2.2.2.2.2, nI_1]
            refine ⟨fun q => ?_, fun q => ?_⟩
            · have q' : s 6 k = 0 := nI_inj (by omega) (by omega) (q.trans (show (0 : Int32) = nI 0 from rfl))
              have e : bits (k + 1) (cutB s r d) = bits k (cutB s r d) := by rw [bits_suc, if_neg (by unfold cutB; rw [q']; simp)]
              have := ih (k + 1) u' (by omega) hs hL
              rw [e] at this
              exact this
            · have q' : s 6 k = 1 := by
                rcases (show s 6 k = 0 ∨ s 6 k = 1 by omega) with g | g
                · rw [g] at q; exact absurd rfl q
                · exact g
              refine c_least1 hL wL hr hd (by omega) fun u2 q2 v hv => ?_
              have hDk := hD k
              rw [show (9999 : Int32) = nI 9999 from rfl, nI_bits' (by omega) _ (by unfold cutB; rw [q', i32_lt (by omega), nI_toInt (by omega)]; simp; omega)] at hv
              rw [hv]
              exact ih (k + 1) u2 (by omega) (hs.trans (q2.mono fun b q => by unfold inL at q; unfold scr; omega)) (hL.congr fun j h1 h2 => q2 _ (by unfold inL; omega))
      exact main (s 0 0) 0 u1 (by omega) s1 (c.1.congr fun j h1 h2 => q1 _ (by unfold inL; omega))
  · have hB : K (-2) u := by
      have := hK u same.rfl
      rwa [if_neg ok] at this
    by_cases o1 : rg a1 0 7
    · exact ⟨fun _ => hB, fun _ => ⟨fun q => absurd ⟨o1, jb_n0.mp q⟩ ok, fun _ => hB⟩⟩
    · exact ⟨fun _ => hB, fun q => absurd (jb_n0.mp q) o1⟩
