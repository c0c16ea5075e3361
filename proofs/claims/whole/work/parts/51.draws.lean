/-! draws: who is reached; drawn, chance; counting bits -/
noncomputable def rcS (s : St) (r : Nat) : Nat := bits 8 fun y => !decide ((rtC s r y).1 = -1)
theorem c_rch {E : JE} {u0 : JM} {K : Int32 → JM → Prop} {s : St} (cL : CL 37 s u0) (cK : CK 37 s u0) (wL : WL s) (wK : WK s) {r : Nat} (hr : r < 8)
    (hK : ∀ u, same u0 u inR → K (nI (rcS s r)) u) : JCi E 5 YX7_reached [.ref 0, .int (nI r)] K u0 := by
  refine JCi.ofV (ls := [some (.ref 0), some (.int (nI r)), none, none]) (by decide +kernel) (Nat.le_of_ble_eq_true rfl) rfl rfl (g_X7_reached_0 ?_)
  refine c_X4_find isN37 cL cK wL wK hr fun u1 q1 t1 => ?_
  have main : ∀ (m k : Nat), m + k = 8 → JVi E 5 YX7_reached K 16 [some (.ref 0), some (.int (nI r)), some (.int (nI (bits k fun y => !decide ((rtC s r y).1 = -1)))), some (.int (nI k))] [] u1 := by
    intro m
    induction m with
    | zero =>
      intro k hm
      obtain rfl : k = 8 := by omega
      exact g_X7_reached_16 ⟨fun _ => hK u1 q1, fun c => absurd (show (8 : Int32) ≤ nI 8 by decide) c⟩
    | succ m ih =>
      intro k hm
      refine g_X7_reached_16 ⟨fun c => absurd c (nI_ge (a := k) (b := 8) (by omega) (by omega)), fun _ => ⟨vpI (by omega) (by omega), fun v hv => ?_⟩⟩
      rw [nI_cl (by omega), (t1 k (by omega)).1, nI_bits' (by omega) _ (by simp)] at hv
      rw [hv, nI_1]
      exact ih (k + 1) (by omega)
  exact main 8 0 (by omega)
def bcF (a : Int32) : Int32 :=
  let a1 := a - (((a.toUInt32 >>> ((1 : Int32).toUInt32 &&& Int32.toUInt32 31)).toInt32) &&& 1431655765)
  let a2 := (a1 &&& 858993459) + (((a1.toUInt32 >>> ((2 : Int32).toUInt32 &&& Int32.toUInt32 31)).toInt32) &&& 858993459)
  let a3 := (a2 + ((a2.toUInt32 >>> ((4 : Int32).toUInt32 &&& Int32.toUInt32 31)).toInt32)) &&& 252645135
  let a4 := a3 + ((a3.toUInt32 >>> ((8 : Int32).toUInt32 &&& Int32.toUInt32 31)).toInt32)
  let a5 := a4 + ((a4.toUInt32 >>> ((16 : Int32).toUInt32 &&& Int32.toUInt32 31)).toInt32)
  a5 &&& 63
def cnB (m : Nat) : Nat := cntP 13 fun i => m.testBit i
theorem bcF_ok {m : Nat} (hm : m < 8192) : bcF (nI m) = nI (cnB m) := by
  have h : ((List.range 8192).all fun m => decide (bcF (nI m) = nI (cnB m))) = true := by decide +kernel
  exact of_decide_eq_true (List.all_eq_true.mp h m (List.mem_range.mpr hm))
theorem c_bc {E : JE} {u : JM} {K : Int32 → JM → Prop} {m : Nat} (hm : m < 8192) (hK : K (nI (cnB m)) u) : JCi E 1 YJ6_bitCount_0f7a4 [.int (nI m)] K u := by
  refine JCi.ofV (ls := [some (.int (nI m))]) (by decide +kernel) (Nat.le_of_ble_eq_true rfl) rfl rfl (g_J6_bitCount_0f7a4_0 ?_)
  intro v1 h1 v2 h2 v3 h3 v4 h4 v5 h5
  rw [← bcF_ok hm] at hK
  have e : v5 &&& 63 = bcF (nI m) := by rw [h5, h4, h3, h2, h1]; rfl
  rw [e]
  exact hK
theorem cd_fin {a k : Nat} (ha : a ≤ 6) (hk : k ≤ 6) (h2 : 2 ≤ k) : (nI a - nI a / nI k * nI k = 0) ↔ a % k = 0 := by
  have h : ((List.range 7).all fun a => (List.range 7).all fun k => decide (2 ≤ k → ((nI a - nI a / nI k * nI k = 0) ↔ a % k = 0))) = true := by decide +kernel
  exact of_decide_eq_true (List.all_eq_true.mp (List.all_eq_true.mp h a (List.mem_range.mpr (by omega))) k (List.mem_range.mpr (by omega))) h2
def cdF (a b : Nat) : Nat → Nat
  | 0 => 1
  | k + 1 => if k + 1 ≤ 1 then 1 else if a % (k + 1) = 0 ∧ b % (k + 1) = 0 then k + 1 else cdF a b k
theorem cdF_gcd {a b : Nat} (ha : a ≤ 6) (hb : b ≤ 6) (h1 : 1 ≤ b) : cdF a b b = Nat.gcd a b := by
  have h : ((List.range 7).all fun a => (List.range 7).all fun b => decide (1 ≤ b → cdF a b b = Nat.gcd a b)) = true := by decide +kernel
  exact of_decide_eq_true (List.all_eq_true.mp (List.all_eq_true.mp h a (List.mem_range.mpr (by omega))) b (List.mem_range.mpr (by omega))) h1
theorem nI_m1 (k : Nat) : nI (k + 1) + (-1) = nI k := by
  rw [← nI_pred k, Int32.sub_eq_add_neg]
theorem c_cd {E : JE} {u : JM} {K : Int32 → JM → Prop} {a b : Nat} (ha : a ≤ 6) (hb : b ≤ 6) (h1 : 1 ≤ b) (hK : K (nI (Nat.gcd a b)) u) : JCi E 1 YX7_commonDivisor [.int (nI a), .int (nI b)] K u := by
  refine JCi.ofV (ls := [some (.int (nI a)), some (.int (nI b)), none]) (by decide +kernel) (Nat.le_of_ble_eq_true rfl) rfl rfl (g_X7_commonDivisor_0 ?_)
  have main : ∀ k, k ≤ 6 → K (nI (cdF a b k)) u → JVi E 1 YX7_commonDivisor K 2 [some (.int (nI a)), some (.int (nI b)), some (.int (nI k))] [] u := by
    intro k
    induction k with
    | zero => exact fun _ h => g_X7_commonDivisor_2 ⟨fun _ => h, fun q => absurd (show nI 0 ≤ 1 by decide) q⟩
    | succ k ih =>
      intro hk h
      by_cases q : k + 1 ≤ 1
      · have e : cdF a b (k + 1) = 1 := if_pos q
        rw [e] at h
        exact g_X7_commonDivisor_2 ⟨fun _ => h, fun g => absurd (show nI (k + 1) ≤ nI 1 from nI_le q (by omega)) g⟩
      · have e : cdF a b (k + 1) = (if a % (k + 1) = 0 ∧ b % (k + 1) = 0 then k + 1 else cdF a b k) := if_neg q
        rw [e] at h
        have n0 : ¬ nI (k + 1) = 0 := fun g => by have := nI_inj (a := k + 1) (b := 0) (by omega) (by omega) g; omega
        refine g_X7_commonDivisor_2 ⟨fun g => absurd g (show ¬ nI (k + 1) ≤ nI 1 from ?_), fun _ => ⟨n0, ?_, fun g1 => ⟨n0, ?_, ?_⟩⟩⟩
        · rw [i32_le (by omega), nI_toInt (by omega)]; omega
        · rw [nI_m1]
          intro g1
          rw [cd_fin ha (by omega) (by omega)] at g1
          rw [if_neg (fun z => g1 z.1)] at h
          exact ih (by omega) h
        · rw [nI_m1]
          intro g2
          rw [cd_fin hb (by omega) (by omega)] at g2
          rw [if_neg (fun z => g2 z.2)] at h
          exact ih (by omega) h
        · intro g2
          rw [cd_fin ha (by omega) (by omega)] at g1
          rw [cd_fin hb (by omega) (by omega)] at g2
          rw [if_pos ⟨g1, g2⟩] at h
          exact h
  rw [← cdF_gcd ha hb h1] at hK
  exact main b hb hK
/-- the net that a seed leaves, forty ticks on -/
noncomputable def seS (s : St) (z : Int32) : St := ticksS (drS s z (s 0 0)) 40
noncomputable def anDrawn (s : St) (a1 a2 : Int32) : Int32 := if rg a1 0 7 then nI (cnB (rcS (seS s a2) a1.toNatClampNeg)) else -2
theorem c_see {E : JE} {u : JM} {K : Int32 → JM → Prop} {w : Wd} (c : CW w u) (ww : NW w.1) (hT : w.1 21 0 + 90 < 1000000000) {z : Int32} {u1 : JM} (q1 : same u u1 (inNet 37)) (h1 : CN 37 (drS w.1 z (w.1 0 0)) u1)
    (hK : ∀ u' x, same u u' (inNet 37) → CN 37 (seS w.1 z) u' → NW (seS w.1 z) → CW w u' → K x u') : JCi E 6 YX2_advance [.ref 37, .int 40] K u1 := by
  have n1 := drS_NW ww z (w.1 0 0) (Nat.le_refl _)
  refine c_fty (c.tht q1 h1 n1.2.2.2.1) h1 n1 (by rw [drS_ne _ _ _ _ (by decide)]; exact hT) fun u' x q2 h2 n2 c2 => hK u' x (q1.trans q2) h2 n2 c2
theorem c_X7_drawn {E : JE} {u : JM} {K : Int32 → JM → Prop}  {a1 a2 : Int32} {w : Wd} (c : CW w u) (ww : NW w.1) (hT : w.1 21 0 + 90 < 1000000000)
    (hK : ∀ u', same u u' inC → CW w u' → K (anDrawn w.1 a1 a2) u') : JCi E 7 YX7_drawn [.ref 0, .int a1, .int a2] K u := by
  refine JCi.ofV (ls := [some (.ref 0), some (.int a1), some (.int a2)]) (by decide +kernel) (Nat.le_of_ble_eq_true rfl) rfl rfl (g_X7_drawn_0  ?_)
  unfold anDrawn at hK
  by_cases ok : rg a1 0 7
  · rw [if_pos ok] at hK
    refine ⟨fun _ => ?_, fun q => absurd ok (jb_0.mp q)⟩
    obtain ⟨r, hr, rfl⟩ := rt_nI ok
    rw [nI_cl (by omega)] at hK
    refine c_drw c ww fun u1 q1 h1 => c_see c ww hT q1 h1 fun u2 x q2 h2 n2 c2 => ?_
    refine c_rch h2.1 h2.2.1 n2.1 n2.2.1 hr fun u3 q3 => ?_
    refine c_bc (Nat.lt_trans (bits_lt 8 _) (by decide)) ?_
    exact hK u3 ((q2.mono fun b q => by unfold inNet at q; unfold inC; omega).trans (q3.mono fun b q => by unfold inR at q; unfold inC; omega)) (c2.sc (q3.mono fun b q => by unfold inR at q; unfold scr; omega))
  · have hB : K (-2) u := by
      have := hK u same.rfl c
      rwa [if_neg ok] at this
    exact ⟨fun q => absurd (jb_n0.mp q) ok, fun _ => hB⟩
noncomputable def hitB (s : St) (r : Nat) (z : Int32) : Bool := decide (rcS (seS s z) r = jnS (seS s z) r)
noncomputable def hitN (s : St) (r : Nat) (z : Int32) (m : Nat) : Nat := cntP m fun i => hitB s r (z + nI i)
noncomputable def anChance (s : St) (a1 a2 a3 a4 : Int32) : Int32 := if rg a1 0 7 ∧ rg a3 1 6 ∧ rg a4 0 1 then
    (if a4 = 0 then nI (hitN s a1.toNatClampNeg a2 a3.toNatClampNeg) else a3) / nI (Nat.gcd (hitN s a1.toNatClampNeg a2 a3.toNatClampNeg) a3.toNatClampNeg) else -2
theorem c_X7_chance {E : JE} {u : JM} {K : Int32 → JM → Prop}  {a1 a2 a3 a4 : Int32} {w : Wd} (c : CW w u) (ww : NW w.1) (hT : w.1 21 0 + 90 < 1000000000)
    (hK : ∀ u', same u u' inC → CW w u' → K (anChance w.1 a1 a2 a3 a4) u') : JCi E 7 YX7_chance [.ref 0, .int a1, .int a2, .int a3, .int a4] K u := by
  refine JCi.ofV (ls := [some (.ref 0), some (.int a1), some (.int a2), some (.int a3), some (.int a4), none, none]) (by decide +kernel) (Nat.le_of_ble_eq_true rfl) rfl rfl (g_X7_chance_0  ?_)
  unfold anChance at hK
  by_cases ok : rg a1 0 7 ∧ rg a3 1 6 ∧ rg a4 0 1
  · rw [if_pos ok] at hK
    obtain ⟨o1, o2, o3⟩ := ok
    refine ⟨fun q => absurd o1 (jb_0.mp q), fun _ => ⟨fun q => ?_, fun _ => ⟨fun q => ?_, fun _ => ⟨fun q => absurd q (i32_n.mpr o3.1), fun _ => ⟨fun _ => ?_, fun q => absurd ((i32_le (k := 1) (by decide)).mpr o3.2) q⟩⟩⟩⟩⟩
    · exfalso; simp only [Int32.lt_iff_toInt_lt, Int32.le_iff_toInt_le, ← Int32.toInt_inj, tI_m14, tI_m13, tI_m12, tI_m11, tI_m10, tI_m9, tI_m8, tI_m7, tI_m6, tI_m5, tI_m4, tI_m3, tI_m2, tI_m1, tI_0, tI_1, tI_2, tI_3, tI_4, tI_5, tI_6, tI_7, tI_8, tI_9, tI_10, tI_11, tI_12, tI_13, tI_14, tI_15, tI_16, tI_17, tI_18, tI_19, tI_20, tI_21, tI_22, tI_23, tI_24, tI_25, tI_26, tI_27, tI_28, tI_29, tI_30, tI_31, tI_32, tI_33, tI_34, tI_35, tI_36, tI_37, tI_38, tI_39, tI_40, tI_60, tI_63, tI_80, tI_99, tI_192, tI_400, tI_9999, tI_12345] at *; omega
    · exfalso; simp only [Int32.lt_iff_toInt_lt, Int32.le_iff_toInt_le, ← Int32.toInt_inj, tI_m14, tI_m13, tI_m12, tI_m11, tI_m10, tI_m9, tI_m8, tI_m7, tI_m6, tI_m5, tI_m4, tI_m3, tI_m2, tI_m1, tI_0, tI_1, tI_2, tI_3, tI_4, tI_5, tI_6, tI_7, tI_8, tI_9, tI_10, tI_11, tI_12, tI_13, tI_14, tI_15, tI_16, tI_17, tI_18, tI_19, tI_20, tI_21, tI_22, tI_23, tI_24, tI_25, tI_26, tI_27, tI_28, tI_29, tI_30, tI_31, tI_32, tI_33, tI_34, tI_35, tI_36, tI_37, tI_38, tI_39, tI_40, tI_60, tI_63, tI_80, tI_99, tI_192, tI_400, tI_9999, tI_12345] at *; omega
    · obtain ⟨r, hr, rfl⟩ := rt_nI o1
      obtain ⟨n, n1, n6, rfl⟩ := rg1_nI (hi := 6) (by decide) o2
      rw [nI_cl (by omega), nI_cl (by omega)] at hK
      have main : ∀ (m k : Nat) (u' : JM), m + k = n → same u u' inC → CW w u' → JVi E 7 YX7_chance K 38 [some (.ref 0), some (.int (nI r)), some (.int a2), some (.int (nI n)), some (.int a4), some (.int (nI (hitN w.1 r a2 k))), some (.int (nI k))] [] u' := by
        intro m
        induction m with
        | zero =>
          intro k u' hm hs hC
          obtain rfl : k = n := by omega
          have hh : hitN w.1 r a2 k ≤ 6 := Nat.le_trans (cntP_le k _) n6
          have h := hK u' hs hC
          have g0 : 0 < Nat.gcd (hitN w.1 r a2 k) k := Nat.gcd_pos_of_pos_right _ (by omega)
          have g6 : Nat.gcd (hitN w.1 r a2 k) k ≤ k := Nat.gcd_le_right _ (by omega)
          have n0 : ¬ nI (Nat.gcd (hitN w.1 r a2 k) k) = 0 := fun g => by have := nI_inj (b := 0) (by omega) (by omega) g; omega
          refine g_X7_chance_38 ⟨fun _ => c_cd hh n6 n1 ⟨fun q => ⟨n0, ?_⟩, fun q => ⟨n0, ?_⟩⟩, fun q => absurd (nI_le (Nat.le_refl k) (by omega)) q⟩
          · rw [if_neg q] at h; exact h
          · rw [if_pos q] at h; exact h
        | succ m ih =>
          intro k u' hm hs hC
          refine g_X7_chance_38 ⟨fun q => absurd q (nI_ge (by omega) (by omega)), fun _ => ?_⟩
          refine c_drw hC ww fun u1 q1 h1 => c_see hC ww hT q1 h1 fun u2 x q2 h2 n2 c2 => ?_
          refine c_rch h2.1 h2.2.1 n2.1 n2.2.1 hr fun u3 q3 => ?_
          have s3 : same u' u3 (fun b => inNet 37 b ∨ inR b) := (q2.mono fun b q => Or.inl q).trans (q3.mono fun b q => Or.inr q)
          refine c_X1_joinedTo (u0 := u3) isN37 (h2.1.congr fun j _ _ => q3 _ (by unfold inR; omega)) n2.1 hr fun u4 q4 v hv => ?_
          have jl : jnS (seS w.1 (a2 + nI k)) r < 2 ^ 8 := bits_lt 8 _
          have rl : rcS (seS w.1 (a2 + nI k)) r < 2 ^ 8 := bits_lt 8 _
          rw [nI_1] at hv
          have e : v = nI (hitN w.1 r a2 (k + 1)) := by
            have et : hitN w.1 r a2 (k + 1) = hitN w.1 r a2 k + if hitB w.1 r (a2 + nI k) then 1 else 0 := rfl
            rw [hv, et]
            by_cases z : rcS (seS w.1 (a2 + nI k)) r = jnS (seS w.1 (a2 + nI k)) r
            · rw [if_pos (by rw [z]), if_pos (show hitB w.1 r (a2 + nI k) = true from decide_eq_true z)]
            · rw [if_neg (fun g => z (nI_inj (by omega) (by omega) g)), if_neg (show ¬ hitB w.1 r (a2 + nI k) = true from fun g => z (of_decide_eq_true g))]; rfl
          rw [e, nI_1]
          refine ih (k + 1) u4 (by omega) (hs.trans ?_) ?_
          · exact (s3.mono fun b q => by unfold inNet inR at q; unfold inC; omega).trans (q4.mono fun b q => by unfold inL at q; unfold inC; omega)
          · exact (c2.sc (q3.mono fun b q => by unfold inR at q; unfold scr; omega)).sc (q4.mono fun b q => by unfold inL at q; unfold scr; omega)
      exact main n 0 u (by omega) same.rfl c
  · have hB : K (-2) u := by
      have := hK u same.rfl c
      rwa [if_neg ok] at this
    clear hK
    by_cases o1 : rg a1 0 7
    · refine ⟨fun _ => hB, fun _ => ⟨fun _ => hB, fun q1 => ⟨fun _ => hB, fun q2 => ⟨fun _ => hB, fun q3 => ⟨fun q4 => ?_, fun _ => hB⟩⟩⟩⟩⟩
      exfalso
      apply ok
      refine ⟨o1, ?_, i32_n.mp q3, (i32_le (k := 1) (by decide)).mp q4⟩
      clear ok
      unfold rg
      simp only [Int32.lt_iff_toInt_lt, Int32.le_iff_toInt_le, ← Int32.toInt_inj, tI_m14, tI_m13, tI_m12, tI_m11, tI_m10, tI_m9, tI_m8, tI_m7, tI_m6, tI_m5, tI_m4, tI_m3, tI_m2, tI_m1, tI_0, tI_1, tI_2, tI_3, tI_4, tI_5, tI_6, tI_7, tI_8, tI_9, tI_10, tI_11, tI_12, tI_13, tI_14, tI_15, tI_16, tI_17, tI_18, tI_19, tI_20, tI_21, tI_22, tI_23, tI_24, tI_25, tI_26, tI_27, tI_28, tI_29, tI_30, tI_31, tI_32, tI_33, tI_34, tI_35, tI_36, tI_37, tI_38, tI_39, tI_40, tI_60, tI_63, tI_80, tI_99, tI_192, tI_400, tI_9999, tI_12345] at *
      omega
    · exact ⟨fun _ => hB, fun q => absurd (jb_n0.mp q) o1⟩
