/-! tells -/
theorem nI_div4 {x : Nat} (hx : x < 2147483648) : nI x / 4 = nI (x / 4) := pk_div hx (by decide) (by decide)
theorem tl_x {a3 : Int32} (h : isTldW a3) : ∃ x, x < 2147483648 ∧ a3 = nI x ∧ (x ≤ 2 ∨ (4 ≤ x ∧ x % 4 ≤ 1)) := by
  obtain ⟨x, hx, rfl⟩ := nI_of (x := a3) (i32_n.mpr h.1)
  refine ⟨x, hx, rfl, ?_⟩
  unfold isTldW at h
  rw [nI_toInt hx] at h
  omega
/-- whose cost is changed -/
def tlL (a3 : Int32) : Nat := a3.toNatClampNeg / 4 - 1
noncomputable def anTells (w : Wd) (a1 a2 a3 : Int32) : Int32 := if rg a1 0 3 ∧ rg a2 0 7 ∧ isTldW a3 then
    (if 4 ≤ a3.toNatClampNeg ∧ w.1 0 0 ≤ tlL a3 then -12 else if w.2.2.2.1 a1.toNatClampNeg = -1 then -11 else if 8 < w.2.2.2.2.1 a1.toNatClampNeg then -2
     else if a3.toNatClampNeg = 0 then fo w.2.2.2 w.1 a2.toNatClampNeg a1.toNatClampNeg else if a3.toNatClampNeg = 1 then nI (bits 8 (rtsB w a1.toNatClampNeg)) else if a3.toNatClampNeg = 2 then nI (bits (w.1 0 0) (ltsB w a1.toNatClampNeg a2.toNatClampNeg))
     else if a3.toNatClampNeg % 4 = 1 then lbF (bits 13 (ctsB w a1.toNatClampNeg a2.toNatClampNeg (tlL a3))) 13 0 else nI (cnB (bits 13 (ctsB w a1.toNatClampNeg a2.toNatClampNeg (tlL a3))))) else -2
theorem c_X7_tells {E : JE} {u : JM} {K : Int32 → JM → Prop}  {a1 a2 a3 : Int32} {w : Wd} (c : CW w u) (ww : NW w.1) (wS : WS w.2.2.2) (hT : w.1 21 0 + 90 < 1000000000)
    (hK : ∀ u', same u u' inC → CW w u' → K (anTells w a1 a2 a3) u') : JCi E 8 YX7_tells [.ref 0, .int a1, .int a2, .int a3] K u := by
  refine JCi.ofV (ls := [some (.ref 0), some (.int a1), some (.int a2), some (.int a3), none, none]) (by decide +kernel) (Nat.le_of_ble_eq_true rfl) rfl rfl (g_X7_tells_0  ?_)
  unfold anTells at hK
  have hn := ww.1.1
  rw [show u 2 0 = nI (w.1 0 0) from c.1.1.1, nI_toInt (by omega)]
  by_cases ok : rg a1 0 3 ∧ rg a2 0 7 ∧ isTldW a3
  · rw [if_pos ok] at hK
    obtain ⟨o1, o2, o3⟩ := ok
    obtain ⟨i, hi, rfl⟩ := sh_nI o1
    obtain ⟨r, hr, rfl⟩ := rt_nI o2
    obtain ⟨x, hx, rfl, hx2⟩ := tl_x o3
    have el : tlL (nI x) = x / 4 - 1 := by unfold tlL; rw [nI_cl hx]
    rw [nI_cl (show i < 2147483648 by omega), nI_cl (show r < 2147483648 by omega), nI_cl hx, el] at hK
    obtain ⟨s1, s2, s3⟩ := c.2.2.2.2.2 i hi
    have hw := wS i hi
    rw [nI_cl (show i < 2147483648 by omega), s1, s2]
    have n0 : ∀ k : Nat, k < 10 → (nI x = nI k ↔ x = k) := fun k hk => nI_eq (by omega) (by omega)
    have e4 : 4 ≤ x → (nI x / 4 - 1 = nI (x / 4 - 1)) := fun g => by rw [nI_div4 hx, nI_sub1 (by omega)]
    have em : nI x - nI x / 4 * 4 = nI (x % 4) := by
      rw [nI_div4 hx, show (4 : Int32) = nI 4 from rfl, nI_mul, nI_sub (by omega)]
      congr 1
      omega
    have mid : ¬ (4 ≤ x ∧ w.1 0 0 ≤ x / 4 - 1) → vp_in (nI i) 4 ∧ ((jb (w.2.2.2.1 i = -1) = 0 → ((nI (w.2.2.2.2.1 i) ≤ 8 → ((nI x = 0 → JCi E 5 YX7_firstOtherwise [.ref 0, .ref 1, .int (nI i), .int (nI r)] (fun x1 u1 => K x1 u1) u) ∧
        (nI x = 1 → JCi E 6 YX7_routersToldSo [.ref 0, .int (nI i)] (fun x2 u2 => K x2 u2) u) ∧
        (nI x = 2 → JCi E 7 YX7_linksToldSo [.ref 0, .int (nI i), .int (nI r)] (fun x3 u3 => K x3 u3) u) ∧
        (¬ nI x = 0 → ¬ nI x = 1 → ¬ nI x = 2 → JCi E 7 YX7_costsToldSo [.ref 0, .int (nI i), .int (nI r), .int ((nI x / 4) - 1)] (fun x4 u4 =>
          ((¬ (nI x - nI x / 4 * 4) = 0 → JCi E 1 YX7_leastBit [.int x4] (fun x5 u5 => K x5 u5) u4) ∧
           ((nI x - nI x / 4 * 4) = 0 → JCi E 1 YJ6_bitCount_0f7a4 [.int x4] (fun x6 u6 => K x6 u6) u4))) u))) ∧
        (¬ nI (w.2.2.2.2.1 i) ≤ 8 → K (-2) u))) ∧ (¬ jb (w.2.2.2.1 i = -1) = 0 → K (-11) u)) := by
      intro g
      rw [if_neg g] at hK
      refine ⟨vpI hi (by omega), fun q => ?_, fun q => ?_⟩
      · have q' := jb_0.mp q
        rw [if_neg q'] at hK
        refine ⟨fun q1 => ?_, fun q1 => ?_⟩
        · have hn8 : w.2.2.2.2.1 i ≤ 8 := Nat.le_of_not_lt fun g => nI_ge g (by omega) q1
          rw [if_neg (by omega)] at hK
          rw [show (0 : Int32) = nI 0 from rfl, show (1 : Int32) = nI 1 from rfl, show (2 : Int32) = nI 2 from rfl, n0 0 (by omega), n0 1 (by omega), n0 2 (by omega)]
          refine ⟨fun z => ?_, fun z => ?_, fun z => ?_, fun z0 z1 z2 => ?_⟩
          · rw [if_pos z] at hK
            exact c_fo isN1 c.1.1 c.1.2.1 ww.1 ww.2.1 c.2.2.2.2.2 hi hr hn8 fun u1 q1 => hK u1 (q1.mono fun b q => by unfold inR at q; unfold inC; omega) (c.sc (q1.mono fun b q => by unfold inR at q; unfold scr; omega))
          · rw [if_neg (by omega), if_pos z] at hK
            exact c_rts c ww hi hn8 hK
          · rw [if_neg (by omega), if_neg (by omega), if_pos z] at hK
            exact c_lts c ww hT hi hr hn8 hK
          · rw [if_neg z0, if_neg z1, if_neg z2] at hK
            have hx4 : 4 ≤ x := by omega
            rw [show nI x / 4 - nI 1 = nI (x / 4 - 1) from e4 hx4]
            refine c_cts c ww hT hi hr (by omega) hn8 fun u1 q1 c1 => ?_
            have h := hK u1 q1 c1
            have hb := bits_lt 13 (ctsB w i r (x / 4 - 1))
            rw [em, nI_eq (by omega) (by omega)]
            refine ⟨fun y => ?_, fun y => ?_⟩
            · rw [if_pos (by omega)] at h
              exact c_lb (Nat.lt_trans hb (by decide)) h
            · rw [if_neg (by omega)] at h
              exact c_bc hb h
        · have hn8 : 8 < w.2.2.2.2.1 i := Nat.lt_of_not_le fun g => q1 (nI_le (b := 8) g (by omega))
          rw [if_pos hn8] at hK
          exact hK u same.rfl c
      · rw [if_pos (jb_n0.mp q)] at hK
        exact hK u same.rfl c
    refine ⟨fun q => absurd o1 (jb_0.mp q), fun _ => ⟨fun q => absurd o2 (jb_0.mp q), fun _ => ⟨fun _ => ⟨fun q => mid fun g => ?_, fun q => ⟨fun q2 => mid fun g => ?_, fun q2 => ?_⟩⟩, fun q => absurd o3 (jb_0.mp q)⟩⟩⟩
    · rw [show (4 : Int32) = nI 4 from rfl] at q
      rw [i32_lt (by omega), nI_toInt hx] at q
      omega
    · have := jb_n0.mp q2
      rw [e4 g.1, nI_toInt (by omega)] at this
      omega
    · have g : 4 ≤ x := by
        rw [show (4 : Int32) = nI 4 from rfl, i32_lt (by omega), nI_toInt hx] at q
        omega
      have q3 := jb_0.mp q2
      rw [e4 g, nI_toInt (by omega)] at q3
      rw [if_pos ⟨g, by omega⟩] at hK
      exact hK u same.rfl c
  · have hB : K (-2) u := by
      have := hK u same.rfl c
      rwa [if_neg ok] at this
    by_cases o1 : rg a1 0 3
    · refine ⟨fun _ => hB, fun _ => ?_⟩
      by_cases o2 : rg a2 0 7
      · exact ⟨fun _ => hB, fun _ => ⟨fun q => absurd ⟨o1, o2, jb_n0.mp q⟩ ok, fun _ => hB⟩⟩
      · exact ⟨fun _ => hB, fun q => absurd (jb_n0.mp q) o2⟩
    · exact ⟨fun _ => hB, fun q => absurd (jb_n0.mp q) o1⟩
