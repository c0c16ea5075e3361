/-! what a sheet tells -/
def foF (it : Nat → Int32) (rt : Nat → Int32) : Nat → Nat → Int32
  | 0, _ => -1
  | m + 1, k => if it k = rt k then foF it rt m (k + 1) else nI k
noncomputable def fo (h : Sh) (s : St) (r i : Nat) : Int32 := foF (h.2.2 i) (fun d => (rtC s r d).1) (h.2.1 i) 0
theorem c_fo {E : JE} {u0 : JM} {K : Int32 → JM → Prop} {N : Nat} (hN : isNet N) {s : St} {h : Sh} (cL : CL N s u0) (cK : CK N s u0) (wL : WL s) (wK : WK s) (cS : CS h u0) {i r : Nat} (hi : i < 4) (hr : r < 8) (hn : h.2.1 i ≤ 8)
    (hK : ∀ u, same u0 u inR → K (fo h s r i) u) : JCi E 5 YX7_firstOtherwise [.ref 0, .ref N, .int (nI i), .int (nI r)] K u0 := by
  have ei : (nI i).toNatClampNeg = i := nI_cl (by omega)
  refine JCi.ofV (ls := [some (.ref 0), some (.ref N), some (.int (nI i)), some (.int (nI r)), none, none, none]) (by decide +kernel) (Nat.le_of_ble_eq_true rfl) rfl rfl (g_X7_firstOtherwise_0 hN ?_)
  refine c_X4_find hN cL cK wL wK hr fun u1 q1 t1 => ⟨vpI hi (by omega), fun v hv => ?_⟩
  have c1 : CS h u1 := cS.congr fun b b1 b2 => q1 b (by unfold inR; omega)
  obtain ⟨s1, s2, s3⟩ := c1 i hi
  rw [ei, s2, if_pos (show nI (h.2.1 i) ≤ 8 from nI_le (b := 8) hn (by omega))] at hv
  rw [hv]
  have hh := hK u1 q1
  have main : ∀ (m k : Nat), m + k = h.2.1 i → K (foF (h.2.2 i) (fun d => (rtC s r d).1) m k) u1 → JVi E 5 YX7_firstOtherwise K 39 [some (.ref 0), some (.ref N), some (.int (nI i)), some (.int (nI r)), some (.ref (133 + (nI i).toNatClampNeg)), some (.int (nI (h.2.1 i))), some (.int (nI k))] [] u1 := by
    intro m
    induction m with
    | zero =>
      intro k hm hk
      obtain rfl : k = h.2.1 i := by omega
      exact g_X7_firstOtherwise_39 hN (by rw [ei]; exact hi) ⟨fun _ => hk, fun q => absurd (nI_le (Nat.le_refl _) (by omega)) q⟩
    | succ m ih =>
      intro k hm hk
      have hk' : K (if h.2.2 i k = (rtC s r k).1 then foF (h.2.2 i) (fun d => (rtC s r d).1) m (k + 1) else nI k) u1 := hk
      refine g_X7_firstOtherwise_39 hN (by rw [ei]; exact hi) ⟨fun q => absurd q (nI_ge (by omega) (by omega)), fun _ => ⟨vpI (by omega) (by omega), vpI (by omega) (by omega), ?_⟩⟩
      rw [nI_1]
      have e1 : u1 (133 + (nI i).toNatClampNeg) (nI k).toNatClampNeg = h.2.2 i k := by rw [ei, nI_cl (by omega)]; exact s3 k (by omega)
      have e2 : u1 110 (nI k).toNatClampNeg = (rtC s r k).1 := by rw [nI_cl (by omega)]; exact (t1 k (by omega)).1
      rw [e1, e2]
      refine ⟨fun q => ?_, fun q => ?_⟩
      · rw [if_pos q] at hk'; exact ih (k + 1) (by omega) hk'
      · rw [if_neg q] at hk'; exact hk'
  exact main (h.2.1 i) 0 (by omega) hh
noncomputable def rtsB (w : Wd) (i r : Nat) : Bool := decide (fo w.2.2.2 w.1 r i = -1)
noncomputable def ltsB (w : Wd) (i r l : Nat) : Bool := decide (w.1 6 l = 1) && decide (fo w.2.2.2 (ticksS (set1 w.1 6 l 0) 40) r i = -1)
noncomputable def ctsB (w : Wd) (i r l c : Nat) : Bool := decide (1 ≤ c) && decide (fo w.2.2.2 (ticksS (set1 w.1 4 l c) 40) r i = -1)
theorem c_rts {E : JE} {u : JM} {K : Int32 → JM → Prop} {w : Wd} (c : CW w u) (ww : NW w.1) {i : Nat} (hi : i < 4) (hn : w.2.2.2.2.1 i ≤ 8)
    (hK : ∀ u', same u u' inC → CW w u' → K (nI (bits 8 (rtsB w i))) u') : JCi E 6 YX7_routersToldSo [.ref 0, .int (nI i)] K u := by
  refine JCi.ofV (ls := [some (.ref 0), some (.int (nI i)), none, none]) (by decide +kernel) (Nat.le_of_ble_eq_true rfl) rfl rfl (g_X7_routersToldSo_0 ?_)
  have main : ∀ (m k : Nat) (u' : JM), m + k = 8 → same u u' inC → CW w u' → JVi E 6 YX7_routersToldSo K 4 [some (.ref 0), some (.int (nI i)), some (.int (nI (bits k (rtsB w i)))), some (.int (nI k))] [] u' := by
    intro m
    induction m with
    | zero =>
      intro k u' hm hs hC
      obtain rfl : k = 8 := by omega
      exact g_X7_routersToldSo_4 ⟨fun _ => hK u' hs hC, fun c => absurd (show (8 : Int32) ≤ nI 8 by decide) c⟩
    | succ m ih =>
      intro k u' hm hs hC
      refine g_X7_routersToldSo_4 ⟨fun c => absurd c (nI_ge (a := k) (b := 8) (by omega) (by omega)), fun _ => ?_⟩
      refine c_fo isN1 hC.1.1 hC.1.2.1 ww.1 ww.2.1 hC.2.2.2.2.2 hi (by omega) hn fun u1 q1 v hv => ?_
      rw [nI_bits (by omega) _ (by unfold rtsB; simp)] at hv
      rw [hv, nI_1]
      exact ih (k + 1) u1 (by omega) (hs.trans (q1.mono fun b q => by unfold inR at q; unfold inC; omega)) (hC.sc (q1.mono fun b q => by unfold inR at q; unfold scr; omega))
  exact main 8 0 u (by omega) same.rfl c
theorem c_lts {E : JE} {u : JM} {K : Int32 → JM → Prop} {w : Wd} (c : CW w u) (ww : NW w.1) (hT : w.1 21 0 + 90 < 1000000000) {i r : Nat} (hi : i < 4) (hr : r < 8) (hn : w.2.2.2.2.1 i ≤ 8)
    (hK : ∀ u', same u u' inC → CW w u' → K (nI (bits (w.1 0 0) (ltsB w i r))) u') : JCi E 7 YX7_linksToldSo [.ref 0, .int (nI i), .int (nI r)] K u := by
  have h12 := ww.1.1
  refine JCi.ofV (ls := [some (.ref 0), some (.int (nI i)), some (.int (nI r)), none, none]) (by decide +kernel) (Nat.le_of_ble_eq_true rfl) rfl rfl (g_X7_linksToldSo_0 ?_)
  have main : ∀ (m k : Nat) (u' : JM), m + k = w.1 0 0 → same u u' inC → CW w u' → JVi E 7 YX7_linksToldSo K 5 [some (.ref 0), some (.int (nI i)), some (.int (nI r)), some (.int (nI (bits k (ltsB w i r)))), some (.int (nI k))] [] u' := by
    intro m
    induction m with
    | zero =>
      intro k u' hm hs hC
      obtain rfl : k = w.1 0 0 := by omega
      refine g_X7_linksToldSo_5 ⟨fun _ => hK u' hs hC, fun q => ?_⟩
      rw [show u' 2 0 = nI (w.1 0 0) from hC.1.1.1] at q
      exact absurd (nI_le (Nat.le_refl _) (by omega)) q
    | succ m ih =>
      intro k u' hm hs hC
      have hk : k < w.1 0 0 := by omega
      have h6 := (ww.1.2 k hk).2.2.2.2.2.2
      refine g_X7_linksToldSo_5 ⟨fun q => ?_, fun _ => ⟨vpI (by omega) (by omega), ?_⟩⟩
      · rw [show u' 2 0 = nI (w.1 0 0) from hC.1.1.1] at q
        exact absurd q (nI_ge hk (by omega))
      · rw [nI_cl (show k < 2147483648 by omega), show u' 8 k = nI (w.1 6 k) from (hC.1.1.2.1 k hk).2.2.2.2.2, nI_1]
        refine ⟨fun q => ?_, fun q => ?_⟩
        · have q' : w.1 6 k = 0 := nI_inj (by omega) (by omega) (q.trans (show (0 : Int32) = nI 0 from rfl))
          have e : bits (k + 1) (ltsB w i r) = bits k (ltsB w i r) := by rw [bits_suc, if_neg (by unfold ltsB; rw [q']; simp)]
          have := ih (k + 1) u' (by omega) hs hC
          rw [e] at this
          exact this
        · have q' : w.1 6 k = 1 := by
            rcases (show w.1 6 k = 0 ∨ w.1 6 k = 1 by omega) with g | g
            · rw [g] at q; exact absurd rfl q
            · exact g
          refine c_brk hC ww hk fun u1 q1 h1 => ?_
          have n1 : NW (set1 w.1 6 k 0) := set1_NW ww hk (Or.inr ⟨rfl, by omega⟩)
          have e21 : set1 w.1 6 k 0 21 0 = w.1 21 0 := by rw [set1_ne (by decide)]
          refine c_fty (hC.tht q1 h1 n1.2.2.2.1) h1 n1 (by rw [e21]; exact hT) fun u2 x q2 h2 n2 c2 => ?_
          refine c_fo isN37 h2.1 h2.2.1 n2.1 n2.2.1 c2.2.2.2.2.2 hi hr hn fun u3 q3 v hv => ?_
          rw [nI_bits (by omega) _ (by unfold ltsB; rw [q']; simp)] at hv
          rw [hv]
          exact ih (k + 1) u3 (by omega) (hs.trans ((q1.trans q2).mono (fun b q => by unfold inNet at q; unfold inC; omega) |>.trans (q3.mono fun b q => by unfold inR at q; unfold inC; omega))) (c2.sc (q3.mono fun b q => by unfold inR at q; unfold scr; omega))
  exact main (w.1 0 0) 0 u (by omega) same.rfl c
theorem c_cts {E : JE} {u : JM} {K : Int32 → JM → Prop} {w : Wd} (c : CW w u) (ww : NW w.1) (hT : w.1 21 0 + 90 < 1000000000) {i r l : Nat} (hi : i < 4) (hr : r < 8) (hl : l < w.1 0 0) (hn : w.2.2.2.2.1 i ≤ 8)
    (hK : ∀ u', same u u' inC → CW w u' → K (nI (bits 13 (ctsB w i r l))) u') : JCi E 7 YX7_costsToldSo [.ref 0, .int (nI i), .int (nI r), .int (nI l)] K u := by
  have h12 := ww.1.1
  refine JCi.ofV (ls := [some (.ref 0), some (.int (nI i)), some (.int (nI r)), some (.int (nI l)), none, none]) (by decide +kernel) (Nat.le_of_ble_eq_true rfl) rfl rfl (g_X7_costsToldSo_0 ?_)
  have main : ∀ (m k : Nat) (u' : JM), m + k = 13 → 1 ≤ k → same u u' inC → CW w u' → JVi E 7 YX7_costsToldSo K 6 [some (.ref 0), some (.int (nI i)), some (.int (nI r)), some (.int (nI l)), some (.int (nI (bits k (ctsB w i r l)))), some (.int (nI k))] [] u' := by
    intro m
    induction m with
    | zero =>
      intro k u' hm h1 hs hC
      obtain rfl : k = 13 := by omega
      exact g_X7_costsToldSo_6 ⟨fun _ => hK u' hs hC, fun q => absurd (show (12 : Int32) < nI 13 by decide) q⟩
    | succ m ih =>
      intro k u' hm hk hs hC
      have q0 : ¬ (12 : Int32) < nI k := by
        rw [Int32.lt_iff_toInt_lt, nI_toInt (by omega), show (12 : Int32).toInt = 12 from by decide]
        omega
      refine g_X7_costsToldSo_6 ⟨fun q => absurd q q0, fun _ => ?_⟩
      refine c_cst hC ww hl fun u1 q1 h1 => ?_
      have n1 : NW (set1 w.1 4 l k) := set1_NW ww hl (Or.inl ⟨Or.inl rfl, hk, by omega⟩)
      have e21 : set1 w.1 4 l k 21 0 = w.1 21 0 := by rw [set1_ne (by decide)]
      refine c_fty (hC.tht q1 h1 n1.2.2.2.1) h1 n1 (by rw [e21]; exact hT) fun u2 x q2 h2 n2 c2 => ?_
      refine c_fo isN37 h2.1 h2.2.1 n2.1 n2.2.1 c2.2.2.2.2.2 hi hr hn fun u3 q3 v hv => ?_
      rw [nI_bits (by omega) _ (by unfold ctsB; simp [hk])] at hv
      rw [hv, nI_1]
      exact ih (k + 1) u3 (by omega) (by omega) (hs.trans ((q1.trans q2).mono (fun b q => by unfold inNet at q; unfold inC; omega) |>.trans (q3.mono fun b q => by unfold inR at q; unfold inC; omega))) (c2.sc (q3.mono fun b q => by unfold inR at q; unfold scr; omega))
  have h := main 12 1 u (by omega) (by omega) same.rfl c
  have e : bits 1 (ctsB w i r l) = 0 := by rw [bits_suc, if_neg (by unfold ctsB; simp)]; rfl
  rw [e] at h
  exact h
/-- the least bit from k on -/
def lbF (b : Nat) : Nat → Nat → Int32
  | 0, _ => -1
  | m + 1, k => if b.testBit k = true then nI k else lbF b m (k + 1)
theorem c_lb {E : JE} {u : JM} {K : Int32 → JM → Prop} {b : Nat} (hb : b < 2 ^ 31) (hK : K (lbF b 13 0) u) : JCi E 1 YX7_leastBit [.int (nI b)] K u := by
  refine JCi.ofV (ls := [some (.int (nI b)), none]) (by decide +kernel) (Nat.le_of_ble_eq_true rfl) rfl rfl (g_X7_leastBit_0 ?_)
  have main : ∀ (m k : Nat), m + k = 13 → K (lbF b m k) u → JVi E 1 YX7_leastBit K 2 [some (.int (nI b)), some (.int (nI k))] [] u := by
    intro m
    induction m with
    | zero =>
      intro k hm hk
      obtain rfl : k = 13 := by omega
      exact g_X7_leastBit_2 ⟨fun _ => hk, fun q => absurd (show (12 : Int32) < nI 13 by decide) q⟩
    | succ m ih =>
      intro k hm hk
      have hk' : K (if b.testBit k = true then nI k else lbF b m (k + 1)) u := hk
      have q0 : ¬ (12 : Int32) < nI k := by
        rw [Int32.lt_iff_toInt_lt, nI_toInt (by omega), show (12 : Int32).toInt = 12 from by decide]
        omega
      refine g_X7_leastBit_2 ⟨fun q => absurd q q0, fun _ => ?_⟩
      rw [nI_tst hb (by omega), nI_1]
      refine ⟨fun q => ?_, fun q => ?_⟩
      · rw [if_neg (by rw [q]; simp)] at hk'; exact ih (k + 1) (by omega) hk'
      · rw [if_pos (by simpa using q)] at hk'; exact hk'
  exact main 13 0 (by omega) hK
