/-! Trip.go -/
theorem rtC_ok (s : St) (r d : Nat) : (rtC s r d).2.1 = -1 ∨ ∃ h a, h < 8 ∧ a < 3 ∧ (rtC s r d).2.1 = nI h ∧ (rtC s r d).2.2.1 = nI a := by
  have hh : ∀ h, hpI h = -1 ∨ (h < 8 ∧ hpI h = nI h) := fun h => by
    by_cases c : h < 8
    · exact Or.inr ⟨c, hpI_lt c⟩
    · exact Or.inl (if_neg c)
  unfold rtC
  by_cases c1 : d = r
  · rw [if_pos c1]; exact Or.inl rfl
  · rw [if_neg c1]
    by_cases c2 : (fiP (arS s r) (DS s r) d 3).2 < 3
    · rw [if_pos c2]
      rcases hh (HS s r (fiP (arS s r) (DS s r) d 3).2 d) with q | ⟨q1, q2⟩
      · exact Or.inl q
      · exact Or.inr ⟨_, _, q1, c2, q2, rfl⟩
    · rw [if_neg c2]
      by_cases c3 : (fcP s (acA s r) (DS s r) r d 3).2.1 < 3
      · rw [if_pos c3]
        rcases hh (HS s r (fcP s (acA s r) (DS s r) r d 3).2.1 (fcP s (acA s r) (DS s r) r d 3).2.2) with q | ⟨q1, q2⟩
        · exact Or.inl q
        · exact Or.inr ⟨_, _, q1, c3, q2, rfl⟩
      · rw [if_neg c3]; exact Or.inl rfl
noncomputable def hpN (s : St) (r d : Nat) : Nat := ((rtC s r d).2.1).toNatClampNeg
noncomputable def aaN (s : St) (r d : Nat) : Nat := ((rtC s r d).2.2.1).toNatClampNeg
/-- the link that a packet for d takes from r; 12: none -/
noncomputable def lnN (s : St) (r d : Nat) : Nat := if (rtC s r d).2.1 = -1 then 12 else chS s r (hpN s r d) (aaN s r d) (s 0 0)
/-- on from a router, k hops behind: how it ends, hops, cost, who was behind each hop -/
noncomputable def trS (s : St) (to : Nat) : Nat → Nat → Nat → Nat → (Nat → Int32) → Nat × Nat × Nat × (Nat → Int32)
  | 0, at_, k, c, p => (if at_ = to then 1 else 2, k, c, p)
  | m + 1, at_, k, c, p => if at_ = to then (1, k, c, p) else if lnN s at_ to = 12 then (0, k, c, p) else
      trS s to m (hpN s at_ to) (k + 1) (c + prc s (lnN s at_ to) at_) (fun j => if j = k then nI (hpN s at_ to) else p j)
def inT : Nat → Prop := fun b => b = 127 ∨ b = 128 ∨ inR b
def TC (r : Nat × Nat × Nat × (Nat → Int32)) (u : JM) : Prop := u 127 0 = nI r.1 ∧ u 127 1 = nI r.2.1 ∧ u 127 2 = nI r.2.2.1 ∧ ∀ j, j < 9 → u 128 j = r.2.2.2 j
theorem c_X6_go {E : JE} {u0 : JM} {K : JM → Prop} {N : Nat} (hN : isNet N) {s : St} (cL : CL N s u0) (cK : CK N s u0) (wL : WL s) (wK : WK s) {fr to : Nat} (hf : fr < 8) (ht : to < 8)
    (hK : ∀ u, same u0 u inT → TC (trS s to 9 fr 0 0 (fun _ => -1)) u → K u) : JCu E 5 YX6_go [.ref 127, .ref N, .ref 109, .int (nI fr), .int (nI to)] K u0 := by
  have hNb : N ≤ 73 := by unfold isNet at hN; omega
  have h12 := wL.1
  refine JCu.ofV (ls := [some (.ref 127), some (.ref N), some (.ref 109), some (.int (nI fr)), some (.int (nI to)), none, none, none, none]) (by decide +kernel) (Nat.le_of_ble_eq_true rfl) rfl rfl (g_X6_go_0 hN ?_)
  intro u1 h1 u2 h2 u3 h3
  refine c_fill kd_c_128 (lt_c 128 rfl) (by decide) fun u4 q4 f4 => ?_
  have main : ∀ (m at_ k c : Nat) (p : Nat → Int32) (u : JM), m + k = 9 → at_ < 8 → same u0 u inT → u 127 0 = 0 → u 127 1 = nI k → u 127 2 = nI c → (∀ j, j < 9 → u 128 j = p j) →
      (∀ u', same u0 u' inT → TC (trS s to m at_ k c p) u' → K u') → JVu E 5 YX6_go K 29 [some (.ref 127), some (.ref N), some (.ref 109), some (.int (nI fr)), some (.int (nI to)), some (.int (nI at_)), some (.int (nI k)), none, none] [] u := by
    intro m
    induction m with
    | zero =>
      intro at_ k c p u hm ha hs e0 e1 e2 e3 hK
      obtain rfl : k = 9 := by omega
      refine g_X6_go_29 hN ⟨fun _ => ?_, fun c => absurd (show (9 : Int32) ≤ nI 9 by decide) c⟩
      intro v hv u5 h5
      refine hK u5 (by rw [h5]; exact hs.jw (Or.inl rfl)) ⟨?_, ?_, ?_, fun j hj => ?_⟩
      · rw [h5, jw_at, if_pos rfl, hv]
        show _ = nI (if at_ = to then 1 else 2)
        by_cases q : at_ = to
        · rw [if_pos (by rw [q]), if_pos q]; rfl
        · rw [if_neg (fun g => q (nI_inj (by omega) (by omega) g)), if_neg q]; rfl
      · rw [h5, jw_at, if_neg (by decide)]; exact e1
      · rw [h5, jw_at, if_neg (by decide)]; exact e2
      · rw [h5, jw_ne (by decide)]; exact e3 j hj
    | succ m ih =>
      intro at_ k c p u hm ha hs e0 e1 e2 e3 hK
      refine g_X6_go_29 hN ⟨fun c => absurd c (nI_ge (a := k) (b := 9) (by omega) (by omega)), fun _ => ⟨fun c1 => ?_, fun c1 => ?_⟩⟩
      · have c1' : at_ = to := nI_inj (by omega) (by omega) c1
        intro v hv u5 h5
        have et : trS s to (m + 1) at_ k c p = (1, k, c, p) := by
          show (if at_ = to then _ else _) = _
          rw [if_pos c1']
        rw [et] at hK
        refine hK u5 (by rw [h5]; exact hs.jw (Or.inl rfl)) ⟨?_, ?_, ?_, fun j hj => ?_⟩
        · rw [h5, jw_at, if_pos rfl, hv, if_pos c1]; rfl
        · rw [h5, jw_at, if_neg (by decide)]; exact e1
        · rw [h5, jw_at, if_neg (by decide)]; exact e2
        · rw [h5, jw_ne (by decide)]; exact e3 j hj
      · have c1' : ¬ at_ = to := fun q => c1 (by rw [q])
        have lost : lnN s at_ to = 12 → ∀ u', same u u' inR → K u' := by
          intro hl u' q
          have et : trS s to (m + 1) at_ k c p = (0, k, c, p) := by
            show (if at_ = to then _ else if _ then _ else _) = _
            rw [if_neg c1', if_pos hl]
          rw [et] at hK
          refine hK u' (hs.trans (q.mono fun b g => Or.inr (Or.inr g))) ⟨?_, ?_, ?_, fun j hj => ?_⟩
          · rw [q 127 (by unfold inR; omega)]; exact e0
          · rw [q 127 (by unfold inR; omega)]; exact e1
          · rw [q 127 (by unfold inR; omega)]; exact e2
          · rw [q 128 (by unfold inR; omega)]; exact e3 j hj
        refine c_X4_find hN (cL.congr fun j _ _ => hs _ (by unfold inT inR; omega)) (cK.congr fun j _ _ => hs _ (by unfold inT inR; omega)) wL wK ha fun u5 q5 r5 => ?_
        have cL5 : CL N s u5 := cL.congr fun j _ _ => by rw [q5 _ (by unfold inR; omega)]; exact hs _ (by unfold inT inR; omega)
        obtain ⟨-, r2, r3, -⟩ := r5 to ht
        rw [nI_cl (show to < 2147483648 by omega)]
        refine ⟨vpI ht (by omega), ?_⟩
        intro i7 e7
        rw [r2] at e7
        rw [r3]
        subst e7
        refine ⟨fun c2 => ?_, fun c2 => lost (by unfold lnN; rw [if_pos c2]) u5 q5⟩
        rcases rtC_ok s at_ to with g | ⟨h, a, g1, g2, g3, g4⟩
        · exact absurd g c2
        have eh : hpN s at_ to = h := by unfold hpN; rw [g3, nI_cl (by omega)]
        have ea : aaN s at_ to = a := by unfold aaN; rw [g4, nI_cl (by omega)]
        have el : lnN s at_ to = chS s at_ h a (s 0 0) := by unfold lnN; rw [if_neg c2, eh, ea]
        rw [g3, g4]
        refine c_X1_cheapest hN cL5 wL ha g1 g2 ?_
        rw [← el]
        have hc : lnN s at_ to = 12 ∨ lnN s at_ to < s 0 0 := by rw [el]; exact chS_lt s at_ h a (s 0 0) h12
        refine ⟨fun c3 => ?_, fun c3 => lost ?_ u5 q5⟩
        · have c3' : lnN s at_ to < s 0 0 := hc.resolve_left fun q => c3 (by rw [q]; rfl)
          rw [lkI_lt (by omega), nI_cl (show lnN s at_ to < 2147483648 by omega), (prc_cell cL5 wL c3' ha).1, nI_cl (show k < 2147483648 by omega)]
          refine ⟨vpI (by omega) (by omega), fun u8 h8 => ⟨vpI (by omega) (by omega), fun u9 h9 u10 h10 => ?_⟩⟩
          have et : trS s to (m + 1) at_ k c p = trS s to m h (k + 1) (c + prc s (lnN s at_ to) at_) (fun j => if j = k then nI h else p j) := by
            show (if at_ = to then _ else if _ then _ else _) = _
            rw [if_neg c1', if_neg (by omega), eh]
          rw [et] at hK
          rw [nI_1] at h10 ⊢
          have s10 : same u5 u10 (fun b => b = 127 ∨ b = 128) := by
            rw [h10, h9, h8]
            exact ((same.rfl.jw (Or.inl rfl)).jw (Or.inr rfl)).jw (Or.inl rfl)
          refine ih h (k + 1) _ _ u10 (by omega) g1 ((hs.trans (q5.mono fun b g => Or.inr (Or.inr g))).trans (s10.mono fun b g => by unfold inT; omega)) ?_ ?_ ?_ (fun j hj => ?_) hK
          · rw [h10, jw_at, if_neg (by decide), h9, jw_ne (by decide), h8, jw_at, if_neg (by decide), q5 127 (by unfold inR; omega), e0]
          · rw [h10, jw_at, if_pos rfl]
          · rw [h10, jw_at, if_neg (by decide), h9, jw_ne (by decide), h8, jw_at, if_pos rfl, q5 127 (by unfold inR; omega), e2, nI_add]
          · rw [h10, jw_ne (by decide), h9, jw_at, h8, jw_ne (by decide), q5 128 (by unfold inR; omega), e3 j hj]
        · rcases hc with q | q
          · exact q
          · rw [lkI_lt (by omega)] at c3
            exact absurd c3 (m1_ne (by omega))
  refine main 9 fr 0 0 (fun _ => -1) u4 (by omega) hf ?_ ?_ ?_ ?_ (fun j hj => f4 j hj) hK
  · refine (?_ : same u0 u3 inT).trans (q4.mono fun b g => by unfold inT; omega)
    rw [h3, h2, h1]
    exact ((same.rfl.jw (Or.inl rfl)).jw (Or.inl rfl)).jw (Or.inl rfl)
  · rw [q4 127 (by decide), h3, jw_at, if_neg (by decide), h2, jw_at, if_neg (by decide), h1, jw_at, if_pos rfl]
  · rw [q4 127 (by decide), h3, jw_at, if_neg (by decide), h2, jw_at, if_pos rfl]; rfl
  · rw [q4 127 (by decide), h3, jw_at, if_pos rfl]; rfl
