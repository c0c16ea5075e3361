/-! Routes.find -/
noncomputable def DS (s : St) (r a : Nat) : Nat → Nat := dD (Ew s r a) r
noncomputable def HS (s : St) (r a : Nat) : Nat → Nat := hD (Ew s r a) r
noncomputable def acA (s : St) (r : Nat) : Nat := if (arS s r).testBit 0 = true ∧ arS s r ≠ 1 then 1 else arS s r
/-- a router's route: cost, first hop, area, teller; -1 is none -/
noncomputable def rtC (s : St) (r d : Nat) : Int32 × Int32 × Int32 × Int32 :=
  if d = r then (0, -1, -1, -1)
  else if (fiP (arS s r) (DS s r) d 3).2 < 3 then (nI (fiP (arS s r) (DS s r) d 3).1, hpI (HS s r (fiP (arS s r) (DS s r) d 3).2 d), nI (fiP (arS s r) (DS s r) d 3).2, -1)
  else if (fcP s (acA s r) (DS s r) r d 3).2.1 < 3 then (nI (fcP s (acA s r) (DS s r) r d 3).1, hpI (HS s r (fcP s (acA s r) (DS s r) r d 3).2.1 (fcP s (acA s r) (DS s r) r d 3).2.2), nI (fcP s (acA s r) (DS s r) r d 3).2.1, nI (fcP s (acA s r) (DS s r) r d 3).2.2)
  else (-1, -1, -1, -1)
def inR : Nat → Prop := fun b => 110 ≤ b ∧ b ≤ 126
def RC (s : St) (r d : Nat) (u : JM) : Prop := u 110 d = (rtC s r d).1 ∧ u 111 d = (rtC s r d).2.1 ∧ u 112 d = (rtC s r d).2.2.1 ∧ u 113 d = (rtC s r d).2.2.2
theorem fiP_congr {A d : Nat} {D D' : Nat → Nat → Nat} : ∀ n, (∀ k, k < n → D k = D' k) → fiP A D d n = fiP A D' d n
  | 0, _ => rfl
  | n + 1, h => by
    have ih := fiP_congr (A := A) (d := d) n fun k hk => h k (by omega)
    unfold fiP
    rw [ih, h n (by omega)]
theorem fcP_congr {s : St} {A r d : Nat} {D D' : Nat → Nat → Nat} : ∀ n, (∀ k, k < n → D k = D' k) → fcP s A D r d n = fcP s A D' r d n
  | 0, _ => rfl
  | n + 1, h => by
    have ih := fcP_congr (s := s) (A := A) (r := r) (d := d) n fun k hk => h k (by omega)
    unfold fcP
    rw [ih, h n (by omega)]
theorem find_paths {E : JE} {u0 : JM} {K : JM → Prop} {N : Nat} (hN : isNet N) {s : St} (cL : CL N s u0) (cK : CK N s u0) (wL : WL s) (wK : WK s) {r : Nat} (hr : r < 8)
    (hE : ∀ u, same u0 u inR → (∀ a, a < 3 → (arS s r).testBit a = true → PT (115 + 4 * a) (DS s r a) (HS s r a) u) → JVu E 4 YX4_find K 50 [some (.ref 109), some (.ref N), some (.int (nI r)), some (.int (nI (arS s r))), some (.int 0)] [] u) :
    ∀ (m k : Nat) (u : JM), m + k = 3 → same u0 u inR → (∀ a, a < k → (arS s r).testBit a = true → PT (115 + 4 * a) (DS s r a) (HS s r a) u) → JVu E 4 YX4_find K 12 [some (.ref 109), some (.ref N), some (.int (nI r)), some (.int (nI (arS s r))), some (.int (nI k))] [] u := by
  have hNb : N ≤ 73 := by unfold isNet at hN; omega
  have hA := arS_lt s r
  intro m
  induction m with
  | zero =>
    intro k u hm hs hT
    obtain rfl : k = 3 := by omega
    exact g_X4_find_12 hN ⟨fun _ => hE u hs hT, fun c => absurd (show (3 : Int32) ≤ nI 3 by decide) c⟩
  | succ m ih =>
    intro k u hm hs hT
    have hk : k < 3 := by omega
    refine g_X4_find_12 hN ⟨fun c => absurd c (nI_ge (a := k) (b := 3) (by omega) (by omega)), fun _ => ?_⟩
    rw [nI_tst (by omega) (by omega), nI_1, nI_cl (show k < 2147483648 by omega)]
    refine ⟨fun c => ih (k + 1) u (by omega) hs fun a ha ht => ?_, fun c => ⟨vpI hk (by omega), ?_⟩⟩
    · rcases Nat.lt_or_ge a k with q | q
      · exact hT a q ht
      · obtain rfl : a = k := by omega
        rw [c] at ht; exact absurd ht (by decide)
    · refine c_X3_measure (isPaths_R hk) hN (cL.congr fun j _ _ => hs _ (by unfold inR; omega)) (cK.congr fun j _ _ => hs _ (by unfold inR; omega)) wL wK hr hk fun u' q1 q2 => ?_
      refine ih (k + 1) u' (by omega) (hs.trans (q1.mono fun b q => by unfold inP at q; unfold inR; omega)) fun a ha ht => ?_
      rcases Nat.lt_or_ge a k with q | q
      · intro y hy
        rw [q1 _ (by unfold inP; omega), q1 _ (by unfold inP; omega)]
        exact hT a q ht y hy
      · obtain rfl : a = k := by omega
        exact q2
theorem c_X4_find {E : JE} {u0 : JM} {K : JM → Prop} {N : Nat} (hN : isNet N) {s : St} (cL : CL N s u0) (cK : CK N s u0) (wL : WL s) (wK : WK s) {r : Nat} (hr : r < 8)
    (hK : ∀ u, same u0 u inR → (∀ d, d < 8 → RC s r d u) → K u) : JCu E 4 YX4_find [.ref 109, .ref N, .int (nI r)] K u0 := by
  have hNb : N ≤ 73 := by unfold isNet at hN; omega
  have hA := arS_lt s r
  have hD : ∀ a, a < 3 → ∀ y, DS s r a y ≤ 9999 := fun a ha y => (dD_is (Ew_ok wL wK hr ha) r).2.1 y
  refine JCu.ofV (ls := [some (.ref 109), some (.ref N), some (.int (nI r)), none, none]) (by decide +kernel) (Nat.le_of_ble_eq_true rfl) rfl rfl (g_X4_find_0 hN ?_)
  refine c_X1_areasOf hN cL wL hr ?_
  refine find_paths hN cL cK wL wK hr (fun u1 s1 T1 => ?_) 3 0 u0 (by omega) same.rfl (fun a ha => absurd ha (Nat.not_lt_zero a))
  have main : ∀ (m d : Nat) (u : JM), m + d = 8 → same u0 u inR → (∀ a, a < 3 → (arS s r).testBit a = true → PT (115 + 4 * a) (DS s r a) (HS s r a) u) → (∀ j, j < d → RC s r j u) → JVu E 4 YX4_find K 50 [some (.ref 109), some (.ref N), some (.int (nI r)), some (.int (nI (arS s r))), some (.int (nI d))] [] u := by
    intro m
    induction m with
    | zero =>
      intro d u hm hs hT hR
      obtain rfl : d = 8 := by omega
      exact g_X4_find_50 hN ⟨fun _ => hK u hs hR, fun c => absurd (show (8 : Int32) ≤ nI 8 by decide) c⟩
    | succ m ih =>
      intro d u hm hs hT hR
      have hd : d < 8 := by omega
      -- on with the next destination
      have next : ∀ u', same u u' (fun b => b = 110 ∨ b = 111 ∨ b = 112 ∨ b = 113) → (∀ j, j ≠ d → u' 110 j = u 110 j ∧ u' 111 j = u 111 j ∧ u' 112 j = u 112 j ∧ u' 113 j = u 113 j) → RC s r d u' → JVu E 4 YX4_find K 50 [some (.ref 109), some (.ref N), some (.int (nI r)), some (.int (nI (arS s r))), some (.int (nI (d + 1)))] [] u' := by
        intro u' q1 q2 q3
        refine ih (d + 1) u' (by omega) (hs.trans (q1.mono fun b q => by unfold inR; omega)) (fun a ha ht y hy => ?_) fun j hj => ?_
        · rw [q1 _ (by omega), q1 _ (by omega)]
          exact hT a ha ht y hy
        · by_cases e : j = d
          · rw [e]; exact q3
          · obtain ⟨z1, z2, z3, z4⟩ := q2 j e
            unfold RC
            rw [z1, z2, z3, z4]
            exact hR j (by omega)
      refine g_X4_find_50 hN ⟨fun c => absurd c (nI_ge (a := d) (b := 8) (by omega) (by omega)), fun _ => ?_⟩
      rw [nI_1, nI_cl (show d < 2147483648 by omega)]
      intro v hv
      refine c_X4_take hd fun u2 s2 r0 r1 r2 => ⟨vpI hd (by omega), fun u3 h3 => ?_⟩
      have s3 : same u u3 (fun b => b = 110 ∨ b = 111 ∨ b = 112 ∨ b = 113) := by
        rw [h3]
        exact (s2.mono fun b q => by omega).jw (by omega)
      have a0 : ∀ j, u3 110 j = if j = d then v else u 110 j := fun j => by rw [h3, jw_ne (by omega)]; exact r0 j
      have a1 : ∀ j, u3 111 j = if j = d then -1 else u 111 j := fun j => by rw [h3, jw_ne (by omega)]; exact r1 j
      have a2 : ∀ j, u3 112 j = if j = d then -1 else u 112 j := fun j => by rw [h3, jw_ne (by omega)]; exact r2 j
      have a3 : ∀ j, u3 113 j = if j = d then -1 else u 113 j := fun j => by rw [h3, jw_at, s2 113 (by omega)]
      refine ⟨fun c => ?_, fun c => ?_⟩
      · have c' : d = r := nI_inj (by omega) (by omega) c
        rw [if_pos c] at hv
        refine next u3 s3 (fun j hj => ?_) ?_
        · rw [a0, a1, a2, a3, if_neg hj, if_neg hj, if_neg hj, if_neg hj]
          exact ⟨rfl, rfl, rfl, rfl⟩
        · unfold RC rtC
          rw [a0, a1, a2, a3, if_pos rfl, if_pos rfl, if_pos rfl, if_pos rfl, if_pos c', hv]
          exact ⟨rfl, rfl, rfl, rfl⟩
      · have c' : ¬ d = r := fun q => c (by rw [q])
        rw [if_neg c] at hv
        have T3 : ∀ a, a < 3 → (arS s r).testBit a = true → PT (115 + 4 * a) (DS s r a) (HS s r a) u3 := fun a ha ht y hy => by
          rw [s3 _ (by omega), s3 _ (by omega)]
          exact hT a ha ht y hy
        refine c_X4_findInside (D := fun a => if a < 3 then DS s r a else fun _ => 0) (H := HS s r) hA hd (fun a ha ht => by rw [if_pos ha]; exact T3 a ha ht) (fun a y => by
          by_cases q : a < 3
          · rw [if_pos q]; exact hD a q y
          · rw [if_neg q]; omega) fun u4 hF => ?_
        have eI : fiP (arS s r) (fun a => if a < 3 then DS s r a else fun _ => 0) d 3 = fiP (arS s r) (DS s r) d 3 := fiP_congr 3 fun k hk => by rw [if_pos hk]
        unfold FI at hF
        rw [eI] at hF
        obtain ⟨f0, f1, f2, f3⟩ := hF
        have s4 : same u u4 (fun b => b = 110 ∨ b = 111 ∨ b = 112 ∨ b = 113) := s3.trans (f0.mono fun b q => by omega)
        have o4 : ∀ j, j ≠ d → u4 110 j = u 110 j ∧ u4 111 j = u 111 j ∧ u4 112 j = u 112 j ∧ u4 113 j = u 113 j := fun j hj => by
          rw [f1, f2, f3, f0 113 (by omega), if_neg (fun q => hj q.1), if_neg (fun q => hj q.1), if_neg (fun q => hj q.1), a0, a1, a2, a3, if_neg hj, if_neg hj, if_neg hj, if_neg hj]
          exact ⟨rfl, rfl, rfl, rfl⟩
        have p1 := (fiP_ok (arS s r) (DS s r) d 0 (by omega)).1
        obtain ⟨b1, -⟩ := fiP_ok (arS s r) (DS s r) d 3 (Nat.le_refl 3)
        by_cases ca : (fiP (arS s r) (DS s r) d 3).2 < 3
        · have e0 : u4 110 d = nI (fiP (arS s r) (DS s r) d 3).1 := by rw [f1, if_pos ⟨rfl, ca⟩]
          rw [e0]
          refine ⟨fun _ => next u4 s4 o4 ?_, fun q => absurd q (m1_ne (by omega))⟩
          have er : rtC s r d = (nI (fiP (arS s r) (DS s r) d 3).1, hpI (HS s r (fiP (arS s r) (DS s r) d 3).2 d), nI (fiP (arS s r) (DS s r) d 3).2, -1) := by
            unfold rtC
            rw [if_neg c', if_pos ca]
          unfold RC
          rw [er]
          exact ⟨e0, by rw [f2, if_pos ⟨rfl, ca⟩], by rw [f3, if_pos ⟨rfl, ca⟩], by rw [f0 113 (by omega), a3, if_pos rfl]⟩
        · have n4 : u4 110 d = -1 ∧ u4 111 d = -1 ∧ u4 112 d = -1 ∧ u4 113 d = -1 := by
            rw [f1, f2, f3, f0 113 (by omega), if_neg (fun q => ca q.2), if_neg (fun q => ca q.2), if_neg (fun q => ca q.2), a0, a1, a2, a3, if_pos rfl, if_pos rfl, if_pos rfl, if_pos rfl]
            exact ⟨hv, rfl, rfl, rfl⟩
          rw [n4.1]
          refine ⟨fun q => absurd rfl q, fun _ => ?_⟩
          intro v5 h5
          have hb : (¬ nI (arS s r) &&& 1 = 0 ∧ ¬ nI (arS s r) = 1) ↔ ((arS s r).testBit 0 = true ∧ arS s r ≠ 1) := by
            generalize arS s r = A at hA
            have h : ((List.range 8).all fun A => decide ((¬ nI A &&& 1 = 0 ∧ ¬ nI A = 1) ↔ (A.testBit 0 = true ∧ A ≠ 1))) = true := by decide +kernel
            exact of_decide_eq_true (List.all_eq_true.mp h A (List.mem_range.mpr hA))
          have e5 : v5 = nI (acA s r) := by
            rw [h5]
            unfold acA
            by_cases q : (arS s r).testBit 0 = true ∧ arS s r ≠ 1
            · rw [jb_t (hb.mpr q), if_neg (by decide), if_pos q]; rfl
            · rw [jb_f (fun g => q (hb.mp g)), if_pos rfl, if_neg q]
          have hA' : acA s r < 8 := by unfold acA; split <;> omega
          have hsub : ∀ a, (acA s r).testBit a = true → a < 3 → (arS s r).testBit a = true := fun a ht ha => by
            unfold acA at ht
            split at ht
            · rename_i q
              rcases (show a = 0 ∨ a = 1 ∨ a = 2 by omega) with g | g | g
              · rw [g]; exact q.1
              · rw [g] at ht; exact absurd ht (by decide)
              · rw [g] at ht; exact absurd ht (by decide)
            · exact ht
          rw [e5]
          refine c_X4_findAcross (D := fun a => if a < 3 then DS s r a else fun _ => 0) (H := HS s r) hN (cK.congr fun j _ _ => by rw [s4 _ (by omega), hs _ (by unfold inR; omega)]) wK hA' hr hd (fun a ha ht y hy => by
            rw [if_pos ha, s4 _ (by omega), s4 _ (by omega)]; exact hT a ha (hsub a ht ha) y hy) (fun a y => by
            by_cases q : a < 3
            · rw [if_pos q]; exact hD a q y
            · rw [if_neg q]; omega) fun u6 hF6 => ?_
          have eC : fcP s (acA s r) (fun a => if a < 3 then DS s r a else fun _ => 0) r d 3 = fcP s (acA s r) (DS s r) r d 3 := fcP_congr 3 fun k hk => by rw [if_pos hk]
          unfold FC at hF6
          rw [eC] at hF6
          obtain ⟨g0, g1, g2, g3, g4⟩ := hF6
          refine next u6 (s4.trans g0) (fun j hj => ?_) ?_
          · rw [g1, g2, g3, g4, if_neg (fun q => hj q.1), if_neg (fun q => hj q.1), if_neg (fun q => hj q.1), if_neg (fun q => hj q.1)]
            exact o4 j hj
          · unfold RC
            by_cases cb : (fcP s (acA s r) (DS s r) r d 3).2.1 < 3
            · have er : rtC s r d = (nI (fcP s (acA s r) (DS s r) r d 3).1, hpI (HS s r (fcP s (acA s r) (DS s r) r d 3).2.1 (fcP s (acA s r) (DS s r) r d 3).2.2), nI (fcP s (acA s r) (DS s r) r d 3).2.1, nI (fcP s (acA s r) (DS s r) r d 3).2.2) := by
                unfold rtC
                rw [if_neg c', if_neg ca, if_pos cb]
              rw [er]
              exact ⟨by rw [g1, if_pos ⟨rfl, cb⟩], by rw [g2, if_pos ⟨rfl, cb⟩], by rw [g3, if_pos ⟨rfl, cb⟩], by rw [g4, if_pos ⟨rfl, cb⟩]⟩
            · have er : rtC s r d = (-1, -1, -1, -1) := by
                unfold rtC
                rw [if_neg c', if_neg ca, if_neg cb]
              rw [er, g1, g2, g3, g4, if_neg (fun q => cb q.2), if_neg (fun q => cb q.2), if_neg (fun q => cb q.2), if_neg (fun q => cb q.2)]
              exact n4
  exact main 8 0 u1 (by omega) s1 T1 (fun j hj => absurd hj (Nat.not_lt_zero j))
