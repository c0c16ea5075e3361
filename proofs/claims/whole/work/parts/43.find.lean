/-! Routes.find -/
noncomputable def DS (s : St) (r a : Nat) : Nat → Nat := dD (Ew s r a) r
noncomputable def HS (s : St) (r a : Nat) : Nat → Nat := hD (Ew s r a) r
noncomputable def acA (s : St) (r : Nat) : Nat := if (arS s r).testBit 0 = true ∧ arS s r ≠ 1 then 1 else arS s r
/-- a router's route: cost, first hop, area, teller; -1 is none -/
noncomputable def rtC (s : St) (r d : Nat) : Int32 × Int32 × Int32 × Int32 :=
  if d = r then (0, -1, -1, -1)
  else if (fiP (arS s r) (DS s r) d 3).2 < 3 then (nI (fiP (arS s r) (DS s r) d 3).1, hpI (HS s r (fiP (arS s r) (DS s r) d 3).2 d), nI (fiP (arS s r) (DS s r) d 3).2, -1)
  else if (fcP s (acA s r) (DS s r) r d 3).2.1 < 3 then (nI (fcP s (acA s r) (DS s r) r d 3).1, hpI (HS s r (fcP s (acA s r) (DS s r) r d 3).2.1 (fcP s (acA s r) (DS s r) r d 3).2.2), nI (fcP s (acA s r) (DS s r) r d 3).2.1, nI (fcP s (acA s r) (DS s r) r d 3).2.2)
  else (-1, -1, -1, -1)
def inR : Nat → Prop := fun b => 110 ≤ b ∧ b ≤ 126
def RC (s : St) (r d : Nat) (u : JM) : Prop := u 110 d = (rtC s r d).1 ∧ u 111 d = (rtC s r d).2.1 ∧ u 112 d = (rtC s r d).2.2.1 ∧ u 113 d = (rtC s r d).2.2.2
theorem find_paths {E : JE} {u0 : JM} {K : JM → Prop} {N : Nat} (hN : isNet N) {s : St} (cL : CL N s u0) (cK : CK N s u0) (wL : WL s) (wK : WK s) {r : Nat} (hr : r < 8)
    (hE : ∀ u, same u0 u inR → (∀ a, a < 3 → (arS s r).testBit a = true → PT (115 + 4 * a) (DS s r a) (HS s r a) u) → JVu E 4 YX4_find K 50 [some (.ref 109), some (.ref N), some (.int (nI r)), some (.int (nI (arS s r))), some (.int 0)] [] u) :
    ∀ (m k : Nat) (u : JM), m + k = 3 → same u0 u inR → (∀ a, a < k → (arS s r).testBit a = true → PT (115 + 4 * a) (DS s r a) (HS s r a) u) → JVu E 4 YX4_find K 12 [some (.ref 109), some (.ref N), some (.int (nI r)), some (.int (nI (arS s r))), some (.int (nI k))] [] u := by
  have hNb : N ≤ 73 := by unfold isNet at hN; omega
  have hA := arS_lt s r
  intro m
  induction m with
  | zero =>
    intro k u hm hs hT
    obtain rfl : k = 3 := by omega
    exact g_X4_find_12 hN ⟨fun _ => hE u hs hT, fun c => absurd (show (3 : Int32) ≤ nI 3 by decide) c⟩
  | succ m ih =>
    intro k u hm hs hT
    have hk : k < 3 := by omega
    refine g_X4_find_12 hN ⟨fun c => absurd c (nI_ge (a := k) (b := 3) (by omega) (by omega)), fun _ => ?_⟩
    rw [nI_tst (by omega) (by omega), nI_1, nI_cl (show k < 2147483648 by omega)]
    refine ⟨fun c => ih (k + 1) u (by omega) hs fun a ha ht => ?_, fun c => ⟨vpI hk (by omega), ?_⟩⟩
    · rcases Nat.lt_or_ge a k with q | q
      · exact hT a q ht
      · obtain rfl : a = k := by omega
        rw [c] at ht; exact absurd ht (by decide)
    · refine c_X3_measure (isPaths_R hk) hN (cL.congr fun j _ _ => hs _ (by unfold inR; omega)) (cK.congr fun j _ _ => hs _ (by unfold inR; omega)) wL wK hr hk fun u' q1 q2 => ?_
      refine ih (k + 1) u' (by omega) (hs.trans (q1.mono fun b q => by unfold inP at q; unfold inR; omega)) fun a ha ht => ?_
      rcases Nat.lt_or_ge a k with q | q
      · intro y hy
        rw [q1 _ (by unfold inP; omega), q1 _ (by unfold inP; omega)]
        exact hT a q ht y hy
      · obtain rfl : a = k := by omega
        exact q2
