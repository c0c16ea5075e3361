/-! Routes.find -/
noncomputable def DS (s : St) (r a : Nat) : Nat → Nat := dD (Ew s r a) r
noncomputable def HS (s : St) (r a : Nat) : Nat → Nat := hD (Ew s r a) r
noncomputable def acA (s : St) (r : Nat) : Nat := if (arS s r).testBit 0 = true ∧ arS s r ≠ 1 then 1 else arS s r
/-- a router's route: cost, first hop, area, teller; -1 is none -/
noncomputable def rtC (s : St) (r d : Nat) : Int32 × Int32 × Int32 × Int32 :=
  if d = r then (0, -1, -1, -1)
  else if (fiP (arS s r) (DS s r) d 3).2 < 3 then (nI (fiP (arS s r) (DS s r) d 3).1, hpI (HS s r (fiP (arS s r) (DS s r) d 3).2 d), nI (fiP (arS s r) (DS s r) d 3).2, -1)
  else if (fcP s (acA s r) (DS s r) r d 3).2.1 < 3 then (nI (fcP s (acA s r) (DS s r) r d 3).1, hpI (HS s r (fcP s (acA s r) (DS s r) r d 3).2.1 (fcP s (acA s r) (DS s r) r d 3).2.2), nI (fcP s (acA s r) (DS s r) r d 3).2.1, nI (fcP s (acA s r) (DS s r) r d 3).2.2)
  else (-1, -1, -1, -1)
def inR : Nat → Prop := fun b => 110 ≤ b ∧ b ≤ 126
def RC (s : St) (r d : Nat) (u : JM) : Prop := u 110 d = (rtC s r d).1 ∧ u 111 d = (rtC s r d).2.1 ∧ u 112 d = (rtC s r d).2.2.1 ∧ u 113 d = (rtC s r d).2.2.2
