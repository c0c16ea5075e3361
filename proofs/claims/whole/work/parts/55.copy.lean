/-! copy -/
def shC (h : Sh) (i a o b n : Nat) : Sh := (h.1, h.2.1, fun i' j => if i' = o ∧ b ≤ j ∧ j < b + n then h.2.2 i (a + (j - b)) else h.2.2 i' j)
abbrev hdS (n : Nat) (a m : Int32) : Prop := 0 ≤ a.toInt ∧ 0 ≤ m.toInt ∧ m.toInt ≤ n ∧ a.toInt ≤ n - m.toInt
def anCopy (h : Sh) (a1 a2 a3 a4 a5 : Int32) : Int32 := if rg a1 0 3 ∧ rg a3 0 3 then (if h.1 a1.toNatClampNeg = -1 ∨ h.1 a3.toNatClampNeg = -1 then -11 else if ¬ h.1 a1.toNatClampNeg = h.1 a3.toNatClampNeg then -13
    else if hdS (h.2.1 a1.toNatClampNeg) a2 a5 ∧ hdS (h.2.1 a3.toNatClampNeg) a4 a5 then a5 else -12) else -2
def nxCopy (h : Sh) (a1 a2 a3 a4 a5 : Int32) : Sh := if rg a1 0 3 ∧ rg a3 0 3 then (if h.1 a1.toNatClampNeg = -1 ∨ h.1 a3.toNatClampNeg = -1 then h else if ¬ h.1 a1.toNatClampNeg = h.1 a3.toNatClampNeg then h
    else if hdS (h.2.1 a1.toNatClampNeg) a2 a5 ∧ hdS (h.2.1 a3.toNatClampNeg) a4 a5 then shC h a1.toNatClampNeg a2.toNatClampNeg a3.toNatClampNeg a4.toNatClampNeg a5.toNatClampNeg else h) else h
theorem hdS_nI {n : Nat} {a m : Int32} (hn : n ≤ 40) : (¬ a < 0 ∧ ¬ m < 0 ∧ ¬ nI n < m ∧ ¬ (nI n - m) < a) ↔ hdS n a m := by
  unfold hdS
  rw [i32_n, i32_n]
  have e1 : ¬ nI n < m ↔ m.toInt ≤ n := by rw [Int32.lt_iff_toInt_lt, nI_toInt (by omega)]; omega
  rw [e1]
  by_cases c : 0 ≤ m.toInt ∧ m.toInt ≤ n
  · obtain ⟨k, hk, rfl⟩ := rg_nI (a := m) (hi := n) (by omega) c
    rw [nI_sub hk, Int32.lt_iff_toInt_lt, nI_toInt (by omega), nI_toInt (by omega)]
    omega
  · constructor
    · intro q; exact absurd ⟨q.2.1, q.2.2.1⟩ c
    · intro q; exact absurd ⟨q.2.1, q.2.2.1⟩ c
theorem hdS_ex {n : Nat} {a m : Int32} (hn : n ≤ 40) (h : hdS n a m) : ∃ j k, a = nI j ∧ m = nI k ∧ j + k ≤ n := by
  obtain ⟨h1, h2, h3, h4⟩ := h
  obtain ⟨k, hk, rfl⟩ := rg_nI (a := m) (hi := n) (by omega) ⟨h2, h3⟩
  rw [nI_toInt (by omega)] at h4
  obtain ⟨j, hj, rfl⟩ := rg_nI (a := a) (hi := n) (by omega) ⟨h1, by omega⟩
  rw [nI_toInt (by omega)] at h4
  exact ⟨j, k, rfl, rfl, by omega⟩
theorem c_X7_copy {E : JE} {u : JM} {K : Int32 → JM → Prop}  {a1 a2 a3 a4 a5 : Int32} {w : Wd} (c : CW w u) (wS : WS w.2.2.2)
    (hK : ∀ u', same u u' inC → CW (w.1, w.2.1, w.2.2.1, nxCopy w.2.2.2 a1 a2 a3 a4 a5) u' → K (anCopy w.2.2.2 a1 a2 a3 a4 a5) u') : JCi E 2 YX7_copy [.ref 0, .int a1, .int a2, .int a3, .int a4, .int a5] K u := by
  refine JCi.ofV (ls := [some (.ref 0), some (.int a1), some (.int a2), some (.int a3), some (.int a4), some (.int a5)]) (by decide +kernel) (Nat.le_of_ble_eq_true rfl) rfl rfl (g_X7_copy_0  ?_)
  unfold anCopy nxCopy at hK
  by_cases ok : rg a1 0 3 ∧ rg a3 0 3
  · rw [if_pos ok, if_pos ok] at hK
    obtain ⟨o1, o2⟩ := ok
    refine ⟨fun q => absurd o1 (jb_0.mp q), fun _ => ⟨fun _ => ?_, fun q => absurd o2 (jb_0.mp q)⟩⟩
    obtain ⟨i, hi, rfl⟩ := sh_nI o1
    obtain ⟨o, ho, rfl⟩ := sh_nI o2
    rw [nI_cl (show i < 2147483648 by omega), nI_cl (show o < 2147483648 by omega)] at hK
    obtain ⟨s1, s2, s3⟩ := c.2.2.2.2.2 i hi
    obtain ⟨t1, t2, t3⟩ := c.2.2.2.2.2 o ho
    have hw := (wS i hi).2
    have hv := (wS o ho).2
    rw [nI_cl (show i < 2147483648 by omega), nI_cl (show o < 2147483648 by omega), s1, s2, t1, t2]
    simp only [jb_0, Classical.not_not, hdS_nI hw, hdS_nI hv]
    refine ⟨vpI hi (by omega), fun q => ?_, fun q => ⟨vpI ho (by omega), fun q2 => ⟨fun q3 => ⟨fun q4 => ?_, fun q4 => ⟨fun q5 => ?_, fun q5 => ?_⟩⟩, fun q3 => ?_⟩, fun q2 => ?_⟩⟩
    · rw [if_pos (Or.inl q), if_pos (Or.inl q)] at hK
      exact hK u same.rfl c
    · rw [if_neg (not_or.mpr ⟨q, q2⟩), if_neg (not_or.mpr ⟨q, q2⟩), if_neg (Classical.not_not.mpr q3), if_neg (Classical.not_not.mpr q3), if_neg (fun g => q4 g.1), if_neg (fun g => q4 g.1)] at hK
      exact hK u same.rfl c
    · rw [if_neg (not_or.mpr ⟨q, q2⟩), if_neg (not_or.mpr ⟨q, q2⟩), if_neg (Classical.not_not.mpr q3), if_neg (Classical.not_not.mpr q3), if_pos ⟨q4, q5⟩, if_pos ⟨q4, q5⟩] at hK
      obtain ⟨a, n, rfl, rfl, an⟩ := hdS_ex hw q4
      obtain ⟨b, n', rfl, e, bn⟩ := hdS_ex hv q5
      obtain rfl : n' = n := nI_inj (by omega) (by omega) e.symm
      rw [nI_cl (show a < 2147483648 by omega), nI_cl (show b < 2147483648 by omega), nI_cl (show n' < 2147483648 by omega)] at hK ⊢
      refine ⟨⟨nI_nn (by omega), nI_nn (by omega), nI_nn (by omega), by omega, by omega⟩, fun u1 h1 => ?_⟩
      have e1 : ∀ b', b' ≠ 133 + o → u1 b' = u b' := fun b' hb => by rw [h1, jcp_ne hb]
      refine hK u1 (fun b' hb => e1 b' (by unfold inC at hb; omega)) (c.shs (fun b' hb => e1 b' (by omega)) fun i' hi' => ?_)
      obtain ⟨x1, x2, x3⟩ := c.2.2.2.2.2 i' hi'
      rw [e1 130 (by omega), e1 131 (by omega)]
      refine ⟨x1, x2, fun j hj => ?_⟩
      show _ = if i' = o ∧ b ≤ j ∧ j < b + n' then w.2.2.2.2.2 i (a + (j - b)) else w.2.2.2.2.2 i' j
      by_cases q6 : i' = o
      · subst q6
        rw [h1, jcp_at]
        by_cases q7 : b ≤ j ∧ j < b + n'
        · rw [if_pos q7, if_pos ⟨rfl, q7⟩]
          exact s3 _ (by omega)
        · rw [if_neg q7, if_neg (fun g => q7 g.2)]
          exact x3 j hj
      · rw [e1 _ (by omega), if_neg (fun g => q6 g.1)]
        exact x3 j hj
    · rw [if_neg (not_or.mpr ⟨q, q2⟩), if_neg (not_or.mpr ⟨q, q2⟩), if_neg (Classical.not_not.mpr q3), if_neg (Classical.not_not.mpr q3), if_neg (fun g => q5 g.2), if_neg (fun g => q5 g.2)] at hK
      exact hK u same.rfl c
    · rw [if_neg (not_or.mpr ⟨q, q2⟩), if_neg (not_or.mpr ⟨q, q2⟩), if_pos q3, if_pos q3] at hK
      exact hK u same.rfl c
    · rw [if_pos (Or.inr q2), if_pos (Or.inr q2)] at hK
      exact hK u same.rfl c
  · have hB : K (-2) u := by
      have := hK u same.rfl (by rw [if_neg ok]; exact c)
      rwa [if_neg ok] at this
    by_cases o1 : rg a1 0 3
    · exact ⟨fun _ => hB, fun _ => ⟨fun q => absurd ⟨o1, jb_n0.mp q⟩ ok, fun _ => hB⟩⟩
    · exact ⟨fun _ => hB, fun q => absurd (jb_n0.mp q) o1⟩
