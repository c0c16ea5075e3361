/-! the same, by what is laid so far -/
theorem rg_all {n : Nat} {p : Nat → Prop} [∀ i, Decidable (p i)] (h : (List.range n).all (fun i => decide (p i)) = true) : ∀ i, i < n → p i := fun i hi => of_decide_eq_true (List.all_eq_true.mp h i (List.mem_range.mpr hi))
section JAr
variable {E : JE} {n0 nE d : Nat} {y : JY} {K : Option Value → JS → Prop} {pc n : Nat} {ls : List (Option Value)} {st : List Value} {ps : List (Nat × Nat)} {u : JM}
abbrev JVr (E : JE) (n0 nE d : Nat) (y : JY) (K : Option Value → JS → Prop) (pc : Nat) (ls : List (Option Value)) (st : List Value) (n : Nat) (ps : List (Nat × Nat)) (u : JM) : Prop := JV E n0 nE d y K pc ls st (n, RR n ps, u)
abbrev uz (n : Nat) (u : JM) : Prop := ∀ a, n ≤ a → ∀ k, u a k = 0
theorem uz.up {n m : Nat} {u : JM} (h : uz n u) (q : n ≤ m) : uz m u := fun a ha => h a (by omega)
theorem al_new {ci idx : Nat} {C : String} {T : u_T} {ty : Nat → FieldType} (hc : vwCl[ci]? = some (C, T, jnf ci)) (hin : ∀ w ∈ u_ws C T (jnf ci), w ∈ lw_gd) (hty : ∀ k, k < jnf ci → parseFieldDescriptor (T k).2.2.1 = some (ty k))
    (hcl : Cond.classLink y.1.cls idx C ∈ lw_gd ∧ Cond.instantiable C (jnf ci) ∈ lw_gd ∧ Cond.initialized C ∈ lw_gd) (hdv : ∀ k, k < jnf ci → defaultValue (ty k) = if jfr ci k = true then .null else .int 0)
    (hd : decode y.2.1 pc = .ok (.new idx, 3)) (hkd : jkd n = .inl ci) (h0 : n0 ≤ n) (h1 : n < nE) (hu : uz n u)
    (kk : JVr E n0 nE d y K (pc + 3) ls (.ref n :: st) (n + 1) ((n, 0) :: ps) u) : JVr E n0 nE d y K pc ls st n ps u :=
  jv_new (g := (n, RR n ps, u)) (r' := RR (n + 1) ((n, 0) :: ps)) hc hin hty hcl hdv hd hkd h0 h1 (hu n (Nat.le_refl n)) (fun k => by
    show (if n = n then (if k < 0 then jRF n k else none) else _) = none
    rw [if_pos rfl, if_neg (Nat.not_lt_zero k)]) (fun a ha => by
    funext k
    have ha' : a < n := ha
    show (if a = n then _ else RR (n + 1) ps a k) = RR n ps a k
    rw [if_neg (by omega), RR_lt (n := n + 1) (n' := n) (by omega) ha']) kk
theorem al_arr {atype : ArrayType} {ty : FieldType} {N : Nat} {z : Int32} (q : Nat) (hq : (jtys E)[q]? = some (E.2.2.2 ty, ty)) (hra : ∀ (U : State) (c : ClassId), va_RA U c ty → U.vm.findClass ("[" ++ ty.toString) = some c) (hat : newarray.typeOf atype = ty) (hr : jisR ty = false) (hdv : defaultValue ty = .int 0) (hcb : componentBytes ty ≤ 4)
    (harr : Cond.arrayClass ty ∈ lw_gd) (hd : decode y.2.1 pc = .ok (.newarray atype, 2)) (hkd : jkd n = .inr (ty, N)) (hzn : ¬ z < 0) (hzN : z.toNatClampNeg = N) (hN : N ≤ 100000) (h0 : n0 ≤ n) (h1 : n < nE) (hu : uz n u)
    (kk : JVr E n0 nE d y K (pc + 2) ls (.ref n :: st) (n + 1) ps u) : JVr E n0 nE d y K pc ls (.int z :: st) n ps u :=
  jv_newarr (g := (n, RR n ps, u)) (r' := RR (n + 1) ps) q hq hra hat hr hdv hcb harr hd hkd hzn hzN hN h0 h1 (hu n (Nat.le_refl n)) (fun a ha => by
    have ha' : a < n := ha
    exact RR_lt (n := n + 1) (n' := n) (by omega) ha') kk
theorem al_i {N : Nat} {z : Int32} (hd : decode y.2.1 pc = .ok (.newarray .int, 2)) (hkd : jkd n = .inr (.int, N)) (hz : (¬ z < 0 ∧ z.toNatClampNeg = N) ∧ N ≤ 100000 ∧ n0 ≤ n ∧ n < nE) (hu : uz n u)
    (kk : JVr E n0 nE d y K (pc + 2) ls (.ref n :: st) (n + 1) ps u) : JVr E n0 nE d y K pc ls (.int z :: st) n ps u :=
  al_arr 0 rfl (fun _ _ h => h) rfl rfl rfl (by decide) (lw_ix 134 (by decide +kernel) (by decide +kernel)) hd hkd hz.1.1 hz.1.2 hz.2.1 hz.2.2.1 hz.2.2.2 hu kk
theorem al_b {N : Nat} {z : Int32} (hd : decode y.2.1 pc = .ok (.newarray .boolean, 2)) (hkd : jkd n = .inr (.boolean, N)) (hz : (¬ z < 0 ∧ z.toNatClampNeg = N) ∧ N ≤ 100000 ∧ n0 ≤ n ∧ n < nE) (hu : uz n u)
    (kk : JVr E n0 nE d y K (pc + 2) ls (.ref n :: st) (n + 1) ps u) : JVr E n0 nE d y K pc ls (.int z :: st) n ps u :=
  al_arr 1 rfl (fun _ _ h => h) rfl rfl rfl (by decide) (lw_ix 135 (by decide +kernel) (by decide +kernel)) hd hkd hz.1.1 hz.1.2 hz.2.1 hz.2.2.1 hz.2.2.2 hu kk
theorem al_anew {idx N : Nat} {z : Int32} (hcl : Cond.classLink y.1.cls idx RX3 ∈ lw_gd) (hd : decode y.2.1 pc = .ok (.anewarray idx, 3)) (hkd : jkd n = .inr (.object RX3, N)) (hz : (¬ z < 0 ∧ z.toNatClampNeg = N) ∧ N ≤ 100000 ∧ n0 ≤ n ∧ n < nE)
    (kk : JVr E n0 nE d y K (pc + 3) ls (.ref n :: st) (n + 1) ((n, 0) :: ps) u) : JVr E n0 nE d y K pc ls (.int z :: st) n ps u :=
  jv_anew (g := (n, RR n ps, u)) (r' := RR (n + 1) ((n, 0) :: ps)) hcl hd hkd hz.1.1 hz.1.2 hz.2.1 hz.2.2.1 hz.2.2.2 (fun k => by
    show (if n = n then (if k < 0 then jRF n k else none) else _) = none
    rw [if_pos rfl, if_neg (Nat.not_lt_zero k)]) (fun a ha => by
    funext k
    have ha' : a < n := ha
    show (if a = n then _ else RR (n + 1) ps a k) = RR n ps a k
    rw [if_neg (by omega), RR_lt (n := n + 1) (n' := n) (by omega) ha']) kk
theorem al_aast {a v k N j : Nat} {i : Int32} (hd : decode y.2.1 pc = .ok (.aastore, 1)) (hkd : jkd a = .inr (.object RX3, N)) (hkv : jkd v = .inl 3) (ha : a < n ∧ v < n) (hi : i = nI k ∧ k < N ∧ N ≤ 100000) (hj : j ≤ k) (ht : jRF a k = some v) (hm : ∀ i, i < k → j ≤ i → jRF a i = none)
    (kk : JVr E n0 nE d y K (pc + 1) ls st n ((a, k + 1) :: ps) u) : JVr E n0 nE d y K pc ls (.ref v :: .int i :: .ref a :: st) n ((a, j) :: ps) u := by
  obtain ⟨rfl, h1, h2⟩ := hi
  refine jv_aast (g := (n, RR n ((a, j) :: ps), u)) (k := k) hd hkd hkv ha.1 ha.2 (vpI h1 (by omega)) (nI_cl (by omega)) ?_
  show JV E n0 nE d y K (pc + 1) ls st (n, jwr (RR n ((a, j) :: ps)) a k v, u)
  rw [RR_put hj ht hm]
  exact kk
theorem al_put {ci k idx a t j : Nat} {C : String} {T : u_T} {ty : Nat → FieldType} (hc : vwCl[ci]? = some (C, T, jnf ci)) (hin : ∀ w ∈ u_ws C T (jnf ci), w ∈ lw_gd) (hty : ∀ k, k < jnf ci → parseFieldDescriptor (T k).2.2.1 = some (ty k)) (hnm : ∀ a, a < jnf ci → ∀ b, b < jnf ci → a ≠ b → (T a).2.1 ≠ (T b).2.1)
    (hk : k < jnf ci) (hf : jfr ci k = true) (hfin : (T k).2.2.2 = true) (hnf : ∀ b, narrow (ty k) (.ref b) = .ref b ∧ fits (ty k) (.ref b) = true) (hmn : y.1.name = "<init>") (hdc : (T k).1 = y.1.cls) (hlk : Cond.fieldLink y.1.cls idx (T k).1 (T k).2.1 (T k).2.2.1 ∈ lw_gd)
    (hd : decode y.2.1 pc = .ok (.putfield idx, 3)) (hkd : jkd a = .inl ci) (ha : a < n) (hj : j ≤ k) (ht : jRF a k = some t) (hm : ∀ i, i < k → j ≤ i → jRF a i = none)
    (kk : JVr E n0 nE d y K (pc + 3) ls st n ((a, k + 1) :: ps) u) : JVr E n0 nE d y K pc ls (.ref t :: .ref a :: st) n ((a, j) :: ps) u := by
  refine jv_putr (g := (n, RR n ((a, j) :: ps), u)) hc hin hty hnm hk hf hfin hnf hmn hdc hlk hd hkd ha ?_
  show JV E n0 nE d y K (pc + 3) ls st (n, jwr (RR n ((a, j) :: ps)) a k t, u)
  rw [RR_put hj ht hm]
  exact kk
theorem al_done {a j : Nat} (ha : a < n) (hne : ∀ p ∈ ps, p.1 ≠ a) (hm : ∀ i, i < jsz a → j ≤ i → jRF a i = none) (kk : JVr E n0 nE d y K pc ls st n ps u) : JVr E n0 nE d y K pc ls st n ((a, j) :: ps) u :=
  JV.conv (r' := RR n ps) (fun a' _ k hk => by
    show (if a' = a then (if k < j then jRF a' k else none) else RR n ps a' k) = RR n ps a' k
    by_cases e : a' = a
    · subst e
      rw [if_pos rfl, RR_at hne, if_pos ha]
      by_cases c : k < j
      · rw [if_pos c]
      · rw [if_neg c, hm k hk (by omega)]
    · rw [if_neg e]) kk
theorem al_m2 {idx N M : Nat} (hcl : Cond.classLink y.1.cls idx "[[I" ∈ lw_gd) (hd : decode y.2.1 pc = .ok (.multianewarray idx 2, 4)) (hk0 : jkd n = .inr (.array .int, N)) (hk1 : ∀ i, i < N → jkd (n + 1 + i) = .inr (.int, M)) (hz : N ≤ 100000 ∧ M ≤ 100000 ∧ n0 ≤ n ∧ n + (1 + N) ≤ nE) (hps : ∀ p ∈ ps, p.1 < n)
    (hu : uz n u) (hr : ∀ i, i < N → jRF n i = some (n + 1 + i)) (kk : JVr E n0 nE d y K (pc + 4) ls (.ref n :: st) (n + (1 + N)) ps u) : JVr E n0 nE d y K pc ls (.int (nI M) :: .int (nI N) :: st) n ps u :=
  jv_mna2 (g := (n, RR n ps, u)) (r' := RR (n + (1 + N)) ps) hcl hd hk0 hk1 hz.1 hz.2.1 hz.2.2.1 hz.2.2.2 hu (fun i hi => by
    show RR (n + (1 + N)) ps n i = _
    rw [RR_at (fun p hp => by have := hps p hp; omega), if_pos (by omega)]
    exact hr i hi) (fun a ha => by
    have ha' : a < n := ha
    exact RR_lt (n := n + (1 + N)) (n' := n) (by omega) ha') kk
theorem al_m3 {idx N M L : Nat} (hcl : Cond.classLink y.1.cls idx "[[[I" ∈ lw_gd) (hd : decode y.2.1 pc = .ok (.multianewarray idx 3, 4)) (hk0 : jkd n = .inr (.array (.array .int), N)) (hk1 : ∀ i, i < N → jkd (n + 1 + i * (1 + M)) = .inr (.array .int, M)) (hk2 : ∀ i, i < N → ∀ k, k < M → jkd (n + 1 + i * (1 + M) + 1 + k) = .inr (.int, L)) (hz : (N ≤ 100000 ∧ M ≤ 100000 ∧ L ≤ 100000) ∧ n0 ≤ n ∧ n + (1 + N * (1 + M)) ≤ nE) (hps : ∀ p ∈ ps, p.1 < n)
    (hu : uz n u) (hr : ∀ i, i < N → jRF n i = some (n + 1 + i * (1 + M))) (hr2 : ∀ i, i < N → ∀ k, k < M → jRF (n + 1 + i * (1 + M)) k = some (n + 1 + i * (1 + M) + 1 + k)) (kk : JVr E n0 nE d y K (pc + 4) ls (.ref n :: st) (n + (1 + N * (1 + M))) ps u) : JVr E n0 nE d y K pc ls (.int (nI L) :: .int (nI M) :: .int (nI N) :: st) n ps u := by
  have lt : ∀ i, i < N → i * (1 + M) + (1 + M) ≤ N * (1 + M) := fun i hi => by
    have := Nat.mul_le_mul_right (1 + M) (show i + 1 ≤ N from hi)
    rw [Nat.succ_mul] at this
    exact this
  refine jv_mna3 (g := (n, RR n ps, u)) (r' := RR (n + (1 + N * (1 + M))) ps) hcl hd hk0 hk1 hk2 hz.1.1 hz.1.2.1 hz.1.2.2 hz.2.1 hz.2.2 hu (fun i hi => ?_) (fun i hi k hk => ?_) (fun a ha => ?_) kk
  · show RR (n + (1 + N * (1 + M))) ps n i = _
    rw [RR_at (fun p hp => by have := hps p hp; omega), if_pos (by omega)]
    exact hr i hi
  · have := lt i hi
    show RR (n + (1 + N * (1 + M))) ps (n + 1 + i * (1 + M)) k = _
    rw [RR_at (fun p hp => by have := hps p hp; omega), if_pos (by omega)]
    exact hr2 i hi k hk
  · have ha' : a < n := ha
    exact RR_lt (n := n + (1 + N * (1 + M))) (n' := n) (by omega) ha'
end JAr
/-- a constructor's contract, by what is laid when it is called, and when it ends -/
abbrev JCr (E : JE) (n0 nE d : Nat) (y : JY) (as : List Value) (ps : List (Nat × Nat)) (u : JM) (ps' : List (Nat × Nat)) (u' : JM) : Prop := JC E n0 nE d y as (fun v g => v = none ∧ g = (nE, RR nE ps', u')) (n0, RR n0 ps, u)
section
variable {E : JE} {n0 nE d : Nat} {y : JY} {K : Option Value → JS → Prop} {pc n : Nat} {ls : List (Option Value)} {st : List Value} {ps : List (Nat × Nat)} {u : JM}
theorem uz.jw {a k : Nat} {x : Int32} (h : uz n u) (ha : a < n) : uz n (jw u a k x) := fun b hb i => by
  rw [jw_ne (by omega)]
  exact h b hb i
theorem al_ist {a k N : Nat} {x : Int32} (hd : decode y.2.1 pc = .ok (.iastore, 1)) (hkd : jkd a = .inr (.int, N)) (ha : a < n) (hk : k < N ∧ N ≤ 100000) (kk : JVr E n0 nE d y K (pc + 1) ls st n ps (jw u a k x)) : JVr E n0 nE d y K pc ls (.int x :: .int (nI k) :: .ref a :: st) n ps u := by
  refine jv_iastore (g := (n, RR n ps, u)) hd hkd ha (vpI hk.1 (by omega)) ?_
  show JV E n0 nE d y K (pc + 1) ls st (n, RR n ps, jw u a (nI k).toNatClampNeg x)
  rw [nI_cl (by omega)]
  exact kk
/-- four places laid with -1 -/
abbrev uS (u : JM) (a : Nat) : JM := jw (jw (jw (jw u a 0 (-1)) a 1 (-1)) a 2 (-1)) a 3 (-1)
theorem al_ret (hd : decode y.2.1 pc = .ok (.return_, 1)) (hr : y.2.2.2 = none) (hn : n = nE) : JVr E n0 nE d y (fun v g => v = none ∧ g = (nE, RR nE ps, u)) pc ls [] n ps u := by
  subst hn
  exact jv_return (K := fun v g => v = none ∧ g = (n, RR n ps, u)) (g := (n, RR n ps, u)) hd hr rfl ⟨rfl, rfl⟩
end
