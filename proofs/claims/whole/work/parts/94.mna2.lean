/-! arrays of arrays in the heap's picture -/
theorem arrV_ext {c : ClassId} {N : Nat} {f f' : Nat → Value} (h : ∀ j, j < N → f j = f' j) : arrV c N f = arrV c N f' := by
  unfold arrV
  congr 2
  funext j
  exact h j.val j.isLt
theorem jsl_add {n v : Nat} : ∀ m, (∀ i, i < m → jsz (n + i) = v) → jsl (n + m) = jsl n + m * v
  | 0, _ => by rw [Nat.zero_mul]; rfl
  | m + 1, h => by
    have ih := jsl_add m fun i hi => h i (by omega)
    show jsl (n + m) + jsz (n + m) = _
    rw [ih, h m (by omega), Nat.succ_mul]
    omega
theorem jsl_blk {n B W : Nat} : ∀ N, (∀ i, i < N → jsl (n + i * B + B) = jsl (n + i * B) + W) → jsl (n + N * B) = jsl n + N * W
  | 0, _ => by rw [Nat.zero_mul, Nat.zero_mul]; rfl
  | N + 1, h => by
    have ih := jsl_blk N fun i hi => h i (by omega)
    rw [Nat.succ_mul, Nat.succ_mul, ← Nat.add_assoc, h N (by omega), ih]
    omega
theorem jsz_arr {a N : Nat} {t : FieldType} (h : jkd a = .inr (t, N)) : jsz a = N := by unfold jsz; rw [h]
theorem JKn.id1 {E : JE} {s : State} (h : JKn E s) : mdK s.vm [(E.2.2.2 .int, 0)] := by
  obtain ⟨-, k, hk, cc, hkind⟩ := (h.1.2 0 (E.2.2.2 .int, .int) rfl).1 0 fun _ => .null
  exact ⟨k, cc, hk, hkind⟩
theorem JKn.id2 {E : JE} {s : State} (h : JKn E s) : (∃ (k : Class) (t : FieldType), s.vm.classes[E.2.2.2 (.array .int)]? = some k ∧ k.kind = .array (E.2.2.2 .int) t ∧ t.isReference = true ∧ componentBytes t ≤ 4) ∧ s.vm.findClass "[[I" = some (E.2.2.2 (.array .int)) := by
  have a0 : s.vm.findClass "[I" = some (E.2.2.2 .int) := (h.1.2 0 (E.2.2.2 .int, .int) rfl).2
  have a1 : s.vm.findClass "[[I" = some (E.2.2.2 (.array .int)) := (h.1.2 2 (E.2.2.2 (.array .int), .array .int) rfl).2
  obtain ⟨comp, c, k, h1, -, h2, h3, h4⟩ := arrayOverA_spec (jAO.use (A := #[]) h.2.2.1)
  have e1 : comp = E.2.2.2 .int := Option.some.inj ((show s.vm.findClass "[I" = some comp from h1).symm.trans a0)
  have e2 : c = E.2.2.2 (.array .int) := Option.some.inj ((show s.vm.findClass "[[I" = some c from h4).symm.trans a1)
  subst e1 e2
  exact ⟨⟨k, _, h2, h3, rfl, by decide⟩, a1⟩
theorem JKn.id3 {E : JE} {s : State} (h : JKn E s) : (∃ (k : Class) (t : FieldType), s.vm.classes[E.2.2.2 (.array (.array .int))]? = some k ∧ k.kind = .array (E.2.2.2 (.array .int)) t ∧ t.isReference = true ∧ componentBytes t ≤ 4) ∧ s.vm.findClass "[[[I" = some (E.2.2.2 (.array (.array .int))) := by
  have a1 : s.vm.findClass "[[I" = some (E.2.2.2 (.array .int)) := (h.1.2 2 (E.2.2.2 (.array .int), .array .int) rfl).2
  have a2 : s.vm.findClass "[[[I" = some (E.2.2.2 (.array (.array .int))) := (h.1.2 3 (E.2.2.2 (.array (.array .int)), .array (.array .int)) rfl).2
  obtain ⟨comp, c, k, h1, -, h2, h3, h4⟩ := arrayOverA_spec (jAO.use (A := #[]) h.2.2.2.1)
  have e1 : comp = E.2.2.2 (.array .int) := Option.some.inj ((show s.vm.findClass "[[I" = some comp from h1).symm.trans a1)
  have e2 : c = E.2.2.2 (.array (.array .int)) := Option.some.inj ((show s.vm.findClass "[[[I" = some c from h4).symm.trans a2)
  subst e1 e2
  exact ⟨⟨k, _, h2, h3, rfl, by decide⟩, a2⟩
theorem JH.many {E : JE} {g : JS} {r' : JR} {H H1 : Heap} {m : Nat} (h : JH E g H) (hz : H1.size = H.size + m) (ho : ∀ q : Nat, q < H.size → H1[q]? = H[q]?) (hat : ∀ j, j < m → va_at E.2.2.1 vwCl (E.2.1 + (g.1 + j), jen E r' g.2.2 (g.1 + j)) H1) (hr : ∀ a, a < g.1 → r' a = g.2.1 a) : JH E (g.1 + m, r', g.2.2) H1 := by
  refine ⟨by rw [hz, h.1]; show _ = E.2.1 + (g.1 + m); omega, fun a ha => ?_⟩
  have ha' : a < g.1 + m := ha
  show va_at E.2.2.1 vwCl (E.2.1 + a, jen E r' g.2.2 a) H1
  by_cases e : a < g.1
  · rw [jen_congr (hr a e) rfl]
    refine (h.2 a e).kept (ho _ ?_)
    show E.2.1 + a < H.size
    have := h.1
    omega
  · have := hat (a - g.1) (by omega)
    rw [show g.1 + (a - g.1) = a by omega] at this
    exact this
section JMna
variable {E : JE} {n0 nE d : Nat} {y : JY} {K : Option Value → JS → Prop} {pc : Nat} {ls : List (Option Value)} {st : List Value} {g : JS}
theorem jv_mna2 {idx N M : Nat} {r' : JR} (hcl : Cond.classLink y.1.cls idx "[[I" ∈ lw_gd) (hd : decode y.2.1 pc = .ok (.multianewarray idx 2, 4)) (hk0 : jkd g.1 = .inr (.array .int, N)) (hk1 : ∀ i, i < N → jkd (g.1 + 1 + i) = .inr (.int, M)) (hN : N ≤ 100000) (hM : M ≤ 100000) (h0 : n0 ≤ g.1) (h1 : g.1 + (1 + N) ≤ nE)
    (hu : ∀ a, g.1 ≤ a → ∀ k, g.2.2 a k = 0) (hr : ∀ i, i < N → r' g.1 i = some (g.1 + 1 + i)) (hr' : ∀ a, a < g.1 → r' a = g.2.1 a) (kk : JV E n0 nE d y K (pc + 4) ls (.ref g.1 :: st) (g.1 + (1 + N), r', g.2.2)) : JV E n0 nE d y K pc ls (.int (nI M) :: .int (nI N) :: st) g := by
  intro p e s m args below meth c H locs A X hH hS hl
  have hts := X.2.2.2.2.2.2.2.1
  have hw : ∀ {w : Cond}, w ∈ lw_gd → w.before args s = true := fun h => hts _ (List.mem_cons_of_mem _ h)
  have hKn := X.2.2.2.2.2.2.2.2.1
  obtain ⟨i2, fc2⟩ := hKn.id2
  obtain ⟨k1, cc1, i1a, i1b⟩ := hKn.id1
  have hz : H.size = E.2.1 + g.1 := hH.1
  have eC : mdC [(E.2.2.2 (.array .int), N), (E.2.2.2 .int, M)] = 1 + N := by simp [mdC]
  have eW : mdW [(E.2.2.2 (.array .int), N), (E.2.2.2 .int, M)] = N + N * M := by simp [mdW]
  have sl : jsl (g.1 + (1 + N)) = jsl g.1 + (N + N * M) := by
    have e := jsl_add (n := g.1 + 1) (v := M) N fun i hi => jsz_arr (hk1 i hi)
    rw [← Nat.add_assoc, e, jslot, jsz_arr hk0]
    omega
  have m1 := jsl_mono h0
  have m2 := jsl_mono h1
  refine W_mna2 (q := (E.2.2.2 (.array .int), N)) (q2 := (E.2.2.2 .int, M)) X.1 X.2.1 X.2.2.2.2.2.1 (hw hcl) fc2 ⟨i2, k1, cc1, i1a, i1b⟩ (fun x hx => by
    rcases List.mem_cons.mp hx with rfl | hx
    · exact hN
    · rw [List.mem_singleton.mp hx]; exact hM) rfl hd rfl (by rw [eC]; show g.1 - n0 + (1 + N) ≤ nE - n0; omega) (by rw [eW]; show jsl g.1 - jsl n0 + (N + N * M) ≤ jsl nE - jsl n0; omega) fun H1 L z1 o1 x1 hL => ?_
  rw [eC] at z1 x1
  have hJ : JH E (g.1 + (1 + N), r', g.2.2) H1 := hH.many z1 o1 (fun j hj => by
    have hx := x1 j hj
    rw [hz, Nat.add_assoc] at hx
    by_cases e : j = 0
    · subst e
      rw [Nat.add_zero] at hx ⊢
      rw [jen_arq hk0 rfl]
      show H1[E.2.1 + g.1]? = some (arrV _ N fun j => va_rf ((r' g.1 j).map (E.2.1 + ·)))
      rw [hx]
      show some (arrV (E.2.2.2 (.array .int)) N _) = _
      congr 1
      refine arrV_ext fun j hj => ?_
      rw [hr j hj]
      unfold oV
      rw [if_pos hj]
      have : mdC [(E.2.2.2 .int, M)] = 1 := by simp [mdC]
      rw [this]
      exact congrArg Value.ref (show (E.2.1 + g.1 + 1 + j * 1 : Nat) = E.2.1 + (g.1 + 1 + j) by omega)
    · obtain ⟨i, rfl⟩ : ∃ i, j = 1 + i := ⟨j - 1, by omega⟩
      have hki := hk1 i (by omega)
      rw [Nat.add_assoc] at hki
      rw [jen_arr hki rfl]
      show H1[E.2.1 + (g.1 + (1 + i))]? = some (arrV _ M fun j => .int (g.2.2 (g.1 + (1 + i)) j))
      rw [hx]
      show some (if 1 + i = 0 then _ else arrV (E.2.2.2 .int) M fun _ => .int 0) = _
      rw [if_neg e]
      congr 1
      exact arrV_ext fun j _ => by rw [hu _ (by omega) j]) hr'
  have hv := kk p e s m args below meth c H1 (locs ++ L) A X hJ ⟨Nat.le_trans hS.1 (by omega), fun x h1 h2 => (o1 x (Nat.lt_of_lt_of_le h1 hS.1)).trans (hS.2.1 x h1 h2), fun q hq => by
    rcases List.mem_append.mp hq with g | g
    · exact hS.2.2 q g
    · have := hL q g
      show E.2.1 ≤ q.base
      omega⟩ hl
  have q1 : g.1 - n0 + (1 + N) = g.1 + (1 + N) - n0 := by omega
  have q2 : jsl g.1 - jsl n0 + (N + N * M) = jsl (g.1 + (1 + N)) - jsl n0 := by omega
  rw [eC, eW, q1, q2, hz]
  exact hv
theorem jv_mna3 {idx N M L : Nat} {r' : JR} (hcl : Cond.classLink y.1.cls idx "[[[I" ∈ lw_gd) (hd : decode y.2.1 pc = .ok (.multianewarray idx 3, 4)) (hk0 : jkd g.1 = .inr (.array (.array .int), N)) (hk1 : ∀ i, i < N → jkd (g.1 + 1 + i * (1 + M)) = .inr (.array .int, M)) (hk2 : ∀ i, i < N → ∀ k, k < M → jkd (g.1 + 1 + i * (1 + M) + 1 + k) = .inr (.int, L)) (hN : N ≤ 100000) (hM : M ≤ 100000) (hL : L ≤ 100000) (h0 : n0 ≤ g.1) (h1 : g.1 + (1 + N * (1 + M)) ≤ nE)
    (hu : ∀ a, g.1 ≤ a → ∀ k, g.2.2 a k = 0) (hr : ∀ i, i < N → r' g.1 i = some (g.1 + 1 + i * (1 + M))) (hr2 : ∀ i, i < N → ∀ k, k < M → r' (g.1 + 1 + i * (1 + M)) k = some (g.1 + 1 + i * (1 + M) + 1 + k)) (hr' : ∀ a, a < g.1 → r' a = g.2.1 a) (kk : JV E n0 nE d y K (pc + 4) ls (.ref g.1 :: st) (g.1 + (1 + N * (1 + M)), r', g.2.2)) : JV E n0 nE d y K pc ls (.int (nI L) :: .int (nI M) :: .int (nI N) :: st) g := by
  intro p e s m args below meth c H locs A X hH hS hl
  have hts := X.2.2.2.2.2.2.2.1
  have hw : ∀ {w : Cond}, w ∈ lw_gd → w.before args s = true := fun h => hts _ (List.mem_cons_of_mem _ h)
  have hKn := X.2.2.2.2.2.2.2.2.1
  obtain ⟨i3, fc3⟩ := hKn.id3
  obtain ⟨i2, fc2⟩ := hKn.id2
  obtain ⟨k1, cc1, i1a, i1b⟩ := hKn.id1
  have hz : H.size = E.2.1 + g.1 := hH.1
  have e1 : mdC [(E.2.2.2 .int, L)] = 1 := by simp [mdC]
  have e2 : mdC [(E.2.2.2 (.array .int), M), (E.2.2.2 .int, L)] = 1 + M := by simp [mdC]
  have eC : mdC [(E.2.2.2 (.array (.array .int)), N), (E.2.2.2 (.array .int), M), (E.2.2.2 .int, L)] = 1 + N * (1 + M) := by simp [mdC]
  have eW : mdW [(E.2.2.2 (.array (.array .int)), N), (E.2.2.2 (.array .int), M), (E.2.2.2 .int, L)] = N + N * (M + M * L) := by simp [mdW]
  have sl : jsl (g.1 + (1 + N * (1 + M))) = jsl g.1 + (N + N * (M + M * L)) := by
    have e := jsl_blk (n := g.1 + 1) (B := 1 + M) (W := M + M * L) N fun i hi => by
      have e := jsl_add (n := g.1 + 1 + i * (1 + M) + 1) (v := L) M fun k hk => jsz_arr (hk2 i hi k hk)
      rw [← Nat.add_assoc, e, jslot, jsz_arr (hk1 i hi)]
      omega
    rw [← Nat.add_assoc, e, jslot, jsz_arr hk0]
    omega
  have m1 := jsl_mono h0
  have m2 := jsl_mono h1
  refine W_mna3 (q := (E.2.2.2 (.array (.array .int)), N)) (q2 := (E.2.2.2 (.array .int), M)) (q3 := (E.2.2.2 .int, L)) X.1 X.2.1 X.2.2.2.2.2.1 (hw hcl) fc3 ⟨i3, i2, k1, cc1, i1a, i1b⟩ (fun x hx => by
    rcases List.mem_cons.mp hx with rfl | hx
    · exact hN
    · rcases List.mem_cons.mp hx with rfl | hx
      · exact hM
      · rw [List.mem_singleton.mp hx]; exact hL) rfl hd rfl (by rw [eC]; show g.1 - n0 + (1 + N * (1 + M)) ≤ nE - n0; omega) (by rw [eW]; show jsl g.1 - jsl n0 + (N + N * (M + M * L)) ≤ jsl nE - jsl n0; omega) fun H1 L1 z1 o1 x1 hL1 => ?_
  rw [eC] at z1 x1
  have hJ : JH E (g.1 + (1 + N * (1 + M)), r', g.2.2) H1 := hH.many z1 o1 (fun j hj => by
    have hx := x1 j hj
    rw [hz, Nat.add_assoc] at hx
    by_cases e : j = 0
    · subst e
      rw [Nat.add_zero] at hx ⊢
      rw [jen_arq hk0 rfl]
      show H1[E.2.1 + g.1]? = some (arrV _ N fun j => va_rf ((r' g.1 j).map (E.2.1 + ·)))
      rw [hx]
      show some (arrV (E.2.2.2 (.array (.array .int))) N _) = _
      congr 1
      refine arrV_ext fun j hj => ?_
      rw [hr j hj]
      unfold oV
      rw [if_pos hj]
      rw [e2]
      exact congrArg Value.ref (show (E.2.1 + g.1 + 1 + j * (1 + M) : Nat) = E.2.1 + (g.1 + 1 + j * (1 + M)) by omega)
    · obtain ⟨j', rfl⟩ : ∃ j', j = j' + 1 := ⟨j - 1, by omega⟩
      have hx' : H1[E.2.1 + (g.1 + (j' + 1))]? = some (if j' + 1 = 0 then _ else mdX [(E.2.2.2 (.array .int), M), (E.2.2.2 .int, L)] (E.2.1 + g.1 + 1 + (j' + 1 - 1) / mdC [(E.2.2.2 (.array .int), M), (E.2.2.2 .int, L)] * mdC [(E.2.2.2 (.array .int), M), (E.2.2.2 .int, L)]) ((j' + 1 - 1) % mdC [(E.2.2.2 (.array .int), M), (E.2.2.2 .int, L)])) := hx
      rw [if_neg e, e2, Nat.add_sub_cancel] at hx'
      have hB : 0 < 1 + M := by omega
      have dm := Nat.div_add_mod j' (1 + M)
      have dl := Nat.mod_lt j' hB
      have di : j' / (1 + M) < N := (Nat.div_lt_iff_lt_mul hB).mpr (by omega)
      generalize j' / (1 + M) = i at *
      generalize j' % (1 + M) = t at *
      have ej : j' = i * (1 + M) + t := by rw [Nat.mul_comm]; exact dm.symm
      have eX : mdX [(E.2.2.2 (.array .int), M), (E.2.2.2 .int, L)] (E.2.1 + g.1 + 1 + i * (1 + M)) t = if t = 0 then arrV (E.2.2.2 (.array .int)) M (oV (E.2.1 + g.1 + 1 + i * (1 + M)) (mdC [(E.2.2.2 .int, L)]) M) else arrV (E.2.2.2 .int) L fun _ => .int 0 := rfl
      rw [eX] at hx'
      rw [show g.1 + (j' + 1) = g.1 + 1 + i * (1 + M) + t by omega] at hx' ⊢
      by_cases et : t = 0
      · subst et
        rw [Nat.add_zero] at hx' ⊢
        rw [if_pos rfl] at hx'
        rw [jen_arq (hk1 i di) rfl]
        show H1[E.2.1 + (g.1 + 1 + i * (1 + M))]? = some (arrV _ M fun j => va_rf ((r' (g.1 + 1 + i * (1 + M)) j).map (E.2.1 + ·)))
        rw [hx']
        congr 1
        refine arrV_ext fun k hk => ?_
        rw [hr2 i di k hk, e1]
        unfold oV
        rw [if_pos hk]
        exact congrArg Value.ref (show (E.2.1 + g.1 + 1 + i * (1 + M) + 1 + k * 1 : Nat) = E.2.1 + (g.1 + 1 + i * (1 + M) + 1 + k) by omega)
      · obtain ⟨k, rfl⟩ : ∃ k, t = k + 1 := ⟨t - 1, by omega⟩
        rw [if_neg et] at hx'
        have hkk := hk2 i di k (by omega)
        rw [show g.1 + 1 + i * (1 + M) + 1 + k = g.1 + 1 + i * (1 + M) + (k + 1) by omega] at hkk
        rw [jen_arr hkk rfl]
        show H1[E.2.1 + (g.1 + 1 + i * (1 + M) + (k + 1))]? = some (arrV _ L fun j => .int (g.2.2 (g.1 + 1 + i * (1 + M) + (k + 1)) j))
        rw [hx']
        congr 1
        exact arrV_ext fun j _ => by rw [hu _ (by omega) j]) hr'
  have hv := kk p e s m args below meth c H1 (locs ++ L1) A X hJ ⟨Nat.le_trans hS.1 (by omega), fun x h1 h2 => (o1 x (Nat.lt_of_lt_of_le h1 hS.1)).trans (hS.2.1 x h1 h2), fun q hq => by
    rcases List.mem_append.mp hq with g | g
    · exact hS.2.2 q g
    · have := hL1 q g
      show E.2.1 ≤ q.base
      omega⟩ hl
  have q1 : g.1 - n0 + (1 + N * (1 + M)) = g.1 + (1 + N * (1 + M)) - n0 := by omega
  have q2 : jsl g.1 - jsl n0 + (N + N * (M + M * L)) = jsl (g.1 + (1 + N * (1 + M))) - jsl n0 := by omega
  rw [eC, eW, q1, q2, hz]
  exact hv
end JMna
