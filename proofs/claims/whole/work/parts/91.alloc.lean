/-! cells made, one after another -/
/-- references as they are while cells are made: complete, but for those on the list, of which the first j fields are laid -/
def RR (n : Nat) : List (Nat × Nat) → JR
  | [] => fun a k => if a < n then jRF a k else none
  | p :: r => fun a k => if a = p.1 then (if k < p.2 then jRF a k else none) else RR n r a k
theorem RR_ge {n a : Nat} (k : Nat) : ∀ {ps : List (Nat × Nat)}, (∀ p ∈ ps, p.1 < n) → n ≤ a → RR n ps a k = none
  | [], _, h => if_neg (by omega)
  | p :: r, hp, h => by
    have := hp p List.mem_cons_self
    show (if a = p.1 then _ else RR n r a k) = none
    rw [if_neg (by omega)]
    exact RR_ge k (fun q hq => hp q (List.mem_cons_of_mem _ hq)) h
theorem RR_lt {n n' a : Nat} : ∀ {ps : List (Nat × Nat)}, a < n → a < n' → RR n ps a = RR n' ps a
  | [], h, h' => by
    funext k
    show (if a < n then _ else _) = (if a < n' then _ else _)
    rw [if_pos h, if_pos h']
  | p :: r, h, h' => by
    funext k
    show (if a = p.1 then _ else RR n r a k) = (if a = p.1 then _ else RR n' r a k)
    rw [RR_lt h h']
theorem RR_at {n a k : Nat} : ∀ {ps : List (Nat × Nat)}, (∀ p ∈ ps, p.1 ≠ a) → RR n ps a k = if a < n then jRF a k else none
  | [], _ => rfl
  | p :: r, hp => by
    show (if a = p.1 then _ else RR n r a k) = _
    rw [if_neg (fun q => hp p List.mem_cons_self q.symm)]
    exact RR_at fun q hq => hp q (List.mem_cons_of_mem _ hq)
theorem RR_put {n a j k t : Nat} {ps : List (Nat × Nat)} (hj : j ≤ k) (ht : jRF a k = some t) (hm : ∀ i, i < k → j ≤ i → jRF a i = none) : jwr (RR n ((a, j) :: ps)) a k t = RR n ((a, k + 1) :: ps) := by
  funext a' i
  by_cases e : a' = a
  · subst e
    rw [jwr_eq]
    show va_up _ k (some t) i = if a' = a' then (if i < k + 1 then jRF a' i else none) else _
    rw [if_pos rfl]
    unfold va_up
    by_cases e2 : i = k
    · subst e2
      rw [if_pos rfl, if_pos (by omega), ht]
    · rw [if_neg e2]
      show (if a' = a' then (if i < j then jRF a' i else none) else _) = _
      rw [if_pos rfl]
      by_cases c : i < j
      · rw [if_pos c, if_pos (by omega)]
      · rw [if_neg c]
        by_cases c2 : i < k + 1
        · rw [if_pos c2, hm i (by omega) (by omega)]
        · rw [if_neg c2]
  · rw [jwr_ne e]
    show (if a' = a then _ else RR n ps a' i) = (if a' = a then _ else RR n ps a' i)
    rw [if_neg e, if_neg e]
/-- a heap, told of by other references that are the same where it looks -/
theorem JH.conv {E : JE} {n : Nat} {r r' : JR} {u : JM} {H : Heap} (h : JH E (n, r, u) H) (e : ∀ a, a < n → ∀ k, k < jsz a → r a k = r' a k) : JH E (n, r', u) H := by
  refine ⟨h.1, fun a ha => ?_⟩
  have h2 := h.2 a ha
  have e2 := e a ha
  unfold jsz at e2
  cases hk : jkd a with
  | inl ci =>
    rw [hk] at e2
    rw [jen_obj hk] at h2 ⊢
    have : (List.range (jnf ci)).map (jfv E.2.1 r u a ci) = (List.range (jnf ci)).map (jfv E.2.1 r' u a ci) := by
      apply List.map_congr_left
      intro k hk
      unfold jfv
      rw [e2 k (List.mem_range.mp hk)]
    show va_at E.2.2.1 vwCl (E.2.1 + a, .inr (ci, (List.range (jnf ci)).map (jfv E.2.1 r' u a ci))) H
    rw [← this]
    exact h2
  | inr q =>
    obtain ⟨ty, N⟩ := q
    rw [hk] at e2
    by_cases hr : jisR ty = true
    · rw [jen_arq hk hr] at h2 ⊢
      show H[E.2.1 + a]? = some (arrV _ N fun j => va_rf ((r' a j).map (E.2.1 + ·)))
      have h2' : H[E.2.1 + a]? = some (arrV (E.2.2.2 ty) N fun j => va_rf ((r a j).map (E.2.1 + ·))) := h2
      rw [h2']
      unfold arrV
      congr 3
      funext j
      show va_rf (Option.map (fun x => E.2.1 + x) (r a j.val)) = va_rf (Option.map (fun x => E.2.1 + x) (r' a j.val))
      rw [e2 j.val j.isLt]
    · have hr' : jisR ty = false := Bool.not_eq_true _ ▸ hr
      rw [jen_arr hk hr'] at h2 ⊢
      exact h2
theorem JH.more {E : JE} {g : JS} {r' : JR} {H H1 : Heap} (h : JH E g H) (hz : H1.size = H.size + 1) (ho : ∀ q : Nat, q < H.size → H1[q]? = H[q]?) (hat : va_at E.2.2.1 vwCl (E.2.1 + g.1, jen E r' g.2.2 g.1) H1) (hr : ∀ a, a < g.1 → r' a = g.2.1 a) : JH E (g.1 + 1, r', g.2.2) H1 := by
  refine ⟨by rw [hz, h.1]; show _ = E.2.1 + (g.1 + 1); omega, fun a ha => ?_⟩
  by_cases e : a = g.1
  · subst e; exact hat
  · have ha' : a < g.1 + 1 := ha
    show va_at E.2.2.1 vwCl (E.2.1 + a, jen E r' g.2.2 a) H1
    rw [jen_congr (hr a (by omega)) rfl]
    refine (h.2 a (by omega)).kept (ho _ ?_)
    show E.2.1 + a < H.size
    have := h.1
    omega
theorem jS_more {E : JE} {H0 H H1 : Heap} {locs : List Loc} (hS : va_S (jFr E) H0 H locs) (hz : H1.size = H.size + 1) (ho : ∀ q : Nat, q < H.size → H1[q]? = H[q]?) : va_S (jFr E) H0 H1 locs :=
  ⟨Nat.le_trans hS.1 (by omega), fun x h1 h2 => (ho x (Nat.lt_of_lt_of_le h1 hS.1)).trans (hS.2.1 x h1 h2), hS.2.2⟩
section JAl
variable {E : JE} {n0 nE d : Nat} {y : JY} {K : Option Value → JS → Prop} {pc : Nat} {ls : List (Option Value)} {st : List Value} {g : JS}
theorem JV.conv {n : Nat} {r r' : JR} {u : JM} (e : ∀ a, a < n → ∀ k, k < jsz a → r a k = r' a k) (h : JV E n0 nE d y K pc ls st (n, r', u)) : JV E n0 nE d y K pc ls st (n, r, u) := by
  intro p e' s m args below meth c H locs A X hH hS hl
  exact h p e' s m args below meth c H locs A X (hH.conv e) hS hl
theorem jslot {a : Nat} : jsl (a + 1) = jsl a + jsz a := rfl
theorem jv_new {ci idx : Nat} {C : String} {T : u_T} {ty : Nat → FieldType} {r' : JR} (hc : vwCl[ci]? = some (C, T, jnf ci)) (hin : ∀ w ∈ u_ws C T (jnf ci), w ∈ lw_gd) (hty : ∀ k, k < jnf ci → parseFieldDescriptor (T k).2.2.1 = some (ty k))
    (hcl : Cond.classLink y.1.cls idx C ∈ lw_gd ∧ Cond.instantiable C (jnf ci) ∈ lw_gd ∧ Cond.initialized C ∈ lw_gd) (hdv : ∀ k, k < jnf ci → defaultValue (ty k) = if jfr ci k = true then .null else .int 0)
    (hd : decode y.2.1 pc = .ok (.new idx, 3)) (hkd : jkd g.1 = .inl ci) (h0 : n0 ≤ g.1) (h1 : g.1 < nE) (hu : ∀ k, g.2.2 g.1 k = 0) (hr : ∀ k, r' g.1 k = none) (hr' : ∀ a, a < g.1 → r' a = g.2.1 a)
    (kk : JV E n0 nE d y K (pc + 3) ls (.ref g.1 :: st) (g.1 + 1, r', g.2.2)) : JV E n0 nE d y K pc ls st g := by
  intro p e s m args below meth c H locs A X hH hS hl
  have hts := X.2.2.2.2.2.2.2.1
  have hw : ∀ {w : Cond}, w ∈ lw_gd → w.before args s = true := fun h => hts _ (List.mem_cons_of_mem _ h)
  have hKc := X.2.2.2.2.2.2.2.2.1.1.1 ci _ hc
  have hz : H.size = E.2.1 + g.1 := hH.1
  have sz : jsl (g.1 + 1) = jsl g.1 + jnf ci := by rw [jslot]; unfold jsz; rw [hkd]
  have m1 := jsl_mono h0
  have m2 := jsl_mono (show g.1 + 1 ≤ nE from h1)
  refine W.newcK X.1 X.2.1 X.2.2.2.2.2.1 (hw hcl.1) (hw hcl.2.1) (hw hcl.2.2) rfl hd (by show g.1 - n0 + 1 ≤ nE - n0; omega) (by show jsl g.1 - jsl n0 + jnf ci ≤ jsl nE - jsl n0; omega) hKc.2.1 hz fun H1 kC hkC e1 z1 o1 => ?_
  rw [← hz] at z1 o1
  have hb := u_born ty hts (fun w hw => List.mem_cons_of_mem _ (hin w hw)) hKc hkC e1 hty
  have hJ : JH E (g.1 + 1, r', g.2.2) H1 := hH.more z1 o1 (by
    rw [jen_obj hkd]
    refine ⟨_, hc, hb.to fun j hj => ?_⟩
    show _ = vp_V ((List.range (jnf ci)).map (jfv E.2.1 r' g.2.2 g.1 ci)) j
    rw [jfs_V hj, hdv j hj]
    unfold jfv
    rw [hr j, hu j]
    rfl) hr'
  have hv := kk p e s m args below meth c H1 locs A X hJ (jS_more hS z1 o1) hl
  have q1 : g.1 - n0 + 1 = g.1 + 1 - n0 := by omega
  have q2 : jsl g.1 - jsl n0 + jnf ci = jsl (g.1 + 1) - jsl n0 := by omega
  rw [q1, q2]
  exact hv
theorem jv_newarr {atype : ArrayType} {ty : FieldType} {N : Nat} {z : Int32} {r' : JR} (q : Nat) (hq : (jtys E)[q]? = some (E.2.2.2 ty, ty)) (hra : ∀ (U : State) (c : ClassId), va_RA U c ty → U.vm.findClass ("[" ++ ty.toString) = some c) (hat : newarray.typeOf atype = ty) (hr : jisR ty = false) (hdv : defaultValue ty = .int 0) (hcb : componentBytes ty ≤ 4)
    (harr : Cond.arrayClass ty ∈ lw_gd) (hd : decode y.2.1 pc = .ok (.newarray atype, 2)) (hkd : jkd g.1 = .inr (ty, N)) (hzn : ¬ z < 0) (hzN : z.toNatClampNeg = N) (hN : N ≤ 100000) (h0 : n0 ≤ g.1) (h1 : g.1 < nE) (hu : ∀ k, g.2.2 g.1 k = 0) (hr' : ∀ a, a < g.1 → r' a = g.2.1 a)
    (kk : JV E n0 nE d y K (pc + 2) ls (.ref g.1 :: st) (g.1 + 1, r', g.2.2)) : JV E n0 nE d y K pc ls (.int z :: st) g := by
  intro p e s m args below meth c H locs A X hH hS hl
  subst hat
  have hts := X.2.2.2.2.2.2.2.1
  have hw : ∀ {w : Cond}, w ∈ lw_gd → w.before args s = true := fun h => hts _ (List.mem_cons_of_mem _ h)
  have hKt := X.2.2.2.2.2.2.2.2.1.1.2 q _ hq
  have hz : H.size = E.2.1 + g.1 := hH.1
  have sz : jsl (g.1 + 1) = jsl g.1 + N := by rw [jslot]; unfold jsz; rw [hkd]
  have m1 := jsl_mono h0
  have m2 := jsl_mono (show g.1 + 1 ≤ nE from h1)
  have hby : N * componentBytes (newarray.typeOf atype) ≤ 536870912 := by
    have := Nat.mul_le_mul hN hcb
    omega
  refine va_newaK X.1 X.2.1 (hw harr) rfl hd rfl hzn hzN hby (by show g.1 - n0 + 1 ≤ nE - n0; omega) (by show jsl g.1 - jsl n0 + N ≤ jsl nE - jsl n0; omega) hz fun H1 cA e1 z1 o1 hAr hNm => ?_
  rw [← hz] at z1 o1
  have hcA : cA = E.2.2.2 (newarray.typeOf atype) := Option.some.inj (hNm.symm.trans (hra s _ hKt.2))
  subst hcA
  have hJ : JH E (g.1 + 1, r', g.2.2) H1 := hH.more z1 o1 (by
    rw [jen_arr hkd hr]
    show H1[E.2.1 + g.1]? = some (arrV _ N fun j => .int (g.2.2 g.1 j))
    rw [e1, hdv]
    congr 2
    funext j
    rw [hu j]) hr'
  have hv := kk p e s m args below meth c H1 locs A X hJ (jS_more hS z1 o1) hl
  have q1 : g.1 - n0 + 1 = g.1 + 1 - n0 := by omega
  have q2 : jsl g.1 - jsl n0 + N = jsl (g.1 + 1) - jsl n0 := by omega
  rw [q1, q2]
  have ez : E.2.1 + g.1 = E.2.1 + g.1 := rfl
  exact hv
theorem jv_anew {idx N : Nat} {z : Int32} {r' : JR} (hcl : Cond.classLink y.1.cls idx RX3 ∈ lw_gd) (hd : decode y.2.1 pc = .ok (.anewarray idx, 3)) (hkd : jkd g.1 = .inr (.object RX3, N)) (hzn : ¬ z < 0) (hzN : z.toNatClampNeg = N) (hN : N ≤ 100000) (h0 : n0 ≤ g.1) (h1 : g.1 < nE) (hr : ∀ k, r' g.1 k = none) (hr' : ∀ a, a < g.1 → r' a = g.2.1 a)
    (kk : JV E n0 nE d y K (pc + 3) ls (.ref g.1 :: st) (g.1 + 1, r', g.2.2)) : JV E n0 nE d y K pc ls (.int z :: st) g := by
  intro p e s m args below meth c H locs A X hH hS hl
  subst hzN
  have hts := X.2.2.2.2.2.2.2.1
  have hw : ∀ {w : Cond}, w ∈ lw_gd → w.before args s = true := fun h => hts _ (List.mem_cons_of_mem _ h)
  have hKt := X.2.2.2.2.2.2.2.2.1.1.2 4 (E.2.2.2 (.object RX3), .object RX3) rfl
  have hz : H.size = E.2.1 + g.1 := hH.1
  have sz : jsl (g.1 + 1) = jsl g.1 + z.toNatClampNeg := by rw [jslot]; unfold jsz; rw [hkd]
  have m1 := jsl_mono h0
  have m2 := jsl_mono (show g.1 + 1 ≤ nE from h1)
  refine W.anew X.1 X.2.1 X.2.2.2.2.2.1 (hw hcl) (jAO.use X.2.2.2.2.2.2.2.2.1.2.1) rfl hd rfl hzn (by omega) (by show g.1 - n0 + 1 ≤ nE - n0; omega) (by show jsl g.1 - jsl n0 + z.toNatClampNeg ≤ jsl nE - jsl n0; omega) fun cA kA comp f1 f2 f3 f4 => ?_
  obtain ⟨kA', comp', t1, t2, t3, t4⟩ := hKt.2
  have hcA : cA = E.2.2.2 (.object RX3) := Option.some.inj (f1.symm.trans t4)
  subst hcA
  generalize hH1 : H.push ({ cls := E.2.2.2 (.object RX3), slots := Array.replicate z.toNatClampNeg .null, vm := .none } : Cell) = H1
  have z1 : H1.size = H.size + 1 := by rw [← hH1, Array.size_push]
  have e1 : H1[H.size]? = some (arrV (E.2.2.2 (.object RX3)) z.toNatClampNeg (fun _ => .null)) := by rw [← hH1, Array.getElem?_push_size, ← arrV_new]
  have o1 : ∀ q : Nat, q < H.size → H1[q]? = H[q]? := fun q hq => by rw [← hH1, Array.getElem?_push, if_neg (Nat.ne_of_lt hq)]
  have hJ : JH E (g.1 + 1, r', g.2.2) H1 := hH.more z1 o1 (by
    rw [jen_arq hkd rfl]
    show H1[E.2.1 + g.1]? = some (arrV _ z.toNatClampNeg fun j => va_rf ((r' g.1 j).map (E.2.1 + ·)))
    rw [← hz, e1]
    congr 2
    funext j
    rw [hr j]
    rfl) hr'
  have hv := kk p e s m args below meth c H1 locs A X hJ (jS_more hS z1 o1) hl
  have q1 : g.1 - n0 + 1 = g.1 + 1 - n0 := by omega
  have q2 : jsl g.1 - jsl n0 + z.toNatClampNeg = jsl (g.1 + 1) - jsl n0 := by omega
  rw [q1, q2, hz]
  exact hv
theorem jv_aast {a v k N : Nat} {i : Int32} (hd : decode y.2.1 pc = .ok (.aastore, 1)) (hkd : jkd a = .inr (.object RX3, N)) (hkv : jkd v = .inl 3) (ha : a < g.1) (hv : v < g.1) (hin : vp_in i N) (hi : i.toNatClampNeg = k)
    (kk : JV E n0 nE d y K (pc + 1) ls st (g.1, jwr g.2.1 a k v, g.2.2)) : JV E n0 nE d y K pc ls (.ref v :: .int i :: .ref a :: st) g := by
  intro p e s m args below meth c H locs A X hH hS hl
  subst hi
  have hat := hH.2 a ha
  rw [jen_arq hkd rfl] at hat
  have hav := hH.2 v hv
  rw [jen_obj hkv] at hav
  obtain ⟨r', hr', cellV, g1, g2, g3, -⟩ := hav
  have hKt := X.2.2.2.2.2.2.2.2.1.1.2 4 (E.2.2.2 (.object RX3), .object RX3) rfl
  have hcls := (X.2.2.2.2.2.2.2.2.1.1.1 3 _ rfl).2
  obtain ⟨kA, comp, k1, k2, k3, -⟩ := hKt.2
  have hcomp : comp = E.2.2.1.1 3 := Option.some.inj (k3.symm.trans hcls.1)
  subst hcomp
  have hlt : i.toNatClampNeg < N := Nat.not_le.mp fun q => hin (Or.inr q)
  have h0 : ¬ i < 0 := fun q => hin (Or.inl q)
  obtain ⟨kC, hkC, -⟩ := hcls.2
  refine W.aast X.1 X.2.1 hat (fun q h => by cases h) (fun h => by cases h) k1 k2 rfl hkC ⟨h0, by show _ < (arrV _ _ _).slots.size; rw [arrV_size]; exact hlt⟩ g1 (fun q h => by rw [g3] at h; cases h) (by rw [g2]; exact hkC) (by rw [g2]; exact va_assign hcls) rfl rfl hd fun H1 e1 z oq => ?_
  refine kk p e s m args below meth c H1 _ A X (hH.put (g' := (g.1, jwr g.2.1 a i.toNatClampNeg v, g.2.2)) rfl z oq ?_ (fun a' h => jwr_ne h) (fun _ _ => rfl)) (jS_put hS z oq) hl
  rw [jen_arq hkd rfl]
  show H1[E.2.1 + a]? = some (arrV _ N fun j => va_rf ((jwr g.2.1 a i.toNatClampNeg v a j).map (E.2.1 + ·)))
  rw [e1, jwr_eq]
  show some ((arrV _ N _).setSlot _ _) = _
  rw [arrV_store]
  congr 2
  funext q
  by_cases hq : q = i.toNatClampNeg
  · subst hq
    simp [updV, va_up, va_rf]
  · simp [updV, va_up, hq]
theorem jv_putr {ci k idx a t : Nat} {C : String} {T : u_T} {ty : Nat → FieldType} (hc : vwCl[ci]? = some (C, T, jnf ci)) (hin : ∀ w ∈ u_ws C T (jnf ci), w ∈ lw_gd) (hty : ∀ k, k < jnf ci → parseFieldDescriptor (T k).2.2.1 = some (ty k)) (hnm : ∀ a, a < jnf ci → ∀ b, b < jnf ci → a ≠ b → (T a).2.1 ≠ (T b).2.1)
    (hk : k < jnf ci) (hf : jfr ci k = true) (hfin : (T k).2.2.2 = true) (hnf : ∀ b, narrow (ty k) (.ref b) = .ref b ∧ fits (ty k) (.ref b) = true) (hmn : y.1.name = "<init>") (hdc : (T k).1 = y.1.cls) (hlk : Cond.fieldLink y.1.cls idx (T k).1 (T k).2.1 (T k).2.2.1 ∈ lw_gd)
    (hd : decode y.2.1 pc = .ok (.putfield idx, 3)) (hkd : jkd a = .inl ci) (ha : a < g.1) (kk : JV E n0 nE d y K (pc + 3) ls st (g.1, jwr g.2.1 a k t, g.2.2)) : JV E n0 nE d y K pc ls (.ref t :: .ref a :: st) g := by
  intro p e s m args below meth c H locs A X hH hS hl
  have hat := hH.2 a ha
  rw [jen_obj hkd] at hat
  obtain ⟨r, h1, cell, q1, q2, q3, q4⟩ := hat
  cases h1.symm.trans hc
  have hts := X.2.2.2.2.2.2.2.1
  have hown := X.2.2.2.2.2.1
  have hin' : ∀ w ∈ u_ws C T (jnf ci), w ∈ jwd y := fun w hw => List.mem_cons_of_mem _ (hin w hw)
  have hKn := X.2.2.2.2.2.2.2.2.1.1
  have hap := va_apart (own := y.1.cls) hts hin' ty hty hnm hKn hc
  obtain ⟨hS0, hfc, kC, hkC, hkind⟩ := hKn.1 ci _ hc
  obtain ⟨cf, kf, fi, f, hi, hsl⟩ := hS0 k hk
  have hlay := hts _ (hin' _ (u_in_lay hk))
  unfold u_lay at hlay
  rw [if_pos hfin] at hlay
  have hst := (u_facts hfc hkC (u_lays hts hin' hk) hi).1
  have hcf : m.cls = cf := by
    obtain ⟨_, _, c', _, _, _, -, -, hf', -, -, -, hown2, -⟩ := Cond.laysFinal_spec hlay
    have e1 : c' = cf := by have := hi.symm.trans hf'; simp at this; exact this.1.symm
    rw [hdc] at hown2
    rw [← e1]; exact Option.some.inj (hown.symm.trans hown2)
  have h6 := u_fits (v := .ref (E.2.1 + t)) hfc hkC hkind (Or.inr hlay) hi (hty k hk) (hnf _).1 (hnf _).2
  refine W.putFinK X.1 X.2.1 hown (hts _ (List.mem_cons_of_mem _ hlk)) hi hst hcf (X.2.2.2.2.2.2.1.trans hmn) (by rw [q2]; exact h6) q1 q3 (by rw [hsl]; exact k2_hasslot (q4 k hk)) rfl rfl hd fun H' e1 e2 e3 => ?_
  rw [hsl] at e1 ⊢
  refine kk p e s m args below meth c H' _ A X (hH.put (g' := (g.1, jwr g.2.1 a k t, g.2.2)) rfl e2 e3 ?_ (fun a' h => jwr_ne h) (fun _ _ => rfl)) (jS_put hS e2 e3) hl
  rw [jen_obj hkd]
  refine ⟨_, hc, t_OB.to (V := updV (vp_V ((List.range (jnf ci)).map (jfv E.2.1 g.2.1 g.2.2 a ci))) k (.ref (E.2.1 + t))) ⟨_, e1, q2, q3, t_set q4 hap hk _⟩ (fun j hj => ?_)⟩
  show updV _ k (.ref (E.2.1 + t)) j = vp_V _ j
  rw [jfs_V hj]
  by_cases e : j = k
  · subst e
    simp [updV, jfv, hf, jwr_eq, va_up, va_rf]
  · simp only [updV, if_neg e]
    rw [jfs_V hj]
    simp [jfv, jwr_eq, va_up, e]
theorem jv_objInit {idx a : Nat} (hw : Cond.methodLink y.1.cls idx Lib.objectInit ∈ lw_gd ∧ Cond.instanceMethod Lib.objectInit ∈ lw_gd ∧ Cond.code Lib.objectInit ⟨#[0xb1]⟩ 1 none ∈ lw_gd) (hd : decode y.2.1 pc = .ok (.invokespecial idx, 3)) (hst : (st.map fun v => v.category).sum ≤ 8) (hd1 : 1 ≤ d)
    (kk : JV E n0 nE d y K (pc + 3) ls st g) : JV E n0 nE d y K pc ls (.ref a :: st) g := by
  intro p e s m args below meth c H locs A X hH hS hl
  have hts := X.2.2.2.2.2.2.2.1
  have hw' : ∀ {w : Cond}, w ∈ lw_gd → w.before args s = true := fun h => hts _ (List.mem_cons_of_mem _ h)
  refine W.objInit X.1 X.2.1 X.2.2.2.2.2.1 (hw' hw.1) (hw' hw.2.1) (hw' hw.2.2) rfl (by show A.size = c.maxLocals; rw [X.2.2.1]; exact hl.1.1) rfl hd (by show 1 ≤ d; exact hd1) (by rw [jcats]; show 2 * 0 + _ + 12 ≤ 100 * d; omega) (kk p e s m args below meth c H locs A X hH hS hl)
end JAl
