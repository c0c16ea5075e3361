/-! arrays of arrays, made at once: their dimensions a list of class and length, outermost first -/
def mdC : List (ClassId × Nat) → Nat
  | [] => 0
  | q :: r => 1 + q.2 * mdC r
def mdW : List (ClassId × Nat) → Nat
  | [] => 0
  | q :: r => q.2 + q.2 * mdW r
/-- an outer array's places: the first i are laid -/
def oV (h K i : Nat) : Nat → Value := fun j => if j < i then .ref (h + 1 + j * K) else .null
def mdL (f : State → State) (c : ClassId) (n K : Nat) (s : State) : Nat → State
  | 0 => s.pushCell (arrV c n (oV s.heap.size K 0))
  | i + 1 => (f (mdL f c n K s i)).setCell s.heap.size (arrV c n (oV s.heap.size K (i + 1)))
def mdF : List (ClassId × Nat) → State → State
  | [], s => s
  | [q], s => s.pushCell (arrV q.1 q.2 fun _ => .int 0)
  | q :: q2 :: r, s => mdL (mdF (q2 :: r)) q.1 q.2 (mdC (q2 :: r)) s q.2
def mdX : List (ClassId × Nat) → Nat → Nat → Cell
  | [], _, _ => arrV 0 0 fun _ => .null
  | [q], _, _ => arrV q.1 q.2 fun _ => .int 0
  | q :: q2 :: r, h, j => if j = 0 then arrV q.1 q.2 (oV h (mdC (q2 :: r)) q.2) else mdX (q2 :: r) (h + 1 + (j - 1) / mdC (q2 :: r) * mdC (q2 :: r)) ((j - 1) % mdC (q2 :: r))
theorem oV_set {c : ClassId} {n h K i : Nat} : (arrV c n (oV h K i)).setSlot i (.ref (h + 1 + i * K)) = arrV c n (oV h K (i + 1)) := by
  rw [arrV_store]
  congr 1
  funext j
  unfold updV oV
  by_cases e : j = i
  · subst e
    rw [if_pos rfl, if_pos (by omega)]
  · rw [if_neg e]
    by_cases c2 : j < i
    · rw [if_pos c2, if_pos (by omega)]
    · rw [if_neg c2, if_neg (by omega)]
theorem mdC_pos (q : ClassId × Nat) (r : List (ClassId × Nat)) : 0 < mdC (q :: r) := by unfold mdC; omega
/-- what making does to a state -/
def mdOk (f : State → State) (K M : Nat) (X : Nat → Nat → Cell) : Prop :=
  (∀ s : State, (f s).heap.size = s.heap.size + K ∧ (f s).slotsUsed = s.slotsUsed + M ∧ (f s).vm = s.vm ∧ (∀ a : Nat, a < s.heap.size → (f s).heap[a]? = s.heap[a]?) ∧ ∀ j : Nat, j < K → (f s).heap[s.heap.size + j]? = some (X s.heap.size j)) ∧
  (∀ (s : State) (g : JFrame), f (s.setTop g) = (f s).setTop g) ∧
  ∀ {p : Program} {l : Launch} {e : Env} {R : Room} {s0 : State} {m : MethodId} {args : Array Value} {below : List Frame} {meth : Method} {c : Code} {T : State} {locs : List Loc} {cells slots : Nat}, Stand p l e R s0 m args below meth c T locs cells slots →
    ∃ L : List Loc, Stand p l e R s0 m args below meth c (f T) (locs ++ L) (cells + K) (slots + M) ∧ ∀ q ∈ L, T.heap.size ≤ q.base
theorem mdL_ok {f : State → State} {K M : Nat} {X : Nat → Nat → Cell} (hf : mdOk f K M X) (hK : 0 < K) (c : ClassId) (n : Nat) (s : State) : ∀ i, (mdL f c n K s i).heap.size = s.heap.size + 1 + i * K ∧ (mdL f c n K s i).slotsUsed = s.slotsUsed + n + i * M ∧ (mdL f c n K s i).vm = s.vm ∧ (∀ a : Nat, a < s.heap.size → (mdL f c n K s i).heap[a]? = s.heap[a]?) ∧ (mdL f c n K s i).heap[s.heap.size]? = some (arrV c n (oV s.heap.size K i)) ∧ ∀ j : Nat, j < i * K → (mdL f c n K s i).heap[s.heap.size + 1 + j]? = some (X (s.heap.size + 1 + j / K * K) (j % K))
  | 0 => by
    refine ⟨by simp [mdL], by simp [mdL, arrV_size], rfl, fun a ha => State.heap_pushCell_of_lt _ _ ha, State.heap_pushCell_size _ _, fun j hj => ?_⟩
    rw [Nat.zero_mul] at hj
    exact absurd hj (Nat.not_lt_zero j)
  | i + 1 => by
    obtain ⟨i1, i2, i3, i4, i5, i6⟩ := mdL_ok hf hK c n s i
    obtain ⟨f1, f2, f3, f4, f5⟩ := hf.1 (mdL f c n K s i)
    have hlt : s.heap.size < (mdL f c n K s i).heap.size := by rw [i1]; omega
    have hat : (f (mdL f c n K s i)).heap[s.heap.size]? = some (arrV c n (oV s.heap.size K i)) := by rw [f4 _ hlt]; exact i5
    have hm : (i + 1) * K = i * K + K := Nat.succ_mul i K
    have hm2 : (i + 1) * M = i * M + M := Nat.succ_mul i M
    refine ⟨?_, ?_, ?_, fun a ha => ?_, State.heap_setCell_self hat, fun j hj => ?_⟩
    · show ((f (mdL f c n K s i)).setCell _ _).heap.size = _
      rw [size_setCell, f1, i1]
      omega
    · show (f (mdL f c n K s i)).slotsUsed = _
      rw [f2, i2]
      omega
    · show (f (mdL f c n K s i)).vm = _
      rw [f3, i3]
    · show ((f (mdL f c n K s i)).setCell _ _).heap[a]? = _
      rw [State.heap_setCell_other (Nat.ne_of_gt ha), f4 a (by omega)]
      exact i4 a ha
    · show ((f (mdL f c n K s i)).setCell _ _).heap[s.heap.size + 1 + j]? = _
      rw [State.heap_setCell_other (show s.heap.size ≠ s.heap.size + 1 + j by omega)]
      by_cases c2 : j < i * K
      · rw [f4 _ (by omega)]
        exact i6 j c2
      · obtain ⟨j', rfl⟩ : ∃ j', j = i * K + j' := ⟨j - i * K, by omega⟩
        have e := f5 j' (by omega)
        rw [i1] at e
        rw [show s.heap.size + 1 + (i * K + j') = s.heap.size + 1 + i * K + j' by omega, e]
        have d1 : (i * K + j') / K = i := by
          rw [Nat.add_comm, Nat.add_mul_div_right _ _ hK, Nat.div_eq_of_lt (by omega), Nat.zero_add]
        have d2 : (i * K + j') % K = j' := by
          rw [Nat.add_comm, Nat.add_mul_mod_self_right, Nat.mod_eq_of_lt (by omega)]
        rw [d1, d2]
theorem mdL_top {f : State → State} (hf : ∀ (s : State) (g : JFrame), f (s.setTop g) = (f s).setTop g) (c : ClassId) (n K : Nat) (s : State) (g : JFrame) : ∀ i, mdL f c n K (s.setTop g) i = (mdL f c n K s i).setTop g
  | 0 => rfl
  | i + 1 => by
    show (f (mdL f c n K (s.setTop g) i)).setCell (s.setTop g).heap.size _ = _
    rw [mdL_top hf c n K s g i, hf]
    rfl
theorem mdL_st {f : State → State} {K M : Nat} {X : Nat → Nat → Cell} (hf : mdOk f K M X) (hK : 0 < K) (c : ClassId) (n : Nat) {p : Program} {l : Launch} {e : Env} {R : Room} {s0 : State} {m : MethodId} {args : Array Value} {below : List Frame} {meth : Method} {cc : Code} {T : State} {locs : List Loc} {cells slots : Nat} (XS : Stand p l e R s0 m args below meth cc T locs cells slots) : ∀ i, ∃ L : List Loc, Stand p l e R s0 m args below meth cc (mdL f c n K T i) (locs ++ L) (cells + 1 + i * K) (slots + n + i * M) ∧ ∀ q ∈ L, T.heap.size ≤ q.base
  | 0 => by
    have h := XS.pushed (arrV c n (oV T.heap.size K 0))
    rw [arrV_size] at h
    refine ⟨[], ?_, fun q hq => absurd hq List.not_mem_nil⟩
    rw [List.append_nil, Nat.zero_mul, Nat.zero_mul]
    exact h
  | i + 1 => by
    obtain ⟨L, h1, h2⟩ := mdL_st hf hK c n XS i
    obtain ⟨L2, h3, h4⟩ := hf.2.2 h1
    obtain ⟨i1, -, -, -, i5, -⟩ := mdL_ok hf hK c n T i
    have hlt : T.heap.size < (mdL f c n K T i).heap.size := by rw [i1]; omega
    have hat : (f (mdL f c n K T i)).heap[T.heap.size]? = some (arrV c n (oV T.heap.size K i)) := by rw [(hf.1 _).2.2.2.1 _ hlt]; exact i5
    have h5 := h3.stored hat i (.ref (T.heap.size + 1 + i * K))
    rw [oV_set] at h5
    have hm : (i + 1) * K = i * K + K := Nat.succ_mul i K
    have hm2 : (i + 1) * M = i * M + M := Nat.succ_mul i M
    refine ⟨L ++ L2 ++ [⟨T.heap.size, i⟩], ?_, fun q hq => ?_⟩
    · rw [show cells + 1 + (i + 1) * K = cells + 1 + i * K + K by omega, show slots + n + (i + 1) * M = slots + n + i * M + M by omega, ← List.append_assoc, ← List.append_assoc]
      exact h5
    · rcases List.mem_append.mp hq with g | g
      · rcases List.mem_append.mp g with g | g
        · exact h2 q g
        · have := h4 q g
          omega
      · rw [List.mem_singleton.mp g]
        exact Nat.le_refl _
theorem mdF_ok : ∀ (r : List (ClassId × Nat)) (q : ClassId × Nat), mdOk (mdF (q :: r)) (mdC (q :: r)) (mdW (q :: r)) (mdX (q :: r))
  | [], q => by
    refine ⟨fun s => ⟨?_, ?_, rfl, fun a ha => State.heap_pushCell_of_lt _ _ ha, fun j hj => ?_⟩, fun s g => rfl, fun {p l e R s0 m args below meth c T locs cells slots} XS => ⟨[], ?_, fun q hq => absurd hq List.not_mem_nil⟩⟩
    · simp [mdF, mdC]
    · simp [mdF, mdW, arrV_size]
    · have : j = 0 := by simp [mdC] at hj; exact hj
      subst this
      exact State.heap_pushCell_size _ _
    · have h := XS.pushed (arrV q.1 q.2 fun _ => .int 0)
      rw [arrV_size] at h
      rw [List.append_nil]
      exact h
  | q2 :: r, q => by
    have ih := mdF_ok r q2
    have hK := mdC_pos q2 r
    have ec : mdC (q :: q2 :: r) = 1 + q.2 * mdC (q2 :: r) := rfl
    have es : mdW (q :: q2 :: r) = q.2 + q.2 * mdW (q2 :: r) := rfl
    refine ⟨fun s => ?_, fun s g => mdL_top ih.2.1 q.1 q.2 _ s g q.2, fun {p l e R s0 m args below meth c T locs cells slots} XS => ?_⟩
    · obtain ⟨i1, i2, i3, i4, i5, i6⟩ := mdL_ok ih hK q.1 q.2 s q.2
      refine ⟨by rw [ec, ← Nat.add_assoc]; exact i1, by rw [es, ← Nat.add_assoc]; exact i2, i3, i4, fun j hj => ?_⟩
      show (mdL _ _ _ _ s q.2).heap[s.heap.size + j]? = some (if j = 0 then _ else _)
      by_cases e : j = 0
      · subst e
        rw [if_pos rfl]
        exact i5
      · obtain ⟨j', rfl⟩ : ∃ j', j = j' + 1 := ⟨j - 1, by omega⟩
        rw [if_neg e, Nat.add_sub_cancel, show s.heap.size + (j' + 1) = s.heap.size + 1 + j' by omega]
        exact i6 j' (by omega)
    · obtain ⟨L, h1, h2⟩ := mdL_st ih hK q.1 q.2 XS q.2
      exact ⟨L, by rw [ec, es, ← Nat.add_assoc, ← Nat.add_assoc]; exact h1, h2⟩
/-- the classes of the arrays, from the outermost on -/
def mdK (vm : Vm) : List (ClassId × Nat) → Prop
  | [] => True
  | [q] => ∃ (k : Class) (cc : ClassId), vm.classes[q.1]? = some k ∧ k.kind = .array cc .int
  | q :: q2 :: r => (∃ (k : Class) (t : FieldType), vm.classes[q.1]? = some k ∧ k.kind = .array q2.1 t ∧ t.isReference = true ∧ componentBytes t ≤ 4) ∧ mdK vm (q2 :: r)
theorem md_fits {t : FieldType} (h : t.isReference = true) (v : Value) (hv : v = .null ∨ ∃ a, v = .ref a) : fits t v = true := by
  rcases hv with rfl | ⟨a, rfl⟩ <;> cases t <;> first | rfl | (simp [FieldType.isReference] at h)
theorem md_neg {n : Nat} (h : n ≤ 100000) : ¬ nI n < 0 := by
  rw [Int32.lt_iff_toInt_lt, nI_toInt (by omega), show ((0 : Int32).toInt) = 0 from rfl]
  omega
section
variable {E : CtlPost} {e : Env}
theorem md_new {d : Bool} {acts : List Action} {s : State} {c comp : ClassId} {k : Class} {t : FieldType} {n : Nat} {v : Value} (hk : s.vm.classes[c]? = some k) (hkind : k.kind = .array comp t) (hn : n ≤ 100000) (hl : 536870912 ≤ e.platform.arrayLengthLimit) (hb : 536870912 ≤ e.platform.maxHeapBytes) (hcb : componentBytes t ≤ 4) (hf : fits t v = true)
    (h1 : s.heap.size < e.platform.maxCells) (h2 : s.slotsUsed + n ≤ e.platform.maxSlots) {Q : Addr → Pre} (hq : ∀ acts', Q s.heap.size d acts' (s.pushCell (arrV c n fun _ => v))) : wp (Jvm.newArray c n v) Q E e d acts s := by
  have hby := Nat.mul_le_mul hn hcb
  refine Jvm.W.newArray_of hk hkind (by omega) (by omega) h1 h2 hf fun acts' => ?_
  rw [arrV_new]
  exact hq acts'
theorem md_make : ∀ (r : List (ClassId × Nat)) (q : ClassId × Nat), (∀ x ∈ q :: r, x.2 ≤ 100000) → 536870912 ≤ e.platform.arrayLengthLimit → 536870912 ≤ e.platform.maxHeapBytes → ∀ {d : Bool} {acts : List Action} {s : State} {Q : Addr → Pre}, mdK s.vm (q :: r) → s.heap.size + mdC (q :: r) ≤ e.platform.maxCells → s.slotsUsed + mdW (q :: r) ≤ e.platform.maxSlots → (∀ d' acts', Q s.heap.size d' acts' (mdF (q :: r) s)) → wp (multianewarray.make q.1 (nI q.2 :: r.map fun x => nI x.2)) Q E e d acts s
  | [], q, hn, hl, hb, d, acts, s, Q, hK, h1, h2, hq => by
    have hn' := hn q List.mem_cons_self
    obtain ⟨k, cc, hk, hkind⟩ := hK
    have e1 : mdC [q] = 1 := by simp [mdC]
    have e2 : mdW [q] = q.2 := by simp [mdW]
    rw [List.map_nil, multianewarray.make]
    simp only [wp_bind', W.ite, md_neg hn', if_false, wp_pure', W.theClass, hk, hkind, Option.some.injEq, exists_eq_left', nI_cl (show q.2 < 2147483648 by omega)]
    exact md_new (t := .int) hk hkind hn' hl hb (by decide) rfl (by omega) (by omega) fun acts' => hq _ _
  | q2 :: r, q, hn, hl, hb, d, acts, s, Q, hK, h1, h2, hq => by
    have hn' := hn q List.mem_cons_self
    have hnr : ∀ x ∈ q2 :: r, x.2 ≤ 100000 := fun x hx => hn x (List.mem_cons_of_mem _ hx)
    obtain ⟨⟨k, t, hk, hkind, href, hcb⟩, hK2⟩ := hK
    have ok := mdF_ok r q2
    have hKp := mdC_pos q2 r
    have ec : mdC (q :: q2 :: r) = 1 + q.2 * mdC (q2 :: r) := rfl
    have es : mdW (q :: q2 :: r) = q.2 + q.2 * mdW (q2 :: r) := rfl
    have hfind : ((nI q2.2 :: r.map fun x => nI x.2).find? (· < 0)) = none := by
      rw [List.find?_eq_none]
      intro x hx
      obtain ⟨z, hz, rfl⟩ := List.mem_map.mp (show x ∈ (q2 :: r).map fun x => nI x.2 from hx)
      simpa using md_neg (hnr z hz)
    rw [List.map_cons, multianewarray.make]
    simp only [wp_bind', W.ite, md_neg hn', if_false, wp_pure', W.theClass, hk, hkind, Option.some.injEq, exists_eq_left', nI_cl (show q.2 < 2147483648 by omega)]
    have e0 : oV s.heap.size (mdC (q2 :: r)) 0 = fun _ => Value.null := by
      funext j
      unfold oV
      rw [if_neg (Nat.not_lt_zero j)]
    refine md_new hk hkind hn' hl hb hcb (md_fits href _ (Or.inl rfl)) (by omega) (by omega) fun acts0 => ?_
    simp only [hfind]
    rw [ite_self, wp_bind', Std.Legacy.Range.forIn_eq_forIn_range']
    have hsz : ([:q.2] : Std.Legacy.Range).size = q.2 := by simp [Std.Legacy.Range.size]
    rw [hsz]
    show wp (forIn (List.range' 0 q.2 1) PUnit.unit _) _ E e d acts0 _
    refine wp_forIn_inv (fun rest s' => ∃ i, i ≤ q.2 ∧ rest = List.range' i (q.2 - i) ∧ s' = mdL (mdF (q2 :: r)) q.1 q.2 (mdC (q2 :: r)) s i) _ _ ⟨0, Nat.zero_le _, rfl, ?_⟩ ?_ ?_
    · show _ = s.pushCell (arrV q.1 q.2 (oV s.heap.size (mdC (q2 :: r)) 0))
      rw [e0]
    · rintro x rest s' d' acts' Q' ⟨i, hi, hl', rfl⟩ hnext
      have hlt : i < q.2 := by
        rcases Nat.lt_or_ge i q.2 with h | h
        · exact h
        · rw [show q.2 - i = 0 from by omega] at hl'; simp at hl'
      obtain ⟨rfl, hrest⟩ : x = i ∧ rest = List.range' (i + 1) (q.2 - (i + 1)) := by
        rw [show q.2 - i = (q.2 - (i + 1)) + 1 from by omega, List.range'_succ] at hl'
        exact ⟨(List.cons.inj hl').1, (List.cons.inj hl').2⟩
      obtain ⟨i1, i2, i3, i4, i5, i6⟩ := mdL_ok ok hKp q.1 q.2 s x
      have m1 : x * mdC (q2 :: r) + mdC (q2 :: r) ≤ q.2 * mdC (q2 :: r) := by
        have := Nat.mul_le_mul_right (mdC (q2 :: r)) (show x + 1 ≤ q.2 from hlt)
        rw [Nat.succ_mul] at this; exact this
      have m2 : x * mdW (q2 :: r) + mdW (q2 :: r) ≤ q.2 * mdW (q2 :: r) := by
        have := Nat.mul_le_mul_right (mdW (q2 :: r)) (show x + 1 ≤ q.2 from hlt)
        rw [Nat.succ_mul] at this; exact this
      simp only [wp_bind']
      refine md_make r q2 hnr hl hb (by rw [i3]; exact hK2) (by rw [i1]; omega) (by rw [i2]; omega) fun d'' acts'' => ?_
      obtain ⟨f1, f2, f3, f4, f5⟩ := ok.1 (mdL (mdF (q2 :: r)) q.1 q.2 (mdC (q2 :: r)) s x)
      have hlt0 : s.heap.size < (mdL (mdF (q2 :: r)) q.1 q.2 (mdC (q2 :: r)) s x).heap.size := by rw [i1]; omega
      simp only [wp_bind', W.writeLoc, wp_pure']
      refine ⟨arrV q.1 q.2 (oV s.heap.size (mdC (q2 :: r)) x), by rw [f4 _ hlt0]; exact i5, (fun h => by cases h), by rw [arrV_size]; exact hlt, ?_, hnext _ _ _ ⟨x + 1, hlt, hrest, ?_⟩⟩
      · have hk' : ((mdF (q2 :: r) (mdL (mdF (q2 :: r)) q.1 q.2 (mdC (q2 :: r)) s x)).vm.classes[q.1]?) = some k := by rw [f3, i3]; exact hk
        simp [State.fitsSlot, State.slotType?, hk', hkind, arrV, md_fits href _ (Or.inr ⟨_, rfl⟩)]
      · rw [i1, oV_set]
        rfl
    · rintro s' d' acts' ⟨i, hi, hl', rfl⟩
      have hiN : i = q.2 := by
        rcases Nat.lt_or_ge i q.2 with h | h
        · rw [show q.2 - i = (q.2 - (i + 1)) + 1 from by omega, List.range'_succ] at hl'; cases hl'
        · omega
      subst hiN
      simp only [wp_pure']
      exact hq _ _
end
