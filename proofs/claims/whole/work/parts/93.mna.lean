/-! multianewarray -/
theorem mdK_alike {vm vm' : Vm} (h : vm.Alike vm') : ∀ r, mdK vm r → mdK vm' r
  | [], _ => trivial
  | [q], ⟨k, cc, hk, hkind⟩ => by
    obtain ⟨k', hk', he⟩ := h.2.2 _ _ hk
    exact ⟨k', cc, hk', by rw [he]; exact hkind⟩
  | q :: q2 :: r, ⟨⟨k, t, hk, hkind, h1, h2⟩, hr⟩ => by
    obtain ⟨k', hk', he⟩ := h.2.2 _ _ hk
    exact ⟨⟨k', t, hk', by rw [he]; exact hkind, h1, h2⟩, mdK_alike h (q2 :: r) hr⟩
section
variable {p : Program} {l : Launch} {e : Env} {R : Room} {s : State} {m : MethodId} {args : Array Value} {below : List Frame} {meth : Method} {c : Code} {H : Heap} {locs : List Loc} {cells slots : Nat} {Q : State → Prop}
theorem W_mna2 {cc : ByteArray} (hexec : p.tables.exec = Jvm.exec) (hb : c.code = cc) {q q2 : ClassId × Nat} {own C : String} {index : Nat} (hown : s.vm.findClass own = some m.cls) (hclink : (Cond.classLink own index C).before args s = true) (hfc : s.vm.findClass C = some q.1) (hK : mdK s.vm [q, q2]) (hn : ∀ x ∈ [q, q2], x.2 ≤ 100000)
    {g : JFrame} (hg : g.method = m) (hdg : decode cc g.pc = .ok (.multianewarray index 2, 4)) {rest : List Value} (hstack : g.stack = .int (nI q2.2) :: .int (nI q.2) :: rest) (hcells : cells + mdC [q, q2] ≤ R.cells) (hslots : slots + mdW [q, q2] ≤ R.slots)
    (kk : ∀ (H' : Heap) (L : List Loc), H'.size = H.size + mdC [q, q2] → (∀ a : Nat, a < H.size → H'[a]? = H[a]?) → (∀ j : Nat, j < mdC [q, q2] → H'[H.size + j]? = some (mdX [q, q2] H.size j)) → (∀ x ∈ L, H.size ≤ x.base) →
      W p l e R s m args below meth c H' (locs ++ L) (cells + mdC [q, q2]) (slots + mdW [q, q2]) Q { g with pc := g.pc + 4, stack := .ref H.size :: rest }) : W p l e R s m args below meth c H locs cells slots Q g := by
  intro T hT X
  subst hT; subst hb; subst hg
  have hpl : e.platform.magicAccessors = ({} : Platform).magicAccessors := by rw [X.admits.platform]
  obtain ⟨c0, hfc0, hcl⟩ := Cond.classLink_spec hown hclink e.platform hpl
  have ec : q.1 = c0 := Option.some.inj (hfc.symm.trans hfc0)
  subst ec
  obtain ⟨hg₁, hwarm₁, hready₁⟩ := State.classEntry (e := e) X.warmed hcl
  generalize T.vm.noted g.method.cls index (.cls q.1) = vm₁ at hg₁ hwarm₁ hready₁
  have hK₁ := mdK_alike hwarm₁.alike _ hK
  have X₁ := X.noted hwarm₁
  have ok := mdF_ok [q2] q
  obtain ⟨L, X₂, hL⟩ := ok.2.2 X₁
  obtain ⟨f1, -, -, f4, f5⟩ := ok.1 (T.setVm vm₁)
  obtain ⟨hr1, hr2⟩ := X.roomAbove hcells hslots
  obtain ⟨t', a1, b1⟩ := kk (mdF [q, q2] (T.setVm vm₁)).heap L f1 f4 f5 hL (mdF [q, q2] (T.setVm vm₁)) rfl X₂
  refine ⟨t', ?_, b1⟩
  jvm_step X.here [hexec, hdg]
  simp only [multianewarray.sem, wp_bind', Jvm.W.resolveClassAt_links (State.method?_setTop g X.here.top) hg₁]
  rw [Jvm.W.popN, if_neg (by decide)]
  refine ⟨g, State.topJava?_setTop' (s := T.setVm vm₁) g X.here.top, [.int (nI q.2), .int (nI q2.2)], rest, rfl, hstack, ?_⟩
  simp only [List.mapM_cons, List.mapM_nil, wp_bind', wp_pure']
  refine md_make [q2] q hn (by rw [Launch.admits_arrayLengthLimit X.admits]; omega) (by rw [Launch.admits_maxHeapBytes X.admits]; omega) hK₁ (by show T.heap.size + _ ≤ _; exact hr1) (by show T.slotsUsed + _ ≤ _; exact hr2) (fun d' acts' => ?_)
  have eS : ((T.setTop g).setVm vm₁).setTop { g with stack := rest } = (T.setVm vm₁).setTop { g with stack := rest } := by
    show ((T.setVm vm₁).setTop g).setTop _ = _
    rw [State.setTop_setTop]
  rw [eS, ok.2.1]
  simp only [wp_bind', Jvm.W.mark, Jvm.W.pushRef, State.topJava?_setTop' _ X₂.here.top, Option.some.injEq, exists_eq_left', State.setTop_setTop, State.heap_setTop]
  intro acts
  simp [jvm, X₂.here.top]
  exact a1
theorem W_mna3 {cc : ByteArray} (hexec : p.tables.exec = Jvm.exec) (hb : c.code = cc) {q q2 q3 : ClassId × Nat} {own C : String} {index : Nat} (hown : s.vm.findClass own = some m.cls) (hclink : (Cond.classLink own index C).before args s = true) (hfc : s.vm.findClass C = some q.1) (hK : mdK s.vm [q, q2, q3]) (hn : ∀ x ∈ [q, q2, q3], x.2 ≤ 100000)
    {g : JFrame} (hg : g.method = m) (hdg : decode cc g.pc = .ok (.multianewarray index 3, 4)) {rest : List Value} (hstack : g.stack = .int (nI q3.2) :: .int (nI q2.2) :: .int (nI q.2) :: rest) (hcells : cells + mdC [q, q2, q3] ≤ R.cells) (hslots : slots + mdW [q, q2, q3] ≤ R.slots)
    (kk : ∀ (H' : Heap) (L : List Loc), H'.size = H.size + mdC [q, q2, q3] → (∀ a : Nat, a < H.size → H'[a]? = H[a]?) → (∀ j : Nat, j < mdC [q, q2, q3] → H'[H.size + j]? = some (mdX [q, q2, q3] H.size j)) → (∀ x ∈ L, H.size ≤ x.base) →
      W p l e R s m args below meth c H' (locs ++ L) (cells + mdC [q, q2, q3]) (slots + mdW [q, q2, q3]) Q { g with pc := g.pc + 4, stack := .ref H.size :: rest }) : W p l e R s m args below meth c H locs cells slots Q g := by
  intro T hT X
  subst hT; subst hb; subst hg
  have hpl : e.platform.magicAccessors = ({} : Platform).magicAccessors := by rw [X.admits.platform]
  obtain ⟨c0, hfc0, hcl⟩ := Cond.classLink_spec hown hclink e.platform hpl
  have ec : q.1 = c0 := Option.some.inj (hfc.symm.trans hfc0)
  subst ec
  obtain ⟨hg₁, hwarm₁, hready₁⟩ := State.classEntry (e := e) X.warmed hcl
  generalize T.vm.noted g.method.cls index (.cls q.1) = vm₁ at hg₁ hwarm₁ hready₁
  have hK₁ := mdK_alike hwarm₁.alike _ hK
  have X₁ := X.noted hwarm₁
  have ok := mdF_ok [q2, q3] q
  obtain ⟨L, X₂, hL⟩ := ok.2.2 X₁
  obtain ⟨f1, -, -, f4, f5⟩ := ok.1 (T.setVm vm₁)
  obtain ⟨hr1, hr2⟩ := X.roomAbove hcells hslots
  obtain ⟨t', a1, b1⟩ := kk (mdF [q, q2, q3] (T.setVm vm₁)).heap L f1 f4 f5 hL (mdF [q, q2, q3] (T.setVm vm₁)) rfl X₂
  refine ⟨t', ?_, b1⟩
  jvm_step X.here [hexec, hdg]
  simp only [multianewarray.sem, wp_bind', Jvm.W.resolveClassAt_links (State.method?_setTop g X.here.top) hg₁]
  rw [Jvm.W.popN, if_neg (by decide)]
  refine ⟨g, State.topJava?_setTop' (s := T.setVm vm₁) g X.here.top, [.int (nI q.2), .int (nI q2.2), .int (nI q3.2)], rest, rfl, hstack, ?_⟩
  simp only [List.mapM_cons, List.mapM_nil, wp_bind', wp_pure']
  refine md_make [q2, q3] q hn (by rw [Launch.admits_arrayLengthLimit X.admits]; omega) (by rw [Launch.admits_maxHeapBytes X.admits]; omega) hK₁ (by show T.heap.size + _ ≤ _; exact hr1) (by show T.slotsUsed + _ ≤ _; exact hr2) (fun d' acts' => ?_)
  have eS : ((T.setTop g).setVm vm₁).setTop { g with stack := rest } = (T.setVm vm₁).setTop { g with stack := rest } := by
    show ((T.setVm vm₁).setTop g).setTop _ = _
    rw [State.setTop_setTop]
  rw [eS, ok.2.1]
  simp only [wp_bind', Jvm.W.mark, Jvm.W.pushRef, State.topJava?_setTop' _ X₂.here.top, Option.some.injEq, exists_eq_left', State.setTop_setTop, State.heap_setTop]
  intro acts
  simp [jvm, X₂.here.top]
  exact a1
end
