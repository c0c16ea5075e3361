/-! calls -/
section JCl
variable {E : JE} {n0 nE d : Nat} {y : JY} {K : Option Value → JS → Prop} {pc : Nat} {ls : List (Option Value)} {st : List Value} {g : JS}
theorem jP_blind {as : List Value} {g : JS} : FrameBlind (jP E as g) := fun a U fr mk h => ⟨h.1, h.2.1, JKn.warm (U := U.calling fr mk a) (State.WarmedH.refl U) h.2.2⟩
theorem jcats (b : Nat) (l : List Value) : ((l.map (jrl b)).map fun v => v.category).sum = (l.map fun v => v.category).sum := by
  rw [List.map_map]
  congr 1
  apply List.map_congr_left
  intro v _
  exact jrl_cat _ _
/-- what a call site's tables say, of any kind of call -/
abbrev jcB (y' : JY) (n : Nat) : Prop := Cond.code y'.1 y'.2.1 y'.2.2.1 y'.2.2.2 ∈ lw_gd ∧ Cond.initialized y'.1.cls ∈ lw_gd ∧ (y'.1.cls ≠ "java/lang/invoke/MethodHandle" ∧ y'.1.cls ≠ "java/lang/invoke/VarHandle") ∧ (parseMethodDescriptor y'.1.desc).map (fun d => d.parameters.length) = some n ∧ y'.2.2.1 ≤ 80
abbrev jcV (own : String) (idx : Nat) (y' : JY) (n : Nat) : Prop := jcB y' n ∧ Cond.methodLink own idx y'.1 ∈ lw_gd ∧ Cond.instanceMethod y'.1 ∈ lw_gd ∧ Cond.selects y'.1.cls y'.1 y'.1 ∈ lw_gd
abbrev jcS (own : String) (idx : Nat) (y' : JY) (n : Nat) : Prop := jcB y' n ∧ Cond.methodLink own idx y'.1 ∈ lw_gd ∧ Cond.static y'.1 ∈ lw_gd
abbrev jcSN (own : String) (idx : Nat) (y' : JY) (n : Nat) (host : String) : Prop := jcB y' n ∧ Cond.methodLinkNest own idx y'.1 host ∈ lw_nest ∧ Cond.static y'.1 ∈ lw_gd
abbrev jcI (own : String) (idx : Nat) (y' : JY) (n : Nat) : Prop := jcB y' n ∧ y'.2.2.2 = none ∧ y'.1.name = "<init>" ∧ Cond.methodLink own idx y'.1 ∈ lw_gd ∧ Cond.instanceMethod y'.1 ∈ lw_gd
abbrev jcIN (own : String) (idx : Nat) (y' : JY) (n : Nat) (host : String) : Prop := jcB y' n ∧ y'.2.2.2 = none ∧ y'.1.name = "<init>" ∧ Cond.methodLinkNest own idx y'.1 host ∈ lw_nest ∧ Cond.instanceMethod y'.1 ∈ lw_gd
theorem jgood {y' : JY} (hc : Cond.code y'.1 y'.2.1 y'.2.2.1 y'.2.2.2 ∈ lw_gd) : GoodIn (jwd y) (jwd y') := by
  intro w hw
  have hg : w ∈ lw_gd := by
    rcases List.mem_cons.mp hw with rfl | h
    · exact hc
    · exact h
  exact ⟨List.mem_cons_of_mem _ hg, good_of_word (lw_gd_ok hg).2⟩
theorem jsig {y' : JY} {n : Nat} (h : (parseMethodDescriptor y'.1.desc).map (fun d => d.parameters.length) = some n) : ∀ sig, parseMethodDescriptor y'.1.desc = some sig → n = sig.parameters.length := by
  intro sig hs
  rw [hs] at h
  exact (Option.some.inj h).symm
theorem jroom {n0 n1 nE gn d d' mL : Nat} (h1 : n0 ≤ gn) (h2 : gn ≤ n1) (h3 : n1 ≤ nE) (hd : d' + 1 ≤ d) (hm : mL ≤ 80) :
    (jrm gn n1 d').frames + 1 ≤ (jrm n0 nE d).frames ∧ 8 + (mL + 11) + (jrm gn n1 d').locals ≤ (jrm n0 nE d).locals ∧ (gn - n0 + (n1 - gn) ≤ (jrm n0 nE d).cells ∧ jsl gn - jsl n0 + (jsl n1 - jsl gn) ≤ (jrm n0 nE d).slots) ∧ (gn - n0 + (n1 - gn) = n1 - n0 ∧ jsl gn - jsl n0 + (jsl n1 - jsl gn) = jsl n1 - jsl n0) := by
  have a1 := jsl_mono h1
  have a2 := jsl_mono h2
  have a3 := jsl_mono h3
  show d' + 1 ≤ d ∧ 8 + (mL + 11) + 100 * d' ≤ 100 * d ∧ (gn - n0 + (n1 - gn) ≤ nE - n0 ∧ jsl gn - jsl n0 + (jsl n1 - jsl gn) ≤ jsl nE - jsl n0) ∧ (gn - n0 + (n1 - gn) = n1 - n0 ∧ jsl gn - jsl n0 + (jsl n1 - jsl gn) = jsl n1 - jsl n0)
  omega
/-- behind a call -/
theorem jback {p : Program} {e : Env} {s : State} {m : MethodId} {args aa : Array Value} {below : List Frame} {meth : Method} {c : Code} {H : Heap} {locs : List Loc} {A : Array Slot} {n1 : Nat} {K' : Option Value → JS → Prop} {st0 : List Value} {R : Room}
    (hr : va_Run p E.1 e R s m args below meth c H locs (g.1 - n0) (jsl g.1 - jsl n0) (n1 - g.1) (jsl n1 - jsl g.1) (F0 m pc A st0) (st.map (jrl E.2.1)) (jQ E n1 K' aa) (jFr E))
    (hR : R = jrm n0 nE d) (hcell : g.1 - n0 + (n1 - g.1) = n1 - n0 ∧ jsl g.1 - jsl n0 + (jsl n1 - jsl g.1) = jsl n1 - jsl n0)
    (X : JX E n0 y p s m args meth c) (hS : va_S (jFr E) s.heap H locs) (hl : jl E.2.1 y.2.2.1 ls A)
    (kk : ∀ v g', K' v g' → g'.1 = n1 → JV E n0 nE d y K (pc + 3) ls (v.toList ++ st) g') :
    W p E.1 e R s m args below meth c H locs (g.1 - n0) (jsl g.1 - jsl n0) (MQ below (jQ E nE K) args s (nE - n0) (jsl nE - jsl n0) (jFr E)) (F0 m pc A st0) := by
  subst hR
  intro T hT XS
  obtain ⟨v, s0, t, T', L, h0, X', hL, e1, e2, ⟨⟨v', g', hv, hk, hn, hcat, hH'⟩, hz, hF⟩, step⟩ := hr T hT XS
  cases hv
  rw [h0] at hz hF
  rw [hcell.1, hcell.2] at X'
  have h := kk v' g' hk hn p e s m args below meth c T'.heap (locs ++ L) A X (by rw [e1]; exact hH') ⟨Nat.le_trans hS.1 (by rw [e1]; exact hz), fun q h1 h2 => by rw [e1, hF q (Nat.lt_of_lt_of_le h1 hS.1) h2]; exact hS.2.1 q h1 h2, fun q hq => by
      rcases List.mem_append.mp hq with h | h
      · exact hS.2.2 q h
      · exact hL q h⟩ hl
  rw [hn] at h
  obtain ⟨t2, a1, b1⟩ := h T' rfl X'
  refine ⟨t2, step t2 ?_, b1⟩
  have es : (v'.toList ++ st).map (jrl E.2.1) = (v'.map (jrl E.2.1)).toList ++ st.map (jrl E.2.1) := by cases v' <;> simp
  rw [es] at a1
  exact a1
theorem jv_callV {idx n n1 d' a ci : Nat} {y' : JY} {as : List Value} {K' : Option Value → JS → Prop} {r : vw_C} (hw : jcV y.1.cls idx y' n) (hd : decode y.2.1 pc = .ok (.invokevirtual idx, 3)) (hn : as.length = n) (hst : (st.map fun v => v.category).sum ≤ 8)
    (hkd : jkd a = .inl ci) (hci : vwCl[ci]? = some r) (hcl : r.1 = y'.1.cls) (ha : a < g.1) (hd' : d' + 1 ≤ d) (h1 : n0 ≤ g.1) (h2 : g.1 ≤ n1) (h3 : n1 ≤ nE)
    (hM : JC E g.1 n1 d' y' (.ref a :: as) K' g) (kk : ∀ v g', K' v g' → g'.1 = n1 → JV E n0 nE d y K (pc + 3) ls (v.toList ++ st) g') : JV E n0 nE d y K pc ls (as.reverse ++ .ref a :: st) g := by
  intro p e s m args below meth c H locs A X hH hS hl
  obtain ⟨⟨w1, w2, w3, w4, w5⟩, w6, w7, w8⟩ := hw
  have hts := X.2.2.2.2.2.2.2.1
  have hin : ∀ {w : Cond}, w ∈ lw_gd → w.before args s = true := fun h => hts _ (List.mem_cons_of_mem _ h)
  obtain ⟨r1, r2, r3, r4⟩ := jroom (mL := y'.2.2.1) h1 h2 h3 hd' w5
  have hat := hH.2 a ha
  rw [jen_obj hkd] at hat
  obtain ⟨r', q1, cell, q2, q3, q4, q5⟩ := hat
  cases q1.symm.trans hci
  have hcls := (X.2.2.2.2.2.2.2.2.1.1.1 ci _ hci).2.1
  refine jback (n1 := n1) (aa := (Value.ref (E.2.1 + a) :: as.map (jrl E.2.1)).toArray) (K' := K') ?_ rfl r4 X hS hl kk
  refine va_runV (C := y'.1.cls) (n := n) (b := E.2.1 + a) (As := as.map (jrl E.2.1)) (Ts := jwd y) (nL := y.2.2.1) (cc := y.2.1) (index := idx) ⟨X.1, X.2.1, X.2.2.1, X.2.2.2.2.2.1, hts⟩ hM ⟨⟨rfl, rfl, r1, r2, pay_in hts (jgood w1), List.mem_cons_self, hin w1, hin w2, w3, jsig w4, hin w6⟩, hin w7, hin w8⟩
    ⟨jP_blind, ⟨cell, q2, by rw [q4]; rfl, by rw [q3, ← hcl]; exact hcls⟩, fun U hU hW => ⟨rfl, by rw [hU]; exact hH, JKn.warm hW X.2.2.2.2.2.2.2.2.1⟩⟩ rfl (by rw [List.length_map]; exact hn) hl.1.1 (by simp [List.map_append, List.map_reverse, jrl]) (by rw [jcats]; show 2 * 0 + _ ≤ 8; omega) hd ⟨r3.1, r3.2⟩
theorem jv_callS {idx n n1 d' : Nat} {y' : JY} {as : List Value} {K' : Option Value → JS → Prop} (hw : jcS y.1.cls idx y' n) (hd : decode y.2.1 pc = .ok (.invokestatic idx, 3)) (hn : as.length = n) (hst : (st.map fun v => v.category).sum ≤ 8)
    (hd' : d' + 1 ≤ d) (h1 : n0 ≤ g.1) (h2 : g.1 ≤ n1) (h3 : n1 ≤ nE)
    (hM : JC E g.1 n1 d' y' as K' g) (kk : ∀ v g', K' v g' → g'.1 = n1 → JV E n0 nE d y K (pc + 3) ls (v.toList ++ st) g') : JV E n0 nE d y K pc ls (as.reverse ++ st) g := by
  intro p e s m args below meth c H locs A X hH hS hl
  obtain ⟨⟨w1, w2, w3, w4, w5⟩, w6, w7⟩ := hw
  have hts := X.2.2.2.2.2.2.2.1
  have hin : ∀ {w : Cond}, w ∈ lw_gd → w.before args s = true := fun h => hts _ (List.mem_cons_of_mem _ h)
  obtain ⟨r1, r2, r3, r4⟩ := jroom (mL := y'.2.2.1) h1 h2 h3 hd' w5
  refine jback (n1 := n1) (aa := (as.map (jrl E.2.1)).toArray) (K' := K') ?_ rfl r4 X hS hl kk
  refine va_runS (n := n) (As := as.map (jrl E.2.1)) (Ts := jwd y) (nL := y.2.2.1) (cc := y.2.1) (index := idx) ⟨X.1, X.2.1, X.2.2.1, X.2.2.2.2.2.1, hts⟩ hM ⟨⟨rfl, rfl, r1, r2, pay_in hts (jgood w1), List.mem_cons_self, hin w1, hin w2, w3, jsig w4, hin w6⟩, hin w7⟩
    ⟨jP_blind, fun U hU hW => ⟨rfl, by rw [hU]; exact hH, JKn.warm hW X.2.2.2.2.2.2.2.2.1⟩⟩ rfl (by rw [List.length_map]; exact hn) hl.1.1 (by simp [List.map_append, List.map_reverse]) (by rw [jcats]; show 2 * 0 + _ ≤ 8; omega) hd ⟨r3.1, r3.2⟩
theorem jv_callSN {idx n n1 d' : Nat} {y' : JY} {as : List Value} {K' : Option Value → JS → Prop} {host : String} (hw : jcSN y.1.cls idx y' n host) (hd : decode y.2.1 pc = .ok (.invokestatic idx, 3)) (hn : as.length = n) (hst : (st.map fun v => v.category).sum ≤ 8)
    (hd' : d' + 1 ≤ d) (h1 : n0 ≤ g.1) (h2 : g.1 ≤ n1) (h3 : n1 ≤ nE)
    (hM : JC E g.1 n1 d' y' as K' g) (kk : ∀ v g', K' v g' → g'.1 = n1 → JV E n0 nE d y K (pc + 3) ls (v.toList ++ st) g') : JV E n0 nE d y K pc ls (as.reverse ++ st) g := by
  intro p e s m args below meth c H locs A X hH hS hl
  obtain ⟨⟨w1, w2, w3, w4, w5⟩, w6, w7⟩ := hw
  have hts := X.2.2.2.2.2.2.2.1
  have hin : ∀ {w : Cond}, w ∈ lw_gd → w.before args s = true := fun h => hts _ (List.mem_cons_of_mem _ h)
  obtain ⟨r1, r2, r3, r4⟩ := jroom (mL := y'.2.2.1) h1 h2 h3 hd' w5
  refine jback (n1 := n1) (aa := (as.map (jrl E.2.1)).toArray) (K' := K') ?_ rfl r4 X hS hl kk
  refine va_runSN (n := n) (As := as.map (jrl E.2.1)) (Ts := jwd y) (nL := y.2.2.1) (cc := y.2.1) (index := idx) (host := host) ⟨X.1, X.2.1, X.2.2.1, X.2.2.2.2.2.1, hts⟩ hM ⟨⟨⟨rfl, rfl, r1, r2, pay_in hts (jgood w1), List.mem_cons_self⟩, hin w1, hin w2, w3, jsig w4, va_Nw.use rfl (X.2.2.2.2.2.2.2.2.1.2.2.2.2 _ w6)⟩, hin w7, trivial⟩
    ⟨jP_blind, fun U hU hW => ⟨rfl, by rw [hU]; exact hH, JKn.warm hW X.2.2.2.2.2.2.2.2.1⟩⟩ rfl (by rw [List.length_map]; exact hn) hl.1.1 (by simp [List.map_append, List.map_reverse]) (by rw [jcats]; show 2 * 0 + _ ≤ 8; omega) hd ⟨r3.1, r3.2⟩
/-- constructors -/
theorem jv_callI {idx n n1 d' a : Nat} {y' : JY} {as : List Value} {K' : Option Value → JS → Prop} (hw : jcI y.1.cls idx y' n) (hd : decode y.2.1 pc = .ok (.invokespecial idx, 3)) (hn : as.length = n) (hst : (st.map fun v => v.category).sum ≤ 8)
    (hd' : d' + 1 ≤ d) (h1 : n0 ≤ g.1) (h2 : g.1 ≤ n1) (h3 : n1 ≤ nE)
    (hM : JC E g.1 n1 d' y' (.ref a :: as) K' g) (kk : ∀ v g', K' v g' → g'.1 = n1 → JV E n0 nE d y K (pc + 3) ls (v.toList ++ st) g') : JV E n0 nE d y K pc ls (as.reverse ++ .ref a :: st) g := by
  intro p e s m args below meth c H locs A X hH hS hl
  obtain ⟨⟨w1, w2, w3, w4, w5⟩, w0, w6, w7, w8⟩ := hw
  have hts := X.2.2.2.2.2.2.2.1
  have hin : ∀ {w : Cond}, w ∈ lw_gd → w.before args s = true := fun h => hts _ (List.mem_cons_of_mem _ h)
  obtain ⟨r1, r2, r3, r4⟩ := jroom (mL := y'.2.2.1) h1 h2 h3 hd' w5
  refine jback (n1 := n1) (aa := (Value.ref (E.2.1 + a) :: as.map (jrl E.2.1)).toArray) (K' := K') ?_ rfl r4 X hS hl kk
  have hM' := hM
  unfold JC at hM'
  refine va_runI (maxL := y'.2.2.1) (bytes := y'.2.1) (n := n) (b := E.2.1 + a) (As := as.map (jrl E.2.1)) (Ts := jwd y) (nL := y.2.2.1) (cc := y.2.1) (index := idx) ⟨X.1, X.2.1, X.2.2.1, X.2.2.2.2.2.1, hts⟩ hM' ⟨⟨rfl, rfl, r1, r2, pay_in hts (jgood w1), by rw [← w0]; exact List.mem_cons_self, by rw [← w0]; exact hin w1, hin w2, w3, jsig w4, hin w7⟩, w6, hin w8⟩
    ⟨jP_blind, fun U hU hW => ⟨rfl, by rw [hU]; exact hH, JKn.warm hW X.2.2.2.2.2.2.2.2.1⟩⟩ rfl (by rw [List.length_map]; exact hn) hl.1.1 (by simp [List.map_append, List.map_reverse, jrl]) (by rw [jcats]; show 2 * 0 + _ ≤ 8; omega) hd ⟨r3.1, r3.2⟩
theorem jv_callIN {idx n n1 d' a : Nat} {y' : JY} {as : List Value} {K' : Option Value → JS → Prop} {host : String} (hw : jcIN y.1.cls idx y' n host) (hd : decode y.2.1 pc = .ok (.invokespecial idx, 3)) (hn : as.length = n) (hst : (st.map fun v => v.category).sum ≤ 8)
    (hd' : d' + 1 ≤ d) (h1 : n0 ≤ g.1) (h2 : g.1 ≤ n1) (h3 : n1 ≤ nE)
    (hM : JC E g.1 n1 d' y' (.ref a :: as) K' g) (kk : ∀ v g', K' v g' → g'.1 = n1 → JV E n0 nE d y K (pc + 3) ls (v.toList ++ st) g') : JV E n0 nE d y K pc ls (as.reverse ++ .ref a :: st) g := by
  intro p e s m args below meth c H locs A X hH hS hl
  obtain ⟨⟨w1, w2, w3, w4, w5⟩, w0, w6, w7, w8⟩ := hw
  have hts := X.2.2.2.2.2.2.2.1
  have hin : ∀ {w : Cond}, w ∈ lw_gd → w.before args s = true := fun h => hts _ (List.mem_cons_of_mem _ h)
  obtain ⟨r1, r2, r3, r4⟩ := jroom (mL := y'.2.2.1) h1 h2 h3 hd' w5
  refine jback (n1 := n1) (aa := (Value.ref (E.2.1 + a) :: as.map (jrl E.2.1)).toArray) (K' := K') ?_ rfl r4 X hS hl kk
  have hM' := hM
  unfold JC at hM'
  refine va_runIN (maxL := y'.2.2.1) (bytes := y'.2.1) (n := n) (b := E.2.1 + a) (As := as.map (jrl E.2.1)) (Ts := jwd y) (nL := y.2.2.1) (cc := y.2.1) (index := idx) (host := host) ⟨X.1, X.2.1, X.2.2.1, X.2.2.2.2.2.1, hts⟩ hM' ⟨⟨⟨rfl, rfl, r1, r2, pay_in hts (jgood w1), by rw [← w0]; exact List.mem_cons_self⟩, by rw [← w0]; exact hin w1, hin w2, w3, jsig w4, va_Nw.use rfl (X.2.2.2.2.2.2.2.2.1.2.2.2.2 _ w7)⟩, w6, hin w8⟩
    ⟨jP_blind, fun U hU hW => ⟨rfl, by rw [hU]; exact hH, JKn.warm hW X.2.2.2.2.2.2.2.2.1⟩⟩ rfl (by rw [List.length_map]; exact hn) hl.1.1 (by simp [List.map_append, List.map_reverse, jrl]) (by rw [jcats]; show 2 * 0 + _ ≤ 8; omega) hd ⟨r3.1, r3.2⟩
theorem JC.mono {n0 n1 d : Nat} {y : JY} {as : List Value} {K K' : Option Value → JS → Prop} {g : JS} (h : JC E n0 n1 d y as K g) (hk : ∀ v g', K v g' → K' v g') : JC E n0 n1 d y as K' g := by
  intro p e ha hc hs s m args below hf happ hP hK
  obtain ⟨t, o, a1, a2, a3, ⟨⟨⟨v, g', b1, b2, b3⟩, b4⟩, b5⟩⟩ := h p e ha hc hs s m args below hf happ hP hK
  exact ⟨t, o, a1, a2, a3, ⟨⟨⟨v, g', b1, hk _ _ b2, b3⟩, b4⟩, b5⟩⟩
end JCl
