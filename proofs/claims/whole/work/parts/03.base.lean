/-! THE ABSTRACT MACHINE: memory by relative addresses; a judgement JV over W, an instruction a lemma -/
abbrev JE : Type := Launch × Nat × va_G × (FieldType → ClassId)
abbrev JM : Type := Nat → Nat → Int32
abbrev JR : Type := Nat → Nat → Option Nat
abbrev JS : Type := Nat × JR × JM
abbrev JY : Type := MethodName × ByteArray × Nat × Option FieldType
/-- a kind of cell: an object of class ci, or an array of n elements of a type -/
abbrev JK : Type := Nat ⊕ (FieldType × Nat)
def jkf : List (Nat × JK) → Nat → JK → JK
  | [], _, d => d
  | (s, k) :: r, a, d => if a < s then d else jkf r a k
def jkl : List (Nat × JK) := [(0, .inl 7), (1, .inl 2), (2, .inl 1), (3, .inr (.int, 12)), (8, .inr (.boolean, 12)), (9, .inr (.int, 8)), (10, .inl 0), (11, .inr (.int, 192)), (14, .inr (.int, 2304)), (15, .inr (.int, 1536)), (16, .inl 0), (17, .inr (.int, 192)), (20, .inr (.int, 2304)), (21, .inr (.int, 1536)), (22, .inr (.int, 192)), (25, .inr (.boolean, 192)), (26, .inr (.int, 192)), (27, .inl 0), (28, .inr (.int, 1)), (31, .inr (.int, 12)), (32, .inr (.int, 8)), (33, .inl 3), (34, .inr (.int, 8)), (36, .inr (.boolean, 8)), (37, .inl 2), (38, .inl 1), (39, .inr (.int, 12)), (44, .inr (.boolean, 12)), (45, .inr (.int, 8)), (46, .inl 0), (47, .inr (.int, 192)), (50, .inr (.int, 2304)), (51, .inr (.int, 1536)), (52, .inl 0), (53, .inr (.int, 192)), (56, .inr (.int, 2304)), (57, .inr (.int, 1536)), (58, .inr (.int, 192)), (61, .inr (.boolean, 192)), (62, .inr (.int, 192)), (63, .inl 0), (64, .inr (.int, 1)), (67, .inr (.int, 12)), (68, .inr (.int, 8)), (69, .inl 3), (70, .inr (.int, 8)), (72, .inr (.boolean, 8)), (73, .inl 2), (74, .inl 1), (75, .inr (.int, 12)), (80, .inr (.boolean, 12)), (81, .inr (.int, 8)), (82, .inl 0), (83, .inr (.int, 192)), (86, .inr (.int, 2304)), (87, .inr (.int, 1536)), (88, .inl 0), (89, .inr (.int, 192)), (92, .inr (.int, 2304)), (93, .inr (.int, 1536)), (94, .inr (.int, 192)), (97, .inr (.boolean, 192)), (98, .inr (.int, 192)), (99, .inl 0), (100, .inr (.int, 1)), (103, .inr (.int, 12)), (104, .inr (.int, 8)), (105, .inl 3), (106, .inr (.int, 8)), (108, .inr (.boolean, 8)), (109, .inl 4), (110, .inr (.int, 8)), (114, .inr (.object RX3, 3)), (115, .inl 3), (116, .inr (.int, 8)), (118, .inr (.boolean, 8)), (119, .inl 3), (120, .inr (.int, 8)), (122, .inr (.boolean, 8)), (123, .inl 3), (124, .inr (.int, 8)), (126, .inr (.boolean, 8)), (127, .inl 6), (128, .inr (.int, 9)), (129, .inl 5), (130, .inr (.int, 4)), (132, .inr (.array .int, 4)), (133, .inr (.int, 40)), (137, .inl 8), (138, .inr (.int, 12)), (142, .inr (.int, 24)), (143, .inr (.int, 192)), (147, .inr (.array .int, 192)), (148, .inr (.int, 12)), (340, .inr (.array .int, 192)), (341, .inr (.int, 8)), (533, .inr (.int, 400)), (539, .inr (.array .int, 400)), (540, .inr (.int, 12)), (940, .inr (.array .int, 400)), (941, .inr (.int, 8)), (1343, .inr (.int, 12)), (1344, .inr (.int, 8)), (1345, .inr (.int, 9)), (1346, .inr (.array .int, 2)), (1347, .inr (.int, 4)), (1349, .inr (.array .int, 8)), (1350, .inr (.int, 24)), (1358, .inr (.array .int, 8)), (1359, .inr (.int, 192)), (1367, .inr (.array .int, 12)), (1368, .inr (.int, 400)), (1380, .inr (.array (.array .int), 2)), (1381, .inr (.array .int, 192)), (1382, .inr (.int, 12)), (1574, .inr (.array .int, 192)), (1575, .inr (.int, 12)), (1767, .inr (.array (.array .int), 2)), (1768, .inr (.array .int, 192)), (1769, .inr (.int, 8)), (1961, .inr (.array .int, 192)), (1962, .inr (.int, 8)), (2154, .inr (.array (.array .int), 2)), (2155, .inr (.array .int, 400)), (2156, .inr (.int, 12)), (2556, .inr (.array .int, 400)), (2557, .inr (.int, 12)), (2957, .inr (.array (.array .int), 2)), (2958, .inr (.array .int, 400)), (2959, .inr (.int, 8)), (3359, .inr (.array .int, 400)), (3360, .inr (.int, 8)), (3760, .inr (.array .int, 2)), (3761, .inr (.int, 24)), (3763, .inr (.int, 4)), (3765, .inr (.array .int, 4)), (3766, .inr (.int, 40))]
def jkd (a : Nat) : JK := jkf jkl a (.inl 0)
/-- how many fields class ci has; which of them hold references -/
def jisR : FieldType → Bool
  | .array _ => true
  | .object _ => true
  | _ => false
def jnf : Nat → Nat
  | 0 => 5
  | 1 => 8
  | 2 => 13
  | 3 => 3
  | 4 => 5
  | 5 => 3
  | 6 => 4
  | 7 => 7
  | _ => 48
def jfr (ci k : Nat) : Bool := jisR ((match ci with
  | 0 => tyX0
  | 1 => tyX1
  | 2 => tyX2
  | 3 => tyX3
  | 4 => tyX4
  | 5 => tyX5
  | 6 => tyX6
  | 7 => tyX7
  | _ => tyX8) k)
def jsz (a : Nat) : Nat := match jkd a with
  | .inl ci => jnf ci
  | .inr q => q.2
def jsl : Nat → Nat
  | 0 => 0
  | n + 1 => jsl n + jsz n
theorem jsl_mono {a b : Nat} (h : a ≤ b) : jsl a ≤ jsl b := by
  induction b with
  | zero => rw [Nat.le_zero.mp h]; exact Nat.le_refl _
  | succ b ih =>
    rcases Nat.lt_or_ge a (b + 1) with q | q
    · exact Nat.le_trans (ih (Nat.lt_succ_iff.mp q)) (Nat.le_add_right _ _)
    · rw [show a = b + 1 by omega]; exact Nat.le_refl _
def jrl (b : Nat) (v : Value) : Value := match v with
  | .ref a => .ref (b + a)
  | w => w
theorem jrl_cat (b : Nat) (v : Value) : (jrl b v).category = v.category := by cases v <;> rfl
def jfv (b : Nat) (r : JR) (u : JM) (a ci k : Nat) : Value := if jfr ci k = true then va_rf ((r a k).map (b + ·)) else .int (u a k)
def jen (E : JE) (r : JR) (u : JM) (a : Nat) : va_E := match jkd a with
  | .inl ci => .inr (ci, (List.range (jnf ci)).map (jfv E.2.1 r u a ci))
  | .inr q => if jisR q.1 = true then .inl (E.2.2.2 q.1, q.2, .inr (.inr (.inr (.inr fun i => (r a i).map (E.2.1 + ·))))) else .inl (E.2.2.2 q.1, q.2, .inl (u a))
def JH (E : JE) (g : JS) (H : Heap) : Prop := H.size = E.2.1 + g.1 ∧ ∀ a, a < g.1 → va_at E.2.2.1 vwCl (E.2.1 + a, jen E g.2.1 g.2.2 a) H
def jtys (E : JE) : List (ClassId × FieldType) := [(E.2.2.2 .int, .int), (E.2.2.2 .boolean, .boolean), (E.2.2.2 (.array .int), .array .int), (E.2.2.2 (.array (.array .int)), .array (.array .int)), (E.2.2.2 (.object RX3), .object RX3)]
def jAO (t : FieldType) (U : State) : Prop := (Cond.arrayOver t).before #[] U = true
theorem jAO.use {t : FieldType} {A : Array Value} {U : State} (h : jAO t U) : (Cond.arrayOver t).before A U = true := h
theorem jAO.movedA {t : FieldType} {u U : State} (hvm : u.vm.Alike U.vm) (h : jAO (.array t) u) : jAO (.array t) U := by
  have fc : ∀ n, U.vm.findClass n = u.vm.findClass n := fun n => by rw [hvm.findClass]
  have hi : ∀ comp : ClassId, (U.vm.classes.findIdx? fun (x : Class) => match x.kind with | .array component _ => component == comp | _ => false) = (u.vm.classes.findIdx? fun (x : Class) => match x.kind with | .array component _ => component == comp | _ => false) := by
    intro comp
    refine (va_idx_bare U.vm comp).symm.trans (Eq.trans ?_ (va_idx_bare u.vm comp))
    first | rw [hvm.bare_eq] | rw [← hvm.bare_eq]
  have h' : (Cond.arrayOver (.array t)).holds #[] u none u [] = true := h
  simp only [Cond.holds, Cond.value, beq_iff_eq] at h'
  show (Cond.arrayOver (.array t)).holds #[] U none U [] = true
  simp only [Cond.holds, Cond.value, beq_iff_eq]
  cases hc : u.vm.findClass (FieldType.array t).toString with
  | none => simp [hc] at h'
  | some comp =>
    simp only [hc, Option.bind_some, Option.bind_eq_some_iff, Option.map_eq_some_iff] at h'
    obtain ⟨c, hx, k, hk, hb⟩ := h'
    obtain ⟨k', hk', he⟩ := hvm.2.2 _ _ hk
    rw [fc, hc]
    simp only [Option.bind_some, Option.bind_eq_some_iff, Option.map_eq_some_iff]
    exact ⟨c, (hi comp).trans hx, k', hk', by rw [he]; simp only [fc]; exact hb⟩
def JKn (E : JE) (s : State) : Prop := va_K E.2.2.1 vwCl (jtys E) s ∧ jAO (.object RX3) s ∧ jAO (.array .int) s ∧ jAO (.array (.array .int)) s ∧ ∀ w ∈ lw_nest, va_Nw w s
theorem JKn.warm {E : JE} {s U : State} (hW : s.WarmedH U.vm) (h : JKn E s) : JKn E U := by
  obtain ⟨h1, h2, h3, h4, h5⟩ := h
  refine ⟨va_K.moved hW.alike h1, va_AO.moved hW.alike h2, jAO.movedA hW.alike h3, jAO.movedA hW.alike h4, fun w hw => ?_⟩
  have hn := (List.mem_filter.mp hw).2
  cases w with
  | methodLinkNest a i x h => exact va_Nw.warmM hW (h5 _ hw)
  | _ => exact absurd hn (by simp [lw_isN])
def jll (b : Nat) : Nat → List (Option Value) → List (Nat × Value)
  | _, [] => []
  | i, some v :: r => (i, jrl b v) :: jll b (i + 1) r
  | i, none :: r => jll b (i + 1) r
theorem jll_mem {b : Nat} {q : Nat × Value} : ∀ {ls : List (Option Value)} {i : Nat}, q ∈ jll b i ls ↔ ∃ k v, ls[k]? = some (some v) ∧ q = (i + k, jrl b v)
  | [], i => by simp [jll]
  | some w :: r, i => by
    simp only [jll, List.mem_cons, jll_mem (ls := r) (i := i + 1)]
    constructor
    · rintro (rfl | ⟨k, v, h1, h2⟩)
      · exact ⟨0, w, rfl, rfl⟩
      · exact ⟨k + 1, v, h1, by rw [h2]; congr 1; omega⟩
    · rintro ⟨k, v, h1, h2⟩
      cases k with
      | zero => simp at h1; subst h1; exact Or.inl h2
      | succ k => exact Or.inr ⟨k, v, h1, by rw [h2]; congr 1; omega⟩
  | none :: r, i => by
    simp only [jll, jll_mem (ls := r) (i := i + 1)]
    constructor
    · rintro ⟨k, v, h1, h2⟩
      exact ⟨k + 1, v, h1, by rw [h2]; congr 1; omega⟩
    · rintro ⟨k, v, h1, h2⟩
      cases k with
      | zero => simp at h1
      | succ k => exact ⟨k, v, h1, by rw [h2]; congr 1; omega⟩
def jl (b nL : Nat) (ls : List (Option Value)) (A : Array Slot) : Prop := lv_has A nL (jll b 0 ls) ∧ ∀ (k : Nat) (v : Value), ls[k]? = some (some v) → v.category = 1
theorem jl.at {b nL k : Nat} {ls : List (Option Value)} {A : Array Slot} {v : Value} (h : jl b nL ls A) (hk : ls[k]? = some (some v)) : A[k]? = some (.val (jrl b v)) :=
  h.1.2.2 (k, jrl b v) (jll_mem.mpr ⟨k, v, hk, by rw [Nat.zero_add]⟩)
theorem jl.set {b nL i : Nat} {ls ls' : List (Option Value)} {A A' : Array Slot} {v : Value} (h : jl b nL ls A) (hv : v.category = 1) (hs : ls.set i (some v) = ls')
    (h' : lv_has A' nL ((i, jrl b v) :: (jll b 0 ls).filter (fun q => !(q.1 == i) && !(q.1 + 1 == i && q.2.category == 2)))) : jl b nL ls' A' := by
  subst hs
  have key : ∀ (k : Nat) (w : Value), (ls.set i (some v))[k]? = some (some w) → (k = i ∧ w = v) ∨ (k ≠ i ∧ ls[k]? = some (some w)) := by
    intro k w hk
    by_cases e : k = i
    · subst e
      by_cases hl : k < ls.length
      · rw [List.getElem?_set_self hl] at hk
        exact Or.inl ⟨rfl, by injection hk with hk; injection hk with hk; exact hk.symm⟩
      · rw [List.getElem?_eq_none (by rw [List.length_set]; omega)] at hk
        cases hk
    · rw [List.getElem?_set_ne (Ne.symm e)] at hk
      exact Or.inr ⟨e, hk⟩
  refine ⟨⟨h'.1, h'.2.1, fun q hq => ?_⟩, fun k w hk => ?_⟩
  · obtain ⟨k, w, h1, rfl⟩ := jll_mem.mp hq
    rcases key k w h1 with ⟨rfl, rfl⟩ | ⟨e, h2⟩
    · refine h'.2.2 _ ?_
      rw [Nat.zero_add]
      exact List.mem_cons_self
    · refine h'.2.2 _ (List.mem_cons_of_mem _ (List.mem_filter.mpr ⟨jll_mem.mpr ⟨k, w, h2, rfl⟩, ?_⟩))
      have hc := h.2 k w h2
      simp [jrl_cat, hc]
      omega
  · rcases key k w hk with ⟨rfl, rfl⟩ | ⟨e, h2⟩
    · exact hv
    · exact h.2 k w h2
def jwd (y : JY) : List Cond := Cond.code y.1 y.2.1 y.2.2.1 y.2.2.2 :: lw_gd
def jrm (n0 nE d : Nat) : Room := { frames := d, cells := nE - n0, slots := jsl nE - jsl n0, locals := 100 * d }
def jFr (E : JE) : Nat → Prop := fun q => E.2.1 ≤ q
def jQ (E : JE) (nE : Nat) (K : Option Value → JS → Prop) : Array Value → State → Outcome → State → Prop := fun _ st o t =>
  (∃ (v : Option Value) (g : JS), o = .returned (v.map (jrl E.2.1)) ∧ K v g ∧ g.1 = nE ∧ (∀ w, v = some w → w.category = 1) ∧ JH E g t.heap) ∧ va_F (jFr E) st t
def jP (E : JE) (as : List Value) (g : JS) : Array Value → State → Prop := fun v U => v = (as.map (jrl E.2.1)).toArray ∧ JH E g U.heap ∧ JKn E U
/-- the contract of a method, from one memory, with these arguments -/
def JC (E : JE) (n0 nE d : Nat) (y : JY) (as : List Value) (K : Option Value → JS → Prop) (g : JS) : Prop :=
  Met E.1 y.1 (jwd y) (jrm n0 nE d) (jP E as g) (jQ E nE K) (nE - n0) (jsl nE - jsl n0) (jFr E)
def JX (E : JE) (n0 : Nat) (y : JY) (p : Program) (s : State) (m : MethodId) (args : Array Value) (meth : Method) (c : Code) : Prop :=
  p.tables.exec = Jvm.exec ∧ c.code = y.2.1 ∧ c.maxLocals = y.2.2.1 ∧ meth.sig.returnType = y.2.2.2 ∧ meth.locks = false ∧ s.vm.findClass y.1.cls = some m.cls ∧ meth.name = y.1.name ∧ (∀ w ∈ jwd y, w.before args s = true) ∧ JKn E s ∧ s.heap.size = E.2.1 + n0
def JV (E : JE) (n0 nE d : Nat) (y : JY) (K : Option Value → JS → Prop) (pc : Nat) (ls : List (Option Value)) (st : List Value) (g : JS) : Prop :=
  ∀ (p : Program) (e : Env) (s : State) (m : MethodId) (args : Array Value) (below : List Frame) (meth : Method) (c : Code) (H : Heap) (locs : List Loc) (A : Array Slot),
    JX E n0 y p s m args meth c → JH E g H → va_S (jFr E) s.heap H locs → jl E.2.1 y.2.2.1 ls A →
    W p E.1 e (jrm n0 nE d) s m args below meth c H locs (g.1 - n0) (jsl g.1 - jsl n0) (MQ below (jQ E nE K) args s (nE - n0) (jsl nE - jsl n0) (jFr E)) (F0 m pc A (st.map (jrl E.2.1)))
theorem Met.ofWF {l : Launch} {y : MethodName} {ws ws' : List Cond} {rm : Room} {Pc : Array Value → State → Prop} {Qc : Array Value → State → Outcome → State → Prop} {mc ms : Nat} {free : Addr → Prop} {cc : ByteArray} {maxL : Nat} {ret : Option FieldType}
    (hy : plainFor y = true) (hw : ws = Cond.code y cc maxL ret :: ws')
    (body : ∀ p e s m args below meth c s₁, BodyLoose p l y (headSpec ws rm) cc maxL ret e s m args below meth c s₁ → c.maxLocals = maxL → Pc args s →
      W p l e (headSpec ws rm).room s m args below meth c s.heap [] 0 0 (MQ below Qc args s mc ms free) (entryFrame m args maxL)) : Met l y ws rm Pc Qc mc ms free := by
  refine MetFree.of_bodySF (code := cc) (maxLocals := maxL) (ret := ret) hy (fun args s m h hn => ?_) (fun p e s m args below meth c s₁ B hml hP _ => ?_)
  · obtain ⟨meth, c, h1, h2, h3, h4, h5, h6, -, -⟩ := Cond.code_spec hn (atoms_spec (ws := ws) h _ (by rw [hw]; exact List.mem_cons_self))
    exact ⟨meth, c, h1, h2, h3, h4, h5, h6⟩
  · obtain ⟨t, a1, o, b1, b2, b3⟩ := body p e s m args below meth c s₁ B hml hP s₁ (by rw [B.state]; rfl) (Stand.of_body B)
    exact ⟨t, o, a1, b1, b2, ⟨b3.1, b3.2⟩⟩
theorem JC.ofV {E : JE} {nE d : Nat} {y : JY} {K : Option Value → JS → Prop} {as : List Value} {g : JS} (hy : plainFor y.1 = true) (hl : as.length ≤ y.2.2.1) (hc : ∀ v ∈ as, v.category = 1)
    (h : JV E g.1 nE d y K 0 (as.map some ++ List.replicate (y.2.2.1 - as.length) none) [] g) : JC E g.1 nE d y as K g := by
  refine Met.ofWF (cc := y.2.1) (maxL := y.2.2.1) (ret := y.2.2.2) hy rfl ?_
  intro p e s m args below meth c s1 B hml hv
  obtain ⟨rfl, hH, hK⟩ := hv
  have hts := atoms_spec (ws := jwd y) B.pre
  have hown : s.vm.findClass y.1.cls = some m.cls := findClass_of_methodNamed B.named
  have hlen : (lg_sl (as.map (jrl E.2.1))).length = as.length := by
    have : ∀ (l : List Value), (∀ v ∈ l, v.category = 1) → (lg_sl (l.map (jrl E.2.1))).length = l.length := by
      intro l
      induction l with
      | nil => intro _; rfl
      | cons a r ih =>
        intro h1
        have h2 := ih (fun v hv => h1 v (List.mem_cons_of_mem _ hv))
        have h3 : (jrl E.2.1 a).category = 1 := by rw [jrl_cat]; exact h1 a List.mem_cons_self
        simp only [List.map_cons, lg_sl, List.flatMap_cons, h3] at h2 ⊢
        simp [h2]
    exact this as hc
  have hargs : lv_args 0 (as.map (jrl E.2.1)) = jll E.2.1 0 (as.map some ++ List.replicate (y.2.2.1 - as.length) none) := by
    have hz : ∀ (n i : Nat), jll E.2.1 i (List.replicate n none) = [] := by
      intro n
      induction n with
      | zero => intro i; rfl
      | succ n ih => intro i; exact ih (i + 1)
    have : ∀ (l : List Value) (i : Nat), (∀ v ∈ l, v.category = 1) → lv_args i (l.map (jrl E.2.1)) = jll E.2.1 i (l.map some ++ List.replicate (y.2.2.1 - as.length) none) := by
      intro l
      induction l with
      | nil => intro i _; exact (hz _ i).symm
      | cons a r ih =>
        intro i h1
        have h3 : (jrl E.2.1 a).category = 1 := by rw [jrl_cat]; exact h1 a List.mem_cons_self
        simp only [List.map_cons, lv_args, h3, List.cons_append, jll]
        rw [← ih (i + 1) (fun v hv => h1 v (List.mem_cons_of_mem _ hv))]
        rfl
    exact this as 0 hc
  have hlv := lv_entry (as.map (jrl E.2.1)) (n := y.2.2.1) (by rw [hlen]; exact hl)
  rw [hargs] at hlv
  rw [lg_entry_eq]
  have hw := h p e s m (as.map (jrl E.2.1)).toArray below meth c s.heap [] _ ⟨B.exec, B.bytes, hml, B.returns, B.notSynchronized, hown, (name_of_methodNamed B.named B.method).1, hts, hK, hH.1⟩ hH va_S.rf ⟨hlv, fun k v hk => by
    rcases List.mem_append.mp (List.mem_of_getElem? hk) with h1 | h1
    · obtain ⟨w, hw, e⟩ := List.mem_map.mp h1
      cases e
      exact hc _ hw
    · have := (List.mem_replicate.mp h1).2
      cases this⟩
  rw [Nat.sub_self, Nat.sub_self] at hw
  exact hw
