/-! fields, arrays, calls -/
theorem jnf_ok : ∀ ci, ci < 9 → ∃ C T, vwCl[ci]? = some (C, T, jnf ci) := by
  intro ci h
  rcases (show ci = 0 ∨ ci = 1 ∨ ci = 2 ∨ ci = 3 ∨ ci = 4 ∨ ci = 5 ∨ ci = 6 ∨ ci = 7 ∨ ci = 8 by omega) with rfl | rfl | rfl | rfl | rfl | rfl | rfl | rfl | rfl <;> exact ⟨_, _, rfl⟩
def jw (u : JM) (a k : Nat) (v : Int32) : JM := fun a' => if a' = a then upd (u a) k v else u a'
def jwr (r : JR) (a k : Nat) (t : Nat) : JR := fun a' => if a' = a then va_up (r a) k (some t) else r a'
theorem jw_ne {u : JM} {a a' k : Nat} {v : Int32} (h : a' ≠ a) : jw u a k v a' = u a' := if_neg h
theorem jw_eq {u : JM} {a k : Nat} {v : Int32} : jw u a k v a = upd (u a) k v := if_pos rfl
theorem jwr_ne {u : JR} {a a' k : Nat} {v : Nat} (h : a' ≠ a) : jwr u a k v a' = u a' := if_neg h
theorem jwr_eq {u : JR} {a k : Nat} {v : Nat} : jwr u a k v a = va_up (u a) k (some v) := if_pos rfl
theorem jen_congr {E : JE} {r r' : JR} {u u' : JM} {a : Nat} (hr : r a = r' a) (hu : u a = u' a) : jen E r u a = jen E r' u' a := by
  unfold jen jfv
  rw [hr, hu]
theorem jen_obj {E : JE} {r : JR} {u : JM} {a ci : Nat} (h : jkd a = .inl ci) : jen E r u a = .inr (ci, (List.range (jnf ci)).map (jfv E.2.1 r u a ci)) := by
  unfold jen
  rw [h]
theorem jen_arr {E : JE} {r : JR} {u : JM} {a n : Nat} {ty : FieldType} (h : jkd a = .inr (ty, n)) (hr : jisR ty = false) : jen E r u a = .inl (E.2.2.2 ty, n, .inl (u a)) := by
  unfold jen
  rw [h]
  simp [hr]
theorem jen_arq {E : JE} {r : JR} {u : JM} {a n : Nat} {ty : FieldType} (h : jkd a = .inr (ty, n)) (hr : jisR ty = true) : jen E r u a = .inl (E.2.2.2 ty, n, .inr (.inr (.inr (.inr fun i => (r a i).map (E.2.1 + ·))))) := by
  unfold jen
  rw [h]
  simp [hr]
theorem jfs_V {b : Nat} {r : JR} {u : JM} {a ci k : Nat} (hk : k < jnf ci) : vp_V ((List.range (jnf ci)).map (jfv b r u a ci)) k = jfv b r u a ci k := by
  simp [vp_V, hk]
theorem JH.put {E : JE} {g g' : JS} {H H1 : Heap} {a : Nat} (h : JH E g H) (hn : g'.1 = g.1) (hz : H1.size = H.size) (ho : ∀ q : Nat, q ≠ E.2.1 + a → H1[q]? = H[q]?) (hat : va_at E.2.2.1 vwCl (E.2.1 + a, jen E g'.2.1 g'.2.2 a) H1)
    (hr : ∀ a', a' ≠ a → g'.2.1 a' = g.2.1 a') (hu : ∀ a', a' ≠ a → g'.2.2 a' = g.2.2 a') : JH E g' H1 := by
  refine ⟨by rw [hz, hn]; exact h.1, fun a' ha' => ?_⟩
  by_cases e : a' = a
  · subst e; exact hat
  · rw [jen_congr (hr a' e) (hu a' e)]
    refine (h.2 a' (by rw [← hn]; exact ha')).kept (ho _ ?_)
    show E.2.1 + a' ≠ E.2.1 + a
    omega
theorem jS_put {E : JE} {H0 H H1 : Heap} {locs : List Loc} {a k : Nat} (h : va_S (jFr E) H0 H locs) (z : H1.size = H.size) (oq : ∀ q : Nat, q ≠ E.2.1 + a → H1[q]? = H[q]?) : va_S (jFr E) H0 H1 (locs ++ [⟨E.2.1 + a, k⟩]) :=
  h.put z oq (Nat.le_add_right _ _)
section JHp
variable {E : JE} {n0 nE d : Nat} {y : JY} {K : Option Value → JS → Prop} {pc : Nat} {ls : List (Option Value)} {st : List Value} {g : JS}
theorem jv_geti {ci k idx a : Nat} {C : String} {T : u_T} (hc : vwCl[ci]? = some (C, T, jnf ci)) (hin : ∀ w ∈ u_ws C T (jnf ci), w ∈ lw_gd) (hk : k < jnf ci) (hf : jfr ci k = false) (hlk : Cond.fieldLink y.1.cls idx (T k).1 (T k).2.1 (T k).2.2.1 ∈ lw_gd)
    (hd : decode y.2.1 pc = .ok (.getfield idx, 3)) (hkd : jkd a = .inl ci) (ha : a < g.1) (kk : JV E n0 nE d y K (pc + 3) ls (.int (g.2.2 a k) :: st) g) : JV E n0 nE d y K pc ls (.ref a :: st) g := by
  intro p e s m args below meth c H locs A X hH hS hl
  have hat := hH.2 a ha
  rw [jen_obj hkd] at hat
  obtain ⟨r, h1, cell, q1, q2, q3, q4⟩ := hat
  cases h1.symm.trans hc
  have hts := X.2.2.2.2.2.2.2.1
  have hin' : ∀ w ∈ u_ws C T (jnf ci), w ∈ jwd y := fun w hw => List.mem_cons_of_mem _ (hin w hw)
  obtain ⟨hS0, hfc, kC, hkC, hkind⟩ := X.2.2.2.2.2.2.2.2.1.1.1 ci _ hc
  obtain ⟨cf, kf, fi, f, hi, hsl⟩ := hS0 k hk
  refine W.getf X.1 X.2.1 X.2.2.2.2.2.1 (hts _ (List.mem_cons_of_mem _ hlk)) hi (u_facts hfc hkC (u_lays hts hin' hk) hi).1 q1 (by rw [q3]; exact fun h => by cases h) (v := .int (g.2.2 a k)) ?_ rfl rfl hd (kk p e s m args below meth c H locs A X hH hS hl)
  rw [hsl, q4 k hk]
  show some (vp_V _ k) = _
  rw [jfs_V hk]
  simp [jfv, hf]
theorem jv_getr {ci k idx a t : Nat} {C : String} {T : u_T} (hc : vwCl[ci]? = some (C, T, jnf ci)) (hin : ∀ w ∈ u_ws C T (jnf ci), w ∈ lw_gd) (hk : k < jnf ci) (hf : jfr ci k = true) (hlk : Cond.fieldLink y.1.cls idx (T k).1 (T k).2.1 (T k).2.2.1 ∈ lw_gd)
    (hd : decode y.2.1 pc = .ok (.getfield idx, 3)) (hkd : jkd a = .inl ci) (ha : a < g.1) (ht : g.2.1 a k = some t) (kk : JV E n0 nE d y K (pc + 3) ls (.ref t :: st) g) : JV E n0 nE d y K pc ls (.ref a :: st) g := by
  intro p e s m args below meth c H locs A X hH hS hl
  have hat := hH.2 a ha
  rw [jen_obj hkd] at hat
  obtain ⟨r, h1, cell, q1, q2, q3, q4⟩ := hat
  cases h1.symm.trans hc
  have hts := X.2.2.2.2.2.2.2.1
  have hin' : ∀ w ∈ u_ws C T (jnf ci), w ∈ jwd y := fun w hw => List.mem_cons_of_mem _ (hin w hw)
  obtain ⟨hS0, hfc, kC, hkC, hkind⟩ := X.2.2.2.2.2.2.2.2.1.1.1 ci _ hc
  obtain ⟨cf, kf, fi, f, hi, hsl⟩ := hS0 k hk
  refine W.getf X.1 X.2.1 X.2.2.2.2.2.1 (hts _ (List.mem_cons_of_mem _ hlk)) hi (u_facts hfc hkC (u_lays hts hin' hk) hi).1 q1 (by rw [q3]; exact fun h => by cases h) (v := .ref (E.2.1 + t)) ?_ rfl rfl hd (kk p e s m args below meth c H locs A X hH hS hl)
  rw [hsl, q4 k hk]
  show some (vp_V _ k) = _
  rw [jfs_V hk]
  simp [jfv, hf, ht, va_rf]
theorem jv_puti {ci k idx a : Nat} {C : String} {T : u_T} {ty : Nat → FieldType} {x : Int32} {ty0 : FieldType} (hc : vwCl[ci]? = some (C, T, jnf ci)) (hin : ∀ w ∈ u_ws C T (jnf ci), w ∈ lw_gd) (hty : ∀ k, k < jnf ci → parseFieldDescriptor (T k).2.2.1 = some (ty k)) (hnm : ∀ a, a < jnf ci → ∀ b, b < jnf ci → a ≠ b → (T a).2.1 ≠ (T b).2.1)
    (hk : k < jnf ci) (hf : jfr ci k = false) (hfin : (T k).2.2.2 = false) (h0 : ty k = ty0) (hx : (ty0 = .int) ∨ (ty0 = .boolean ∧ (x = 0 ∨ x = 1))) (hlk : Cond.fieldLink y.1.cls idx (T k).1 (T k).2.1 (T k).2.2.1 ∈ lw_gd)
    (hd : decode y.2.1 pc = .ok (.putfield idx, 3)) (hkd : jkd a = .inl ci) (ha : a < g.1) (kk : JV E n0 nE d y K (pc + 3) ls st (g.1, g.2.1, jw g.2.2 a k x)) : JV E n0 nE d y K pc ls (.int x :: .ref a :: st) g := by
  intro p e s m args below meth c H locs A X hH hS hl
  have hat := hH.2 a ha
  rw [jen_obj hkd] at hat
  obtain ⟨r, h1, cell, q1, q2, q3, q4⟩ := hat
  cases h1.symm.trans hc
  have hts := X.2.2.2.2.2.2.2.1
  have hin' : ∀ w ∈ u_ws C T (jnf ci), w ∈ jwd y := fun w hw => List.mem_cons_of_mem _ (hin w hw)
  have hKn := X.2.2.2.2.2.2.2.2.1.1
  have hap := va_apart (own := y.1.cls) hts hin' ty hty hnm hKn hc
  obtain ⟨hS0, hfc, kC, hkC, hkind⟩ := hKn.1 ci _ hc
  obtain ⟨cf, kf, fi, f, hi, hsl⟩ := hS0 k hk
  have hlay := hts _ (hin' _ (u_in_lay hk))
  unfold u_lay at hlay
  rw [if_neg (by rw [hfin]; decide)] at hlay
  have hst := (u_facts hfc hkC (u_lays hts hin' hk) hi).1
  have hpd := hty k hk
  rw [h0] at hpd
  have h6 : k2_Sd s f (E.2.2.1.1 ci) (.int x) := by
    rcases hx with rfl | ⟨rfl, hx⟩
    · exact u_store hfc hkC hkind hlay hi hpd rfl rfl
    · rcases hx with rfl | rfl
      · exact u_store hfc hkC hkind hlay hi hpd rfl rfl
      · exact u_store hfc hkC hkind hlay hi hpd rfl rfl
  refine W.putK X.1 X.2.1 (f := f) ⟨X.2.2.2.2.2.1, hts _ (List.mem_cons_of_mem _ hlk), ⟨_, _, _, hi⟩, hst⟩ (by rw [q2]; exact h6) q1 q3 (by rw [hsl]; exact k2_hasslot (q4 k hk)) rfl rfl hd fun H' e1 e2 e3 => ?_
  rw [hsl] at e1 ⊢
  refine kk p e s m args below meth c H' _ A X (hH.put rfl e2 e3 ?_ (fun _ _ => rfl) (fun a' h => jw_ne h)) (jS_put hS e2 e3) hl
  rw [jen_obj hkd]
  refine ⟨_, hc, t_OB.to (V := updV (vp_V ((List.range (jnf ci)).map (jfv E.2.1 g.2.1 g.2.2 a ci))) k (.int x)) ⟨_, e1, q2, q3, t_set q4 hap hk _⟩ (fun j hj => ?_)⟩
  show updV _ k (.int x) j = vp_V _ j
  rw [jfs_V hj]
  by_cases e : j = k
  · subst e
    simp [updV, jfv, hf, jw_eq, upd]
  · simp only [updV, if_neg e]
    rw [jfs_V hj]
    simp [jfv, jw_eq, upd, e]
theorem jArr {E : JE} {s : State} {ty : FieldType} (h : JKn E s) (i : Nat) (hi : (jtys E)[i]? = some (E.2.2.2 ty, ty)) : ArrOfT s (E.2.2.2 ty) ty := (h.1.2 i _ hi).1
theorem jv_iaload {a n : Nat} {i : Int32} (hd : decode y.2.1 pc = .ok (.iaload, 1)) (hkd : jkd a = .inr (.int, n)) (ha : a < g.1) (hin : vp_in i n) (kk : JV E n0 nE d y K (pc + 1) ls (.int (g.2.2 a i.toNatClampNeg) :: st) g) : JV E n0 nE d y K pc ls (.int i :: .ref a :: st) g := by
  intro p e s m args below meth c H locs A X hH hS hl
  have hat := hH.2 a ha
  rw [jen_arr hkd rfl] at hat
  have hlt : i.toNatClampNeg < n := Nat.not_le.mp fun q => hin (Or.inr q)
  exact W.iald (v := .int (g.2.2 a i.toNatClampNeg)) X.1 X.2.1 hat (jArr X.2.2.2.2.2.2.2.2.1 0 rfl n (fun j => .int (g.2.2 a j))) (fun q => by cases q) (by show ¬ (i < 0 ∨ (arrV _ _ _).slots.size ≤ _); rw [arrV_size]; exact hin) (by show (arrV _ _ _).slots[_]? = _; rw [arrV_read _ _ hlt]) rfl rfl hd (kk p e s m args below meth c H locs A X hH hS hl)
theorem jv_baload {a n : Nat} {i : Int32} (hd : decode y.2.1 pc = .ok (.baload, 1)) (hkd : jkd a = .inr (.boolean, n)) (ha : a < g.1) (hin : vp_in i n) (kk : JV E n0 nE d y K (pc + 1) ls (.int (g.2.2 a i.toNatClampNeg) :: st) g) : JV E n0 nE d y K pc ls (.int i :: .ref a :: st) g := by
  intro p e s m args below meth c H locs A X hH hS hl
  have hat := hH.2 a ha
  rw [jen_arr hkd rfl] at hat
  have hlt : i.toNatClampNeg < n := Nat.not_le.mp fun q => hin (Or.inr q)
  exact W.zald (v := .int (g.2.2 a i.toNatClampNeg)) X.1 X.2.1 hat (jArr X.2.2.2.2.2.2.2.2.1 1 rfl n (fun j => .int (g.2.2 a j))) (fun q => by cases q) (by show ¬ (i < 0 ∨ (arrV _ _ _).slots.size ≤ _); rw [arrV_size]; exact hin) (by show (arrV _ _ _).slots[_]? = _; rw [arrV_read _ _ hlt]) rfl rfl hd (kk p e s m args below meth c H locs A X hH hS hl)
theorem jv_aaload {a n t : Nat} {i : Int32} {ty : FieldType} (q : Nat) (hq : (jtys E)[q]? = some (E.2.2.2 ty, ty)) (hr : jisR ty = true) (hty : ty.isReference = true) (hd : decode y.2.1 pc = .ok (.aaload, 1)) (hkd : jkd a = .inr (ty, n)) (ha : a < g.1) (hin : vp_in i n) (ht : g.2.1 a i.toNatClampNeg = some t) (kk : JV E n0 nE d y K (pc + 1) ls (.ref t :: st) g) : JV E n0 nE d y K pc ls (.int i :: .ref a :: st) g := by
  intro p e s m args below meth c H locs A X hH hS hl
  have hat := hH.2 a ha
  rw [jen_arq hkd hr] at hat
  have hlt : i.toNatClampNeg < n := Nat.not_le.mp fun q => hin (Or.inr q)
  exact W.aald (v := .ref (E.2.1 + t)) (ty := ty) X.1 X.2.1 hat (jArr X.2.2.2.2.2.2.2.2.1 q hq n (fun j => va_rf ((g.2.1 a j).map (E.2.1 + ·)))) hty (fun q => by cases q) (by show ¬ (i < 0 ∨ (arrV _ _ _).slots.size ≤ _); rw [arrV_size]; exact hin) (by show (arrV _ _ _).slots[_]? = _; rw [arrV_read _ _ hlt]; dsimp only; rw [ht]; rfl) rfl rfl hd (kk p e s m args below meth c H locs A X hH hS hl)
theorem jv_alen {a n : Nat} (hd : decode y.2.1 pc = .ok (.arraylength, 1)) (hkd : jkd a = .inr (.int, n)) (ha : a < g.1) (kk : JV E n0 nE d y K (pc + 1) ls (.int (Int32.ofNat n) :: st) g) : JV E n0 nE d y K pc ls (.ref a :: st) g := by
  intro p e s m args below meth c H locs A X hH hS hl
  have hat := hH.2 a ha
  rw [jen_arr hkd rfl] at hat
  exact W.alen (n := Int32.ofNat n) X.1 X.2.1 hat (jArr X.2.2.2.2.2.2.2.2.1 0 rfl n (fun j => .int (g.2.2 a j))) (by rw [vp_cell_i, arrV_size] <;> rfl) rfl rfl hd (kk p e s m args below meth c H locs A X hH hS hl)
theorem jstore {cA : ClassId} {n k : Nat} {f : Nat → Int32} {x : Int32} : (vp_cell cA (n, .inl f)).setSlot k (.int x) = vp_cell cA (n, .inl (upd f k x)) := by
  rw [vp_cell_i, vp_cell_i, arrV_store]
  congr 1
  funext q
  by_cases hq : q = k
  · subst hq; simp [updV, upd]
  · simp [updV, upd, hq]
theorem jv_iastore {a n : Nat} {i x : Int32} (hd : decode y.2.1 pc = .ok (.iastore, 1)) (hkd : jkd a = .inr (.int, n)) (ha : a < g.1) (hin : vp_in i n) (kk : JV E n0 nE d y K (pc + 1) ls st (g.1, g.2.1, jw g.2.2 a i.toNatClampNeg x)) : JV E n0 nE d y K pc ls (.int x :: .int i :: .ref a :: st) g := by
  intro p e s m args below meth c H locs A X hH hS hl
  have hat := hH.2 a ha
  rw [jen_arr hkd rfl] at hat
  refine W.iast X.1 X.2.1 hat (jArr X.2.2.2.2.2.2.2.2.1 0 rfl n (fun j => .int (g.2.2 a j))) (fun q => by cases q) (by show ¬ (i < 0 ∨ (arrV _ _ _).slots.size ≤ _); rw [arrV_size]; exact hin) rfl rfl hd fun H1 e1 z oq => ?_
  refine kk p e s m args below meth c H1 _ A X (hH.put rfl z oq ?_ (fun _ _ => rfl) (fun a' h => jw_ne h)) (jS_put hS z oq) hl
  rw [jen_arr hkd rfl]
  show H1[E.2.1 + a]? = some _
  rw [e1, jstore]
  show some (vp_cell _ (n, .inl _)) = some (vp_cell _ (n, .inl (jw g.2.2 a _ x a)))
  rw [jw_eq]
theorem jv_bastore {a n : Nat} {i x : Int32} (hd : decode y.2.1 pc = .ok (.bastore, 1)) (hkd : jkd a = .inr (.boolean, n)) (ha : a < g.1) (hin : vp_in i n) (hx : x = 0 ∨ x = 1) (kk : JV E n0 nE d y K (pc + 1) ls st (g.1, g.2.1, jw g.2.2 a i.toNatClampNeg x)) : JV E n0 nE d y K pc ls (.int x :: .int i :: .ref a :: st) g := by
  intro p e s m args below meth c H locs A X hH hS hl
  have hat := hH.2 a ha
  rw [jen_arr hkd rfl] at hat
  have hn : narrow .boolean (.int x) = .int x := by rcases hx with rfl | rfl <;> rfl
  refine W.zast X.1 X.2.1 hat (jArr X.2.2.2.2.2.2.2.2.1 1 rfl n (fun j => .int (g.2.2 a j))) (fun q => by cases q) (by show ¬ (i < 0 ∨ (arrV _ _ _).slots.size ≤ _); rw [arrV_size]; exact hin) rfl rfl hd fun H1 e1 z oq => ?_
  rw [hn] at e1
  refine kk p e s m args below meth c H1 _ A X (hH.put rfl z oq ?_ (fun _ _ => rfl) (fun a' h => jw_ne h)) (jS_put hS z oq) hl
  rw [jen_arr hkd rfl]
  show H1[E.2.1 + a]? = some _
  rw [e1, jstore]
  show some (vp_cell _ (n, .inl _)) = some (vp_cell _ (n, .inl (jw g.2.2 a _ x a)))
  rw [jw_eq]
/-- n values of a row, laid into another -/
def jcp (u : JM) (a0 sp a dp n : Nat) : JM := fun a' => if a' = a then va_cpy (u a0) (u a) sp dp n else u a'
theorem jv_acopy {idx a a0 n0' n1' : Nat} {ty : FieldType} {sp dp n : Int32} (q : Nat) (hq : (jtys E)[q]? = some (E.2.2.2 ty, ty)) (hr : jisR ty = false) (hprim : refKind ty = false) (hlk : Cond.methodLink y.1.cls idx arraycopyName ∈ lw_gd) (hnat : Cond.native arraycopyName ∈ lw_gd ∧ Cond.static arraycopyName ∈ lw_gd ∧ Cond.initialized "java/lang/System" ∈ lw_gd)
    (hd : decode y.2.1 pc = .ok (.invokestatic idx, 3)) (hk0 : jkd a0 = .inr (ty, n0')) (hk1 : jkd a = .inr (ty, n1')) (h0 : a0 < g.1) (h1 : a < g.1) (hls : ls.length = y.2.2.1) (hd1 : 1 ≤ d) (hst : (st.map fun v => v.category).sum ≤ 8)
    (hsp : ¬ sp < 0) (hdp : ¬ dp < 0) (hn : ¬ n < 0) (h4 : sp.toNatClampNeg + n.toNatClampNeg ≤ n0') (h5 : dp.toNatClampNeg + n.toNatClampNeg ≤ n1') (hfit : ∀ i, i < n.toNatClampNeg → fits ty (.int (g.2.2 a0 (sp.toNatClampNeg + i))) = true)
    (kk : JV E n0 nE d y K (pc + 3) ls st (g.1, g.2.1, jcp g.2.2 a0 sp.toNatClampNeg a dp.toNatClampNeg n.toNatClampNeg)) : JV E n0 nE d y K pc ls (.int n :: .int dp :: .ref a :: .int sp :: .ref a0 :: st) g := by
  intro p e s m args below meth c H locs A X hH hS hl
  have hx := X.1
  have hb := X.2.1
  have hts := X.2.2.2.2.2.2.2.1
  have nn : ∀ z : Int32, ¬ z < 0 → z.toInt = (z.toNatClampNeg : Int) := by
    intro z hz
    have hz0 : (0 : Int) ≤ z.toInt := by
      have := Int32.not_lt.mp hz
      simpa using Int32.le_iff_toInt_le.mp this
    show z.toInt = ((z.toInt.toNat : Nat) : Int)
    omega
  have hc0 := hH.2 a0 h0
  have hc1 := hH.2 a h1
  rw [jen_arr hk0 hr] at hc0
  rw [jen_arr hk1 hr] at hc1
  have hc0 : H[E.2.1 + a0]? = some (vp_cell (E.2.2.2 ty) (n0', .inl (g.2.2 a0))) := hc0
  have hc1 : H[E.2.1 + a]? = some (vp_cell (E.2.2.2 ty) (n1', .inl (g.2.2 a))) := hc1
  have hArr := jArr X.2.2.2.2.2.2.2.2.1 q hq
  obtain ⟨-, k0, hk0', cm0, hkk0⟩ := hArr n0' (fun j => .int (g.2.2 a0 j))
  obtain ⟨-, k1, hk1', cm1, hkk1⟩ := hArr n1' (fun j => .int (g.2.2 a j))
  have hcat : ∀ (l : List Value), ((l.map (jrl E.2.1)).map fun v => v.category).sum = (l.map fun v => v.category).sum := by
    intro l
    rw [List.map_map]
    congr 1
    apply List.map_congr_left
    intro v _
    exact jrl_cat _ _
  intro T hT XS
  obtain ⟨vm', X', step⟩ := XS.arraycopy hx X.2.2.2.2.2.1 (hts _ (List.mem_cons_of_mem _ hlk)) (hts _ (List.mem_cons_of_mem _ hnat.1)) (hts _ (List.mem_cons_of_mem _ hnat.2.1)) (hts _ (List.mem_cons_of_mem _ hnat.2.2)) (src := E.2.1 + a0) (dst := E.2.1 + a) (cs := vp_cell (E.2.2.2 ty) (n0', .inl (g.2.2 a0))) (cd := vp_cell (E.2.2.2 ty) (n1', .inl (g.2.2 a))) (srcPos := sp) (destPos := dp) (n := n) (by rw [hT]; exact hc0) (by rw [hT]; exact hc1)
    (fun _ h => by cases h) (fun _ h => by cases h) (fun h => by cases h) (fun h => by cases h) hk0' hk1' hkk0 hkk1 (by simp [hprim]) hsp hdp hn
    (by rw [nn sp hsp, nn n hn]; show ¬ _ > ((arrV _ n0' (fun j => .int (g.2.2 a0 j))).slots.size : Int); rw [arrV_size]; omega)
    (by rw [nn dp hdp, nn n hn]; show ¬ _ > ((arrV _ n1' (fun j => .int (g.2.2 a j))).slots.size : Int); rw [arrV_size]; omega)
    (fun vm₁ _ i hi => by
      have e : (vp_cell (E.2.2.2 ty) (n0', .inl (g.2.2 a0))).slots.getD (sp.toNatClampNeg + i) .null = .int (g.2.2 a0 (sp.toNatClampNeg + i)) := by
        show (arrV _ n0' (fun j => .int (g.2.2 a0 j))).slots.getD _ _ = _
        rw [Array.getD_eq_getD_getElem?, arrV_read _ _ (by omega)]
        rfl
      refine ⟨?_, ?_⟩
      · rw [e]
        exact hfit i hi
      · rw [e]
        exact trivial)
    (g := F0 m pc A (.int n :: .int dp :: .ref (E.2.1 + a) :: .int sp :: .ref (E.2.1 + a0) :: st.map (jrl E.2.1))) rfl (by rw [X.2.2.1]; exact hl.1.1) (rest := st.map (jrl E.2.1)) rfl (by rw [hb]; exact hd) (by show 1 ≤ d; exact hd1) (by
      show 2 * 0 + _ + _ ≤ 100 * d
      rw [hcat st]
      have : nativeFrameWords "java/lang/System" "arraycopy" 5 = 7 := by decide +kernel
      omega)
  have e1 : copied (vp_cell (E.2.2.2 ty) (n0', .inl (g.2.2 a0))) (vp_cell (E.2.2.2 ty) (n1', .inl (g.2.2 a))) sp dp n = vp_cell (E.2.2.2 ty) (n1', .inl (va_cpy (g.2.2 a0) (g.2.2 a) sp.toNatClampNeg dp.toNatClampNeg n.toNatClampNeg)) := va_copied (fun z => .int z) _ _ _ _ h4
  rw [e1] at X' step
  have hlt : E.2.1 + a < H.size := (Array.getElem?_eq_some_iff.mp hc1).1
  generalize hce : vp_cell (E.2.2.2 ty) (n1', .inl (va_cpy (g.2.2 a0) (g.2.2 a) sp.toNatClampNeg dp.toNatClampNeg n.toNatClampNeg)) = ce at X' step
  have hheap : ((T.setVm vm').setCell (E.2.1 + a) ce).heap = H.setIfInBounds (E.2.1 + a) ce := by rw [← hT]; rfl
  have oq : ∀ q : Nat, q ≠ E.2.1 + a → (H.setIfInBounds (E.2.1 + a) ce)[q]? = H[q]? := fun q hq => by simp [Array.getElem?_setIfInBounds, Ne.symm hq]
  obtain ⟨t, a1, b1⟩ := kk p e s m args below meth c (H.setIfInBounds (E.2.1 + a) ce) _ A X (hH.put rfl (by simp) oq (by
      rw [jen_arr hk1 hr]
      show (H.setIfInBounds (E.2.1 + a) ce)[E.2.1 + a]? = some (vp_cell _ (n1', .inl (jcp g.2.2 a0 _ a _ _ a)))
      have e2 : jcp g.2.2 a0 sp.toNatClampNeg a dp.toNatClampNeg n.toNatClampNeg a = va_cpy (g.2.2 a0) (g.2.2 a) sp.toNatClampNeg dp.toNatClampNeg n.toNatClampNeg := if_pos rfl
      rw [e2, hce]
      simp [Array.getElem?_setIfInBounds, hlt]) (fun _ _ => rfl) (fun a' h => if_neg h)) ⟨by simp; exact hS.1, fun q g1 g2 => by
        rw [oq q (fun e => g2 (by rw [e]; exact Nat.le_add_right _ _))]
        exact hS.2.1 q g1 g2, fun q hq => by
        rcases List.mem_append.mp hq with h | h
        · exact hS.2.2 q h
        · obtain ⟨z, -, hz⟩ := List.mem_map.mp h
          rw [← hz]
          exact Nat.le_add_right _ _⟩ hl _ hheap X'
  exact ⟨t, step t a1, b1⟩
end JHp
