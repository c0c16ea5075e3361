/-! the law's own rows -/
theorem jsl_le {n B : Nat} : ∀ m, (∀ i, i < m → jsz (n + i) ≤ B) → jsl (n + m) ≤ jsl n + m * B
  | 0, _ => by rw [Nat.zero_mul]; exact Nat.le_refl _
  | m + 1, h => by
    have ih := jsl_le m fun i hi => h i (by omega)
    have := h m (by omega)
    rw [Nat.succ_mul]
    show jsl (n + m) + jsz (n + m) ≤ _
    omega
theorem jslNC : jsl NC ≤ 7302249 := by
  have h1 : jsl 137 ≤ jsl 0 + 137 * 2304 := jsl_le (n := 0) (B := 2304) 137 (rg_all (by decide +kernel))
  have h2 : jsl 1137 ≤ jsl 137 + 1000 * 400 := jsl_le (n := 137) (B := 400) 1000 (rg_all (by decide +kernel))
  have h3 : jsl 2137 ≤ jsl 1137 + 1000 * 400 := jsl_le (n := 1137) (B := 400) 1000 (rg_all (by decide +kernel))
  have h4 : jsl 3137 ≤ jsl 2137 + 1000 * 400 := jsl_le (n := 2137) (B := 400) 1000 (rg_all (by decide +kernel))
  have h5 : jsl 3771 ≤ jsl 3137 + 634 * 400 := jsl_le (n := 3137) (B := 400) 634 (rg_all (by decide +kernel))
  have h0 : jsl 0 = 0 := rfl
  show jsl 3771 ≤ _
  omega
/-- the machine at the law's own instruction -/
def LW (E : JE) (b L : Nat) (xs : Nat → Int32) (pc : Nat) (lv : List (Nat × Value)) (st : List Value) (g : JS) : Prop :=
  ∀ (p : Program) (e : Env) (s : State) (m : MethodId) (below : List Frame) (meth : Method) (c : Code) (H : Heap) (locs : List Loc) (A : Array Slot),
    lw_At p s m meth c b L xs → JKn E s → s.heap.size = E.2.1 → JH E g H → va_S (jFr E) s.heap H locs → lv_has A 4 lv →
    W p E.1 e room_1 s m #[Value.ref b] below meth c H locs g.1 (jsl g.1) (lw_Z below #[Value.ref b] s) (F0 m pc A st)
section LWs
variable {E : JE} {b L : Nat} {xs : Nat → Int32} {pc : Nat} {lv : List (Nat × Value)} {st : List Value} {g : JS}
theorem LW_aload {k : Fin 4} {i x q : Nat} (hd : decode code pc = .ok (.aload_n k, 1)) (hi : (k : Nat) = i) (hq : lv[q]? = some (i, .ref x)) (kk : LW E b L xs (pc + 1) lv (.ref x :: st) g) : LW E b L xs pc lv st g := by
  intro p e s m below meth c H locs A C0 hK hz hH hS hl
  exact lv_aload_n C0.1 C0.2.1 hd hi (lv_at hl q hq) (kk p e s m below meth c H locs A C0 hK hz hH hS hl)
theorem LW_iload {k : Fin 4} {i q : Nat} {x : Int32} (hd : decode code pc = .ok (.iload_n k, 1)) (hi : (k : Nat) = i) (hq : lv[q]? = some (i, .int x)) (kk : LW E b L xs (pc + 1) lv (.int x :: st) g) : LW E b L xs pc lv st g := by
  intro p e s m below meth c H locs A C0 hK hz hH hS hl
  exact lv_iload_n C0.1 C0.2.1 hd hi (lv_at hl q hq) (kk p e s m below meth c H locs A C0 hK hz hH hS hl)
theorem LW_astore {k : Fin 4} {i x : Nat} {lv' : List (Nat × Value)} (hd : decode code pc = .ok (.astore_n k, 1)) (hi : (k : Nat) = i) (hn : i < 4) (hq : (i, Value.ref x) :: lv.filter (fun q => !(q.1 == i) && !(q.1 + 1 == i && q.2.category == 2)) = lv') (kk : LW E b L xs (pc + 1) lv' st g) : LW E b L xs pc lv (.ref x :: st) g := by
  intro p e s m below meth c H locs A C0 hK hz hH hS hl
  exact lv_astore_n C0.1 C0.2.1 hd hi hl hn hq fun A' hl' => kk p e s m below meth c H locs A' C0 hK hz hH hS hl'
theorem LW_istore {k : Fin 4} {i : Nat} {x : Int32} {lv' : List (Nat × Value)} (hd : decode code pc = .ok (.istore_n k, 1)) (hi : (k : Nat) = i) (hn : i < 4) (hq : (i, Value.int x) :: lv.filter (fun q => !(q.1 == i) && !(q.1 + 1 == i && q.2.category == 2)) = lv') (kk : LW E b L xs (pc + 1) lv' st g) : LW E b L xs pc lv (.int x :: st) g := by
  intro p e s m below meth c H locs A C0 hK hz hH hS hl
  exact lv_istore_n C0.1 C0.2.1 hd hi hl hn hq fun A' hl' => kk p e s m below meth c H locs A' C0 hK hz hH hS hl'
theorem LW_iinc {i q : Nat} {n : Int} {x v : Int32} {lv' : List (Nat × Value)} (hd : decode code pc = .ok (.iinc i n, 3)) (hk : lv[q]? = some (i, .int x)) (hv : x + Int32.ofInt n = v) (hn : i < 4) (hq : (i, Value.int v) :: lv.filter (fun q => !(q.1 == i) && !(q.1 + 1 == i && q.2.category == 2)) = lv') (kk : LW E b L xs (pc + 3) lv' st g) : LW E b L xs pc lv st g := by
  intro p e s m below meth c H locs A C0 hK hz hH hS hl
  exact lv_iinc C0.1 C0.2.1 hd hl hk hv hn hq fun A' hl' => kk p e s m below meth c H locs A' C0 hK hz hH hS hl'
theorem LW_lv {lv' : List (Nat × Value)} (ks : List Nat) (h : lv_pick lv ks = lv') (kk : LW E b L xs pc lv' st g) : LW E b L xs pc lv st g := by
  intro p e s m below meth c H locs A C0 hK hz hH hS hl
  exact kk p e s m below meth c H locs A C0 hK hz hH hS (lv_sub hl ks h)
theorem LW_dup {v : Value} (hd : decode code pc = .ok (.dup, 1)) (hv : v.category = 1) (kk : LW E b L xs (pc + 1) lv (v :: v :: st) g) : LW E b L xs pc lv (v :: st) g := by
  intro p e s m below meth c H locs A C0 hK hz hH hS hl
  exact lv_dup C0.1 C0.2.1 hd hv (kk p e s m below meth c H locs A C0 hK hz hH hS hl)
theorem LW_iconst {n : Int} {v : Int32} (hd : decode code pc = .ok (.iconst n, 1)) (hv : Int32.ofInt n = v) (kk : LW E b L xs (pc + 1) lv (.int v :: st) g) : LW E b L xs pc lv st g := by
  intro p e s m below meth c H locs A C0 hK hz hH hS hl
  exact lv_iconst C0.1 C0.2.1 hd hv (kk p e s m below meth c H locs A C0 hK hz hH hS hl)
theorem LW_bipush {n : Int} {v : Int32} (hd : decode code pc = .ok (.bipush n, 2)) (hv : (Int8.ofInt n).toInt32 = v) (kk : LW E b L xs (pc + 2) lv (.int v :: st) g) : LW E b L xs pc lv st g := by
  intro p e s m below meth c H locs A C0 hK hz hH hS hl
  exact lv_bipush C0.1 C0.2.1 hd hv (kk p e s m below meth c H locs A C0 hK hz hH hS hl)
theorem LW_isub {x z : Int32} (hd : decode code pc = .ok (.isub, 1)) (kk : LW E b L xs (pc + 1) lv (.int (x - z) :: st) g) : LW E b L xs pc lv (.int z :: .int x :: st) g := by
  intro p e s m below meth c H locs A C0 hK hz hH hS hl
  exact lv_isub C0.1 C0.2.1 hd (kk p e s m below meth c H locs A C0 hK hz hH hS hl)
theorem LW_iand {x z : Int32} (hd : decode code pc = .ok (.iand, 1)) (kk : LW E b L xs (pc + 1) lv (.int (x &&& z) :: st) g) : LW E b L xs pc lv (.int z :: .int x :: st) g := by
  intro p e s m below meth c H locs A C0 hK hz hH hS hl
  exact lv_iand C0.1 C0.2.1 hd (kk p e s m below meth c H locs A C0 hK hz hH hS hl)
theorem LW_iadd {x z : Int32} (hd : decode code pc = .ok (.iadd, 1)) (kk : LW E b L xs (pc + 1) lv (.int (x + z) :: st) g) : LW E b L xs pc lv (.int z :: .int x :: st) g := by
  intro p e s m below meth c H locs A C0 hK hz hH hS hl
  exact lv_iadd C0.1 C0.2.1 hd (kk p e s m below meth c H locs A C0 hK hz hH hS hl)
theorem LW_goto {off : Int} {tgt : Nat} (hd : decode code pc = .ok (.goto off, 3)) (ht : (pc : Int) + off = (tgt : Int)) (kk : LW E b L xs tgt lv st g) : LW E b L xs pc lv st g := by
  intro p e s m below meth c H locs A C0 hK hz hH hS hl
  exact lv_goto C0.1 C0.2.1 hd ht (kk p e s m below meth c H locs A C0 hK hz hH hS hl)
theorem LW_eq {x : Int32} {off : Int} {tgt : Nat} (hd : decode code pc = .ok (.if_icmp .eq off, 3)) (ht : (pc : Int) + off = (tgt : Int)) (kk : LW E b L xs tgt lv st g) : LW E b L xs pc lv (.int x :: .int x :: st) g := by
  intro p e s m below meth c H locs A C0 hK hz hH hS hl
  exact lv_icmp_eq C0.1 C0.2.1 hd ht (fun _ => kk p e s m below meth c H locs A C0 hK hz hH hS hl) fun h => absurd rfl h
theorem LW_gt {x y : Int32} {off : Int} {tgt : Nat} (hd : decode code pc = .ok (.if_icmp .gt off, 3)) (ht : (pc : Int) + off = (tgt : Int)) (kt : y < x → LW E b L xs tgt lv st g) (kf : ¬ y < x → LW E b L xs (pc + 3) lv st g) : LW E b L xs pc lv (.int y :: .int x :: st) g := by
  intro p e s m below meth c H locs A C0 hK hz hH hS hl
  exact lv_icmp_gt C0.1 C0.2.1 hd ht (fun h => kt h p e s m below meth c H locs A C0 hK hz hH hS hl) fun h => kf h p e s m below meth c H locs A C0 hK hz hH hS hl
theorem LW_out {dflt lo hi : Int} {offs : Array Int} {len : Nat} {x : Int32} {tgt : Nat} (hd : decode code pc = .ok (.tableswitch dflt lo hi offs, len)) (h : x.toInt < lo ∨ hi < x.toInt) (ht : (pc : Int) + dflt = (tgt : Int)) (kk : LW E b L xs tgt lv st g) : LW E b L xs pc lv (.int x :: st) g := by
  intro p e s m below meth c H locs A C0 hK hz hH hS hl
  exact lv_tableOut C0.1 C0.2.1 hd h ht (kk p e s m below meth c H locs A C0 hK hz hH hS hl)
theorem LW_in {dflt lo hi : Int} {offs : Array Int} {len : Nat} {x : Int32} {off : Int} {tgt : Nat} (hd : decode code pc = .ok (.tableswitch dflt lo hi offs, len)) (h1 : ¬ x.toInt < lo) (h2 : ¬ hi < x.toInt) (ho : offs[(x.toInt - lo).toNat]? = some off) (ht : (pc : Int) + off = (tgt : Int)) (kk : LW E b L xs tgt lv st g) : LW E b L xs pc lv (.int x :: st) g := by
  intro p e s m below meth c H locs A C0 hK hz hH hS hl
  exact lv_tableIn C0.1 C0.2.1 hd h1 h2 ho ht (kk p e s m below meth c H locs A C0 hK hz hH hS hl)
theorem LW_scr {k : Nat} (hd : decode code pc = .ok (.iaload, 1)) (hk : k < L) (hL : L ≤ 3072) (kk : LW E b L xs (pc + 1) lv (.int (xs k) :: st) g) : LW E b L xs pc lv (.int (nI k) :: .ref b :: st) g := by
  intro p e s m below meth c H locs A C0 hK hz hH hS hl
  have hw := kk p e s m below meth c H locs A C0 hK hz hH hS hl
  have hb := C0.2.2.2.2.2.2.2.1
  refine va_sld C0.1 C0.2.1 C0.2.2.2.2.2.2.1 hb (show ¬ E.2.1 ≤ b by omega) hS (vpI hk (by omega)) hd ?_
  rw [nI_cl (by omega)]
  exact hw
theorem LW_len (hd : decode code pc = .ok (.arraylength, 1)) (kk : LW E b L xs (pc + 1) lv (.int (nI L) :: st) g) : LW E b L xs pc lv (.ref b :: st) g := by
  intro p e s m below meth c H locs A C0 hK hz hH hS hl
  have hb := C0.2.2.2.2.2.2.2.1
  exact va_slen C0.1 C0.2.1 C0.2.2.2.2.2.2.1 hb (show ¬ E.2.1 ≤ b by omega) hS hd (kk p e s m below meth c H locs A C0 hK hz hH hS hl)
/-- one of the script's numbers -/
theorem LW_arg {i k : Nat} (d0 : decode code pc = .ok (.aload_n 0, 1)) (d1 : decode code (pc + 1) = .ok (.iload_n 3, 1)) (d2 : decode code (pc + 2) = .ok (.iconst k, 1)) (d3 : decode code (pc + 3) = .ok (.iadd, 1)) (d4 : decode code (pc + 4) = .ok (.iaload, 1))
    (h0 : lv[3]? = some (0, .ref b)) (h3 : lv[0]? = some (3, .int (nI i))) (hk : Int32.ofInt k = nI k) (hi : i + k < L) (hL : L ≤ 3072) (kk : LW E b L xs (pc + 5) lv (.int (xs (i + k)) :: st) g) : LW E b L xs pc lv st g := by
  refine LW_aload d0 rfl h0 (LW_iload d1 rfl h3 (LW_iconst d2 hk (LW_iadd d3 ?_)))
  rw [nI_add]
  exact LW_scr d4 hi hL kk
/-- the law's end -/
theorem LW_ret (hg : g.1 = NC) (d0 : decode code pc = .ok (.ireturn, 1)) : LW E b L xs pc lv [.int 1] g := by
  intro p e s m below meth c H locs A C0 hK hz hH hS hl
  refine va_forget (fun q hq => by rw [hz]; exact hS.2.2 q hq) ?_
  rw [hg]
  refine W.widen (k := 600000) (n := 7302249) (by decide) jslNC ?_
  exact lw_ret C0.1 C0.2.1 C0.2.2.1 C0.2.2.2.2.2.2.2.2.1 d0
/-- behind a call -/
theorem LW_back {p : Program} {e : Env} {s : State} {m : MethodId} {aa : Array Value} {below : List Frame} {meth : Method} {c : Code} {H : Heap} {locs : List Loc} {A : Array Slot} {n1 : Nat} {K' : Option Value → JS → Prop} {st0 : List Value}
    (hr : va_Run p E.1 e room_1 s m #[Value.ref b] below meth c H locs g.1 (jsl g.1) (n1 - g.1) (jsl n1 - jsl g.1) (F0 m pc A st0) st (jQ E n1 K' aa) (jFr E)) (h2 : g.1 ≤ n1)
    (C0 : lw_At p s m meth c b L xs) (hK : JKn E s) (hz : s.heap.size = E.2.1) (hS : va_S (jFr E) s.heap H locs) (hl : lv_has A 4 lv)
    (kk : ∀ v g', K' v g' → g'.1 = n1 → LW E b L xs (pc + 3) lv ((v.map (jrl E.2.1)).toList ++ st) g') :
    W p E.1 e room_1 s m #[Value.ref b] below meth c H locs g.1 (jsl g.1) (lw_Z below #[Value.ref b] s) (F0 m pc A st0) := by
  intro T hT XS
  obtain ⟨v, s0, t, T', L', h0, X', hL, e1, e2, ⟨⟨v', g', hv, hk, hn, hcat, hH'⟩, hz', hF⟩, step⟩ := hr T hT XS
  cases hv
  rw [h0] at hz' hF
  have m1 := jsl_mono h2
  rw [show g.1 + (n1 - g.1) = n1 by omega, show jsl g.1 + (jsl n1 - jsl g.1) = jsl n1 by omega] at X'
  have h := kk v' g' hk hn p e s m below meth c T'.heap (locs ++ L') A C0 hK hz (by rw [e1]; exact hH') ⟨Nat.le_trans hS.1 (by rw [e1]; exact hz'), fun q h1 h2 => by rw [e1, hF q (Nat.lt_of_lt_of_le h1 hS.1) h2]; exact hS.2.1 q h1 h2, fun q hq => by
      rcases List.mem_append.mp hq with h | h
      · exact hS.2.2 q h
      · exact hL q h⟩ hl
  rw [hn] at h
  obtain ⟨t2, a1, b1⟩ := h T' rfl X'
  exact ⟨t2, step t2 a1, b1⟩
theorem lgood {y' : JY} (hc : Cond.code y'.1 y'.2.1 y'.2.2.1 y'.2.2.2 ∈ lw_gd) : GoodIn lw_tbl (jwd y') := by
  intro w hw
  have hg : w ∈ lw_gd := by
    rcases List.mem_cons.mp hw with rfl | h
    · exact hc
    · exact h
  exact ⟨(lw_gd_ok hg).1, good_of_word (lw_gd_ok hg).2⟩
theorem lroom {gn n1 d' mL : Nat} (h2 : gn ≤ n1) (h3 : n1 ≤ NC) (hd : d' ≤ 50) (hm : mL ≤ 80) :
    (jrm gn n1 d').frames + 1 ≤ room_1.frames ∧ 8 + (mL + 11) + (jrm gn n1 d').locals ≤ room_1.locals ∧ gn + (n1 - gn) ≤ room_1.cells ∧ jsl gn + (jsl n1 - jsl gn) ≤ room_1.slots := by
  have a2 := jsl_mono h2
  have a3 := jsl_mono h3
  have a4 := jslNC
  have a5 : n1 ≤ 3771 := h3
  show d' + 1 ≤ 2048 ∧ 8 + (mL + 11) + 100 * d' ≤ 84000 ∧ gn + (n1 - gn) ≤ 600000 ∧ jsl gn + (jsl n1 - jsl gn) ≤ 7302249
  omega
theorem LW_callV {idx n n1 d' a ci : Nat} {y' : JY} {as : List Value} {K' : Option Value → JS → Prop} {r : vw_C} (hw : jcV R_law idx y' n) (hd : decode code pc = .ok (.invokevirtual idx, 3)) (hn : as.length = n) (hst : (st.map fun v => v.category).sum ≤ 8)
    (hkd : jkd a = .inl ci) (hci : vwCl[ci]? = some r) (hcl : r.1 = y'.1.cls) (ha : a < g.1) (hd' : d' ≤ 50) (h2 : g.1 ≤ n1) (h3 : n1 ≤ NC)
    (hM : JC E g.1 n1 d' y' (.ref a :: as) K' g) (kk : ∀ v g', K' v g' → g'.1 = n1 → LW E b L xs (pc + 3) lv ((v.map (jrl E.2.1)).toList ++ st) g') : LW E b L xs pc lv ((as.map (jrl E.2.1)).reverse ++ .ref (E.2.1 + a) :: st) g := by
  intro p e s m below meth c H locs A C0 hK hz hH hS hl
  obtain ⟨⟨w1, w2, w3, w4, w5⟩, w6, w7, w8⟩ := hw
  obtain ⟨hx, hb, hr, hml, hown, hts, -⟩ := id C0
  have hin : ∀ {w : Cond}, w ∈ lw_gd → w.before #[Value.ref b] s = true := fun h => hts _ (lw_gd_ok h).1
  obtain ⟨r1, r2, r3⟩ := lroom (mL := y'.2.2.1) h2 h3 hd' w5
  have hat := hH.2 a ha
  rw [jen_obj hkd] at hat
  obtain ⟨r', q1, cell, q2, q3, q4, q5⟩ := hat
  cases q1.symm.trans hci
  have hcls := (hK.1.1 ci _ hci).2.1
  refine LW_back (n1 := n1) (aa := (Value.ref (E.2.1 + a) :: as.map (jrl E.2.1)).toArray) (K' := K') ?_ h2 C0 hK hz hS hl kk
  refine va_runV (C := y'.1.cls) (n := n) (b := E.2.1 + a) (As := as.map (jrl E.2.1)) (Ts := lw_tbl) (nL := 4) (cc := code) (index := idx) ⟨hx, hb, hml, hown, hts⟩ hM ⟨⟨rfl, rfl, r1, r2, pay_in hts (lgood w1), List.mem_cons_self, hin w1, hin w2, w3, jsig w4, hin w6⟩, hin w7, hin w8⟩
    ⟨jP_blind, ⟨cell, q2, by rw [q4]; rfl, by rw [q3, ← hcl]; exact hcls⟩, fun U hU hW => ⟨rfl, by rw [hU]; exact hH, JKn.warm hW hK⟩⟩ rfl (by rw [List.length_map]; exact hn) hl.1 rfl (by show 2 * 0 + _ ≤ 8; omega) hd ⟨r3.1, r3.2⟩
theorem LW_callI {idx n n1 d' a : Nat} {y' : JY} {as : List Value} {K' : Option Value → JS → Prop} (hw : jcI R_law idx y' n) (hd : decode code pc = .ok (.invokespecial idx, 3)) (hn : as.length = n) (hst : (st.map fun v => v.category).sum ≤ 8)
    (hd' : d' ≤ 50) (h2 : g.1 ≤ n1) (h3 : n1 ≤ NC)
    (hM : JC E g.1 n1 d' y' (.ref a :: as) K' g) (kk : ∀ v g', K' v g' → g'.1 = n1 → LW E b L xs (pc + 3) lv ((v.map (jrl E.2.1)).toList ++ st) g') : LW E b L xs pc lv ((as.map (jrl E.2.1)).reverse ++ .ref (E.2.1 + a) :: st) g := by
  intro p e s m below meth c H locs A C0 hK hz hH hS hl
  obtain ⟨⟨w1, w2, w3, w4, w5⟩, w0, w6, w7, w8⟩ := hw
  obtain ⟨hx, hb, hr, hml, hown, hts, -⟩ := id C0
  have hin : ∀ {w : Cond}, w ∈ lw_gd → w.before #[Value.ref b] s = true := fun h => hts _ (lw_gd_ok h).1
  obtain ⟨r1, r2, r3⟩ := lroom (mL := y'.2.2.1) h2 h3 hd' w5
  refine LW_back (n1 := n1) (aa := (Value.ref (E.2.1 + a) :: as.map (jrl E.2.1)).toArray) (K' := K') ?_ h2 C0 hK hz hS hl kk
  have hM' := hM
  unfold JC at hM'
  refine va_runI (maxL := y'.2.2.1) (bytes := y'.2.1) (n := n) (b := E.2.1 + a) (As := as.map (jrl E.2.1)) (Ts := lw_tbl) (nL := 4) (cc := code) (index := idx) ⟨hx, hb, hml, hown, hts⟩ hM' ⟨⟨rfl, rfl, r1, r2, pay_in hts (lgood w1), by rw [← w0]; exact List.mem_cons_self, by rw [← w0]; exact hin w1, hin w2, w3, jsig w4, hin w7⟩, w6, hin w8⟩
    ⟨jP_blind, fun U hU hW => ⟨rfl, by rw [hU]; exact hH, JKn.warm hW hK⟩⟩ rfl (by rw [List.length_map]; exact hn) hl.1 rfl (by show 2 * 0 + _ ≤ 8; omega) hd ⟨r3.1, r3.2⟩
theorem LW_new {ci idx : Nat} {C : String} {T : u_T} {ty : Nat → FieldType} {r' : JR} (hc : vwCl[ci]? = some (C, T, jnf ci)) (hin : ∀ w ∈ u_ws C T (jnf ci), w ∈ lw_gd) (hty : ∀ k, k < jnf ci → parseFieldDescriptor (T k).2.2.1 = some (ty k))
    (hcl : Cond.classLink R_law idx C ∈ lw_gd ∧ Cond.instantiable C (jnf ci) ∈ lw_gd ∧ Cond.initialized C ∈ lw_gd) (hdv : ∀ k, k < jnf ci → defaultValue (ty k) = if jfr ci k = true then .null else .int 0)
    (hd : decode code pc = .ok (.new idx, 3)) (hkd : jkd g.1 = .inl ci) (h1 : g.1 < NC) (hu : ∀ k, g.2.2 g.1 k = 0) (hr : ∀ k, r' g.1 k = none) (hr' : ∀ a, a < g.1 → r' a = g.2.1 a)
    (kk : LW E b L xs (pc + 3) lv (.ref (E.2.1 + g.1) :: st) (g.1 + 1, r', g.2.2)) : LW E b L xs pc lv st g := by
  intro p e s m below meth c H locs A C0 hK hz0 hH hS hl
  obtain ⟨hx, hb, hrt, hml, hown, hts, -⟩ := id C0
  have hw : ∀ {w : Cond}, w ∈ lw_gd → w.before #[Value.ref b] s = true := fun h => hts _ (lw_gd_ok h).1
  have hKc := hK.1.1 ci _ hc
  have hz : H.size = E.2.1 + g.1 := hH.1
  have sz : jsl (g.1 + 1) = jsl g.1 + jnf ci := by rw [jslot]; unfold jsz; rw [hkd]
  have m2 := jsl_mono (show g.1 + 1 ≤ NC from h1)
  have m3 := jslNC
  have m4 : g.1 < 3771 := h1
  refine W.newcK hx hb hown (hw hcl.1) (hw hcl.2.1) (hw hcl.2.2) rfl hd (by show g.1 + 1 ≤ 600000; omega) (by show jsl g.1 + jnf ci ≤ 7302249; omega) hKc.2.1 hz fun H1 kC hkC e1 z1 o1 => ?_
  rw [← hz] at z1 o1
  have hb' := u_born (ws := lw_tbl) ty hts (fun w hw => (lw_gd_ok (hin w hw)).1) hKc hkC e1 hty
  have hJ : JH E (g.1 + 1, r', g.2.2) H1 := hH.more z1 o1 (by
    rw [jen_obj hkd]
    refine ⟨_, hc, hb'.to fun j hj => ?_⟩
    show _ = vp_V ((List.range (jnf ci)).map (jfv E.2.1 r' g.2.2 g.1 ci)) j
    rw [jfs_V hj, hdv j hj]
    unfold jfv
    rw [hr j, hu j]
    rfl) hr'
  have hv := kk p e s m below meth c H1 locs A C0 hK hz0 hJ (jS_more hS z1 o1) hl
  rw [← sz]
  exact hv
end LWs
/-- the environment that a start gives -/
theorem lw_E {p : Program} {s : State} {m : MethodId} {meth : Method} {c : Code} {b L : Nat} {xs : Nat → Int32} (l : Launch) (C0 : lw_At p s m meth c b L xs) : ∃ E : JE, E.1 = l ∧ E.2.1 = s.heap.size ∧ JKn E s := by
  obtain ⟨hx, hb, hr, hml, hown, hts, -⟩ := id C0
  have hw : ∀ {w : Cond}, w ∈ lw_gd → w.before #[Value.ref b] s = true := fun h => hts _ (lw_gd_ok h).1
  have hgd : ∀ {ws : List Cond}, (∀ w ∈ ws, w ∈ lw_gd) → ∀ w ∈ ws, w ∈ lw_tbl := fun h w q => (lw_gd_ok (h w q)).1
  have h1 : ∀ ci : Nat, ∃ c : ClassId, ∃ iS : Nat → Nat, ∀ q : vw_C, vwCl[ci]? = some q → u_Kn s q.1 q.2.1 q.2.2 c iS := by
    have z : ∀ {C : String} {T : u_T} {N : Nat}, (∃ (c : ClassId) (iS : Nat → Nat), u_Kn s C T N c iS) → ∀ {ci : Nat}, vwCl[ci]? = some (C, T, N) → ∃ c : ClassId, ∃ iS : Nat → Nat, ∀ q : vw_C, vwCl[ci]? = some q → u_Kn s q.1 q.2.1 q.2.2 c iS := by
      rintro C T N ⟨c, iS, h⟩ ci hq
      exact ⟨c, iS, fun q h' => by cases hq.symm.trans h'; exact h⟩
    intro ci
    match ci with
    | 0 => exact z (u_known (C := RX0) (T := TX0) (N := 5) (n := 5) hts (hgd inX0) (hw (lw_ix 137 (by decide +kernel) (by decide +kernel)))) rfl
    | 1 => exact z (u_known (C := RX1) (T := TX1) (N := 8) (n := 8) hts (hgd inX1) (hw (lw_ix 91 (by decide +kernel) (by decide +kernel)))) rfl
    | 2 => exact z (u_known (C := RX2) (T := TX2) (N := 13) (n := 13) hts (hgd inX2) (hw (lw_ix 85 (by decide +kernel) (by decide +kernel)))) rfl
    | 3 => exact z (u_known (C := RX3) (T := TX3) (N := 3) (n := 3) hts (hgd inX3) (hw (lw_ix 171 (by decide +kernel) (by decide +kernel)))) rfl
    | 4 => exact z (u_known (C := RX4) (T := TX4) (N := 5) (n := 5) hts (hgd inX4) (hw (lw_ix 245 (by decide +kernel) (by decide +kernel)))) rfl
    | 5 => exact z (u_known (C := RX5) (T := TX5) (N := 3) (n := 3) hts (hgd inX5) (hw (lw_ix 300 (by decide +kernel) (by decide +kernel)))) rfl
    | 6 => exact z (u_known (C := RX6) (T := TX6) (N := 4) (n := 4) hts (hgd inX6) (hw (lw_ix 277 (by decide +kernel) (by decide +kernel)))) rfl
    | 7 => exact z (u_known (C := RX7) (T := TX7) (N := 7) (n := 7) hts (hgd inX7) (hw (lw_ix 77 (by decide +kernel) (by decide +kernel)))) rfl
    | 8 => exact z (u_known (C := RX8) (T := TX8) (N := 48) (n := 48) hts (hgd inX8) (hw (lw_ix 760 (by decide +kernel) (by decide +kernel)))) rfl
    | k + 9 => exact ⟨0, fun _ => 0, fun q h => by simp at h⟩
  obtain ⟨dC, h2⟩ := Classical.axiomOfChoice h1
  obtain ⟨dI, h3⟩ := Classical.axiomOfChoice h2
  obtain ⟨a0, k0, c0, f0, g0, i0⟩ := Cond.arrayClass_spec (hw (w := .arrayClass .int) (lw_ix 134 (by decide +kernel) (by decide +kernel)))
  obtain ⟨a1, k1, c1, f1, g1, i1⟩ := Cond.arrayClass_spec (hw (w := .arrayClass .boolean) (lw_ix 135 (by decide +kernel) (by decide +kernel)))
  have o2 := hts (.arrayOver (.array .int)) (List.mem_of_getElem? (i := 306) (by decide +kernel))
  have o3 := hts (.arrayOver (.array (.array .int))) (List.mem_of_getElem? (i := 767) (by decide +kernel))
  have o4 := hts (.arrayOver (.object RX3)) (List.mem_of_getElem? (i := 251) (by decide +kernel))
  obtain ⟨c2, a2, k2, -, -, g2, i2, f2⟩ := arrayOverA_spec o2
  obtain ⟨c3, a3, k3, -, -, g3, i3, f3⟩ := arrayOverA_spec o3
  obtain ⟨c4, a4, k4, e4, -, g4, i4, f4⟩ := Cond.arrayOver_spec o4
  refine ⟨(l, s.heap.size, (dC, dI), fun t => match t with
    | .int => a0
    | .boolean => a1
    | .array .int => a2
    | .array _ => a3
    | _ => a4), rfl, rfl, ⟨fun ci q hq => h3 ci q hq, fun k q hq => ?_⟩, o4, o2, o3, fun w hw' => ?_⟩
  · match k, hq with
    | 0, hq => cases hq; exact ⟨fun N z => ⟨(fun k h => by cases h), k0, g0, c0, i0⟩, f0⟩
    | 1, hq => cases hq; exact ⟨fun N z => ⟨(fun k h => by cases h), k1, g1, c1, i1⟩, f1⟩
    | 2, hq => cases hq; exact ⟨fun N z => ⟨(fun k h => by cases h), k2, g2, c2, i2⟩, f2⟩
    | 3, hq => cases hq; exact ⟨fun N z => ⟨(fun k h => by cases h), k3, g3, c3, i3⟩, f3⟩
    | 4, hq => cases hq; exact ⟨fun N z => ⟨(fun k h => by cases h), k4, g4, c4, i4⟩, k4, c4, g4, i4, e4, f4⟩
    | k + 5, hq => simp [jtys] at hq
  · have h := List.mem_filter.mp hw'
    have hn := h.2
    cases w with
    | methodLinkNest a i x h' => exact va_Nw.of rfl (hts _ h.1)
    | _ => exact absurd hn (by simp [lw_isN])
