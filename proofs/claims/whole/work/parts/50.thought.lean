/-! what would be: links broken, drawn, of another cost, forty ticks on -/
theorem CW.tht {w : Wd} {s' : St} {u u' : JM} (c : CW w u) (hs : same u u' (inNet 37)) (h : CN 37 s' u') (fz : FZ s') : CW w u' := by
  refine c.th (hs.mono fun b q => by unfold inNet at q; unfold scr; omega) fun row hr => ?_
  have := (h.2.2.2.1 row hr).1
  rw [fz row hr] at this
  exact this
theorem c_tko {E : JE} {u : JM} {K : JM → Prop} {w : Wd} (c : CW w u) (ww : NW w.1) (hK : ∀ u', same u u' (inNet 37) → CN 37 w.1 u' → K u') : JCu E 2 YX2_takeOver [.ref 37, .ref 1] K u :=
  c_X2_takeOver isN37 isN1 (by decide) c.1 ww.1 ww.2.2.1 ww.2.2.2.1 (fun row hr => c.2.1 row hr) hK
theorem c_brk {E : JE} {u : JM} {K : JM → Prop} {w : Wd} (c : CW w u) (ww : NW w.1) {l : Nat} (hl : l < w.1 0 0) (hK : ∀ u', same u u' (inNet 37) → CN 37 (set1 w.1 6 l 0) u' → K u') : JCu E 3 YX7_breakInThought [.ref 0, .int (nI l)] K u := by
  have h12 := ww.1.1
  refine JCu.ofV (ls := [some (.ref 0), some (.int (nI l))]) (by decide +kernel) (Nat.le_of_ble_eq_true rfl) rfl rfl (g_X7_breakInThought_0 ?_)
  refine c_tko c ww fun u1 q1 h1 => ⟨vpI (by omega) (by omega), fun u2 h2 => ?_⟩
  rw [nI_cl (by omega)] at h2
  exact hK u2 (by rw [h2]; exact q1.jw (by unfold inNet; omega)) (set1_CN (N := 37) (v := 0) h1 (Or.inr (Or.inr rfl)) (fun _ => by omega) h2)
theorem c_cst {E : JE} {u : JM} {K : JM → Prop} {w : Wd} (c : CW w u) (ww : NW w.1) {l v : Nat} (hl : l < w.1 0 0) (hK : ∀ u', same u u' (inNet 37) → CN 37 (set1 w.1 4 l v) u' → K u') : JCu E 3 YX7_costInThought [.ref 0, .int (nI l), .int (nI v)] K u := by
  have h12 := ww.1.1
  refine JCu.ofV (ls := [some (.ref 0), some (.int (nI l)), some (.int (nI v))]) (by decide +kernel) (Nat.le_of_ble_eq_true rfl) rfl rfl (g_X7_costInThought_0 ?_)
  refine c_tko c ww fun u1 q1 h1 => ⟨vpI (by omega) (by omega), fun u2 h2 => ?_⟩
  rw [nI_cl (by omega)] at h2
  exact hK u2 (by rw [h2]; exact q1.jw (by unfold inNet; omega)) (set1_CN (N := 37) h1 (Or.inl rfl) (fun g => absurd g (by decide)) h2)
/-- the drawn numbers -/
def zz (z : Int32) : Nat → Int32
  | 0 => z
  | n + 1 => zz z n * 1103515245 + 12345
def drB (z : Int32) : Bool := decide ((((z.toUInt32 >>> ((9 : Int32).toUInt32 &&& Int32.toUInt32 31)).toInt32) - ((z.toUInt32 >>> ((9 : Int32).toUInt32 &&& Int32.toUInt32 31)).toInt32) / 4 * 4) = 0)
def drS (s : St) (z : Int32) : Nat → St
  | 0 => s
  | n + 1 => if drB (zz z (n + 1)) = true then set1 (drS s z n) 6 n 0 else drS s z n
theorem drS_ne (s : St) (z : Int32) : ∀ n c, c ≠ 6 → drS s z n c = s c
  | 0, _, _ => rfl
  | n + 1, c, h => by
    unfold drS
    split
    · rw [set1_ne h]; exact drS_ne s z n c h
    · exact drS_ne s z n c h
theorem drS_NW {s : St} (w : NW s) (z : Int32) : ∀ n, n ≤ s 0 0 → NW (drS s z n)
  | 0, _ => w
  | n + 1, h => by
    have ih := drS_NW w z n (by omega)
    unfold drS
    split
    · exact set1_NW ih (by rw [drS_ne s z n 0 (by decide)]; omega) (Or.inr ⟨rfl, by omega⟩)
    · exact ih
theorem c_drw {E : JE} {u : JM} {K : JM → Prop} {w : Wd} (c : CW w u) (ww : NW w.1) {z : Int32} (hK : ∀ u', same u u' (inNet 37) → CN 37 (drS w.1 z (w.1 0 0)) u' → K u') : JCu E 3 YX7_drawInThought [.ref 0, .int z] K u := by
  have h12 := ww.1.1
  refine JCu.ofV (ls := [some (.ref 0), some (.int z), none, none]) (by decide +kernel) (Nat.le_of_ble_eq_true rfl) rfl rfl (g_X7_drawInThought_0 ?_)
  refine c_tko c ww fun u1 q1 h1 => ?_
  have main : ∀ (m k : Nat) (u' : JM), m + k = w.1 0 0 → same u u' (inNet 37) → CN 37 (drS w.1 z k) u' → JVu E 3 YX7_drawInThought K 15 [some (.ref 0), some (.int z), some (.int (zz z k)), some (.int (nI k))] [] u' := by
    intro m
    induction m with
    | zero =>
      intro k u' hm hs hC
      obtain rfl : k = w.1 0 0 := by omega
      refine g_X7_drawInThought_15 ⟨fun _ => hK u' hs hC, fun q => ?_⟩
      rw [show u' 38 0 = nI (drS w.1 z (w.1 0 0) 0 0) from hC.1.1, drS_ne _ _ _ 0 (by decide)] at q
      exact absurd (nI_le (Nat.le_refl _) (by omega)) q
    | succ m ih =>
      intro k u' hm hs hC
      have hk : k < w.1 0 0 := by omega
      refine g_X7_drawInThought_15 ⟨fun q => ?_, fun _ v hv => ?_⟩
      · rw [show u' 38 0 = nI (drS w.1 z k 0 0) from hC.1.1, drS_ne _ _ _ 0 (by decide)] at q
        exact absurd q (nI_ge hk (by omega))
      · have ev : v = zz z (k + 1) := hv
        rw [nI_1, ev]
        refine ⟨fun q => ?_, fun q => ⟨vpI (by omega) (by omega), fun u2 h2 => ?_⟩⟩
        · have e : drS w.1 z (k + 1) = drS w.1 z k := by
            show (if drB (zz z (k + 1)) = true then _ else _) = _
            rw [if_neg (show ¬ drB (zz z (k + 1)) = true from fun g => q (of_decide_eq_true g))]
          exact ih (k + 1) u' (by omega) hs (by rw [e]; exact hC)
        · have e : drS w.1 z (k + 1) = set1 (drS w.1 z k) 6 k 0 := by
            show (if drB (zz z (k + 1)) = true then _ else _) = _
            rw [if_pos (show drB (zz z (k + 1)) = true from decide_eq_true q)]
          rw [nI_cl (by omega)] at h2
          refine ih (k + 1) u2 (by omega) (by rw [h2]; exact hs.jw (by unfold inNet; omega)) ?_
          rw [e]
          exact set1_CN (N := 37) (v := 0) hC (Or.inr (Or.inr rfl)) (fun _ => by omega) h2
  exact main (w.1 0 0) 0 u1 (by omega) q1 h1
/-- forty ticks on in thought -/
theorem c_fty {E : JE} {u : JM} {K : Int32 → JM → Prop} {w : Wd} (c : CW w u) {s' : St} (h : CN 37 s' u) (wn : NW s') (hT : s' 21 0 + 90 < 1000000000)
    (hK : ∀ u' x, same u u' (inNet 37) → CN 37 (ticksS s' 40) u' → NW (ticksS s' 40) → CW w u' → K x u') : JCi E 6 YX2_advance [.ref 37, .int 40] K u := by
  refine c_X2_advance (n := 40) isN37 h wn (by omega) fun u' q1 q2 => ?_
  have n1 := (ticksS_NW wn 40 (by omega)).1
  exact hK u' _ q1 q2 n1 (c.tht q1 q2 n1.2.2.2.1)
theorem rtC_at (s : St) (d : Nat) : (rtC s d d).1 = 0 := by unfold rtC; rw [if_pos rfl]
noncomputable def anSettled (s : St) (a1 : Int32) : Int32 := if rg a1 0 2 then (if a1 = 0 then (quF 80 1 s).1 else if a1 = 1 then nI ((quF 80 1 s).2 22 0) - nI (s 22 0) else nI (sumTo (slS (quF 80 1 s).2) 8)) else -2
theorem quF_NW : ∀ (m n : Nat) (s : St), NW s → s 21 0 + m + 3 < 1000000000 → NW (quF m n s).2
  | 0, _, _, w, _ => w
  | m + 1, n, s, w, h => by
    unfold quF
    split
    · exact tickS_NW w (by omega)
    · exact quF_NW m (n + 1) (tickS s) (tickS_NW w (by omega)) (by rw [tickS_21]; omega)
theorem c_X7_settled {E : JE} {u : JM} {K : Int32 → JM → Prop}  {a1 : Int32} {w : Wd} (c : CW w u) (ww : NW w.1) (hT : w.1 21 0 + 90 < 1000000000)
    (hK : ∀ u', same u u' inC → CW w u' → K (anSettled w.1 a1) u') : JCi E 8 YX7_settled [.ref 0, .int a1] K u := by
  refine JCi.ofV (ls := [some (.ref 0), some (.int a1), none]) (by decide +kernel) (Nat.le_of_ble_eq_true rfl) rfl rfl (g_X7_settled_0  ?_)
  unfold anSettled at hK
  by_cases ok : rg a1 0 2
  · rw [if_pos ok] at hK
    refine ⟨fun q => absurd q (i32_n.mpr ok.1), fun _ => ⟨fun _ => ?_, fun q => absurd ((i32_le (k := 2) (by decide)).mpr ok.2) q⟩⟩
    refine c_tko c ww fun u1 q1 h1 => ?_
    refine c_X2_advanceTillQuiet isN37 h1 ww hT fun u2 q2 h2 => ?_
    have wq := quF_NW 80 1 w.1 ww (by omega)
    have s2 : same u u2 (inNet 37) := q1.trans q2
    have c2 := c.tht s2 h2 wq.2.2.2.1
    have h := hK u2 (s2.mono fun b q => by unfold inNet at q; unfold inC; omega) c2
    rw [show u2 37 8 = nI ((quF 80 1 w.1).2 22 0) from h2.2.2.2.2.2, show u2 1 8 = nI (w.1 22 0) from c2.1.2.2.2.2.2]
    refine ⟨fun q => ?_, fun q => ?_, fun q0 q1 => ?_⟩
    · rw [if_pos q] at h; exact h
    · rw [if_neg (by rw [q]; decide), if_pos q] at h; exact h
    · rw [if_neg q0, if_neg q1] at h
      exact c_X2_staleToAll isN37 h2.1 h2.2.1 wq.1 wq.2.1 h
  · have hB : K (-2) u := by
      have := hK u same.rfl c
      rwa [if_neg ok] at this
    exact ⟨fun _ => hB, fun q1 => ⟨fun q2 => absurd ⟨i32_n.mp q1, (i32_le (k := 2) (by decide)).mp q2⟩ ok, fun _ => hB⟩⟩
noncomputable def anBroken (s : St) (a1 a2 a3 : Int32) : Int32 := if isLk (s 0 0) a1 ∧ rg a2 0 7 ∧ rg a3 0 7 then (if s 6 a1.toNatClampNeg = 0 then -3 else (rtC (ticksS (set1 s 6 a1.toNatClampNeg 0) 40) a2.toNatClampNeg a3.toNatClampNeg).1) else -2
theorem c_X7_broken {E : JE} {u : JM} {K : Int32 → JM → Prop}  {a1 a2 a3 : Int32} {w : Wd} (c : CW w u) (ww : NW w.1) (hT : w.1 21 0 + 90 < 1000000000)
    (hK : ∀ u', same u u' inC → CW w u' → K (anBroken w.1 a1 a2 a3) u') : JCi E 7 YX7_broken [.ref 0, .int a1, .int a2, .int a3] K u := by
  refine JCi.ofV (ls := [some (.ref 0), some (.int a1), some (.int a2), some (.int a3)]) (by decide +kernel) (Nat.le_of_ble_eq_true rfl) rfl rfl (g_X7_broken_0  ?_)
  unfold anBroken at hK
  have hn := ww.1.1
  rw [show u 2 0 = nI (w.1 0 0) from c.1.1.1, nI_toInt (by omega)]
  by_cases ok : isLk (w.1 0 0) a1 ∧ rg a2 0 7 ∧ rg a3 0 7
  · rw [if_pos ok] at hK
    obtain ⟨o1, o2, o3⟩ := ok
    refine ⟨fun q => absurd o1 (jb_0.mp q), fun _ => ⟨fun q => absurd o2 (jb_0.mp q), fun _ => ⟨fun _ => ?_, fun q => absurd o3 (jb_0.mp q)⟩⟩⟩
    obtain ⟨l, hl, rfl⟩ := lk_nI hn o1
    obtain ⟨r, hr, rfl⟩ := rt_nI o2
    obtain ⟨d, hd, rfl⟩ := rt_nI o3
    rw [nI_cl (show l < 2147483648 by omega), nI_cl (show r < 2147483648 by omega), nI_cl (show d < 2147483648 by omega)] at hK
    rw [nI_cl (show l < 2147483648 by omega), show u 8 l = nI (w.1 6 l) from (c.1.1.2.1 l hl).2.2.2.2.2]
    have h6 := (ww.1.2 l hl).2.2.2.2.2.2
    refine ⟨vpI (by omega) (by omega), fun q => ?_, fun q => ?_⟩
    · have q' : ¬ w.1 6 l = 0 := fun g => q (by rw [g]; rfl)
      rw [if_neg q'] at hK
      refine c_brk c ww hl fun u1 q1 h1 => ?_
      have n1 : NW (set1 w.1 6 l 0) := set1_NW ww hl (Or.inr ⟨rfl, by omega⟩)
      have e21 : set1 w.1 6 l 0 21 0 = w.1 21 0 := by rw [set1_ne (by decide)]
      refine c_fty (c.tht q1 h1 n1.2.2.2.1) h1 n1 (by rw [e21]; exact hT) fun u2 x q2 h2 n2 c2 => ?_
      refine c_X4_find isN37 h2.1 h2.2.1 n2.1 n2.2.1 hr fun u3 q3 t3 => ⟨vpI hd (by omega), ?_⟩
      rw [nI_cl (by omega), (t3 d hd).1]
      refine hK u3 ((q1.trans q2).mono (fun b q => by unfold inNet at q; unfold inC; omega) |>.trans (q3.mono fun b q => by unfold inR at q; unfold inC; omega)) (c2.sc (q3.mono fun b q => by unfold inR at q; unfold scr; omega))
    · have q' : w.1 6 l = 0 := nI_inj (by omega) (by omega) (q.trans (show (0 : Int32) = nI 0 from rfl))
      rw [if_pos q'] at hK
      exact hK u same.rfl c
  · have hB : K (-2) u := by
      have := hK u same.rfl c
      rwa [if_neg ok] at this
    by_cases o1 : isLk (w.1 0 0) a1
    · refine ⟨fun _ => hB, fun _ => ?_⟩
      by_cases o2 : rg a2 0 7
      · exact ⟨fun _ => hB, fun _ => ⟨fun q => absurd ⟨o1, o2, jb_n0.mp q⟩ ok, fun _ => hB⟩⟩
      · exact ⟨fun _ => hB, fun q => absurd (jb_n0.mp q) o2⟩
    · exact ⟨fun _ => hB, fun q => absurd (jb_n0.mp q) o1⟩
