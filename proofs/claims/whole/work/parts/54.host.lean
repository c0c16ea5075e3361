/-! film, image, back, count, the host's calls -/
theorem CW.shs {w : Wd} {h' : Sh} {u u' : JM} (c : CW w u) (hs : same u u' (fun b => 130 ≤ b ∧ b ≤ 136)) (h : CS h' u') : CW (w.1, w.2.1, w.2.2.1, h') u' := by
  obtain ⟨c1, c2, c3, c4, c5, c6⟩ := c
  refine ⟨c1.draft fun b h1 h2 h3 => hs b (by omega), fun row hr => by rw [hs 61 (by omega)]; exact c2 row hr, fun row hr => by rw [hs 97 (by omega)]; exact c3 row hr, by rw [hs 0 (by omega)]; exact c4, fun q => (c5 q).draft fun b h1 h2 h3 => hs b (by omega), h⟩
/-- a film's rows, up to the k-th -/
def shF (h : Sh) (i : Nat) (f : Nat → Int32) : Nat → Sh
  | 0 => shB h i 1 8
  | k + 1 => shP (shF h i f k) i k (f k)
noncomputable def nxFilm (w : Wd) (a1 a2 : Int32) : Wd := if rg a1 0 3 ∧ rg a2 0 7 then (w.1, w.2.1, w.2.2.1, shF w.2.2.2 a1.toNatClampNeg (fun d => (rtC w.1 a2.toNatClampNeg d).1) 8) else w
def anFilm (a1 a2 : Int32) : Int32 := if rg a1 0 3 ∧ rg a2 0 7 then 8 else -2
theorem c_X7_film {E : JE} {u : JM} {K : Int32 → JM → Prop}  {a1 a2 : Int32} {w : Wd} (c : CW w u) (ww : NW w.1)
    (hK : ∀ u', same u u' inC → CW (nxFilm w a1 a2) u' → K (anFilm a1 a2) u') : JCi E 5 YX7_film [.ref 0, .int a1, .int a2] K u := by
  refine JCi.ofV (ls := [some (.ref 0), some (.int a1), some (.int a2), none]) (by decide +kernel) (Nat.le_of_ble_eq_true rfl) rfl rfl (g_X7_film_0  ?_)
  unfold anFilm nxFilm at hK
  by_cases ok : rg a1 0 3 ∧ rg a2 0 7
  · rw [if_pos ok, if_pos ok] at hK
    obtain ⟨o1, o2⟩ := ok
    refine ⟨fun q => absurd o1 (jb_0.mp q), fun _ => ⟨fun _ => ?_, fun q => absurd o2 (jb_0.mp q)⟩⟩
    obtain ⟨i, hi, rfl⟩ := sh_nI o1
    obtain ⟨r, hr, rfl⟩ := rt_nI o2
    rw [nI_cl (by omega), nI_cl (by omega)] at hK
    refine c_X4_find isN1 c.1.1 c.1.2.1 ww.1 ww.2.1 hr fun u1 q1 t1 => ?_
    have c1 : CW w u1 := c.sc (q1.mono fun b q => by unfold inR at q; unfold scr; omega)
    refine c_X5_become (n := 8) c1.2.2.2.2.2 hi fun u2 q2 h2 => ?_
    have main : ∀ (m k : Nat) (u' : JM), m + k = 8 → same u1 u' (fun b => 130 ≤ b ∧ b ≤ 136) → CS (shF w.2.2.2 i (fun d => (rtC w.1 r d).1) k) u' → JVi E 5 YX7_film K 46 [some (.ref 0), some (.int (nI i)), some (.int (nI r)), some (.int (nI k))] [] u' := by
      intro m
      induction m with
      | zero =>
        intro k u' hm hs hS
        obtain rfl : k = 8 := by omega
        exact g_X7_film_46 ⟨fun _ => hK u' ((q1.mono fun b q => by unfold inR at q; unfold inC; omega).trans (hs.mono fun b q => by unfold inC; omega)) (c1.shs hs hS), fun q => absurd (show (8 : Int32) ≤ nI 8 by decide) q⟩
      | succ m ih =>
        intro k u' hm hs hS
        refine g_X7_film_46 ⟨fun q => absurd q (nI_ge (a := k) (b := 8) (by omega) (by omega)), fun _ => ⟨vpI (by omega) (by omega), ?_⟩⟩
        rw [nI_cl (by omega), hs 110 (by omega), (t1 k (by omega)).1, nI_1]
        exact c_X5_put hS hi (by omega) fun u3 q3 h3 => ih (k + 1) u3 (by omega) (hs.trans (q3.mono fun b q => by omega)) h3
    exact main 8 0 u2 (by omega) (q2.mono fun b q => by omega) h2
  · have hB : K (-2) u := by
      have := hK u same.rfl (by rw [if_neg ok]; exact c)
      rwa [if_neg ok] at this
    by_cases o1 : rg a1 0 3
    · exact ⟨fun _ => hB, fun _ => ⟨fun q => absurd ⟨o1, jb_n0.mp q⟩ ok, fun _ => hB⟩⟩
    · exact ⟨fun _ => hB, fun q => absurd (jb_n0.mp q) o1⟩
def nxImage (w : Wd) : Wd := (w.1, w.1, true, w.2.2.2)
def anImage (w : Wd) : Int32 := nI (w.1 0 0)
theorem CN.z24 {N : Nat} {s : St} {u : JM} (c : CN N s u) (f : FZ s) : ∀ row, row < 192 → u (N + 24) row = 0 := fun row hr => by
  have := (c.2.2.2.1 row hr).1
  rw [f row hr] at this
  exact this
theorem c_X7_image {E : JE} {u : JM} {K : Int32 → JM → Prop}  {w : Wd} (c : CW w u) (ww : NW w.1)
    (hK : ∀ u', same u u' inC → CW (nxImage w) u' → K (anImage w) u') : JCi E 3 YX7_image [.ref 0] K u := by
  refine JCi.ofV (ls := [some (.ref 0)]) (by decide +kernel) (Nat.le_of_ble_eq_true rfl) rfl rfl (g_X7_image_0  ?_)
  refine c_X2_takeOver isN73 isN1 (by decide) c.1 ww.1 ww.2.2.1 ww.2.2.2.1 (fun row hr => c.2.2.1 row hr) fun u1 q1 h1 u2 h2 => ?_
  have e : ∀ b, b ≠ 0 → ¬ inNet 73 b → u2 b = u b := fun b b0 b1 => by rw [h2, jw_ne b0]; exact q1 b b1
  have e1 : ∀ b, b ≠ 0 → u2 b = u1 b := fun b b0 => by rw [h2, jw_ne b0]
  have hC : CW (nxImage w) u2 := by
    refine ⟨c.1.draft fun b b1 b2 b3 => e b (by omega) (by unfold inNet; omega), fun row hr => by rw [e 61 (by omega) (by unfold inNet; omega)]; exact c.2.1 row hr, fun row hr => by rw [e1 97 (by omega)]; exact h1.z24 ww.2.2.2.1 row hr, ?_, fun _ => h1.draft fun b b1 b2 b3 => e1 b (by omega), c.2.2.2.2.2.congr fun b b1 b2 => e b (by omega) (by unfold inNet; omega)⟩
    rw [h2, jw_at, if_pos rfl]
    rfl
  have h := hK u2 (fun b hb => e b (by unfold inC at hb; omega) (by unfold inC at hb; unfold inNet; omega)) hC
  rw [show u2 2 0 = nI (w.1 0 0) from hC.1.1.1]
  exact h
noncomputable def nxBack (w : Wd) : Wd := if w.2.2.1 = true then (w.2.1, w.2) else w
noncomputable def anBack (w : Wd) : Int32 := if w.2.2.1 = true then nI (w.2.1 0 0) else -3
theorem c_X7_back {E : JE} {u : JM} {K : Int32 → JM → Prop}  {w : Wd} (c : CW w u) (ww : NW w.1) (wk : w.2.2.1 = true → NW w.2.1)
    (hK : ∀ u', same u u' inC → CW (nxBack w) u' → K (anBack w) u') : JCi E 3 YX7_back [.ref 0] K u := by
  refine JCi.ofV (ls := [some (.ref 0)]) (by decide +kernel) (Nat.le_of_ble_eq_true rfl) rfl rfl (g_X7_back_0  ?_)
  unfold anBack nxBack at hK
  have ek := c.2.2.2.1
  by_cases ok : w.2.2.1 = true
  · rw [if_pos ok] at ek
    rw [if_pos ok, if_pos ok] at hK
    refine ⟨fun _ => ?_, fun q => absurd (ek.symm.trans q) (by decide)⟩
    have k := wk ok
    refine c_X2_takeOver isN1 isN73 (by decide) (c.2.2.2.2.1 ok) k.1 k.2.2.1 k.2.2.2.1 (c.1.z24 ww.2.2.2.1) fun u1 q1 h1 => ?_
    have h := hK u1 (q1.mono fun b q => by unfold inNet at q; unfold inC; omega) (c.live q1 h1)
    rw [show u1 2 0 = nI (w.2.1 0 0) from h1.1.1]
    exact h
  · rw [if_neg ok] at ek
    rw [if_neg ok, if_neg ok] at hK
    exact ⟨fun q => absurd ek q, fun _ => hK u same.rfl c⟩
def anCount (s : St) (a1 : Int32) : Int32 := if a1 = 0 then nI (s 0 0) else if a1 = 1 then nI (cntP (s 0 0) fun l => decide (s 6 l = 1)) else if a1 = 2 then nI (s 21 0) else if a1 = 3 then nI (s 22 0) else if a1 = 4 then nI (s 13 0) else if a1 = 5 then nI (sumTo (knS s) 8) else -2
theorem c_X7_count {E : JE} {u : JM} {K : Int32 → JM → Prop}  {a1 : Int32} {w : Wd} (c : CW w u) (ww : NW w.1) (hK : K (anCount w.1 a1) u) : JCi E 4 YX7_count [.ref 0, .int a1] K u := by
  refine JCi.ofV (ls := [some (.ref 0), some (.int a1)]) (by decide +kernel) (Nat.le_of_ble_eq_true rfl) rfl rfl (g_X7_count_0  ?_)
  unfold anCount at hK
  rw [show u 2 0 = nI (w.1 0 0) from c.1.1.1, show u 1 7 = nI (w.1 21 0) from c.1.2.2.2.2.1, show u 1 8 = nI (w.1 22 0) from c.1.2.2.2.2.2, show u 1 6 = nI (w.1 13 0) from c.1.2.2.1.1]
  refine ⟨fun q => ?_, fun q => ?_, fun q => ?_, fun q => ?_, fun q => ?_, fun q => ?_, fun q0 q1 q2 q3 q4 q5 => ?_⟩
  · rw [if_pos q] at hK; exact hK
  · rw [q, if_neg (by decide), if_pos rfl] at hK
    exact c_X1_upInAll isN1 c.1.1 ww.1 hK
  · rw [q, if_neg (by decide), if_neg (by decide), if_pos rfl] at hK; exact hK
  · rw [q, if_neg (by decide), if_neg (by decide), if_neg (by decide), if_pos rfl] at hK; exact hK
  · rw [q, if_neg (by decide), if_neg (by decide), if_neg (by decide), if_neg (by decide), if_pos rfl] at hK; exact hK
  · rw [q, if_neg (by decide), if_neg (by decide), if_neg (by decide), if_neg (by decide), if_neg (by decide), if_pos rfl] at hK
    exact c_X2_knownToAll isN1 c.1.2.1 ww.2.1 hK
  · rw [if_neg q0, if_neg q1, if_neg q2, if_neg q3, if_neg q4, if_neg q5] at hK; exact hK
abbrev okS (a1 a2 : Int32) : Prop := rg a1 0 3 ∧ -1 ≤ a2.toInt ∧ a2.toInt ≤ 1
def anSheet (a1 a2 a3 : Int32) : Int32 := if okS a1 a2 then (if a2 = -1 then 1 else if 40 < a3.toInt then -2 else if a3.toInt < 0 then -14 else 1) else -2
def nxSheet (w : Wd) (a1 a2 a3 : Int32) : Wd := if okS a1 a2 then (if a2 = -1 then (w.1, w.2.1, w.2.2.1, shB w.2.2.2 a1.toNatClampNeg (-1) 0) else if 40 < a3.toInt then w else if a3.toInt < 0 then w else (w.1, w.2.1, w.2.2.1, shB w.2.2.2 a1.toNatClampNeg a2 a3.toNatClampNeg)) else w
theorem c_X7_sheet {E : JE} {u : JM} {K : Int32 → JM → Prop}  {a1 a2 a3 : Int32} {w : Wd} (c : CW w u)
    (hK : ∀ u', same u u' inC → CW (nxSheet w a1 a2 a3) u' → K (anSheet a1 a2 a3) u') : JCi E 3 YX7_sheet [.ref 0, .int a1, .int a2, .int a3] K u := by
  refine JCi.ofV (ls := [some (.ref 0), some (.int a1), some (.int a2), some (.int a3)]) (by decide +kernel) (Nat.le_of_ble_eq_true rfl) rfl rfl (g_X7_sheet_0  ?_)
  unfold anSheet nxSheet at hK
  have m2 : a2 < -1 ↔ a2.toInt < -1 := by rw [Int32.lt_iff_toInt_lt, tI_m1]
  have m1 : a2 ≤ 1 ↔ a2.toInt ≤ 1 := i32_le (k := 1) (by decide)
  have m3 : a3 ≤ 40 ↔ a3.toInt ≤ 40 := i32_le (k := 40) (by decide)
  have m0 : 0 ≤ a3 ↔ 0 ≤ a3.toInt := by rw [Int32.le_iff_toInt_le, tI_0]
  have hs : ∀ {u' : JM} {i : Nat}, i < 4 → same u u' (fun b => b = 130 ∨ b = 131 ∨ b = 133 + i) → same u u' (fun b => 130 ≤ b ∧ b ≤ 136) := fun hi q => q.mono fun b q => by omega
  by_cases ok : okS a1 a2
  · rw [if_pos ok, if_pos ok] at hK
    obtain ⟨o1, o2, o3⟩ := ok
    refine ⟨fun q => absurd o1 (jb_0.mp q), fun _ => ⟨fun q => absurd (m2.mp q) (by omega), fun _ => ⟨fun _ => ?_, fun q => absurd (m1.mpr o3) q⟩⟩⟩
    obtain ⟨i, hi, rfl⟩ := sh_nI o1
    rw [nI_cl (by omega)] at hK
    refine ⟨fun q => ?_, fun q => ?_⟩
    · rw [if_neg q, if_neg q] at hK
      refine ⟨fun z => ?_, fun z => ?_⟩
      · have z' := m3.mp z
        rw [if_neg (show ¬ 40 < a3.toInt by omega), if_neg (show ¬ 40 < a3.toInt by omega)] at hK
        refine ⟨fun y => ?_, fun y => ?_⟩
        · have y' := m0.mp y
          rw [if_neg (show ¬ a3.toInt < 0 by omega), if_neg (show ¬ a3.toInt < 0 by omega)] at hK
          obtain ⟨n, hn, rfl⟩ := rg_nI (a := a3) (hi := 40) (by decide) ⟨y', z'⟩
          rw [nI_cl (by omega)] at hK
          exact c_X5_become c.2.2.2.2.2 hi fun u1 q1 h1 => hK u1 (q1.mono fun b q => by unfold inC; omega) (c.shs (hs hi q1) h1)
        · have y' : a3.toInt < 0 := Int.not_le.mp fun g => y (m0.mpr g)
          rw [if_pos y', if_pos y'] at hK
          exact hK u same.rfl c
      · have z' : 40 < a3.toInt := Int.not_le.mp fun g => z (m3.mpr g)
        rw [if_pos z', if_pos z'] at hK
        exact hK u same.rfl c
    · rw [if_pos q, if_pos q] at hK
      exact c_X5_become (n := 0) c.2.2.2.2.2 hi fun u1 q1 h1 => hK u1 (q1.mono fun b q => by unfold inC; omega) (c.shs (hs hi q1) h1)
  · have hB : K (-2) u := by
      have := hK u same.rfl (by rw [if_neg ok]; exact c)
      rwa [if_neg ok] at this
    by_cases o1 : rg a1 0 3
    · refine ⟨fun _ => hB, fun _ => ⟨fun _ => hB, fun q1 => ⟨fun q2 => ?_, fun _ => hB⟩⟩⟩
      exact absurd ⟨o1, Int.not_lt.mp fun g => q1 (m2.mpr g), m1.mp q2⟩ ok
    · exact ⟨fun _ => hB, fun q => absurd (jb_n0.mp q) o1⟩
def anCell (h : Sh) (a1 a2 : Int32) : Int32 := if rg a1 0 3 then (if h.1 a1.toNatClampNeg = -1 then -11 else if isLk (h.2.1 a1.toNatClampNeg) a2 then 1 else -12) else -2
def nxCell (w : Wd) (a1 a2 a3 : Int32) : Wd := if rg a1 0 3 then (if w.2.2.2.1 a1.toNatClampNeg = -1 then w else if isLk (w.2.2.2.2.1 a1.toNatClampNeg) a2 then (w.1, w.2.1, w.2.2.1, shP w.2.2.2 a1.toNatClampNeg a2.toNatClampNeg a3) else w) else w
theorem c_X7_cell {E : JE} {u : JM} {K : Int32 → JM → Prop}  {a1 a2 a3 : Int32} {w : Wd} (c : CW w u) (wS : WS w.2.2.2)
    (hK : ∀ u', same u u' inC → CW (nxCell w a1 a2 a3) u' → K (anCell w.2.2.2 a1 a2) u') : JCi E 2 YX7_cell [.ref 0, .int a1, .int a2, .int a3] K u := by
  refine JCi.ofV (ls := [some (.ref 0), some (.int a1), some (.int a2), some (.int a3)]) (by decide +kernel) (Nat.le_of_ble_eq_true rfl) rfl rfl (g_X7_cell_0  ?_)
  unfold anCell nxCell at hK
  by_cases o1 : rg a1 0 3
  · rw [if_pos o1, if_pos o1] at hK
    refine ⟨fun _ => ?_, fun q => absurd o1 (jb_0.mp q)⟩
    obtain ⟨i, hi, rfl⟩ := sh_nI o1
    rw [nI_cl (show i < 2147483648 by omega)] at hK
    obtain ⟨s1, s2, s3⟩ := c.2.2.2.2.2 i hi
    have hw := (wS i hi).2
    rw [nI_cl (show i < 2147483648 by omega), s1, s2, i32_lt (by omega)]
    refine ⟨vpI hi (by omega), fun q => ?_, fun q => ?_⟩
    · rw [if_neg (jb_0.mp q), if_neg (jb_0.mp q)] at hK
      by_cases o2 : isLk (w.2.2.2.2.1 i) a2
      · rw [if_pos o2, if_pos o2] at hK
        refine ⟨fun q => absurd q (i32_n.mpr o2.1), fun _ => ⟨fun _ => ?_, fun q => absurd o2.2 q⟩⟩
        obtain ⟨j, hj, rfl⟩ := wN_nI (m := 40) (by decide) hw o2
        rw [nI_cl (show j < 2147483648 by omega)] at hK
        exact c_X5_put c.2.2.2.2.2 hi (by omega) fun u1 q1 h1 => hK u1 (q1.mono fun b q => by unfold inC; omega) (c.shs (q1.mono fun b q => by omega) h1)
      · rw [if_neg o2, if_neg o2] at hK
        have hB := hK u same.rfl c
        exact ⟨fun _ => hB, fun q1 => ⟨fun q2 => absurd ⟨i32_n.mp q1, q2⟩ o2, fun _ => hB⟩⟩
    · rw [if_pos (jb_n0.mp q), if_pos (jb_n0.mp q)] at hK
      exact hK u same.rfl c
  · rw [if_neg o1, if_neg o1] at hK
    exact ⟨fun q => absurd (jb_n0.mp q) o1, fun _ => hK u same.rfl c⟩
