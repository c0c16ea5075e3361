/-! the reference: counts, truly -/
theorem cntP_add {n j : Nat} {p q : Nat → Bool} (hj : j < n) (h : ∀ i, i < n → i ≠ j → q i = p i) (hp : p j = false) : cntP n q = cntP n p + if q j then 1 else 0 := by
  induction n with
  | zero => omega
  | succ n ih =>
    show cntP n q + (if q n then 1 else 0) = cntP n p + (if p n then 1 else 0) + if q j then 1 else 0
    by_cases e : j = n
    · subst e
      rw [hp, cntP_ext (n := j) (p := q) (q := p) (fun i hi => h i (by omega) (by omega))]
      simp
    · rw [ih (by omega) (fun i hi => h i (by omega)), h n (by omega) (by omega)]
      omega
/-- one of a router's rows that counts -/
def knB (s : St) (r : Nat) (st : Bool) (j : Nat) : Bool := decide (s 7 (r * 24 + j) ≠ 0) && (!st || stB s (r * 24 + j))
/-- whoever is walked over, routers first and areas within -/
def wkB (o a j : Nat) : Bool := decide (j % 8 < o ∨ (j % 8 = o ∧ j / 8 < a))
def knN (s : St) (r : Nat) (st : Bool) : Nat := cntP 24 (knB s r st)
theorem c_X8_knows {E : JE} {u : JM} {K : Int32 → JM → Prop} {s : St} (hL : QL s u) (hQ : QK s u) (wL : WL s) (wK : WK s) {r : Nat} (hr : r < 8) {st : Bool} {v : Int32} (hv : v = 0 ↔ st = false) (hK : K (nI (knN s r st)) u) : JCi E 3 YX8_knows [.ref 137, .int (nI r), .int v] K u := by
  refine JCi.ofV (ls := [some (.ref 137), some (.int (nI r)), some (.int v), none, none, none, none]) (by decide +kernel) (Nat.le_of_ble_eq_true rfl) rfl rfl (g_X8_knows_0 ?_)
  have main : ∀ (m o : Nat), m + o = 8 → JVi E 3 YX8_knows K 5 [some (.ref 137), some (.int (nI r)), some (.int v), some (.int (nI (cntP 24 fun j => knB s r st j && wkB o 0 j))), some (.int (nI o)), none, none] [] u := by
    intro m
    induction m with
    | zero =>
      intro o hm
      obtain rfl : o = 8 := by omega
      refine g_X8_knows_5 ⟨fun _ => ?_, fun q => absurd (show (8 : Int32) ≤ nI 8 by decide) q⟩
      have e : cntP 24 (fun j => knB s r st j && wkB 8 0 j) = knN s r st := cntP_ext fun j hj => by
        have : wkB 8 0 j = true := by unfold wkB; exact decide_eq_true (by omega)
        rw [this, Bool.and_true]
      rw [e]
      exact hK
    | succ m ih =>
      intro o hm
      have ho : o < 8 := by omega
      refine g_X8_knows_5 ⟨fun q => absurd q (nI_ge (a := o) (b := 8) (by omega) (by omega)), fun _ => ?_⟩
      have inner : ∀ (n a : Nat), n + a = 3 → JVi E 3 YX8_knows K 15 [some (.ref 137), some (.int (nI r)), some (.int v), some (.int (nI (cntP 24 fun j => knB s r st j && wkB o a j))), some (.int (nI o)), some (.int (nI a)), none] [] u := by
        intro n
        induction n with
        | zero =>
          intro a hn
          obtain rfl : a = 3 := by omega
          refine g_X8_knows_15 ⟨fun _ => ?_, fun q => absurd (show (3 : Int32) ≤ nI 3 by decide) q⟩
          have e : cntP 24 (fun j => knB s r st j && wkB o 3 j) = cntP 24 (fun j => knB s r st j && wkB (o + 1) 0 j) := cntP_ext fun j hj => by
            have : wkB o 3 j = wkB (o + 1) 0 j := by
              unfold wkB
              apply decide_eq_decide.mpr
              omega
            rw [this]
          rw [e, nI_1]
          exact ih (o + 1) (by omega)
        | succ n ih2 =>
          intro a hn
          have ha : a < 3 := by omega
          have hp := pl_lt hr ho ha
          have hn7 := num_lt wK hr ho ha
          have k1 := (hQ r o a hr ho ha).1
          have er : rw8 r a o = r * 24 + (a * 8 + o) := by unfold rw8; omega
          have next := ih2 (a + 1) (by omega)
          have ec : cntP 24 (fun j => knB s r st j && wkB o (a + 1) j) = cntP 24 (fun j => knB s r st j && wkB o a j) + if knB s r st (a * 8 + o) then 1 else 0 := by
            rw [cntP_add (n := 24) (j := a * 8 + o) (p := fun j => knB s r st j && wkB o a j) (q := fun j => knB s r st j && wkB o (a + 1) j) (by omega)]
            · have : wkB o (a + 1) (a * 8 + o) = true := decide_eq_true (by omega)
              rw [this, Bool.and_true]
            · intro i hi hne
              have : wkB o (a + 1) i = wkB o a i := by
                unfold wkB
                apply decide_eq_decide.mpr
                omega
              show (knB s r st i && wkB o (a + 1) i) = (knB s r st i && wkB o a i)
              rw [this]
            · have : wkB o a (a * 8 + o) = false := decide_eq_false (by omega)
              show (knB s r st (a * 8 + o) && wkB o a (a * 8 + o)) = false
              rw [this, Bool.and_false]
          rw [ec] at next
          refine g_X8_knows_15 ⟨fun q => absurd q (nI_ge (a := a) (b := 3) (by omega) (by omega)), fun _ w hw => ?_⟩
          rw [pl_nI] at hw
          rw [hw, nI_cl (show pl r o a < 2147483648 by omega), nI_1, nI_1, k1, nI_le0 (by omega)]
          refine ⟨vpI hp (by omega), fun q => ?_, fun q => ⟨fun q2 => ?_, fun q2 => ?_⟩⟩
          · rw [if_neg (by unfold knB; rw [← er, q]; simp), Nat.add_zero] at next
            exact next
          · rw [if_pos (by unfold knB; rw [← er, hv.mp q2]; simp; exact q)] at next
            exact next
          · have hst : st = true := by
              cases h : st with
              | true => rfl
              | false => exact absurd (hv.mpr h) q2
            refine c_X8_isStale hL hQ wL wK hr ho ha (by omega) fun x hx => ?_
            have e : knB s r st (a * 8 + o) = stB s (rw8 r a o) := by
              unfold knB
              rw [← er, hst]
              simp [q]
            rw [e] at next
            by_cases c : stB s (rw8 r a o) = true
            · rw [if_neg (jb_n0.mpr c)] at hx
              rw [if_pos c] at next
              rw [hx]
              exact next
            · rw [if_pos (jb_0.mpr c)] at hx
              rw [if_neg c, Nat.add_zero] at next
              rw [hx]
              exact next
      have e0 : nI (cntP 24 fun j => knB s r st j && wkB o 0 j) = nI (cntP 24 fun j => knB s r st j && wkB o 0 j) := rfl
      exact inner 3 0 (by omega)
  have h := main 8 0 (by omega)
  have e : cntP 24 (fun j => knB s r st j && wkB 0 0 j) = 0 := by
    have : cntP 24 (fun j => knB s r st j && wkB 0 0 j) = cntP 24 (fun _ => false) := cntP_ext fun j hj => by
      have : wkB 0 0 j = false := decide_eq_false (by omega)
      rw [this, Bool.and_false]
    rw [this]; decide
  rw [e] at h
  exact h
theorem knN_f (s : St) (r : Nat) : knN s r false = knS s r := by
  unfold knN knS
  exact cntP_ext fun j _ => by unfold knB; simp
theorem knN_t (s : St) (r : Nat) : knN s r true = slS s r := by
  unfold knN slS
  exact cntP_ext fun j _ => by unfold knB; simp
theorem c_X8_linksTold {E : JE} {u : JM} {K : Int32 → JM → Prop} {s : St} (hQ : QK s u) (wK : WK s) {r o a : Nat} (hr : r < 8) (ho : o < 8) (ha : a < 3) (hp : 0 < s 7 (rw8 r a o)) (hK : K (nI (lks s (rw8 r a o))) u) : JCi E 1 YX8_linksTold [.ref 137, .int (nI (pl r o a))] K u := by
  have hpl := pl_lt hr ho ha
  obtain ⟨-, k2⟩ := hQ r o a hr ho ha
  have k3 := (k2 hp).2.1
  have w3 := ((wK _ (rw8_lt hr ha ho)).2 hp).2.1
  refine JCi.ofV (ls := [some (.ref 137), some (.int (nI (pl r o a))), none, none]) (by decide +kernel) (Nat.le_of_ble_eq_true rfl) rfl rfl (g_X8_linksTold_0 ?_)
  have main : ∀ (m k : Nat), m + k = 12 → JVi E 1 YX8_linksTold K 4 [some (.ref 137), some (.int (nI (pl r o a))), some (.int (nI (bits k fun l => decide (0 < s 9 (rw8 r a o * 12 + l))))), some (.int (nI k))] [] u := by
    intro m
    induction m with
    | zero =>
      intro k hm
      obtain rfl : k = 12 := by omega
      refine g_X8_linksTold_4 ⟨fun _ => ?_, fun q => absurd (show (12 : Int32) ≤ nI 12 by decide) q⟩
      unfold lks at hK
      rw [if_neg (by omega)] at hK
      exact hK
    | succ m ih =>
      intro k hm
      have b9 : s 9 (rw8 r a o * 12 + k) ≤ 99 := (w3 k (by omega)).1
      refine g_X8_linksTold_4 ⟨fun q => absurd q (nI_ge (a := k) (b := 12) (by omega) (by omega)), fun _ => ⟨vpI hpl (by omega), vpI (by omega) (by omega), fun v hv => ?_⟩⟩
      rw [nI_cl (show k < 2147483648 by omega), nI_cl (show pl r o a < 2147483648 by omega), k3 k (by omega), nI_bits' (by omega) _ (by rw [nI_le0 (by omega), decide_eq_false_iff_not]; omega)] at hv
      rw [hv, nI_1]
      exact ih (k + 1) (by omega)
  exact main 12 0 (by omega)
theorem c_X8_trulyWithout {E : JE} {u0 : JM} {K : Int32 → JM → Prop} {s : St} (hL : QL s u0) (w : WL s) {x d wo : Nat} (hx : x < 8) (hd : d < 8)
    (k : ∀ u, same u0 u (· = 1341) → K (nI (dD (Et s wo) x d)) u) : JCi E 2 YX8_trulyWithout [.ref 137, .int (nI x), .int (nI d), .int (lkI wo)] K u0 := by
  have h12 := w.1
  have hE := Et_ok w wo
  have hDi := dD_is hE x
  have qL : ∀ {u : JM}, same u0 u (· = 1341) → QL s u := fun h => hL.congr (by rw [h 137 (by decide)]) fun b h1 h2 => h b (by omega)
  refine JCi.ofV (ls := [some (.ref 137), some (.int (nI x)), some (.int (nI d)), some (.int (lkI wo)), none, none]) (by decide +kernel) (Nat.le_of_ble_eq_true rfl) rfl rfl (g_X8_trulyWithout_0 ?_)
  have round : ∀ (i : Nat) (g : Nat → Nat), (∀ z, g z ≤ FAR) → (∀ u f, same u0 u (· = 1341) → QD f u → RI s wo x g (s 0 0) f → JVi E 2 YX8_trulyWithout K 39 [some (.ref 137), some (.int (nI x)), some (.int (nI d)), some (.int (lkI wo)), some (.int (nI (i + 1))), none] [] u) →
      ∀ (m k : Nat) (u : JM) (f : Nat → Nat), m + k = s 0 0 → same u0 u (· = 1341) → QD f u → RI s wo x g k f → JVi E 2 YX8_trulyWithout K 49 [some (.ref 137), some (.int (nI x)), some (.int (nI d)), some (.int (lkI wo)), some (.int (nI i)), some (.int (nI k))] [] u := by
    intro i g hF ex m
    induction m with
    | zero =>
      intro k u f hm hs hD hI
      obtain rfl : k = s 0 0 := by omega
      refine g_X8_trulyWithout_49 ⟨fun _ => by rw [nI_1]; exact ex u f hs hD hI, fun c => ?_⟩
      rw [(qL hs).1] at c
      exact absurd (nI_le (Nat.le_refl _) (by omega)) c
    | succ m ih =>
      intro k u f hm hs hD hI
      have hk : k < s 0 0 := by omega
      have c0 : ¬ u 137 0 ≤ nI k := by rw [(qL hs).1]; exact nI_ge hk (by omega)
      obtain ⟨l1, l2, l3, l6, l4, l5⟩ := (qL hs).2 k hk
      obtain ⟨w1, w2, wne, -, w4, w5, w6⟩ := w.2 k hk
      refine g_X8_trulyWithout_49 ⟨fun c => absurd c c0, fun _ => ⟨vpI (by omega) (by omega), ?_⟩⟩
      have e2k : (2 * nI k : Int32) = nI (2 * k) := by rw [show (2 : Int32) = nI 2 from rfl, nI_mul]
      rw [nI_cl (show k < 2147483648 by omega), nI_1, l6, e2k, nI_1]
      refine ⟨fun c => ih (k + 1) u f (by omega) hs hD (hI.skip (Or.inr fun g => ?_)), fun c => ⟨fun c2 => ?_, fun c2 => ih (k + 1) u f (by omega) hs hD (hI.skip (Or.inl ?_))⟩⟩
      · have := nI_inj (b := 0) (by omega) (by omega) c; omega
      · have h6 : s 6 k = 1 := by
          rcases (show s 6 k = 0 ∨ s 6 k = 1 by omega) with g | g
          · rw [g] at c; exact absurd rfl c
          · exact g
        have hwo : k ≠ wo := fun g => c2 (by rw [g, lkI_lt (by omega)])
        have f1 : f (s 1 k) ≤ 9999 := Nat.le_trans (hI.2.1 _) (hF _)
        have f2 : f (s 2 k) ≤ 9999 := Nat.le_trans (hI.2.1 _) (hF _)
        rw [l1, l2, nI_cl (show s 1 k < 2147483648 by omega), nI_cl (show s 2 k < 2147483648 by omega), nI_cl (show 2 * k < 2147483648 by omega), l4, hD _ w1, hD _ w2, nI_add, mn_nI (by omega) (by omega)]
        refine ⟨vpI w2 (by omega), vpI w1 (by omega), vpI (by omega) (by omega), fun u1 h1 => ?_⟩
        have s1 : same u0 u1 (· = 1341) := by rw [h1]; exact hs.jw rfl
        have D1 : QD (fup f (s 2 k) (mn (f (s 2 k)) (f (s 1 k) + s 4 k))) u1 := by rw [h1]; exact hD.w
        obtain ⟨m1, m2, m3, m6, m4, m5⟩ := (qL s1).2 k hk
        have hp := hI.pass w hk hwo h6
        generalize hf1 : fup f (s 2 k) (mn (f (s 2 k)) (f (s 1 k) + s 4 k)) = f' at *
        have le1 : ∀ z, f' z ≤ f z := by rw [← hf1]; exact fup_le (mn_le _ _)
        have g1 := le1 (s 1 k)
        have g2 := le1 (s 2 k)
        rw [m1, m2, nI_cl (show s 1 k < 2147483648 by omega), nI_cl (show s 2 k < 2147483648 by omega), nI_cl (show 2 * k + 1 < 2147483648 by omega), m5, D1 _ w1, D1 _ w2, nI_add, mn_nI (by omega) (by omega)]
        refine ⟨vpI w1 (by omega), vpI w2 (by omega), vpI (by omega) (by omega), fun u2 h2 => ?_⟩
        exact ih (k + 1) u2 _ (by omega) (by rw [h2]; exact s1.jw rfl) (by rw [h2]; exact D1.w) hp
      · unfold lkI at c2
        by_cases z : wo < 12
        · rw [if_pos z] at c2; exact nI_inj (by omega) (by omega) c2
        · rw [if_neg z] at c2; exact absurd c2 (m1_ne (by omega))
  have rounds : ∀ (m i : Nat) (u : JM) (f : Nat → Nat), m + i = 8 → same u0 u (· = 1341) → QD f u → (∀ z, dD (Et s wo) x z ≤ f z) → (∀ z, f z ≤ FAR) → f x = 0 → i ≤ cntP 8 (fun y => decide (f y = dD (Et s wo) x y)) → JVi E 2 YX8_trulyWithout K 39 [some (.ref 137), some (.int (nI x)), some (.int (nI d)), some (.int (lkI wo)), some (.int (nI i)), none] [] u := by
    intro m
    induction m with
    | zero =>
      intro i u f hm hs hD hl hF h0 hc
      obtain rfl : i = 8 := by omega
      refine g_X8_trulyWithout_39 ⟨fun _ => ⟨vpI hd (by omega), ?_⟩, fun q => absurd (show (8 : Int32) ≤ nI 8 by decide) q⟩
      have h := k u hs
      have fl : dD (Et s wo) x d ≤ 9999 := hDi.2.1 d
      rw [nI_cl (by omega), hD d hd, dD_done hc d hd]
      by_cases z : dD (Et s wo) x d = 9999
      · rw [z] at h ⊢
        rw [if_pos (show (9999 : Int32) ≤ nI 9999 by decide)]
        exact h
      · rw [if_neg (show ¬ (9999 : Int32) ≤ nI (dD (Et s wo) x d) from nI_ge (b := 9999) (by omega) (by omega))]
        exact h
    | succ m ih =>
      intro i u f hm hs hD hl hF h0 hc
      refine g_X8_trulyWithout_39 ⟨fun q => absurd q (nI_ge (a := i) (b := 8) (by omega) (by omega)), fun _ => ?_⟩
      refine round i f hF (fun u1 f1 hs1 hD1 hJ1 => ?_) (s 0 0) 0 u f (by omega) hs hD ⟨hl, fun z => Nat.le_refl _, fun l hl' => absurd hl' (Nat.not_lt_zero l)⟩
      have g0 : f1 x = 0 := by have := hJ1.2.1 x; omega
      exact ih (i + 1) u1 f1 (by omega) hs1 hD1 hJ1.1 (fun z => Nat.le_trans (hJ1.2.1 z) (hF z)) g0 (hJ1.round w hx hl hF h0 hc (by omega))
  have first : ∀ (m j : Nat) (u : JM), m + j = 8 → same u0 u (· = 1341) → (∀ y, y < j → u 1341 y = nI (f0 x y)) → JVi E 2 YX8_trulyWithout K 3 [some (.ref 137), some (.int (nI x)), some (.int (nI d)), some (.int (lkI wo)), some (.int (nI j)), none] [] u := by
    intro m
    induction m with
    | zero =>
      intro j u hm hs hn
      obtain rfl : j = 8 := by omega
      refine g_X8_trulyWithout_3 ⟨fun _ => ?_, fun q => absurd (show (8 : Int32) ≤ nI 8 by decide) q⟩
      refine rounds 8 0 u (f0 x) (by omega) hs hn (fun z => ?_) (fun z => ?_) (by unfold f0; rw [if_pos rfl]) (Nat.zero_le _)
      · unfold f0
        by_cases e : z = x
        · rw [e, hDi.1]; exact Nat.zero_le _
        · rw [if_neg e]; exact hDi.2.1 z
      · unfold f0; split
        · exact Nat.zero_le _
        · exact Nat.le_refl _
    | succ m ih =>
      intro j u hm hs hn
      refine g_X8_trulyWithout_3 ⟨fun q => absurd q (nI_ge (a := j) (b := 8) (by omega) (by omega)), fun _ v hv => ⟨vpI (by omega) (by omega), fun u1 h1 => ?_⟩⟩
      have ev : v = nI (f0 x j) := by
        rw [hv]
        unfold f0
        by_cases e : j = x
        · rw [if_pos (by rw [e]), if_pos e]; rfl
        · rw [if_neg (fun g => e (nI_inj (by omega) (by omega) g)), if_neg e]; rfl
      rw [nI_cl (by omega), ev] at h1
      rw [nI_1]
      refine ih (j + 1) u1 (by omega) (by rw [h1]; exact hs.jw rfl) fun y hy => ?_
      rw [h1, jw_at]
      by_cases e : y = j
      · rw [if_pos e, e]
      · rw [if_neg e]; exact hn y (by omega)
  exact first 8 0 u0 (by omega) same.rfl fun y hy => absurd hy (Nat.not_lt_zero y)
