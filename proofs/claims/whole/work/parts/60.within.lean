/-! the reference: tellWithin -/
/-- within a round over known edges -/
def RJ (s : St) (r a : Nat) (g f : Nat → Nat) (P : Nat → Nat → Prop) : Prop :=
  (∀ z, dD (Ew s r a) r z ≤ f z) ∧ (∀ z, f z ≤ g z) ∧ ∀ l x, P l x → l < s 0 0 → 0 < egN s r a l x → g x = dD (Ew s r a) r x → f (oth s l x) ≤ dD (Ew s r a) r x + egN s r a l x
def rjN (s : St) (r a l x : Nat) (f : Nat → Nat) : Nat → Nat := if 0 < egN s r a l x ∧ f x + egN s r a l x < f (oth s l x) then fup f (oth s l x) (f x + egN s r a l x) else f
theorem RJ.step {s : St} {r a l x : Nat} {g f : Nat → Nat} {P P' : Nat → Nat → Prop} (wL : WL s) (hE : EgOk (Ew s r a)) (h : RJ s r a g f P) (hl : l < s 0 0) (hx : isE s l x) (hP : ∀ l' x', P' l' x' → P l' x' ∨ (l' = l ∧ x' = x)) : RJ s r a g (rjN s r a l x f) P' := by
  obtain ⟨h1, h2, h3⟩ := h
  unfold rjN
  by_cases c : 0 < egN s r a l x ∧ f x + egN s r a l x < f (oth s l x)
  · rw [if_pos c]
    have le : ∀ z, fup f (oth s l x) (f x + egN s r a l x) z ≤ f z := fup_le (Nat.le_of_lt c.2)
    refine ⟨le_fup h1 (dD_relax hE h1 ⟨l, egN_El wL hl hx c.1⟩), fun z => Nat.le_trans (le z) (h2 z), fun l' x' p hl' e0 hg => ?_⟩
    rcases hP l' x' p with q | ⟨q1, q2⟩
    · exact Nat.le_trans (le _) (h3 l' x' q hl' e0 hg)
    · rw [q1, q2]
      rw [q2] at hg
      have := h2 x
      unfold fup
      rw [if_pos rfl]
      omega
  · rw [if_neg c]
    refine ⟨h1, h2, fun l' x' p hl' e0 hg => ?_⟩
    rcases hP l' x' p with q | ⟨q1, q2⟩
    · exact h3 l' x' q hl' e0 hg
    · rw [q1, q2] at e0 ⊢
      rw [q2] at hg
      have := h2 x
      have : ¬ f x + egN s r a l x < f (oth s l x) := fun z => c ⟨e0, z⟩
      omega
theorem RJ.round {s : St} {r a k : Nat} (wL : WL s) (hE : EgOk (Ew s r a)) {g f : Nat → Nat} (h0 : ∀ z, dD (Ew s r a) r z ≤ g z) (hF : ∀ z, g z ≤ FAR) (hs : g r = 0) (h : RJ s r a g f (Pk s (s 0 0) 0))
    (hc : k ≤ cntP 8 (fun y => decide (g y = dD (Ew s r a) r y))) (hk : k < 8) : k + 1 ≤ cntP 8 (fun y => decide (f y = dD (Ew s r a) r y)) := by
  refine dD_round hE h0 hF h.1 h.2.1 ?_ hs hc hk
  rintro x y w ⟨l, t1⟩ hg
  obtain ⟨e1, e2, e3⟩ := El_egN wL t1
  rw [e2, e3]
  exact h.2.2 l x ⟨e1, Or.inl t1.2.2.1⟩ t1.2.2.1 (by rw [← e3]; exact t1.2.2.2.2.2.1) hg
theorem QD.w {f : Nat → Nat} {u : JM} {y v : Nat} (h : QD f u) : QD (fup f y v) (jw u 1341 y (nI v)) := by
  intro z hz
  rw [jw_at]
  unfold fup
  split
  · rfl
  · exact h z hz
def inW : Nat → Prop := fun b => b = 1341 ∨ b = 1342
theorem c_X8_tellWithin {E : JE} {u0 : JM} {K : JM → Prop} {s : St} (hL : QL s u0) (hK : QK s u0) (wL : WL s) (wK : WK s) {r a : Nat} (hr : r < 8) (ha : a < 3)
    (k : ∀ u, same u0 u inW → QD (DS s r a) u → QH (HS s r a) u → K u) : JCu E 4 YX8_tellWithin [.ref 137, .int (nI r), .int (nI a)] K u0 := by
  have h12 := wL.1
  have hE := Ew_ok wL wK hr ha
  have hDi := dD_is hE r
  have qL : ∀ {u : JM}, same u0 u inW → QL s u := fun h => hL.tmp (h.sR (by unfold inW; omega)) fun b q => by unfold inW at q; omega
  have qK : ∀ {u : JM}, same u0 u inW → QK s u := fun h => hK.tmp (h.sR (by unfold inW; omega)) fun b q => by unfold inW at q; omega
  refine JCu.ofV (ls := [some (.ref 137), some (.int (nI r)), some (.int (nI a)), none, none, none, none, none, none]) (by decide +kernel) (Nat.le_of_ble_eq_true rfl) rfl rfl (g_X8_tellWithin_0 ?_)
  -- hops, from the last to the first
  have hops : ∀ (m : Nat) (u : JM) (h : Nat → Nat), m ≤ 8 → same u0 u inW → QD (DS s r a) u → QH h u → HV (Ew s r a) r (DS s r a) m h → JVu E 4 YX8_tellWithin K 191 [some (.ref 137), some (.int (nI r)), some (.int (nI a)), some (.int (nI m + (-1))), none, none, none, none, none] [] u := by
    intro m
    induction m with
    | zero =>
      intro u h hm hs hD hH hV
      refine g_X8_tellWithin_191 ⟨fun _ => k u hs hD fun y hy => ?_, fun q => absurd (show nI 0 + (-1) < 0 by decide) q⟩
      rw [hH y hy]
      unfold HS
      rw [hV.eq hE hr hy]
    | succ m ih =>
      intro u h hm hs hD hH hV
      rw [nI_m1]
      refine g_X8_tellWithin_191 ⟨fun q => absurd q (nI_nn (by omega)), fun _ => ?_⟩
      refine c_X8_isNext (qL hs) (qK hs) wL wK hr ha (by omega) hD (fun hn => ?_) (fun hn => ?_)
      · refine ⟨fun q => absurd q (by decide), fun _ => ?_⟩
        refine c_X8_handsOn (qL hs) (qK hs) wL wK hr ha (by omega) hD hH hn fun u1 h1 q1 hH1 e1 => ?_
        refine ih u1 h1 (by omega) (hs.trans (q1.mono fun b q => Or.inr q)) (fun y hy => ?_) hH1 (hV.take (by omega) hn e1)
        rw [q1 1341 (by decide)]; exact hD y hy
      · refine ⟨fun _ => ih u h (by omega) hs hD hH (hV.skip hn), fun q => absurd rfl q⟩
  -- hops: none
  have none_ : ∀ (m j : Nat) (u : JM), m + j = 8 → same u0 u inW → QD (DS s r a) u → (∀ y, y < j → u 1342 y = -1) → JVu E 4 YX8_tellWithin K 169 [some (.ref 137), some (.int (nI r)), some (.int (nI a)), some (.int (nI j)), none, none, none, none, none] [] u := by
    intro m
    induction m with
    | zero =>
      intro j u hm hs hD hn
      obtain rfl : j = 8 := by omega
      refine g_X8_tellWithin_169 ⟨fun _ => ?_, fun q => absurd (show (8 : Int32) ≤ nI 8 by decide) q⟩
      exact hops 8 u (fun _ => 8) (Nat.le_refl _) hs hD (fun y hy => by rw [hn y hy]; rfl) fun y hy => ⟨fun _ => rfl, fun _ => Or.inl ⟨rfl, fun f h1 h2 => by omega⟩⟩
    | succ m ih =>
      intro j u hm hs hD hn
      refine g_X8_tellWithin_169 ⟨fun q => absurd q (nI_ge (a := j) (b := 8) (by omega) (by omega)), fun _ => ⟨vpI (by omega) (by omega), fun u1 h1 => ?_⟩⟩
      rw [nI_cl (by omega)] at h1
      rw [nI_1]
      refine ih (j + 1) u1 (by omega) (by rw [h1]; exact hs.jw (Or.inr rfl)) (fun y hy => by rw [h1, jw_ne (by decide)]; exact hD y hy) fun y hy => ?_
      rw [h1, jw_at]
      split
      · rfl
      · exact hn y (by omega)
  -- a round
  have round : ∀ (i : Nat) (g : Nat → Nat), (∀ z, g z ≤ FAR) → (∀ u f, same u0 u inW → QD f u → RJ s r a g f (Pk s (s 0 0) 0) → JVu E 4 YX8_tellWithin K 34 [some (.ref 137), some (.int (nI r)), some (.int (nI a)), some (.int (nI (i + 1))), none, none, none, none, none] [] u) →
      ∀ (m k : Nat) (u : JM) (f : Nat → Nat), m + k = s 0 0 → same u0 u inW → QD f u → RJ s r a g f (Pk s k 0) → JVu E 4 YX8_tellWithin K 43 [some (.ref 137), some (.int (nI r)), some (.int (nI a)), some (.int (nI i)), some (.int (nI k)), none, none, none, none] [] u := by
    intro i g hF ex m
    induction m with
    | zero =>
      intro k u f hm hs hD hJ
      obtain rfl : k = s 0 0 := by omega
      refine g_X8_tellWithin_43 ⟨fun _ => by rw [nI_1]; exact ex u f hs hD hJ, fun c => ?_⟩
      rw [(qL hs).1] at c
      exact absurd (nI_le (Nat.le_refl _) (by omega)) c
    | succ m ih =>
      intro k u f hm hs hD hJ
      have hk : k < s 0 0 := by omega
      have c0 : ¬ u 137 0 ≤ nI k := by rw [(qL hs).1]; exact nI_ge hk (by omega)
      refine g_X8_tellWithin_43 ⟨fun c => absurd c c0, fun _ => ?_⟩
      have inner : ∀ (n e : Nat) (u : JM) (f : Nat → Nat), n + e = 2 → same u0 u inW → QD f u → RJ s r a g f (Pk s k e) → JVu E 4 YX8_tellWithin K 55 [some (.ref 137), some (.int (nI r)), some (.int (nI a)), some (.int (nI i)), some (.int (nI k)), some (.int (nI e)), none, none, none] [] u := by
        intro n
        induction n with
        | zero =>
          intro e u f hn hs hD hJ
          obtain rfl : e = 2 := by omega
          refine g_X8_tellWithin_55 ⟨fun _ => ?_, fun c => absurd (show (2 : Int32) ≤ nI 2 by decide) c⟩
          rw [nI_1]
          exact ih (k + 1) u f (by omega) hs hD ⟨hJ.1, hJ.2.1, fun l x p => hJ.2.2 l x (Pk_n p)⟩
        | succ n ih2 =>
          intro e u f hn hs hD hJ
          refine g_X8_tellWithin_55 ⟨fun c => absurd c (nI_ge (a := e) (b := 2) (by omega) (by omega)), fun _ => ?_⟩
          have kv : vp_in (nI k) 12 := vpI (by omega) (by omega)
          refine ⟨⟨fun _ => ⟨kv, trivial⟩, fun _ => ⟨kv, trivial⟩⟩, fun v1 hv1 => ⟨kv, fun v2 hv2 => ?_⟩⟩
          have hx8 := hx_lt wL (e := e) hk
          have ho8 := oth_lt wL hk (hx s k e)
          rw [nI_cl (show k < 2147483648 by omega), hxR (qL hs) hk (by omega)] at hv1
          rw [nI_cl (show k < 2147483648 by omega), hv1, othR (qL hs) wL hk hx8] at hv2
          rw [hv1, hv2]
          refine c_X8_edge (qL hs) (qK hs) wL wK hr ha hk hx8 ?_
          have be : egN s r a k (hx s k e) ≤ 99 := by unfold egN; split; exact tl_le wK hr ha hx8 (by omega); omega
          have fx : f (hx s k e) ≤ 9999 := Nat.le_trans (hJ.2.1 _) (hF _)
          have fy : f (oth s k (hx s k e)) ≤ 9999 := Nat.le_trans (hJ.2.1 _) (hF _)
          have hJ' := hJ.step (P' := Pk s k (e + 1)) wL hE hk (hx_isE s k e) fun l' x' p => Pk_s (by omega) p
          rw [nI_le0 (by omega), nI_cl (show hx s k e < 2147483648 by omega), nI_cl (show oth s k (hx s k e) < 2147483648 by omega), hD _ hx8, hD _ ho8, nI_add, nI_1]
          refine ⟨fun q => ?_, fun q => ⟨vpI hx8 (by omega), vpI ho8 (by omega), fun q2 => ?_, fun q2 u1 h1 => ?_⟩⟩
          · have en : rjN s r a k (hx s k e) f = f := if_neg (by omega)
            rw [en] at hJ'
            exact ih2 (e + 1) u f (by omega) hs hD hJ'
          · have q3 : ¬ f (hx s k e) + egN s r a k (hx s k e) < f (oth s k (hx s k e)) := fun z => nI_ge z (by omega) q2
            have en : rjN s r a k (hx s k e) f = f := if_neg fun z => q3 z.2
            rw [en] at hJ'
            exact ih2 (e + 1) u f (by omega) hs hD hJ'
          · have q3 : f (hx s k e) + egN s r a k (hx s k e) < f (oth s k (hx s k e)) := Nat.lt_of_not_le fun z => q2 (nI_le z (by omega))
            have en : rjN s r a k (hx s k e) f = fup f (oth s k (hx s k e)) (f (hx s k e) + egN s r a k (hx s k e)) := if_pos ⟨by omega, q3⟩
            rw [en] at hJ'
            exact ih2 (e + 1) u1 _ (by omega) (by rw [h1]; exact hs.jw (Or.inl rfl)) (by rw [h1]; exact hD.w) hJ'
      exact inner 2 0 u f (by omega) hs hD hJ
  -- rounds
  have rounds : ∀ (m i : Nat) (u : JM) (f : Nat → Nat), m + i = 8 → same u0 u inW → QD f u → (∀ z, DS s r a z ≤ f z) → (∀ z, f z ≤ FAR) → f r = 0 → i ≤ cntP 8 (fun y => decide (f y = DS s r a y)) → JVu E 4 YX8_tellWithin K 34 [some (.ref 137), some (.int (nI r)), some (.int (nI a)), some (.int (nI i)), none, none, none, none, none] [] u := by
    intro m
    induction m with
    | zero =>
      intro i u f hm hs hD hl hF h0 hc
      obtain rfl : i = 8 := by omega
      refine g_X8_tellWithin_34 ⟨fun _ => ?_, fun q => absurd (show (8 : Int32) ≤ nI 8 by decide) q⟩
      exact none_ 8 0 u (by omega) hs (fun y hy => by rw [hD y hy, dD_done hc y hy]; rfl) fun y hy => absurd hy (Nat.not_lt_zero y)
    | succ m ih =>
      intro i u f hm hs hD hl hF h0 hc
      refine g_X8_tellWithin_34 ⟨fun q => absurd q (nI_ge (a := i) (b := 8) (by omega) (by omega)), fun _ => ?_⟩
      refine round i f hF (fun u1 f1 hs1 hD1 hJ1 => ?_) (s 0 0) 0 u f (by omega) hs hD ⟨hl, fun z => Nat.le_refl _, fun l x p => absurd p.2 (by omega)⟩
      have g0 : f1 r = 0 := by have := hJ1.2.1 r; omega
      exact ih (i + 1) u1 f1 (by omega) hs1 hD1 hJ1.1 (fun z => Nat.le_trans (hJ1.2.1 z) (hF z)) g0 (hJ1.round wL hE hl hF h0 hc (by omega))
  -- far at first
  have first : ∀ (m j : Nat) (u : JM), m + j = 8 → same u0 u inW → (∀ y, y < j → u 1341 y = nI (f0 r y)) → JVu E 4 YX8_tellWithin K 2 [some (.ref 137), some (.int (nI r)), some (.int (nI a)), some (.int (nI j)), none, none, none, none, none] [] u := by
    intro m
    induction m with
    | zero =>
      intro j u hm hs hn
      obtain rfl : j = 8 := by omega
      refine g_X8_tellWithin_2 ⟨fun _ => ?_, fun q => absurd (show (8 : Int32) ≤ nI 8 by decide) q⟩
      refine rounds 8 0 u (f0 r) (by omega) hs hn (fun z => ?_) (fun z => ?_) (by unfold f0; rw [if_pos rfl]) (Nat.zero_le _)
      · unfold f0
        by_cases e : z = r
        · rw [e, show DS s r a r = 0 from hDi.1]; exact Nat.zero_le _
        · rw [if_neg e]; exact hDi.2.1 z
      · unfold f0; split
        · exact Nat.zero_le _
        · exact Nat.le_refl _
    | succ m ih =>
      intro j u hm hs hn
      refine g_X8_tellWithin_2 ⟨fun q => absurd q (nI_ge (a := j) (b := 8) (by omega) (by omega)), fun _ v hv => ⟨vpI (by omega) (by omega), fun u1 h1 => ?_⟩⟩
      have ev : v = nI (f0 r j) := by
        rw [hv]
        unfold f0
        by_cases e : j = r
        · rw [if_pos (by rw [e]), if_pos e]; rfl
        · rw [if_neg (fun g => e (nI_inj (by omega) (by omega) g)), if_neg e]; rfl
      rw [nI_cl (by omega), ev] at h1
      rw [nI_1]
      refine ih (j + 1) u1 (by omega) (by rw [h1]; exact hs.jw (Or.inl rfl)) fun y hy => ?_
      rw [h1, jw_at]
      by_cases e : y = j
      · rw [if_pos e, e]
      · rw [if_neg e]; exact hn y (by omega)
  exact first 8 0 u0 (by omega) same.rfl fun y hy => absurd hy (Nat.not_lt_zero y)
