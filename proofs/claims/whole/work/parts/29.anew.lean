/-! tellDraft, tellAnew -/
theorem nI_sur (x : Int32) : ∃ n, x = nI n := ⟨x.toBitVec.toNat, by
  apply Int32.toBitVec_inj.1
  show x.toBitVec = BitVec.ofNat 32 x.toBitVec.toNat
  simp⟩
def putS (s : St) (row num age : Nat) (cs ms : Nat → Nat) (cb : Nat) : St := set1 (set1 (setRow s row num age cs ms) 11 row 1) 12 row cb
theorem putS_ne {s : St} {row num age : Nat} {cs ms : Nat → Nat} {cb c : Nat} (h : c < 7 ∨ 12 < c) : putS s row num age cs ms cb c = s c := by
  unfold putS
  rw [set1_ne (by omega), set1_ne (by omega), setRow_ne (by omega)]
theorem putS_row {s : St} {row num age : Nat} {cs ms : Nat → Nat} {cb : Nat} : putS s row num age cs ms cb 7 row = num ∧ putS s row num age cs ms cb 8 row = age ∧ (∀ l, l < 12 → putS s row num age cs ms cb 9 (row * 12 + l) = cs l) ∧ (∀ d, d < 8 → putS s row num age cs ms cb 10 (row * 8 + d) = ms d) ∧ putS s row num age cs ms cb 11 row = 1 ∧ putS s row num age cs ms cb 12 row = cb := by
  unfold putS
  refine ⟨?_, ?_, fun l hl => ?_, fun d hd => ?_, ?_, ?_⟩
  · rw [set1_ne (by omega), set1_ne (by omega), setRow_7, if_pos rfl]
  · rw [set1_ne (by omega), set1_ne (by omega), setRow_8, if_pos rfl]
  · rw [set1_ne (by omega), set1_ne (by omega), setRow_9, if_pos (by omega), show (row * 12 + l) % 12 = l by omega]
  · rw [set1_ne (by omega), set1_ne (by omega), setRow_10, if_pos (by omega), show (row * 8 + d) % 8 = d by omega]
  · rw [set1_ne (by omega), set1_at, if_pos rfl]
  · rw [set1_at, if_pos rfl]
theorem putS_other {s : St} {row num age k : Nat} {cs ms : Nat → Nat} {cb : Nat} (h : k ≠ row) : putS s row num age cs ms cb 7 k = s 7 k ∧ putS s row num age cs ms cb 8 k = s 8 k ∧ (∀ l, l < 12 → putS s row num age cs ms cb 9 (k * 12 + l) = s 9 (k * 12 + l)) ∧ (∀ d, d < 8 → putS s row num age cs ms cb 10 (k * 8 + d) = s 10 (k * 8 + d)) ∧ putS s row num age cs ms cb 11 k = s 11 k ∧ putS s row num age cs ms cb 12 k = s 12 k := by
  unfold putS
  refine ⟨?_, ?_, fun l hl => ?_, fun d hd => ?_, ?_, ?_⟩
  · rw [set1_ne (by omega), set1_ne (by omega), setRow_7, if_neg h]
  · rw [set1_ne (by omega), set1_ne (by omega), setRow_8, if_neg h]
  · rw [set1_ne (by omega), set1_ne (by omega), setRow_9, if_neg (by omega)]
  · rw [set1_ne (by omega), set1_ne (by omega), setRow_10, if_neg (by omega)]
  · rw [set1_ne (by omega), set1_at, if_neg h, setRow_ne (by omega)]
  · rw [set1_at, if_neg h, set1_ne (by omega), setRow_ne (by omega)]
theorem CN.put {N : Nat} {s : St} {u u3 u4 u6 : JM} (hC : CN N s u) {row B other num age cb : Nat} {cs ms : Nat → Nat} (hu3 : same u u3 (fun b => b = N + 27 ∨ b = N + 28)) (h4 : TR u3 (N + 9) row B other u4) (hB : RW B u3 other num age cs ms) (hp : 0 < num)
    (h6 : u6 = jw (jw u4 (N + 24) row 1) (N + 25) row (nI cb)) : CN N (putS s row num age cs ms cb) u6 ∧ same u u6 (inNet N) := by
  obtain ⟨cL, cK, cM, cF, cT⟩ := hC
  have hs : ∀ b, b < N + 10 ∨ N + 14 < b → b ≠ N + 24 → b ≠ N + 25 → b ≠ N + 27 → b ≠ N + 28 → u6 b = u b := fun b hb h1 h2 h3 h3' => by
    rw [h6, jw_ne h2, jw_ne h1, h4.1 b (fun q => by unfold inAd at q; omega), hu3 b (by omega)]
  have hs4 : ∀ b, b ≠ N + 24 → b ≠ N + 25 → u6 b = u4 b := fun b h1 h2 => by rw [h6, jw_ne h2, jw_ne h1]
  obtain ⟨p1, p2, p3, p4, p5, p6⟩ := putS_row (s := s) (row := row) (num := num) (age := age) (cs := cs) (ms := ms) (cb := cb)
  refine ⟨⟨(cL.congr fun j _ _ => hs _ (by omega) (by omega) (by omega) (by omega) (by omega)).st fun c hc => putS_ne (by omega), ?_, cM.congr (fun c h1 h2 => putS_ne (by omega)) (by rw [hs N (by omega) (by omega) (by omega) (by omega) (by omega)]) (fun j h1 h2 => hs _ (by omega) (by omega) (by omega) (by omega) (by omega)), fun k hk => ?_, ?_⟩, fun b hb => by unfold inNet at hb; exact hs b (by omega) (by omega) (by omega) (by omega) (by omega)⟩
  · intro k hk
    by_cases ck : k = row
    · subst ck
      exact KR.of ((h4.at hB).congr (u' := u6) fun b hb => by unfold inAd at hb; exact hs4 b (by omega) (by omega)) p1 hp p2 p3 p4
    · obtain ⟨-, t1, t2, t3, t4, t5⟩ := h4
      obtain ⟨o1, o2, o3, o4, -⟩ := putS_other (s := s) (row := row) (num := num) (age := age) (cs := cs) (ms := ms) (cb := cb) ck
      refine KR.keep (N := N) (s := s) (u := u) (cK k hk) ?_ ?_ ?_ (fun l hl => ?_) (fun d hd => ?_) o1 o2 o3 o4
      · rw [hs4 _ (by omega) (by omega), show u4 (N + 10) k = _ from t1 k, if_neg ck, show u3 (N + 9 + 1) = u (N + 10) from hu3 _ (by omega)]
      · rw [hs4 _ (by omega) (by omega), show u4 (N + 11) k = _ from t2 k, if_neg ck, show u3 (N + 9 + 2) = u (N + 11) from hu3 _ (by omega)]
      · rw [hs4 _ (by omega) (by omega), show u4 (N + 12) k = _ from t3 k, if_neg ck, show u3 (N + 9 + 3) = u (N + 12) from hu3 _ (by omega)]
      · rw [hs4 _ (by omega) (by omega), show u4 (N + 13) (k * 12 + l) = _ from t4 _, if_neg (by omega), show u3 (N + 9 + 4) = u (N + 13) from hu3 _ (by omega)]
      · rw [hs4 _ (by omega) (by omega), show u4 (N + 14) (k * 8 + d) = _ from t5 _, if_neg (by omega), show u3 (N + 9 + 5) = u (N + 14) from hu3 _ (by omega)]
  · have g4 : u4 (N + 24) = u (N + 24) := by rw [h4.1 _ (fun q => by unfold inAd at q; omega), hu3 _ (by omega)]
    have g5 : u4 (N + 25) = u (N + 25) := by rw [h4.1 _ (fun q => by unfold inAd at q; omega), hu3 _ (by omega)]
    rw [h6, jw_ne (a' := N + 24) (by omega), jw_at, jw_at, jw_ne (a' := N + 25) (by omega), g4, g5]
    by_cases ck : k = row
    · subst ck
      rw [if_pos rfl, if_pos rfl, p5, p6]
      exact ⟨rfl, fun _ => rfl⟩
    · obtain ⟨-, -, -, -, o5, o6⟩ := putS_other (s := s) (row := row) (num := num) (age := age) (cs := cs) (ms := ms) (cb := cb) ck
      rw [if_neg ck, if_neg ck, o5, o6]
      exact cF k hk
  · rw [putS_ne (c := 21) (by omega), putS_ne (c := 22) (by omega), hs N (by omega) (by omega) (by omega) (by omega) (by omega)]
    exact cT
/-- an own advert told anew, if it is due or tells otherwise -/
noncomputable def tdS (s : St) (r a : Nat) : St :=
  if s 7 (rw8 r a r) = 0 ∨ 20 ≤ s 8 (rw8 r a r) ∨ tellsB (fun l => s 9 (rw8 r a r * 12 + l)) (fun d => s 10 (rw8 r a r * 8 + d)) (nwC s r a) (nwS s r a) = false then
    putS s (rw8 r a r) (s 7 (rw8 r a r) + 1) 0 (nwC s r a) (nwS s r a) 0
  else s
theorem isAdv_d1 {N : Nat} (h : isNet N) : isAdv (N + 26) 1 := isAdv_d h
theorem c_X2_tellDraft {E : JE} {u : JM} {K : JM → Prop} {N : Nat} (hN : isNet N) {s : St} (hC : CN N s u) (wL : WL s) (wK : WK s) {r a : Nat} (hr : r < 8) (ha : a < 3)
    (h29 : u (N + 29) 0 = nI (bits 12 fun l => decide (0 < nwC s r a l))) (h30 : ∀ l, l < 12 → u (N + 30) l = ccst (nwC s r a l)) (h31 : ∀ d, d < 8 → u (N + 31) d = nI (nwS s r a d))
    (hK : ∀ u', same u u' (inNet N) → CN N (tdS s r a) u' → K u') : JCu E 2 YX2_tellDraft [.ref N, .int (nI (rw8 r a r))] K u := by
  have hrow := rw8_lt hr ha hr
  obtain ⟨w7, w8⟩ := wK _ hrow
  obtain ⟨k1, k2, k3⟩ := hC.2.1 _ hrow
  refine JCu.ofV (ls := [some (.ref N), some (.int (nI (rw8 r a r))), none]) (by decide +kernel) (Nat.le_of_ble_eq_true rfl) rfl rfl (g_X2_tellDraft_0 hN ?_)
  have z0 : (0 : Int32).toNatClampNeg = 0 := cl_0
  unfold tdS at hK
  rw [nI_cl (show rw8 r a r < 2147483648 by omega), k1, z0]
  generalize rw8 r a r = row at *
  refine ⟨vpI hrow (by omega), ?_⟩
  -- telling it
  have tell : ∀ u2 : JM, u2 = jw u (N + 27) 0 (nI (s 7 row) + 1) → ∀ u3 : JM, u3 = jw u2 (N + 28) 0 0 → (∀ u', same u u' (inNet N) → CN N (putS s row (s 7 row + 1) 0 (nwC s r a) (nwS s r a) 0) u' → K u') → JCu E 1 YX0_takeRow [.ref (N + 9), .int (nI row), .ref (N + 26), .int 0] (fun u4 => ∀ u5, u5 = jw u4 (N + 24) row 1 → ∀ u6, u6 = jw u5 (N + 25) row 0 → K u6) u3 := by
    intro u2 h2 u3 h3 hk
    refine c_X0_takeRow (other := 0) (isAdv_k hN) (isAdv_d1 hN) (by omega) hrow (by omega) fun u4 h4 u5 h5 u6 h6 => ?_
    have hs3 : same u u3 (fun b => b = N + 27 ∨ b = N + 28) := by
      rw [h3, h2]
      exact (same.rfl.jw (Or.inl rfl)).jw (Or.inr rfl)
    have hB : RW (N + 26) u3 0 (s 7 row + 1) 0 (nwC s r a) (nwS s r a) := by
      refine ⟨?_, ?_, ?_, fun l hl => ?_, fun d hd => ?_⟩
      · rw [h3, jw_ne (by omega), h2, show N + 26 + 1 = N + 27 from rfl, jw_at, if_pos rfl, nI_1]
      · rw [h3, show N + 26 + 2 = N + 28 from rfl, jw_at, if_pos rfl]; rfl
      · rw [show u3 (N + 26 + 3) = u (N + 29) from hs3 _ (by omega)]; exact h29
      · rw [show u3 (N + 26 + 4) = u (N + 30) from hs3 _ (by omega), Nat.zero_mul, Nat.zero_add]; exact h30 l hl
      · rw [show u3 (N + 26 + 5) = u (N + 31) from hs3 _ (by omega), Nat.zero_mul, Nat.zero_add]; exact h31 d hd
    obtain ⟨q1, q2⟩ := hC.put (cb := 0) (u6 := u6) hs3 h4 hB (Nat.succ_pos _) (by rw [h6, h5]; rfl)
    exact hk u6 q2 q1
  intro v hv
  have hv' : v = if s 7 row = 0 ∨ 20 ≤ s 8 row then 1 else 0 := by
    rw [hv]
    by_cases c : s 7 row = 0
    · rw [if_pos (by rw [c]; rfl), if_pos (Or.inl c)]
    · obtain ⟨g1, -⟩ := w8 (by omega)
      rw [if_neg (fun q => c (nI_inj (by omega) (by omega) (q.trans (show (0 : Int32) = nI 0 from rfl)))), (k3 (by omega)).1]
      have q0 : (nI (s 8 row) < (20 : Int32)) ↔ s 8 row < 20 := by
        rw [Int32.lt_iff_toInt_lt, nI_toInt (by omega), show (20 : Int32).toInt = 20 from by decide]
        omega
      by_cases c2 : s 8 row < 20
      · rw [if_pos (q0.mpr c2), if_neg (by omega)]
      · rw [if_neg (fun q => c2 (q0.mp q)), if_pos (Or.inr (by omega))]
  rw [hv']
  refine ⟨fun c => ?_, fun c => ?_⟩
  · have c : s 7 row = 0 ∨ 20 ≤ s 8 row := by
      by_cases d : s 7 row = 0 ∨ 20 ≤ s 8 row
      · exact d
      · rw [if_neg d] at c; exact absurd rfl c
    rw [if_pos (c.elim (fun q => Or.inl q) (fun q => Or.inr (Or.inl q)))] at hK
    exact fun u2 h2 u3 h3 => tell u2 h2 u3 h3 hK
  · have c : ¬ (s 7 row = 0 ∨ 20 ≤ s 8 row) := fun d => by rw [if_pos d] at c; exact absurd c (by decide)
    have hp : 0 < s 7 row := by omega
    obtain ⟨g1, g2⟩ := w8 hp
    obtain ⟨n1, e1⟩ := nI_sur (u (N + 27) 0)
    obtain ⟨n2, e2⟩ := nI_sur (u (N + 28) 0)
    have hB : RW (N + 26) u 0 n1 n2 (nwC s r a) (nwS s r a) := ⟨e1, e2, h29, fun l hl => by rw [Nat.zero_mul, Nat.zero_add]; exact h30 l hl, fun d hd => by rw [Nat.zero_mul, Nat.zero_add]; exact h31 d hd⟩
    refine c_X0_tellsAs (other := 0) (isAdv_k hN) (isAdv_d1 hN) hrow (by omega) (KR.rw (N := N) (s := s) (u := u) ⟨k1, k2, k3⟩ hp) hB (fun l hl => (g2.1 l hl).1) (fun l hl => (nwC_le wL hr).1) (fun d hd => g2.2 d hd) (fun d hd => nwS_le) ?_
    refine ⟨fun c2 => ?_, fun c2 => ?_⟩
    · rw [jb_n0] at c2
      rw [if_neg (fun q => q.elim (fun q => c (Or.inl q)) fun q => q.elim (fun q => c (Or.inr q)) fun q => by rw [c2] at q; exact absurd q (by decide))] at hK
      exact hK u same.rfl hC
    · rw [jb_0] at c2
      have c2 : tellsB (fun l => s 9 (row * 12 + l)) (fun d => s 10 (row * 8 + d)) (nwC s r a) (nwS s r a) = false := by simpa using c2
      rw [if_pos (Or.inr (Or.inr c2))] at hK
      intro u2 h2 u3 h3
      rw [k1] at h2
      exact tell u2 h2 u3 h3 hK
noncomputable def tnS (s : St) (r a : Nat) : St := if s 7 (rw8 r a r) ≠ 0 ∨ (arS s r).testBit a = true then tdS s r a else s
noncomputable def tnR (s : St) (r : Nat) : Nat → St
  | 0 => s
  | a + 1 => tnS (tnR s r a) r a
noncomputable def tnA (s : St) : Nat → St
  | 0 => s
  | r + 1 => tnR (tnA s r) r 3
theorem tdS_ne {s : St} {r a c : Nat} (h : c < 7 ∨ 12 < c) : tdS s r a c = s c := by
  unfold tdS
  split
  · exact putS_ne h
  · rfl
theorem tnS_ne {s : St} {r a c : Nat} (h : c < 7 ∨ 12 < c) : tnS s r a c = s c := by
  unfold tnS
  split
  · exact tdS_ne h
  · rfl
theorem tnR_ne {s : St} {r c : Nat} (h : c < 7 ∨ 12 < c) : ∀ a, tnR s r a c = s c
  | 0 => rfl
  | a + 1 => by
    show tnS (tnR s r a) r a c = _
    rw [tnS_ne h, tnR_ne h a]
theorem tnA_ne {s : St} {c : Nat} (h : c < 7 ∨ 12 < c) : ∀ r, tnA s r c = s c
  | 0 => rfl
  | r + 1 => by
    show tnR (tnA s r) r 3 c = _
    rw [tnR_ne h, tnA_ne h r]
theorem arS_congr {s s' : St} (h : ∀ c, c < 7 → s' c = s c) (r : Nat) : arS s' r = arS s r := by
  unfold arS inA upB
  rw [h 0 (by omega), h 1 (by omega), h 2 (by omega), h 3 (by omega), h 6 (by omega)]
/-- an own advert well formed -/
theorem nw_WA {s : St} (w : WL s) {r a : Nat} (hr : r < 8) : WA s (nwC s r a) (nwS s r a) a r := by
  refine ⟨fun l hl => ?_, fun d hd => nwS_le⟩
  obtain ⟨n1, n2⟩ := nwC_le (a := a) (l := l) w hr
  refine ⟨n1, fun q => ?_⟩
  obtain ⟨q1, q2, q3⟩ := n2.mp q
  refine ⟨q1, q2, ?_⟩
  unfold upB at q3
  exact (of_decide_eq_true q3).2
/-- numbers below a bound -/
def WN (s : St) (T : Nat) : Prop := ∀ row, row < 192 → s 7 row ≤ T
theorem tdS_W {s : St} (wL : WL s) (wK : WK s) (wF : WF s) {r a : Nat} (hr : r < 8) (ha : a < 3) (hT : s 7 (rw8 r a r) + 1 < 1000000000) : WK (tdS s r a) ∧ WF (tdS s r a) := by
  have hrow := rw8_lt hr ha hr
  have f1 : rw8 r a r / 8 % 3 = a := rw8_a ha hr
  have f2 : rw8 r a r % 8 = r := rw8_o hr
  unfold tdS
  split
  · obtain ⟨p1, p2, p3, p4, p5, p6⟩ := putS_row (s := s) (row := rw8 r a r) (num := s 7 (rw8 r a r) + 1) (age := 0) (cs := nwC s r a) (ms := nwS s r a) (cb := 0)
    refine ⟨WK_set wK (fun c hc => putS_ne (by omega)) (row := rw8 r a r) ?_ fun k hk hne => ?_, fun k hk => ?_⟩
    · rw [p1, p2, f1, f2]
      exact ⟨hT, fun _ => ⟨by omega, (nw_WA wL hr).ext p3 p4⟩⟩
    · obtain ⟨o1, o2, o3, o4, -⟩ := putS_other (s := s) (num := s 7 (rw8 r a r) + 1) (age := 0) (cs := nwC s r a) (ms := nwS s r a) (cb := 0) hne
      exact ⟨o1, o2, o3, o4⟩
    · by_cases ck : k = rw8 r a r
      · rw [ck, p5, p6]; omega
      · obtain ⟨-, -, -, -, o5, o6⟩ := putS_other (s := s) (num := s 7 (rw8 r a r) + 1) (age := 0) (cs := nwC s r a) (ms := nwS s r a) (cb := 0) ck
        rw [o5, o6]; exact wF k hk
  · exact ⟨wK, wF⟩
theorem tdS_7 {s : St} {r a k : Nat} : tdS s r a 7 k = s 7 k ∨ (k = rw8 r a r ∧ tdS s r a 7 k = s 7 k + 1) := by
  unfold tdS
  split
  · by_cases ck : k = rw8 r a r
    · right
      exact ⟨ck, by rw [ck]; exact putS_row.1⟩
    · left
      exact (putS_other ck).1
  · left; rfl
