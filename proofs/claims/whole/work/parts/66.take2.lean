/-! the reference: a message arrives -/
def inK : Nat → Prop := fun b => 143 ≤ b ∧ b ≤ 532
theorem QP.put {s : St} {u u' : JM} (hK : QK s u) (hF : QF s u) {r o a : Nat} (hr : r < 8) (ho : o < 8) (ha : a < 3) {num age cb : Nat} {cs ms : Nat → Nat}
    (e143 : ∀ k, u' 143 k = if k = pl r o a then nI num else u 143 k) (e144 : ∀ k, u' 144 k = if k = pl r o a then nI age else u 144 k) (e145 : ∀ k, u' 145 k = if k = pl r o a then 1 else u 145 k) (e146 : ∀ k, u' 146 k = if k = pl r o a then nI cb else u 146 k)
    (ec : ∀ l, l < 12 → u' (148 + pl r o a) l = nI (cs l)) (es : ∀ d, d < 8 → u' (341 + pl r o a) d = nI (ms d)) (eo : ∀ b, 148 ≤ b → b ≤ 532 → b ≠ 148 + pl r o a → b ≠ 341 + pl r o a → u' b = u b) :
    QK (putS s (rw8 r a o) num age cs ms cb) u' ∧ QF (putS s (rw8 r a o) num age cs ms cb) u' := by
  obtain ⟨p1, p2, p3, p4, p5, p6⟩ := putS_row (s := s) (row := rw8 r a o) (num := num) (age := age) (cs := cs) (ms := ms) (cb := cb)
  have hp := pl_lt hr ho ha
  refine ⟨fun r' o' a' hr' ho' ha' => ?_, fun r' o' a' hr' ho' ha' => ?_⟩
  · have hp' := pl_lt hr' ho' ha'
    by_cases e : r' = r ∧ o' = o ∧ a' = a
    · obtain ⟨rfl, rfl, rfl⟩ := e
      unfold QKi
      rw [e143, e144, if_pos rfl, if_pos rfl, p1, p2]
      exact ⟨rfl, fun _ => ⟨rfl, fun l hl => by rw [ec l hl, p3 l hl], fun d hd => by rw [es d hd, p4 d hd]⟩⟩
    · have ne : pl r' o' a' ≠ pl r o a := fun q => e (pl_inj ho' ha' ho ha q)
      have ne2 : rw8 r' a' o' ≠ rw8 r a o := fun q => by
        obtain ⟨q1, q2, q3⟩ := rw8_inj ha' ho' ha ho q
        exact e ⟨q1, q3, q2⟩
      obtain ⟨o1, o2, o3, o4, -, -⟩ := putS_other (s := s) (row := rw8 r a o) (num := num) (age := age) (cs := cs) (ms := ms) (cb := cb) ne2
      obtain ⟨k1, k2⟩ := hK r' o' a' hr' ho' ha'
      unfold QKi
      rw [e143, e144, if_neg ne, if_neg ne, o1, o2]
      refine ⟨k1, fun q => ⟨(k2 q).1, fun l hl => ?_, fun d hd => ?_⟩⟩
      · rw [eo _ (by omega) (by omega) (by omega) (by omega), o3 l hl]; exact (k2 q).2.1 l hl
      · rw [eo _ (by omega) (by omega) (by omega) (by omega), o4 d hd]; exact (k2 q).2.2 d hd
  · by_cases e : r' = r ∧ o' = o ∧ a' = a
    · obtain ⟨rfl, rfl, rfl⟩ := e
      unfold QFi
      rw [e145, e146, if_pos rfl, if_pos rfl, p5, p6]
      exact ⟨rfl, fun _ => rfl⟩
    · have ne : pl r' o' a' ≠ pl r o a := fun q => e (pl_inj ho' ha' ho ha q)
      have ne2 : rw8 r' a' o' ≠ rw8 r a o := fun q => by
        obtain ⟨q1, q2, q3⟩ := rw8_inj ha' ho' ha ho q
        exact e ⟨q1, q3, q2⟩
      obtain ⟨-, -, -, -, o5, o6⟩ := putS_other (s := s) (row := rw8 r a o) (num := num) (age := age) (cs := cs) (ms := ms) (cb := cb) ne2
      unfold QFi
      rw [e145, e146, if_neg ne, if_neg ne, o5, o6]
      exact hF r' o' a' hr' ho' ha'
/-- one link more by which it came -/
theorem QF.by_ {s : St} {u u' : JM} (hF : QF s u) {r o a : Nat} (ho : o < 8) (ha : a < 3) {cb : Nat} (h : u' = jw u 146 (pl r o a) (nI cb)) : QF (set1 s 12 (rw8 r a o) cb) u' := by
  intro r' o' a' hr' ho' ha'
  obtain ⟨f1, f2⟩ := hF r' o' a' hr' ho' ha'
  unfold QFi
  rw [set1_ne (by omega), set1_at, h, jw_ne (by decide), jw_at]
  refine ⟨f1, fun q => ?_⟩
  by_cases e : pl r' o' a' = pl r o a
  · obtain ⟨rfl, rfl, rfl⟩ := pl_inj ho' ha' ho ha e
    rw [if_pos rfl, if_pos rfl]
  · rw [if_neg e, if_neg (fun q => e (by obtain ⟨q1, q2, q3⟩ := rw8_inj ha' ho' ha ho q; rw [q1, q2, q3]))]
    exact f2 q
theorem QK.st {s s' : St} {u : JM} (h : QK s u) (e : ∀ c, 7 ≤ c → c ≤ 10 → s' c = s c) : QK s' u := fun r o a hr ho ha => by
  unfold QKi
  rw [e 7 (by omega) (by omega), e 8 (by omega) (by omega), e 9 (by omega) (by omega), e 10 (by omega) (by omega)]
  exact h r o a hr ho ha
theorem QL.st {s s' : St} {u : JM} (h : QL s u) (e : ∀ c, c < 7 → s' c = s c) : QL s' u := by
  unfold QL
  rw [e 0 (by omega), e 1 (by omega), e 2 (by omega), e 3 (by omega), e 4 (by omega), e 5 (by omega), e 6 (by omega)]
  exact h
theorem QMi.st {s s' : St} {u : JM} {i : Nat} (h : QMi s u i) (e3 : s' 3 = s 3) (e : ∀ c, 14 ≤ c → c ≤ 20 → s' c = s c) : QMi s' u i := by
  unfold QMi
  rw [e3, e 14 (by omega) (by omega), e 15 (by omega) (by omega), e 16 (by omega) (by omega), e 17 (by omega) (by omega), e 18 (by omega) (by omega), e 19 (by omega) (by omega), e 20 (by omega) (by omega)]
  exact h
/-- what a message does -/
def msS (s : St) (i : Nat) : St := if s 6 (s 14 i) = 1 ∧ s 15 i ≠ s 16 i then tkS s i else s
theorem c_X8_arrives {E : JE} {u0 : JM} {K : JM → Prop} {s : St} (hL : QL s u0) (hQ : QK s u0) (hF : QF s u0) (wL : WL s) (wK : WK s) (wF : WF s) {i : Nat} (hi : i < 400) (hM : QMi s u0 i) (wM : WMi s i)
    (k : ∀ u, same u0 u inK → QK (msS s i) u → QF (msS s i) u → K u) : JCu E 2 YX8_arrives [.ref 137, .int (nI i)] K u0 := by
  have h12 := wL.1
  obtain ⟨m1, m2, m3, m4, m5, m6, m7, m8⟩ := hM
  obtain ⟨w1, w2, w3, w4, w5, w6, w7⟩ := wM
  obtain ⟨x1, x2, x3, x4, -, -, x7⟩ := wL.2 _ w1
  have hp := pl_lt w2 w3 x4
  have hrow := rw8_lt w2 x4 w3
  obtain ⟨f1, f2⟩ := hF _ _ _ w2 w3 x4
  obtain ⟨q1, q2⟩ := hQ _ _ _ w2 w3 x4
  have wf := wF _ hrow
  have wk := (wK _ hrow).1
  have hi' : (nI i).toNatClampNeg = i := nI_cl (by omega)
  refine JCu.ofV (ls := [some (.ref 137), some (.int (nI i)), none, none, none]) (by decide +kernel) (Nat.le_of_ble_eq_true rfl) rfl rfl (g_X8_arrives_0 ?_)
  refine ⟨vpI hi (by omega), fun v1 hv1 v2 hv2 => ?_⟩
  rw [hi', m1] at hv1
  rw [hi', m2] at hv2
  rw [hv1, hv2, hi', m3, m4, m5, nI_cl (show s 14 i < 2147483648 by omega), (hL.2 _ w1).2.2.2.1, pl_nI]
  refine ⟨vpI (by omega) (by omega), fun c => ?_, fun c => ⟨fun c2 => ?_, fun c2 => ?_⟩⟩
  · have c' : s 6 (s 14 i) = 0 := nI_inj (b := 0) (by omega) (by omega) c
    have en : msS s i = s := if_neg fun g => by omega
    rw [en] at k
    exact k u0 same.rfl hQ hF
  · have c' : s 6 (s 14 i) = 1 := by
      rcases (show s 6 (s 14 i) = 0 ∨ s 6 (s 14 i) = 1 by omega) with g | g
      · rw [g] at c; exact absurd rfl c
      · exact g
    have en : msS s i = tkS s i := if_pos ⟨c', fun g => c2 (by rw [g])⟩
    rw [en] at k
    intro v4 hv4
    rw [hv4, nI_cl (show pl (s 15 i) (s 16 i) (s 3 (s 14 i)) < 2147483648 by omega), q1, f1, nI_eq (a := s 7 _) (by omega) (by omega), i32_lt (by omega), nI_toInt (by omega)]
    refine ⟨vpI hp (by omega), fun c3 => ⟨fun c4 => ?_, fun c4 => ?_⟩, fun c3 => ⟨fun c4 => ⟨fun c5 => by omega, fun c5 => ?_⟩, fun c4 => ?_⟩⟩
    · -- it is taken
      have lt : s 7 (rw8 (s 15 i) (s 3 (s 14 i)) (s 16 i)) < s 17 i := by omega
      rw [tkS_eq, if_pos lt] at k
      intro u4 h4 u5 h5 u6 h6 u7 h7
      refine ⟨by decide, fun u8 h8 => ⟨by decide, fun u9 h9 => ?_⟩⟩
      rw [cl_0, cl_12] at h8
      rw [cl_0, cl_8] at h9
      rw [show u4 538 i = nI (s 18 i) from by rw [h4, jw_ne (by decide)]; exact m6] at h5
      rw [nI_shl1 (by omega)] at h7
      have e7 : ∀ b, b ≠ 143 → b ≠ 144 → b ≠ 145 → b ≠ 146 → u7 b = u0 b := fun b b1 b2 b3 b4 => by rw [h7, jw_ne b4, h6, jw_ne b3, h5, jw_ne b2, h4, jw_ne b1]
      have e9 : ∀ b, b ≠ 148 + pl (s 15 i) (s 16 i) (s 3 (s 14 i)) → b ≠ 341 + pl (s 15 i) (s 16 i) (s 3 (s 14 i)) → u9 b = u7 b := fun b b1 b2 => by rw [h9, jcp_ne b2, h8, jcp_ne b1]
      obtain ⟨r1, r2⟩ := QP.put (u' := u9) (num := s 17 i) (age := s 18 i) (cb := 2 ^ s 14 i) (cs := fun l => s 19 (i * 12 + l)) (ms := fun d => s 20 (i * 8 + d)) hQ hF w2 w3 x4
        (fun j => by rw [e9 143 (by omega) (by omega), h7, jw_ne (by decide), h6, jw_ne (by decide), h5, jw_ne (by decide), h4, jw_at])
        (fun j => by rw [e9 144 (by omega) (by omega), h7, jw_ne (by decide), h6, jw_ne (by decide), h5, jw_at, h4, jw_ne (by decide)])
        (fun j => by rw [e9 145 (by omega) (by omega), h7, jw_ne (by decide), h6, jw_at, h5, jw_ne (by decide), h4, jw_ne (by decide)])
        (fun j => by rw [e9 146 (by omega) (by omega), h7, jw_at, h6, jw_ne (by decide), h5, jw_ne (by decide), h4, jw_ne (by decide)])
        (fun l hl => by rw [h9, jcp_ne (by omega), h8, jcp_at, if_pos (by omega), e7 _ (by omega) (by omega) (by omega) (by omega)]; rw [show 0 + (l - 0) = l by omega]; exact m7 l hl)
        (fun d hd => by rw [h9, jcp_at, if_pos (by omega), h8, jcp_ne (by omega), e7 _ (by omega) (by omega) (by omega) (by omega)]; rw [show 0 + (d - 0) = d by omega]; exact m8 d hd)
        (fun b b1 b2 b3 b4 => by rw [e9 b b3 b4, e7 b (by omega) (by omega) (by omega) (by omega)])
      exact k u9 (fun b hb => by unfold inK at hb; rw [e9 b (by omega) (by omega), e7 b (by omega) (by omega) (by omega) (by omega)]) r1 r2
    · rw [tkS_eq, if_neg (by omega), if_neg (by omega)] at k
      exact k u0 same.rfl hQ hF
    · rw [tkS_eq, if_neg (by omega), if_neg (fun g => c4 (by rw [g.2]; rfl))] at k
      exact k u0 same.rfl hQ hF
    · have f1' : s 11 (rw8 (s 15 i) (s 3 (s 14 i)) (s 16 i)) = 1 := nI_inj (b := 1) (by omega) (by omega) c4
      rw [tkS_eq, if_neg (by omega), if_pos ⟨c3, f1'⟩] at k
      rw [f2 f1', nI_bit (by omega)]
      intro u1 h1
      have e1 : ∀ b, b ≠ 146 → u1 b = u0 b := fun b hb => by rw [h1, jw_ne hb]
      have hQ1 : QK (set1 s 12 (rw8 (s 15 i) (s 3 (s 14 i)) (s 16 i)) (s 12 (rw8 (s 15 i) (s 3 (s 14 i)) (s 16 i)) ||| 2 ^ s 14 i)) u1 := by
        refine QK.st (s := s) (fun r o a hr ho ha => ?_) (fun c h1 h2 => set1_ne (by omega))
        have hp' := pl_lt hr ho ha
        exact (hQ r o a hr ho ha).congr fun b hb => e1 b (by omega)
      have h := k u1 (fun b hb => e1 b (by unfold inK at hb; omega)) hQ1 (hF.by_ w3 x4 h1)
      rw [e1 143 (by decide), e1 537 (by decide), q1, m5, i32_lt (by omega), nI_toInt (by omega)]
      exact ⟨fun c5 => by omega, fun _ => h⟩
  · have c2' : s 16 i = s 15 i := nI_inj (by omega) (by omega) c2
    have en : msS s i = s := if_neg fun g => g.2 c2'.symm
    rw [en] at k
    exact k u0 same.rfl hQ hF
