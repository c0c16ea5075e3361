/-! the law's loop, and its start -/
theorem and31 (x : Int32) : ∃ j, j < 32 ∧ x &&& 31 = nI j := by
  refine ⟨(x.toBitVec &&& 31#32).toNat, ?_, ?_⟩
  · rw [BitVec.toNat_and]
    have := Nat.and_le_right (n := x.toBitVec.toNat) (m := (31#32).toNat)
    have e : (31#32).toNat = 31 := rfl
    omega
  · apply Int32.toBitVec_inj.mp
    show x.toBitVec &&& 31#32 = BitVec.ofNat 32 (x.toBitVec &&& 31#32).toNat
    rw [BitVec.ofNat_toNat, BitVec.setWidth_eq]
section
variable {E : JE} {b L i T : Nat} {xs : Nat → Int32} {w : Wd} {u : JM}
theorem law_body (hL : L ≤ 3072) (hi : i + 5 < L) (c : CW w u) (x : XW w u) (v : WV w T) (hT : T + 90 < 1000000000) (next : ∀ w' u', CW w' u' → XW w' u' → WV w' (T + 80) → LW E b L xs 1147 (lvI E b i) [] (NC, jRF, u')) : LW E b L xs 27 (lvI E b i) [] (NC, jRF, u) := by
  refine LW_aload (q := 3) dL_law_27 rfl rfl ?_
  refine LW_iload (q := 0) dL_law_28 rfl rfl ?_
  refine LW_scr dL_law_29 (k := i) (by omega) hL ?_
  refine LW_bipush (v := 31) dL_law_30 (by decide) ?_
  refine LW_iand dL_law_32 ?_
  obtain ⟨j, hj, e⟩ := and31 (xs i)
  rw [e]
  clear e
  rcases (show j = 0 ∨ j = 1 ∨ j = 2 ∨ j = 3 ∨ j = 4 ∨ j = 5 ∨ j = 6 ∨ j = 7 ∨ j = 8 ∨ j = 9 ∨ j = 10 ∨ j = 11 ∨ j = 12 ∨ j = 13 ∨ j = 14 ∨ j = 15 ∨ j = 16 ∨ j = 17 ∨ j = 18 ∨ j = 19 ∨ j = 20 ∨ j = 21 ∨ j = 22 ∨ j = 23 ∨ j = 24 ∨ j = 25 ∨ j = 26 ∨ j = 27 ∨ j = 28 ∨ j = 29 ∨ j = 30 ∨ j = 31 by omega) with rfl | rfl | rfl | rfl | rfl | rfl | rfl | rfl | rfl | rfl | rfl | rfl | rfl | rfl | rfl | rfl | rfl | rfl | rfl | rfl | rfl | rfl | rfl | rfl | rfl | rfl | rfl | rfl | rfl | rfl | rfl | rfl
  · exact LW_in dL_law_33 (off := 123) (tgt := 156) (by decide +kernel) (by decide +kernel) (by decide +kernel) (by decide) (lc_0 hL hi c x v hT next)
  · exact LW_in dL_law_33 (off := 186) (tgt := 219) (by decide +kernel) (by decide +kernel) (by decide +kernel) (by decide) (lc_1 hL hi c x v hT next)
  · exact LW_in dL_law_33 (off := 219) (tgt := 252) (by decide +kernel) (by decide +kernel) (by decide +kernel) (by decide) (lc_2 hL hi c x v hT next)
  · exact LW_in dL_law_33 (off := 262) (tgt := 295) (by decide +kernel) (by decide +kernel) (by decide +kernel) (by decide) (lc_3 hL hi c x v hT next)
  · exact LW_in dL_law_33 (off := 295) (tgt := 328) (by decide +kernel) (by decide +kernel) (by decide +kernel) (by decide) (lc_4 hL hi c x v hT next)
  · exact LW_in dL_law_33 (off := 328) (tgt := 361) (by decide +kernel) (by decide +kernel) (by decide +kernel) (by decide) (lc_5 hL hi c x v hT next)
  · exact LW_in dL_law_33 (off := 361) (tgt := 394) (by decide +kernel) (by decide +kernel) (by decide +kernel) (by decide) (lc_6 hL hi c x v hT next)
  · exact LW_in dL_law_33 (off := 374) (tgt := 407) (by decide +kernel) (by decide +kernel) (by decide +kernel) (by decide) (lc_7 hL hi c x v hT next)
  · exact LW_in dL_law_33 (off := 397) (tgt := 430) (by decide +kernel) (by decide +kernel) (by decide +kernel) (by decide) (lc_8 hL hi c x v hT next)
  · exact LW_in dL_law_33 (off := 450) (tgt := 483) (by decide +kernel) (by decide +kernel) (by decide +kernel) (by decide) (lc_9 hL hi c x v hT next)
  · exact LW_in dL_law_33 (off := 483) (tgt := 516) (by decide +kernel) (by decide +kernel) (by decide +kernel) (by decide) (lc_10 hL hi c x v hT next)
  · exact LW_in dL_law_33 (off := 536) (tgt := 569) (by decide +kernel) (by decide +kernel) (by decide +kernel) (by decide) (lc_11 hL hi c x v hT next)
  · exact LW_in dL_law_33 (off := 579) (tgt := 612) (by decide +kernel) (by decide +kernel) (by decide +kernel) (by decide) (lc_12 hL hi c x v hT next)
  · exact LW_in dL_law_33 (off := 622) (tgt := 655) (by decide +kernel) (by decide +kernel) (by decide +kernel) (by decide) (lc_13 hL hi c x v hT next)
  · exact LW_in dL_law_33 (off := 655) (tgt := 688) (by decide +kernel) (by decide +kernel) (by decide +kernel) (by decide) (lc_14 hL hi c x v hT next)
  · exact LW_in dL_law_33 (off := 688) (tgt := 721) (by decide +kernel) (by decide +kernel) (by decide +kernel) (by decide) (lc_15 hL hi c x v hT next)
  · exact LW_in dL_law_33 (off := 711) (tgt := 744) (by decide +kernel) (by decide +kernel) (by decide +kernel) (by decide) (lc_16 hL hi c x v hT next)
  · exact LW_in dL_law_33 (off := 754) (tgt := 787) (by decide +kernel) (by decide +kernel) (by decide +kernel) (by decide) (lc_17 hL hi c x v hT next)
  · exact LW_in dL_law_33 (off := 787) (tgt := 820) (by decide +kernel) (by decide +kernel) (by decide +kernel) (by decide) (lc_18 hL hi c x v hT next)
  · exact LW_in dL_law_33 (off := 840) (tgt := 873) (by decide +kernel) (by decide +kernel) (by decide +kernel) (by decide) (lc_19 hL hi c x v hT next)
  · exact LW_in dL_law_33 (off := 883) (tgt := 916) (by decide +kernel) (by decide +kernel) (by decide +kernel) (by decide) (lc_20 hL hi c x v hT next)
  · exact LW_in dL_law_33 (off := 916) (tgt := 949) (by decide +kernel) (by decide +kernel) (by decide +kernel) (by decide) (lc_21 hL hi c x v hT next)
  · exact LW_in dL_law_33 (off := 929) (tgt := 962) (by decide +kernel) (by decide +kernel) (by decide +kernel) (by decide) (lc_22 hL hi c x v hT next)
  · exact LW_in dL_law_33 (off := 942) (tgt := 975) (by decide +kernel) (by decide +kernel) (by decide +kernel) (by decide) (lc_23 hL hi c x v hT next)
  · exact LW_in dL_law_33 (off := 965) (tgt := 998) (by decide +kernel) (by decide +kernel) (by decide +kernel) (by decide) (lc_24 hL hi c x v hT next)
  · exact LW_in dL_law_33 (off := 1008) (tgt := 1041) (by decide +kernel) (by decide +kernel) (by decide +kernel) (by decide) (lc_25 hL hi c x v hT next)
  · exact LW_in dL_law_33 (off := 1051) (tgt := 1084) (by decide +kernel) (by decide +kernel) (by decide +kernel) (by decide) (lc_26 hL hi c x v hT next)
  · exact LW_out dL_law_33 (tgt := 1147) (Or.inr (by decide +kernel)) (by decide) (next w u c x (v.mono (by omega)))
  · exact LW_out dL_law_33 (tgt := 1147) (Or.inr (by decide +kernel)) (by decide) (next w u c x (v.mono (by omega)))
  · exact LW_out dL_law_33 (tgt := 1147) (Or.inr (by decide +kernel)) (by decide) (next w u c x (v.mono (by omega)))
  · exact LW_out dL_law_33 (tgt := 1147) (Or.inr (by decide +kernel)) (by decide) (next w u c x (v.mono (by omega)))
  · exact LW_out dL_law_33 (tgt := 1147) (Or.inr (by decide +kernel)) (by decide) (next w u c x (v.mono (by omega)))
theorem len6 (hL : L ≤ 3072) (hi : i ≤ 3072) : (nI L - 6 < nI i) ∨ (¬ nI L - 6 < nI i ∧ i + 6 ≤ L) := by
  by_cases c : 6 ≤ L
  · rw [show (6 : Int32) = nI 6 from rfl, nI_sub c, i32_lt (by omega), nI_toInt (by omega)]
    omega
  · refine Or.inl ?_
    have h : (List.range 6).all (fun L => decide ((nI L - 6).toInt < 0)) = true := by decide +kernel
    have h := of_decide_eq_true (List.all_eq_true.mp h L (List.mem_range.mpr (by omega)))
    rw [i32_lt (by omega)]
    omega
theorem law_loop (hL : L ≤ 3072) : ∀ (m k : Nat) (w : Wd) (u : JM), k + m = 513 → CW w u → XW w u → WV w (80 * k) → LW E b L xs 18 (lvI E b (6 * k)) [] (NC, jRF, u) := by
  intro m
  induction m with
  | zero =>
    intro k w u hk c x v
    refine LW_iload (q := 0) dL_law_18 rfl rfl ?_
    refine LW_aload (q := 3) dL_law_19 rfl rfl ?_
    refine LW_len dL_law_20 ?_
    refine LW_bipush (v := 6) dL_law_21 (by decide) ?_
    refine LW_isub dL_law_23 ?_
    refine LW_gt dL_law_24 (tgt := 1153) (by decide) (fun _ => ?_) (fun h => ?_)
    · exact LW_iconst (v := 1) dL_law_1153 (by decide) (LW_ret rfl dL_law_1154)
    · exfalso
      apply h
      by_cases c : 6 ≤ L
      · rw [show (6 : Int32) = nI 6 from rfl, nI_sub c, i32_lt (by omega), nI_toInt (by omega)]
        omega
      · rcases len6 hL (i := 0) (by omega) with q | ⟨-, q⟩
        · rw [i32_lt (by omega)] at q ⊢
          omega
        · omega
  | succ m ih =>
    intro k w u hk c x v
    refine LW_iload (q := 0) dL_law_18 rfl rfl ?_
    refine LW_aload (q := 3) dL_law_19 rfl rfl ?_
    refine LW_len dL_law_20 ?_
    refine LW_bipush (v := 6) dL_law_21 (by decide) ?_
    refine LW_isub dL_law_23 ?_
    refine LW_gt dL_law_24 (tgt := 1153) (by decide) (fun _ => ?_) (fun h => ?_)
    · exact LW_iconst (v := 1) dL_law_1153 (by decide) (LW_ret rfl dL_law_1154)
    · have hi : 6 * k + 6 ≤ L := by
        rcases len6 hL (i := 6 * k) (by omega) with q | ⟨-, q⟩
        · exact absurd q h
        · exact q
      refine law_body (T := 80 * k) hL (by omega) c x v (by omega) fun w' u' c' x' v' => ?_
      refine LW_iinc (q := 0) (v := nI (6 * (k + 1))) dL_law_1147 rfl ?_ (by decide) rfl ?_
      · show nI (6 * k) + nI 6 = _
        rw [nI_add]
        rfl
      · refine LW_goto dL_law_1150 (tgt := 18) (by decide) ?_
        exact ih (k + 1) w' u' (by omega) c' x' (by rw [show 80 * (k + 1) = 80 * k + 80 by omega]; exact v')
theorem LW_conv {pc n : Nat} {lv : List (Nat × Value)} {st : List Value} {r r' : JR} (e : ∀ a, a < n → ∀ k, k < jsz a → r a k = r' a k) (h : LW E b L xs pc lv st (n, r', u)) : LW E b L xs pc lv st (n, r, u) := by
  intro p e' s m below meth c H locs A C0 hK hz hH hS hl
  exact h p e' s m below meth c H locs A C0 hK hz (hH.conv e) hS hl
end
/-- nothing yet -/
abbrev uZ : JM := fun _ _ => 0
abbrev u_0 : JM := uS (uS uZ 130) 3763
theorem u_00 (b k : Nat) (h1 : b ≠ 130) (h2 : b ≠ 3763) : u_0 b k = 0 := by
  unfold u_0 uS
  rw [jw_ne h2, jw_ne h2, jw_ne h2, jw_ne h2, jw_ne h1, jw_ne h1, jw_ne h1, jw_ne h1]
theorem u_130 (i : Nat) (hi : i < 4) : u_0 130 i = -1 ∧ u_0 3763 i = -1 := by
  rcases (show i = 0 ∨ i = 1 ∨ i = 2 ∨ i = 3 by omega) with rfl | rfl | rfl | rfl <;> exact ⟨rfl, rfl⟩
def s_0 : St := fun _ _ => 0
def w_0 : Wd := (s_0, s_0, false, (fun _ => -1, fun _ => 0, fun _ _ => 0))
theorem NW_0 : NW s_0 :=
  ⟨⟨Nat.zero_le _, fun l h => absurd h (Nat.not_lt_zero l)⟩, fun row _ => ⟨by show 0 < 1000000000; omega, fun h => absurd h (Nat.lt_irrefl 0)⟩, ⟨Nat.zero_le _, fun i h => absurd h (Nat.not_lt_zero i)⟩, fun row _ => rfl, fun row _ => ⟨Nat.zero_le _, by show 0 < 4096; omega⟩, ⟨fun row _ => ⟨Nat.zero_le _, fun _ => Nat.zero_le _⟩, fun i h => absurd h (Nat.not_lt_zero i)⟩⟩
theorem OWN_0 : OWN s_0 := ⟨fun _ _ _ _ _ _ => Nat.le_refl _, fun i h => absurd h (Nat.not_lt_zero i)⟩
theorem WV_0 : WV w_0 (80 * 0) := ⟨⟨NW_0, Nat.le_refl _, fun h => absurd h (by decide), fun i _ => ⟨Or.inl rfl, Nat.zero_le _⟩⟩, OWN_0, fun h => absurd h (by decide)⟩
theorem CW_0 : CW w_0 u_0 := by
  refine ⟨⟨⟨u_00 _ _ (by decide) (by decide), fun l h => absurd h (Nat.not_lt_zero l), fun l _ => Or.inl (u_00 _ _ (by decide) (by decide))⟩, fun row _ => ⟨u_00 _ _ (by decide) (by decide), u_00 _ _ (by decide) (by decide), fun h => absurd h (Nat.lt_irrefl 0)⟩, ⟨u_00 _ _ (by decide) (by decide), fun i h => absurd h (Nat.not_lt_zero i)⟩, fun row _ => ⟨u_00 _ _ (by decide) (by decide), fun h => absurd (show (0 : Nat) = 1 from h) (by decide)⟩, u_00 _ _ (by decide) (by decide), u_00 _ _ (by decide) (by decide)⟩, fun row _ => u_00 _ _ (by decide) (by decide), fun row _ => u_00 _ _ (by decide) (by decide), u_00 _ _ (by decide) (by decide), fun h => absurd h (by decide), fun i hi => ⟨(u_130 i hi).1, u_00 _ _ (by decide) (by decide), fun j _ => u_00 _ _ (by omega) (by omega)⟩⟩
theorem XW_0 : XW w_0 u_0 := by
  refine ⟨⟨⟨⟨u_00 _ _ (by decide) (by decide), fun l h => absurd h (Nat.not_lt_zero l)⟩, fun r o a _ _ _ => ⟨u_00 _ _ (by decide) (by decide), fun h => absurd h (Nat.lt_irrefl 0)⟩, ⟨u_00 _ _ (by decide) (by decide), fun i h => absurd h (Nat.not_lt_zero i)⟩, fun r o a _ _ _ => ⟨u_00 _ _ (by decide) (by decide), fun h => absurd (show (0 : Nat) = 1 from h) (by decide)⟩, u_00 _ _ (by decide) (by decide), u_00 _ _ (by decide) (by decide)⟩, Nat.zero_le _, Nat.zero_le _⟩, u_00 _ _ (by decide) (by decide), fun h => absurd h (by decide), fun i hi => ⟨(u_130 i hi).2, u_00 _ _ (by decide) (by decide), fun j h => absurd h (Nat.not_lt_zero j)⟩⟩
theorem ci_L_9 : jcI R_law 9 YX7_init 0 := ⟨⟨(lw_ix 80 (by decide +kernel) (by decide +kernel)), (lw_ix 63 (by decide +kernel) (by decide +kernel)), by decide +kernel, by decide +kernel, by decide +kernel⟩, rfl, rfl, (lw_ix 78 (by decide +kernel) (by decide +kernel)), (lw_ix 79 (by decide +kernel) (by decide +kernel))⟩
theorem ci_L_12 : jcI R_law 12 YX8_init 0 := ⟨⟨(lw_ix 763 (by decide +kernel) (by decide +kernel)), (lw_ix 71 (by decide +kernel) (by decide +kernel)), by decide +kernel, by decide +kernel, by decide +kernel⟩, rfl, rfl, (lw_ix 761 (by decide +kernel) (by decide +kernel)), (lw_ix 762 (by decide +kernel) (by decide +kernel))⟩
theorem law_start {E : JE} {b L : Nat} {xs : Nat → Int32} (hL : L ≤ 3072) : LW E b L xs 0 [(0, .ref b)] [] (0, RR 0 [], uZ) := by
  have hp : ∀ {a : Nat}, ∀ p ∈ ([] : List (Nat × Nat)), p.1 < a := fun p h => absurd h List.not_mem_nil
  refine LW_new (g := (0, RR 0 [], uZ)) (ci := 7) (r' := RR 1 [(0, 0)]) rfl inX7 tyX7_ok ⟨(lw_ix 76 (by decide +kernel) (by decide +kernel)), (lw_ix 77 (by decide +kernel) (by decide +kernel)), (lw_ix 63 (by decide +kernel) (by decide +kernel))⟩ dvX7 dL_law_0 rfl (Nat.le_of_ble_eq_true rfl) (fun _ => rfl) (fun k => ?_) (fun a h => absurd h (Nat.not_lt_zero a)) ?_
  · show (if (0 : Nat) = 0 then (if k < 0 then jRF 0 k else none) else RR 1 [] 0 k) = none
    rw [if_pos rfl, if_neg (Nat.not_lt_zero k)]
  show LW E b L xs 3 [(0, .ref b)] [.ref (E.2.1 + 0)] (1, RR 1 [(0, 0)], uZ)
  refine LW_dup dL_law_3 rfl ?_
  refine LW_callI (st := [.ref (E.2.1 + 0)]) (a := 0) (as := []) (d' := 3) (n1 := 137) ci_L_9 dL_law_4 rfl (Nat.le_of_ble_eq_true rfl) (by decide) (Nat.le_of_ble_eq_true rfl) (by decide) (k_7_0 hp (fun _ _ _ => rfl)) ?_
  rintro _ _ ⟨rfl, rfl⟩ _
  show LW E b L xs 7 [(0, .ref b)] [.ref (E.2.1 + 0)] (137, RR 137 [], uS uZ 130)
  refine LW_astore (i := 1) (lv' := [(1, .ref (E.2.1 + 0)), (0, .ref b)]) dL_law_7 rfl (by decide) rfl ?_
  refine LW_new (g := (137, RR 137 [], uS uZ 130)) (ci := 8) (r' := RR 138 [(137, 0)]) rfl inX8 tyX8_ok ⟨(lw_ix 759 (by decide +kernel) (by decide +kernel)), (lw_ix 760 (by decide +kernel) (by decide +kernel)), (lw_ix 71 (by decide +kernel) (by decide +kernel))⟩ dvX8 dL_law_8 rfl (Nat.le_of_ble_eq_true rfl) (fun k => ?_) (fun k => ?_) (fun a h => ?_) ?_
  · show uS uZ 130 137 k = 0
    unfold uS
    rw [jw_ne (by decide), jw_ne (by decide), jw_ne (by decide), jw_ne (by decide)]
  · show (if (137 : Nat) = 137 then (if k < 0 then jRF 137 k else none) else RR 138 [] 137 k) = none
    rw [if_pos rfl, if_neg (Nat.not_lt_zero k)]
  · have h : a < 137 := h
    funext k
    show (if a = 137 then _ else RR 138 [] a k) = RR 137 [] a k
    rw [if_neg (by omega), RR_lt (n := 138) (n' := 137) (by omega) h]
  show LW E b L xs 11 [(1, .ref (E.2.1 + 0)), (0, .ref b)] [.ref (E.2.1 + 137)] (138, RR 138 [(137, 0)], uS uZ 130)
  refine LW_dup dL_law_11 rfl ?_
  refine LW_callI (st := [.ref (E.2.1 + 137)]) (a := 137) (as := []) (d' := 1) (n1 := 3771) ci_L_12 dL_law_12 rfl (Nat.le_of_ble_eq_true rfl) (by decide) (Nat.le_of_ble_eq_true rfl) (by decide) (k_8_137 hp (fun a ha k => ?_)) ?_
  · unfold uS
    rw [jw_ne (by omega), jw_ne (by omega), jw_ne (by omega), jw_ne (by omega)]
  rintro _ _ ⟨rfl, rfl⟩ _
  show LW E b L xs 15 [(1, .ref (E.2.1 + 0)), (0, .ref b)] [.ref (E.2.1 + 137)] (3771, RR 3771 [], u_0)
  refine LW_astore (i := 2) (lv' := [(2, .ref (E.2.1 + 137)), (1, .ref (E.2.1 + 0)), (0, .ref b)]) dL_law_15 rfl (by decide) rfl ?_
  refine LW_iconst (v := 0) dL_law_16 (by decide) ?_
  refine LW_istore (i := 3) (lv' := lvI E b (6 * 0)) dL_law_17 rfl (by decide) rfl ?_
  refine LW_conv (r' := jRF) (fun a ha k _ => if_pos ha) ?_
  exact law_loop hL 513 0 w_0 u_0 rfl CW_0 XW_0 WV_0
theorem whole_start {p : Program} {e : Env} {s : State} {m : MethodId} {below : List Frame} {meth : Method} {c : Code} (l : Launch) (hflags : l.flags = flags0) {b L : Nat} {xs : Nat → Int32} (hL : L ≤ 3072) (C0 : lw_At p s m meth c b L xs) : W p l e room_1 s m #[Value.ref b] below meth c s.heap [] 0 0 (lw_Z below #[Value.ref b] s) (entryFrame m ([Value.ref b] : List Value).toArray 4) := by
  obtain ⟨E, rfl, hE, hK⟩ := lw_E l C0
  have hl := lv_entry ([.ref b]) (n := 4) (Nat.le_of_ble_eq_true rfl)
  rw [lg_entry_eq]
  exact law_start hL p e s m below meth c s.heap [] _ C0 hK hE.symm ⟨by rw [hE]; rfl, fun a h => absurd h (Nat.not_lt_zero a)⟩ va_S.rf hl
