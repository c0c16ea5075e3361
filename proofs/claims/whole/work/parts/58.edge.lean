/-! the reference: an edge; who is right behind; handing on -/
def egN (s : St) (r a l x : Nat) : Nat := if 0 < tl s r a (oth s l x) l then tl s r a x l else 0
theorem oth_lt {s : St} (w : WL s) {l : Nat} (hl : l < s 0 0) (x : Nat) : oth s l x < 8 := by
  obtain ⟨w1, w2, -⟩ := w.2 l hl
  unfold oth
  split <;> assumption
theorem othR {s : St} {u : JM} (h : QL s u) (w : WL s) {l x : Nat} (hl : l < s 0 0) (hx : x < 8) : (if u 138 l = nI x then u 139 l else u 138 l) = nI (oth s l x) := by
  obtain ⟨l1, l2, -⟩ := h.2 l hl
  obtain ⟨w1, w2, -⟩ := w.2 l hl
  rw [l1, l2]
  unfold oth
  by_cases c : s 1 l = x
  · rw [if_pos (by rw [c]), if_pos c]
  · rw [if_neg (fun g => c (nI_inj (by omega) (by omega) g)), if_neg c]
theorem endR {s : St} {u : JM} (h : QL s u) (w : WL s) {l x : Nat} (hl : l < s 0 0) (hx : x < 8) : (jb (u 138 l = nI x ∨ u 139 l = nI x) = 0) ↔ ¬ isE s l x := by
  obtain ⟨l1, l2, -⟩ := h.2 l hl
  obtain ⟨w1, w2, -⟩ := w.2 l hl
  rw [jb_0, l1, l2, nI_eq (by omega) (by omega), nI_eq (by omega) (by omega)]
  exact Iff.rfl
theorem nI_le0 {k : Nat} (hk : k < 2147483648) : nI k ≤ 0 ↔ k = 0 := by
  rw [show (0 : Int32) = nI 0 from rfl, i32_le (by decide), nI_toInt hk]
  omega
theorem num_lt {s : St} (w : WK s) {r o a : Nat} (hr : r < 8) (ho : o < 8) (ha : a < 3) : s 7 (rw8 r a o) < 1000000000 := (w _ (rw8_lt hr ha ho)).1
/-- what is told, as the reference's rows have it -/
theorem tlR {s : St} {u : JM} (h : QK s u) (w : WK s) {r o a l : Nat} (hr : r < 8) (ho : o < 8) (ha : a < 3) (hl : l < 12) : (s 7 (rw8 r a o) = 0 ∧ tl s r a o l = 0 ∧ u 143 (pl r o a) ≤ 0) ∨ (0 < s 7 (rw8 r a o) ∧ ¬ u 143 (pl r o a) ≤ 0 ∧ u (148 + pl r o a) l = nI (tl s r a o l)) := by
  obtain ⟨h1, h2⟩ := h r o a hr ho ha
  have hn := num_lt w hr ho ha
  rw [h1, nI_le0 (by omega)]
  rcases Nat.eq_zero_or_pos (s 7 (rw8 r a o)) with z | z
  · exact Or.inl ⟨z, by unfold tl; rw [if_pos z], z⟩
  · exact Or.inr ⟨z, by omega, by unfold tl; rw [if_neg (by omega)]; exact (h2 z).2.1 l hl⟩
theorem c_X8_edge {E : JE} {u : JM} {K : Int32 → JM → Prop} {s : St} (hL : QL s u) (hK : QK s u) (wL : WL s) (wK : WK s) {r a l x : Nat} (hr : r < 8) (ha : a < 3) (hl : l < s 0 0) (hx : x < 8) (k : K (nI (egN s r a l x)) u) : JCi E 2 YX8_edge [.ref 137, .int (nI r), .int (nI a), .int (nI l), .int (nI x)] K u := by
  have h12 := wL.1
  refine JCi.ofV (ls := [some (.ref 137), some (.int (nI r)), some (.int (nI a)), some (.int (nI l)), some (.int (nI x)), none, none]) (by decide +kernel) (Nat.le_of_ble_eq_true rfl) rfl rfl (g_X8_edge_0 ?_)
  intro v hv
  refine ⟨vpI (by omega) (by omega), fun v2 h2 => ?_⟩
  have ho := oth_lt wL hl x
  rw [nI_cl (show l < 2147483648 by omega), othR hL wL hl hx, pl_nI] at h2
  rw [pl_nI] at hv
  have p1 := pl_lt hr hx ha
  have p2 := pl_lt hr ho ha
  rw [hv, h2, nI_cl (show pl r x a < 2147483648 by omega), nI_cl (show pl r (oth s l x) a < 2147483648 by omega), nI_cl (show l < 2147483648 by omega)]
  have t1 := tlR hK wK hr hx ha (l := l) (by omega)
  have t2 := tlR hK wK hr ho ha (l := l) (by omega)
  have b2 := tl_le wK hr ha ho (l := l) (by omega)
  unfold egN at k
  refine ⟨vpI p1 (by omega), fun q => ?_, fun q => ⟨vpI p2 (by omega), fun q2 => ?_, fun q2 => ⟨fun q3 => ?_, fun q3 => ?_⟩⟩⟩
  · rcases t1 with g | g
    · rw [g.2.1] at k
      split at k <;> exact k
    · exact absurd q g.2.1
  · rcases t2 with g | g
    · rw [g.2.1, if_neg (by omega)] at k; exact k
    · exact absurd q2 g.2.1
  · rcases t2 with g | g
    · exact absurd g.2.2 q2
    · rw [g.2.2, nI_le0 (by omega)] at q3
      rw [if_neg (by omega)] at k
      exact k
  · rcases t2 with g | g
    · exact absurd g.2.2 q2
    · rw [g.2.2, nI_le0 (by omega)] at q3
      rw [if_pos (by omega)] at k
      rcases t1 with g1 | g1
      · exact absurd g1.2.2 q
      · rw [g1.2.2]; exact k
/-- the edges that the reference walks are the known ones -/
theorem egN_El {s : St} {r a l x : Nat} (wL : WL s) (hl : l < s 0 0) (hx : isE s l x) (h : 0 < egN s r a l x) : El s r a l x (oth s l x) (egN s r a l x) := by
  obtain ⟨w1, w2, w3, -⟩ := wL.2 l hl
  unfold egN at h ⊢
  by_cases c : 0 < tl s r a (oth s l x) l
  · rw [if_pos c] at h ⊢
    unfold oth at c ⊢
    rcases hx with e | e
    · rw [if_pos e] at c ⊢
      exact ⟨by omega, w2, hl, Or.inl ⟨e, rfl⟩, c, h, rfl⟩
    · rw [if_neg (by omega)] at c ⊢
      exact ⟨by omega, w1, hl, Or.inr ⟨e, rfl⟩, c, h, rfl⟩
  · rw [if_neg c] at h; omega
theorem El_egN {s : St} {r a l x y w : Nat} (wL : WL s) (h : El s r a l x y w) : isE s l x ∧ y = oth s l x ∧ w = egN s r a l x := by
  obtain ⟨-, -, hl, e, ty, w0, hw⟩ := h
  obtain ⟨-, -, w3, -⟩ := wL.2 l hl
  have hy : y = oth s l x := by
    unfold oth
    rcases e with ⟨e1, e2⟩ | ⟨e1, e2⟩
    · rw [if_pos e1, e2]
    · rw [if_neg (by omega), e2]
  refine ⟨e.elim (fun g => Or.inl g.1) (fun g => Or.inr g.1), hy, ?_⟩
  unfold egN
  rw [← hy, if_pos ty]
  exact hw
/-- far and hop as the rows hold them -/
def QD (f : Nat → Nat) (u : JM) : Prop := ∀ y, y < 8 → u 1341 y = nI (f y)
def QH (h : Nat → Nat) (u : JM) : Prop := ∀ y, y < 8 → u 1342 y = hpI (h y)
theorem c_X8_isNext {E : JE} {u : JM} {K : Int32 → JM → Prop} {s : St} (hL : QL s u) (hK : QK s u) (wL : WL s) (wK : WK s) {r a f : Nat} (hr : r < 8) (ha : a < 3) (hf : f < 8) (hD : QD (dD (Ew s r a) r) u)
    (k1 : Nx (Ew s r a) r (dD (Ew s r a) r) f → K 1 u) (k0 : ¬ Nx (Ew s r a) r (dD (Ew s r a) r) f → K 0 u) : JCi E 3 YX8_isNext [.ref 137, .int (nI r), .int (nI a), .int (nI f)] K u := by
  have h12 := wL.1
  have hE := Ew_ok wL wK hr ha
  have hDf : dD (Ew s r a) r f ≤ 9999 := (dD_is hE r).2.1 f
  refine JCi.ofV (ls := [some (.ref 137), some (.int (nI r)), some (.int (nI a)), some (.int (nI f)), none]) (by decide +kernel) (Nat.le_of_ble_eq_true rfl) rfl rfl (g_X8_isNext_0 ?_)
  have main : ∀ (m k : Nat), m + k = s 0 0 → (∀ l, l < k → ¬ El s r a l r f (dD (Ew s r a) r f)) → JVi E 3 YX8_isNext K 3 [some (.ref 137), some (.int (nI r)), some (.int (nI a)), some (.int (nI f)), some (.int (nI k))] [] u := by
    intro m
    induction m with
    | zero =>
      intro k hm hn
      obtain rfl : k = s 0 0 := by omega
      refine g_X8_isNext_3 ⟨fun _ => k0 fun ⟨l, h⟩ => hn l h.2.2.1 h, fun c => ?_⟩
      rw [hL.1] at c
      exact absurd (nI_le (Nat.le_refl _) (by omega)) c
    | succ m ih =>
      intro k hm hn
      have hk : k < s 0 0 := by omega
      have c0 : ¬ u 137 0 ≤ nI k := by rw [hL.1]; exact nI_ge hk (by omega)
      obtain ⟨l1, l2, -⟩ := hL.2 k hk
      obtain ⟨w1, w2, -⟩ := wL.2 k hk
      have next : ¬ El s r a k r f (dD (Ew s r a) r f) → JVi E 3 YX8_isNext K 3 [some (.ref 137), some (.int (nI r)), some (.int (nI a)), some (.int (nI f)), some (.int (nI (k + 1)))] [] u := fun g => ih (k + 1) (by omega) fun l hl => by
        by_cases e : l = k
        · rw [e]; exact g
        · exact hn l (by omega)
      have ho := oth_lt wL hk r
      have be : egN s r a k r ≤ 99 := by unfold egN; split; exact tl_le wK hr ha hr (by omega); omega
      refine g_X8_isNext_3 ⟨fun c => absurd c c0, fun _ => ⟨vpI (by omega) (by omega), ?_⟩⟩
      rw [nI_cl (show k < 2147483648 by omega), nI_1, endR hL wL hk hr, othR hL wL hk hr, nI_eq (a := oth s k r) (by omega) (by omega)]
      refine ⟨fun c => next fun g => c (El_egN wL g).1, fun c => ⟨fun c2 => next fun g => c2 (El_egN wL g).2.1.symm, fun c2 => ?_⟩⟩
      have c' : isE s k r := Classical.not_not.mp c
      refine c_X8_edge hL hK wL wK hr ha hk hr ⟨fun c3 => next fun g => ?_, fun c3 => c_X8_edge hL hK wL wK hr ha hk hr ⟨vpI hf (by omega), ?_⟩⟩
      · rw [nI_le0 (by omega)] at c3
        obtain ⟨-, -, g3⟩ := El_egN wL g
        have := g.2.2.2.2.2.1
        omega
      · rw [nI_le0 (by omega)] at c3
        rw [nI_cl (show f < 2147483648 by omega), hD f hf, nI_eq (by omega) (by omega)]
        refine ⟨fun c4 => next fun g => c4 (El_egN wL g).2.2.symm, fun c4 => k1 ?_⟩
        have g := egN_El (r := r) (a := a) wL hk c' (by omega)
        rw [c2, c4] at g
        exact ⟨k, g⟩
  exact main (s 0 0) 0 (by omega) (fun l hl => absurd hl (Nat.not_lt_zero l))
