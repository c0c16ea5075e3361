section JF
variable {E : JE} {n0 nE d : Nat} {y : JY} {K : Option Value → JS → Prop} {pc : Nat} {ls : List (Option Value)} {st : List Value} {g : JS}
theorem jv_iload_n {i : Fin 4} {x : Int32} (hd : decode y.2.1 pc = .ok (.iload_n i, 1)) (hk : ls[(i : Nat)]? = some (some (.int x)))
    (k : JV E n0 nE d y K (pc + 1) ls (.int x :: st) g) : JV E n0 nE d y K pc ls st g := by
  intro p e s m args below meth c H locs A X hH hS hl
  exact lv_iload_n X.1 X.2.1 hd rfl (hl.at hk) (k p e s m args below meth c H locs A X hH hS hl)
theorem jv_iload {i : Nat} {x : Int32} (hd : decode y.2.1 pc = .ok (.iload i, 2)) (hk : ls[i]? = some (some (.int x)))
    (k : JV E n0 nE d y K (pc + 2) ls (.int x :: st) g) : JV E n0 nE d y K pc ls st g := by
  intro p e s m args below meth c H locs A X hH hS hl
  exact lv_iload X.1 X.2.1 hd (hl.at hk) (k p e s m args below meth c H locs A X hH hS hl)
theorem jv_aload_n {i : Fin 4} {x : Nat} (hd : decode y.2.1 pc = .ok (.aload_n i, 1)) (hk : ls[(i : Nat)]? = some (some (.ref x)))
    (k : JV E n0 nE d y K (pc + 1) ls (.ref x :: st) g) : JV E n0 nE d y K pc ls st g := by
  intro p e s m args below meth c H locs A X hH hS hl
  exact lv_aload_n X.1 X.2.1 hd rfl (hl.at hk) (k p e s m args below meth c H locs A X hH hS hl)
theorem jv_aload {i : Nat} {x : Nat} (hd : decode y.2.1 pc = .ok (.aload i, 2)) (hk : ls[i]? = some (some (.ref x)))
    (k : JV E n0 nE d y K (pc + 2) ls (.ref x :: st) g) : JV E n0 nE d y K pc ls st g := by
  intro p e s m args below meth c H locs A X hH hS hl
  exact lv_aload X.1 X.2.1 hd (hl.at hk) (k p e s m args below meth c H locs A X hH hS hl)
theorem jv_istore_n {i : Fin 4} {x : Int32} {ls' : List (Option Value)} (hd : decode y.2.1 pc = .ok (.istore_n i, 1)) (hi : (i : Nat) < y.2.2.1) (hs : ls.set (i : Nat) (some (.int x)) = ls')
    (k : JV E n0 nE d y K (pc + 1) ls' st g) : JV E n0 nE d y K pc ls (.int x :: st) g := by
  intro p e s m args below meth c H locs A X hH hS hl
  exact lv_istore_n X.1 X.2.1 hd rfl hl.1 hi rfl (fun A' h' => k p e s m args below meth c H locs A' X hH hS (hl.set rfl hs h'))
theorem jv_istore {i : Nat} {x : Int32} {ls' : List (Option Value)} (hd : decode y.2.1 pc = .ok (.istore i, 2)) (hi : i < y.2.2.1) (hs : ls.set i (some (.int x)) = ls')
    (k : JV E n0 nE d y K (pc + 2) ls' st g) : JV E n0 nE d y K pc ls (.int x :: st) g := by
  intro p e s m args below meth c H locs A X hH hS hl
  exact lv_istore X.1 X.2.1 hd hl.1 hi rfl (fun A' h' => k p e s m args below meth c H locs A' X hH hS (hl.set rfl hs h'))
theorem jv_astore_n {i : Fin 4} {x : Nat} {ls' : List (Option Value)} (hd : decode y.2.1 pc = .ok (.astore_n i, 1)) (hi : (i : Nat) < y.2.2.1) (hs : ls.set (i : Nat) (some (.ref x)) = ls')
    (k : JV E n0 nE d y K (pc + 1) ls' st g) : JV E n0 nE d y K pc ls (.ref x :: st) g := by
  intro p e s m args below meth c H locs A X hH hS hl
  exact lv_astore_n X.1 X.2.1 hd rfl hl.1 hi rfl (fun A' h' => k p e s m args below meth c H locs A' X hH hS (hl.set rfl hs h'))
theorem jv_astore {i : Nat} {x : Nat} {ls' : List (Option Value)} (hd : decode y.2.1 pc = .ok (.astore i, 2)) (hi : i < y.2.2.1) (hs : ls.set i (some (.ref x)) = ls')
    (k : JV E n0 nE d y K (pc + 2) ls' st g) : JV E n0 nE d y K pc ls (.ref x :: st) g := by
  intro p e s m args below meth c H locs A X hH hS hl
  exact lv_astore X.1 X.2.1 hd hl.1 hi rfl (fun A' h' => k p e s m args below meth c H locs A' X hH hS (hl.set rfl hs h'))
theorem jv_iinc {i : Nat} {n : Int} {x v : Int32} {ls' : List (Option Value)} (hd : decode y.2.1 pc = .ok (.iinc i n, 3)) (hi : i < y.2.2.1) (hk : ls[i]? = some (some (.int x))) (hv : x + Int32.ofInt n = v) (hs : ls.set i (some (.int v)) = ls')
    (k : JV E n0 nE d y K (pc + 3) ls' st g) : JV E n0 nE d y K pc ls st g := by
  intro p e s m args below meth c H locs A X hH hS hl
  obtain ⟨q, hq⟩ := List.getElem?_of_mem (jll_mem.mpr ⟨i, .int x, hk, rfl⟩ : (0 + i, jrl E.2.1 (.int x)) ∈ jll E.2.1 0 ls)
  rw [Nat.zero_add] at hq
  exact lv_iinc X.1 X.2.1 hd hl.1 hq hv hi rfl (fun A' h' => k p e s m args below meth c H locs A' X hH hS (hl.set rfl hs h'))
theorem jv_iconst {n : Int} {v : Int32} (hd : decode y.2.1 pc = .ok (.iconst n, 1)) (hv : Int32.ofInt n = v)
    (k : JV E n0 nE d y K (pc + 1) ls (.int v :: st) g) : JV E n0 nE d y K pc ls st g := by
  intro p e s m args below meth c H locs A X hH hS hl
  exact lv_iconst X.1 X.2.1 hd hv (k p e s m args below meth c H locs A X hH hS hl)
theorem jv_bipush {n : Int} {v : Int32} (hd : decode y.2.1 pc = .ok (.bipush n, 2)) (hv : (Int8.ofInt n).toInt32 = v)
    (k : JV E n0 nE d y K (pc + 2) ls (.int v :: st) g) : JV E n0 nE d y K pc ls st g := by
  intro p e s m args below meth c H locs A X hH hS hl
  exact lv_bipush X.1 X.2.1 hd hv (k p e s m args below meth c H locs A X hH hS hl)
theorem jv_sipush {n : Int} {v : Int32} (hd : decode y.2.1 pc = .ok (.sipush n, 3)) (hv : (Int16.ofInt n).toInt32 = v)
    (k : JV E n0 nE d y K (pc + 3) ls (.int v :: st) g) : JV E n0 nE d y K pc ls st g := by
  intro p e s m args below meth c H locs A X hH hS hl
  exact lv_sipush X.1 X.2.1 hd hv (k p e s m args below meth c H locs A X hH hS hl)
theorem jv_iadd {x z : Int32} (hd : decode y.2.1 pc = .ok (.iadd, 1))
    (k : JV E n0 nE d y K (pc + 1) ls (.int (x + z) :: st) g) : JV E n0 nE d y K pc ls (.int z :: .int x :: st) g := by
  intro p e s m args below meth c H locs A X hH hS hl
  exact lv_iadd X.1 X.2.1 hd (k p e s m args below meth c H locs A X hH hS hl)
theorem jv_isub {x z : Int32} (hd : decode y.2.1 pc = .ok (.isub, 1))
    (k : JV E n0 nE d y K (pc + 1) ls (.int (x - z) :: st) g) : JV E n0 nE d y K pc ls (.int z :: .int x :: st) g := by
  intro p e s m args below meth c H locs A X hH hS hl
  exact lv_isub X.1 X.2.1 hd (k p e s m args below meth c H locs A X hH hS hl)
theorem jv_imul {x z : Int32} (hd : decode y.2.1 pc = .ok (.imul, 1))
    (k : JV E n0 nE d y K (pc + 1) ls (.int (x * z) :: st) g) : JV E n0 nE d y K pc ls (.int z :: .int x :: st) g := by
  intro p e s m args below meth c H locs A X hH hS hl
  exact lv_imul X.1 X.2.1 hd (k p e s m args below meth c H locs A X hH hS hl)
theorem jv_iand {x z : Int32} (hd : decode y.2.1 pc = .ok (.iand, 1))
    (k : JV E n0 nE d y K (pc + 1) ls (.int (x &&& z) :: st) g) : JV E n0 nE d y K pc ls (.int z :: .int x :: st) g := by
  intro p e s m args below meth c H locs A X hH hS hl
  exact lv_iand X.1 X.2.1 hd (k p e s m args below meth c H locs A X hH hS hl)
theorem jv_ior {x z : Int32} (hd : decode y.2.1 pc = .ok (.ior, 1))
    (k : JV E n0 nE d y K (pc + 1) ls (.int (x ||| z) :: st) g) : JV E n0 nE d y K pc ls (.int z :: .int x :: st) g := by
  intro p e s m args below meth c H locs A X hH hS hl
  exact lv_ior X.1 X.2.1 hd (k p e s m args below meth c H locs A X hH hS hl)
theorem jv_ishl {x z : Int32} (hd : decode y.2.1 pc = .ok (.ishl, 1))
    (k : JV E n0 nE d y K (pc + 1) ls (.int (x <<< (z &&& 31)) :: st) g) : JV E n0 nE d y K pc ls (.int z :: .int x :: st) g := by
  intro p e s m args below meth c H locs A X hH hS hl
  exact lv_ishl X.1 X.2.1 hd (k p e s m args below meth c H locs A X hH hS hl)
theorem jv_ishr {x z : Int32} (hd : decode y.2.1 pc = .ok (.ishr, 1))
    (k : JV E n0 nE d y K (pc + 1) ls (.int (x >>> (z &&& 31)) :: st) g) : JV E n0 nE d y K pc ls (.int z :: .int x :: st) g := by
  intro p e s m args below meth c H locs A X hH hS hl
  exact lv_ishr X.1 X.2.1 hd (k p e s m args below meth c H locs A X hH hS hl)
theorem jv_iushr {x z : Int32} (hd : decode y.2.1 pc = .ok (.iushr, 1))
    (k : JV E n0 nE d y K (pc + 1) ls (.int (x.toUInt32 >>> (z.toUInt32 &&& Int32.toUInt32 31)).toInt32 :: st) g) : JV E n0 nE d y K pc ls (.int z :: .int x :: st) g := by
  intro p e s m args below meth c H locs A X hH hS hl
  exact lv_iushr X.1 X.2.1 hd rfl (k p e s m args below meth c H locs A X hH hS hl)
theorem jv_idiv {x z : Int32} (hd : decode y.2.1 pc = .ok (.idiv, 1)) (hz : ¬ z = 0)
    (k : JV E n0 nE d y K (pc + 1) ls (.int (x / z) :: st) g) : JV E n0 nE d y K pc ls (.int z :: .int x :: st) g := by
  intro p e s m args below meth c H locs A X hH hS hl
  exact lv_idiv X.1 X.2.1 hd hz (k p e s m args below meth c H locs A X hH hS hl)
theorem jv_irem {x z : Int32} (hd : decode y.2.1 pc = .ok (.irem, 1)) (hz : ¬ z = 0)
    (k : JV E n0 nE d y K (pc + 1) ls (.int (x - x / z * z) :: st) g) : JV E n0 nE d y K pc ls (.int z :: .int x :: st) g := by
  intro p e s m args below meth c H locs A X hH hS hl
  exact lv_irem X.1 X.2.1 hd hz (k p e s m args below meth c H locs A X hH hS hl)
theorem jv_i2s {x : Int32} (hd : decode y.2.1 pc = .ok (.i2s, 1))
    (k : JV E n0 nE d y K (pc + 1) ls (.int x.toInt16.toInt32 :: st) g) : JV E n0 nE d y K pc ls (.int x :: st) g := by
  intro p e s m args below meth c H locs A X hH hS hl
  exact lv_i2s X.1 X.2.1 hd rfl (k p e s m args below meth c H locs A X hH hS hl)
theorem jv_dup {v : Value} (hd : decode y.2.1 pc = .ok (.dup, 1)) (hv : v.category = 1)
    (k : JV E n0 nE d y K (pc + 1) ls (v :: v :: st) g) : JV E n0 nE d y K pc ls (v :: st) g := by
  intro p e s m args below meth c H locs A X hH hS hl
  exact lv_dup X.1 X.2.1 hd ((jrl_cat _ _).trans hv) (k p e s m args below meth c H locs A X hH hS hl)
theorem jv_dup2 {v w : Value} (hd : decode y.2.1 pc = .ok (.dup2, 1)) (hv : v.category = 1) (hw : w.category = 1)
    (k : JV E n0 nE d y K (pc + 1) ls (v :: w :: v :: w :: st) g) : JV E n0 nE d y K pc ls (v :: w :: st) g := by
  intro p e s m args below meth c H locs A X hH hS hl
  exact lv_dup2_11 X.1 X.2.1 hd ((jrl_cat _ _).trans hv) ((jrl_cat _ _).trans hw) (k p e s m args below meth c H locs A X hH hS hl)
theorem jv_pop {v : Value} (hd : decode y.2.1 pc = .ok (.pop, 1)) (hv : v.category = 1)
    (k : JV E n0 nE d y K (pc + 1) ls st g) : JV E n0 nE d y K pc ls (v :: st) g := by
  intro p e s m args below meth c H locs A X hH hS hl
  exact lv_pop X.1 X.2.1 hd ((jrl_cat _ _).trans hv) (k p e s m args below meth c H locs A X hH hS hl)
theorem jv_goto {off : Int} {t : Nat} (hd : decode y.2.1 pc = .ok (.goto off, 3)) (ht : (pc : Int) + off = (t : Int))
    (k : JV E n0 nE d y K (t) ls st g) : JV E n0 nE d y K pc ls st g := by
  intro p e s m args below meth c H locs A X hH hS hl
  exact lv_goto X.1 X.2.1 hd ht (k p e s m args below meth c H locs A X hH hS hl)
theorem jv_if_eq {x : Int32} {off : Int} {t : Nat} (hd : decode y.2.1 pc = .ok (.ifCond .eq off, 3)) (ht : (pc : Int) + off = (t : Int))
    (kt : x = 0 → JV E n0 nE d y K t ls st g) (kf : ¬ x = 0 → JV E n0 nE d y K (pc + 3) ls st g) : JV E n0 nE d y K pc ls (.int x :: st) g := by
  intro p e s m args below meth c H locs A X hH hS hl
  exact lv_if_eq X.1 X.2.1 hd ht (fun q => kt q p e s m args below meth c H locs A X hH hS hl) (fun q => kf q p e s m args below meth c H locs A X hH hS hl)
theorem jv_if_ne {x : Int32} {off : Int} {t : Nat} (hd : decode y.2.1 pc = .ok (.ifCond .ne off, 3)) (ht : (pc : Int) + off = (t : Int))
    (kt : ¬ x = 0 → JV E n0 nE d y K t ls st g) (kf : x = 0 → JV E n0 nE d y K (pc + 3) ls st g) : JV E n0 nE d y K pc ls (.int x :: st) g := by
  intro p e s m args below meth c H locs A X hH hS hl
  exact lv_if_ne X.1 X.2.1 hd ht (fun q => kt q p e s m args below meth c H locs A X hH hS hl) (fun q => kf q p e s m args below meth c H locs A X hH hS hl)
theorem jv_if_lt {x : Int32} {off : Int} {t : Nat} (hd : decode y.2.1 pc = .ok (.ifCond .lt off, 3)) (ht : (pc : Int) + off = (t : Int))
    (kt : x < 0 → JV E n0 nE d y K t ls st g) (kf : ¬ x < 0 → JV E n0 nE d y K (pc + 3) ls st g) : JV E n0 nE d y K pc ls (.int x :: st) g := by
  intro p e s m args below meth c H locs A X hH hS hl
  exact lv_if_lt X.1 X.2.1 hd ht (fun q => kt q p e s m args below meth c H locs A X hH hS hl) (fun q => kf q p e s m args below meth c H locs A X hH hS hl)
theorem jv_if_ge {x : Int32} {off : Int} {t : Nat} (hd : decode y.2.1 pc = .ok (.ifCond .ge off, 3)) (ht : (pc : Int) + off = (t : Int))
    (kt : 0 ≤ x → JV E n0 nE d y K t ls st g) (kf : ¬ 0 ≤ x → JV E n0 nE d y K (pc + 3) ls st g) : JV E n0 nE d y K pc ls (.int x :: st) g := by
  intro p e s m args below meth c H locs A X hH hS hl
  exact lv_if_ge X.1 X.2.1 hd ht (fun q => kt q p e s m args below meth c H locs A X hH hS hl) (fun q => kf q p e s m args below meth c H locs A X hH hS hl)
theorem jv_if_gt {x : Int32} {off : Int} {t : Nat} (hd : decode y.2.1 pc = .ok (.ifCond .gt off, 3)) (ht : (pc : Int) + off = (t : Int))
    (kt : 0 < x → JV E n0 nE d y K t ls st g) (kf : ¬ 0 < x → JV E n0 nE d y K (pc + 3) ls st g) : JV E n0 nE d y K pc ls (.int x :: st) g := by
  intro p e s m args below meth c H locs A X hH hS hl
  exact lv_if_gt X.1 X.2.1 hd ht (fun q => kt q p e s m args below meth c H locs A X hH hS hl) (fun q => kf q p e s m args below meth c H locs A X hH hS hl)
theorem jv_if_le {x : Int32} {off : Int} {t : Nat} (hd : decode y.2.1 pc = .ok (.ifCond .le off, 3)) (ht : (pc : Int) + off = (t : Int))
    (kt : x ≤ 0 → JV E n0 nE d y K t ls st g) (kf : ¬ x ≤ 0 → JV E n0 nE d y K (pc + 3) ls st g) : JV E n0 nE d y K pc ls (.int x :: st) g := by
  intro p e s m args below meth c H locs A X hH hS hl
  exact lv_if_le X.1 X.2.1 hd ht (fun q => kt q p e s m args below meth c H locs A X hH hS hl) (fun q => kf q p e s m args below meth c H locs A X hH hS hl)
theorem jv_icmp_eq {x z : Int32} {off : Int} {t : Nat} (hd : decode y.2.1 pc = .ok (.if_icmp .eq off, 3)) (ht : (pc : Int) + off = (t : Int))
    (kt : x = z → JV E n0 nE d y K t ls st g) (kf : ¬ x = z → JV E n0 nE d y K (pc + 3) ls st g) : JV E n0 nE d y K pc ls (.int z :: .int x :: st) g := by
  intro p e s m args below meth c H locs A X hH hS hl
  exact lv_icmp_eq X.1 X.2.1 hd ht (fun q => kt q p e s m args below meth c H locs A X hH hS hl) (fun q => kf q p e s m args below meth c H locs A X hH hS hl)
theorem jv_icmp_ne {x z : Int32} {off : Int} {t : Nat} (hd : decode y.2.1 pc = .ok (.if_icmp .ne off, 3)) (ht : (pc : Int) + off = (t : Int))
    (kt : ¬ x = z → JV E n0 nE d y K t ls st g) (kf : x = z → JV E n0 nE d y K (pc + 3) ls st g) : JV E n0 nE d y K pc ls (.int z :: .int x :: st) g := by
  intro p e s m args below meth c H locs A X hH hS hl
  exact lv_icmp_ne X.1 X.2.1 hd ht (fun q => kt q p e s m args below meth c H locs A X hH hS hl) (fun q => kf q p e s m args below meth c H locs A X hH hS hl)
theorem jv_icmp_lt {x z : Int32} {off : Int} {t : Nat} (hd : decode y.2.1 pc = .ok (.if_icmp .lt off, 3)) (ht : (pc : Int) + off = (t : Int))
    (kt : x < z → JV E n0 nE d y K t ls st g) (kf : ¬ x < z → JV E n0 nE d y K (pc + 3) ls st g) : JV E n0 nE d y K pc ls (.int z :: .int x :: st) g := by
  intro p e s m args below meth c H locs A X hH hS hl
  exact lv_icmp_lt X.1 X.2.1 hd ht (fun q => kt q p e s m args below meth c H locs A X hH hS hl) (fun q => kf q p e s m args below meth c H locs A X hH hS hl)
theorem jv_icmp_ge {x z : Int32} {off : Int} {t : Nat} (hd : decode y.2.1 pc = .ok (.if_icmp .ge off, 3)) (ht : (pc : Int) + off = (t : Int))
    (kt : z ≤ x → JV E n0 nE d y K t ls st g) (kf : ¬ z ≤ x → JV E n0 nE d y K (pc + 3) ls st g) : JV E n0 nE d y K pc ls (.int z :: .int x :: st) g := by
  intro p e s m args below meth c H locs A X hH hS hl
  exact lv_icmp_ge X.1 X.2.1 hd ht (fun q => kt q p e s m args below meth c H locs A X hH hS hl) (fun q => kf q p e s m args below meth c H locs A X hH hS hl)
theorem jv_icmp_gt {x z : Int32} {off : Int} {t : Nat} (hd : decode y.2.1 pc = .ok (.if_icmp .gt off, 3)) (ht : (pc : Int) + off = (t : Int))
    (kt : z < x → JV E n0 nE d y K t ls st g) (kf : ¬ z < x → JV E n0 nE d y K (pc + 3) ls st g) : JV E n0 nE d y K pc ls (.int z :: .int x :: st) g := by
  intro p e s m args below meth c H locs A X hH hS hl
  exact lv_icmp_gt X.1 X.2.1 hd ht (fun q => kt q p e s m args below meth c H locs A X hH hS hl) (fun q => kf q p e s m args below meth c H locs A X hH hS hl)
theorem jv_icmp_le {x z : Int32} {off : Int} {t : Nat} (hd : decode y.2.1 pc = .ok (.if_icmp .le off, 3)) (ht : (pc : Int) + off = (t : Int))
    (kt : x ≤ z → JV E n0 nE d y K t ls st g) (kf : ¬ x ≤ z → JV E n0 nE d y K (pc + 3) ls st g) : JV E n0 nE d y K pc ls (.int z :: .int x :: st) g := by
  intro p e s m args below meth c H locs A X hH hS hl
  exact lv_icmp_le X.1 X.2.1 hd ht (fun q => kt q p e s m args below meth c H locs A X hH hS hl) (fun q => kf q p e s m args below meth c H locs A X hH hS hl)
theorem jv_tableOut {dflt lo hi : Int} {offs : Array Int} {len t : Nat} {x : Int32} (hd : decode y.2.1 pc = .ok (.tableswitch dflt lo hi offs, len)) (h : x.toInt < lo ∨ hi < x.toInt) (ht : (pc : Int) + dflt = (t : Int))
    (k : JV E n0 nE d y K (t) ls st g) : JV E n0 nE d y K pc ls (.int x :: st) g := by
  intro p e s m args below meth c H locs A X hH hS hl
  exact lv_tableOut X.1 X.2.1 hd h ht (k p e s m args below meth c H locs A X hH hS hl)
theorem jv_tableIn {dflt lo hi off : Int} {offs : Array Int} {len t : Nat} {x : Int32} (hd : decode y.2.1 pc = .ok (.tableswitch dflt lo hi offs, len)) (h1 : ¬ x.toInt < lo) (h2 : ¬ hi < x.toInt) (ho : offs[(x.toInt - lo).toNat]? = some off) (ht : (pc : Int) + off = (t : Int))
    (k : JV E n0 nE d y K (t) ls st g) : JV E n0 nE d y K pc ls (.int x :: st) g := by
  intro p e s m args below meth c H locs A X hH hS hl
  exact lv_tableIn X.1 X.2.1 hd h1 h2 ho ht (k p e s m args below meth c H locs A X hH hS hl)
theorem jv_lookup {dflt off : Int} {ps : Array (Int × Int)} {len t : Nat} {x : Int32} (hd : decode y.2.1 pc = .ok (.lookupswitch dflt ps, len)) (hp : (ps.toList.zip (ps.toList.drop 1)).all (fun (a, next) => a.1 < next.1) = true) (ho : Op.lookupswitch.offset ps.toList dflt x.toInt = off) (ht : (pc : Int) + off = (t : Int))
    (k : JV E n0 nE d y K (t) ls st g) : JV E n0 nE d y K pc ls (.int x :: st) g := by
  intro p e s m args below meth c H locs A X hH hS hl
  exact lv_lookup X.1 X.2.1 hd hp ho ht (k p e s m args below meth c H locs A X hH hS hl)
theorem jv_ldcw {index : Nat} {v : Int32} (hc : Cond.constant y.1.cls index v ∈ lw_gd) (hd : decode y.2.1 pc = .ok (.ldc_w index, 3))
    (k : JV E n0 nE d y K (pc + 3) ls (.int v :: st) g) : JV E n0 nE d y K pc ls st g := by
  intro p e s m args below meth c H locs A X hH hS hl
  exact lv_ldcw X.1 X.2.1 X.2.2.2.2.2.1 (X.2.2.2.2.2.2.2.1 _ (List.mem_cons_of_mem _ hc)) hd (k p e s m args below meth c H locs A X hH hS hl)
theorem jv_ldc {index : Nat} {v : Int32} (hc : Cond.constant y.1.cls index v ∈ lw_gd) (hd : decode y.2.1 pc = .ok (.ldc index, 2))
    (k : JV E n0 nE d y K (pc + 2) ls (.int v :: st) g) : JV E n0 nE d y K pc ls st g := by
  intro p e s m args below meth c H locs A X hH hS hl
  exact lv_ldc X.1 X.2.1 X.2.2.2.2.2.1 (X.2.2.2.2.2.2.2.1 _ (List.mem_cons_of_mem _ hc)) hd (k p e s m args below meth c H locs A X hH hS hl)
theorem jQ.of {H : Heap} {s t : State} {args : Array Value} {locs : List Loc} {v : Option Value} (hk : K v g) (hn : g.1 = nE) (hc : ∀ w, v = some w → w.category = 1) (hH : JH E g H) (hS : va_S (jFr E) s.heap H locs) (ht : t.heap = H) : jQ E nE K args s (.returned (v.map (jrl E.2.1))) t :=
  ⟨⟨v, g, rfl, hk, hn, hc, by rw [ht]; exact hH⟩, hS.F ht⟩
theorem jv_ireturn {x : Int32} (hd : decode y.2.1 pc = .ok (.ireturn, 1)) (hr : y.2.2.2 = some .int) (hn : g.1 = nE) (hk : K (some (.int x)) g) : JV E n0 nE d y K pc ls [.int x] g := by
  intro p e s m args below meth c H locs A X hH hS hl
  rw [hn]
  exact W.iret X.1 X.2.1 (X.2.2.2.1.trans hr) (fun t ht hW => jQ.of (v := some (.int x)) hk hn (fun w h => by cases h; rfl) hH hS ht) hS.2.2 hd X.2.2.2.2.1
theorem jv_zreturn {x : Int32} (hd : decode y.2.1 pc = .ok (.ireturn, 1)) (hr : y.2.2.2 = some .boolean) (hx : x = 0 ∨ x = 1) (hn : g.1 = nE) (hk : K (some (.int x)) g) : JV E n0 nE d y K pc ls [.int x] g := by
  intro p e s m args below meth c H locs A X hH hS hl
  rw [hn]
  exact W.zret X.1 X.2.1 (X.2.2.2.1.trans hr) (by rcases hx with rfl | rfl <;> rfl) (fun t ht hW => jQ.of (v := some (.int x)) hk hn (fun w h => by cases h; rfl) hH hS ht) hS.2.2 hd X.2.2.2.2.1
theorem jv_areturn {a : Nat} {ty : FieldType} (hd : decode y.2.1 pc = .ok (.areturn, 1)) (hr : y.2.2.2 = some (.array ty)) (hn : g.1 = nE) (hk : K (some (.ref a)) g) : JV E n0 nE d y K pc ls [.ref a] g := by
  intro p e s m args below meth c H locs A X hH hS hl
  rw [hn]
  exact W.aret X.1 X.2.1 (X.2.2.2.1.trans hr) (Or.inr ⟨_, rfl⟩) (Or.inr ⟨_, rfl⟩) (fun t ht hW => jQ.of (v := some (.ref a)) hk hn (fun w h => by cases h; rfl) hH hS ht) hS.2.2 hd X.2.2.2.2.1
theorem jv_return (hd : decode y.2.1 pc = .ok (.return_, 1)) (hr : y.2.2.2 = none) (hn : g.1 = nE) (hk : K none g) : JV E n0 nE d y K pc ls [] g := by
  intro p e s m args below meth c H locs A X hH hS hl
  rw [hn]
  exact W.vret X.1 X.2.1 (X.2.2.2.1.trans hr) (fun t ht hW => jQ.of (v := none) hk hn (fun w h => by cases h) hH hS ht) hS.2.2 hd X.2.2.2.2.1
end JF
