abbrev JVm (E : JE) (d : Nat) (y : JY) (K : Option Value → JS → Prop) (pc : Nat) (ls : List (Option Value)) (st : List Value) (u : JM) : Prop := JV E NC NC d y K pc ls st (NC, jRF, u)
def jI (K : Int32 → JM → Prop) : Option Value → JS → Prop := fun v g => ∃ x u, v = some (.int x) ∧ g = (NC, jRF, u) ∧ K x u
def jU (K : JM → Prop) : Option Value → JS → Prop := fun v g => ∃ u, v = none ∧ g = (NC, jRF, u) ∧ K u
def jA (K : Nat → JM → Prop) : Option Value → JS → Prop := fun v g => ∃ a u, v = some (.ref a) ∧ g = (NC, jRF, u) ∧ K a u
abbrev JVi (E : JE) (d : Nat) (y : JY) (K : Int32 → JM → Prop) (pc : Nat) (ls : List (Option Value)) (st : List Value) (u : JM) : Prop := JVm E d y (jI K) pc ls st u
abbrev JVu (E : JE) (d : Nat) (y : JY) (K : JM → Prop) (pc : Nat) (ls : List (Option Value)) (st : List Value) (u : JM) : Prop := JVm E d y (jU K) pc ls st u
abbrev JVa (E : JE) (d : Nat) (y : JY) (K : Nat → JM → Prop) (pc : Nat) (ls : List (Option Value)) (st : List Value) (u : JM) : Prop := JVm E d y (jA K) pc ls st u
def JCi (E : JE) (d : Nat) (y : JY) (as : List Value) (K : Int32 → JM → Prop) (u : JM) : Prop := JC E NC NC d y as (jI K) (NC, jRF, u)
def JCu (E : JE) (d : Nat) (y : JY) (as : List Value) (K : JM → Prop) (u : JM) : Prop := JC E NC NC d y as (jU K) (NC, jRF, u)
def JCa (E : JE) (d : Nat) (y : JY) (as : List Value) (K : Nat → JM → Prop) (u : JM) : Prop := JC E NC NC d y as (jA K) (NC, jRF, u)
theorem JCi.mono {E : JE} {d : Nat} {y : JY} {as : List Value} {K K' : Int32 → JM → Prop} {u : JM} (h : JCi E d y as K u) (hk : ∀ x u, K x u → K' x u) : JCi E d y as K' u := JC.mono h (by rintro _ _ ⟨x, u, rfl, rfl, q⟩; exact ⟨x, u, rfl, rfl, hk _ _ q⟩)
theorem JCu.mono {E : JE} {d : Nat} {y : JY} {as : List Value} {K K' : JM → Prop} {u : JM} (h : JCu E d y as K u) (hk : ∀ u, K u → K' u) : JCu E d y as K' u := JC.mono h (by rintro _ _ ⟨u, rfl, rfl, q⟩; exact ⟨u, rfl, rfl, hk _ q⟩)
theorem JCa.mono {E : JE} {d : Nat} {y : JY} {as : List Value} {K K' : Nat → JM → Prop} {u : JM} (h : JCa E d y as K u) (hk : ∀ a u, K a u → K' a u) : JCa E d y as K' u := JC.mono h (by rintro _ _ ⟨x, u, rfl, rfl, q⟩; exact ⟨x, u, rfl, rfl, hk _ _ q⟩)
theorem jcat1 {as : List Value} (h : as.all (fun v => match v with | .int _ => true | .ref _ => true | _ => false) = true) : ∀ v ∈ as, v.category = 1 := by
  intro v hv
  have := List.all_eq_true.mp h v hv
  cases v <;> first | rfl | (simp at this)
theorem JCi.ofV {E : JE} {d : Nat} {y : JY} {K : Int32 → JM → Prop} {as : List Value} {u : JM} {ls : List (Option Value)} (hy : plainFor y.1 = true) (hl : as.length ≤ y.2.2.1) (hc : as.all (fun v => match v with | .int _ => true | .ref _ => true | _ => false) = true) (hs : as.map some ++ List.replicate (y.2.2.1 - as.length) none = ls) (h : JVi E d y K 0 ls [] u) : JCi E d y as K u := by
  subst hs
  exact JC.ofV (g := (NC, jRF, u)) hy hl (jcat1 hc) h
theorem JCu.ofV {E : JE} {d : Nat} {y : JY} {K : JM → Prop} {as : List Value} {u : JM} {ls : List (Option Value)} (hy : plainFor y.1 = true) (hl : as.length ≤ y.2.2.1) (hc : as.all (fun v => match v with | .int _ => true | .ref _ => true | _ => false) = true) (hs : as.map some ++ List.replicate (y.2.2.1 - as.length) none = ls) (h : JVu E d y K 0 ls [] u) : JCu E d y as K u := by
  subst hs
  exact JC.ofV (g := (NC, jRF, u)) hy hl (jcat1 hc) h
theorem JCa.ofV {E : JE} {d : Nat} {y : JY} {K : Nat → JM → Prop} {as : List Value} {u : JM} {ls : List (Option Value)} (hy : plainFor y.1 = true) (hl : as.length ≤ y.2.2.1) (hc : as.all (fun v => match v with | .int _ => true | .ref _ => true | _ => false) = true) (hs : as.map some ++ List.replicate (y.2.2.1 - as.length) none = ls) (h : JVa E d y K 0 ls [] u) : JCa E d y as K u := by
  subst hs
  exact JC.ofV (g := (NC, jRF, u)) hy hl (jcat1 hc) h
section JMn
variable {E : JE} {d : Nat} {y : JY} {K : Option Value → JS → Prop} {pc : Nat} {ls : List (Option Value)} {st : List Value} {u : JM}
theorem jm_ireturn {x : Int32} {K : Int32 → JM → Prop} (hd : decode y.2.1 pc = .ok (.ireturn, 1)) (hr : y.2.2.2 = some .int) (hk : K x u) : JVm E d y (jI K) pc ls [.int x] u := jv_ireturn hd hr rfl ⟨x, u, rfl, rfl, hk⟩
theorem jm_zreturn {x : Int32} {K : Int32 → JM → Prop} (hd : decode y.2.1 pc = .ok (.ireturn, 1)) (hr : y.2.2.2 = some .boolean) (hx : x = 0 ∨ x = 1) (hk : K x u) : JVm E d y (jI K) pc ls [.int x] u := jv_zreturn hd hr hx rfl ⟨x, u, rfl, rfl, hk⟩
theorem jm_return {K : JM → Prop} (hd : decode y.2.1 pc = .ok (.return_, 1)) (hr : y.2.2.2 = none) (hk : K u) : JVm E d y (jU K) pc ls [] u := jv_return hd hr rfl ⟨u, rfl, rfl, hk⟩
theorem jm_areturn {a : Nat} {ty : FieldType} {K : Nat → JM → Prop} (hd : decode y.2.1 pc = .ok (.areturn, 1)) (hr : y.2.2.2 = some (.array ty)) (hk : K a u) : JVm E d y (jA K) pc ls [.ref a] u := jv_areturn hd hr rfl ⟨a, u, rfl, rfl, hk⟩
theorem jm_callVi {idx n d' a ci : Nat} {y' : JY} (as : List Value) {r : vw_C} (hw : jcV y.1.cls idx y' n) (hd : decode y.2.1 pc = .ok (.invokevirtual idx, 3)) (hn : as.length = n) (hst : (st.map fun v => v.category).sum ≤ 8)
    (hkd : jkd a = .inl ci) (hci : vwCl[ci]? = some r) (hcl : r.1 = y'.1.cls) (ha : a < NC) (hd' : d' + 1 ≤ d) (hM : JCi E d' y' (.ref a :: as) (fun x u1 => JVm E d y K (pc + 3) ls (.int x :: st) u1) u) : JVm E d y K pc ls (as.reverse ++ .ref a :: st) u :=
  jv_callV hw hd hn hst hkd hci hcl ha hd' (Nat.le_refl _) (Nat.le_refl _) (Nat.le_refl _) hM (by rintro _ _ ⟨x, u1, rfl, rfl, q⟩ _; exact q)
theorem jm_callVu {idx n d' a ci : Nat} {y' : JY} (as : List Value) {r : vw_C} (hw : jcV y.1.cls idx y' n) (hd : decode y.2.1 pc = .ok (.invokevirtual idx, 3)) (hn : as.length = n) (hst : (st.map fun v => v.category).sum ≤ 8)
    (hkd : jkd a = .inl ci) (hci : vwCl[ci]? = some r) (hcl : r.1 = y'.1.cls) (ha : a < NC) (hd' : d' + 1 ≤ d) (hM : JCu E d' y' (.ref a :: as) (fun u1 => JVm E d y K (pc + 3) ls st u1) u) : JVm E d y K pc ls (as.reverse ++ .ref a :: st) u :=
  jv_callV hw hd hn hst hkd hci hcl ha hd' (Nat.le_refl _) (Nat.le_refl _) (Nat.le_refl _) hM (by rintro _ _ ⟨u1, rfl, rfl, q⟩ _; exact q)
theorem jm_callVa {idx n d' a ci : Nat} {y' : JY} (as : List Value) {r : vw_C} (hw : jcV y.1.cls idx y' n) (hd : decode y.2.1 pc = .ok (.invokevirtual idx, 3)) (hn : as.length = n) (hst : (st.map fun v => v.category).sum ≤ 8)
    (hkd : jkd a = .inl ci) (hci : vwCl[ci]? = some r) (hcl : r.1 = y'.1.cls) (ha : a < NC) (hd' : d' + 1 ≤ d) (hM : JCa E d' y' (.ref a :: as) (fun x u1 => JVm E d y K (pc + 3) ls (.ref x :: st) u1) u) : JVm E d y K pc ls (as.reverse ++ .ref a :: st) u :=
  jv_callV hw hd hn hst hkd hci hcl ha hd' (Nat.le_refl _) (Nat.le_refl _) (Nat.le_refl _) hM (by rintro _ _ ⟨x, u1, rfl, rfl, q⟩ _; exact q)
theorem jm_callSi {idx n d' : Nat} {y' : JY} (as : List Value) (hw : jcS y.1.cls idx y' n) (hd : decode y.2.1 pc = .ok (.invokestatic idx, 3)) (hn : as.length = n) (hst : (st.map fun v => v.category).sum ≤ 8)
    (hd' : d' + 1 ≤ d) (hM : JCi E d' y' as (fun x u1 => JVm E d y K (pc + 3) ls (.int x :: st) u1) u) : JVm E d y K pc ls (as.reverse ++ st) u :=
  jv_callS hw hd hn hst hd' (Nat.le_refl _) (Nat.le_refl _) (Nat.le_refl _) hM (by rintro _ _ ⟨x, u1, rfl, rfl, q⟩ _; exact q)
theorem jm_callSu {idx n d' : Nat} {y' : JY} (as : List Value) (hw : jcS y.1.cls idx y' n) (hd : decode y.2.1 pc = .ok (.invokestatic idx, 3)) (hn : as.length = n) (hst : (st.map fun v => v.category).sum ≤ 8)
    (hd' : d' + 1 ≤ d) (hM : JCu E d' y' as (fun u1 => JVm E d y K (pc + 3) ls st u1) u) : JVm E d y K pc ls (as.reverse ++ st) u :=
  jv_callS hw hd hn hst hd' (Nat.le_refl _) (Nat.le_refl _) (Nat.le_refl _) hM (by rintro _ _ ⟨u1, rfl, rfl, q⟩ _; exact q)
theorem jm_callSNi {idx n d' : Nat} {y' : JY} {host : String} (as : List Value) (hw : jcSN y.1.cls idx y' n host) (hd : decode y.2.1 pc = .ok (.invokestatic idx, 3)) (hn : as.length = n) (hst : (st.map fun v => v.category).sum ≤ 8)
    (hd' : d' + 1 ≤ d) (hM : JCi E d' y' as (fun x u1 => JVm E d y K (pc + 3) ls (.int x :: st) u1) u) : JVm E d y K pc ls (as.reverse ++ st) u :=
  jv_callSN hw hd hn hst hd' (Nat.le_refl _) (Nat.le_refl _) (Nat.le_refl _) hM (by rintro _ _ ⟨x, u1, rfl, rfl, q⟩ _; exact q)

end JMn
