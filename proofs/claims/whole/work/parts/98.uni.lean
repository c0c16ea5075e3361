/-! each call, in one form -/
theorem scr_inC {u u' : JM} (h : same u u' scr) : same u u' inC := h.mono fun b q => by unfold scr at q; unfold inC; omega
theorem U7_link {E : JE} {u : JM} {w : Wd} {T : Nat} {a1 a2 a3 a4 a5 : Int32} (c : CW w u) (v : WV w T) (hT : w.1 21 0 + 90 < 1000000000) : JCi E 2 YX7_link [.ref 0, .int a1, .int a2, .int a3, .int a4, .int a5] (fun x u' => x = anLink w a1 a2 a3 a4 a5 ∧ same u u' inC ∧ CW (nxLink w a1 a2 a3 a4 a5) u') u :=
  c_X7_link c v.1.1.1.1 (fun u' h1 h2 => ⟨rfl, h1, h2⟩)
theorem U8_link {E : JE} {u : JM} {w : Wd} {T : Nat} {a1 a2 a3 a4 a5 : Int32} (c : XW w u) (v : WV w T) (hT : w.1 21 0 + 90 < 1000000000) : JCi E 3 YX8_link [.ref 137, .int a1, .int a2, .int a3, .int a4, .int a5] (fun x u' => x = anLink w a1 a2 a3 a4 a5 ∧ up u u' ∧ XW (nxLink w a1 a2 a3 a4 a5) u') u :=
  c_X8_link c v.1.1 (fun u' h1 h2 => ⟨rfl, h1, h2⟩)
theorem WU_link {w : Wd} {T : Nat} (a1 a2 a3 a4 a5 : Int32) (v : WV w T) (hT : T + 90 < 1000000000) : WV (nxLink w a1 a2 a3 a4 a5) (T + 80) := (WV_link v a1 a2 a3 a4 a5).mono (by omega)
theorem U7_set {E : JE} {u : JM} {w : Wd} {T : Nat} {a1 a2 : Int32} (c : CW w u) (v : WV w T) (hT : w.1 21 0 + 90 < 1000000000) : JCi E 2 YX7_set [.ref 0, .int a1, .int a2] (fun x u' => x = anSet w a1 a2 ∧ same u u' inC ∧ CW (nxSet w a1 a2) u') u :=
  c_X7_set c v.1.1.1 (fun u' h1 h2 => ⟨rfl, h1, h2⟩)
theorem U8_set {E : JE} {u : JM} {w : Wd} {T : Nat} {a1 a2 : Int32} (c : XW w u) (v : WV w T) (hT : w.1 21 0 + 90 < 1000000000) : JCi E 3 YX8_set [.ref 137, .int a1, .int a2] (fun x u' => x = anSet w a1 a2 ∧ up u u' ∧ XW (nxSet w a1 a2) u') u :=
  c_X8_set c v.1.1.1 (fun u' h1 h2 => ⟨rfl, h1, h2⟩)
theorem WU_set {w : Wd} {T : Nat} (a1 a2 : Int32) (v : WV w T) (hT : T + 90 < 1000000000) : WV (nxSet w a1 a2) (T + 80) := (WV_set v a1 a2).mono (by omega)
theorem U7_cost {E : JE} {u : JM} {w : Wd} {T : Nat} {a1 a2 a3 : Int32} (c : CW w u) (v : WV w T) (hT : w.1 21 0 + 90 < 1000000000) : JCi E 2 YX7_cost [.ref 0, .int a1, .int a2, .int a3] (fun x u' => x = anCost w a1 a2 a3 ∧ same u u' inC ∧ CW (nxCost w a1 a2 a3) u') u :=
  c_X7_cost c v.1.1.1 (fun u' h1 h2 => ⟨rfl, h1, h2⟩)
theorem U8_cost {E : JE} {u : JM} {w : Wd} {T : Nat} {a1 a2 a3 : Int32} (c : XW w u) (v : WV w T) (hT : w.1 21 0 + 90 < 1000000000) : JCi E 3 YX8_cost [.ref 137, .int a1, .int a2, .int a3] (fun x u' => x = anCost w a1 a2 a3 ∧ up u u' ∧ XW (nxCost w a1 a2 a3) u') u :=
  c_X8_cost c v.1.1.1 (fun u' h1 h2 => ⟨rfl, h1, h2⟩)
theorem WU_cost {w : Wd} {T : Nat} (a1 a2 a3 : Int32) (v : WV w T) (hT : T + 90 < 1000000000) : WV (nxCost w a1 a2 a3) (T + 80) := (WV_cost v a1 a2 a3).mono (by omega)
theorem U7_told {E : JE} {u : JM} {w : Wd} {T : Nat} {a1 a2 : Int32} (c : CW w u) (v : WV w T) (hT : w.1 21 0 + 90 < 1000000000) : JCi E 2 YX7_told [.ref 0, .int a1, .int a2] (fun x u' => x = anTold w a1 a2 ∧ same u u' inC ∧ CW w u') u :=
  c_X7_told c v.1.1.1 ⟨rfl, same.rfl, c⟩
theorem U8_told {E : JE} {u : JM} {w : Wd} {T : Nat} {a1 a2 : Int32} (c : XW w u) (v : WV w T) (hT : w.1 21 0 + 90 < 1000000000) : JCi E 3 YX8_told [.ref 137, .int a1, .int a2] (fun x u' => x = anTold w a1 a2 ∧ up u u' ∧ XW w u') u :=
  c_X8_told c v.1.1.1 ⟨rfl, up.rfl, c⟩
theorem WU_told {w : Wd} {T : Nat} (a1 a2 : Int32) (v : WV w T) (hT : T + 90 < 1000000000) : WV w (T + 80) := (v).mono (by omega)
theorem U7_router {E : JE} {u : JM} {w : Wd} {T : Nat} {a1 a2 : Int32} (c : CW w u) (v : WV w T) (hT : w.1 21 0 + 90 < 1000000000) : JCi E 4 YX7_router [.ref 0, .int a1, .int a2] (fun x u' => x = anRouter w.1 a1 a2 ∧ same u u' inC ∧ CW w u') u :=
  c_X7_router c.1 v.1.1.1 v.1.1.2.1 ⟨rfl, same.rfl, c⟩
theorem U8_router {E : JE} {u : JM} {w : Wd} {T : Nat} {a1 a2 : Int32} (c : XW w u) (v : WV w T) (hT : w.1 21 0 + 90 < 1000000000) : JCi E 4 YX8_router [.ref 137, .int a1, .int a2] (fun x u' => x = anRouter w.1 a1 a2 ∧ up u u' ∧ XW w u') u :=
  c_X8_router c v.1.1 ⟨rfl, up.rfl, c⟩
theorem WU_router {w : Wd} {T : Nat} (a1 a2 : Int32) (v : WV w T) (hT : T + 90 < 1000000000) : WV w (T + 80) := (v).mono (by omega)
theorem U7_taken {E : JE} {u : JM} {w : Wd} {T : Nat} {a1 a2 : Int32} (c : CW w u) (v : WV w T) (hT : w.1 21 0 + 90 < 1000000000) : JCi E 3 YX7_taken [.ref 0, .int a1, .int a2] (fun x u' => x = anTaken w.1 a1 a2 ∧ same u u' inC ∧ CW w u') u :=
  c_X7_taken c.1 v.1.1.1 ⟨rfl, same.rfl, c⟩
theorem U8_taken {E : JE} {u : JM} {w : Wd} {T : Nat} {a1 a2 : Int32} (c : XW w u) (v : WV w T) (hT : w.1 21 0 + 90 < 1000000000) : JCi E 4 YX8_taken [.ref 137, .int a1, .int a2] (fun x u' => x = anTaken w.1 a1 a2 ∧ up u u' ∧ XW w u') u :=
  c_X8_taken c v.1.1 ⟨rfl, up.rfl, c⟩
theorem WU_taken {w : Wd} {T : Nat} (a1 a2 : Int32) (v : WV w T) (hT : T + 90 < 1000000000) : WV w (T + 80) := (v).mono (by omega)
theorem U7_tick {E : JE} {u : JM} {w : Wd} {T : Nat} (c : CW w u) (v : WV w T) (hT : w.1 21 0 + 90 < 1000000000) : JCi E 7 YX7_tick [.ref 0] (fun x u' => x = anTicks w.1 1 ∧ same u u' inC ∧ CW (ticksS w.1 1, w.2) u') u :=
  c_X7_tick (T := 0) c v.1.1 hT (fun u' h1 h2 => ⟨rfl, h1, h2⟩)
theorem U8_tick {E : JE} {u : JM} {w : Wd} {T : Nat} (c : XW w u) (v : WV w T) (hT : w.1 21 0 + 90 < 1000000000) : JCi E 9 YX8_tick [.ref 137] (fun x u' => x = anTicks w.1 1 ∧ up u u' ∧ XW (ticksS w.1 1, w.2) u') u :=
  c_X8_tick c v.1.1 hT (fun u' h1 h2 => ⟨rfl, h1, h2⟩)
theorem WU_tick {w : Wd} {T : Nat} (v : WV w T) (hT : T + 90 < 1000000000) : WV (ticksS w.1 1, w.2) (T + 80) := WV_ticks v (by omega) hT
theorem U7_ticks {E : JE} {u : JM} {w : Wd} {T : Nat} {a1 : Int32} (c : CW w u) (v : WV w T) (hT : w.1 21 0 + 90 < 1000000000) : JCi E 7 YX7_ticks [.ref 0, .int a1] (fun x u' => x = anTks w.1 a1 ∧ same u u' inC ∧ CW (nxTks w a1) u') u :=
  c_X7_ticks c v.1.1 hT (fun u' h1 h2 => ⟨rfl, h1, h2⟩)
theorem U8_ticks {E : JE} {u : JM} {w : Wd} {T : Nat} {a1 : Int32} (c : XW w u) (v : WV w T) (hT : w.1 21 0 + 90 < 1000000000) : JCi E 9 YX8_ticks [.ref 137, .int a1] (fun x u' => x = anTks w.1 a1 ∧ up u u' ∧ XW (nxTks w a1) u') u :=
  c_X8_ticks c v.1.1 hT (fun u' h1 h2 => ⟨rfl, h1, h2⟩)
theorem WU_ticks {w : Wd} {T : Nat} (a1 : Int32) (v : WV w T) (hT : T + 90 < 1000000000) : WV (nxTks w a1) (T + 80) := WV_tks v hT a1
theorem U7_advert {E : JE} {u : JM} {w : Wd} {T : Nat} {a1 a2 a3 a4 : Int32} (c : CW w u) (v : WV w T) (hT : w.1 21 0 + 90 < 1000000000) : JCi E 2 YX7_advert [.ref 0, .int a1, .int a2, .int a3, .int a4] (fun x u' => x = anAdvert w.1 a1 a2 a3 a4 ∧ same u u' inC ∧ CW w u') u :=
  c_X7_advert c.1 v.1.1.2.1 ⟨rfl, same.rfl, c⟩
theorem U8_advert {E : JE} {u : JM} {w : Wd} {T : Nat} {a1 a2 a3 a4 : Int32} (c : XW w u) (v : WV w T) (hT : w.1 21 0 + 90 < 1000000000) : JCi E 3 YX8_advert [.ref 137, .int a1, .int a2, .int a3, .int a4] (fun x u' => x = anAdvert w.1 a1 a2 a3 a4 ∧ up u u' ∧ XW w u') u :=
  c_X8_advert c v.1.1 ⟨rfl, up.rfl, c⟩
theorem WU_advert {w : Wd} {T : Nat} (a1 a2 a3 a4 : Int32) (v : WV w T) (hT : T + 90 < 1000000000) : WV w (T + 80) := (v).mono (by omega)
theorem U7_message {E : JE} {u : JM} {w : Wd} {T : Nat} {a1 a2 : Int32} (c : CW w u) (v : WV w T) (hT : w.1 21 0 + 90 < 1000000000) : JCi E 1 YX7_message [.ref 0, .int a1, .int a2] (fun x u' => x = anMessage w.1 a1 a2 ∧ same u u' inC ∧ CW w u') u :=
  c_X7_message c.1 v.1.1.1 v.1.1.2.2.1 ⟨rfl, same.rfl, c⟩
theorem U8_message {E : JE} {u : JM} {w : Wd} {T : Nat} {a1 a2 : Int32} (c : XW w u) (v : WV w T) (hT : w.1 21 0 + 90 < 1000000000) : JCi E 2 YX8_message [.ref 137, .int a1, .int a2] (fun x u' => x = anMessage w.1 a1 a2 ∧ up u u' ∧ XW w u') u :=
  c_X8_message c v.1.1 ⟨rfl, up.rfl, c⟩
theorem WU_message {w : Wd} {T : Nat} (a1 a2 : Int32) (v : WV w T) (hT : T + 90 < 1000000000) : WV w (T + 80) := (v).mono (by omega)
theorem U7_within {E : JE} {u : JM} {w : Wd} {T : Nat} {a1 a2 a3 a4 : Int32} (c : CW w u) (v : WV w T) (hT : w.1 21 0 + 90 < 1000000000) : JCi E 3 YX7_within [.ref 0, .int a1, .int a2, .int a3, .int a4] (fun x u' => x = anWithin w.1 a1 a2 a3 a4 ∧ same u u' inC ∧ CW w u') u :=
  c_X7_within c.1 v.1.1.1 v.1.1.2.1 (fun u' h => ⟨rfl, scr_inC h, c.sc h⟩)
theorem U8_within {E : JE} {u : JM} {w : Wd} {T : Nat} {a1 a2 a3 a4 : Int32} (c : XW w u) (v : WV w T) (hT : w.1 21 0 + 90 < 1000000000) : JCi E 5 YX8_within [.ref 137, .int a1, .int a2, .int a3, .int a4] (fun x u' => x = anWithin w.1 a1 a2 a3 a4 ∧ up u u' ∧ XW w u') u :=
  c_X8_within c v.1.1 (fun u' h1 h2 => ⟨rfl, h1, h2⟩)
theorem WU_within {w : Wd} {T : Nat} (a1 a2 a3 a4 : Int32) (v : WV w T) (hT : T + 90 < 1000000000) : WV w (T + 80) := (v).mono (by omega)
theorem U7_route {E : JE} {u : JM} {w : Wd} {T : Nat} {a1 a2 a3 : Int32} (c : CW w u) (v : WV w T) (hT : w.1 21 0 + 90 < 1000000000) : JCi E 5 YX7_route [.ref 0, .int a1, .int a2, .int a3] (fun x u' => x = anRoute w.1 a1 a2 a3 ∧ same u u' inC ∧ CW w u') u :=
  c_X7_route c.1 v.1.1.1 v.1.1.2.1 (fun u' h => ⟨rfl, scr_inC h, c.sc h⟩)
theorem U8_route {E : JE} {u : JM} {w : Wd} {T : Nat} {a1 a2 a3 : Int32} (c : XW w u) (v : WV w T) (hT : w.1 21 0 + 90 < 1000000000) : JCi E 7 YX8_route [.ref 137, .int a1, .int a2, .int a3] (fun x u' => x = anRoute w.1 a1 a2 a3 ∧ up u u' ∧ XW w u') u :=
  c_X8_route c v.1.1 (fun u' h1 h2 => ⟨rfl, h1, h2⟩)
theorem WU_route {w : Wd} {T : Nat} (a1 a2 a3 : Int32) (v : WV w T) (hT : T + 90 < 1000000000) : WV w (T + 80) := (v).mono (by omega)
theorem U7_packet {E : JE} {u : JM} {w : Wd} {T : Nat} {a1 a2 a3 : Int32} (c : CW w u) (v : WV w T) (hT : w.1 21 0 + 90 < 1000000000) : JCi E 6 YX7_packet [.ref 0, .int a1, .int a2, .int a3] (fun x u' => x = anPacket w.1 a1 a2 a3 ∧ same u u' inC ∧ CW w u') u :=
  c_X7_packet c.1 v.1.1.1 v.1.1.2.1 (fun u' h => ⟨rfl, scr_inC h, c.sc h⟩)
theorem U8_packet {E : JE} {u : JM} {w : Wd} {T : Nat} {a1 a2 a3 : Int32} (c : XW w u) (v : WV w T) (hT : w.1 21 0 + 90 < 1000000000) : JCi E 7 YX8_packet [.ref 137, .int a1, .int a2, .int a3] (fun x u' => x = anPacket w.1 a1 a2 a3 ∧ up u u' ∧ XW w u') u :=
  c_X8_packet c v.1.1 (fun u' h1 h2 => ⟨rfl, h1, h2⟩)
theorem WU_packet {w : Wd} {T : Nat} (a1 a2 a3 : Int32) (v : WV w T) (hT : T + 90 < 1000000000) : WV w (T + 80) := (v).mono (by omega)
theorem U7_truly {E : JE} {u : JM} {w : Wd} {T : Nat} {a1 a2 : Int32} (c : CW w u) (v : WV w T) (hT : w.1 21 0 + 90 < 1000000000) : JCi E 4 YX7_truly [.ref 0, .int a1, .int a2] (fun x u' => x = anTruly w.1 a1 a2 ∧ same u u' inC ∧ CW w u') u :=
  c_X7_truly c.1 v.1.1.1 (fun u' h => ⟨rfl, scr_inC h, c.sc h⟩)
theorem U8_truly {E : JE} {u : JM} {w : Wd} {T : Nat} {a1 a2 : Int32} (c : XW w u) (v : WV w T) (hT : w.1 21 0 + 90 < 1000000000) : JCi E 3 YX8_truly [.ref 137, .int a1, .int a2] (fun x u' => x = anTruly w.1 a1 a2 ∧ up u u' ∧ XW w u') u :=
  c_X8_truly c v.1.1 (fun u' h1 h2 => ⟨rfl, h1, h2⟩)
theorem WU_truly {w : Wd} {T : Nat} (a1 a2 : Int32) (v : WV w T) (hT : T + 90 < 1000000000) : WV w (T + 80) := (v).mono (by omega)
theorem U7_cuts {E : JE} {u : JM} {w : Wd} {T : Nat} {a1 a2 : Int32} (c : CW w u) (v : WV w T) (hT : w.1 21 0 + 90 < 1000000000) : JCi E 4 YX7_cuts [.ref 0, .int a1, .int a2] (fun x u' => x = anCuts w.1 a1 a2 ∧ same u u' inC ∧ CW w u') u :=
  c_X7_cuts c.1 v.1.1.1 (fun u' h => ⟨rfl, scr_inC h, c.sc h⟩)
theorem U8_cuts {E : JE} {u : JM} {w : Wd} {T : Nat} {a1 a2 : Int32} (c : XW w u) (v : WV w T) (hT : w.1 21 0 + 90 < 1000000000) : JCi E 3 YX8_cuts [.ref 137, .int a1, .int a2] (fun x u' => x = anCuts w.1 a1 a2 ∧ up u u' ∧ XW w u') u :=
  c_X8_cuts c v.1.1 (fun u' h1 h2 => ⟨rfl, h1, h2⟩)
theorem WU_cuts {w : Wd} {T : Nat} (a1 a2 : Int32) (v : WV w T) (hT : T + 90 < 1000000000) : WV w (T + 80) := (v).mono (by omega)
theorem U7_settled {E : JE} {u : JM} {w : Wd} {T : Nat} {a1 : Int32} (c : CW w u) (v : WV w T) (hT : w.1 21 0 + 90 < 1000000000) : JCi E 8 YX7_settled [.ref 0, .int a1] (fun x u' => x = anSettled w.1 a1 ∧ same u u' inC ∧ CW w u') u :=
  c_X7_settled c v.1.1 hT (fun u' h1 h2 => ⟨rfl, h1, h2⟩)
theorem U8_settled {E : JE} {u : JM} {w : Wd} {T : Nat} {a1 : Int32} (c : XW w u) (v : WV w T) (hT : w.1 21 0 + 90 < 1000000000) : JCi E 9 YX8_settled [.ref 137, .int a1] (fun x u' => x = anSettled w.1 a1 ∧ up u u' ∧ XW w u') u :=
  c_X8_settled c v.1.1 hT (fun u' h1 h2 => ⟨rfl, h1, h2⟩)
theorem WU_settled {w : Wd} {T : Nat} (a1 : Int32) (v : WV w T) (hT : T + 90 < 1000000000) : WV w (T + 80) := (v).mono (by omega)
theorem U7_broken {E : JE} {u : JM} {w : Wd} {T : Nat} {a1 a2 a3 : Int32} (c : CW w u) (v : WV w T) (hT : w.1 21 0 + 90 < 1000000000) : JCi E 7 YX7_broken [.ref 0, .int a1, .int a2, .int a3] (fun x u' => x = anBroken w.1 a1 a2 a3 ∧ same u u' inC ∧ CW w u') u :=
  c_X7_broken c v.1.1 hT (fun u' h1 h2 => ⟨rfl, h1, h2⟩)
theorem U8_broken {E : JE} {u : JM} {w : Wd} {T : Nat} {a1 a2 a3 : Int32} (c : XW w u) (v : WV w T) (hT : w.1 21 0 + 90 < 1000000000) : JCi E 10 YX8_broken [.ref 137, .int a1, .int a2, .int a3] (fun x u' => x = anBroken w.1 a1 a2 a3 ∧ up u u' ∧ XW w u') u :=
  c_X8_broken c v.1.1 hT (fun u' h1 h2 => ⟨rfl, h1, h2⟩)
theorem WU_broken {w : Wd} {T : Nat} (a1 a2 a3 : Int32) (v : WV w T) (hT : T + 90 < 1000000000) : WV w (T + 80) := (v).mono (by omega)
theorem U7_drawn {E : JE} {u : JM} {w : Wd} {T : Nat} {a1 a2 : Int32} (c : CW w u) (v : WV w T) (hT : w.1 21 0 + 90 < 1000000000) : JCi E 7 YX7_drawn [.ref 0, .int a1, .int a2] (fun x u' => x = anDrawn w.1 a1 a2 ∧ same u u' inC ∧ CW w u') u :=
  c_X7_drawn c v.1.1 hT (fun u' h1 h2 => ⟨rfl, h1, h2⟩)
theorem U8_drawn {E : JE} {u : JM} {w : Wd} {T : Nat} {a1 a2 : Int32} (c : XW w u) (v : WV w T) (hT : w.1 21 0 + 90 < 1000000000) : JCi E 11 YX8_drawn [.ref 137, .int a1, .int a2] (fun x u' => x = anDrawn w.1 a1 a2 ∧ up u u' ∧ XW w u') u :=
  c_X8_drawn c v.1.1 hT (fun u' h1 h2 => ⟨rfl, h1, h2⟩)
theorem WU_drawn {w : Wd} {T : Nat} (a1 a2 : Int32) (v : WV w T) (hT : T + 90 < 1000000000) : WV w (T + 80) := (v).mono (by omega)
theorem U7_chance {E : JE} {u : JM} {w : Wd} {T : Nat} {a1 a2 a3 a4 : Int32} (c : CW w u) (v : WV w T) (hT : w.1 21 0 + 90 < 1000000000) : JCi E 7 YX7_chance [.ref 0, .int a1, .int a2, .int a3, .int a4] (fun x u' => x = anChance w.1 a1 a2 a3 a4 ∧ same u u' inC ∧ CW w u') u :=
  c_X7_chance c v.1.1 hT (fun u' h1 h2 => ⟨rfl, h1, h2⟩)
theorem U8_chance {E : JE} {u : JM} {w : Wd} {T : Nat} {a1 a2 a3 a4 : Int32} (c : XW w u) (v : WV w T) (hT : w.1 21 0 + 90 < 1000000000) : JCi E 41 YX8_chance [.ref 137, .int a1, .int a2, .int a3, .int a4] (fun x u' => x = anChance w.1 a1 a2 a3 a4 ∧ up u u' ∧ XW w u') u :=
  c_X8_chance c v.1.1 hT (SubR_se v.2.1 v.1.1 hT) (fun u' h1 h2 => ⟨rfl, h1, h2⟩)
theorem WU_chance {w : Wd} {T : Nat} (a1 a2 a3 a4 : Int32) (v : WV w T) (hT : T + 90 < 1000000000) : WV w (T + 80) := (v).mono (by omega)
theorem U7_tells {E : JE} {u : JM} {w : Wd} {T : Nat} {a1 a2 a3 : Int32} (c : CW w u) (v : WV w T) (hT : w.1 21 0 + 90 < 1000000000) : JCi E 8 YX7_tells [.ref 0, .int a1, .int a2, .int a3] (fun x u' => x = anTells w a1 a2 a3 ∧ same u u' inC ∧ CW w u') u :=
  c_X7_tells c v.1.1 v.1.2.2.2 hT (fun u' h1 h2 => ⟨rfl, h1, h2⟩)
theorem U8_tells {E : JE} {u : JM} {w : Wd} {T : Nat} {a1 a2 a3 : Int32} (c : XW w u) (v : WV w T) (hT : w.1 21 0 + 90 < 1000000000) : JCi E 11 YX8_tells_ [.ref 137, .int a1, .int a2, .int a3] (fun x u' => x = anTells w a1 a2 a3 ∧ up u u' ∧ XW w u') u :=
  c_X8_tells_ c v.1.1 v.1.2.2.2 hT (fun u' h1 h2 => ⟨rfl, h1, h2⟩)
theorem WU_tells {w : Wd} {T : Nat} (a1 a2 a3 : Int32) (v : WV w T) (hT : T + 90 < 1000000000) : WV w (T + 80) := (v).mono (by omega)
theorem U7_film {E : JE} {u : JM} {w : Wd} {T : Nat} {a1 a2 : Int32} (c : CW w u) (v : WV w T) (hT : w.1 21 0 + 90 < 1000000000) : JCi E 5 YX7_film [.ref 0, .int a1, .int a2] (fun x u' => x = anFilm a1 a2 ∧ same u u' inC ∧ CW (nxFilm w a1 a2) u') u :=
  c_X7_film c v.1.1 (fun u' h1 h2 => ⟨rfl, h1, h2⟩)
theorem U8_film {E : JE} {u : JM} {w : Wd} {T : Nat} {a1 a2 : Int32} (c : XW w u) (v : WV w T) (hT : w.1 21 0 + 90 < 1000000000) : JCi E 8 YX8_film [.ref 137, .int a1, .int a2] (fun x u' => x = anFilm a1 a2 ∧ up u u' ∧ XW (nxFilm w a1 a2) u') u :=
  c_X8_film c v.1.1 (fun u' h1 h2 => ⟨rfl, h1, h2⟩)
theorem WU_film {w : Wd} {T : Nat} (a1 a2 : Int32) (v : WV w T) (hT : T + 90 < 1000000000) : WV (nxFilm w a1 a2) (T + 80) := (WV_film v a1 a2).mono (by omega)
theorem U7_image {E : JE} {u : JM} {w : Wd} {T : Nat} (c : CW w u) (v : WV w T) (hT : w.1 21 0 + 90 < 1000000000) : JCi E 3 YX7_image [.ref 0] (fun x u' => x = anImage w ∧ same u u' inC ∧ CW (nxImage w) u') u :=
  c_X7_image c v.1.1 (fun u' h1 h2 => ⟨rfl, h1, h2⟩)
theorem U8_image {E : JE} {u : JM} {w : Wd} {T : Nat} (c : XW w u) (v : WV w T) (hT : w.1 21 0 + 90 < 1000000000) : JCi E 3 YX8_image [.ref 137] (fun x u' => x = anImage w ∧ up u u' ∧ XW (nxImage w) u') u :=
  c_X8_image c  (fun u' h1 h2 => ⟨rfl, h1, h2⟩)
theorem WU_image {w : Wd} {T : Nat} (v : WV w T) (hT : T + 90 < 1000000000) : WV (nxImage w) (T + 80) := (WV_image v).mono (by omega)
theorem U7_back {E : JE} {u : JM} {w : Wd} {T : Nat} (c : CW w u) (v : WV w T) (hT : w.1 21 0 + 90 < 1000000000) : JCi E 3 YX7_back [.ref 0] (fun x u' => x = anBack w ∧ same u u' inC ∧ CW (nxBack w) u') u :=
  c_X7_back c v.1.1 (fun q => (v.1.2.2.1 q).1) (fun u' h1 h2 => ⟨rfl, h1, h2⟩)
theorem U8_back {E : JE} {u : JM} {w : Wd} {T : Nat} (c : XW w u) (v : WV w T) (hT : w.1 21 0 + 90 < 1000000000) : JCi E 3 YX8_back [.ref 137] (fun x u' => x = anBack w ∧ up u u' ∧ XW (nxBack w) u') u :=
  c_X8_back c  (fun u' h1 h2 => ⟨rfl, h1, h2⟩)
theorem WU_back {w : Wd} {T : Nat} (v : WV w T) (hT : T + 90 < 1000000000) : WV (nxBack w) (T + 80) := (WV_back v).mono (by omega)
theorem U7_count {E : JE} {u : JM} {w : Wd} {T : Nat} {a1 : Int32} (c : CW w u) (v : WV w T) (hT : w.1 21 0 + 90 < 1000000000) : JCi E 4 YX7_count [.ref 0, .int a1] (fun x u' => x = anCount w.1 a1 ∧ same u u' inC ∧ CW w u') u :=
  c_X7_count c v.1.1 ⟨rfl, same.rfl, c⟩
theorem U8_count {E : JE} {u : JM} {w : Wd} {T : Nat} {a1 : Int32} (c : XW w u) (v : WV w T) (hT : w.1 21 0 + 90 < 1000000000) : JCi E 4 YX8_count [.ref 137, .int a1] (fun x u' => x = anCount w.1 a1 ∧ up u u' ∧ XW w u') u :=
  c_X8_count c v.1.1 ⟨rfl, up.rfl, c⟩
theorem WU_count {w : Wd} {T : Nat} (a1 : Int32) (v : WV w T) (hT : T + 90 < 1000000000) : WV w (T + 80) := (v).mono (by omega)
theorem U7_sheet {E : JE} {u : JM} {w : Wd} {T : Nat} {a1 a2 a3 : Int32} (c : CW w u) (v : WV w T) (hT : w.1 21 0 + 90 < 1000000000) : JCi E 3 YX7_sheet [.ref 0, .int a1, .int a2, .int a3] (fun x u' => x = anSheet a1 a2 a3 ∧ same u u' inC ∧ CW (nxSheet w a1 a2 a3) u') u :=
  c_X7_sheet c  (fun u' h1 h2 => ⟨rfl, h1, h2⟩)
theorem U8_sheet {E : JE} {u : JM} {w : Wd} {T : Nat} {a1 a2 a3 : Int32} (c : XW w u) (v : WV w T) (hT : w.1 21 0 + 90 < 1000000000) : JCi E 3 YX8_sheet [.ref 137, .int a1, .int a2, .int a3] (fun x u' => x = anSheet a1 a2 a3 ∧ up u u' ∧ XW (nxSheet w a1 a2 a3) u') u :=
  c_X8_sheet c  (fun u' h1 h2 => ⟨rfl, h1, h2⟩)
theorem WU_sheet {w : Wd} {T : Nat} (a1 a2 a3 : Int32) (v : WV w T) (hT : T + 90 < 1000000000) : WV (nxSheet w a1 a2 a3) (T + 80) := (WV_sheet v a1 a2 a3).mono (by omega)
theorem U7_cell {E : JE} {u : JM} {w : Wd} {T : Nat} {a1 a2 a3 : Int32} (c : CW w u) (v : WV w T) (hT : w.1 21 0 + 90 < 1000000000) : JCi E 2 YX7_cell [.ref 0, .int a1, .int a2, .int a3] (fun x u' => x = anCell w.2.2.2 a1 a2 ∧ same u u' inC ∧ CW (nxCell w a1 a2 a3) u') u :=
  c_X7_cell c v.1.2.2.2 (fun u' h1 h2 => ⟨rfl, h1, h2⟩)
theorem U8_cell {E : JE} {u : JM} {w : Wd} {T : Nat} {a1 a2 a3 : Int32} (c : XW w u) (v : WV w T) (hT : w.1 21 0 + 90 < 1000000000) : JCi E 3 YX8_cell [.ref 137, .int a1, .int a2, .int a3] (fun x u' => x = anCell w.2.2.2 a1 a2 ∧ up u u' ∧ XW (nxCell w a1 a2 a3) u') u :=
  c_X8_cell c v.1.2.2.2 (fun u' h1 h2 => ⟨rfl, h1, h2⟩)
theorem WU_cell {w : Wd} {T : Nat} (a1 a2 a3 : Int32) (v : WV w T) (hT : T + 90 < 1000000000) : WV (nxCell w a1 a2 a3) (T + 80) := (WV_cell v a1 a2 a3).mono (by omega)
theorem U7_copy {E : JE} {u : JM} {w : Wd} {T : Nat} {a1 a2 a3 a4 a5 : Int32} (c : CW w u) (v : WV w T) (hT : w.1 21 0 + 90 < 1000000000) : JCi E 2 YX7_copy [.ref 0, .int a1, .int a2, .int a3, .int a4, .int a5] (fun x u' => x = anCopy w.2.2.2 a1 a2 a3 a4 a5 ∧ same u u' inC ∧ CW (w.1, w.2.1, w.2.2.1, nxCopy w.2.2.2 a1 a2 a3 a4 a5) u') u :=
  c_X7_copy c v.1.2.2.2 (fun u' h1 h2 => ⟨rfl, h1, h2⟩)
theorem U8_copy {E : JE} {u : JM} {w : Wd} {T : Nat} {a1 a2 a3 a4 a5 : Int32} (c : XW w u) (v : WV w T) (hT : w.1 21 0 + 90 < 1000000000) : JCi E 3 YX8_copy [.ref 137, .int a1, .int a2, .int a3, .int a4, .int a5] (fun x u' => x = anCopy w.2.2.2 a1 a2 a3 a4 a5 ∧ up u u' ∧ XW (w.1, w.2.1, w.2.2.1, nxCopy w.2.2.2 a1 a2 a3 a4 a5) u') u :=
  c_X8_copy c v.1.2.2.2 (fun u' h1 h2 => ⟨rfl, h1, h2⟩)
theorem WU_copy {w : Wd} {T : Nat} (a1 a2 a3 a4 a5 : Int32) (v : WV w T) (hT : T + 90 < 1000000000) : WV (w.1, w.2.1, w.2.2.1, nxCopy w.2.2.2 a1 a2 a3 a4 a5) (T + 80) := (WV_copy v a1 a2 a3 a4 a5).mono (by omega)
