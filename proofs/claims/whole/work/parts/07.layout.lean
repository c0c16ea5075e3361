/-! the main phase: all cells made, references constant; facts by address -/
def NC : Nat := 3771
def jRF (a k : Nat) : Option Nat := match a with
  | 0 => (match k with | 0 => some 1 | 1 => some 37 | 2 => some 73 | 4 => some 109 | 5 => some 127 | 6 => some 129 | _ => none)
  | 1 => (match k with | 0 => some 2 | 1 => some 10 | 2 => some 16 | 3 => some 22 | 4 => some 23 | 5 => some 24 | 9 => some 25 | 10 => some 26 | 11 => some 27 | 12 => some 33 | _ => none)
  | 2 => (match k with | 1 => some 3 | 2 => some 4 | 3 => some 5 | 4 => some 6 | 5 => some 7 | 6 => some 8 | 7 => some 9 | _ => none)
  | 10 => (match k with | 0 => some 11 | 1 => some 12 | 2 => some 13 | 3 => some 14 | 4 => some 15 | _ => none)
  | 16 => (match k with | 0 => some 17 | 1 => some 18 | 2 => some 19 | 3 => some 20 | 4 => some 21 | _ => none)
  | 27 => (match k with | 0 => some 28 | 1 => some 29 | 2 => some 30 | 3 => some 31 | 4 => some 32 | _ => none)
  | 33 => (match k with | 0 => some 34 | 1 => some 35 | 2 => some 36 | _ => none)
  | 37 => (match k with | 0 => some 38 | 1 => some 46 | 2 => some 52 | 3 => some 58 | 4 => some 59 | 5 => some 60 | 9 => some 61 | 10 => some 62 | 11 => some 63 | 12 => some 69 | _ => none)
  | 38 => (match k with | 1 => some 39 | 2 => some 40 | 3 => some 41 | 4 => some 42 | 5 => some 43 | 6 => some 44 | 7 => some 45 | _ => none)
  | 46 => (match k with | 0 => some 47 | 1 => some 48 | 2 => some 49 | 3 => some 50 | 4 => some 51 | _ => none)
  | 52 => (match k with | 0 => some 53 | 1 => some 54 | 2 => some 55 | 3 => some 56 | 4 => some 57 | _ => none)
  | 63 => (match k with | 0 => some 64 | 1 => some 65 | 2 => some 66 | 3 => some 67 | 4 => some 68 | _ => none)
  | 69 => (match k with | 0 => some 70 | 1 => some 71 | 2 => some 72 | _ => none)
  | 73 => (match k with | 0 => some 74 | 1 => some 82 | 2 => some 88 | 3 => some 94 | 4 => some 95 | 5 => some 96 | 9 => some 97 | 10 => some 98 | 11 => some 99 | 12 => some 105 | _ => none)
  | 74 => (match k with | 1 => some 75 | 2 => some 76 | 3 => some 77 | 4 => some 78 | 5 => some 79 | 6 => some 80 | 7 => some 81 | _ => none)
  | 82 => (match k with | 0 => some 83 | 1 => some 84 | 2 => some 85 | 3 => some 86 | 4 => some 87 | _ => none)
  | 88 => (match k with | 0 => some 89 | 1 => some 90 | 2 => some 91 | 3 => some 92 | 4 => some 93 | _ => none)
  | 99 => (match k with | 0 => some 100 | 1 => some 101 | 2 => some 102 | 3 => some 103 | 4 => some 104 | _ => none)
  | 105 => (match k with | 0 => some 106 | 1 => some 107 | 2 => some 108 | _ => none)
  | 109 => (match k with | 0 => some 110 | 1 => some 111 | 2 => some 112 | 3 => some 113 | 4 => some 114 | _ => none)
  | 114 => (some (115 + 4 * k))
  | 115 => (match k with | 0 => some 116 | 1 => some 117 | 2 => some 118 | _ => none)
  | 119 => (match k with | 0 => some 120 | 1 => some 121 | 2 => some 122 | _ => none)
  | 123 => (match k with | 0 => some 124 | 1 => some 125 | 2 => some 126 | _ => none)
  | 127 => (match k with | 3 => some 128 | _ => none)
  | 129 => (match k with | 0 => some 130 | 1 => some 131 | 2 => some 132 | _ => none)
  | 132 => (some (133 + k))
  | 137 => (match k with | 1 => some 138 | 2 => some 139 | 3 => some 140 | 4 => some 141 | 5 => some 142 | 6 => some 143 | 7 => some 144 | 8 => some 145 | 9 => some 146 | 10 => some 147 | 11 => some 340 | 15 => some 533 | 16 => some 534 | 17 => some 535 | 18 => some 536 | 19 => some 537 | 20 => some 538 | 21 => some 539 | 22 => some 940 | 23 => some 1341 | 24 => some 1342 | 29 => some 1343 | 30 => some 1344 | 31 => some 1345 | 32 => some 1346 | 33 => some 1349 | 34 => some 1358 | 35 => some 1367 | 36 => some 1380 | 37 => some 1767 | 38 => some 2154 | 39 => some 2957 | 40 => some 3760 | 44 => some 3763 | 45 => some 3764 | 46 => some 3765 | 47 => some 3770 | _ => none)
  | 147 => (some (148 + k))
  | 340 => (some (341 + k))
  | 539 => (some (540 + k))
  | 940 => (some (941 + k))
  | 1346 => (some (1347 + k))
  | 1349 => (some (1350 + k))
  | 1358 => (some (1359 + k))
  | 1367 => (some (1368 + k))
  | 1380 => (some (1381 + 193 * k))
  | 1381 => (some (1382 + k))
  | 1574 => (some (1575 + k))
  | 1767 => (some (1768 + 193 * k))
  | 1768 => (some (1769 + k))
  | 1961 => (some (1962 + k))
  | 2154 => (some (2155 + 401 * k))
  | 2155 => (some (2156 + k))
  | 2556 => (some (2557 + k))
  | 2957 => (some (2958 + 401 * k))
  | 2958 => (some (2959 + k))
  | 3359 => (some (3360 + k))
  | 3760 => (some (3761 + k))
  | 3765 => (some (3766 + k))
  | _ => none
theorem lt_c (a : Nat) (h : Nat.blt a 3771 = true) : a < NC := Nat.le_of_ble_eq_true h
def isNet (a : Nat) : Prop := a = 1 ∨ a = 37 ∨ a = 73
theorem lt_N {a : Nat} (h : isNet a) (c : Nat) (hc : Nat.blt c 36 = true) : a + c < NC := by
  have hc : c < 36 := Nat.le_of_ble_eq_true hc
  rcases h with rfl | rfl | rfl <;> (show _ + c < 3771; omega)
theorem kd_N_0 {a : Nat} (h : isNet a) : jkd (a) = .inl 2 := by rcases h with rfl | rfl | rfl <;> decide +kernel
theorem rf_N_0_0 {a : Nat} (h : isNet a) : jRF (a) 0 = some (a + 1) := by rcases h with rfl | rfl | rfl <;> rfl
theorem rf_N_0_1 {a : Nat} (h : isNet a) : jRF (a) 1 = some (a + 9) := by rcases h with rfl | rfl | rfl <;> rfl
theorem rf_N_0_2 {a : Nat} (h : isNet a) : jRF (a) 2 = some (a + 15) := by rcases h with rfl | rfl | rfl <;> rfl
theorem rf_N_0_3 {a : Nat} (h : isNet a) : jRF (a) 3 = some (a + 21) := by rcases h with rfl | rfl | rfl <;> rfl
theorem rf_N_0_4 {a : Nat} (h : isNet a) : jRF (a) 4 = some (a + 22) := by rcases h with rfl | rfl | rfl <;> rfl
theorem rf_N_0_5 {a : Nat} (h : isNet a) : jRF (a) 5 = some (a + 23) := by rcases h with rfl | rfl | rfl <;> rfl
theorem rf_N_0_9 {a : Nat} (h : isNet a) : jRF (a) 9 = some (a + 24) := by rcases h with rfl | rfl | rfl <;> rfl
theorem rf_N_0_10 {a : Nat} (h : isNet a) : jRF (a) 10 = some (a + 25) := by rcases h with rfl | rfl | rfl <;> rfl
theorem rf_N_0_11 {a : Nat} (h : isNet a) : jRF (a) 11 = some (a + 26) := by rcases h with rfl | rfl | rfl <;> rfl
theorem rf_N_0_12 {a : Nat} (h : isNet a) : jRF (a) 12 = some (a + 32) := by rcases h with rfl | rfl | rfl <;> rfl
theorem kd_N_1 {a : Nat} (h : isNet a) : jkd (a + 1) = .inl 1 := by rcases h with rfl | rfl | rfl <;> decide +kernel
theorem rf_N_1_1 {a : Nat} (h : isNet a) : jRF (a + 1) 1 = some (a + 2) := by rcases h with rfl | rfl | rfl <;> rfl
theorem rf_N_1_2 {a : Nat} (h : isNet a) : jRF (a + 1) 2 = some (a + 3) := by rcases h with rfl | rfl | rfl <;> rfl
theorem rf_N_1_3 {a : Nat} (h : isNet a) : jRF (a + 1) 3 = some (a + 4) := by rcases h with rfl | rfl | rfl <;> rfl
theorem rf_N_1_4 {a : Nat} (h : isNet a) : jRF (a + 1) 4 = some (a + 5) := by rcases h with rfl | rfl | rfl <;> rfl
theorem rf_N_1_5 {a : Nat} (h : isNet a) : jRF (a + 1) 5 = some (a + 6) := by rcases h with rfl | rfl | rfl <;> rfl
theorem rf_N_1_6 {a : Nat} (h : isNet a) : jRF (a + 1) 6 = some (a + 7) := by rcases h with rfl | rfl | rfl <;> rfl
theorem rf_N_1_7 {a : Nat} (h : isNet a) : jRF (a + 1) 7 = some (a + 8) := by rcases h with rfl | rfl | rfl <;> rfl
theorem kd_N_2 {a : Nat} (h : isNet a) : jkd (a + 2) = .inr (.int, 12) := by rcases h with rfl | rfl | rfl <;> decide +kernel
theorem kd_N_3 {a : Nat} (h : isNet a) : jkd (a + 3) = .inr (.int, 12) := by rcases h with rfl | rfl | rfl <;> decide +kernel
theorem kd_N_4 {a : Nat} (h : isNet a) : jkd (a + 4) = .inr (.int, 12) := by rcases h with rfl | rfl | rfl <;> decide +kernel
theorem kd_N_5 {a : Nat} (h : isNet a) : jkd (a + 5) = .inr (.int, 12) := by rcases h with rfl | rfl | rfl <;> decide +kernel
theorem kd_N_6 {a : Nat} (h : isNet a) : jkd (a + 6) = .inr (.int, 12) := by rcases h with rfl | rfl | rfl <;> decide +kernel
theorem kd_N_7 {a : Nat} (h : isNet a) : jkd (a + 7) = .inr (.boolean, 12) := by rcases h with rfl | rfl | rfl <;> decide +kernel
theorem kd_N_8 {a : Nat} (h : isNet a) : jkd (a + 8) = .inr (.int, 8) := by rcases h with rfl | rfl | rfl <;> decide +kernel
theorem kd_N_9 {a : Nat} (h : isNet a) : jkd (a + 9) = .inl 0 := by rcases h with rfl | rfl | rfl <;> decide +kernel
theorem rf_N_9_0 {a : Nat} (h : isNet a) : jRF (a + 9) 0 = some (a + 10) := by rcases h with rfl | rfl | rfl <;> rfl
theorem rf_N_9_1 {a : Nat} (h : isNet a) : jRF (a + 9) 1 = some (a + 11) := by rcases h with rfl | rfl | rfl <;> rfl
theorem rf_N_9_2 {a : Nat} (h : isNet a) : jRF (a + 9) 2 = some (a + 12) := by rcases h with rfl | rfl | rfl <;> rfl
theorem rf_N_9_3 {a : Nat} (h : isNet a) : jRF (a + 9) 3 = some (a + 13) := by rcases h with rfl | rfl | rfl <;> rfl
theorem rf_N_9_4 {a : Nat} (h : isNet a) : jRF (a + 9) 4 = some (a + 14) := by rcases h with rfl | rfl | rfl <;> rfl
theorem kd_N_10 {a : Nat} (h : isNet a) : jkd (a + 10) = .inr (.int, 192) := by rcases h with rfl | rfl | rfl <;> decide +kernel
theorem kd_N_11 {a : Nat} (h : isNet a) : jkd (a + 11) = .inr (.int, 192) := by rcases h with rfl | rfl | rfl <;> decide +kernel
theorem kd_N_12 {a : Nat} (h : isNet a) : jkd (a + 12) = .inr (.int, 192) := by rcases h with rfl | rfl | rfl <;> decide +kernel
theorem kd_N_13 {a : Nat} (h : isNet a) : jkd (a + 13) = .inr (.int, 2304) := by rcases h with rfl | rfl | rfl <;> decide +kernel
theorem kd_N_14 {a : Nat} (h : isNet a) : jkd (a + 14) = .inr (.int, 1536) := by rcases h with rfl | rfl | rfl <;> decide +kernel
theorem kd_N_15 {a : Nat} (h : isNet a) : jkd (a + 15) = .inl 0 := by rcases h with rfl | rfl | rfl <;> decide +kernel
theorem rf_N_15_0 {a : Nat} (h : isNet a) : jRF (a + 15) 0 = some (a + 16) := by rcases h with rfl | rfl | rfl <;> rfl
theorem rf_N_15_1 {a : Nat} (h : isNet a) : jRF (a + 15) 1 = some (a + 17) := by rcases h with rfl | rfl | rfl <;> rfl
theorem rf_N_15_2 {a : Nat} (h : isNet a) : jRF (a + 15) 2 = some (a + 18) := by rcases h with rfl | rfl | rfl <;> rfl
theorem rf_N_15_3 {a : Nat} (h : isNet a) : jRF (a + 15) 3 = some (a + 19) := by rcases h with rfl | rfl | rfl <;> rfl
theorem rf_N_15_4 {a : Nat} (h : isNet a) : jRF (a + 15) 4 = some (a + 20) := by rcases h with rfl | rfl | rfl <;> rfl
theorem kd_N_16 {a : Nat} (h : isNet a) : jkd (a + 16) = .inr (.int, 192) := by rcases h with rfl | rfl | rfl <;> decide +kernel
theorem kd_N_17 {a : Nat} (h : isNet a) : jkd (a + 17) = .inr (.int, 192) := by rcases h with rfl | rfl | rfl <;> decide +kernel
theorem kd_N_18 {a : Nat} (h : isNet a) : jkd (a + 18) = .inr (.int, 192) := by rcases h with rfl | rfl | rfl <;> decide +kernel
theorem kd_N_19 {a : Nat} (h : isNet a) : jkd (a + 19) = .inr (.int, 2304) := by rcases h with rfl | rfl | rfl <;> decide +kernel
theorem kd_N_20 {a : Nat} (h : isNet a) : jkd (a + 20) = .inr (.int, 1536) := by rcases h with rfl | rfl | rfl <;> decide +kernel
theorem kd_N_21 {a : Nat} (h : isNet a) : jkd (a + 21) = .inr (.int, 192) := by rcases h with rfl | rfl | rfl <;> decide +kernel
theorem kd_N_22 {a : Nat} (h : isNet a) : jkd (a + 22) = .inr (.int, 192) := by rcases h with rfl | rfl | rfl <;> decide +kernel
theorem kd_N_23 {a : Nat} (h : isNet a) : jkd (a + 23) = .inr (.int, 192) := by rcases h with rfl | rfl | rfl <;> decide +kernel
theorem kd_N_24 {a : Nat} (h : isNet a) : jkd (a + 24) = .inr (.boolean, 192) := by rcases h with rfl | rfl | rfl <;> decide +kernel
theorem kd_N_25 {a : Nat} (h : isNet a) : jkd (a + 25) = .inr (.int, 192) := by rcases h with rfl | rfl | rfl <;> decide +kernel
theorem kd_N_26 {a : Nat} (h : isNet a) : jkd (a + 26) = .inl 0 := by rcases h with rfl | rfl | rfl <;> decide +kernel
theorem rf_N_26_0 {a : Nat} (h : isNet a) : jRF (a + 26) 0 = some (a + 27) := by rcases h with rfl | rfl | rfl <;> rfl
theorem rf_N_26_1 {a : Nat} (h : isNet a) : jRF (a + 26) 1 = some (a + 28) := by rcases h with rfl | rfl | rfl <;> rfl
theorem rf_N_26_2 {a : Nat} (h : isNet a) : jRF (a + 26) 2 = some (a + 29) := by rcases h with rfl | rfl | rfl <;> rfl
theorem rf_N_26_3 {a : Nat} (h : isNet a) : jRF (a + 26) 3 = some (a + 30) := by rcases h with rfl | rfl | rfl <;> rfl
theorem rf_N_26_4 {a : Nat} (h : isNet a) : jRF (a + 26) 4 = some (a + 31) := by rcases h with rfl | rfl | rfl <;> rfl
theorem kd_N_27 {a : Nat} (h : isNet a) : jkd (a + 27) = .inr (.int, 1) := by rcases h with rfl | rfl | rfl <;> decide +kernel
theorem kd_N_28 {a : Nat} (h : isNet a) : jkd (a + 28) = .inr (.int, 1) := by rcases h with rfl | rfl | rfl <;> decide +kernel
theorem kd_N_29 {a : Nat} (h : isNet a) : jkd (a + 29) = .inr (.int, 1) := by rcases h with rfl | rfl | rfl <;> decide +kernel
theorem kd_N_30 {a : Nat} (h : isNet a) : jkd (a + 30) = .inr (.int, 12) := by rcases h with rfl | rfl | rfl <;> decide +kernel
theorem kd_N_31 {a : Nat} (h : isNet a) : jkd (a + 31) = .inr (.int, 8) := by rcases h with rfl | rfl | rfl <;> decide +kernel
theorem kd_N_32 {a : Nat} (h : isNet a) : jkd (a + 32) = .inl 3 := by rcases h with rfl | rfl | rfl <;> decide +kernel
theorem rf_N_32_0 {a : Nat} (h : isNet a) : jRF (a + 32) 0 = some (a + 33) := by rcases h with rfl | rfl | rfl <;> rfl
theorem rf_N_32_1 {a : Nat} (h : isNet a) : jRF (a + 32) 1 = some (a + 34) := by rcases h with rfl | rfl | rfl <;> rfl
theorem rf_N_32_2 {a : Nat} (h : isNet a) : jRF (a + 32) 2 = some (a + 35) := by rcases h with rfl | rfl | rfl <;> rfl
theorem kd_N_33 {a : Nat} (h : isNet a) : jkd (a + 33) = .inr (.int, 8) := by rcases h with rfl | rfl | rfl <;> decide +kernel
theorem kd_N_34 {a : Nat} (h : isNet a) : jkd (a + 34) = .inr (.int, 8) := by rcases h with rfl | rfl | rfl <;> decide +kernel
theorem kd_N_35 {a : Nat} (h : isNet a) : jkd (a + 35) = .inr (.boolean, 8) := by rcases h with rfl | rfl | rfl <;> decide +kernel
def isPaths (a : Nat) : Prop := a = 33 ∨ a = 69 ∨ a = 105 ∨ a = 115 ∨ a = 119 ∨ a = 123
theorem lt_P {a : Nat} (h : isPaths a) (c : Nat) (hc : Nat.blt c 4 = true) : a + c < NC := by
  have hc : c < 4 := Nat.le_of_ble_eq_true hc
  rcases h with rfl | rfl | rfl | rfl | rfl | rfl <;> (show _ + c < 3771; omega)
theorem kd_P_0 {a : Nat} (h : isPaths a) : jkd (a) = .inl 3 := by rcases h with rfl | rfl | rfl | rfl | rfl | rfl <;> decide +kernel
theorem rf_P_0_0 {a : Nat} (h : isPaths a) : jRF (a) 0 = some (a + 1) := by rcases h with rfl | rfl | rfl | rfl | rfl | rfl <;> rfl
theorem rf_P_0_1 {a : Nat} (h : isPaths a) : jRF (a) 1 = some (a + 2) := by rcases h with rfl | rfl | rfl | rfl | rfl | rfl <;> rfl
theorem rf_P_0_2 {a : Nat} (h : isPaths a) : jRF (a) 2 = some (a + 3) := by rcases h with rfl | rfl | rfl | rfl | rfl | rfl <;> rfl
theorem kd_P_1 {a : Nat} (h : isPaths a) : jkd (a + 1) = .inr (.int, 8) := by rcases h with rfl | rfl | rfl | rfl | rfl | rfl <;> decide +kernel
theorem kd_P_2 {a : Nat} (h : isPaths a) : jkd (a + 2) = .inr (.int, 8) := by rcases h with rfl | rfl | rfl | rfl | rfl | rfl <;> decide +kernel
theorem kd_P_3 {a : Nat} (h : isPaths a) : jkd (a + 3) = .inr (.boolean, 8) := by rcases h with rfl | rfl | rfl | rfl | rfl | rfl <;> decide +kernel
theorem isPaths_N {N : Nat} (h : isNet N) : isPaths (N + 32) := by rcases h with rfl | rfl | rfl <;> simp [isPaths]
theorem isPaths_115 : isPaths 115 := by simp [isPaths]
theorem isPaths_119 : isPaths 119 := by simp [isPaths]
theorem isPaths_123 : isPaths 123 := by simp [isPaths]
theorem isPaths_R {j : Nat} (h : j < 3) : isPaths (115 + 4 * j) := by
  rcases (show j = 0 ∨ j = 1 ∨ j = 2 by omega) with rfl | rfl | rfl <;> simp [isPaths]
theorem isNet_1 : isNet 1 := by simp [isNet]
theorem isNet_37 : isNet 37 := by simp [isNet]
theorem isNet_73 : isNet 73 := by simp [isNet]
def isAdv (a n : Nat) : Prop := ((a = 10 ∨ a = 46 ∨ a = 82 ∨ a = 16 ∨ a = 52 ∨ a = 88) ∧ n = 192) ∨ ((a = 27 ∨ a = 63 ∨ a = 99) ∧ n = 1)
theorem lt_A {a n : Nat} (h : isAdv a n) (c : Nat) (hc : Nat.blt c 6 = true) : a + c < NC := by
  have hc : c < 6 := Nat.le_of_ble_eq_true hc
  unfold isAdv at h
  show _ + c < 3771
  omega
theorem kd_A_0 {a n : Nat} (h : isAdv a n) : jkd a = .inl 0 := by rcases h with ⟨rfl | rfl | rfl | rfl | rfl | rfl, rfl⟩ | ⟨rfl | rfl | rfl, rfl⟩ <;> decide +kernel
theorem kd_A_1 {a n : Nat} (h : isAdv a n) : jkd (a + 1) = .inr (.int, n) := by rcases h with ⟨rfl | rfl | rfl | rfl | rfl | rfl, rfl⟩ | ⟨rfl | rfl | rfl, rfl⟩ <;> decide +kernel
theorem rf_A_0_0 {a n : Nat} (h : isAdv a n) : jRF a 0 = some (a + 1) := by rcases h with ⟨rfl | rfl | rfl | rfl | rfl | rfl, rfl⟩ | ⟨rfl | rfl | rfl, rfl⟩ <;> rfl
theorem kd_A_2 {a n : Nat} (h : isAdv a n) : jkd (a + 2) = .inr (.int, n) := by rcases h with ⟨rfl | rfl | rfl | rfl | rfl | rfl, rfl⟩ | ⟨rfl | rfl | rfl, rfl⟩ <;> decide +kernel
theorem rf_A_0_1 {a n : Nat} (h : isAdv a n) : jRF a 1 = some (a + 2) := by rcases h with ⟨rfl | rfl | rfl | rfl | rfl | rfl, rfl⟩ | ⟨rfl | rfl | rfl, rfl⟩ <;> rfl
theorem kd_A_3 {a n : Nat} (h : isAdv a n) : jkd (a + 3) = .inr (.int, n) := by rcases h with ⟨rfl | rfl | rfl | rfl | rfl | rfl, rfl⟩ | ⟨rfl | rfl | rfl, rfl⟩ <;> decide +kernel
theorem rf_A_0_2 {a n : Nat} (h : isAdv a n) : jRF a 2 = some (a + 3) := by rcases h with ⟨rfl | rfl | rfl | rfl | rfl | rfl, rfl⟩ | ⟨rfl | rfl | rfl, rfl⟩ <;> rfl
theorem kd_A_4 {a n : Nat} (h : isAdv a n) : jkd (a + 4) = .inr (.int, n * 12) := by rcases h with ⟨rfl | rfl | rfl | rfl | rfl | rfl, rfl⟩ | ⟨rfl | rfl | rfl, rfl⟩ <;> decide +kernel
theorem rf_A_0_3 {a n : Nat} (h : isAdv a n) : jRF a 3 = some (a + 4) := by rcases h with ⟨rfl | rfl | rfl | rfl | rfl | rfl, rfl⟩ | ⟨rfl | rfl | rfl, rfl⟩ <;> rfl
theorem kd_A_5 {a n : Nat} (h : isAdv a n) : jkd (a + 5) = .inr (.int, n * 8) := by rcases h with ⟨rfl | rfl | rfl | rfl | rfl | rfl, rfl⟩ | ⟨rfl | rfl | rfl, rfl⟩ <;> decide +kernel
theorem rf_A_0_4 {a n : Nat} (h : isAdv a n) : jRF a 4 = some (a + 5) := by rcases h with ⟨rfl | rfl | rfl | rfl | rfl | rfl, rfl⟩ | ⟨rfl | rfl | rfl, rfl⟩ <;> rfl
theorem isAdv_k {N : Nat} (h : isNet N) : isAdv (N + 9) 192 := by rcases h with rfl | rfl | rfl <;> simp [isAdv]
theorem isAdv_s {N : Nat} (h : isNet N) : isAdv (N + 15) 192 := by rcases h with rfl | rfl | rfl <;> simp [isAdv]
theorem isAdv_d {N : Nat} (h : isNet N) : isAdv (N + 26) 1 := by rcases h with rfl | rfl | rfl <;> simp [isAdv]
theorem kd_c_0 : jkd 0 = .inl 7 := by decide +kernel
theorem rf_c_0_0 : jRF 0 0 = some 1 := rfl
theorem rf_c_0_1 : jRF 0 1 = some 37 := rfl
theorem rf_c_0_2 : jRF 0 2 = some 73 := rfl
theorem rf_c_0_4 : jRF 0 4 = some 109 := rfl
theorem rf_c_0_5 : jRF 0 5 = some 127 := rfl
theorem rf_c_0_6 : jRF 0 6 = some 129 := rfl
theorem kd_c_109 : jkd 109 = .inl 4 := by decide +kernel
theorem rf_c_109_0 : jRF 109 0 = some 110 := rfl
theorem rf_c_109_1 : jRF 109 1 = some 111 := rfl
theorem rf_c_109_2 : jRF 109 2 = some 112 := rfl
theorem rf_c_109_3 : jRF 109 3 = some 113 := rfl
theorem rf_c_109_4 : jRF 109 4 = some 114 := rfl
theorem kd_c_110 : jkd 110 = .inr (.int, 8) := by decide +kernel
theorem kd_c_111 : jkd 111 = .inr (.int, 8) := by decide +kernel
theorem kd_c_112 : jkd 112 = .inr (.int, 8) := by decide +kernel
theorem kd_c_113 : jkd 113 = .inr (.int, 8) := by decide +kernel
theorem kd_c_114 : jkd 114 = .inr (.object RX3, 3) := by decide +kernel
theorem rf_r_114 (k : Nat) : jRF 114 k = some (115 + 4 * k) := rfl
theorem kd_r_114 {k : Nat} (h : k < 3) : jkd (115 + 4 * k) = .inl 3 := by
  have q : (List.range 3).all (fun k => decide (jkd (115 + 4 * k) = .inl 3)) = true := by decide +kernel
  exact of_decide_eq_true (List.all_eq_true.mp q k (List.mem_range.mpr h))
theorem lt_r_114 {k : Nat} (h : k < 3) : 115 + 4 * k < NC := by show _ < 3771; omega
theorem kd_c_127 : jkd 127 = .inl 6 := by decide +kernel
theorem rf_c_127_3 : jRF 127 3 = some 128 := rfl
theorem kd_c_128 : jkd 128 = .inr (.int, 9) := by decide +kernel
theorem kd_c_129 : jkd 129 = .inl 5 := by decide +kernel
theorem rf_c_129_0 : jRF 129 0 = some 130 := rfl
theorem rf_c_129_1 : jRF 129 1 = some 131 := rfl
theorem rf_c_129_2 : jRF 129 2 = some 132 := rfl
theorem kd_c_130 : jkd 130 = .inr (.int, 4) := by decide +kernel
theorem kd_c_131 : jkd 131 = .inr (.int, 4) := by decide +kernel
theorem kd_c_132 : jkd 132 = .inr (.array .int, 4) := by decide +kernel
theorem rf_r_132 (k : Nat) : jRF 132 k = some (133 + k) := rfl
theorem kd_r_132 {k : Nat} (h : k < 4) : jkd (133 + k) = .inr (.int, 40) := by
  have q : (List.range 4).all (fun k => decide (jkd (133 + k) = .inr (.int, 40))) = true := by decide +kernel
  exact of_decide_eq_true (List.all_eq_true.mp q k (List.mem_range.mpr h))
theorem lt_r_132 {k : Nat} (h : k < 4) : 133 + k < NC := by show _ < 3771; omega
theorem kd_c_133 : jkd 133 = .inr (.int, 40) := by decide +kernel
theorem kd_c_134 : jkd 134 = .inr (.int, 40) := by decide +kernel
theorem kd_c_135 : jkd 135 = .inr (.int, 40) := by decide +kernel
theorem kd_c_136 : jkd 136 = .inr (.int, 40) := by decide +kernel
theorem kd_c_137 : jkd 137 = .inl 8 := by decide +kernel
theorem rf_c_137_1 : jRF 137 1 = some 138 := rfl
theorem rf_c_137_2 : jRF 137 2 = some 139 := rfl
theorem rf_c_137_3 : jRF 137 3 = some 140 := rfl
theorem rf_c_137_4 : jRF 137 4 = some 141 := rfl
theorem rf_c_137_5 : jRF 137 5 = some 142 := rfl
theorem rf_c_137_6 : jRF 137 6 = some 143 := rfl
theorem rf_c_137_7 : jRF 137 7 = some 144 := rfl
theorem rf_c_137_8 : jRF 137 8 = some 145 := rfl
theorem rf_c_137_9 : jRF 137 9 = some 146 := rfl
theorem rf_c_137_10 : jRF 137 10 = some 147 := rfl
theorem rf_c_137_11 : jRF 137 11 = some 340 := rfl
theorem rf_c_137_15 : jRF 137 15 = some 533 := rfl
theorem rf_c_137_16 : jRF 137 16 = some 534 := rfl
theorem rf_c_137_17 : jRF 137 17 = some 535 := rfl
theorem rf_c_137_18 : jRF 137 18 = some 536 := rfl
theorem rf_c_137_19 : jRF 137 19 = some 537 := rfl
theorem rf_c_137_20 : jRF 137 20 = some 538 := rfl
theorem rf_c_137_21 : jRF 137 21 = some 539 := rfl
theorem rf_c_137_22 : jRF 137 22 = some 940 := rfl
theorem rf_c_137_23 : jRF 137 23 = some 1341 := rfl
theorem rf_c_137_24 : jRF 137 24 = some 1342 := rfl
theorem rf_c_137_29 : jRF 137 29 = some 1343 := rfl
theorem rf_c_137_30 : jRF 137 30 = some 1344 := rfl
theorem rf_c_137_31 : jRF 137 31 = some 1345 := rfl
theorem rf_c_137_32 : jRF 137 32 = some 1346 := rfl
theorem rf_c_137_33 : jRF 137 33 = some 1349 := rfl
theorem rf_c_137_34 : jRF 137 34 = some 1358 := rfl
theorem rf_c_137_35 : jRF 137 35 = some 1367 := rfl
theorem rf_c_137_36 : jRF 137 36 = some 1380 := rfl
theorem rf_c_137_37 : jRF 137 37 = some 1767 := rfl
theorem rf_c_137_38 : jRF 137 38 = some 2154 := rfl
theorem rf_c_137_39 : jRF 137 39 = some 2957 := rfl
theorem rf_c_137_40 : jRF 137 40 = some 3760 := rfl
theorem rf_c_137_44 : jRF 137 44 = some 3763 := rfl
theorem rf_c_137_45 : jRF 137 45 = some 3764 := rfl
theorem rf_c_137_46 : jRF 137 46 = some 3765 := rfl
theorem rf_c_137_47 : jRF 137 47 = some 3770 := rfl
theorem kd_c_138 : jkd 138 = .inr (.int, 12) := by decide +kernel
theorem kd_c_139 : jkd 139 = .inr (.int, 12) := by decide +kernel
theorem kd_c_140 : jkd 140 = .inr (.int, 12) := by decide +kernel
theorem kd_c_141 : jkd 141 = .inr (.int, 12) := by decide +kernel
theorem kd_c_142 : jkd 142 = .inr (.int, 24) := by decide +kernel
theorem kd_c_143 : jkd 143 = .inr (.int, 192) := by decide +kernel
theorem kd_c_144 : jkd 144 = .inr (.int, 192) := by decide +kernel
theorem kd_c_145 : jkd 145 = .inr (.int, 192) := by decide +kernel
theorem kd_c_146 : jkd 146 = .inr (.int, 192) := by decide +kernel
theorem kd_c_147 : jkd 147 = .inr (.array .int, 192) := by decide +kernel
theorem rf_r_147 (k : Nat) : jRF 147 k = some (148 + k) := rfl
theorem kd_r_147 {k : Nat} (h : k < 192) : jkd (148 + k) = .inr (.int, 12) := by
  have q : (List.range 192).all (fun k => decide (jkd (148 + k) = .inr (.int, 12))) = true := by decide +kernel
  exact of_decide_eq_true (List.all_eq_true.mp q k (List.mem_range.mpr h))
theorem lt_r_147 {k : Nat} (h : k < 192) : 148 + k < NC := by show _ < 3771; omega
theorem kd_c_340 : jkd 340 = .inr (.array .int, 192) := by decide +kernel
theorem rf_r_340 (k : Nat) : jRF 340 k = some (341 + k) := rfl
theorem kd_r_340 {k : Nat} (h : k < 192) : jkd (341 + k) = .inr (.int, 8) := by
  have q : (List.range 192).all (fun k => decide (jkd (341 + k) = .inr (.int, 8))) = true := by decide +kernel
  exact of_decide_eq_true (List.all_eq_true.mp q k (List.mem_range.mpr h))
theorem lt_r_340 {k : Nat} (h : k < 192) : 341 + k < NC := by show _ < 3771; omega
theorem kd_c_533 : jkd 533 = .inr (.int, 400) := by decide +kernel
theorem kd_c_534 : jkd 534 = .inr (.int, 400) := by decide +kernel
theorem kd_c_535 : jkd 535 = .inr (.int, 400) := by decide +kernel
theorem kd_c_536 : jkd 536 = .inr (.int, 400) := by decide +kernel
theorem kd_c_537 : jkd 537 = .inr (.int, 400) := by decide +kernel
theorem kd_c_538 : jkd 538 = .inr (.int, 400) := by decide +kernel
theorem kd_c_539 : jkd 539 = .inr (.array .int, 400) := by decide +kernel
theorem rf_r_539 (k : Nat) : jRF 539 k = some (540 + k) := rfl
theorem kd_r_539 {k : Nat} (h : k < 400) : jkd (540 + k) = .inr (.int, 12) := by
  have q : (List.range 400).all (fun k => decide (jkd (540 + k) = .inr (.int, 12))) = true := by decide +kernel
  exact of_decide_eq_true (List.all_eq_true.mp q k (List.mem_range.mpr h))
theorem lt_r_539 {k : Nat} (h : k < 400) : 540 + k < NC := by show _ < 3771; omega
theorem kd_c_940 : jkd 940 = .inr (.array .int, 400) := by decide +kernel
theorem rf_r_940 (k : Nat) : jRF 940 k = some (941 + k) := rfl
theorem kd_r_940 {k : Nat} (h : k < 400) : jkd (941 + k) = .inr (.int, 8) := by
  have q : (List.range 400).all (fun k => decide (jkd (941 + k) = .inr (.int, 8))) = true := by decide +kernel
  exact of_decide_eq_true (List.all_eq_true.mp q k (List.mem_range.mpr h))
theorem lt_r_940 {k : Nat} (h : k < 400) : 941 + k < NC := by show _ < 3771; omega
theorem kd_c_1341 : jkd 1341 = .inr (.int, 8) := by decide +kernel
theorem kd_c_1342 : jkd 1342 = .inr (.int, 8) := by decide +kernel
theorem kd_c_1343 : jkd 1343 = .inr (.int, 12) := by decide +kernel
theorem kd_c_1344 : jkd 1344 = .inr (.int, 8) := by decide +kernel
theorem kd_c_1345 : jkd 1345 = .inr (.int, 9) := by decide +kernel
theorem kd_c_1346 : jkd 1346 = .inr (.array .int, 2) := by decide +kernel
theorem rf_r_1346 (k : Nat) : jRF 1346 k = some (1347 + k) := rfl
theorem kd_r_1346 {k : Nat} (h : k < 2) : jkd (1347 + k) = .inr (.int, 4) := by
  have q : (List.range 2).all (fun k => decide (jkd (1347 + k) = .inr (.int, 4))) = true := by decide +kernel
  exact of_decide_eq_true (List.all_eq_true.mp q k (List.mem_range.mpr h))
theorem lt_r_1346 {k : Nat} (h : k < 2) : 1347 + k < NC := by show _ < 3771; omega
theorem kd_c_1347 : jkd 1347 = .inr (.int, 4) := by decide +kernel
theorem kd_c_1348 : jkd 1348 = .inr (.int, 4) := by decide +kernel
theorem kd_c_1349 : jkd 1349 = .inr (.array .int, 8) := by decide +kernel
theorem rf_r_1349 (k : Nat) : jRF 1349 k = some (1350 + k) := rfl
theorem kd_r_1349 {k : Nat} (h : k < 8) : jkd (1350 + k) = .inr (.int, 24) := by
  have q : (List.range 8).all (fun k => decide (jkd (1350 + k) = .inr (.int, 24))) = true := by decide +kernel
  exact of_decide_eq_true (List.all_eq_true.mp q k (List.mem_range.mpr h))
theorem lt_r_1349 {k : Nat} (h : k < 8) : 1350 + k < NC := by show _ < 3771; omega
theorem kd_c_1350 : jkd 1350 = .inr (.int, 24) := by decide +kernel
theorem kd_c_1351 : jkd 1351 = .inr (.int, 24) := by decide +kernel
theorem kd_c_1352 : jkd 1352 = .inr (.int, 24) := by decide +kernel
theorem kd_c_1353 : jkd 1353 = .inr (.int, 24) := by decide +kernel
theorem kd_c_1354 : jkd 1354 = .inr (.int, 24) := by decide +kernel
theorem kd_c_1355 : jkd 1355 = .inr (.int, 24) := by decide +kernel
theorem kd_c_1356 : jkd 1356 = .inr (.int, 24) := by decide +kernel
theorem kd_c_1357 : jkd 1357 = .inr (.int, 24) := by decide +kernel
theorem kd_c_1358 : jkd 1358 = .inr (.array .int, 8) := by decide +kernel
theorem rf_r_1358 (k : Nat) : jRF 1358 k = some (1359 + k) := rfl
theorem kd_r_1358 {k : Nat} (h : k < 8) : jkd (1359 + k) = .inr (.int, 192) := by
  have q : (List.range 8).all (fun k => decide (jkd (1359 + k) = .inr (.int, 192))) = true := by decide +kernel
  exact of_decide_eq_true (List.all_eq_true.mp q k (List.mem_range.mpr h))
theorem lt_r_1358 {k : Nat} (h : k < 8) : 1359 + k < NC := by show _ < 3771; omega
theorem kd_c_1359 : jkd 1359 = .inr (.int, 192) := by decide +kernel
theorem kd_c_1360 : jkd 1360 = .inr (.int, 192) := by decide +kernel
theorem kd_c_1361 : jkd 1361 = .inr (.int, 192) := by decide +kernel
theorem kd_c_1362 : jkd 1362 = .inr (.int, 192) := by decide +kernel
theorem kd_c_1363 : jkd 1363 = .inr (.int, 192) := by decide +kernel
theorem kd_c_1364 : jkd 1364 = .inr (.int, 192) := by decide +kernel
theorem kd_c_1365 : jkd 1365 = .inr (.int, 192) := by decide +kernel
theorem kd_c_1366 : jkd 1366 = .inr (.int, 192) := by decide +kernel
theorem kd_c_1367 : jkd 1367 = .inr (.array .int, 12) := by decide +kernel
theorem rf_r_1367 (k : Nat) : jRF 1367 k = some (1368 + k) := rfl
theorem kd_r_1367 {k : Nat} (h : k < 12) : jkd (1368 + k) = .inr (.int, 400) := by
  have q : (List.range 12).all (fun k => decide (jkd (1368 + k) = .inr (.int, 400))) = true := by decide +kernel
  exact of_decide_eq_true (List.all_eq_true.mp q k (List.mem_range.mpr h))
theorem lt_r_1367 {k : Nat} (h : k < 12) : 1368 + k < NC := by show _ < 3771; omega
theorem kd_c_1368 : jkd 1368 = .inr (.int, 400) := by decide +kernel
theorem kd_c_1369 : jkd 1369 = .inr (.int, 400) := by decide +kernel
theorem kd_c_1370 : jkd 1370 = .inr (.int, 400) := by decide +kernel
theorem kd_c_1371 : jkd 1371 = .inr (.int, 400) := by decide +kernel
theorem kd_c_1372 : jkd 1372 = .inr (.int, 400) := by decide +kernel
theorem kd_c_1373 : jkd 1373 = .inr (.int, 400) := by decide +kernel
theorem kd_c_1374 : jkd 1374 = .inr (.int, 400) := by decide +kernel
theorem kd_c_1375 : jkd 1375 = .inr (.int, 400) := by decide +kernel
theorem kd_c_1376 : jkd 1376 = .inr (.int, 400) := by decide +kernel
theorem kd_c_1377 : jkd 1377 = .inr (.int, 400) := by decide +kernel
theorem kd_c_1378 : jkd 1378 = .inr (.int, 400) := by decide +kernel
theorem kd_c_1379 : jkd 1379 = .inr (.int, 400) := by decide +kernel
theorem kd_c_1380 : jkd 1380 = .inr (.array (.array .int), 2) := by decide +kernel
theorem rf_r_1380 (k : Nat) : jRF 1380 k = some (1381 + 193 * k) := rfl
theorem kd_r_1380 {k : Nat} (h : k < 2) : jkd (1381 + 193 * k) = .inr (.array .int, 192) := by
  have q : (List.range 2).all (fun k => decide (jkd (1381 + 193 * k) = .inr (.array .int, 192))) = true := by decide +kernel
  exact of_decide_eq_true (List.all_eq_true.mp q k (List.mem_range.mpr h))
theorem lt_r_1380 {k : Nat} (h : k < 2) : 1381 + 193 * k < NC := by show _ < 3771; omega
theorem kd_c_1381 : jkd 1381 = .inr (.array .int, 192) := by decide +kernel
theorem rf_r_1381 (k : Nat) : jRF 1381 k = some (1382 + k) := rfl
theorem kd_r_1381 {k : Nat} (h : k < 192) : jkd (1382 + k) = .inr (.int, 12) := by
  have q : (List.range 192).all (fun k => decide (jkd (1382 + k) = .inr (.int, 12))) = true := by decide +kernel
  exact of_decide_eq_true (List.all_eq_true.mp q k (List.mem_range.mpr h))
theorem lt_r_1381 {k : Nat} (h : k < 192) : 1382 + k < NC := by show _ < 3771; omega
theorem kd_c_1574 : jkd 1574 = .inr (.array .int, 192) := by decide +kernel
theorem rf_r_1574 (k : Nat) : jRF 1574 k = some (1575 + k) := rfl
theorem kd_r_1574 {k : Nat} (h : k < 192) : jkd (1575 + k) = .inr (.int, 12) := by
  have q : (List.range 192).all (fun k => decide (jkd (1575 + k) = .inr (.int, 12))) = true := by decide +kernel
  exact of_decide_eq_true (List.all_eq_true.mp q k (List.mem_range.mpr h))
theorem lt_r_1574 {k : Nat} (h : k < 192) : 1575 + k < NC := by show _ < 3771; omega
theorem kd_c_1767 : jkd 1767 = .inr (.array (.array .int), 2) := by decide +kernel
theorem rf_r_1767 (k : Nat) : jRF 1767 k = some (1768 + 193 * k) := rfl
theorem kd_r_1767 {k : Nat} (h : k < 2) : jkd (1768 + 193 * k) = .inr (.array .int, 192) := by
  have q : (List.range 2).all (fun k => decide (jkd (1768 + 193 * k) = .inr (.array .int, 192))) = true := by decide +kernel
  exact of_decide_eq_true (List.all_eq_true.mp q k (List.mem_range.mpr h))
theorem lt_r_1767 {k : Nat} (h : k < 2) : 1768 + 193 * k < NC := by show _ < 3771; omega
theorem kd_c_1768 : jkd 1768 = .inr (.array .int, 192) := by decide +kernel
theorem rf_r_1768 (k : Nat) : jRF 1768 k = some (1769 + k) := rfl
theorem kd_r_1768 {k : Nat} (h : k < 192) : jkd (1769 + k) = .inr (.int, 8) := by
  have q : (List.range 192).all (fun k => decide (jkd (1769 + k) = .inr (.int, 8))) = true := by decide +kernel
  exact of_decide_eq_true (List.all_eq_true.mp q k (List.mem_range.mpr h))
theorem lt_r_1768 {k : Nat} (h : k < 192) : 1769 + k < NC := by show _ < 3771; omega
theorem kd_c_1961 : jkd 1961 = .inr (.array .int, 192) := by decide +kernel
theorem rf_r_1961 (k : Nat) : jRF 1961 k = some (1962 + k) := rfl
theorem kd_r_1961 {k : Nat} (h : k < 192) : jkd (1962 + k) = .inr (.int, 8) := by
  have q : (List.range 192).all (fun k => decide (jkd (1962 + k) = .inr (.int, 8))) = true := by decide +kernel
  exact of_decide_eq_true (List.all_eq_true.mp q k (List.mem_range.mpr h))
theorem lt_r_1961 {k : Nat} (h : k < 192) : 1962 + k < NC := by show _ < 3771; omega
theorem kd_c_2154 : jkd 2154 = .inr (.array (.array .int), 2) := by decide +kernel
theorem rf_r_2154 (k : Nat) : jRF 2154 k = some (2155 + 401 * k) := rfl
theorem kd_r_2154 {k : Nat} (h : k < 2) : jkd (2155 + 401 * k) = .inr (.array .int, 400) := by
  have q : (List.range 2).all (fun k => decide (jkd (2155 + 401 * k) = .inr (.array .int, 400))) = true := by decide +kernel
  exact of_decide_eq_true (List.all_eq_true.mp q k (List.mem_range.mpr h))
theorem lt_r_2154 {k : Nat} (h : k < 2) : 2155 + 401 * k < NC := by show _ < 3771; omega
theorem kd_c_2155 : jkd 2155 = .inr (.array .int, 400) := by decide +kernel
theorem rf_r_2155 (k : Nat) : jRF 2155 k = some (2156 + k) := rfl
theorem kd_r_2155 {k : Nat} (h : k < 400) : jkd (2156 + k) = .inr (.int, 12) := by
  have q : (List.range 400).all (fun k => decide (jkd (2156 + k) = .inr (.int, 12))) = true := by decide +kernel
  exact of_decide_eq_true (List.all_eq_true.mp q k (List.mem_range.mpr h))
theorem lt_r_2155 {k : Nat} (h : k < 400) : 2156 + k < NC := by show _ < 3771; omega
theorem kd_c_2556 : jkd 2556 = .inr (.array .int, 400) := by decide +kernel
theorem rf_r_2556 (k : Nat) : jRF 2556 k = some (2557 + k) := rfl
theorem kd_r_2556 {k : Nat} (h : k < 400) : jkd (2557 + k) = .inr (.int, 12) := by
  have q : (List.range 400).all (fun k => decide (jkd (2557 + k) = .inr (.int, 12))) = true := by decide +kernel
  exact of_decide_eq_true (List.all_eq_true.mp q k (List.mem_range.mpr h))
theorem lt_r_2556 {k : Nat} (h : k < 400) : 2557 + k < NC := by show _ < 3771; omega
theorem kd_c_2957 : jkd 2957 = .inr (.array (.array .int), 2) := by decide +kernel
theorem rf_r_2957 (k : Nat) : jRF 2957 k = some (2958 + 401 * k) := rfl
theorem kd_r_2957 {k : Nat} (h : k < 2) : jkd (2958 + 401 * k) = .inr (.array .int, 400) := by
  have q : (List.range 2).all (fun k => decide (jkd (2958 + 401 * k) = .inr (.array .int, 400))) = true := by decide +kernel
  exact of_decide_eq_true (List.all_eq_true.mp q k (List.mem_range.mpr h))
theorem lt_r_2957 {k : Nat} (h : k < 2) : 2958 + 401 * k < NC := by show _ < 3771; omega
theorem kd_c_2958 : jkd 2958 = .inr (.array .int, 400) := by decide +kernel
theorem rf_r_2958 (k : Nat) : jRF 2958 k = some (2959 + k) := rfl
theorem kd_r_2958 {k : Nat} (h : k < 400) : jkd (2959 + k) = .inr (.int, 8) := by
  have q : (List.range 400).all (fun k => decide (jkd (2959 + k) = .inr (.int, 8))) = true := by decide +kernel
  exact of_decide_eq_true (List.all_eq_true.mp q k (List.mem_range.mpr h))
theorem lt_r_2958 {k : Nat} (h : k < 400) : 2959 + k < NC := by show _ < 3771; omega
theorem kd_c_3359 : jkd 3359 = .inr (.array .int, 400) := by decide +kernel
theorem rf_r_3359 (k : Nat) : jRF 3359 k = some (3360 + k) := rfl
theorem kd_r_3359 {k : Nat} (h : k < 400) : jkd (3360 + k) = .inr (.int, 8) := by
  have q : (List.range 400).all (fun k => decide (jkd (3360 + k) = .inr (.int, 8))) = true := by decide +kernel
  exact of_decide_eq_true (List.all_eq_true.mp q k (List.mem_range.mpr h))
theorem lt_r_3359 {k : Nat} (h : k < 400) : 3360 + k < NC := by show _ < 3771; omega
theorem kd_c_3760 : jkd 3760 = .inr (.array .int, 2) := by decide +kernel
theorem rf_r_3760 (k : Nat) : jRF 3760 k = some (3761 + k) := rfl
theorem kd_r_3760 {k : Nat} (h : k < 2) : jkd (3761 + k) = .inr (.int, 24) := by
  have q : (List.range 2).all (fun k => decide (jkd (3761 + k) = .inr (.int, 24))) = true := by decide +kernel
  exact of_decide_eq_true (List.all_eq_true.mp q k (List.mem_range.mpr h))
theorem lt_r_3760 {k : Nat} (h : k < 2) : 3761 + k < NC := by show _ < 3771; omega
theorem kd_c_3761 : jkd 3761 = .inr (.int, 24) := by decide +kernel
theorem kd_c_3762 : jkd 3762 = .inr (.int, 24) := by decide +kernel
theorem kd_c_3763 : jkd 3763 = .inr (.int, 4) := by decide +kernel
theorem kd_c_3764 : jkd 3764 = .inr (.int, 4) := by decide +kernel
theorem kd_c_3765 : jkd 3765 = .inr (.array .int, 4) := by decide +kernel
theorem rf_r_3765 (k : Nat) : jRF 3765 k = some (3766 + k) := rfl
theorem kd_r_3765 {k : Nat} (h : k < 4) : jkd (3766 + k) = .inr (.int, 40) := by
  have q : (List.range 4).all (fun k => decide (jkd (3766 + k) = .inr (.int, 40))) = true := by decide +kernel
  exact of_decide_eq_true (List.all_eq_true.mp q k (List.mem_range.mpr h))
theorem lt_r_3765 {k : Nat} (h : k < 4) : 3766 + k < NC := by show _ < 3771; omega
theorem kd_c_3766 : jkd 3766 = .inr (.int, 40) := by decide +kernel
theorem kd_c_3767 : jkd 3767 = .inr (.int, 40) := by decide +kernel
theorem kd_c_3768 : jkd 3768 = .inr (.int, 40) := by decide +kernel
theorem kd_c_3769 : jkd 3769 = .inr (.int, 40) := by decide +kernel
theorem kd_c_3770 : jkd 3770 = .inr (.int, 40) := by decide +kernel
