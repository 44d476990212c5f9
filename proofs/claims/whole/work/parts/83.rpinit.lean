/-! the packer's object -/
section RPinit
variable {l : Launch} {x : xX} {s0 : va_E}
theorem c_RP_init : xCr l x 5 71 153284 mRP_init [.ref 2] ([s0, aI 19 x_ord, .inr (0, [.null, .null, .null, .null, .null, .null])]) (fun o H' => o = none ∧ ∃ k2 k3 c1 c2 f9, PKfix k2 k3 ∧ rcOK c1 flen 288 ∧ rcOK c2 (fun _ => 5) 32 ∧ H' = (P10 s0 (.ref 11) (.ref 51) ++ PKl k2 k3) ++ UNl c1 c2 f9) := by
  refine xCt.of (by decide) rfl ck_RP_init (Nat.le_of_ble_eq_true rfl) rfl ?_
  refine b_RP_init_0 ?_
  refine xs_obj rfl lo_0_3 lo_i lo_c (by omega) (Nat.le_of_ble_eq_true rfl) ?_
  refine b_RP_init_2 ?_
  refine xs_newK (k' := 3) rfl rfl nc_0_9 rfl rfl (by decide) (by omega) (by omega) ?_
  refine b_RP_init_4 ?_
  refine xs_callI rfl lk_0_12 (d' := 1) (c_RO_init (P := [s0, aI 19 x_ord, .inr (0, [.null, .null, .null, .null, .null, .null])]) (p := 3) (n := 32768) rfl (by omega)) (by omega) rfl rfl (Nat.le_of_ble_eq_true rfl) (by omega) (by omega) ?_
  rintro _ _ ⟨rfl, rfl⟩
  refine b_RP_init_7 ⟨_, rfl, Nat.le_of_ble_eq_true rfl, fun H9 e9 => ?_⟩
  obtain rfl : H9 = [s0, aI 19 x_ord, .inr (0, [.ref 3, .null, .null, .null, .null, .null]), cRO 4 0, aB 32768 (fun _ => 0)] := e9.trans rfl
  refine xs_newK (k' := 5) rfl rfl nc_0_9 rfl rfl (by decide) (by omega) (by omega) ?_
  refine b_RP_init_10 ?_
  refine xs_callI rfl lk_0_12 (d' := 1) (c_RO_init (P := [s0, aI 19 x_ord, .inr (0, [.ref 3, .null, .null, .null, .null, .null]), cRO 4 0, aB 32768 (fun _ => 0)]) (p := 5) (n := 65536) rfl (by omega)) (by omega) rfl rfl (Nat.le_of_ble_eq_true rfl) (by omega) (by omega) ?_
  rintro _ _ ⟨rfl, rfl⟩
  refine b_RP_init_13 ⟨_, rfl, Nat.le_of_ble_eq_true rfl, fun H9 e9 => ?_⟩
  obtain rfl : H9 = [s0, aI 19 x_ord, .inr (0, [.ref 3, .ref 5, .null, .null, .null, .null]), cRO 4 0, aB 32768 (fun _ => 0), cRO 6 0, aB 65536 (fun _ => 0)] := e9.trans rfl
  refine xs_newK (k' := 7) rfl rfl nc_0_23 rfl rfl (by decide) (by omega) (by omega) ?_
  refine b_RP_init_16 ?_
  refine xs_callIN rfl lk_0_25 (d' := 1) (c_RE_init (P := [s0, aI 19 x_ord, .inr (0, [.ref 3, .ref 5, .null, .null, .null, .null]), cRO 4 0, aB 32768 (fun _ => 0), cRO 6 0, aB 65536 (fun _ => 0)]) (p := 7) rfl) (by omega) rfl rfl (Nat.le_of_ble_eq_true rfl) (by omega) (by omega) ?_
  rintro _ _ ⟨rfl, rfl⟩
  refine b_RP_init_18 ⟨_, rfl, Nat.le_of_ble_eq_true rfl, fun H9 e9 => ?_⟩
  obtain rfl : H9 = [s0, aI 19 x_ord, .inr (0, [.ref 3, .ref 5, .ref 7, .null, .null, .null]), cRO 4 0, aB 32768 (fun _ => 0), cRO 6 0, aB 65536 (fun _ => 0), cRE 8 0 (-1) 0 0, aI 256 (fun _ => 0)] := e9.trans rfl
  refine xs_newK (k' := 9) rfl rfl nc_0_30 rfl rfl (by decide) (by omega) (by omega) ?_
  refine b_RP_init_21 ?_
  refine xs_callI rfl lk_0_32 (d' := 1) (c_SU_init (P := [s0, aI 19 x_ord, .inr (0, [.ref 3, .ref 5, .ref 7, .null, .null, .null]), cRO 4 0, aB 32768 (fun _ => 0), cRO 6 0, aB 65536 (fun _ => 0), cRE 8 0 (-1) 0 0, aI 256 (fun _ => 0)]) (p := 9) rfl (by decide)) (by omega) rfl rfl (Nat.le_of_ble_eq_true rfl) (by omega) (by omega) ?_
  rintro _ _ ⟨rfl, rfl⟩
  refine b_RP_init_23 ⟨_, rfl, Nat.le_of_ble_eq_true rfl, fun H9 e9 => ?_⟩
  obtain rfl : H9 = [s0, aI 19 x_ord, .inr (0, [.ref 3, .ref 5, .ref 7, .ref 9, .null, .null]), cRO 4 0, aB 32768 (fun _ => 0), cRO 6 0, aB 65536 (fun _ => 0), cRE 8 0 (-1) 0 0, aI 256 (fun _ => 0), .inr (8, [.ref 10]), aI 256 stp] := e9.trans rfl
  refine xs_newK (k' := 11) rfl rfl nc_0_37 rfl rfl (by decide) (by omega) (by omega) ?_
  refine b_RP_init_26 ⟨_, ⟨_, rfl, rfl⟩, _, ⟨_, rfl, rfl⟩, _, ⟨_, rfl, rfl⟩, _, ⟨_, rfl, rfl⟩, ?_⟩
  refine xs_callI rfl lk_0_39 (d' := 4) (c_PK_init (s0 := s0)) (by omega) rfl rfl (Nat.le_of_ble_eq_true rfl) (by omega) (by omega) ?_
  rintro _ _ ⟨rfl, k2, k3, hfx, rfl⟩
  refine b_RP_init_36 ⟨_, rfl, Nat.le_of_ble_eq_true rfl, fun H9 e9 => ?_⟩
  obtain rfl : H9 = P10 s0 (.ref 11) .null ++ PKl k2 k3 := e9.trans rfl
  refine xs_newK (k' := 51) rfl rfl nc_0_46 rfl rfl (by decide) (by omega) (by omega) ?_
  refine b_RP_init_39 ⟨_, ⟨_, rfl, rfl⟩, _, ⟨_, rfl, rfl⟩, _, ⟨_, rfl, rfl⟩, _, ⟨_, rfl, rfl⟩, ?_⟩
  refine xs_callI rfl lk_0_48 (d' := 4) (c_UN_init (s0 := s0) (k2 := k2) (k3 := k3)) (by omega) rfl rfl (Nat.le_of_ble_eq_true rfl) (by omega) (by omega) ?_
  rintro _ _ ⟨rfl, c1, c2, f9, h1, h2, rfl⟩
  refine b_RP_init_49 ⟨_, rfl, Nat.le_of_ble_eq_true rfl, fun H9 e9 => ?_⟩
  obtain rfl : H9 = (P10 s0 (.ref 11) (.ref 51) ++ PKl k2 k3) ++ UNl c1 c2 f9 := e9.trans rfl
  exact ⟨rfl, Nat.le_of_ble_eq_true rfl, _, rfl, rfl, k2, k3, c1, c2, f9, hfx, h1, h2, rfl⟩
end RPinit
