/-! the law's ten small methods -/
theorem lw_55 : x_LSW 16 55 mLA_feed 7 := ⟨x_tb2 (List.mem_of_getElem? (i := 190) rfl), x_tb2 (List.mem_of_getElem? (i := 191) rfl), x_tb1 (List.mem_of_getElem? (i := 0) rfl), x_tb2 (List.mem_of_getElem? (i := 192) rfl), by decide +kernel, by decide⟩
theorem hd_feed_1 : x_HD mLA_feed 8 13 12 0 := ⟨0, 16, 19, 13, [], rfl, by decide +kernel, by decide +kernel, by decide, by decide +kernel, x_tb2 (List.mem_of_getElem? (i := 193) rfl), x_tb2 (List.mem_of_getElem? (i := 200) rfl)⟩
theorem lw_64 : x_LSW 16 64 mLA_end 2 := ⟨x_tb3 (List.mem_of_getElem? (i := 31) rfl), x_tb3 (List.mem_of_getElem? (i := 32) rfl), x_tb1 (List.mem_of_getElem? (i := 0) rfl), x_tb3 (List.mem_of_getElem? (i := 33) rfl), by decide +kernel, by decide⟩
theorem hd_end_1 : x_HD mLA_end 2 14 4 0 := ⟨0, 5, 8, 19, [], rfl, by decide +kernel, by decide +kernel, by decide, by decide +kernel, x_tb3 (List.mem_of_getElem? (i := 34) rfl), x_tb3 (List.mem_of_getElem? (i := 41) rfl)⟩
theorem lw_68 : x_LSW 16 68 mLA_again 4 := ⟨x_tb3 (List.mem_of_getElem? (i := 54) rfl), x_tb3 (List.mem_of_getElem? (i := 55) rfl), x_tb1 (List.mem_of_getElem? (i := 0) rfl), x_tb3 (List.mem_of_getElem? (i := 56) rfl), by decide +kernel, by decide⟩
theorem hd_again_1 : x_HD mLA_again 5 14 9 0 := ⟨0, 10, 13, 19, [(0, 10, 17, 13)], rfl, by decide +kernel, by decide +kernel, by decide, by decide +kernel, x_tb3 (List.mem_of_getElem? (i := 34) rfl), x_tb3 (List.mem_of_getElem? (i := 41) rfl)⟩
theorem hd_again_2 : x_HD mLA_again 5 13 12 1 := ⟨0, 10, 13, 19, 0, 10, 17, 13, 14, [], rfl, ⟨by decide +kernel, by decide +kernel⟩, ⟨by decide +kernel, by decide +kernel⟩, by decide, by decide, by decide +kernel, x_tb3 (List.mem_of_getElem? (i := 34) rfl), x_tb2 (List.mem_of_getElem? (i := 193) rfl), x_tb2 (List.mem_of_getElem? (i := 200) rfl), by decide⟩
theorem lw_72 : x_LSW 16 72 mLA_change 4 := ⟨x_tb3 (List.mem_of_getElem? (i := 65) rfl), x_tb3 (List.mem_of_getElem? (i := 66) rfl), x_tb1 (List.mem_of_getElem? (i := 0) rfl), x_tb3 (List.mem_of_getElem? (i := 67) rfl), by decide +kernel, by decide⟩
theorem hd_change_1 : x_HD mLA_change 5 15 9 0 := ⟨0, 10, 13, 28, [(0, 10, 17, 19)], rfl, by decide +kernel, by decide +kernel, by decide, by decide +kernel, x_tb3 (List.mem_of_getElem? (i := 68) rfl), x_tb3 (List.mem_of_getElem? (i := 75) rfl)⟩
theorem hd_change_2 : x_HD mLA_change 5 14 12 1 := ⟨0, 10, 13, 28, 0, 10, 17, 19, 15, [], rfl, ⟨by decide +kernel, by decide +kernel⟩, ⟨by decide +kernel, by decide +kernel⟩, by decide, by decide, by decide +kernel, x_tb3 (List.mem_of_getElem? (i := 68) rfl), x_tb3 (List.mem_of_getElem? (i := 34) rfl), x_tb3 (List.mem_of_getElem? (i := 41) rfl), by decide⟩
theorem lw_75 : x_LSW 16 75 mLA_pack 3 := ⟨x_tb3 (List.mem_of_getElem? (i := 92) rfl), x_tb3 (List.mem_of_getElem? (i := 93) rfl), x_tb1 (List.mem_of_getElem? (i := 0) rfl), x_tb3 (List.mem_of_getElem? (i := 94) rfl), by decide +kernel, by decide⟩
theorem hd_pack_1 : x_HD mLA_pack 4 14 8 0 := ⟨0, 9, 12, 19, [], rfl, by decide +kernel, by decide +kernel, by decide, by decide +kernel, x_tb3 (List.mem_of_getElem? (i := 34) rfl), x_tb3 (List.mem_of_getElem? (i := 41) rfl)⟩
theorem lw_79 : x_LSW 16 79 mLA_unpack 3 := ⟨x_tb4 (List.mem_of_getElem? (i := 74) rfl), x_tb4 (List.mem_of_getElem? (i := 75) rfl), x_tb1 (List.mem_of_getElem? (i := 0) rfl), x_tb4 (List.mem_of_getElem? (i := 76) rfl), by decide +kernel, by decide⟩
theorem hd_unpack_1 : x_HD mLA_unpack 4 14 8 0 := ⟨0, 9, 12, 19, [], rfl, by decide +kernel, by decide +kernel, by decide, by decide +kernel, x_tb3 (List.mem_of_getElem? (i := 34) rfl), x_tb3 (List.mem_of_getElem? (i := 41) rfl)⟩
theorem lw_94 : x_LSW 16 94 mLA_out 3 := ⟨x_tb5 (List.mem_of_getElem? (i := 228) rfl), x_tb5 (List.mem_of_getElem? (i := 229) rfl), x_tb1 (List.mem_of_getElem? (i := 0) rfl), x_tb5 (List.mem_of_getElem? (i := 230) rfl), by decide +kernel, by decide⟩
theorem hd_out_1 : x_HD mLA_out 4 15 8 0 := ⟨0, 9, 12, 28, [], rfl, by decide +kernel, by decide +kernel, by decide, by decide +kernel, x_tb3 (List.mem_of_getElem? (i := 68) rfl), x_tb3 (List.mem_of_getElem? (i := 75) rfl)⟩
theorem lw_97 : x_LSW 16 97 mLA_turn 2 := ⟨x_tb5 (List.mem_of_getElem? (i := 235) rfl), x_tb5 (List.mem_of_getElem? (i := 236) rfl), x_tb1 (List.mem_of_getElem? (i := 0) rfl), x_tb5 (List.mem_of_getElem? (i := 237) rfl), by decide +kernel, by decide⟩
theorem hd_turn_1 : x_HD mLA_turn 3 13 7 0 := ⟨0, 8, 11, 13, [], rfl, by decide +kernel, by decide +kernel, by decide, by decide +kernel, x_tb2 (List.mem_of_getElem? (i := 193) rfl), x_tb2 (List.mem_of_getElem? (i := 200) rfl)⟩
theorem lw_101 : x_LSW 16 101 mLA_sum 3 := ⟨x_tb6 (List.mem_of_getElem? (i := 3) rfl), x_tb6 (List.mem_of_getElem? (i := 4) rfl), x_tb1 (List.mem_of_getElem? (i := 0) rfl), x_tb6 (List.mem_of_getElem? (i := 5) rfl), by decide +kernel, by decide⟩
theorem hd_sum_1 : x_HD mLA_sum 4 14 7 0 := ⟨0, 8, 11, 19, [], rfl, by decide +kernel, by decide +kernel, by decide, by decide +kernel, x_tb3 (List.mem_of_getElem? (i := 34) rfl), x_tb3 (List.mem_of_getElem? (i := 41) rfl)⟩
theorem lw_108 : x_LSW 16 108 mLA_block 4 := ⟨x_tb6 (List.mem_of_getElem? (i := 12) rfl), x_tb6 (List.mem_of_getElem? (i := 13) rfl), x_tb1 (List.mem_of_getElem? (i := 0) rfl), x_tb6 (List.mem_of_getElem? (i := 14) rfl), by decide +kernel, by decide⟩
theorem hd_block_1 : x_HD mLA_block 5 15 9 0 := ⟨0, 10, 13, 28, [(0, 10, 17, 19)], rfl, by decide +kernel, by decide +kernel, by decide, by decide +kernel, x_tb3 (List.mem_of_getElem? (i := 68) rfl), x_tb3 (List.mem_of_getElem? (i := 75) rfl)⟩
theorem hd_block_2 : x_HD mLA_block 5 14 12 1 := ⟨0, 10, 13, 28, 0, 10, 17, 19, 15, [], rfl, ⟨by decide +kernel, by decide +kernel⟩, ⟨by decide +kernel, by decide +kernel⟩, by decide, by decide, by decide +kernel, x_tb3 (List.mem_of_getElem? (i := 68) rfl), x_tb3 (List.mem_of_getElem? (i := 34) rfl), x_tb3 (List.mem_of_getElem? (i := 41) rfl), by decide⟩
section Helpers
variable {l : Launch} {x : xX} {H : xH} {v1 v2 v3 v4 v5 : Int32} {d : Nat} {fs : List Value}
theorem h_LA_feed_1 (hr : H[2]? = some (.inr (0, fs))) (h : xCx l x mRP_feed [.ref 2, .int v1, .int v2, .int v3, .int v4, .int v5] H 13) : xCtW l x 7 1 6 mLA_feed [.ref 2, .int v1, .int v2, .int v3, .int v4, .int v5, .ref 95] H (fun v H' => v = some (.int 1) ∧ H' = H ++ [.inr (13, [])]) := by
  refine xCtW.of (by decide) rfl ck_LA_feed (Nat.le_of_ble_eq_true rfl) ?_
  refine b_LA_feed_0 ?_
  refine xs_callVT (As := [.int v1, .int v2, .int v3, .int v4, .int v5]) rfl lk_16_7 h (by decide) hr rfl rfl rfl rfl (Nat.le_of_ble_eq_true rfl) (Nat.le_refl _) (Nat.le_refl _) ?_ rfl rfl hd_feed_1 ?_
  · rintro a H1 ⟨rfl, rfl⟩; exact List.getElem?_concat_length
  · rintro a H1 ⟨rfl, rfl⟩; exact b_LA_feed_12 ⟨rfl, Nat.le_refl _, _, rfl, rfl, rfl⟩
theorem h_LA_feed {Qr : Option Value → xH → Prop} (hr : H[2]? = some (.inr (0, fs))) (h : xCr l x d 0 0 mRP_feed [.ref 2, .int v1, .int v2, .int v3, .int v4, .int v5] H Qr) (hq : ∀ v H1, Qr v H1 → ∃ (r : Int32) (f : Nat → Int64), v = some (.int r) ∧ H1[95]? = some (aJ 1 f)) : xCtW l x (d + 1) 0 0 mLA_feed [.ref 2, .int v1, .int v2, .int v3, .int v4, .int v5, .ref 95] H (fun v H' => v = some (.int 0) ∧ ∃ (r : Int32) (f : Nat → Int64) (H1 : xH), Qr (some (.int r)) H1 ∧ H1[95]? = some (aJ 1 f) ∧ H' = H1.set 95 (aJ 1 (vp_updL f 0 (r.toInt64)))) := by
  refine xCtW.of (by decide) rfl ck_LA_feed (Nat.le_of_ble_eq_true rfl) ?_
  refine b_LA_feed_0 ?_
  refine xs_callV (As := [.int v1, .int v2, .int v3, .int v4, .int v5]) rfl lk_16_7 h (Nat.le_refl _) hr rfl rfl rfl rfl (Nat.le_of_ble_eq_true rfl) (Nat.le_refl _) (Nat.le_refl _) ?_
  intro v H1 hv
  obtain ⟨r, f, rfl, h95⟩ := hq v H1 hv
  refine b_LA_feed_9 ⟨_, _, h95, vp_in_nI (n := 0) (by decide) (by decide), fun H3 e3 => ?_⟩
  exact ⟨rfl, Nat.le_refl _, _, rfl, rfl, r, f, H1, hv, h95, e3⟩
theorem h_LA_end_1 (hr : H[2]? = some (.inr (0, fs))) (h : xCx l x mRP_end [.ref 2, .int v1] H 14) : xCtW l x 7 1 6 mLA_end [.ref 2, .int v1] H (fun v H' => v = some (.int 1) ∧ H' = H ++ [.inr (14, [])]) := by
  refine xCtW.of (by decide) rfl ck_LA_end (Nat.le_of_ble_eq_true rfl) ?_
  refine b_LA_end_0 ?_
  refine xs_callVT (As := [.int v1]) rfl lk_16_15 h (by decide) hr rfl rfl rfl rfl (Nat.le_of_ble_eq_true rfl) (Nat.le_refl _) (Nat.le_refl _) ?_ rfl rfl hd_end_1 ?_
  · rintro a H1 ⟨rfl, rfl⟩; exact List.getElem?_concat_length
  · rintro a H1 ⟨rfl, rfl⟩; exact b_LA_end_4 ⟨rfl, Nat.le_refl _, _, rfl, rfl, rfl⟩
theorem h_LA_end {Qr : Option Value → xH → Prop} (hr : H[2]? = some (.inr (0, fs))) (h : xCr l x d 0 0 mRP_end [.ref 2, .int v1] H Qr) (hq : ∀ v H1, Qr v H1 → v = none) : xCtW l x (d + 1) 0 0 mLA_end [.ref 2, .int v1] H (fun v H' => v = some (.int 0) ∧ Qr none H') := by
  refine xCtW.of (by decide) rfl ck_LA_end (Nat.le_of_ble_eq_true rfl) ?_
  refine b_LA_end_0 ?_
  refine xs_callV (As := [.int v1]) rfl lk_16_15 h (Nat.le_refl _) hr rfl rfl rfl rfl (Nat.le_of_ble_eq_true rfl) (Nat.le_refl _) (Nat.le_refl _) ?_
  intro v H1 hv
  obtain rfl := hq v H1 hv
  exact b_LA_end_3 ⟨rfl, Nat.le_refl _, _, rfl, rfl, hv⟩
theorem h_LA_again_1 (hr : H[2]? = some (.inr (0, fs))) (h : xCx l x mRP_again [.ref 2, .int v1, .int v2] H 14) : xCtW l x 7 1 6 mLA_again [.ref 2, .int v1, .int v2, .ref 95] H (fun v H' => v = some (.int 1) ∧ H' = H ++ [.inr (14, [])]) := by
  refine xCtW.of (by decide) rfl ck_LA_again (Nat.le_of_ble_eq_true rfl) ?_
  refine b_LA_again_0 ?_
  refine xs_callVT (As := [.int v1, .int v2]) rfl lk_16_21 h (by decide) hr rfl rfl rfl rfl (Nat.le_of_ble_eq_true rfl) (Nat.le_refl _) (Nat.le_refl _) ?_ rfl rfl hd_again_1 ?_
  · rintro a H1 ⟨rfl, rfl⟩; exact List.getElem?_concat_length
  · rintro a H1 ⟨rfl, rfl⟩; exact b_LA_again_9 ⟨rfl, Nat.le_refl _, _, rfl, rfl, rfl⟩
theorem h_LA_again_2 (hr : H[2]? = some (.inr (0, fs))) (h : xCx l x mRP_again [.ref 2, .int v1, .int v2] H 13) : xCtW l x 7 1 6 mLA_again [.ref 2, .int v1, .int v2, .ref 95] H (fun v H' => v = some (.int 2) ∧ H' = H ++ [.inr (13, [])]) := by
  refine xCtW.of (by decide) rfl ck_LA_again (Nat.le_of_ble_eq_true rfl) ?_
  refine b_LA_again_0 ?_
  refine xs_callVT (As := [.int v1, .int v2]) rfl lk_16_21 h (by decide) hr rfl rfl rfl rfl (Nat.le_of_ble_eq_true rfl) (Nat.le_refl _) (Nat.le_refl _) ?_ rfl rfl hd_again_2 ?_
  · rintro a H1 ⟨rfl, rfl⟩; exact List.getElem?_concat_length
  · rintro a H1 ⟨rfl, rfl⟩; exact b_LA_again_12 ⟨rfl, Nat.le_refl _, _, rfl, rfl, rfl⟩
theorem h_LA_again {Qr : Option Value → xH → Prop} (hr : H[2]? = some (.inr (0, fs))) (h : xCr l x d 0 0 mRP_again [.ref 2, .int v1, .int v2] H Qr) (hq : ∀ v H1, Qr v H1 → ∃ (r : Int32) (f : Nat → Int64), v = some (.int r) ∧ H1[95]? = some (aJ 1 f)) : xCtW l x (d + 1) 0 0 mLA_again [.ref 2, .int v1, .int v2, .ref 95] H (fun v H' => v = some (.int 0) ∧ ∃ (r : Int32) (f : Nat → Int64) (H1 : xH), Qr (some (.int r)) H1 ∧ H1[95]? = some (aJ 1 f) ∧ H' = H1.set 95 (aJ 1 (vp_updL f 0 (r.toInt64)))) := by
  refine xCtW.of (by decide) rfl ck_LA_again (Nat.le_of_ble_eq_true rfl) ?_
  refine b_LA_again_0 ?_
  refine xs_callV (As := [.int v1, .int v2]) rfl lk_16_21 h (Nat.le_refl _) hr rfl rfl rfl rfl (Nat.le_of_ble_eq_true rfl) (Nat.le_refl _) (Nat.le_refl _) ?_
  intro v H1 hv
  obtain ⟨r, f, rfl, h95⟩ := hq v H1 hv
  refine b_LA_again_6 ⟨_, _, h95, vp_in_nI (n := 0) (by decide) (by decide), fun H3 e3 => ?_⟩
  exact ⟨rfl, Nat.le_refl _, _, rfl, rfl, r, f, H1, hv, h95, e3⟩
theorem h_LA_change_1 (hr : H[2]? = some (.inr (0, fs))) (h : xCx l x mRP_change [.ref 2, .int v1, .int v2] H 15) : xCtW l x 7 1 6 mLA_change [.ref 2, .int v1, .int v2, .ref 95] H (fun v H' => v = some (.int 1) ∧ H' = H ++ [.inr (15, [])]) := by
  refine xCtW.of (by decide) rfl ck_LA_change (Nat.le_of_ble_eq_true rfl) ?_
  refine b_LA_change_0 ?_
  refine xs_callVT (As := [.int v1, .int v2]) rfl lk_16_25 h (by decide) hr rfl rfl rfl rfl (Nat.le_of_ble_eq_true rfl) (Nat.le_refl _) (Nat.le_refl _) ?_ rfl rfl hd_change_1 ?_
  · rintro a H1 ⟨rfl, rfl⟩; exact List.getElem?_concat_length
  · rintro a H1 ⟨rfl, rfl⟩; exact b_LA_change_9 ⟨rfl, Nat.le_refl _, _, rfl, rfl, rfl⟩
theorem h_LA_change_2 (hr : H[2]? = some (.inr (0, fs))) (h : xCx l x mRP_change [.ref 2, .int v1, .int v2] H 14) : xCtW l x 7 1 6 mLA_change [.ref 2, .int v1, .int v2, .ref 95] H (fun v H' => v = some (.int 2) ∧ H' = H ++ [.inr (14, [])]) := by
  refine xCtW.of (by decide) rfl ck_LA_change (Nat.le_of_ble_eq_true rfl) ?_
  refine b_LA_change_0 ?_
  refine xs_callVT (As := [.int v1, .int v2]) rfl lk_16_25 h (by decide) hr rfl rfl rfl rfl (Nat.le_of_ble_eq_true rfl) (Nat.le_refl _) (Nat.le_refl _) ?_ rfl rfl hd_change_2 ?_
  · rintro a H1 ⟨rfl, rfl⟩; exact List.getElem?_concat_length
  · rintro a H1 ⟨rfl, rfl⟩; exact b_LA_change_12 ⟨rfl, Nat.le_refl _, _, rfl, rfl, rfl⟩
theorem h_LA_change {Qr : Option Value → xH → Prop} (hr : H[2]? = some (.inr (0, fs))) (h : xCr l x d 0 0 mRP_change [.ref 2, .int v1, .int v2] H Qr) (hq : ∀ v H1, Qr v H1 → ∃ (r : Int32) (f : Nat → Int64), v = some (.int r) ∧ H1[95]? = some (aJ 1 f)) : xCtW l x (d + 1) 0 0 mLA_change [.ref 2, .int v1, .int v2, .ref 95] H (fun v H' => v = some (.int 0) ∧ ∃ (r : Int32) (f : Nat → Int64) (H1 : xH), Qr (some (.int r)) H1 ∧ H1[95]? = some (aJ 1 f) ∧ H' = H1.set 95 (aJ 1 (vp_updL f 0 (r.toInt64)))) := by
  refine xCtW.of (by decide) rfl ck_LA_change (Nat.le_of_ble_eq_true rfl) ?_
  refine b_LA_change_0 ?_
  refine xs_callV (As := [.int v1, .int v2]) rfl lk_16_25 h (Nat.le_refl _) hr rfl rfl rfl rfl (Nat.le_of_ble_eq_true rfl) (Nat.le_refl _) (Nat.le_refl _) ?_
  intro v H1 hv
  obtain ⟨r, f, rfl, h95⟩ := hq v H1 hv
  refine b_LA_change_6 ⟨_, _, h95, vp_in_nI (n := 0) (by decide) (by decide), fun H3 e3 => ?_⟩
  exact ⟨rfl, Nat.le_refl _, _, rfl, rfl, r, f, H1, hv, h95, e3⟩
theorem h_LA_pack_1 (hr : H[2]? = some (.inr (0, fs))) (h : xCx l x mRP_pack [.ref 2, .int v1] H 14) : xCtW l x 7 1 6 mLA_pack [.ref 2, .int v1, .ref 95] H (fun v H' => v = some (.int 1) ∧ H' = H ++ [.inr (14, [])]) := by
  refine xCtW.of (by decide) rfl ck_LA_pack (Nat.le_of_ble_eq_true rfl) ?_
  refine b_LA_pack_0 ?_
  refine xs_callVT (As := [.int v1]) rfl lk_16_30 h (by decide) hr rfl rfl rfl rfl (Nat.le_of_ble_eq_true rfl) (Nat.le_refl _) (Nat.le_refl _) ?_ rfl rfl hd_pack_1 ?_
  · rintro a H1 ⟨rfl, rfl⟩; exact List.getElem?_concat_length
  · rintro a H1 ⟨rfl, rfl⟩; exact b_LA_pack_8 ⟨rfl, Nat.le_refl _, _, rfl, rfl, rfl⟩
theorem h_LA_pack {Qr : Option Value → xH → Prop} (hr : H[2]? = some (.inr (0, fs))) (h : xCr l x d 0 0 mRP_pack [.ref 2, .int v1] H Qr) (hq : ∀ v H1, Qr v H1 → ∃ (r : Int32) (f : Nat → Int64), v = some (.int r) ∧ H1[95]? = some (aJ 1 f)) : xCtW l x (d + 1) 0 0 mLA_pack [.ref 2, .int v1, .ref 95] H (fun v H' => v = some (.int 0) ∧ ∃ (r : Int32) (f : Nat → Int64) (H1 : xH), Qr (some (.int r)) H1 ∧ H1[95]? = some (aJ 1 f) ∧ H' = H1.set 95 (aJ 1 (vp_updL f 0 (r.toInt64)))) := by
  refine xCtW.of (by decide) rfl ck_LA_pack (Nat.le_of_ble_eq_true rfl) ?_
  refine b_LA_pack_0 ?_
  refine xs_callV (As := [.int v1]) rfl lk_16_30 h (Nat.le_refl _) hr rfl rfl rfl rfl (Nat.le_of_ble_eq_true rfl) (Nat.le_refl _) (Nat.le_refl _) ?_
  intro v H1 hv
  obtain ⟨r, f, rfl, h95⟩ := hq v H1 hv
  refine b_LA_pack_5 ⟨_, _, h95, vp_in_nI (n := 0) (by decide) (by decide), fun H3 e3 => ?_⟩
  exact ⟨rfl, Nat.le_refl _, _, rfl, rfl, r, f, H1, hv, h95, e3⟩
theorem h_LA_unpack_1 (hr : H[2]? = some (.inr (0, fs))) (h : xCx l x mRP_unpack [.ref 2, .int v1] H 14) : xCtW l x 7 1 6 mLA_unpack [.ref 2, .int v1, .ref 95] H (fun v H' => v = some (.int 1) ∧ H' = H ++ [.inr (14, [])]) := by
  refine xCtW.of (by decide) rfl ck_LA_unpack (Nat.le_of_ble_eq_true rfl) ?_
  refine b_LA_unpack_0 ?_
  refine xs_callVT (As := [.int v1]) rfl lk_16_34 h (by decide) hr rfl rfl rfl rfl (Nat.le_of_ble_eq_true rfl) (Nat.le_refl _) (Nat.le_refl _) ?_ rfl rfl hd_unpack_1 ?_
  · rintro a H1 ⟨rfl, rfl⟩; exact List.getElem?_concat_length
  · rintro a H1 ⟨rfl, rfl⟩; exact b_LA_unpack_8 ⟨rfl, Nat.le_refl _, _, rfl, rfl, rfl⟩
theorem h_LA_unpack {Qr : Option Value → xH → Prop} (hr : H[2]? = some (.inr (0, fs))) (h : xCr l x d 0 0 mRP_unpack [.ref 2, .int v1] H Qr) (hq : ∀ v H1, Qr v H1 → ∃ (r : Int32) (f : Nat → Int64), v = some (.int r) ∧ H1[95]? = some (aJ 1 f)) : xCtW l x (d + 1) 0 0 mLA_unpack [.ref 2, .int v1, .ref 95] H (fun v H' => v = some (.int 0) ∧ ∃ (r : Int32) (f : Nat → Int64) (H1 : xH), Qr (some (.int r)) H1 ∧ H1[95]? = some (aJ 1 f) ∧ H' = H1.set 95 (aJ 1 (vp_updL f 0 (r.toInt64)))) := by
  refine xCtW.of (by decide) rfl ck_LA_unpack (Nat.le_of_ble_eq_true rfl) ?_
  refine b_LA_unpack_0 ?_
  refine xs_callV (As := [.int v1]) rfl lk_16_34 h (Nat.le_refl _) hr rfl rfl rfl rfl (Nat.le_of_ble_eq_true rfl) (Nat.le_refl _) (Nat.le_refl _) ?_
  intro v H1 hv
  obtain ⟨r, f, rfl, h95⟩ := hq v H1 hv
  refine b_LA_unpack_5 ⟨_, _, h95, vp_in_nI (n := 0) (by decide) (by decide), fun H3 e3 => ?_⟩
  exact ⟨rfl, Nat.le_refl _, _, rfl, rfl, r, f, H1, hv, h95, e3⟩
theorem h_LA_out_1 (hr : H[2]? = some (.inr (0, fs))) (h : xCx l x mRP_out [.ref 2, .int v1] H 15) : xCtW l x 7 1 6 mLA_out [.ref 2, .int v1, .ref 95] H (fun v H' => v = some (.int 1) ∧ H' = H ++ [.inr (15, [])]) := by
  refine xCtW.of (by decide) rfl ck_LA_out (Nat.le_of_ble_eq_true rfl) ?_
  refine b_LA_out_0 ?_
  refine xs_callVT (As := [.int v1]) rfl lk_16_37 h (by decide) hr rfl rfl rfl rfl (Nat.le_of_ble_eq_true rfl) (Nat.le_refl _) (Nat.le_refl _) ?_ rfl rfl hd_out_1 ?_
  · rintro a H1 ⟨rfl, rfl⟩; exact List.getElem?_concat_length
  · rintro a H1 ⟨rfl, rfl⟩; exact b_LA_out_8 ⟨rfl, Nat.le_refl _, _, rfl, rfl, rfl⟩
theorem h_LA_out {Qr : Option Value → xH → Prop} (hr : H[2]? = some (.inr (0, fs))) (h : xCr l x d 0 0 mRP_out [.ref 2, .int v1] H Qr) (hq : ∀ v H1, Qr v H1 → ∃ (r : Int32) (f : Nat → Int64), v = some (.int r) ∧ H1[95]? = some (aJ 1 f)) : xCtW l x (d + 1) 0 0 mLA_out [.ref 2, .int v1, .ref 95] H (fun v H' => v = some (.int 0) ∧ ∃ (r : Int32) (f : Nat → Int64) (H1 : xH), Qr (some (.int r)) H1 ∧ H1[95]? = some (aJ 1 f) ∧ H' = H1.set 95 (aJ 1 (vp_updL f 0 (r.toInt64)))) := by
  refine xCtW.of (by decide) rfl ck_LA_out (Nat.le_of_ble_eq_true rfl) ?_
  refine b_LA_out_0 ?_
  refine xs_callV (As := [.int v1]) rfl lk_16_37 h (Nat.le_refl _) hr rfl rfl rfl rfl (Nat.le_of_ble_eq_true rfl) (Nat.le_refl _) (Nat.le_refl _) ?_
  intro v H1 hv
  obtain ⟨r, f, rfl, h95⟩ := hq v H1 hv
  refine b_LA_out_5 ⟨_, _, h95, vp_in_nI (n := 0) (by decide) (by decide), fun H3 e3 => ?_⟩
  exact ⟨rfl, Nat.le_refl _, _, rfl, rfl, r, f, H1, hv, h95, e3⟩
theorem h_LA_turn_1 (hr : H[2]? = some (.inr (0, fs))) (h : xCx l x mRP_turn [.ref 2] H 13) : xCtW l x 7 1 6 mLA_turn [.ref 2, .ref 95] H (fun v H' => v = some (.int 1) ∧ H' = H ++ [.inr (13, [])]) := by
  refine xCtW.of (by decide) rfl ck_LA_turn (Nat.le_of_ble_eq_true rfl) ?_
  refine b_LA_turn_0 ?_
  refine xs_callVT (As := []) rfl lk_16_40 h (by decide) hr rfl rfl rfl rfl (Nat.le_of_ble_eq_true rfl) (Nat.le_refl _) (Nat.le_refl _) ?_ rfl rfl hd_turn_1 ?_
  · rintro a H1 ⟨rfl, rfl⟩; exact List.getElem?_concat_length
  · rintro a H1 ⟨rfl, rfl⟩; exact b_LA_turn_7 ⟨rfl, Nat.le_refl _, _, rfl, rfl, rfl⟩
theorem h_LA_turn {Qr : Option Value → xH → Prop} (hr : H[2]? = some (.inr (0, fs))) (h : xCr l x d 0 0 mRP_turn [.ref 2] H Qr) (hq : ∀ v H1, Qr v H1 → ∃ (r : Int32) (f : Nat → Int64), v = some (.int r) ∧ H1[95]? = some (aJ 1 f)) : xCtW l x (d + 1) 0 0 mLA_turn [.ref 2, .ref 95] H (fun v H' => v = some (.int 0) ∧ ∃ (r : Int32) (f : Nat → Int64) (H1 : xH), Qr (some (.int r)) H1 ∧ H1[95]? = some (aJ 1 f) ∧ H' = H1.set 95 (aJ 1 (vp_updL f 0 (r.toInt64)))) := by
  refine xCtW.of (by decide) rfl ck_LA_turn (Nat.le_of_ble_eq_true rfl) ?_
  refine b_LA_turn_0 ?_
  refine xs_callV (As := []) rfl lk_16_40 h (Nat.le_refl _) hr rfl rfl rfl rfl (Nat.le_of_ble_eq_true rfl) (Nat.le_refl _) (Nat.le_refl _) ?_
  intro v H1 hv
  obtain ⟨r, f, rfl, h95⟩ := hq v H1 hv
  refine b_LA_turn_4 ⟨_, _, h95, vp_in_nI (n := 0) (by decide) (by decide), fun H3 e3 => ?_⟩
  exact ⟨rfl, Nat.le_refl _, _, rfl, rfl, r, f, H1, hv, h95, e3⟩
theorem h_LA_sum_1 (hr : H[2]? = some (.inr (0, fs))) (h : xCx l x mRP_sum [.ref 2, .int v1] H 14) : xCtW l x 7 1 6 mLA_sum [.ref 2, .int v1, .ref 95] H (fun v H' => v = some (.int 1) ∧ H' = H ++ [.inr (14, [])]) := by
  refine xCtW.of (by decide) rfl ck_LA_sum (Nat.le_of_ble_eq_true rfl) ?_
  refine b_LA_sum_0 ?_
  refine xs_callVT (As := [.int v1]) rfl lk_16_44 h (by decide) hr rfl rfl rfl rfl (Nat.le_of_ble_eq_true rfl) (Nat.le_refl _) (Nat.le_refl _) ?_ rfl rfl hd_sum_1 ?_
  · rintro a H1 ⟨rfl, rfl⟩; exact List.getElem?_concat_length
  · rintro a H1 ⟨rfl, rfl⟩; exact b_LA_sum_7 ⟨rfl, Nat.le_refl _, _, rfl, rfl, rfl⟩
theorem h_LA_sum {Qr : Option Value → xH → Prop} (hr : H[2]? = some (.inr (0, fs))) (h : xCr l x d 0 0 mRP_sum [.ref 2, .int v1] H Qr) (hq : ∀ v H1, Qr v H1 → ∃ (r : Int64) (f : Nat → Int64), v = some (.long r) ∧ H1[95]? = some (aJ 1 f)) : xCtW l x (d + 1) 0 0 mLA_sum [.ref 2, .int v1, .ref 95] H (fun v H' => v = some (.int 0) ∧ ∃ (r : Int64) (f : Nat → Int64) (H1 : xH), Qr (some (.long r)) H1 ∧ H1[95]? = some (aJ 1 f) ∧ H' = H1.set 95 (aJ 1 (vp_updL f 0 (r)))) := by
  refine xCtW.of (by decide) rfl ck_LA_sum (Nat.le_of_ble_eq_true rfl) ?_
  refine b_LA_sum_0 ?_
  refine xs_callV (As := [.int v1]) rfl lk_16_44 h (Nat.le_refl _) hr rfl rfl rfl rfl (Nat.le_of_ble_eq_true rfl) (Nat.le_refl _) (Nat.le_refl _) ?_
  intro v H1 hv
  obtain ⟨r, f, rfl, h95⟩ := hq v H1 hv
  refine b_LA_sum_5 ⟨_, _, h95, vp_in_nI (n := 0) (by decide) (by decide), fun H3 e3 => ?_⟩
  exact ⟨rfl, Nat.le_refl _, _, rfl, rfl, r, f, H1, hv, h95, e3⟩
theorem h_LA_block_1 (hr : H[2]? = some (.inr (0, fs))) (h : xCx l x mRP_block [.ref 2, .int v1, .int v2] H 15) : xCtW l x 7 1 6 mLA_block [.ref 2, .int v1, .int v2, .ref 95] H (fun v H' => v = some (.int 1) ∧ H' = H ++ [.inr (15, [])]) := by
  refine xCtW.of (by decide) rfl ck_LA_block (Nat.le_of_ble_eq_true rfl) ?_
  refine b_LA_block_0 ?_
  refine xs_callVT (As := [.int v1, .int v2]) rfl lk_16_48 h (by decide) hr rfl rfl rfl rfl (Nat.le_of_ble_eq_true rfl) (Nat.le_refl _) (Nat.le_refl _) ?_ rfl rfl hd_block_1 ?_
  · rintro a H1 ⟨rfl, rfl⟩; exact List.getElem?_concat_length
  · rintro a H1 ⟨rfl, rfl⟩; exact b_LA_block_9 ⟨rfl, Nat.le_refl _, _, rfl, rfl, rfl⟩
theorem h_LA_block_2 (hr : H[2]? = some (.inr (0, fs))) (h : xCx l x mRP_block [.ref 2, .int v1, .int v2] H 14) : xCtW l x 7 1 6 mLA_block [.ref 2, .int v1, .int v2, .ref 95] H (fun v H' => v = some (.int 2) ∧ H' = H ++ [.inr (14, [])]) := by
  refine xCtW.of (by decide) rfl ck_LA_block (Nat.le_of_ble_eq_true rfl) ?_
  refine b_LA_block_0 ?_
  refine xs_callVT (As := [.int v1, .int v2]) rfl lk_16_48 h (by decide) hr rfl rfl rfl rfl (Nat.le_of_ble_eq_true rfl) (Nat.le_refl _) (Nat.le_refl _) ?_ rfl rfl hd_block_2 ?_
  · rintro a H1 ⟨rfl, rfl⟩; exact List.getElem?_concat_length
  · rintro a H1 ⟨rfl, rfl⟩; exact b_LA_block_12 ⟨rfl, Nat.le_refl _, _, rfl, rfl, rfl⟩
theorem h_LA_block {Qr : Option Value → xH → Prop} (hr : H[2]? = some (.inr (0, fs))) (h : xCr l x d 0 0 mRP_block [.ref 2, .int v1, .int v2] H Qr) (hq : ∀ v H1, Qr v H1 → ∃ (r : Int32) (f : Nat → Int64), v = some (.int r) ∧ H1[95]? = some (aJ 1 f)) : xCtW l x (d + 1) 0 0 mLA_block [.ref 2, .int v1, .int v2, .ref 95] H (fun v H' => v = some (.int 0) ∧ ∃ (r : Int32) (f : Nat → Int64) (H1 : xH), Qr (some (.int r)) H1 ∧ H1[95]? = some (aJ 1 f) ∧ H' = H1.set 95 (aJ 1 (vp_updL f 0 (r.toInt64)))) := by
  refine xCtW.of (by decide) rfl ck_LA_block (Nat.le_of_ble_eq_true rfl) ?_
  refine b_LA_block_0 ?_
  refine xs_callV (As := [.int v1, .int v2]) rfl lk_16_48 h (Nat.le_refl _) hr rfl rfl rfl rfl (Nat.le_of_ble_eq_true rfl) (Nat.le_refl _) (Nat.le_refl _) ?_
  intro v H1 hv
  obtain ⟨r, f, rfl, h95⟩ := hq v H1 hv
  refine b_LA_block_6 ⟨_, _, h95, vp_in_nI (n := 0) (by decide) (by decide), fun H3 e3 => ?_⟩
  exact ⟨rfl, Nat.le_refl _, _, rfl, rfl, r, f, H1, hv, h95, e3⟩
end Helpers
