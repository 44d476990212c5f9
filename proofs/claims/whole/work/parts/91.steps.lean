/-! each call of the law keeps class and model alike -/
section Steps
variable {l : Launch} {x : xX} {Ls : Nat} {xs : Nat → Int32} {i : Nat} {T R : wRow} {P : wRp} {td : Nat → Nat}
theorem st_feed (hf : l.flags = flags0) (hL : Ls ≤ 3072) (hi : i + 6 ≤ Ls) (hok : okS T R P) : lwS l x Ls xs i 25 T R P td := by
  have hok' := hok
  obtain ⟨hT, hn, hR, hr, hb⟩ := hok
  by_cases h : T.2 + 20 ≤ 32768
  · obtain ⟨w1, hw1, ew1⟩ := i32_w (xs (i + 1))
    obtain ⟨w2, hw2, ew2⟩ := i32_w (xs (i + 2))
    obtain ⟨w3, hw3, ew3⟩ := i32_w (xs (i + 3))
    obtain ⟨w4, hw4, ew4⟩ := i32_w (xs (i + 4))
    obtain ⟨w5, hw5, ew5⟩ := i32_w (xs (i + 5))
    refine ⟨0, ty20 T w1 w2 w3 w4 w5, R, P, td, by omega, ⟨fun j => ty4_lt (ty4_lt (ty4_lt (ty4_lt (ty4_lt hT _ _) _ _) _ _) _ _) _ _ j, h, hR, hr, hb⟩, ?_⟩
    rintro mc ms n0 uc us Q cl _ y5 y6 y7 ⟨rb, rm, k, u, cd, a, mb, A, B, f, E, g1, g2, g3, g4, g5, g6, g7, rfl⟩ hu hs K
    refine lx_feed (v1 := nI w1) (v2 := nI w2) (v3 := nI w3) (v4 := nI w4) (v5 := nI w5) rfl (arg_p (xs := xs) hi hL 1 (by decide)).1 ((arg_p (xs := xs) hi hL 1 (by decide)).2.trans ew1) (arg_p (xs := xs) hi hL 2 (by decide)).1 ((arg_p (xs := xs) hi hL 2 (by decide)).2.trans ew2) (arg_p (xs := xs) hi hL 3 (by decide)).1 ((arg_p (xs := xs) hi hL 3 (by decide)).2.trans ew3) (arg_p (xs := xs) hi hL 4 (by decide)).1 ((arg_p (xs := xs) hi hL 4 (by decide)).2.trans ew4) (arg_p (xs := xs) hi hL 5 (by decide)).1 ((arg_p (xs := xs) hi hL 5 (by decide)).2.trans ew5) (h_LA_feed rfl (c_RP_feed (T := T) hw1 hw2 hw3 hw4 hw5 h) (by rintro v H1 ⟨rfl, rfl⟩; exact ⟨_, f, rfl, rfl⟩)) (by decide) hu hs ?_
    rintro v H1 ⟨rfl, r, f', H1', ⟨er, rfl⟩, h95, e1⟩
    cases er
    obtain rfl := e1.trans hX_set
    refine ⟨0, _, rfl, rfl, rfl, 1, _, by decide, c_MO_feed (T := T) hw1 hw2 hw3 hw4 hw5 h, ?_⟩
    rintro o H2 ⟨rfl, rfl⟩
    exact ⟨_, _, _, rfl, rfl, fun _ => ⟨rfl, rfl⟩, fun y5 y6 y7 => K _ y5 y6 y7 ⟨rb, rm, k, u, _, a, mb, A, B, _, _, g1, g2, g3, g4, g5, g6, g7, rfl⟩⟩
  · refine ⟨1, T, R, P, td, Nat.le_refl _, hok', ?_⟩
    rintro mc ms n0 uc us Q cl _ y5 y6 y7 ⟨rb, rm, k, u, cd, a, mb, A, B, f, E, g1, g2, g3, g4, g5, g6, g7, rfl⟩ hu hs K
    refine lx_feed (v1 := xs (i + 1)) (v2 := xs (i + 2)) (v3 := xs (i + 3)) (v4 := xs (i + 4)) (v5 := xs (i + 5)) rfl (arg_p (xs := xs) hi hL 1 (by decide)).1 (arg_p (xs := xs) hi hL 1 (by decide)).2 (arg_p (xs := xs) hi hL 2 (by decide)).1 (arg_p (xs := xs) hi hL 2 (by decide)).2 (arg_p (xs := xs) hi hL 3 (by decide)).1 (arg_p (xs := xs) hi hL 3 (by decide)).2 (arg_p (xs := xs) hi hL 4 (by decide)).1 (arg_p (xs := xs) hi hL 4 (by decide)).2 (arg_p (xs := xs) hi hL 5 (by decide)).1 (arg_p (xs := xs) hi hL 5 (by decide)).2 (h_LA_feed_1 rfl (t_RP_feed hf (fun h2 => h (by have := (nI_leI (a := T.2) (b := 32748) (by omega) (by decide)).mp h2; omega)))) (by decide) hu hs ?_
    (rintro v H1 ⟨rfl, e1⟩; obtain rfl := e1.trans hX_app; refine ⟨1, _, rfl, rfl, rfl, 8, _, by decide, c_MO_feed_bad (T := T) hn (by omega), ?_⟩; rintro o H2 ⟨rfl, rfl⟩; exact ⟨_, f, _, rfl, rfl, fun h => absurd h (by decide), fun y5 y6 y7 => K _ y5 y6 y7 ⟨rb, rm, k, u, _, a, mb, A, B, f, _, g1, g2, g3, g4, g5, g6, g7, rfl⟩⟩)
theorem st_end (hf : l.flags = flags0) (hL : Ls ≤ 3072) (hi : i + 6 ≤ Ls) (hok : okS T R P) : lwS l x Ls xs i 100 T R P td := by
  have hok' := hok
  obtain ⟨hT, hn, hR, hr, hb⟩ := hok
  by_cases h : xs (i + 1) < 0 ∨ ¬ xs (i + 1) ≤ nI T.2
  · refine ⟨1, T, R, P, td, Nat.le_refl _, hok', ?_⟩
    rintro mc ms n0 uc us Q cl _ y5 y6 y7 ⟨rb, rm, k, u, cd, a, mb, A, B, f, E, g1, g2, g3, g4, g5, g6, g7, rfl⟩ hu hs K
    refine lx_end (v1 := xs (i + 1)) rfl (arg_p (xs := xs) hi hL 1 (by decide)).1 (arg_p (xs := xs) hi hL 1 (by decide)).2 (h_LA_end_1 rfl (t_RP_end hf h)) (by decide) hu hs ?_
    rintro v H1 ⟨rfl, e1⟩
    obtain rfl := e1.trans hX_app
    refine ⟨1, _, rfl, rfl, rfl, 8, _, by decide, c_MO_end_bad (T := T) h, ?_⟩
    rintro o H2 ⟨rfl, rfl⟩
    exact ⟨_, rfl, rfl, fun y5 y6 y7 => K _ y5 y6 y7 ⟨rb, rm, k, u, _, a, mb, A, B, f, _, g1, g2, g3, g4, g5, g6, g7, rfl⟩⟩
  · obtain ⟨m, hm, em⟩ := i32_pos (fun h2 => h (Or.inl h2))
    have hmn : m ≤ T.2 := (nI_leI hm (by omega)).mp (by rw [← em]; exact Decidable.not_not.mp (fun h2 => h (Or.inr h2)))
    refine ⟨0, (T.1, m), R, P, td, by omega, ⟨hT, by dsimp only; omega, hR, hr, hb⟩, ?_⟩
    rintro mc ms n0 uc us Q cl _ y5 y6 y7 ⟨rb, rm, k, u, cd, a, mb, A, B, f, E, g1, g2, g3, g4, g5, g6, g7, rfl⟩ hu hs K
    refine lx_end (v1 := nI m) rfl (arg_p (xs := xs) hi hL 1 (by decide)).1 ((arg_p (xs := xs) hi hL 1 (by decide)).2.trans em) (h_LA_end rfl (c_RP_end (T := T) (d := 0) hmn hn) (by rintro v H1 ⟨rfl, rfl⟩; rfl)) (by decide) hu hs ?_
    rintro v H1 ⟨rfl, -, e1⟩
    obtain rfl := e1.trans hX_M
    refine ⟨0, _, rfl, rfl, rfl, 1, _, by decide, c_MO_end (T := T) hmn hn, ?_⟩
    rintro o H2 ⟨rfl, rfl⟩
    exact ⟨_, rfl, rfl, fun y5 y6 y7 => K _ y5 y6 y7 ⟨rb, rm, k, u, _, a, mb, A, B, _, _, g1, g2, g3, g4, g5, g6, g7, rfl⟩⟩
theorem st_again (hf : l.flags = flags0) (hL : Ls ≤ 3072) (hi : i + 6 ≤ Ls) (hok : okS T R P) : lwS l x Ls xs i 122 T R P td := by
  have hok' := hok
  obtain ⟨hT, hn, hR, hr, hb⟩ := hok
  by_cases h : xs (i + 2) < 0 ∨ xs (i + 1) < 1 ∨ ¬ xs (i + 1) ≤ nI T.2
  · refine ⟨1, T, R, P, td, Nat.le_refl _, hok', ?_⟩
    rintro mc ms n0 uc us Q cl _ y5 y6 y7 ⟨rb, rm, k, u, cd, a, mb, A, B, f, E, g1, g2, g3, g4, g5, g6, g7, rfl⟩ hu hs K
    refine lx_again (v1 := xs (i + 1)) (v2 := xs (i + 2)) rfl (arg_p (xs := xs) hi hL 1 (by decide)).1 (arg_p (xs := xs) hi hL 1 (by decide)).2 (arg_p (xs := xs) hi hL 2 (by decide)).1 (arg_p (xs := xs) hi hL 2 (by decide)).2 (h_LA_again_1 rfl (t_RP_again1 hf h)) (by decide) hu hs ?_
    (rintro v H1 ⟨rfl, e1⟩; obtain rfl := e1.trans hX_app; refine ⟨1, _, rfl, rfl, rfl, 8, _, by decide, c_MO_again1 (T := T) h, ?_⟩; rintro o H2 ⟨rfl, rfl⟩; exact ⟨_, f, _, rfl, rfl, fun h => absurd h (by decide), fun y5 y6 y7 => K _ y5 y6 y7 ⟨rb, rm, k, u, _, a, mb, A, B, f, _, g1, g2, g3, g4, g5, g6, g7, rfl⟩⟩)
  have h1 : ¬ xs (i + 2) < 0 := fun h2 => h (Or.inl h2)
  have h2 : ¬ xs (i + 1) < 1 := fun h2 => h (Or.inr (Or.inl h2))
  have h3 : xs (i + 1) ≤ nI T.2 := Decidable.not_not.mp (fun h2 => h (Or.inr (Or.inr h2)))
  by_cases h4 : ¬ xs (i + 2) ≤ (32768 : Int32) - nI T.2
  · refine ⟨1, T, R, P, td, Nat.le_refl _, hok', ?_⟩
    rintro mc ms n0 uc us Q cl _ y5 y6 y7 ⟨rb, rm, k, u, cd, a, mb, A, B, f, E, g1, g2, g3, g4, g5, g6, g7, rfl⟩ hu hs K
    refine lx_again (v1 := xs (i + 1)) (v2 := xs (i + 2)) rfl (arg_p (xs := xs) hi hL 1 (by decide)).1 (arg_p (xs := xs) hi hL 1 (by decide)).2 (arg_p (xs := xs) hi hL 2 (by decide)).1 (arg_p (xs := xs) hi hL 2 (by decide)).2 (h_LA_again_2 rfl (t_RP_again2 hf h1 h2 h3 h4)) (by decide) hu hs ?_
    (rintro v H1 ⟨rfl, e1⟩; obtain rfl := e1.trans hX_app; refine ⟨2, _, rfl, rfl, rfl, 8, _, by decide, c_MO_again2 (T := T) h1 h2 h3 h4, ?_⟩; rintro o H2 ⟨rfl, rfl⟩; exact ⟨_, f, _, rfl, rfl, fun h => absurd h (by decide), fun y5 y6 y7 => K _ y5 y6 y7 ⟨rb, rm, k, u, _, a, mb, A, B, f, _, g1, g2, g3, g4, g5, g6, g7, rfl⟩⟩)
  · obtain ⟨b, hb1, eb⟩ := i32_pos (v := xs (i + 1)) (fun h5 => h2 (Int32.lt_trans h5 (by decide)))
    obtain ⟨m, hm, em⟩ := i32_pos h1
    have hb2 : 1 ≤ b := by
      rw [eb] at h2
      exact Nat.le_of_not_lt (fun h5 => h2 ((nI_ltI (a := b) (b := 1) hb1 (by decide)).mpr h5))
    have hb3 : b ≤ T.2 := (nI_leI hb1 (by omega)).mp (by rw [← eb]; exact h3)
    have hm2 : T.2 + m ≤ 32768 := by
      have h5 : nI m ≤ nI (32768 - T.2) := by rw [← em, ← show (32768 : Int32) - nI T.2 = nI (32768 - T.2) from pk_sub (a := 32768) (by omega)]; exact Decidable.not_not.mp h4
      have := (nI_leI hm (by omega)).mp h5
      omega
    refine ⟨0, (repN T.1 T.2 b m, T.2 + m), R, P, td, by omega, ⟨repN_lt hT _ _ _, hm2, hR, hr, hb⟩, ?_⟩
    rintro mc ms n0 uc us Q cl _ y5 y6 y7 ⟨rb, rm, k, u, cd, a, mb, A, B, f, E, g1, g2, g3, g4, g5, g6, g7, rfl⟩ hu hs K
    refine lx_again (v1 := nI b) (v2 := nI m) rfl (arg_p (xs := xs) hi hL 1 (by decide)).1 ((arg_p (xs := xs) hi hL 1 (by decide)).2.trans eb) (arg_p (xs := xs) hi hL 2 (by decide)).1 ((arg_p (xs := xs) hi hL 2 (by decide)).2.trans em) (h_LA_again rfl (c_RP_again (T := T) hb2 hb3 hm2) (by rintro v H1 ⟨rfl, rfl⟩; exact ⟨_, f, rfl, rfl⟩)) (by decide) hu hs ?_
    rintro v H1 ⟨rfl, r, f', H1', ⟨er, rfl⟩, h95, e1⟩
    cases er
    obtain rfl := e1.trans hX_set
    refine ⟨0, _, rfl, rfl, rfl, 1, _, by decide, c_MO_again (T := T) hb2 hb3 hm2, ?_⟩
    rintro o H2 ⟨rfl, rfl⟩
    exact ⟨_, _, _, rfl, rfl, fun _ => ⟨rfl, rfl⟩, fun y5 y6 y7 => K _ y5 y6 y7 ⟨rb, rm, k, u, _, a, mb, A, B, _, _, g1, g2, g3, g4, g5, g6, g7, rfl⟩⟩
theorem st_change (hf : l.flags = flags0) (hL : Ls ≤ 3072) (hi : i + 6 ≤ Ls) (hok : okS T R P) : lwS l x Ls xs i 167 T R P td := by
  have hok' := hok
  obtain ⟨hT, hn, hR, hr, hb⟩ := hok
  by_cases h : xs (i + 1) < 0 ∨ ¬ xs (i + 1) < nI T.2
  · refine ⟨1, T, R, P, td, Nat.le_refl _, hok', ?_⟩
    rintro mc ms n0 uc us Q cl _ y5 y6 y7 ⟨rb, rm, k, u, cd, a, mb, A, B, f, E, g1, g2, g3, g4, g5, g6, g7, rfl⟩ hu hs K
    refine lx_change (v1 := xs (i + 1)) (v2 := xs (i + 2)) rfl (arg_p (xs := xs) hi hL 1 (by decide)).1 (arg_p (xs := xs) hi hL 1 (by decide)).2 (arg_p (xs := xs) hi hL 2 (by decide)).1 (arg_p (xs := xs) hi hL 2 (by decide)).2 (h_LA_change_1 rfl (t_RP_change1 hf h)) (by decide) hu hs ?_
    (rintro v H1 ⟨rfl, e1⟩; obtain rfl := e1.trans hX_app; refine ⟨1, _, rfl, rfl, rfl, 8, _, by decide, c_MO_change1 (T := T) h, ?_⟩; rintro o H2 ⟨rfl, rfl⟩; exact ⟨_, f, _, rfl, rfl, fun h => absurd h (by decide), fun y5 y6 y7 => K _ y5 y6 y7 ⟨rb, rm, k, u, _, a, mb, A, B, f, _, g1, g2, g3, g4, g5, g6, g7, rfl⟩⟩)
  have h1 : ¬ xs (i + 1) < 0 := fun h2 => h (Or.inl h2)
  have h2 : xs (i + 1) < nI T.2 := Decidable.not_not.mp (fun h2 => h (Or.inr h2))
  by_cases h4 : xs (i + 2) < 0 ∨ ¬ xs (i + 2) ≤ 255
  · refine ⟨1, T, R, P, td, Nat.le_refl _, hok', ?_⟩
    rintro mc ms n0 uc us Q cl _ y5 y6 y7 ⟨rb, rm, k, u, cd, a, mb, A, B, f, E, g1, g2, g3, g4, g5, g6, g7, rfl⟩ hu hs K
    refine lx_change (v1 := xs (i + 1)) (v2 := xs (i + 2)) rfl (arg_p (xs := xs) hi hL 1 (by decide)).1 (arg_p (xs := xs) hi hL 1 (by decide)).2 (arg_p (xs := xs) hi hL 2 (by decide)).1 (arg_p (xs := xs) hi hL 2 (by decide)).2 (h_LA_change_2 rfl (t_RP_change2 hf h1 h2 h4)) (by decide) hu hs ?_
    (rintro v H1 ⟨rfl, e1⟩; obtain rfl := e1.trans hX_app; refine ⟨2, _, rfl, rfl, rfl, 8, _, by decide, c_MO_change2 (T := T) h1 h2 h4, ?_⟩; rintro o H2 ⟨rfl, rfl⟩; exact ⟨_, f, _, rfl, rfl, fun h => absurd h (by decide), fun y5 y6 y7 => K _ y5 y6 y7 ⟨rb, rm, k, u, _, a, mb, A, B, f, _, g1, g2, g3, g4, g5, g6, g7, rfl⟩⟩)
  · obtain ⟨j, hj1, ej⟩ := i32_pos h1
    obtain ⟨b, hb1, eb⟩ := i32_pos (v := xs (i + 2)) (fun h5 => h4 (Or.inl h5))
    have hj2 : j < T.2 := (nI_ltI hj1 (by omega)).mp (by rw [← ej]; exact h2)
    have hb2 : b < 256 := by
      have h5 : nI b ≤ nI 255 := by rw [← eb]; exact Decidable.not_not.mp (fun h2 => h4 (Or.inr h2))
      have := (nI_leI hb1 (by decide)).mp h5
      omega
    refine ⟨0, (nup T.1 j (T.1 j ^^^ b), T.2), R, P, td, by omega, ⟨fun q => by dsimp only; unfold nup; split; exact xor8 (hT _) hb2; exact hT q, hn, hR, hr, hb⟩, ?_⟩
    rintro mc ms n0 uc us Q cl _ y5 y6 y7 ⟨rb, rm, k, u, cd, a, mb, A, B, f, E, g1, g2, g3, g4, g5, g6, g7, rfl⟩ hu hs K
    refine lx_change (v1 := nI j) (v2 := nI b) rfl (arg_p (xs := xs) hi hL 1 (by decide)).1 ((arg_p (xs := xs) hi hL 1 (by decide)).2.trans ej) (arg_p (xs := xs) hi hL 2 (by decide)).1 ((arg_p (xs := xs) hi hL 2 (by decide)).2.trans eb) (h_LA_change rfl (c_RP_change (T := T) hT hj2 hn hb2) (by rintro v H1 ⟨rfl, rfl⟩; exact ⟨_, f, rfl, rfl⟩)) (by decide) hu hs ?_
    rintro v H1 ⟨rfl, r, f', H1', ⟨er, rfl⟩, h95, e1⟩
    cases er
    obtain rfl := e1.trans hX_set
    refine ⟨0, _, rfl, rfl, rfl, 1, _, by decide, c_MO_change (T := T) hT hj2 hn hb2, ?_⟩
    rintro o H2 ⟨rfl, rfl⟩
    exact ⟨_, _, _, rfl, rfl, fun _ => ⟨rfl, rfl⟩, fun y5 y6 y7 => K _ y5 y6 y7 ⟨rb, rm, k, u, _, a, mb, A, B, _, _, g1, g2, g3, g4, g5, g6, g7, rfl⟩⟩
theorem st_pack (hf : l.flags = flags0) (hL : Ls ≤ 3072) (hi : i + 6 ≤ Ls) (hok : okS T R P) : lwS l x Ls xs i 212 T R P td := by
  have hok' := hok
  obtain ⟨hT, hn, hR, hr, hb⟩ := hok
  by_cases h : xs (i + 1) < 0 ∨ ¬ xs (i + 1) ≤ 2
  · refine ⟨1, T, R, P, td, Nat.le_refl _, hok', ?_⟩
    rintro mc ms n0 uc us Q cl _ y5 y6 y7 ⟨rb, rm, k, u, cd, a, mb, A, B, f, E, g1, g2, g3, g4, g5, g6, g7, rfl⟩ hu hs K
    refine lx_pack (v1 := xs (i + 1)) rfl (arg_p (xs := xs) hi hL 1 (by decide)).1 (arg_p (xs := xs) hi hL 1 (by decide)).2 (h_LA_pack_1 rfl (t_RP_pack hf h)) (by decide) hu hs ?_
    (rintro v H1 ⟨rfl, e1⟩; obtain rfl := e1.trans hX_app; refine ⟨1, _, rfl, rfl, rfl, 6, _, by decide, c_MO_pack_bad (T := T) h, ?_⟩; rintro o H2 ⟨rfl, rfl⟩; exact ⟨_, f, _, rfl, rfl, fun h => absurd h (by decide), fun y5 y6 y7 => K _ y5 y6 y7 ⟨rb, rm, k, u, _, a, mb, A, B, f, _, g1, g2, g3, g4, g5, g6, g7, rfl⟩⟩)
  · obtain ⟨w, hw1, ew⟩ := i32_pos (v := xs (i + 1)) (fun h5 => h (Or.inl h5))
    have hw2 : w ≤ 2 := (nI_leI hw1 (by decide)).mp (show nI w ≤ nI 2 by rw [← ew]; exact Decidable.not_not.mp (fun h2 => h (Or.inr h2)))
    refine ⟨0, T, (fun j => (pkS T w td).1 / 2 ^ (8 * j) % 256, (pkS T w td).2 / 8), (0, -1, (pkB T w td).2.2.1, (pkB T w td).2.2.2.1), (pkB T w td).2.2.2.2, by omega, ⟨hT, hn, fun j => Nat.mod_lt _ (by decide), pkS_bd hn w td, by have := pkB_bl hn w td; dsimp only; omega⟩, ?_⟩
    rintro mc ms n0 uc us Q cl _ y5 y6 y7 ⟨rb, rm, k, u, cd, a, mb, A, B, f, E, g1, g2, g3, g4, g5, g6, g7, rfl⟩ hu hs K
    refine lx_pack (v1 := nI w) rfl (arg_p (xs := xs) hi hL 1 (by decide)).1 ((arg_p (xs := xs) hi hL 1 (by decide)).2.trans ew) (h_LA_pack rfl (c_RP_pack (T := T) (td := td) hT hn hw2 g3 g5) (by rintro v H1 ⟨rfl, rb', k', -, -, rfl⟩; exact ⟨_, f, rfl, rfl⟩)) (by decide) hu hs ?_
    rintro v H1 ⟨rfl, r, f', H1', ⟨er, rb', k', hk', hcb, rfl⟩, h95, e1⟩
    cases er
    obtain rfl := e1.trans hX_set
    refine ⟨0, _, rfl, rfl, rfl, 6, _, by decide, c_MO_pack (T := T) (td := td) hT hn hw2 g4, ?_⟩
    rintro o H2 ⟨rfl, rm', a', mb', A', B', hmb, rfl⟩
    exact ⟨_, _, _, rfl, rfl, fun _ => ⟨rfl, rfl⟩, fun y5 y6 y7 => K _ y5 y6 y7 ⟨rb', rm', k', u, _, a', mb', A', B', _, _, fun j hj => hcb.2.1 j (by dsimp only at hj; omega), fun j hj => hmb.2.1 j (by dsimp only at hj; omega), hcb.2.2, hmb.2.2, hk', g6, g7, rfl⟩⟩
theorem st_unpack (hf : l.flags = flags0) (hL : Ls ≤ 3072) (hi : i + 6 ≤ Ls) (hok : okS T R P) : lwS l x Ls xs i 247 T R P td := by
  have hok' := hok
  obtain ⟨hT, hn, hR, hr, hb⟩ := hok
  by_cases h : xs (i + 1) < 0 ∨ ¬ xs (i + 1) ≤ 2
  · refine ⟨1, T, R, P, td, Nat.le_refl _, hok', ?_⟩
    rintro mc ms n0 uc us Q cl _ y5 y6 y7 ⟨rb, rm, k, u, cd, a, mb, A, B, f, E, g1, g2, g3, g4, g5, g6, g7, rfl⟩ hu hs K
    refine lx_unpack (v1 := xs (i + 1)) rfl (arg_p (xs := xs) hi hL 1 (by decide)).1 (arg_p (xs := xs) hi hL 1 (by decide)).2 (h_LA_unpack_1 rfl (t_RP_unpack hf h)) (by decide) hu hs ?_
    (rintro v H1 ⟨rfl, e1⟩; obtain rfl := e1.trans hX_app; refine ⟨1, _, rfl, rfl, rfl, 7, _, by decide, c_MO_unpack_bad (T := T) h, ?_⟩; rintro o H2 ⟨rfl, rfl⟩; exact ⟨_, f, _, rfl, rfl, fun h => absurd h (by decide), fun y5 y6 y7 => K _ y5 y6 y7 ⟨rb, rm, k, u, _, a, mb, A, B, f, _, g1, g2, g3, g4, g5, g6, g7, rfl⟩⟩)
  · obtain ⟨w, hw1, ew⟩ := i32_pos (v := xs (i + 1)) (fun h5 => h (Or.inl h5))
    have hw2 : w ≤ 2 := (nI_leI hw1 (by decide)).mp (show nI w ≤ nI 2 by rw [← ew]; exact Decidable.not_not.mp (fun h2 => h (Or.inr h2)))
    have hbk := zun_bl hT (e := 8 * T.2) (w := w) (by omega) (rb := R.1) (td := td) hR
    have hsm : ∀ g, smB (zun T.1 (8 * T.2) w R.1 td) (zun T.1 (8 * T.2) w g td) := fun g => zun_sm
    have hmo : ∀ (C : Nat → va_E) (cd : Int32) (rm : Nat → Nat) (a mb : Nat) (A : wK4) (B : wMB) (Z : xH), (∀ i, rm i < 256) → xCr l x 7 0 0 mMO_unpack [.ref 74, .int (nI w)] (hM C cd T (rm, R.2) P (K4 td) a mb A B Z) (fun o H' => QMU C 0 T B Z (zun T.1 (8 * T.2) w R.1 td) o H') := fun C cd rm a mb A B Z hrm => c_MO_unpack hT hn hw2 hR hrm
    generalize zun T.1 (8 * T.2) w R.1 td = z at hbk hsm hmo
    rcases z with ⟨fa, pl, bl, st, td'⟩ | ⟨za, zb, zn, bl, st, td'⟩
    · refine ⟨0, T, (R.1, 0), (nI fa, nI pl, bl, st), td', by omega, ⟨hT, hn, hR, Nat.zero_le _, by have h9 : bl ≤ 8 * T.2 := hbk; dsimp only; omega⟩, ?_⟩
      rintro mc ms n0 uc us Q cl _ y5 y6 y7 ⟨rb, rm, k, u, cd, a, mb, A, B, f, E, g1, g2, g3, g4, g5, g6, g7, rfl⟩ hu hs K
      refine lx_unpack (v1 := nI w) rfl (arg_p (xs := xs) hi hL 1 (by decide)).1 ((arg_p (xs := xs) hi hL 1 (by decide)).2.trans ew) (h_LA_unpack rfl (c_RP_unpack (T := T) (td := td) hT hn g6 g7 hw2 g3) (by rintro v H1 (⟨_, _, _, _, _, _, _, -, -, -, -, rfl, rfl⟩ | ⟨_, _, -, -, -, -, -, rfl, rfl⟩) <;> exact ⟨_, f, rfl, rfl⟩)) (by decide) hu hs ?_
      rintro v H1 ⟨rfl, r, f', H1', (⟨f1, p1, bl1, st1, td1, rb1, u1, ez, q1, q2, q3, er, rfl⟩ | ⟨s1, u1, ez, q2, q3, q4, q5, er, rfl⟩), h95, e1⟩
      · cases er
        obtain rfl := e1.trans hX_set
        have ez2 : (fa, pl, bl, st, td') = (f1, p1, bl1, st1, td1) := by
          rcases hsm rb with ⟨q, e3, e4⟩ | ⟨_, _, _, _, _, e3, e4, -⟩
          · dsimp only at ez
            rw [ez] at e4
            cases e3; cases e4; rfl
          · cases e3
        cases ez2
        refine ⟨0, _, rfl, rfl, rfl, 7, _, by decide, hmo _ _ _ _ _ _ _ _ g4, ?_⟩
        rintro o H2 (⟨f2, p2, bl2, st2, td2, rm2, a2, mb2, A2, e5, q6, rfl, rfl⟩ | ⟨_, _, _, _, _, e5, -⟩)
        · cases e5
          exact ⟨_, _, _, rfl, rfl, fun _ => ⟨rfl, rfl⟩, fun y5 y6 y7 => K _ y5 y6 y7 ⟨rb1, rm2, k, u1, _, a2, mb2, A2, B, _, _, fun j hj => absurd hj (Nat.not_lt_zero j), fun j hj => absurd hj (Nat.not_lt_zero j), q1, q6, g5, by rw [q2]; exact g6, by rw [q3]; exact g7, rfl⟩⟩
        · cases e5
      · rcases hsm rb with ⟨q, e3, e4⟩ | ⟨_, _, _, _, _, e3, e4, -⟩
        · dsimp only at ez
          rw [ez] at e4
          cases e4
        · cases e3
    · obtain ⟨hbk1, hbk2, hbk3⟩ := hbk
      dsimp only at hbk1 hbk2 hbk3
      refine ⟨0, T, (zb, zn), (0, -1, bl, st), td', by omega, ⟨hT, hn, hbk3, hbk2, by dsimp only; omega⟩, ?_⟩
      rintro mc ms n0 uc us Q cl _ y5 y6 y7 ⟨rb, rm, k, u, cd, a, mb, A, B, f, E, g1, g2, g3, g4, g5, g6, g7, rfl⟩ hu hs K
      refine lx_unpack (v1 := nI w) rfl (arg_p (xs := xs) hi hL 1 (by decide)).1 ((arg_p (xs := xs) hi hL 1 (by decide)).2.trans ew) (h_LA_unpack rfl (c_RP_unpack (T := T) (td := td) hT hn g6 g7 hw2 g3) (by rintro v H1 (⟨_, _, _, _, _, _, _, -, -, -, -, rfl, rfl⟩ | ⟨_, _, -, -, -, -, -, rfl, rfl⟩) <;> exact ⟨_, f, rfl, rfl⟩)) (by decide) hu hs ?_
      rintro v H1 ⟨rfl, r, f', H1', (⟨f1, p1, bl1, st1, td1, rb1, u1, ez, q1, q2, q3, er, rfl⟩ | ⟨⟨sa, sb, sn, sbl, sst, std⟩, u1, ez, q2, q3, q4, q5, er, rfl⟩), h95, e1⟩
      · rcases hsm rb with ⟨q, e3, e4⟩ | ⟨_, _, _, _, _, e3, e4, -⟩
        · cases e3
        · dsimp only at ez
          rw [ez] at e4
          cases e4
      · cases er
        obtain rfl := e1.trans hX_set
        dsimp only at ez q4 q5
        rcases hsm rb with ⟨q, e3, e4⟩ | ⟨a9, f9, g9, n9, r9, e3, e4, h9⟩
        · cases e3
        rw [ez] at e4
        cases e3
        cases e4
        refine ⟨0, _, rfl, rfl, rfl, 7, _, by decide, hmo _ _ _ _ _ _ _ _ g4, ?_⟩
        rintro o H2 (⟨_, _, _, _, _, _, _, _, _, e5, -⟩ | ⟨s2, rm2, a2, mb2, A2, e5, q6, q7, rfl, rfl⟩)
        · cases e5
        · cases e5
          exact ⟨_, _, _, rfl, rfl, fun _ => ⟨rfl, rfl⟩, fun y5 y6 y7 => K _ y5 y6 y7 ⟨sb, rm2, k, u1, _, a2, mb2, A2, B, _, _, fun j hj => (h9 j hj).symm, q6, q4, q7, g5, by rw [q2]; exact g6, by rw [q3]; exact g7, rfl⟩⟩
theorem st_out (hf : l.flags = flags0) (hL : Ls ≤ 3072) (hi : i + 6 ≤ Ls) (hok : okS T R P) : lwS l x Ls xs i 303 T R P td := by
  have hok' := hok
  obtain ⟨hT, hn, hR, hr, hb⟩ := hok
  by_cases h : xs (i + 1) < 0 ∨ ¬ xs (i + 1) < nI R.2
  · refine ⟨1, T, R, P, td, Nat.le_refl _, hok', ?_⟩
    rintro mc ms n0 uc us Q cl _ y5 y6 y7 ⟨rb, rm, k, u, cd, a, mb, A, B, f, E, g1, g2, g3, g4, g5, g6, g7, rfl⟩ hu hs K
    refine lx_out (v1 := xs (i + 1)) rfl (arg_p (xs := xs) hi hL 1 (by decide)).1 (arg_p (xs := xs) hi hL 1 (by decide)).2 (h_LA_out_1 rfl (t_RP_out hf h)) (by decide) hu hs ?_
    (rintro v H1 ⟨rfl, e1⟩; obtain rfl := e1.trans hX_app; refine ⟨1, _, rfl, rfl, rfl, 8, _, by decide, c_MO_out_bad (R := (rm, R.2)) h, ?_⟩; rintro o H2 ⟨rfl, rfl⟩; exact ⟨_, f, _, rfl, rfl, fun h => absurd h (by decide), fun y5 y6 y7 => K _ y5 y6 y7 ⟨rb, rm, k, u, _, a, mb, A, B, f, _, g1, g2, g3, g4, g5, g6, g7, rfl⟩⟩)
  · obtain ⟨j, hj1, ej⟩ := i32_pos (v := xs (i + 1)) (fun h5 => h (Or.inl h5))
    have hj2 : j < R.2 := (nI_ltI hj1 (by omega)).mp (by rw [← ej]; exact Decidable.not_not.mp (fun h2 => h (Or.inr h2)))
    refine ⟨0, T, R, P, td, by omega, hok', ?_⟩
    rintro mc ms n0 uc us Q cl _ y5 y6 y7 ⟨rb, rm, k, u, cd, a, mb, A, B, f, E, g1, g2, g3, g4, g5, g6, g7, rfl⟩ hu hs K
    refine lx_out (v1 := nI j) rfl (arg_p (xs := xs) hi hL 1 (by decide)).1 ((arg_p (xs := xs) hi hL 1 (by decide)).2.trans ej) (h_LA_out rfl (c_RP_out (R := (rb, R.2)) g3 hj2 hr) (by rintro v H1 ⟨rfl, rfl⟩; exact ⟨_, f, rfl, rfl⟩)) (by decide) hu hs ?_
    rintro v H1 ⟨rfl, r, f', H1', ⟨er, rfl⟩, h95, e1⟩
    cases er
    obtain rfl := e1.trans hX_set
    refine ⟨0, _, rfl, rfl, rfl, 1, _, by decide, c_MO_out (R := (rm, R.2)) g4 hj2 hr, ?_⟩
    rintro o H2 ⟨rfl, rfl⟩
    exact ⟨_, _, _, rfl, rfl, fun _ => ⟨rfl, by show (nI (rb j)).toInt64 = (nI (rm j)).toInt64; rw [g1 j hj2, g2 j hj2]⟩, fun y5 y6 y7 => K _ y5 y6 y7 ⟨rb, rm, k, u, _, a, mb, A, B, _, _, g1, g2, g3, g4, g5, g6, g7, rfl⟩⟩
theorem st_turn (hf : l.flags = flags0) (hL : Ls ≤ 3072) (hi : i + 6 ≤ Ls) (hok : okS T R P) : lwS l x Ls xs i 338 T R P td := by
  have hok' := hok
  obtain ⟨hT, hn, hR, hr, hb⟩ := hok
  by_cases h : R.2 ≤ 32768
  · refine ⟨0, (cpyN R.1 T.1 0 0 R.2, R.2), R, P, td, by omega, ⟨fun j => by dsimp only; unfold cpyN; split; exact hR _; exact hT j, h, hR, hr, hb⟩, ?_⟩
    rintro mc ms n0 uc us Q cl _ y5 y6 y7 ⟨rb, rm, k, u, cd, a, mb, A, B, f, E, g1, g2, g3, g4, g5, g6, g7, rfl⟩ hu hs K
    have eb : cpyN rb T.1 0 0 R.2 = cpyN R.1 T.1 0 0 R.2 := cpyN_eq g1
    have em : cpyN rm T.1 0 0 R.2 = cpyN R.1 T.1 0 0 R.2 := cpyN_eq g2
    refine lx_turn rfl (h_LA_turn rfl (c_RP_turn (T := T) (R := (rb, R.2)) h) (by rintro v H1 ⟨rfl, rfl⟩; exact ⟨_, f, rfl, rfl⟩)) (by decide) hu hs ?_
    rintro v H1 ⟨rfl, r, f', H1', ⟨er, rfl⟩, h95, e1⟩
    cases er
    dsimp only at e1
    rw [eb] at e1
    obtain rfl := e1.trans hX_set
    refine ⟨0, _, rfl, rfl, rfl, 1, _, by decide, c_MO_turn (T := T) (R := (rm, R.2)) h, ?_⟩
    rintro o H2 ⟨rfl, e2⟩
    dsimp only at e2
    rw [em] at e2
    subst e2
    exact ⟨_, _, _, rfl, rfl, fun _ => ⟨rfl, rfl⟩, fun y5 y6 y7 => K _ y5 y6 y7 ⟨rb, rm, k, u, _, a, mb, A, B, _, _, g1, g2, g3, g4, g5, g6, g7, rfl⟩⟩
  · have h' : ¬ nI R.2 ≤ 32768 := fun h2 => h ((nI_leI (a := R.2) (b := 32768) (by omega) (by decide)).mp h2)
    refine ⟨1, T, R, P, td, Nat.le_refl _, hok', ?_⟩
    rintro mc ms n0 uc us Q cl _ y5 y6 y7 ⟨rb, rm, k, u, cd, a, mb, A, B, f, E, g1, g2, g3, g4, g5, g6, g7, rfl⟩ hu hs K
    refine lx_turn rfl (h_LA_turn_1 rfl (t_RP_turn hf h')) (by decide) hu hs ?_
    (rintro v H1 ⟨rfl, e1⟩; obtain rfl := e1.trans hX_app; refine ⟨1, _, rfl, rfl, rfl, 8, _, by decide, c_MO_turn_bad (R := (rm, R.2)) h', ?_⟩; rintro o H2 ⟨rfl, rfl⟩; exact ⟨_, f, _, rfl, rfl, fun h => absurd h (by decide), fun y5 y6 y7 => K _ y5 y6 y7 ⟨rb, rm, k, u, _, a, mb, A, B, f, _, g1, g2, g3, g4, g5, g6, g7, rfl⟩⟩)
theorem st_sum (hf : l.flags = flags0) (hL : Ls ≤ 3072) (hi : i + 6 ≤ Ls) (hok : okS T R P) : lwS l x Ls xs i 363 T R P td := by
  have hok' := hok
  obtain ⟨hT, hn, hR, hr, hb⟩ := hok
  by_cases h : xs (i + 1) < 0 ∨ ¬ xs (i + 1) ≤ 1
  · refine ⟨1, T, R, P, td, Nat.le_refl _, hok', ?_⟩
    rintro mc ms n0 uc us Q cl _ y5 y6 y7 ⟨rb, rm, k, u, cd, a, mb, A, B, f, E, g1, g2, g3, g4, g5, g6, g7, rfl⟩ hu hs K
    refine lx_sum (v1 := xs (i + 1)) rfl (arg_p (xs := xs) hi hL 1 (by decide)).1 (arg_p (xs := xs) hi hL 1 (by decide)).2 (h_LA_sum_1 rfl (t_RP_sum hf h)) (by decide) hu hs ?_
    (rintro v H1 ⟨rfl, e1⟩; obtain rfl := e1.trans hX_app; refine ⟨1, _, rfl, rfl, rfl, 8, _, by decide, c_MO_sum_bad (T := T) h, ?_⟩; rintro o H2 ⟨rfl, rfl⟩; exact ⟨_, f, _, rfl, rfl, fun h => absurd h (by decide), fun y5 y6 y7 => K _ y5 y6 y7 ⟨rb, rm, k, u, _, a, mb, A, B, f, _, g1, g2, g3, g4, g5, g6, g7, rfl⟩⟩)
  · obtain ⟨w, hw1, ew⟩ := i32_pos (v := xs (i + 1)) (fun h5 => h (Or.inl h5))
    have hw2 : w ≤ 1 := (nI_leI hw1 (by decide)).mp (show nI w ≤ nI 1 by rw [← ew]; exact Decidable.not_not.mp (fun h2 => h (Or.inr h2)))
    refine ⟨0, T, R, P, td, by omega, hok', ?_⟩
    rintro mc ms n0 uc us Q cl _ y5 y6 y7 ⟨rb, rm, k, u, cd, a, mb, A, B, f, E, g1, g2, g3, g4, g5, g6, g7, rfl⟩ hu hs K
    refine lx_sum (v1 := nI w) rfl (arg_p (xs := xs) hi hL 1 (by decide)).1 ((arg_p (xs := xs) hi hL 1 (by decide)).2.trans ew) (h_LA_sum rfl (c_RP_sum (T := T) hw2 hT hn) (by rintro v H1 ⟨rfl, rfl⟩; exact ⟨_, f, rfl, rfl⟩)) (by decide) hu hs ?_
    rintro v H1 ⟨rfl, r, f', H1', ⟨er, rfl⟩, h95, e1⟩
    cases er
    obtain rfl := e1.trans hX_set
    refine ⟨0, _, rfl, rfl, rfl, 1, _, by decide, c_MO_sum (T := T) hw2 hT hn, ?_⟩
    rintro o H2 ⟨rfl, rfl⟩
    exact ⟨_, _, _, rfl, rfl, fun _ => ⟨rfl, rfl⟩, fun y5 y6 y7 => K _ y5 y6 y7 ⟨rb, rm, k, u, _, a, mb, A, B, _, _, g1, g2, g3, g4, g5, g6, g7, rfl⟩⟩
theorem st_block (hf : l.flags = flags0) (hL : Ls ≤ 3072) (hi : i + 6 ≤ Ls) (hok : okS T R P) : lwS l x Ls xs i 404 T R P td := by
  have hok' := hok
  obtain ⟨hT, hn, hR, hr, hb⟩ := hok
  by_cases h : xs (i + 1) < 0 ∨ nI P.2.2.1 ≤ xs (i + 1) ∨ ¬ xs (i + 1) < 64
  · refine ⟨1, T, R, P, td, Nat.le_refl _, hok', ?_⟩
    rintro mc ms n0 uc us Q cl _ y5 y6 y7 ⟨rb, rm, k, u, cd, a, mb, A, B, f, E, g1, g2, g3, g4, g5, g6, g7, rfl⟩ hu hs K
    refine lx_block (v1 := xs (i + 1)) (v2 := xs (i + 2)) rfl (arg_p (xs := xs) hi hL 1 (by decide)).1 (arg_p (xs := xs) hi hL 1 (by decide)).2 (arg_p (xs := xs) hi hL 2 (by decide)).1 (arg_p (xs := xs) hi hL 2 (by decide)).2 (h_LA_block_1 rfl (t_RP_block1 hf h)) (by decide) hu hs ?_
    (rintro v H1 ⟨rfl, e1⟩; obtain rfl := e1.trans hX_app; refine ⟨1, _, rfl, rfl, rfl, 8, _, by decide, c_MO_block1 (P := P) (h.imp_right (fun h => h.imp_right (fun h2 h3 => h2 (Int32.lt_of_le_of_lt h3 (by decide))))), ?_⟩; rintro o H2 ⟨rfl, rfl⟩; exact ⟨_, f, _, rfl, rfl, fun h => absurd h (by decide), fun y5 y6 y7 => K _ y5 y6 y7 ⟨rb, rm, k, u, _, a, mb, A, B, f, _, g1, g2, g3, g4, g5, g6, g7, rfl⟩⟩)
  have h1 : ¬ xs (i + 1) < 0 := fun h2 => h (Or.inl h2)
  have h2 : ¬ nI P.2.2.1 ≤ xs (i + 1) := fun h2 => h (Or.inr (Or.inl h2))
  have h3 : xs (i + 1) < 64 := Decidable.not_not.mp (fun h2 => h (Or.inr (Or.inr h2)))
  obtain ⟨j, hj1, ej⟩ := i32_pos h1
  have hj2 : j < 64 := (nI_ltI hj1 (by decide)).mp (show nI j < nI 64 by rw [← ej]; exact h3)
  have h3' : xs (i + 1) ≤ 63 := by rw [ej]; exact (nI_leI (b := 63) hj1 (by decide)).mpr (by omega)
  by_cases h4 : xs (i + 2) < 0 ∨ ¬ xs (i + 2) < 4
  · refine ⟨1, T, R, P, td, Nat.le_refl _, hok', ?_⟩
    rintro mc ms n0 uc us Q cl _ y5 y6 y7 ⟨rb, rm, k, u, cd, a, mb, A, B, f, E, g1, g2, g3, g4, g5, g6, g7, rfl⟩ hu hs K
    refine lx_block (v1 := xs (i + 1)) (v2 := xs (i + 2)) rfl (arg_p (xs := xs) hi hL 1 (by decide)).1 (arg_p (xs := xs) hi hL 1 (by decide)).2 (arg_p (xs := xs) hi hL 2 (by decide)).1 (arg_p (xs := xs) hi hL 2 (by decide)).2 (h_LA_block_2 rfl (t_RP_block2 hf h1 h2 h3 h4)) (by decide) hu hs ?_
    (rintro v H1 ⟨rfl, e1⟩; obtain rfl := e1.trans hX_app; refine ⟨2, _, rfl, rfl, rfl, 8, _, by decide, c_MO_block2 (P := P) h1 h2 h3' (h4.imp_right (fun h2 h3 => h2 (Int32.lt_of_le_of_lt h3 (by decide)))), ?_⟩; rintro o H2 ⟨rfl, rfl⟩; exact ⟨_, f, _, rfl, rfl, fun h => absurd h (by decide), fun y5 y6 y7 => K _ y5 y6 y7 ⟨rb, rm, k, u, _, a, mb, A, B, f, _, g1, g2, g3, g4, g5, g6, g7, rfl⟩⟩)
  · obtain ⟨w, hw1, ew⟩ := i32_pos (v := xs (i + 2)) (fun h5 => h4 (Or.inl h5))
    have hw2 : w < 4 := (nI_ltI hw1 (by decide)).mp (show nI w < nI 4 by rw [← ew]; exact Decidable.not_not.mp (fun h2 => h4 (Or.inr h2)))
    have hj3 : j < P.2.2.1 := by
      rw [ej] at h2
      exact Nat.lt_of_not_le (fun h5 => h2 ((nI_leI (by omega) hj1).mpr h5))
    refine ⟨0, T, R, P, td, by omega, hok', ?_⟩
    rintro mc ms n0 uc us Q cl _ y5 y6 y7 ⟨rb, rm, k, u, cd, a, mb, A, B, f, E, g1, g2, g3, g4, g5, g6, g7, rfl⟩ hu hs K
    refine lx_block (v1 := nI j) (v2 := nI w) rfl (arg_p (xs := xs) hi hL 1 (by decide)).1 ((arg_p (xs := xs) hi hL 1 (by decide)).2.trans ej) (arg_p (xs := xs) hi hL 2 (by decide)).1 ((arg_p (xs := xs) hi hL 2 (by decide)).2.trans ew) (h_LA_block rfl (c_RP_block (T := T) (d := 0) (td := td) hj3 hj2 hw2 hb) (by rintro v H1 ⟨rfl, rfl⟩; exact ⟨_, f, rfl, rfl⟩)) (by decide) hu hs ?_
    rintro v H1 ⟨rfl, r, f', H1', ⟨er, rfl⟩, h95, e1⟩
    cases er
    obtain rfl := e1.trans hX_set
    refine ⟨0, _, rfl, rfl, rfl, 1, _, by decide, c_MO_block (P := P) (td := td) hj3 hj2 hw2 hb, ?_⟩
    rintro o H2 ⟨rfl, rfl⟩
    exact ⟨_, _, _, rfl, rfl, fun _ => ⟨rfl, rfl⟩, fun y5 y6 y7 => K _ y5 y6 y7 ⟨rb, rm, k, u, _, a, mb, A, B, _, _, g1, g2, g3, g4, g5, g6, g7, rfl⟩⟩
theorem st_fault (hok : okS T R P) : lwS l x Ls xs i 282 T R P td := by
  refine ⟨0, T, R, P, td, by omega, hok, ?_⟩
  rintro mc ms n0 uc us Q cl _ y5 y6 y7 ⟨rb, rm, k, u, cd, a, mb, A, B, f, E, g1, g2, g3, g4, g5, g6, g7, rfl⟩ hu hs K
  exact lx_fault (H2 := hM (hC (aI Ls xs) T (rb, R.2) (P.1, P.2.1, P.2.2.1, P.2.2.2, nF td) k u) 0 T (rm, R.2) P (K4 td) a mb A B (aJ 1 f :: E)) rfl rfl (d1 := 1) c_RP_fault (d2 := 1) (by rw [hX_M]; exact c_MO_fault) (by decide) (by decide) hu hs (K _ y5 y6 y7 ⟨rb, rm, k, u, _, a, mb, A, B, _, _, g1, g2, g3, g4, g5, g6, g7, rfl⟩)
theorem st_place (hok : okS T R P) : lwS l x Ls xs i 289 T R P td := by
  refine ⟨0, T, R, P, td, by omega, hok, ?_⟩
  rintro mc ms n0 uc us Q cl _ y5 y6 y7 ⟨rb, rm, k, u, cd, a, mb, A, B, f, E, g1, g2, g3, g4, g5, g6, g7, rfl⟩ hu hs K
  exact lx_place (H2 := hM (hC (aI Ls xs) T (rb, R.2) (P.1, P.2.1, P.2.2.1, P.2.2.2, nF td) k u) 0 T (rm, R.2) P (K4 td) a mb A B (aJ 1 f :: E)) rfl rfl (d1 := 1) c_RP_place (d2 := 1) (by rw [hX_M]; exact c_MO_place) (by decide) (by decide) hu hs (K _ y5 y6 y7 ⟨rb, rm, k, u, _, a, mb, A, B, _, _, g1, g2, g3, g4, g5, g6, g7, rfl⟩)
theorem st_size (hok : okS T R P) : lwS l x Ls xs i 296 T R P td := by
  refine ⟨0, T, R, P, td, by omega, hok, ?_⟩
  rintro mc ms n0 uc us Q cl _ y5 y6 y7 ⟨rb, rm, k, u, cd, a, mb, A, B, f, E, g1, g2, g3, g4, g5, g6, g7, rfl⟩ hu hs K
  exact lx_size (H2 := hM (hC (aI Ls xs) T (rb, R.2) (P.1, P.2.1, P.2.2.1, P.2.2.2, nF td) k u) 0 T (rm, R.2) P (K4 td) a mb A B (aJ 1 f :: E)) rfl rfl (d1 := 1) c_RP_size (d2 := 1) (by rw [hX_M]; exact c_MO_size) (by decide) (by decide) hu hs (K _ y5 y6 y7 ⟨rb, rm, k, u, _, a, mb, A, B, _, _, g1, g2, g3, g4, g5, g6, g7, rfl⟩)
theorem st_blocks (hok : okS T R P) : lwS l x Ls xs i 397 T R P td := by
  refine ⟨0, T, R, P, td, by omega, hok, ?_⟩
  rintro mc ms n0 uc us Q cl _ y5 y6 y7 ⟨rb, rm, k, u, cd, a, mb, A, B, f, E, g1, g2, g3, g4, g5, g6, g7, rfl⟩ hu hs K
  exact lx_blocks (H2 := hM (hC (aI Ls xs) T (rb, R.2) (P.1, P.2.1, P.2.2.1, P.2.2.2, nF td) k u) 0 T (rm, R.2) P (K4 td) a mb A B (aJ 1 f :: E)) rfl rfl (d1 := 1) c_RP_blocks (d2 := 1) (by rw [hX_M]; exact c_MO_blocks) (by decide) (by decide) hu hs (K _ y5 y6 y7 ⟨rb, rm, k, u, _, a, mb, A, B, _, _, g1, g2, g3, g4, g5, g6, g7, rfl⟩)
theorem st_stretches (hok : okS T R P) : lwS l x Ls xs i 449 T R P td := by
  refine ⟨0, T, R, P, td, by omega, hok, ?_⟩
  rintro mc ms n0 uc us Q cl _ y5 y6 y7 ⟨rb, rm, k, u, cd, a, mb, A, B, f, E, g1, g2, g3, g4, g5, g6, g7, rfl⟩ hu hs K
  exact lx_stretches (H2 := hM (hC (aI Ls xs) T (rb, R.2) (P.1, P.2.1, P.2.2.1, P.2.2.2, nF td) k u) 0 T (rm, R.2) P (K4 td) a mb A B (aJ 1 f :: E)) rfl rfl (d1 := 1) c_RP_stretches (d2 := 1) (by rw [hX_M]; exact c_MO_stretches) (by decide) (by decide) hu hs (K _ y5 y6 y7 ⟨rb, rm, k, u, _, a, mb, A, B, _, _, g1, g2, g3, g4, g5, g6, g7, rfl⟩)
end Steps
