/-! the law -/
theorem nc_16_8 : x_NC 16 8 0 6 := ⟨x_tb1 (List.mem_of_getElem? (i := 32) rfl), x_tb1 (List.mem_of_getElem? (i := 33) rfl), x_tb1 (List.mem_of_getElem? (i := 1) rfl)⟩
theorem nc_16_52 : x_NC 16 52 12 34 := ⟨x_tb6 (List.mem_of_getElem? (i := 19) rfl), x_tb6 (List.mem_of_getElem? (i := 20) rfl), x_tb1 (List.mem_of_getElem? (i := 14) rfl)⟩
theorem bF_0 : bF (fun _ => 0) = fun _ => 0 := by
  funext i
  show sb_b 0 = 0
  decide +kernel
section Law
variable {l : Launch} {x : xX} {Ls : Nat} {xs : Nat → Int32}
theorem xW_cl {d mc ms n0 uc us k : Nat} {μ : xM} {Q : xO → xH → Prop} {cl : Bool} {L : xL} {S : List Value} {H : xH} (h : xW l x d mc ms μ n0 Q false k L S H uc us) : xW l x d mc ms μ n0 Q cl k L S H uc us :=
  fun p e s m args below meth c ls Hh locs E R hS hL hn _ => h p e s m args below meth c ls Hh locs E R hS hL hn (fun h => by cases h)
set_option maxRecDepth 100000 in
theorem law_sw (hf : l.flags = flags0) (hL : Ls ≤ 3072) {i : Nat} (hi : i + 6 ≤ Ls) {T R : wRow} {P : wRp} {td : Nat → Nat} (hok : okS T R P) {m : Nat} (hm : m < 16) : ∃ k0, lwS l x Ls xs i k0 T R P td ∧ ∀ (mc ms n0 uc us : Nat) (Q : xO → xH → Prop) (cl : Bool) (L : xL) (H : xH), xW l x 1750 mc ms mLA_law n0 Q cl k0 L [] H uc us → xW l x 1750 mc ms mLA_law n0 Q cl 24 L [.int (nI m)] H uc us := by
  have hc : m = 0 ∨ m = 1 ∨ m = 2 ∨ m = 3 ∨ m = 4 ∨ m = 5 ∨ m = 6 ∨ m = 7 ∨ m = 8 ∨ m = 9 ∨ m = 10 ∨ m = 11 ∨ m = 12 ∨ m = 13 ∨ m = 14 ∨ m = 15 := by omega
  rcases hc with rfl | rfl | rfl | rfl | rfl | rfl | rfl | rfl | rfl | rfl | rfl | rfl | rfl | rfl | rfl | rfl
  · exact ⟨25, st_feed hf hL hi hok, fun mc ms n0 uc us Q cl L H h => xs_tswIn rfl (by decide) (by decide) rfl rfl h⟩
  · exact ⟨100, st_end hf hL hi hok, fun mc ms n0 uc us Q cl L H h => xs_tswIn rfl (by decide) (by decide) rfl rfl h⟩
  · exact ⟨122, st_again hf hL hi hok, fun mc ms n0 uc us Q cl L H h => xs_tswIn rfl (by decide) (by decide) rfl rfl h⟩
  · exact ⟨167, st_change hf hL hi hok, fun mc ms n0 uc us Q cl L H h => xs_tswIn rfl (by decide) (by decide) rfl rfl h⟩
  · exact ⟨212, st_pack hf hL hi hok, fun mc ms n0 uc us Q cl L H h => xs_tswIn rfl (by decide) (by decide) rfl rfl h⟩
  · exact ⟨247, st_unpack hf hL hi hok, fun mc ms n0 uc us Q cl L H h => xs_tswIn rfl (by decide) (by decide) rfl rfl h⟩
  · exact ⟨282, st_fault hok, fun mc ms n0 uc us Q cl L H h => xs_tswIn rfl (by decide) (by decide) rfl rfl h⟩
  · exact ⟨289, st_place hok, fun mc ms n0 uc us Q cl L H h => xs_tswIn rfl (by decide) (by decide) rfl rfl h⟩
  · exact ⟨296, st_size hok, fun mc ms n0 uc us Q cl L H h => xs_tswIn rfl (by decide) (by decide) rfl rfl h⟩
  · exact ⟨303, st_out hf hL hi hok, fun mc ms n0 uc us Q cl L H h => xs_tswIn rfl (by decide) (by decide) rfl rfl h⟩
  · exact ⟨338, st_turn hf hL hi hok, fun mc ms n0 uc us Q cl L H h => xs_tswIn rfl (by decide) (by decide) rfl rfl h⟩
  · exact ⟨363, st_sum hf hL hi hok, fun mc ms n0 uc us Q cl L H h => xs_tswIn rfl (by decide) (by decide) rfl rfl h⟩
  · exact ⟨397, st_blocks hok, fun mc ms n0 uc us Q cl L H h => xs_tswIn rfl (by decide) (by decide) rfl rfl h⟩
  · exact ⟨404, st_block hf hL hi hok, fun mc ms n0 uc us Q cl L H h => xs_tswIn rfl (by decide) (by decide) rfl rfl h⟩
  · exact ⟨449, st_stretches hok, fun mc ms n0 uc us Q cl L H h => xs_tswIn rfl (by decide) (by decide) rfl rfl h⟩
  · refine ⟨456, ⟨0, T, R, P, td, by omega, hok, ?_⟩, fun mc ms n0 uc us Q cl L H h => xs_tswOut rfl (Or.inr (by decide)) rfl h⟩
    intro mc ms n0 uc us Q cl H y5 y6 y7 hD hu hs K
    exact xW_cl (K H y5 y6 y7 hD)
set_option maxRecDepth 100000 in
theorem law_loop (hf : l.flags = flags0) (hL : Ls ≤ 3072) : ∀ (j i : Nat) (T R : wRow) (P : wRp) (td : Nat → Nat), Ls < i + 6 * j + 6 → i ≤ Ls + 6 → okS T R P → ∃ n, n ≤ j ∧ ∀ (uc us : Nat) (cl : Bool) (H : xH) (y5 y6 y7 : Option Value), stD (aI Ls xs) T R P td H → us + 6 * n ≤ 7293034 → xW l x 1750 (uc + n) 7293034 mLA_law 2 (fun r _ => r = .inl (some (.int 1))) cl 13 [some (.ref 0), some (.ref 2), some (.ref 74), some (.ref 95), some (.int (nI i)), y5, y6, y7] [] H uc us := by
  -- the end
  have kE : ∀ (i : Nat) (T R : wRow) (P : wRp) (td : Nat → Nat) (uc us : Nat) (cl : Bool) (H : xH) (y5 y6 y7 : Option Value), Ls < i + 6 → i ≤ Ls + 6 → stD (aI Ls xs) T R P td H → us ≤ 7293034 → xW l x 1750 uc 7293034 mLA_law 2 (fun r _ => r = .inl (some (.int 1))) cl 13 [some (.ref 0), some (.ref 2), some (.ref 74), some (.ref 95), some (.int (nI i)), y5, y6, y7] [] H uc us := by
    intro i T R P td uc us cl H y5 y6 y7 h1 h2 hD hs
    have h0 : H[0]? = some (aI Ls xs) := by obtain ⟨rb, rm, k, u, cd, a, mb, A, B, f, E, -, -, -, -, -, -, -, rfl⟩ := hD; rfl
    refine xs_iload rfl rfl ?_
    refine xs_aload_n rfl rfl ?_
    refine xs_alen rfl h0 (by decide) ?_
    refine xs_bipushV (v := 6) rfl rfl ?_
    refine xs_isub rfl ?_
    refine xs_icmp_gt (k' := 458) rfl rfl (fun _ => ?_) (fun h => absurd ?_ h)
    · refine xs_iconstV (v := 1) rfl rfl ?_
      exact xs_zret rfl rfl (by decide) rfl hs rfl
    · show nI Ls - nI 6 < nI i
      rw [Int32.lt_iff_toInt_lt, pk_sub_toInt (by omega) (by decide), nI_toInt (by omega)]
      omega
  intro j
  induction j with
  | zero =>
    intro i T R P td h1 h2 hok
    exact ⟨0, Nat.le_refl _, fun uc us cl H y5 y6 y7 hD hs => kE i T R P td uc us cl H y5 y6 y7 (by omega) h2 hD (by omega)⟩
  | succ j ih =>
    intro i T R P td h1 h2 hok
    by_cases hi : Ls < i + 6
    · exact ⟨0, by omega, fun uc us cl H y5 y6 y7 hD hs => kE i T R P td uc us cl H y5 y6 y7 hi h2 hD (by omega)⟩
    obtain ⟨w, hw, ew⟩ := i32_w (xs i)
    obtain ⟨k0, ⟨n1, T', R', P', td', hn1, hok', hst⟩, hsw⟩ := law_sw (l := l) (x := x) (xs := xs) hf hL (i := i) (by omega) (td := td) hok (m := w % 16) (by omega)
    obtain ⟨n2, hn2, hlp⟩ := ih (i + 6) T' R' P' td' (by omega) (by omega) hok'
    refine ⟨n1 + n2, by omega, fun uc us cl H y5 y6 y7 hD hs => ?_⟩
    have h0 : H[0]? = some (aI Ls xs) := by obtain ⟨rb, rm, k, u, cd, a, mb, A, B, f, E, -, -, -, -, -, -, -, rfl⟩ := hD; rfl
    refine xs_iload rfl rfl ?_
    refine xs_aload_n rfl rfl ?_
    refine xs_alen rfl h0 (by decide) ?_
    refine xs_bipushV (v := 6) rfl rfl ?_
    refine xs_isub rfl ?_
    refine xs_icmp_gt (k' := 458) rfl rfl (fun h => absurd h ?_) (fun _ => ?_)
    · show ¬ nI Ls - nI 6 < nI i
      rw [Int32.lt_iff_toInt_lt, pk_sub_toInt (by omega) (by decide), nI_toInt (by omega)]
      omega
    refine xs_aload_n rfl rfl ?_
    refine xs_iload rfl rfl ?_
    refine xs_iald rfl h0 (vp_in_nI (n := i) (by omega) (by omega)) ?_
    rw [nI_clamp (by omega), ew]
    refine xs_bipushV (v := 15) rfl rfl ?_
    refine xs_iand rfl ?_
    rw [show nI w &&& 15 = nI (w % 16) from nI_m15 hw]
    refine hsw _ _ _ _ _ _ _ _ _ (hst _ _ _ _ _ _ _ _ _ _ _ hD (by omega) (by omega) ?_)
    intro H' z5 z6 z7 hD'
    refine xs_iincV (w := 6) (L' := [some (.ref 0), some (.ref 2), some (.ref 74), some (.ref 95), some (.int (nI (i + 6))), z5, z6, z7]) rfl rfl rfl (by rw [← nI_add]; rfl) rfl ?_
    refine xs_goto (k' := 13) rfl rfl ?_
    rw [← Nat.add_assoc]
    exact hlp (uc + n1) (us + 6 * n1) _ H' z5 z6 z7 hD' (by omega)
end Law
set_option maxRecDepth 100000 in
theorem x_main_ok : x_main := by
  intro l hf x hx
  generalize hxs : x.2.2.2.2.2.2 = xs
  generalize hLs : x.2.2.2.2.2.1 = Ls at hx
  obtain ⟨n, hn, hlp⟩ := law_loop (l := l) (x := x) (xs := xs) hf hx (Ls / 6) 0 (fun _ => 0, 0) (fun _ => 0, 0) (0, -1, 0, 0) (fun _ => 0) (by omega) (by omega) ⟨fun _ => Nat.zero_lt_succ _, by decide, fun _ => Nat.zero_lt_succ _, by decide, by decide⟩
  refine ⟨94 + n, by omega, ?_⟩
  refine xs_newK (k' := 2) rfl rfl nc_16_8 rfl rfl (by decide) (by omega) (by omega) ?_
  refine xs_dup rfl rfl ?_
  refine xs_callI rfl lk_16_51 (d' := 5) (c_RP_init (s0 := aI Ls xs)) (by decide) rfl rfl (Nat.le_of_ble_eq_true rfl) (by omega) (by omega) ?_
  rintro _ H1 ⟨rfl, k2, k3, c1, c2, f9, hk, hc1, hc2, rfl⟩
  refine xs_astore_n (L' := [some (.ref 0), some (.ref 2), none, none, none, none, none, none]) rfl rfl rfl ?_
  refine xs_newK (k' := 74) rfl rfl nc_16_52 rfl rfl (by decide) (by omega) (by omega) ?_
  refine xs_dup rfl rfl ?_
  refine xs_callI rfl lk_16_54 (d' := 5) (c_MO_init (P := (P10 (aI Ls xs) (.ref 11) (.ref 51) ++ PKl k2 k3) ++ UNl c1 c2 f9) rfl (by decide)) (by decide) rfl rfl (Nat.le_of_ble_eq_true rfl) (by omega) (by omega) ?_
  rintro _ H1 ⟨rfl, rfl⟩
  refine xs_astore_n (L' := [some (.ref 0), some (.ref 2), some (.ref 74), none, none, none, none, none]) rfl rfl rfl ?_
  refine xs_iconstV (v := 1) rfl rfl ?_
  refine xs_newaK (k' := 95) rfl rfl (Or.inr (Or.inr (Or.inl rfl))) aw_long (n := 1) rfl (by decide) (by omega) (by omega) ?_
  refine xs_astore_n (L' := [some (.ref 0), some (.ref 2), some (.ref 74), some (.ref 95), none, none, none, none]) rfl rfl rfl ?_
  refine xs_iconstV (v := 0) rfl rfl ?_
  refine xs_istore (L' := [some (.ref 0), some (.ref 2), some (.ref 74), some (.ref 95), some (.int (nI 0)), none, none, none]) rfl rfl rfl ?_
  refine hlp 94 _ _ _ none none none ?_ (by omega)
  refine ⟨fun _ => 0, fun _ => 0, ((0, 0, 0, 0), k2, k3, (0, 0, 0, 0, (fun _ => 0, fun _ => 0, fun _ => 0), (fun _ => 0, fun _ => 0, fun _ => 0), (fun _ => 0, fun _ => 0, fun _ => 0), (0, 36, 37, fun _ => 0, fun _ => 0, fun _ => 0, fun _ => 0, fun _ => 0), fun _ => 0, fun _ => 0, fun _ => 0, fun _ => 0), (fun _ => 0, fun _ => 0, fun _ => 0, fun _ => 0), (0, 0, 0, 0, fun _ => 0, fun _ => 0), (0, 0)), (0, 0, 0, c1, c2, (0, fun _ => 0, fun _ => 0, fun _ => 0), (0, fun _ => 0, fun _ => 0, fun _ => 0), (0, fun _ => 0, fun _ => 0, fun _ => 0), fun _ => 0, f9), 0, 0, 0, (fun _ => 0, fun _ => 0, fun _ => 0, fun _ => 0), (fun _ => 0, fun _ => 0, 0, fun _ => 0, fun _ => 0, fun _ => 0, fun _ => 0, fun _ => 0, fun _ => 0, fun _ => 0, fun _ => 0, 0, 0, 0, 0), fun _ => 0, [], fun _ _ => rfl, fun _ _ => rfl, fun _ => Nat.zero_lt_succ _, fun _ => Nat.zero_lt_succ _, ⟨hk, Or.inl ⟨rfl, rfl⟩⟩, hc1, hc2, ?_⟩
  rfl
