theorem x_ga {P L : xH} {p i : Nat} {c : va_E} (hP : P.length = p) (h : L[i]? = some c) : (P ++ L)[p + i]? = some c := by
  rw [List.getElem?_append_right (by omega), hP, show p + i - p = i by omega]
  exact h
theorem x_sa {P L : xH} {p i : Nat} {c : va_E} (hP : P.length = p) : (P ++ L).set (p + i) c = P ++ L.set i c := by
  rw [List.set_append_right _ _ (by omega), hP, show p + i - p = i by omega]
theorem x_gr {P L M : xH} {p i : Nat} {c : va_E} (hP : P.length = p) (h : (L ++ M)[i]? = some c) : (P ++ L ++ M)[p + i]? = some c := by
  rw [List.append_assoc]
  exact x_ga hP h
section XK
variable {l : Launch} {x : xX} {d mc ms : Nat} {μ : xM} {n0 : Nat} {Q : xO → xH → Prop} {cl : Bool} {k : Nat} {L : xL} {S : List Value} {H : xH} {uc us k' : Nat} {a : Int32}
theorem xs_newaK {t : ArrayType} (hk : H.length = k') (hc : μ.2.2.2.2.2[k]? = some (.newarray t)) (ht : t = .int ∨ t = .byte ∨ t = .long ∨ t = .boolean) (hw : Cond.arrayClass (newarray.typeOf t) ∈ x_tw) {n : Nat} (hna : a = nI n) (hn31 : n < 2 ^ 26) (hu : uc + 1 ≤ mc) (hu2 : us + n ≤ ms)
    (kk : xW l x d mc ms μ n0 Q false (k + 1) L (.ref k' :: S) (H ++ [.inl (x_ka t, x_a0 t n)]) (uc + 1) (us + n)) : xW l x d mc ms μ n0 Q cl k L (.int a :: S) H uc us := by
  subst hk
  exact xs_newa hc ht hw hna hn31 hu hu2 kk
theorem xs_newK {idx ci N : Nat} {C : String} {T : u_T} (hk : H.length = k') (hc : μ.2.2.2.2.2[k]? = some (.new idx)) (hN : x_NC μ.2.2.2.2.1 idx ci N) (hcl : x_cl[ci]? = some (C, T, N)) (hC : x_cn ci = C) (hdv : ∀ j, j < N → defaultValue (x_tys ci j) = x_dv (x_tys ci j)) (hu : uc + 1 ≤ mc) (hu2 : us + N ≤ ms)
    (kk : xW l x d mc ms μ n0 Q false (k + 1) L (.ref k' :: S) (H ++ [.inr (ci, x_df ci N)]) (uc + 1) (us + N)) : xW l x d mc ms μ n0 Q cl k L S H uc us := by
  subst hk
  exact xs_new hc hN hcl hC hdv hu hu2 kk
end XK
theorem c_RO_init {l : Launch} {x : xX} {P : xH} {p : Nat} {n : Nat} (hP : P.length = p) (hn : n < 2 ^ 26) : xCr l x 1 1 n mRO_init [.ref p, .int (nI n)] (P ++ [.inr (7, [.null, .int 0])]) (fun o H' => o = none ∧ H' = P ++ [.inr (7, [.ref (p + 1), .int 0]), aB n (fun _ => 0)]) := by
  refine xCt.of (by decide) rfl ck_RO_init (Nat.le_of_ble_eq_true rfl) rfl ?_
  refine b_RO_init_0 ?_
  refine xs_obj rfl lo_7_1 lo_i lo_c (by omega) (Nat.le_of_ble_eq_true rfl) ?_
  refine b_RO_init_2 ?_
  refine xs_newaK (k' := (p + 1)) (by rw [List.length_append, hP]; rfl) rfl (Or.inr (Or.inl rfl)) aw_byte (n := n) rfl (by omega) (by omega) (by omega) ?_
  simp only [List.append_assoc, List.cons_append, List.nil_append]
  refine b_RO_init_5 ⟨_, (x_ga hP (i := 0) rfl), Nat.le_of_ble_eq_true rfl, fun H9 e9 => ?_⟩
  obtain rfl : H9 = P ++ [.inr (7, [.ref (p + 1), .int 0]), aB n (fun _ => 0)] := e9.trans (x_sa hP (i := 0))
  refine ⟨rfl, by omega, ?_⟩
  exact ⟨_, rfl, rfl, rfl⟩

theorem c_RE_init {l : Launch} {x : xX} {P : xH} {p : Nat} (hP : P.length = p) : xCr l x 1 1 256 mRE_init [.ref p] (P ++ [.inr (6, [.null, .int 0, .int 0, .int 0, .int 0])]) (fun o H' => o = none ∧ H' = P ++ [.inr (6, [.ref (p + 1), .int 0, .int (-1), .int 0, .int 0]), aI 256 (fun _ => 0)]) := by
  refine xCt.of (by decide) rfl ck_RE_init (Nat.le_of_ble_eq_true rfl) rfl ?_
  refine b_RE_init_0 ?_
  refine xs_obj rfl lo_6_3 lo_i lo_c (by omega) (Nat.le_of_ble_eq_true rfl) ?_
  refine b_RE_init_2 ?_
  refine xs_newaK (k' := (p + 1)) (by rw [List.length_append, hP]; rfl) rfl (Or.inl rfl) aw_int (n := 256) rfl (by omega) (by omega) (by omega) ?_
  simp only [List.append_assoc, List.cons_append, List.nil_append]
  refine b_RE_init_5 ⟨_, (x_ga hP (i := 0) rfl), Nat.le_of_ble_eq_true rfl, fun H9 e9 => ?_⟩
  obtain rfl : H9 = P ++ [.inr (6, [.ref (p + 1), .int 0, .int 0, .int 0, .int 0]), aI 256 (fun _ => 0)] := e9.trans (x_sa hP (i := 0))
  refine ⟨_, (x_ga hP (i := 0) rfl), Nat.le_of_ble_eq_true rfl, fun H9 e9 => ?_⟩
  obtain rfl : H9 = P ++ [.inr (6, [.ref (p + 1), .int 0, .int (-1), .int 0, .int 0]), aI 256 (fun _ => 0)] := e9.trans (x_sa hP (i := 0))
  refine ⟨rfl, by omega, ?_⟩
  exact ⟨_, rfl, rfl, rfl⟩

theorem c_WC_init {l : Launch} {x : xX} {P : xH} {p : Nat} {n : Nat} (hP : P.length = p) (hn : n < 2 ^ 26) : xCr l x 1 3 (17 + n + n) mWC_init [.ref p, .int (nI n)] (P ++ [.inr (11, [.null, .null, .null])]) (fun o H' => o = none ∧ H' = P ++ [.inr (11, [.ref (p + 2), .ref (p + 3), .ref (p + 1)]), aI 17 (fun _ => 0), aI n (fun _ => 0), aI n (fun _ => 0)]) := by
  refine xCt.of (by decide) rfl ck_WC_init (Nat.le_of_ble_eq_true rfl) rfl ?_
  refine b_WC_init_0 ?_
  refine xs_obj rfl lo_11_3 lo_i lo_c (by omega) (Nat.le_of_ble_eq_true rfl) ?_
  refine b_WC_init_2 ?_
  refine xs_newaK (k' := (p + 1)) (by rw [List.length_append, hP]; rfl) rfl (Or.inl rfl) aw_int (n := 17) rfl (by omega) (by omega) (by omega) ?_
  simp only [List.append_assoc, List.cons_append, List.nil_append]
  refine b_WC_init_5 ⟨_, (x_ga hP (i := 0) rfl), Nat.le_of_ble_eq_true rfl, fun H9 e9 => ?_⟩
  obtain rfl : H9 = P ++ [.inr (11, [.null, .null, .ref (p + 1)]), aI 17 (fun _ => 0)] := e9.trans (x_sa hP (i := 0))
  refine xs_newaK (k' := (p + 2)) (by rw [List.length_append, hP]; rfl) rfl (Or.inl rfl) aw_int (n := n) rfl (by omega) (by omega) (by omega) ?_
  simp only [List.append_assoc, List.cons_append, List.nil_append]
  refine b_WC_init_9 ⟨_, (x_ga hP (i := 0) rfl), Nat.le_of_ble_eq_true rfl, fun H9 e9 => ?_⟩
  obtain rfl : H9 = P ++ [.inr (11, [.ref (p + 2), .null, .ref (p + 1)]), aI 17 (fun _ => 0), aI n (fun _ => 0)] := e9.trans (x_sa hP (i := 0))
  refine xs_newaK (k' := (p + 3)) (by rw [List.length_append, hP]; rfl) rfl (Or.inl rfl) aw_int (n := n) rfl (by omega) (by omega) (by omega) ?_
  simp only [List.append_assoc, List.cons_append, List.nil_append]
  refine b_WC_init_13 ⟨_, (x_ga hP (i := 0) rfl), Nat.le_of_ble_eq_true rfl, fun H9 e9 => ?_⟩
  obtain rfl : H9 = P ++ [.inr (11, [.ref (p + 2), .ref (p + 3), .ref (p + 1)]), aI 17 (fun _ => 0), aI n (fun _ => 0), aI n (fun _ => 0)] := e9.trans (x_sa hP (i := 0))
  refine ⟨rfl, by omega, ?_⟩
  exact ⟨_, rfl, rfl, rfl⟩

theorem c_RC_init {l : Launch} {x : xX} {P : xH} {p : Nat} (hP : P.length = p) : xCr l x 1 3 321 mRC_init [.ref p] (P ++ [.inr (5, [.null, .null, .int 0, .null])]) (fun o H' => o = none ∧ H' = P ++ [.inr (5, [.ref (p + 1), .ref (p + 2), .int 0, .ref (p + 3)]), aI 16 (fun _ => 0), aI 288 (fun _ => 0), aI 17 (fun _ => 0)]) := by
  refine xCt.of (by decide) rfl ck_RC_init (Nat.le_of_ble_eq_true rfl) rfl ?_
  refine b_RC_init_0 ?_
  refine xs_obj rfl lo_5_3 lo_i lo_c (by omega) (Nat.le_of_ble_eq_true rfl) ?_
  refine b_RC_init_2 ?_
  refine xs_newaK (k' := (p + 1)) (by rw [List.length_append, hP]; rfl) rfl (Or.inl rfl) aw_int (n := 16) rfl (by omega) (by omega) (by omega) ?_
  simp only [List.append_assoc, List.cons_append, List.nil_append]
  refine b_RC_init_5 ⟨_, (x_ga hP (i := 0) rfl), Nat.le_of_ble_eq_true rfl, fun H9 e9 => ?_⟩
  obtain rfl : H9 = P ++ [.inr (5, [.ref (p + 1), .null, .int 0, .null]), aI 16 (fun _ => 0)] := e9.trans (x_sa hP (i := 0))
  refine xs_newaK (k' := (p + 2)) (by rw [List.length_append, hP]; rfl) rfl (Or.inl rfl) aw_int (n := 288) rfl (by omega) (by omega) (by omega) ?_
  simp only [List.append_assoc, List.cons_append, List.nil_append]
  refine b_RC_init_9 ⟨_, (x_ga hP (i := 0) rfl), Nat.le_of_ble_eq_true rfl, fun H9 e9 => ?_⟩
  obtain rfl : H9 = P ++ [.inr (5, [.ref (p + 1), .ref (p + 2), .int 0, .null]), aI 16 (fun _ => 0), aI 288 (fun _ => 0)] := e9.trans (x_sa hP (i := 0))
  refine xs_newaK (k' := (p + 3)) (by rw [List.length_append, hP]; rfl) rfl (Or.inl rfl) aw_int (n := 17) rfl (by omega) (by omega) (by omega) ?_
  simp only [List.append_assoc, List.cons_append, List.nil_append]
  refine b_RC_init_13 ⟨_, (x_ga hP (i := 0) rfl), Nat.le_of_ble_eq_true rfl, fun H9 e9 => ?_⟩
  obtain rfl : H9 = P ++ [.inr (5, [.ref (p + 1), .ref (p + 2), .int 0, .ref (p + 3)]), aI 16 (fun _ => 0), aI 288 (fun _ => 0), aI 17 (fun _ => 0)] := e9.trans (x_sa hP (i := 0))
  refine ⟨rfl, by omega, ?_⟩
  exact ⟨_, rfl, rfl, rfl⟩

theorem c_WE_init {l : Launch} {x : xX} {P : xH} {p : Nat} (hP : P.length = p) : xCr l x 1 5 10296 mWE_init [.ref p] (P ++ [.inr (10, [.null, .null, .int 0, .null, .null, .null])]) (fun o H' => o = none ∧ H' = P ++ [.inr (10, [.ref (p + 1), .ref (p + 2), .int 0, .ref (p + 3), .ref (p + 4), .ref (p + 5)]), aI 286 (fun _ => 0), aI 286 (fun _ => 0), aI 572 (fun _ => 0), aI 572 (fun _ => 0), aZ 8580 (fun _ => 0)]) := by
  refine xCt.of (by decide) rfl ck_WE_init (Nat.le_of_ble_eq_true rfl) rfl ?_
  refine b_WE_init_0 ?_
  refine xs_obj rfl lo_10_3 lo_i lo_c (by omega) (Nat.le_of_ble_eq_true rfl) ?_
  refine b_WE_init_2 ?_
  refine xs_newaK (k' := (p + 1)) (by rw [List.length_append, hP]; rfl) rfl (Or.inl rfl) aw_int (n := 286) rfl (by omega) (by omega) (by omega) ?_
  simp only [List.append_assoc, List.cons_append, List.nil_append]
  refine b_WE_init_5 ⟨_, (x_ga hP (i := 0) rfl), Nat.le_of_ble_eq_true rfl, fun H9 e9 => ?_⟩
  obtain rfl : H9 = P ++ [.inr (10, [.ref (p + 1), .null, .int 0, .null, .null, .null]), aI 286 (fun _ => 0)] := e9.trans (x_sa hP (i := 0))
  refine xs_newaK (k' := (p + 2)) (by rw [List.length_append, hP]; rfl) rfl (Or.inl rfl) aw_int (n := 286) rfl (by omega) (by omega) (by omega) ?_
  simp only [List.append_assoc, List.cons_append, List.nil_append]
  refine b_WE_init_9 ⟨_, (x_ga hP (i := 0) rfl), Nat.le_of_ble_eq_true rfl, fun H9 e9 => ?_⟩
  obtain rfl : H9 = P ++ [.inr (10, [.ref (p + 1), .ref (p + 2), .int 0, .null, .null, .null]), aI 286 (fun _ => 0), aI 286 (fun _ => 0)] := e9.trans (x_sa hP (i := 0))
  refine xs_newaK (k' := (p + 3)) (by rw [List.length_append, hP]; rfl) rfl (Or.inl rfl) aw_int (n := 572) rfl (by omega) (by omega) (by omega) ?_
  simp only [List.append_assoc, List.cons_append, List.nil_append]
  refine b_WE_init_13 ⟨_, (x_ga hP (i := 0) rfl), Nat.le_of_ble_eq_true rfl, fun H9 e9 => ?_⟩
  obtain rfl : H9 = P ++ [.inr (10, [.ref (p + 1), .ref (p + 2), .int 0, .ref (p + 3), .null, .null]), aI 286 (fun _ => 0), aI 286 (fun _ => 0), aI 572 (fun _ => 0)] := e9.trans (x_sa hP (i := 0))
  refine xs_newaK (k' := (p + 4)) (by rw [List.length_append, hP]; rfl) rfl (Or.inl rfl) aw_int (n := 572) rfl (by omega) (by omega) (by omega) ?_
  simp only [List.append_assoc, List.cons_append, List.nil_append]
  refine b_WE_init_17 ⟨_, (x_ga hP (i := 0) rfl), Nat.le_of_ble_eq_true rfl, fun H9 e9 => ?_⟩
  obtain rfl : H9 = P ++ [.inr (10, [.ref (p + 1), .ref (p + 2), .int 0, .ref (p + 3), .ref (p + 4), .null]), aI 286 (fun _ => 0), aI 286 (fun _ => 0), aI 572 (fun _ => 0), aI 572 (fun _ => 0)] := e9.trans (x_sa hP (i := 0))
  refine xs_newaK (k' := (p + 5)) (by rw [List.length_append, hP]; rfl) rfl (Or.inr (Or.inr (Or.inr rfl))) aw_boolean (n := 8580) rfl (by omega) (by omega) (by omega) ?_
  simp only [List.append_assoc, List.cons_append, List.nil_append]
  refine b_WE_init_21 ⟨_, (x_ga hP (i := 0) rfl), Nat.le_of_ble_eq_true rfl, fun H9 e9 => ?_⟩
  obtain rfl : H9 = P ++ [.inr (10, [.ref (p + 1), .ref (p + 2), .int 0, .ref (p + 3), .ref (p + 4), .ref (p + 5)]), aI 286 (fun _ => 0), aI 286 (fun _ => 0), aI 572 (fun _ => 0), aI 572 (fun _ => 0), aZ 8580 (fun _ => 0)] := e9.trans (x_sa hP (i := 0))
  refine ⟨rfl, by omega, ?_⟩
  exact ⟨_, rfl, rfl, rfl⟩

theorem c_BW_init {l : Launch} {x : xX} {P : xH} {p : Nat} {tr : Nat} (hP : P.length = p) : xCr l x 1 0 0 mBW_init [.ref p, .ref tr] (P ++ [.inr (1, [.null, .int 0, .int 0])]) (fun o H' => o = none ∧ H' = P ++ [.inr (1, [.ref tr, .int 0, .int 0])]) := by
  refine xCt.of (by decide) rfl ck_BW_init (Nat.le_of_ble_eq_true rfl) rfl ?_
  refine b_BW_init_0 ?_
  refine xs_obj rfl lo_1_1 lo_i lo_c (by omega) (Nat.le_of_ble_eq_true rfl) ?_
  refine b_BW_init_2 ⟨_, (x_ga hP (i := 0) rfl), Nat.le_of_ble_eq_true rfl, fun H9 e9 => ?_⟩
  obtain rfl : H9 = P ++ [.inr (1, [.ref tr, .int 0, .int 0])] := e9.trans (x_sa hP (i := 0))
  refine ⟨rfl, by omega, ?_⟩
  exact ⟨_, rfl, rfl, rfl⟩

theorem c_FI_init {l : Launch} {x : xX} {P : xH} {p : Nat} {tr : Nat} (hP : P.length = p) : xCr l x 1 2 36864 mFI_init [.ref p, .ref tr] (P ++ [.inr (2, [.int 0, .int 0, .null, .null, .null, .int 0, .int 0])]) (fun o H' => o = none ∧ H' = P ++ [.inr (2, [.int 0, .int 0, .ref tr, .ref (p + 1), .ref (p + 2), .int 0, .int 0]), aI 4096 (fun _ => 0), aI 32768 (fun _ => 0)]) := by
  refine xCt.of (by decide) rfl ck_FI_init (Nat.le_of_ble_eq_true rfl) rfl ?_
  refine b_FI_init_0 ?_
  refine xs_obj rfl lo_2_5 lo_i lo_c (by omega) (Nat.le_of_ble_eq_true rfl) ?_
  refine b_FI_init_2 ?_
  refine xs_newaK (k' := (p + 1)) (by rw [List.length_append, hP]; rfl) rfl (Or.inl rfl) aw_int (n := 4096) rfl (by omega) (by omega) (by omega) ?_
  simp only [List.append_assoc, List.cons_append, List.nil_append]
  refine b_FI_init_5 ⟨_, (x_ga hP (i := 0) rfl), Nat.le_of_ble_eq_true rfl, fun H9 e9 => ?_⟩
  obtain rfl : H9 = P ++ [.inr (2, [.int 0, .int 0, .null, .ref (p + 1), .null, .int 0, .int 0]), aI 4096 (fun _ => 0)] := e9.trans (x_sa hP (i := 0))
  refine xs_newaK (k' := (p + 2)) (by rw [List.length_append, hP]; rfl) rfl (Or.inl rfl) aw_int (n := 32768) rfl (by omega) (by omega) (by omega) ?_
  simp only [List.append_assoc, List.cons_append, List.nil_append]
  refine b_FI_init_9 ⟨_, (x_ga hP (i := 0) rfl), Nat.le_of_ble_eq_true rfl, fun H9 e9 => ?_⟩
  obtain rfl : H9 = P ++ [.inr (2, [.int 0, .int 0, .null, .ref (p + 1), .ref (p + 2), .int 0, .int 0]), aI 4096 (fun _ => 0), aI 32768 (fun _ => 0)] := e9.trans (x_sa hP (i := 0))
  refine ⟨_, (x_ga hP (i := 0) rfl), Nat.le_of_ble_eq_true rfl, fun H9 e9 => ?_⟩
  obtain rfl : H9 = P ++ [.inr (2, [.int 0, .int 0, .ref tr, .ref (p + 1), .ref (p + 2), .int 0, .int 0]), aI 4096 (fun _ => 0), aI 32768 (fun _ => 0)] := e9.trans (x_sa hP (i := 0))
  refine ⟨rfl, by omega, ?_⟩
  exact ⟨_, rfl, rfl, rfl⟩

theorem c_MC_init {l : Launch} {x : xX} {P : xH} {p : Nat} (hP : P.length = p) : xCr l x 2 22 12270 mMC_init [.ref p] (P ++ [.inr (3, [.null, .null, .null, .null, .null, .null, .null, .null, .int 0, .int 0, .int 0, .int 0])]) (fun o H' => o = none ∧ H' = P ++ [.inr (3, [.ref (p + 1), .ref (p + 5), .ref (p + 9), .ref (p + 13), .ref (p + 19), .ref (p + 20), .ref (p + 21), .ref (p + 22), .int 0, .int 0, .int 0, .int 0]), .inr (11, [.ref (p + 3), .ref (p + 4), .ref (p + 2)]), aI 17 (fun _ => 0), aI 286 (fun _ => 0), aI 286 (fun _ => 0), .inr (11, [.ref (p + 7), .ref (p + 8), .ref (p + 6)]), aI 17 (fun _ => 0), aI 30 (fun _ => 0), aI 30 (fun _ => 0), .inr (11, [.ref (p + 11), .ref (p + 12), .ref (p + 10)]), aI 17 (fun _ => 0), aI 19 (fun _ => 0), aI 19 (fun _ => 0), .inr (10, [.ref (p + 14), .ref (p + 15), .int 0, .ref (p + 16), .ref (p + 17), .ref (p + 18)]), aI 286 (fun _ => 0), aI 286 (fun _ => 0), aI 572 (fun _ => 0), aI 572 (fun _ => 0), aZ 8580 (fun _ => 0), aI 316 (fun _ => 0), aI 316 (fun _ => 0), aI 316 (fun _ => 0), aI 19 (fun _ => 0)]) := by
  refine xCt.of (by decide) rfl ck_MC_init (Nat.le_of_ble_eq_true rfl) rfl ?_
  refine b_MC_init_0 ?_
  refine xs_obj rfl lo_3_3 lo_i lo_c (by omega) (Nat.le_of_ble_eq_true rfl) ?_
  refine b_MC_init_2 ?_
  refine xs_newK (k' := (p + 1)) (by rw [List.length_append, hP]; rfl) rfl nc_3_9 rfl rfl (by decide) (by omega) (by omega) ?_
  refine b_MC_init_4 ?_
  refine xs_callI rfl lk_3_11 (d' := 1) (c_WC_init (n := 286) (by rw [List.length_append, hP]; rfl) (by omega)) (by omega) rfl rfl (Nat.le_of_ble_eq_true rfl) (by omega) (by omega) ?_
  rintro _ _ ⟨rfl, rfl⟩
  simp only [List.append_assoc, List.cons_append, List.nil_append]
  refine b_MC_init_7 ⟨_, (x_ga hP (i := 0) rfl), Nat.le_of_ble_eq_true rfl, fun H9 e9 => ?_⟩
  obtain rfl : H9 = P ++ [.inr (3, [.ref (p + 1), .null, .null, .null, .null, .null, .null, .null, .int 0, .int 0, .int 0, .int 0]), .inr (11, [.ref (p + 3), .ref (p + 4), .ref (p + 2)]), aI 17 (fun _ => 0), aI 286 (fun _ => 0), aI 286 (fun _ => 0)] := e9.trans (x_sa hP (i := 0))
  refine xs_newK (k' := (p + 5)) (by rw [List.length_append, hP]; rfl) rfl nc_3_9 rfl rfl (by decide) (by omega) (by omega) ?_
  refine b_MC_init_10 ?_
  refine xs_callI rfl lk_3_11 (d' := 1) (c_WC_init (n := 30) (by rw [List.length_append, hP]; rfl) (by omega)) (by omega) rfl rfl (Nat.le_of_ble_eq_true rfl) (by omega) (by omega) ?_
  rintro _ _ ⟨rfl, rfl⟩
  simp only [List.append_assoc, List.cons_append, List.nil_append]
  refine b_MC_init_13 ⟨_, (x_ga hP (i := 0) rfl), Nat.le_of_ble_eq_true rfl, fun H9 e9 => ?_⟩
  obtain rfl : H9 = P ++ [.inr (3, [.ref (p + 1), .ref (p + 5), .null, .null, .null, .null, .null, .null, .int 0, .int 0, .int 0, .int 0]), .inr (11, [.ref (p + 3), .ref (p + 4), .ref (p + 2)]), aI 17 (fun _ => 0), aI 286 (fun _ => 0), aI 286 (fun _ => 0), .inr (11, [.ref (p + 7), .ref (p + 8), .ref (p + 6)]), aI 17 (fun _ => 0), aI 30 (fun _ => 0), aI 30 (fun _ => 0)] := e9.trans (x_sa hP (i := 0))
  refine xs_newK (k' := (p + 9)) (by rw [List.length_append, hP]; rfl) rfl nc_3_9 rfl rfl (by decide) (by omega) (by omega) ?_
  refine b_MC_init_16 ?_
  refine xs_callI rfl lk_3_11 (d' := 1) (c_WC_init (n := 19) (by rw [List.length_append, hP]; rfl) (by omega)) (by omega) rfl rfl (Nat.le_of_ble_eq_true rfl) (by omega) (by omega) ?_
  rintro _ _ ⟨rfl, rfl⟩
  simp only [List.append_assoc, List.cons_append, List.nil_append]
  refine b_MC_init_19 ⟨_, (x_ga hP (i := 0) rfl), Nat.le_of_ble_eq_true rfl, fun H9 e9 => ?_⟩
  obtain rfl : H9 = P ++ [.inr (3, [.ref (p + 1), .ref (p + 5), .ref (p + 9), .null, .null, .null, .null, .null, .int 0, .int 0, .int 0, .int 0]), .inr (11, [.ref (p + 3), .ref (p + 4), .ref (p + 2)]), aI 17 (fun _ => 0), aI 286 (fun _ => 0), aI 286 (fun _ => 0), .inr (11, [.ref (p + 7), .ref (p + 8), .ref (p + 6)]), aI 17 (fun _ => 0), aI 30 (fun _ => 0), aI 30 (fun _ => 0), .inr (11, [.ref (p + 11), .ref (p + 12), .ref (p + 10)]), aI 17 (fun _ => 0), aI 19 (fun _ => 0), aI 19 (fun _ => 0)] := e9.trans (x_sa hP (i := 0))
  refine xs_newK (k' := (p + 13)) (by rw [List.length_append, hP]; rfl) rfl nc_3_26 rfl rfl (by decide) (by omega) (by omega) ?_
  refine b_MC_init_22 ?_
  refine xs_callIN rfl lk_3_28 (d' := 1) (c_WE_init (by rw [List.length_append, hP]; rfl)) (by omega) rfl rfl (Nat.le_of_ble_eq_true rfl) (by omega) (by omega) ?_
  rintro _ _ ⟨rfl, rfl⟩
  simp only [List.append_assoc, List.cons_append, List.nil_append]
  refine b_MC_init_24 ⟨_, (x_ga hP (i := 0) rfl), Nat.le_of_ble_eq_true rfl, fun H9 e9 => ?_⟩
  obtain rfl : H9 = P ++ [.inr (3, [.ref (p + 1), .ref (p + 5), .ref (p + 9), .ref (p + 13), .null, .null, .null, .null, .int 0, .int 0, .int 0, .int 0]), .inr (11, [.ref (p + 3), .ref (p + 4), .ref (p + 2)]), aI 17 (fun _ => 0), aI 286 (fun _ => 0), aI 286 (fun _ => 0), .inr (11, [.ref (p + 7), .ref (p + 8), .ref (p + 6)]), aI 17 (fun _ => 0), aI 30 (fun _ => 0), aI 30 (fun _ => 0), .inr (11, [.ref (p + 11), .ref (p + 12), .ref (p + 10)]), aI 17 (fun _ => 0), aI 19 (fun _ => 0), aI 19 (fun _ => 0), .inr (10, [.ref (p + 14), .ref (p + 15), .int 0, .ref (p + 16), .ref (p + 17), .ref (p + 18)]), aI 286 (fun _ => 0), aI 286 (fun _ => 0), aI 572 (fun _ => 0), aI 572 (fun _ => 0), aZ 8580 (fun _ => 0)] := e9.trans (x_sa hP (i := 0))
  refine xs_newaK (k' := (p + 19)) (by rw [List.length_append, hP]; rfl) rfl (Or.inl rfl) aw_int (n := 316) rfl (by omega) (by omega) (by omega) ?_
  simp only [List.append_assoc, List.cons_append, List.nil_append]
  refine b_MC_init_28 ⟨_, (x_ga hP (i := 0) rfl), Nat.le_of_ble_eq_true rfl, fun H9 e9 => ?_⟩
  obtain rfl : H9 = P ++ [.inr (3, [.ref (p + 1), .ref (p + 5), .ref (p + 9), .ref (p + 13), .ref (p + 19), .null, .null, .null, .int 0, .int 0, .int 0, .int 0]), .inr (11, [.ref (p + 3), .ref (p + 4), .ref (p + 2)]), aI 17 (fun _ => 0), aI 286 (fun _ => 0), aI 286 (fun _ => 0), .inr (11, [.ref (p + 7), .ref (p + 8), .ref (p + 6)]), aI 17 (fun _ => 0), aI 30 (fun _ => 0), aI 30 (fun _ => 0), .inr (11, [.ref (p + 11), .ref (p + 12), .ref (p + 10)]), aI 17 (fun _ => 0), aI 19 (fun _ => 0), aI 19 (fun _ => 0), .inr (10, [.ref (p + 14), .ref (p + 15), .int 0, .ref (p + 16), .ref (p + 17), .ref (p + 18)]), aI 286 (fun _ => 0), aI 286 (fun _ => 0), aI 572 (fun _ => 0), aI 572 (fun _ => 0), aZ 8580 (fun _ => 0), aI 316 (fun _ => 0)] := e9.trans (x_sa hP (i := 0))
  refine xs_newaK (k' := (p + 20)) (by rw [List.length_append, hP]; rfl) rfl (Or.inl rfl) aw_int (n := 316) rfl (by omega) (by omega) (by omega) ?_
  simp only [List.append_assoc, List.cons_append, List.nil_append]
  refine b_MC_init_32 ⟨_, (x_ga hP (i := 0) rfl), Nat.le_of_ble_eq_true rfl, fun H9 e9 => ?_⟩
  obtain rfl : H9 = P ++ [.inr (3, [.ref (p + 1), .ref (p + 5), .ref (p + 9), .ref (p + 13), .ref (p + 19), .ref (p + 20), .null, .null, .int 0, .int 0, .int 0, .int 0]), .inr (11, [.ref (p + 3), .ref (p + 4), .ref (p + 2)]), aI 17 (fun _ => 0), aI 286 (fun _ => 0), aI 286 (fun _ => 0), .inr (11, [.ref (p + 7), .ref (p + 8), .ref (p + 6)]), aI 17 (fun _ => 0), aI 30 (fun _ => 0), aI 30 (fun _ => 0), .inr (11, [.ref (p + 11), .ref (p + 12), .ref (p + 10)]), aI 17 (fun _ => 0), aI 19 (fun _ => 0), aI 19 (fun _ => 0), .inr (10, [.ref (p + 14), .ref (p + 15), .int 0, .ref (p + 16), .ref (p + 17), .ref (p + 18)]), aI 286 (fun _ => 0), aI 286 (fun _ => 0), aI 572 (fun _ => 0), aI 572 (fun _ => 0), aZ 8580 (fun _ => 0), aI 316 (fun _ => 0), aI 316 (fun _ => 0)] := e9.trans (x_sa hP (i := 0))
  refine xs_newaK (k' := (p + 21)) (by rw [List.length_append, hP]; rfl) rfl (Or.inl rfl) aw_int (n := 316) rfl (by omega) (by omega) (by omega) ?_
  simp only [List.append_assoc, List.cons_append, List.nil_append]
  refine b_MC_init_36 ⟨_, (x_ga hP (i := 0) rfl), Nat.le_of_ble_eq_true rfl, fun H9 e9 => ?_⟩
  obtain rfl : H9 = P ++ [.inr (3, [.ref (p + 1), .ref (p + 5), .ref (p + 9), .ref (p + 13), .ref (p + 19), .ref (p + 20), .ref (p + 21), .null, .int 0, .int 0, .int 0, .int 0]), .inr (11, [.ref (p + 3), .ref (p + 4), .ref (p + 2)]), aI 17 (fun _ => 0), aI 286 (fun _ => 0), aI 286 (fun _ => 0), .inr (11, [.ref (p + 7), .ref (p + 8), .ref (p + 6)]), aI 17 (fun _ => 0), aI 30 (fun _ => 0), aI 30 (fun _ => 0), .inr (11, [.ref (p + 11), .ref (p + 12), .ref (p + 10)]), aI 17 (fun _ => 0), aI 19 (fun _ => 0), aI 19 (fun _ => 0), .inr (10, [.ref (p + 14), .ref (p + 15), .int 0, .ref (p + 16), .ref (p + 17), .ref (p + 18)]), aI 286 (fun _ => 0), aI 286 (fun _ => 0), aI 572 (fun _ => 0), aI 572 (fun _ => 0), aZ 8580 (fun _ => 0), aI 316 (fun _ => 0), aI 316 (fun _ => 0), aI 316 (fun _ => 0)] := e9.trans (x_sa hP (i := 0))
  refine xs_newaK (k' := (p + 22)) (by rw [List.length_append, hP]; rfl) rfl (Or.inl rfl) aw_int (n := 19) rfl (by omega) (by omega) (by omega) ?_
  simp only [List.append_assoc, List.cons_append, List.nil_append]
  refine b_MC_init_40 ⟨_, (x_ga hP (i := 0) rfl), Nat.le_of_ble_eq_true rfl, fun H9 e9 => ?_⟩
  obtain rfl : H9 = P ++ [.inr (3, [.ref (p + 1), .ref (p + 5), .ref (p + 9), .ref (p + 13), .ref (p + 19), .ref (p + 20), .ref (p + 21), .ref (p + 22), .int 0, .int 0, .int 0, .int 0]), .inr (11, [.ref (p + 3), .ref (p + 4), .ref (p + 2)]), aI 17 (fun _ => 0), aI 286 (fun _ => 0), aI 286 (fun _ => 0), .inr (11, [.ref (p + 7), .ref (p + 8), .ref (p + 6)]), aI 17 (fun _ => 0), aI 30 (fun _ => 0), aI 30 (fun _ => 0), .inr (11, [.ref (p + 11), .ref (p + 12), .ref (p + 10)]), aI 17 (fun _ => 0), aI 19 (fun _ => 0), aI 19 (fun _ => 0), .inr (10, [.ref (p + 14), .ref (p + 15), .int 0, .ref (p + 16), .ref (p + 17), .ref (p + 18)]), aI 286 (fun _ => 0), aI 286 (fun _ => 0), aI 572 (fun _ => 0), aI 572 (fun _ => 0), aZ 8580 (fun _ => 0), aI 316 (fun _ => 0), aI 316 (fun _ => 0), aI 316 (fun _ => 0), aI 19 (fun _ => 0)] := e9.trans (x_sa hP (i := 0))
  refine ⟨rfl, by omega, ?_⟩
  exact ⟨_, rfl, rfl, rfl⟩
