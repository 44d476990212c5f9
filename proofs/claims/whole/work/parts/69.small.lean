/-! small methods of packing -/
section Small
variable {l : Launch} {x : xX} {d : Nat} {H : xH}
theorem bab_le (n bd : Nat) : ∀ f b, bab n bd f b ≤ b + f := by
  intro f
  induction f with
  | zero => intro b; exact Nat.le_refl _
  | succ f ih => intro b; unfold bab; split; omega; have := ih (b + 1); omega
theorem c_RP_bitsAbove {n bd : Nat} (hn : n < 2 ^ 31) (hb : bd < 2 ^ 31) : xCr l x d 0 0 mRP_bitsAbove [.int (nI n), .int (nI bd)] H (fun o H' => o = some (.int (nI (bab n bd 16 0))) ∧ H' = H) := by
  refine xCt.of (by decide) rfl ck_RP_bitsAbove (Nat.le_of_ble_eq_true rfl) rfl ?_
  generalize List.length H = n0
  refine b_RP_bitsAbove_0 ?_
  generalize hv : bab n bd 16 0 = v
  have h : ∀ (f b : Nat) (cl : Bool), b + f = 16 → bab n bd f b = v → xW l x d 0 0 mRP_bitsAbove n0 (fun r H' => ∃ o, r = Sum.inl o ∧ o = some (.int (nI v)) ∧ H' = H) cl 2 [some (.int (nI n)), some (.int (nI bd)), some (.int (nI b))] [] H 0 0 := by
    intro f
    induction f with
    | zero =>
      intro b cl hb hz
      have hz : b = v := hz
      subst hz
      refine b_RP_bitsAbove_2 ?_
      refine ⟨fun hc => ?_, fun hc => ?_⟩ <;> (try simp (disch := omega) only [nI_lit, nI_fold, nI_mul, nI_add, pk_sub, pk_div, nI_shrN, nI_clamp, nI_leI, nI_ltI, nI_eq, not_true_eq_false, not_false_eq_true, Bool.false_eq_true, if_true, if_false, nI_nem, nI_m1, nI_m7, nI_m15, nI_m32, nI_m4, nI_m8, nI_m16, nI_m2] at hc) <;> (try omega)
      refine ⟨rfl, Nat.le_refl _, _, rfl, ⟨rfl, rfl⟩⟩
    | succ f ih =>
      intro b cl hb2 hz
      unfold bab at hz
      have hd : n / 2 ^ b ≤ n := Nat.div_le_self _ _
      refine b_RP_bitsAbove_2 ?_
      refine ⟨fun hc => ?_, fun hc => ?_⟩ <;> (try simp (disch := omega) only [nI_lit, nI_fold, nI_mul, nI_add, pk_sub, pk_div, nI_shrN, nI_clamp, nI_leI, nI_ltI, nI_eq, not_true_eq_false, not_false_eq_true, Bool.false_eq_true, if_true, if_false, nI_nem, nI_m1, nI_m7, nI_m15, nI_m32, nI_m4, nI_m8, nI_m16, nI_m2] at hc) <;> (try omega)
      rw [nI_shr hn (by omega)]
      refine ⟨fun he => ?_, fun he => ?_⟩ <;> rw [nI_ltI (by omega) hb] at he
      · rw [if_pos he] at hz
        subst hz
        refine ⟨rfl, Nat.le_refl _, _, rfl, ⟨rfl, rfl⟩⟩
      · rw [if_neg he] at hz
        rw [nI_1]
        exact ih (b + 1) cl (by omega) hz
  exact h 16 0 true rfl hv
theorem c_RP_lengthSymbol {n : Nat} (h1 : 3 ≤ n) (h2 : n ≤ 258) : xCr l x 1 0 0 mRP_lengthSymbol [.int (nI n)] H (fun o H' => o = some (.int (nI (lsN n))) ∧ H' = H) := by
  have hb := bab_le (n - 3) 8 16 0
  have hd : (n - 3) / 2 ^ bab (n - 3) 8 16 0 ≤ n - 3 := Nat.div_le_self _ _
  unfold lsN
  refine xCt.of (by decide) rfl ck_RP_lengthSymbol (Nat.le_of_ble_eq_true rfl) rfl ?_
  refine b_RP_lengthSymbol_0 ?_
  refine ⟨fun hc => ?_, fun hc => ?_⟩ <;> (try simp (disch := omega) only [nI_lit, nI_fold, nI_mul, nI_add, pk_sub, pk_div, nI_shrN, nI_clamp, nI_leI, nI_ltI, nI_eq, not_true_eq_false, not_false_eq_true, Bool.false_eq_true, if_true, if_false, nI_nem, nI_m1, nI_m7, nI_m15, nI_m32, nI_m4, nI_m8, nI_m16, nI_m2] at hc) <;> (try omega)
  · rw [if_neg hc, show nI n - 3 = nI (n - 3) by rw [show (3 : Int32) = nI 3 from rfl, nI_sub (by omega)]]
    refine xs_callS rfl lk_0_119 (d' := 0) (c_RP_bitsAbove (n := n - 3) (bd := 8) (by omega) (by decide)) (Nat.le_of_ble_eq_true rfl) rfl rfl (Nat.le_of_ble_eq_true rfl) (by omega) (by omega) ?_
    rintro _ H1 ⟨rfl, rfl⟩
    refine b_RP_lengthSymbol_12 ?_
    generalize bab (n - 3) 8 16 0 = b at hb hd ⊢
    rw [nI_shr (by omega) (by omega), show (4 : Int32) * nI b = nI (4 * b) from nI_mul 4 b, nI_add]
    refine ⟨rfl, Nat.le_refl _, _, rfl, ⟨rfl, rfl⟩⟩
  · rw [if_pos hc]
    refine ⟨rfl, Nat.le_refl _, _, rfl, ⟨rfl, rfl⟩⟩
theorem c_RP_distanceSymbol {n : Nat} (h1 : 1 ≤ n) (h2 : n ≤ 32768) : xCr l x 1 0 0 mRP_distanceSymbol [.int (nI n)] H (fun o H' => o = some (.int (nI (dsN n))) ∧ H' = H) := by
  have hb := bab_le (n - 1) 4 16 0
  have hd : (n - 1) / 2 ^ bab (n - 1) 4 16 0 ≤ n - 1 := Nat.div_le_self _ _
  unfold dsN
  refine xCt.of (by decide) rfl ck_RP_distanceSymbol (Nat.le_of_ble_eq_true rfl) rfl ?_
  refine b_RP_distanceSymbol_0 ?_
  rw [show nI n - 1 = nI (n - 1) by rw [show (1 : Int32) = nI 1 from rfl, nI_sub (by omega)]]
  refine xs_callS rfl lk_0_119 (d' := 0) (c_RP_bitsAbove (n := n - 1) (bd := 4) (by omega) (by decide)) (Nat.le_of_ble_eq_true rfl) rfl rfl (Nat.le_of_ble_eq_true rfl) (by omega) (by omega) ?_
  rintro _ H1 ⟨rfl, rfl⟩
  refine b_RP_distanceSymbol_7 ?_
  generalize bab (n - 1) 4 16 0 = b at hb hd ⊢
  rw [nI_shr (by omega) (by omega), show (2 : Int32) * nI b = nI (2 * b) from nI_mul 2 b, nI_add]
  refine ⟨rfl, Nat.le_refl _, _, rfl, ⟨rfl, rfl⟩⟩
theorem c_MO_lengthSymbol {n : Nat} (h1 : 3 ≤ n) (h2 : n ≤ 258) : xCr l x 1 0 0 mMO_lengthSymbol [.int (nI n)] H (fun o H' => o = some (.int (nI (lsN n))) ∧ H' = H) := by
  obtain ⟨q1, q2, q3, q4, q5⟩ := lsN_all (len := n) (by omega) h1
  refine xCt.of (by decide) rfl ck_MO_lengthSymbol (Nat.le_of_ble_eq_true rfl) rfl ?_
  generalize List.length H = n0
  refine b_MO_lengthSymbol_0 ?_
  have h : ∀ (j i : Nat) (cl : Bool), lsN n + j = i → i < 29 → xW l x 1 0 0 mMO_lengthSymbol n0 (fun r H' => ∃ o, r = Sum.inl o ∧ o = some (.int (nI (lsN n))) ∧ H' = H) cl 2 [some (.int (nI n)), some (.int (nI i))] [] H 0 0 := by
    intro j
    induction j with
    | zero =>
      intro i cl hi h29
      have : i = lsN n := by omega
      subst this
      refine b_MO_lengthSymbol_2 ?_
      refine xs_callS rfl lk_12_108 (d' := 0) (c_MO_leastLength q1) (Nat.le_of_ble_eq_true rfl) rfl rfl (Nat.le_of_ble_eq_true rfl) (by omega) (by omega) ?_
      rintro _ H1 ⟨rfl, rfl⟩
      refine b_MO_lengthSymbol_4 ?_
      refine ⟨fun hb => ?_, fun hb => ?_⟩ <;> (try simp (disch := omega) only [nI_lit, nI_fold, nI_mul, nI_add, pk_sub, pk_div, nI_shrN, nI_clamp, nI_leI, nI_ltI, nI_eq, not_true_eq_false, not_false_eq_true, Bool.false_eq_true, if_true, if_false, nI_nem, nI_m1, nI_m7, nI_m15, nI_m32, nI_m4, nI_m8, nI_m16, nI_m2] at hb) <;> (try omega)
      refine ⟨fun hc => ?_, fun hc => ?_⟩ <;> (try simp (disch := omega) only [nI_lit, nI_fold, nI_mul, nI_add, pk_sub, pk_div, nI_shrN, nI_clamp, nI_leI, nI_ltI, nI_eq, not_true_eq_false, not_false_eq_true, Bool.false_eq_true, if_true, if_false, nI_nem, nI_m1, nI_m7, nI_m15, nI_m32, nI_m4, nI_m8, nI_m16, nI_m2] at hc) <;> (try omega)
      · refine ⟨rfl, Nat.le_refl _, _, rfl, ⟨rfl, rfl⟩⟩
      · refine ⟨fun hd => ?_, fun hd => ?_⟩ <;> (try simp (disch := omega) only [nI_lit, nI_fold, nI_mul, nI_add, pk_sub, pk_div, nI_shrN, nI_clamp, nI_leI, nI_ltI, nI_eq, not_true_eq_false, not_false_eq_true, Bool.false_eq_true, if_true, if_false, nI_nem, nI_m1, nI_m7, nI_m15, nI_m32, nI_m4, nI_m8, nI_m16, nI_m2] at hd) <;> (try omega)
        refine ⟨rfl, Nat.le_refl _, _, rfl, ⟨rfl, rfl⟩⟩
    | succ j ih =>
      intro i cl hi h29
      have q := q5 i h29 (by omega)
      have hl := (lbts_le i h29).2.2
      have hp := Nat.two_pow_pos (lbts i)
      refine b_MO_lengthSymbol_2 ?_
      refine xs_callS rfl lk_12_108 (d' := 0) (c_MO_leastLength h29) (Nat.le_of_ble_eq_true rfl) rfl rfl (Nat.le_of_ble_eq_true rfl) (by omega) (by omega) ?_
      rintro _ H1 ⟨rfl, rfl⟩
      have hnx : nI i + (-1) = nI (i - 1) := by rw [mI_d, show (1 : Int32) = nI 1 from rfl, nI_sub (by omega)]
      refine b_MO_lengthSymbol_4 ?_
      refine ⟨fun hb => ?_, fun hb => ?_⟩ <;> (try simp (disch := omega) only [nI_lit, nI_fold, nI_mul, nI_add, pk_sub, pk_div, nI_shrN, nI_clamp, nI_leI, nI_ltI, nI_eq, not_true_eq_false, not_false_eq_true, Bool.false_eq_true, if_true, if_false, nI_nem, nI_m1, nI_m7, nI_m15, nI_m32, nI_m4, nI_m8, nI_m16, nI_m2] at hb) <;> (try omega)
      · rw [hnx]
        exact ih (i - 1) false (by omega) (by omega)
      refine ⟨fun hc => ?_, fun hc => ?_⟩ <;> (try simp (disch := omega) only [nI_lit, nI_fold, nI_mul, nI_add, pk_sub, pk_div, nI_shrN, nI_clamp, nI_leI, nI_ltI, nI_eq, not_true_eq_false, not_false_eq_true, Bool.false_eq_true, if_true, if_false, nI_nem, nI_m1, nI_m7, nI_m15, nI_m32, nI_m4, nI_m8, nI_m16, nI_m2] at hc) <;> (try omega)
      refine ⟨fun hd => ?_, fun hd => ?_⟩ <;> (try simp (disch := omega) only [nI_lit, nI_fold, nI_mul, nI_add, pk_sub, pk_div, nI_shrN, nI_clamp, nI_leI, nI_ltI, nI_eq, not_true_eq_false, not_false_eq_true, Bool.false_eq_true, if_true, if_false, nI_nem, nI_m1, nI_m7, nI_m15, nI_m32, nI_m4, nI_m8, nI_m16, nI_m2] at hd) <;> (try omega)
      rw [hnx]
      exact ih (i - 1) false (by omega) (by omega)
  exact h (28 - lsN n) 28 true (by omega) (by decide)
theorem c_MO_distanceSymbol {n : Nat} (h1 : 1 ≤ n) (h2 : n ≤ 4096) : xCr l x 1 0 0 mMO_distanceSymbol [.int (nI n)] H (fun o H' => o = some (.int (nI (dsN n))) ∧ H' = H) := by
  have q0 := dsN_all (n - 1) (by omega)
  rw [show n - 1 + 1 = n by omega] at q0
  obtain ⟨q1, q2, q3, q4⟩ := q0
  refine xCt.of (by decide) rfl ck_MO_distanceSymbol (Nat.le_of_ble_eq_true rfl) rfl ?_
  generalize List.length H = n0
  refine b_MO_distanceSymbol_0 ?_
  have h : ∀ (j i : Nat) (cl : Bool), dsN n + j = i → i < 30 → xW l x 1 0 0 mMO_distanceSymbol n0 (fun r H' => ∃ o, r = Sum.inl o ∧ o = some (.int (nI (dsN n))) ∧ H' = H) cl 2 [some (.int (nI n)), some (.int (nI i))] [] H 0 0 := by
    intro j
    induction j with
    | zero =>
      intro i cl hi h30
      have : i = dsN n := by omega
      subst this
      refine b_MO_distanceSymbol_2 ?_
      refine xs_callS rfl lk_12_112 (d' := 0) (c_MO_leastDistance q1) (Nat.le_of_ble_eq_true rfl) rfl rfl (Nat.le_of_ble_eq_true rfl) (by omega) (by omega) ?_
      rintro _ H1 ⟨rfl, rfl⟩
      refine b_MO_distanceSymbol_4 ?_
      refine ⟨fun hb => ?_, fun hb => ?_⟩ <;> (try simp (disch := omega) only [nI_lit, nI_fold, nI_mul, nI_add, pk_sub, pk_div, nI_shrN, nI_clamp, nI_leI, nI_ltI, nI_eq, not_true_eq_false, not_false_eq_true, Bool.false_eq_true, if_true, if_false, nI_nem, nI_m1, nI_m7, nI_m15, nI_m32, nI_m4, nI_m8, nI_m16, nI_m2] at hb) <;> (try omega)
      refine ⟨rfl, Nat.le_refl _, _, rfl, ⟨rfl, rfl⟩⟩
    | succ j ih =>
      intro i cl hi h30
      have q := dbas_mono (dsN n + 1) (by omega) i h30 (by omega)
      have hl := (dbts_le i h30).2.2
      have hp := Nat.two_pow_pos (dbts i)
      have hnx : nI i + (-1) = nI (i - 1) := by rw [mI_d, show (1 : Int32) = nI 1 from rfl, nI_sub (by omega)]
      refine b_MO_distanceSymbol_2 ?_
      refine xs_callS rfl lk_12_112 (d' := 0) (c_MO_leastDistance h30) (Nat.le_of_ble_eq_true rfl) rfl rfl (Nat.le_of_ble_eq_true rfl) (by omega) (by omega) ?_
      rintro _ H1 ⟨rfl, rfl⟩
      refine b_MO_distanceSymbol_4 ?_
      have q6 := q4 (by omega)
      refine ⟨fun hb => ?_, fun hb => ?_⟩ <;> (try simp (disch := omega) only [nI_lit, nI_fold, nI_mul, nI_add, pk_sub, pk_div, nI_shrN, nI_clamp, nI_leI, nI_ltI, nI_eq, not_true_eq_false, not_false_eq_true, Bool.false_eq_true, if_true, if_false, nI_nem, nI_m1, nI_m7, nI_m15, nI_m32, nI_m4, nI_m8, nI_m16, nI_m2] at hb) <;> (try omega)
      rw [hnx]
      exact ih (i - 1) false (by omega) (by omega)
  exact h (29 - dsN n) 29 true (by omega) (by decide)
theorem wsum_le {w g : Nat → Nat} {A B : Nat} : ∀ N, (∀ i, i < N → w i ≤ A ∧ g i ≤ B) → wsum w g N ≤ N * (A * B) := by
  intro N
  induction N with
  | zero => intro _; exact Nat.zero_le _
  | succ N ih =>
    intro h
    have a := ih (fun i hi => h i (by omega))
    have b := Nat.mul_le_mul (h N (by omega)).1 (h N (by omega)).2
    show wsum w g N + w N * g N ≤ (N + 1) * (A * B)
    rw [Nat.add_mul]
    omega
theorem c_WC_bitsFor {r a1 a2 a3 q N M : Nat} {fl fw : wF} {g w : Nat → Nat} (h1 : H[r]? = some (.inr (11, [.ref a1, .ref a2, .ref a3]))) (h2 : H[a1]? = some (aI N fl)) (h3 : H[q]? = some (aI M fw)) (hM : M ≤ 286) (hN : M ≤ N) (hN2 : N ≤ 288) (hl : isN fl M g) (hw : isN fw M w) : xCr l x d 0 0 mWC_bitsFor [.ref r, .ref q] H (fun o H' => o = some (.int (nI (wsum w g M))) ∧ H' = H) := by
  refine xCt.of (by decide) rfl ck_WC_bitsFor (Nat.le_of_ble_eq_true rfl) rfl ?_
  generalize List.length H = n0
  refine b_WC_bitsFor_0 ?_
  have h : ∀ (j i : Nat) (cl : Bool), i + j = M → xW l x d 0 0 mWC_bitsFor n0 (fun r H' => ∃ o, r = Sum.inl o ∧ o = some (.int (nI (wsum w g M))) ∧ H' = H) cl 4 [some (.ref r), some (.ref q), some (.int (nI (wsum w g i))), some (.int (nI i))] [] H 0 0 := by
    intro j
    induction j with
    | zero =>
      intro i cl hi
      have : i = M := by omega
      subst this
      refine b_WC_bitsFor_4 ⟨_, _, h3, Nat.le_of_ble_eq_true rfl, ?_⟩
      refine ⟨fun hb => ?_, fun hb => ?_⟩ <;> (try simp (disch := omega) only [nI_lit, nI_fold, nI_mul, nI_add, pk_sub, pk_div, nI_shrN, nI_clamp, nI_leI, nI_ltI, nI_eq, not_true_eq_false, not_false_eq_true, Bool.false_eq_true, if_true, if_false, nI_nem, nI_m1, nI_m7, nI_m15, nI_m32, nI_m4, nI_m8, nI_m16, nI_m2] at hb) <;> (try omega)
      refine ⟨rfl, Nat.le_refl _, _, rfl, ⟨rfl, rfl⟩⟩
    | succ j ih =>
      intro i cl hi
      refine b_WC_bitsFor_4 ⟨_, _, h3, Nat.le_of_ble_eq_true rfl, ?_⟩
      refine ⟨fun hb => ?_, fun hb => ?_⟩ <;> (try simp (disch := omega) only [nI_lit, nI_fold, nI_mul, nI_add, pk_sub, pk_div, nI_shrN, nI_clamp, nI_leI, nI_ltI, nI_eq, not_true_eq_false, not_false_eq_true, Bool.false_eq_true, if_true, if_false, nI_nem, nI_m1, nI_m7, nI_m15, nI_m32, nI_m4, nI_m8, nI_m16, nI_m2] at hb) <;> (try omega)
      refine ⟨_, ⟨_, h1, rfl⟩, _, _, h2, Nat.le_of_ble_eq_true rfl, ?_⟩
      refine ⟨fun hc => ?_, fun hc => ?_⟩ <;> (try simp (disch := omega) only [nI_lit, nI_fold, nI_mul, nI_add, pk_sub, pk_div, nI_shrN, nI_clamp, nI_leI, nI_ltI, nI_eq, not_true_eq_false, not_false_eq_true, Bool.false_eq_true, if_true, if_false, nI_nem, nI_m1, nI_m7, nI_m15, nI_m32, nI_m4, nI_m8, nI_m16, nI_m2] at hc) <;> (try omega)
      refine ⟨_, _, h3, vp_in_nI (by omega) (by omega), _, ⟨_, h1, rfl⟩, _, _, h2, vp_in_nI (by omega) (by omega), ?_⟩
      try dsimp only
      rw [nI_clamp (by omega), hw i (by omega), hl i (by omega), nI_mul, nI_add, nI_1]
      exact ih (i + 1) cl (by omega)
  exact h M 0 true (by omega)
theorem c_WC_many {r a1 a2 a3 N : Nat} {fl : wF} {g : Nat → Nat} (h1 : H[r]? = some (.inr (11, [.ref a1, .ref a2, .ref a3]))) (h2 : H[a1]? = some (aI N fl)) (hN : N ≤ 288) (hl : isN fl N g) (hg : ∀ i, i < N → g i < 2 ^ 20) : xCr l x d 0 0 mWC_manyWithCode [.ref r] H (fun o H' => o = some (.int (nI (lst g N))) ∧ H' = H) := by
  refine xCt.of (by decide) rfl ck_WC_manyWithCode (Nat.le_of_ble_eq_true rfl) rfl ?_
  generalize List.length H = n0
  refine b_WC_manyWithCode_0 ⟨_, ⟨_, h1, rfl⟩, _, _, h2, Nat.le_of_ble_eq_true rfl, ?_⟩
  generalize hv : lst g N = v
  have h : ∀ (m : Nat) (cl : Bool), m ≤ N → lst g m = v → xW l x d 0 0 mWC_manyWithCode n0 (fun r H' => ∃ o, r = Sum.inl o ∧ o = some (.int (nI v)) ∧ H' = H) cl 4 [some (.ref r), some (.int (nI m))] [] H 0 0 := by
    intro m
    induction m with
    | zero =>
      intro cl hm hz
      have hz : 0 = v := hz
      subst hz
      refine b_WC_manyWithCode_4 ⟨fun _ => ?_, fun h => absurd (by decide) h⟩
      refine ⟨rfl, Nat.le_refl _, _, rfl, ⟨rfl, rfl⟩⟩
    | succ m ih =>
      intro cl hm hz
      have hgm := hg m (by omega)
      unfold lst at hz
      refine b_WC_manyWithCode_4 ⟨fun hb => absurd hb (nI_nle (by omega) (by omega)), fun _ => ?_⟩
      rw [nI_pred]
      refine ⟨_, ⟨_, h1, rfl⟩, _, _, h2, vp_in_nI (by omega) (by omega), ?_⟩
      try dsimp only
      rw [nI_clamp (by omega), hl m (by omega)]
      refine ⟨fun hc => ?_, fun hc => ?_⟩ <;> (try simp (disch := omega) only [nI_lit, nI_fold, nI_mul, nI_add, pk_sub, pk_div, nI_shrN, nI_clamp, nI_leI, nI_ltI, nI_eq, not_true_eq_false, not_false_eq_true, Bool.false_eq_true, if_true, if_false, nI_nem, nI_m1, nI_m7, nI_m15, nI_m32, nI_m4, nI_m8, nI_m16, nI_m2] at hc) <;> (try omega)
      · rw [if_pos (by omega)] at hz
        subst hz
        refine ⟨rfl, Nat.le_refl _, _, rfl, ⟨rfl, rfl⟩⟩
      · rw [if_neg (by omega)] at hz
        rw [mI_d, nI_pred]
        exact ih cl (by omega) hz
  exact h N true (Nat.le_refl _) hv
theorem c_MO_lastOf {r M fm n : Nat} {fl : wF} {g : Nat → Nat} (h1 : H[r]? = some (aI M fl)) (hM : fm + n ≤ M) (hM2 : M < 2 ^ 20) (hl : ∀ i, i < n → fl (fm + i) = nI (g i)) (hg : ∀ i, i < n → g i < 2 ^ 20) : xCr l x d 0 0 mMO_lastOf [.ref r, .int (nI fm), .int (nI n)] H (fun o H' => o = some (.int (nI (lst g n))) ∧ H' = H) := by
  refine xCt.of (by decide) rfl ck_MO_lastOf (Nat.le_of_ble_eq_true rfl) rfl ?_
  generalize List.length H = n0
  refine b_MO_lastOf_0 ?_
  have h : ∀ (j i : Nat) (cl : Bool), i + j = n → xW l x d 0 0 mMO_lastOf n0 (fun r H' => ∃ o, r = Sum.inl o ∧ o = some (.int (nI (lst g n))) ∧ H' = H) cl 4 [some (.ref r), some (.int (nI fm)), some (.int (nI n)), some (.int (nI (lst g i))), some (.int (nI i))] [] H 0 0 := by
    intro j
    induction j with
    | zero =>
      intro i cl hi
      have : i = n := by omega
      subst this
      refine b_MO_lastOf_4 ?_
      refine ⟨fun hb => ?_, fun hb => ?_⟩ <;> (try simp (disch := omega) only [nI_lit, nI_fold, nI_mul, nI_add, pk_sub, pk_div, nI_shrN, nI_clamp, nI_leI, nI_ltI, nI_eq, not_true_eq_false, not_false_eq_true, Bool.false_eq_true, if_true, if_false, nI_nem, nI_m1, nI_m7, nI_m15, nI_m32, nI_m4, nI_m8, nI_m16, nI_m2] at hb) <;> (try omega)
      refine ⟨rfl, Nat.le_refl _, _, rfl, ⟨rfl, rfl⟩⟩
    | succ j ih =>
      intro i cl hi
      have hgi := hg i (by omega)
      have hs : lst g (i + 1) = if 0 < g i then i + 1 else lst g i := rfl
      have ih := ih (i + 1)
      generalize lst g (i + 1) = v at hs ih
      refine b_MO_lastOf_4 ?_
      refine ⟨fun hb => ?_, fun hb => ?_⟩ <;> (try simp (disch := omega) only [nI_lit, nI_fold, nI_mul, nI_add, pk_sub, pk_div, nI_shrN, nI_clamp, nI_leI, nI_ltI, nI_eq, not_true_eq_false, not_false_eq_true, Bool.false_eq_true, if_true, if_false, nI_nem, nI_m1, nI_m7, nI_m15, nI_m32, nI_m4, nI_m8, nI_m16, nI_m2] at hb) <;> (try omega)
      rw [nI_add]
      refine ⟨_, _, h1, vp_in_nI (by omega) (by omega), ?_⟩
      try dsimp only
      rw [nI_clamp (by omega), hl i (by omega)]
      refine ⟨fun hc => ?_, fun hc => ?_⟩ <;> (try simp (disch := omega) only [nI_lit, nI_fold, nI_mul, nI_add, pk_sub, pk_div, nI_shrN, nI_clamp, nI_leI, nI_ltI, nI_eq, not_true_eq_false, not_false_eq_true, Bool.false_eq_true, if_true, if_false, nI_nem, nI_m1, nI_m7, nI_m15, nI_m32, nI_m4, nI_m8, nI_m16, nI_m2] at hc) <;> (try omega)
      · rw [if_neg (by omega)] at hs
        rw [nI_1, ← hs]
        exact ih cl (by omega)
      · rw [if_pos (by omega)] at hs
        rw [nI_1]
        rw [hs] at ih
        exact ih cl (by omega)
  exact h n 0 true (by omega)
theorem c_MC_numberBits {y : Nat} (hy : y < 19) : xCr l x d 0 0 mMC_numberBits [.int (nI y)] H (fun o H' => o = some (.int (nI (tbs y))) ∧ H' = H) := by
  unfold tbs
  refine xCt.of (by decide) rfl ck_MC_numberBits (Nat.le_of_ble_eq_true rfl) rfl ?_
  refine b_MC_numberBits_0 ?_
  refine ⟨fun hb => ?_, fun hb => ?_⟩ <;> (try simp (disch := omega) only [nI_lit, nI_fold, nI_mul, nI_add, pk_sub, pk_div, nI_shrN, nI_clamp, nI_leI, nI_ltI, nI_eq, not_true_eq_false, not_false_eq_true, Bool.false_eq_true, if_true, if_false, nI_nem, nI_m1, nI_m7, nI_m15, nI_m32, nI_m4, nI_m8, nI_m16, nI_m2] at hb) <;> (try omega)
  case refine_2 =>
    rw [if_pos (by omega)]
    refine ⟨rfl, Nat.le_refl _, _, rfl, ⟨rfl, rfl⟩⟩
  rw [if_neg (by omega)]
  refine ⟨fun hc => ?_, fun hc => ?_⟩ <;> (try simp (disch := omega) only [nI_lit, nI_fold, nI_mul, nI_add, pk_sub, pk_div, nI_shrN, nI_clamp, nI_leI, nI_ltI, nI_eq, not_true_eq_false, not_false_eq_true, Bool.false_eq_true, if_true, if_false, nI_nem, nI_m1, nI_m7, nI_m15, nI_m32, nI_m4, nI_m8, nI_m16, nI_m2] at hc) <;> (try omega)
  case refine_2 =>
    rw [if_pos (by omega)]
    refine ⟨rfl, Nat.le_refl _, _, rfl, ⟨rfl, rfl⟩⟩
  rw [if_neg (by omega)]
  refine ⟨fun hd => ?_, fun hd => ?_⟩ <;> (try simp (disch := omega) only [nI_lit, nI_fold, nI_mul, nI_add, pk_sub, pk_div, nI_shrN, nI_clamp, nI_leI, nI_ltI, nI_eq, not_true_eq_false, not_false_eq_true, Bool.false_eq_true, if_true, if_false, nI_nem, nI_m1, nI_m7, nI_m15, nI_m32, nI_m4, nI_m8, nI_m16, nI_m2] at hd) <;> (try omega)
  · rw [if_neg (by omega)]
    refine ⟨rfl, Nat.le_refl _, _, rfl, ⟨rfl, rfl⟩⟩
  · rw [if_pos (by omega)]
    refine ⟨rfl, Nat.le_refl _, _, rfl, ⟨rfl, rfl⟩⟩
theorem c_MO_toldBits {y : Nat} (hy : y < 19) : xCr l x d 0 0 mMO_toldBits [.int (nI y)] H (fun o H' => o = some (.int (nI (tbs y))) ∧ H' = H) := by
  unfold tbs
  refine xCt.of (by decide) rfl ck_MO_toldBits (Nat.le_of_ble_eq_true rfl) rfl ?_
  refine b_MO_toldBits_0 ?_
  refine ⟨fun hb => ?_, fun hb => ?_⟩ <;> (try simp (disch := omega) only [nI_lit, nI_fold, nI_mul, nI_add, pk_sub, pk_div, nI_shrN, nI_clamp, nI_leI, nI_ltI, nI_eq, not_true_eq_false, not_false_eq_true, Bool.false_eq_true, if_true, if_false, nI_nem, nI_m1, nI_m7, nI_m15, nI_m32, nI_m4, nI_m8, nI_m16, nI_m2] at hb) <;> (try omega)
  case refine_2 =>
    rw [if_neg (by omega), if_pos (by omega)]
    refine ⟨rfl, Nat.le_refl _, _, rfl, ⟨rfl, rfl⟩⟩
  refine ⟨fun hc => ?_, fun hc => ?_⟩ <;> (try simp (disch := omega) only [nI_lit, nI_fold, nI_mul, nI_add, pk_sub, pk_div, nI_shrN, nI_clamp, nI_leI, nI_ltI, nI_eq, not_true_eq_false, not_false_eq_true, Bool.false_eq_true, if_true, if_false, nI_nem, nI_m1, nI_m7, nI_m15, nI_m32, nI_m4, nI_m8, nI_m16, nI_m2] at hc) <;> (try omega)
  case refine_2 =>
    rw [if_neg (by omega), if_neg (by omega), if_pos (by omega)]
    refine ⟨rfl, Nat.le_refl _, _, rfl, ⟨rfl, rfl⟩⟩
  refine ⟨fun hd => ?_, fun hd => ?_⟩ <;> (try simp (disch := omega) only [nI_lit, nI_fold, nI_mul, nI_add, pk_sub, pk_div, nI_shrN, nI_clamp, nI_leI, nI_ltI, nI_eq, not_true_eq_false, not_false_eq_true, Bool.false_eq_true, if_true, if_false, nI_nem, nI_m1, nI_m7, nI_m15, nI_m32, nI_m4, nI_m8, nI_m16, nI_m2] at hd) <;> (try omega)
  · rw [if_pos (by omega)]
    refine ⟨rfl, Nat.le_refl _, _, rfl, ⟨rfl, rfl⟩⟩
  · rw [if_neg (by omega), if_neg (by omega), if_neg (by omega)]
    refine ⟨rfl, Nat.le_refl _, _, rfl, ⟨rfl, rfl⟩⟩
end Small
