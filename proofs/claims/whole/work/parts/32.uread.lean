/-! the unpacker's small methods -/
section URead
variable {l : Launch} {x : xX} {d : Nat} {s0 : va_E} {T R : wRow} {P : wRep} {k : wPK} {a e mb : Nat} {gs : wRC × wRC × wRC × wRC × wRC × wF × wF} {Z : xH}
theorem c_UN_fail {v w : Int32} : xCr l x d 0 0 mUN_fail [.ref 51, .int v, .int w] (hc s0 T R P k (a, e, mb, gs) Z) (fun o H' => o = some (.int 0) ∧ H' = hc s0 T R (v, w, P.2.2) k (a, e, mb, gs) Z) := by
  refine xCt.of (by decide) rfl ck_UN_fail (Nat.le_of_ble_eq_true rfl) rfl ?_
  refine b_UN_fail_0 ⟨_, ⟨_, rfl, rfl⟩, _, rfl, Nat.le_of_ble_eq_true rfl, fun H3 e3 => ?_⟩
  try simp (disch := omega) only [nI_lit, nI_fold, nI_mul, nI_add, pk_sub, pk_div, nI_shrN, nI_clamp] at e3
  subst e3
  refine ⟨_, ⟨_, rfl, rfl⟩, _, rfl, Nat.le_of_ble_eq_true rfl, fun H6 e6 => ?_⟩
  try simp (disch := omega) only [nI_lit, nI_fold, nI_mul, nI_add, pk_sub, pk_div, nI_shrN, nI_clamp] at e6
  subst e6
  refine ⟨rfl, rfl, Nat.le_refl _, _, rfl, ⟨rfl, rfl⟩⟩
theorem UN_num_loop {n0 : Nat} {Q : xO → xH → Prop} (hT : ∀ i, T.1 i < 256) {n : Nat} (hn : n ≤ 16) (ha : a + n ≤ e) (he : e ≤ 262144) (hq : Q (.inl (some (.int (nI (rdn T.1 a n))))) (hc s0 T R P k (a + n, e, mb, gs) Z)) : ∀ (j i : Nat) (cl : Bool), i + j = n → xW l x d 0 0 mUN_readNumber n0 Q cl 19 [some (.ref 51), some (.int (nI n)), some (.int (nI (rdn T.1 a i))), some (.int (nI i))] [] (hc s0 T R P k (a + i, e, mb, gs) Z) 0 0 := by
  intro j
  induction j with
  | zero =>
    intro i cl hi
    have : i = n := by omega
    subst this
    refine b_UN_readNumber_19 ?_
    refine ⟨fun hb => ?_, fun hb => ?_⟩ <;> (try simp (disch := omega) only [nI_lit, nI_fold, nI_mul, nI_add, pk_sub, pk_div, nI_shrN, nI_clamp, nI_leI, nI_ltI, nI_eq, not_true_eq_false, not_false_eq_true, Bool.false_eq_true, if_true, if_false, nI_nem, nI_m1, nI_m7, nI_m15, nI_m32, nI_m4, nI_m8, nI_m16, nI_m2] at hb) <;> (try omega)
    · exact ⟨rfl, Nat.le_refl _, hq⟩
  | succ j ih =>
    intro i cl hi
    refine b_UN_readNumber_19 ?_
    refine ⟨fun hb => ?_, fun hb => ?_⟩ <;> (try simp (disch := omega) only [nI_lit, nI_fold, nI_mul, nI_add, pk_sub, pk_div, nI_shrN, nI_clamp, nI_leI, nI_ltI, nI_eq, not_true_eq_false, not_false_eq_true, Bool.false_eq_true, if_true, if_false, nI_nem, nI_m1, nI_m7, nI_m15, nI_m32, nI_m4, nI_m8, nI_m16, nI_m2] at hb) <;> (try omega)
    refine ⟨_, ⟨_, rfl, rfl⟩, _, ⟨_, rfl, rfl⟩, _, ⟨_, rfl, rfl⟩, _, _, rfl, (by (try simp (disch := omega) only [nI_lit, nI_fold, nI_mul, nI_add, pk_sub, pk_div, nI_shrN, nI_clamp]); (with_reducible refine vp_in_nI ?_ ?_) <;> omega), _, ⟨_, rfl, rfl⟩, _, ⟨_, rfl, rfl⟩, _, rfl, Nat.le_of_ble_eq_true rfl, fun H9 e9 => ?_⟩
    try simp (disch := omega) only [nI_lit, nI_fold, nI_mul, nI_add, pk_sub, pk_div, nI_shrN, nI_clamp] at e9
    subst e9
    have h1 := rdn_lt T.1 a i
    have hb := tbit_lt T.1 (a + i)
    have h2 : tbit T.1 (a + i) * 2 ^ i < 2 ^ 32 := Nat.lt_of_lt_of_le (Nat.mul_lt_mul_of_lt_of_le hb (Nat.pow_le_pow_right (by decide) (show i ≤ 16 by omega)) (by decide)) (by decide)
    have e1 : ((bF T.1 (nI (a + i) >>> ((3 : Int32) &&& 31)).toNatClampNeg) >>> ((nI (a + i) &&& 7) &&& 31)) &&& 1 = nI (tbit T.1 (a + i)) := by
      rw [show nI (a + i) >>> ((3 : Int32) &&& 31) = nI ((a + i) / 8) from nI_sh3 (by omega), nI_clamp (by omega), show nI (a + i) &&& 7 = nI ((a + i) % 8) from nI_m7 (by omega)]
      exact sb_bit _ (hT _) _ (by omega)
    have e2 : nI (rdn T.1 a i) ||| (nI (tbit T.1 (a + i)) <<< (nI i &&& 31)) = nI (rdn T.1 a (i + 1)) := by
      rw [nI_shl (by omega) h2, nI_or, or_add h1]
      rfl
    rw [e1, e2, nI_1]
    exact ih (i + 1) false (by omega)
theorem c_UN_readNumber {n : Nat} (hT : ∀ i, T.1 i < 256) (hn : n ≤ 16) (ha : a ≤ e) (he : e ≤ 262144) : xCr l x 1 0 0 mUN_readNumber [.ref 51, .int (nI n)] (hc s0 T R P k (a, e, mb, gs) Z) (fun o H' => (a + n ≤ e ∧ o = some (.int (nI (rdn T.1 a n))) ∧ H' = hc s0 T R P k (a + n, e, mb, gs) Z) ∨ (e < a + n ∧ o = some (.int (-1)) ∧ H' = hc s0 T R (1, nI e, P.2.2) k (a, e, mb, gs) Z)) := by
  refine xCt.of (by decide) rfl ck_UN_readNumber (Nat.le_of_ble_eq_true rfl) rfl ?_
  refine b_UN_readNumber_0 ⟨_, ⟨_, rfl, rfl⟩, _, ⟨_, rfl, rfl⟩, ?_⟩
  refine ⟨fun hb => ?_, fun hb => ?_⟩ <;> (try simp (disch := omega) only [nI_lit, nI_fold, nI_mul, nI_add, pk_sub, pk_div, nI_shrN, nI_clamp, nI_leI, nI_ltI, nI_eq, not_true_eq_false, not_false_eq_true, Bool.false_eq_true, if_true, if_false, nI_nem, nI_m1, nI_m7, nI_m15, nI_m32, nI_m4, nI_m8, nI_m16, nI_m2] at hb) <;> (try omega)
  · exact UN_num_loop hT hn (by omega) he ⟨_, rfl, Or.inl ⟨by omega, rfl, rfl⟩⟩ n 0 true (by omega)
  refine ⟨_, ⟨_, rfl, rfl⟩, ?_⟩
  refine xs_callV rfl lk_9_98 (d' := 0) (c_UN_fail) (Nat.le_of_ble_eq_true rfl) rfl rfl rfl rfl rfl (Nat.le_of_ble_eq_true rfl) (by omega) (by omega) ?_
  rintro _ H1 ⟨rfl, rfl⟩
  refine b_UN_readNumber_12 ?_
  refine ⟨rfl, Nat.le_refl _, _, rfl, Or.inr ⟨by omega, rfl, rfl⟩⟩
end URead
