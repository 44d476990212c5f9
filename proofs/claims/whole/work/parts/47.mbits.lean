/-! the model's small methods -/
def hq (C : Nat → va_E) (M : xH) : xH := C 0 :: C 1 :: C 2 :: C 3 :: C 4 :: C 5 :: C 6 :: C 7 :: C 8 :: C 9 :: C 10 :: C 11 :: C 12 :: C 13 :: C 14 :: C 15 :: C 16 :: C 17 :: C 18 :: C 19 :: C 20 :: C 21 :: C 22 :: C 23 :: C 24 :: C 25 :: C 26 :: C 27 :: C 28 :: C 29 :: C 30 :: C 31 :: C 32 :: C 33 :: C 34 :: C 35 :: C 36 :: C 37 :: C 38 :: C 39 :: C 40 :: C 41 :: C 42 :: C 43 :: C 44 :: C 45 :: C 46 :: C 47 :: C 48 :: C 49 :: C 50 :: C 51 :: C 52 :: C 53 :: C 54 :: C 55 :: C 56 :: C 57 :: C 58 :: C 59 :: C 60 :: C 61 :: C 62 :: C 63 :: C 64 :: C 65 :: C 66 :: C 67 :: C 68 :: C 69 :: C 70 :: C 71 :: C 72 :: C 73 :: M
abbrev hM (C : Nat → va_E) (cd : Int32) (T R : wRow) (P : wRp) (K : wK4) (a mb : Nat) (A : wK4) (B : wMB) (Z : xH) : xH := hq C (hm cd T R P K a mb A B Z)
section MBits
variable {l : Launch} {x : xX} {d : Nat} {C : Nat → va_E} {cd : Int32} {T R : wRow} {F pl : Int32} {bl st : Nat} {K : wK4} {a mb : Nat} {A : wK4} {B : wMB} {Z : xH} {e : Nat}
theorem c_MO_fail {f p : Int32} : xCr l x d 0 0 mMO_fail [.ref 74, .int f, .int p] (hM C cd T R (0, pl, bl, st) K a mb A B Z) (fun o H' => o = none ∧ H' = hM C cd T R (f, p, bl, st) K a mb A B Z) := by
  refine xCt.of (by decide) rfl ck_MO_fail (Nat.le_of_ble_eq_true rfl) rfl ?_
  refine b_MO_fail_0 ⟨_, ⟨_, rfl, rfl⟩, ?_⟩
  refine ⟨fun h => absurd rfl h, fun _ => ?_⟩
  refine ⟨_, rfl, Nat.le_of_ble_eq_true rfl, fun H3 e3 => ?_⟩
  try simp (disch := omega) only [nI_lit, nI_fold, nI_mul, nI_add, pk_sub, pk_div, nI_shrN, nI_clamp] at e3
  subst e3
  refine ⟨_, rfl, Nat.le_of_ble_eq_true rfl, fun H5 e5 => ?_⟩
  try simp (disch := omega) only [nI_lit, nI_fold, nI_mul, nI_add, pk_sub, pk_div, nI_shrN, nI_clamp] at e5
  subst e5
  refine ⟨rfl, Nat.le_refl _, _, rfl, ⟨rfl, rfl⟩⟩
theorem c_MO_bit (hT : ∀ i, T.1 i < 256) (hn : T.2 ≤ 32768) (he : e = 8 * T.2) (ha : a ≤ e) : xCr l x 1 0 0 mMO_bit [.ref 74] (hM C cd T R (0, pl, bl, st) K a mb A B Z) (fun o H' => (a < e ∧ o = some (.int (nI (tbit T.1 a))) ∧ H' = hM C cd T R (0, pl, bl, st) K (a + 1) mb A B Z) ∨ (a = e ∧ o = some (.int 0) ∧ H' = hM C cd T R (1, nI e, bl, st) K a mb A B Z)) := by
  refine xCt.of (by decide) rfl ck_MO_bit (Nat.le_of_ble_eq_true rfl) rfl ?_
  refine b_MO_bit_0 ⟨_, ⟨_, rfl, rfl⟩, _, ⟨_, rfl, rfl⟩, ?_⟩
  refine ⟨fun hb => ?_, fun hb => ?_⟩ <;> (try simp (disch := omega) only [nI_lit, nI_fold, nI_mul, nI_add, pk_sub, pk_div, nI_shrN, nI_clamp, nI_leI, nI_ltI, nI_eq, not_true_eq_false, not_false_eq_true, Bool.false_eq_true, if_true, if_false, nI_nem, nI_m1, nI_m7, nI_m15, nI_m32, nI_m4, nI_m8, nI_m16, nI_m2] at hb) <;> (try omega)
  · refine ⟨_, ⟨_, rfl, rfl⟩, _, ⟨_, rfl, rfl⟩, _, _, rfl, ?_, _, ⟨_, rfl, rfl⟩, _, ⟨_, rfl, rfl⟩, _, rfl, Nat.le_of_ble_eq_true rfl, fun H10 e10 => ?_⟩
    · rw [show nI a / 8 = nI (a / 8) from pk_div (d := 8) (by omega) (by decide) (by decide)]
      exact vp_in_nI (by omega) (by decide)
    obtain rfl : H10 = hM C cd T R (0, pl, bl, st) K (a + 1) mb A B Z := e10.trans (by rw [nI_1]; rfl)
    refine ⟨rfl, Nat.le_refl _, _, rfl, Or.inl ⟨by omega, ?_, rfl⟩⟩
    rw [show nI a / 8 = nI (a / 8) from pk_div (d := 8) (by omega) (by decide) (by decide), nI_clamp (by omega), show nI a - nI (a / 8) * 8 = nI (a % 8) by rw [← show nI a / 8 = nI (a / 8) from pk_div (d := 8) (by omega) (by decide) (by decide)]; exact pk_rem (d := 8) (by omega) (by decide) (by decide)]
    exact congrArg (fun z => some (Value.int z)) (sb_bit _ (hT _) _ (by omega))
  · refine ⟨_, ⟨_, rfl, rfl⟩, ?_⟩
    try simp (disch := omega) only [nI_lit, nI_fold, nI_mul, nI_add, pk_sub, pk_div, nI_shrN, nI_clamp]
    refine xs_callV rfl lk_12_121 (d' := 0) (c_MO_fail) (Nat.le_of_ble_eq_true rfl) rfl rfl rfl rfl rfl (Nat.le_of_ble_eq_true rfl) (by omega) (by omega) ?_
    rintro _ H1 ⟨rfl, rfl⟩
    refine b_MO_bit_14 ?_
    refine ⟨rfl, Nat.le_refl _, _, rfl, Or.inr ⟨by omega, rfl, by subst he; rfl⟩⟩
theorem c_MO_number_f {n : Nat} (hF : ¬ F = 0) : xCr l x 2 0 0 mMO_number [.ref 74, .int (nI n)] (hM C cd T R (F, pl, bl, st) K a mb A B Z) (fun o H' => o = some (.int 0) ∧ H' = hM C cd T R (F, pl, bl, st) K a mb A B Z) := by
  refine xCt.of (by decide) rfl ck_MO_number (Nat.le_of_ble_eq_true rfl) rfl ?_
  refine b_MO_number_0 ?_
  refine b_MO_number_4 ?_
  refine ⟨fun _ => ?_, fun _ => ?_⟩
  · refine ⟨rfl, Nat.le_refl _, _, rfl, ⟨rfl, rfl⟩⟩
  refine ⟨_, ⟨_, rfl, rfl⟩, ?_⟩
  refine ⟨fun _ => ?_, fun h => absurd h hF⟩
  refine ⟨rfl, Nat.le_refl _, _, rfl, ⟨rfl, rfl⟩⟩
theorem MO_num_loop {n0 : Nat} {Q : xO → xH → Prop} (hT : ∀ i, T.1 i < 256) (hn : T.2 ≤ 32768) (he : e = 8 * T.2) {n : Nat} (hn2 : n ≤ 16) (hq1 : a + n ≤ e → Q (.inl (some (.int (nI (rdn T.1 a n))))) (hM C cd T R (0, pl, bl, st) K (a + n) mb A B Z)) (hq2 : e < a + n → ∀ v a', Q (.inl (some (.int v))) (hM C cd T R (1, nI e, bl, st) K a' mb A B Z)) : ∀ (j i : Nat) (cl : Bool), i + j = n → a + i ≤ e → xW l x 2 0 0 mMO_number n0 Q cl 4 [some (.ref 74), some (.int (nI n)), some (.int (nI (rdn T.1 a i))), some (.int (nI i))] [] (hM C cd T R (0, pl, bl, st) K (a + i) mb A B Z) 0 0 := by
  intro j
  induction j with
  | zero =>
    intro i cl hi hae
    have : i = n := by omega
    subst this
    refine b_MO_number_4 ?_
    refine ⟨fun hb => ?_, fun hb => ?_⟩ <;> (try simp (disch := omega) only [nI_lit, nI_fold, nI_mul, nI_add, pk_sub, pk_div, nI_shrN, nI_clamp, nI_leI, nI_ltI, nI_eq, not_true_eq_false, not_false_eq_true, Bool.false_eq_true, if_true, if_false, nI_nem, nI_m1, nI_m7, nI_m15, nI_m32, nI_m4, nI_m8, nI_m16, nI_m2] at hb) <;> (try omega)
    exact ⟨rfl, Nat.le_refl _, hq1 hae⟩
  | succ j ih =>
    intro i cl hi hae
    refine b_MO_number_4 ?_
    refine ⟨fun hb => ?_, fun hb => ?_⟩ <;> (try simp (disch := omega) only [nI_lit, nI_fold, nI_mul, nI_add, pk_sub, pk_div, nI_shrN, nI_clamp, nI_leI, nI_ltI, nI_eq, not_true_eq_false, not_false_eq_true, Bool.false_eq_true, if_true, if_false, nI_nem, nI_m1, nI_m7, nI_m15, nI_m32, nI_m4, nI_m8, nI_m16, nI_m2] at hb) <;> (try omega)
    refine ⟨_, ⟨_, rfl, rfl⟩, ?_⟩
    refine ⟨fun h => absurd rfl h, fun _ => ?_⟩
    refine xs_callV rfl lk_12_125 (d' := 1) (c_MO_bit hT hn he hae) (Nat.le_of_ble_eq_true rfl) rfl rfl rfl rfl rfl (Nat.le_of_ble_eq_true rfl) (by omega) (by omega) ?_
    rintro _ H1 (⟨h1, rfl, rfl⟩ | ⟨h1, rfl, rfl⟩)
    · have h2 := rdn_lt T.1 a i
      have hbt := tbit_lt T.1 (a + i)
      have h3 : tbit T.1 (a + i) * 2 ^ i < 2 ^ 32 := Nat.lt_of_lt_of_le (Nat.mul_lt_mul_of_lt_of_le hbt (Nat.pow_le_pow_right (by decide) (show i ≤ 16 by omega)) (by decide)) (by decide)
      refine b_MO_number_13 ?_
      rw [nI_shl (by omega) h3, nI_or, or_add h2, nI_1]
      exact ih (i + 1) false (by omega) (by omega)
    · refine b_MO_number_13 ?_
      refine b_MO_number_4 ?_
      refine ⟨fun _ => ⟨rfl, Nat.le_refl _, hq2 (by omega) _ _⟩, fun _ => ?_⟩
      refine ⟨_, ⟨_, rfl, rfl⟩, ?_⟩
      exact ⟨fun _ => ⟨rfl, Nat.le_refl _, hq2 (by omega) _ _⟩, fun h => absurd h (show ¬ (1 : Int32) = 0 by decide)⟩
theorem c_MO_number (hT : ∀ i, T.1 i < 256) (hn : T.2 ≤ 32768) (he : e = 8 * T.2) {n : Nat} (hn2 : n ≤ 16) (ha : a ≤ e) : xCr l x 2 0 0 mMO_number [.ref 74, .int (nI n)] (hM C cd T R (0, pl, bl, st) K a mb A B Z) (fun o H' => (a + n ≤ e ∧ o = some (.int (nI (rdn T.1 a n))) ∧ H' = hM C cd T R (0, pl, bl, st) K (a + n) mb A B Z) ∨ (e < a + n ∧ ∃ v a', o = some (.int v) ∧ H' = hM C cd T R (1, nI e, bl, st) K a' mb A B Z)) := by
  refine xCt.of (by decide) rfl ck_MO_number (Nat.le_of_ble_eq_true rfl) rfl ?_
  refine b_MO_number_0 ?_
  exact MO_num_loop hT hn he hn2 (fun h => ⟨_, rfl, Or.inl ⟨h, rfl, rfl⟩⟩) (fun h v a' => ⟨_, rfl, Or.inr ⟨h, v, a', rfl, rfl⟩⟩) n 0 true (by omega) ha
theorem c_MO_wrapped_f (hF : ¬ F = 0) : xCr l x 3 0 0 mMO_wrapped [.ref 74] (hM C cd T R (F, pl, bl, st) K a mb A B Z) (fun o H' => o = some (.int 0) ∧ H' = hM C cd T R (F, pl, bl, st) K a mb A B Z) := by
  refine xCt.of (by decide) rfl ck_MO_wrapped (Nat.le_of_ble_eq_true rfl) rfl ?_
  refine b_MO_wrapped_0 ?_
  refine xs_callV rfl lk_12_133 (d' := 2) (c_MO_number_f (n := 8) hF) (Nat.le_of_ble_eq_true rfl) rfl rfl rfl rfl rfl (Nat.le_of_ble_eq_true rfl) (by omega) (by omega) ?_
  rintro _ H1 ⟨rfl, rfl⟩
  refine b_MO_wrapped_3 ?_
  refine ⟨rfl, Nat.le_refl _, _, rfl, ⟨rfl, rfl⟩⟩
theorem c_MO_wrapped (hT : ∀ i, T.1 i < 256) (hn : T.2 ≤ 32768) (he : e = 8 * T.2) (ha : a ≤ e) : xCr l x 3 0 0 mMO_wrapped [.ref 74] (hM C cd T R (0, pl, bl, st) K a mb A B Z) (fun o H' => (a + 8 ≤ e ∧ o = some (.int (nI (rdn T.1 a 8))) ∧ H' = hM C cd T R (0, pl, bl, st) K (a + 8) mb A B Z) ∨ (e < a + 8 ∧ ∃ v a', o = some (.int v) ∧ H' = hM C cd T R (1, nI e, bl, st) K a' mb A B Z)) := by
  refine xCt.of (by decide) rfl ck_MO_wrapped (Nat.le_of_ble_eq_true rfl) rfl ?_
  refine b_MO_wrapped_0 ?_
  refine xs_callV rfl lk_12_133 (d' := 2) (c_MO_number (n := 8) hT hn he (by decide) ha) (Nat.le_of_ble_eq_true rfl) rfl rfl rfl rfl rfl (Nat.le_of_ble_eq_true rfl) (by omega) (by omega) ?_
  rintro _ H1 (⟨h1, rfl, rfl⟩ | ⟨h1, v, a', rfl, rfl⟩)
  · refine b_MO_wrapped_3 ?_
    refine ⟨rfl, Nat.le_refl _, _, rfl, Or.inl ⟨h1, rfl, rfl⟩⟩
  · refine b_MO_wrapped_3 ?_
    refine ⟨rfl, Nat.le_refl _, _, rfl, Or.inr ⟨h1, _, _, rfl, rfl⟩⟩
theorem c_MO_toByte {P : wRp} (ha : a ≤ 262144) : xCr l x d 0 0 mMO_toByte [.ref 74] (hM C cd T R P K a mb A B Z) (fun o H' => o = none ∧ H' = hM C cd T R P K ((a + 7) / 8 * 8) mb A B Z) := by
  refine xCt.of (by decide) rfl ck_MO_toByte (Nat.le_of_ble_eq_true rfl) rfl ?_
  refine b_MO_toByte_0 ⟨_, ⟨_, rfl, rfl⟩, _, rfl, Nat.le_of_ble_eq_true rfl, fun H3 e3 => ?_⟩
  try simp (disch := omega) only [nI_lit, nI_fold, nI_mul, nI_add, pk_sub, pk_div, nI_shrN, nI_clamp] at e3
  subst e3
  refine ⟨rfl, Nat.le_refl _, _, rfl, ⟨rfl, rfl⟩⟩
end MBits
