/-! bits that are written: a number and how many bits it has -/
def bput (s : Nat × Nat) (v k : Nat) : Nat × Nat := (s.1 + v * 2 ^ s.2, s.2 + k)
theorem dvp {V v n m : Nat} (h : m ≤ n) : (V + v * 2 ^ n) / 2 ^ m = V / 2 ^ m + v * 2 ^ (n - m) := by
  have e : 2 ^ n = 2 ^ m * 2 ^ (n - m) := by rw [← Nat.pow_add, show m + (n - m) = n by omega]
  rw [e, Nat.mul_left_comm, Nat.add_mul_div_left _ _ (Nat.two_pow_pos m)]
theorem dvm {V v n i : Nat} (h : 8 * i + 8 ≤ n) : (V + v * 2 ^ n) / 2 ^ (8 * i) % 256 = V / 2 ^ (8 * i) % 256 := by
  rw [dvp (by omega), show n - 8 * i = (n - 8 * i - 8) + 8 by omega, Nat.pow_add, ← Nat.mul_assoc]
  show (V / 2 ^ (8 * i) + v * 2 ^ (n - 8 * i - 8) * 256) % 256 = _
  exact Nat.add_mul_mod_self_right _ _ _
theorem dlt {V n m : Nat} (h : V < 2 ^ n) (hm : m ≤ n) : V / 2 ^ m < 2 ^ (n - m) := by
  refine Nat.div_lt_of_lt_mul ?_
  rw [← Nat.pow_add, show m + (n - m) = n by omega]
  exact h
theorem bput_lt {s : Nat × Nat} {v k : Nat} (h : s.1 < 2 ^ s.2) (hv : v < 2 ^ k) : (bput s v k).1 < 2 ^ (bput s v k).2 := by
  show s.1 + v * 2 ^ s.2 < 2 ^ (s.2 + k)
  rw [Nat.pow_add, Nat.mul_comm (2 ^ s.2)]
  calc s.1 + v * 2 ^ s.2 < 2 ^ s.2 + v * 2 ^ s.2 := by omega
    _ = (v + 1) * 2 ^ s.2 := by rw [Nat.add_mul, Nat.one_mul, Nat.add_comm]
    _ ≤ 2 ^ k * 2 ^ s.2 := Nat.mul_le_mul_right _ hv
theorem bput_0 (s : Nat × Nat) : bput s 0 0 = s := by unfold bput; rw [Nat.zero_mul, Nat.add_zero]; rfl
theorem bput_2 (s : Nat × Nat) (v w j k : Nat) : bput (bput s v j) w k = bput s (v + w * 2 ^ j) (j + k) := by
  unfold bput
  dsimp only
  rw [Nat.add_mul, Nat.pow_add, Nat.add_assoc, Nat.add_assoc, Nat.mul_comm (2 ^ s.2) (2 ^ j), Nat.mul_assoc]
theorem mod_s (v k : Nat) : v % 2 ^ (k + 1) = v % 2 ^ k + v / 2 ^ k % 2 * 2 ^ k := by rw [Nat.mod_pow_succ, Nat.mul_comm]
theorem rev_s : ∀ (j x : Nat), rev x (j + 1) = rev (x / 2) j + x % 2 * 2 ^ j := by
  intro j
  induction j with
  | zero => intro x; show 2 * 0 + x / 2 ^ 0 % 2 = 0 + x % 2 * 2 ^ 0; rw [Nat.pow_zero, Nat.div_one]; omega
  | succ j ih =>
    intro x
    show 2 * rev x (j + 1) + x / 2 ^ (j + 1) % 2 = (2 * rev (x / 2) j + x / 2 / 2 ^ j % 2) + x % 2 * 2 ^ (j + 1)
    rw [ih x, Nat.div_div_eq_div_mul, show 2 * 2 ^ j = 2 ^ (j + 1) by rw [Nat.pow_succ, Nat.mul_comm], show x % 2 * 2 ^ (j + 1) = 2 * (x % 2 * 2 ^ j) by rw [Nat.pow_succ]; ac_rfl]
    omega
theorem uN8_or (x y : Int32) : uN8 (x ||| y) = uN8 x ||| uN8 y := by
  unfold uN8
  rw [Int32.toBitVec_or, BitVec.toNat_or]
  exact Nat.or_mod_two_pow (n := 8)
/-- the model's bytes -/
def mbs (s : Nat × Nat) (rm : Nat → Nat) : Prop := s.1 < 2 ^ s.2 ∧ (∀ i, 8 * i < s.2 → rm i = s.1 / 2 ^ (8 * i) % 256) ∧ ∀ i, rm i < 256
theorem p2_8 {n : Nat} (h : n < 8) : 2 ^ n ≤ 128 := Nat.pow_le_pow_right (by decide) (by omega : n ≤ 7)
theorem mbs_x {s : Nat × Nat} {rm : Nat → Nat} (h : mbs s rm) : (if s.2 % 8 = 0 then 0 else rm (s.2 / 8)) = s.1 / 2 ^ (8 * (s.2 / 8)) ∧ s.1 / 2 ^ (8 * (s.2 / 8)) < 2 ^ (s.2 % 8) := by
  obtain ⟨V, n⟩ := s
  obtain ⟨h1, h2, h3⟩ := h
  dsimp only at h1 h2 h3 ⊢
  have h4 : V / 2 ^ (8 * (n / 8)) < 2 ^ (n % 8) := by
    have := dlt h1 (show 8 * (n / 8) ≤ n by omega)
    rw [show n - 8 * (n / 8) = n % 8 by omega] at this
    exact this
  have h5 := p2_8 (show n % 8 < 8 by omega)
  refine ⟨?_, h4⟩
  split
  · rename_i h6
    rw [h6] at h4
    exact (Nat.lt_one_iff.mp h4).symm
  · rw [h2 (n / 8) (by omega)]
    exact Nat.mod_eq_of_lt (by omega)
theorem mbs.put {s : Nat × Nat} {rm : Nat → Nat} {v : Nat} (h : mbs s rm) (hv : v < 2) : mbs (bput s v 1) (nup rm (s.2 / 8) ((if s.2 % 8 = 0 then 0 else rm (s.2 / 8)) + v * 2 ^ (s.2 % 8))) := by
  obtain ⟨hx, hl⟩ := mbs_x h
  rw [hx]
  obtain ⟨V, n⟩ := s
  obtain ⟨h1, h2, h3⟩ := h
  dsimp only at h1 h2 h3 hl ⊢
  have h5 := p2_8 (show n % 8 < 8 by omega)
  have h6 : v * 2 ^ (n % 8) ≤ 2 ^ (n % 8) := by
    have := Nat.mul_le_mul_right (2 ^ (n % 8)) (show v ≤ 1 by omega)
    omega
  refine ⟨bput_lt (s := (V, n)) h1 hv, ?_, ?_⟩
  · intro i hi
    have hi : 8 * i < n + 1 := hi
    show nup rm (n / 8) _ i = (V + v * 2 ^ n) / 2 ^ (8 * i) % 256
    unfold nup
    by_cases hq : i = n / 8
    · rw [if_pos hq, hq, dvp (by omega), show n - 8 * (n / 8) = n % 8 by omega]
      exact (Nat.mod_eq_of_lt (by omega)).symm
    · rw [if_neg hq, dvm (by omega)]
      exact h2 i (by omega)
  · intro i
    unfold nup
    split
    · omega
    · exact h3 i
section MBits
variable {l : Launch} {x : xX} {d : Nat} {C : Nat → va_E} {cd : Int32} {T : wRow} {rm : Nat → Nat} {rn : Nat} {P : wRp} {K : wK4} {mb : Nat} {A : wK4} {B : wMB} {Z : xH} {s : Nat × Nat}
theorem c_MO_putBit {v : Nat} (hv : v < 2) (hs : mbs s rm) (hn : s.2 < 524288) : xCr l x d 0 0 mMO_putBit [.ref 74, .int (nI v)] (hM C cd T (rm, rn) P K s.2 mb A B Z) (fun o H' => o = none ∧ ∃ rm', mbs (bput s v 1) rm' ∧ H' = hM C cd T (rm', rn) P K (s.2 + 1) mb A B Z) := by
  have hp := hs.put hv
  obtain ⟨hx, hl⟩ := mbs_x hs
  obtain ⟨V, n⟩ := s
  dsimp only at hn hp hx hl ⊢
  have h5 := p2_8 (show n % 8 < 8 by omega)
  have h6 : v * 2 ^ (n % 8) ≤ 2 ^ (n % 8) := by
    have := Nat.mul_le_mul_right (2 ^ (n % 8)) (show v ≤ 1 by omega)
    omega
  have hu : ∀ y, y < 2 ^ (n % 8) → uN8 (sb_b y ||| nI v <<< (nI (n - n / 8 * 8) &&& nI 31)) = y + v * 2 ^ (n % 8) := by
    intro y hy
    rw [show n - n / 8 * 8 = n % 8 by omega, nI_shlN (by omega) (by omega), uN8_or, uN8_sb y (by omega), uN8_nI (by omega)]
    exact or_add hy
  refine xCt.of (by decide) rfl ck_MO_putBit (Nat.le_of_ble_eq_true rfl) rfl ?_
  refine b_MO_putBit_0 ⟨_, ⟨_, rfl, rfl⟩, ?_⟩
  refine ⟨fun hb => ?_, fun hb => ?_⟩ <;> (try simp (disch := omega) only [nI_lit, nI_fold, nI_mul, nI_add, pk_sub, pk_div, nI_shrN, nI_clamp, nI_leI, nI_ltI, nI_eq, not_true_eq_false, not_false_eq_true, Bool.false_eq_true, if_true, if_false, nI_nem, nI_m1, nI_m7, nI_m15, nI_m32, nI_m4, nI_m8, nI_m16, nI_m2] at hb) <;> (try omega)
  · refine ⟨_, ⟨_, rfl, rfl⟩, _, ⟨_, rfl, rfl⟩, _, ⟨_, rfl, rfl⟩, _, ⟨_, rfl, rfl⟩, _, _, rfl, ?_, _, ⟨_, rfl, rfl⟩, _, _, rfl, ?_, fun H11 e11 => ?_⟩
    · simp (disch := omega) only [nI_lit, nI_fold, nI_mul, nI_add, pk_sub, pk_div, nI_shrN, nI_clamp]
      exact vp_in_nI (by omega) (by decide)
    · simp (disch := omega) only [nI_lit, nI_fold, nI_mul, nI_add, pk_sub, pk_div, nI_shrN, nI_clamp]
      exact vp_in_nI (by omega) (by decide)
    simp (disch := omega) only [nI_lit, nI_fold, nI_mul, nI_add, pk_sub, pk_div, nI_shrN, nI_clamp] at e11
    rw [if_neg (by omega)] at hp hx
    rw [pk_vb, ← vp_nar_byte, upd_b, show uN8 (bF rm (n / 8) ||| nI v <<< (nI (n - n / 8 * 8) &&& nI 31)) = _ from hu (rm (n / 8)) (by rw [hx]; exact hl)] at e11
    subst e11
    refine ⟨_, ⟨_, rfl, rfl⟩, _, rfl, Nat.le_of_ble_eq_true rfl, fun H14 e14 => ?_⟩
    rw [nI_1] at e14
    subst e14
    refine ⟨rfl, Nat.le_refl _, _, rfl, ⟨rfl, _, hp, rfl⟩⟩
  · refine ⟨_, ⟨_, rfl, rfl⟩, _, ⟨_, rfl, rfl⟩, _, _, rfl, ?_, fun H19 e19 => ?_⟩
    · simp (disch := omega) only [nI_lit, nI_fold, nI_mul, nI_add, pk_sub, pk_div, nI_shrN, nI_clamp]
      exact vp_in_nI (by omega) (by decide)
    rw [if_pos (by omega)] at hp hx
    have e0 : n % 8 = 0 := by omega
    rw [e0] at hp hu
    simp (disch := omega) only [nI_lit, nI_fold, nI_mul, nI_add, pk_sub, pk_div, nI_shrN, nI_clamp] at e19
    rw [show vp_nar .byte (nI 0) = vp_nar .byte 0 from rfl, upd_b, show uN8 0 = 0 from rfl] at e19
    subst e19
    refine ⟨_, ⟨_, rfl, rfl⟩, _, ⟨_, rfl, rfl⟩, _, ⟨_, rfl, rfl⟩, _, ⟨_, rfl, rfl⟩, _, _, rfl, ?_, _, ⟨_, rfl, rfl⟩, _, _, rfl, ?_, fun H29 e29 => ?_⟩
    · simp (disch := omega) only [nI_lit, nI_fold, nI_mul, nI_add, pk_sub, pk_div, nI_shrN, nI_clamp]
      exact vp_in_nI (by omega) (by decide)
    · simp (disch := omega) only [nI_lit, nI_fold, nI_mul, nI_add, pk_sub, pk_div, nI_shrN, nI_clamp]
      exact vp_in_nI (by omega) (by decide)
    simp (disch := omega) only [nI_lit, nI_fold, nI_mul, nI_add, pk_sub, pk_div, nI_shrN, nI_clamp] at e29
    rw [pk_vb, ← vp_nar_byte, upd_b, show uN8 (bF (nup rm (n / 8) 0) (n / 8) ||| nI v <<< (nI (n - n / 8 * 8) &&& nI 31)) = 0 + v * 2 ^ 0 by rw [show bF (nup rm (n / 8) 0) (n / 8) = sb_b 0 by simp only [bF, nup, if_true]]; exact hu 0 (by decide)] at e29
    rw [show nup (nup rm (n / 8) 0) (n / 8) (0 + v * 2 ^ 0) = nup rm (n / 8) (0 + v * 2 ^ 0) by funext j; unfold nup; split <;> rfl] at e29
    subst e29
    refine ⟨_, ⟨_, rfl, rfl⟩, _, rfl, Nat.le_of_ble_eq_true rfl, fun H32 e32 => ?_⟩
    rw [nI_1] at e32
    subst e32
    refine ⟨rfl, Nat.le_refl _, _, rfl, ⟨rfl, _, hp, rfl⟩⟩
theorem MO_pnum_loop {n0 : Nat} {Q : xO → xH → Prop} {n v : Nat} (hn2 : n ≤ 16) (hv : v < 2 ^ 31) (hn : s.2 + n ≤ 524288) (hq : ∀ rm', mbs (bput s (v % 2 ^ n) n) rm' → Q (.inl none) (hM C cd T (rm', rn) P K (s.2 + n) mb A B Z)) : ∀ (j i : Nat) (rm' : Nat → Nat) (cl : Bool), i + j = n → mbs (bput s (v % 2 ^ i) i) rm' → xW l x 1 0 0 mMO_putNumber n0 Q cl 2 [some (.ref 74), some (.int (nI n)), some (.int (nI v)), some (.int (nI i))] [] (hM C cd T (rm', rn) P K (s.2 + i) mb A B Z) 0 0 := by
  intro j
  induction j with
  | zero =>
    intro i rm' cl hi hs
    have : i = n := by omega
    subst this
    refine b_MO_putNumber_2 ?_
    refine ⟨fun hb => ?_, fun hb => ?_⟩ <;> (try simp (disch := omega) only [nI_lit, nI_fold, nI_mul, nI_add, pk_sub, pk_div, nI_shrN, nI_clamp, nI_leI, nI_ltI, nI_eq, not_true_eq_false, not_false_eq_true, Bool.false_eq_true, if_true, if_false, nI_nem, nI_m1, nI_m7, nI_m15, nI_m32, nI_m4, nI_m8, nI_m16, nI_m2] at hb) <;> (try omega)
    exact ⟨rfl, Nat.le_refl _, hq rm' hs⟩
  | succ j ih =>
    intro i rm' cl hi hs
    refine b_MO_putNumber_2 ?_
    refine ⟨fun hb => ?_, fun hb => ?_⟩ <;> (try simp (disch := omega) only [nI_lit, nI_fold, nI_mul, nI_add, pk_sub, pk_div, nI_shrN, nI_clamp, nI_leI, nI_ltI, nI_eq, not_true_eq_false, not_false_eq_true, Bool.false_eq_true, if_true, if_false, nI_nem, nI_m1, nI_m7, nI_m15, nI_m32, nI_m4, nI_m8, nI_m16, nI_m2] at hb) <;> (try omega)
    rw [show nI v >>> (nI i &&& 31) &&& 1 = nI (v / 2 ^ i % 2) by rw [nI_shr hv (by omega)]; exact nI_m1 (Nat.lt_of_le_of_lt (Nat.div_le_self _ _) (by omega))]
    refine xs_callV rfl lk_12_231 (d' := 0) (c_MO_putBit (s := bput s (v % 2 ^ i) i) (Nat.mod_lt _ (by decide)) hs (by show s.2 + i < 524288; omega)) (Nat.le_of_ble_eq_true rfl) rfl rfl rfl rfl rfl (Nat.le_of_ble_eq_true rfl) (by omega) (by omega) ?_
    rintro _ H1 ⟨rfl, rm2, hs2, rfl⟩
    refine b_MO_putNumber_12 ?_
    rw [nI_1]
    rw [bput_2, ← mod_s] at hs2
    exact ih (i + 1) rm2 false (by omega) hs2
theorem c_MO_putNumber {n v : Nat} (hn2 : n ≤ 16) (hv : v < 2 ^ 31) (hv2 : v < 2 ^ n) (hs : mbs s rm) (hn : s.2 + n ≤ 524288) : xCr l x 1 0 0 mMO_putNumber [.ref 74, .int (nI n), .int (nI v)] (hM C cd T (rm, rn) P K s.2 mb A B Z) (fun o H' => o = none ∧ ∃ rm', mbs (bput s v n) rm' ∧ H' = hM C cd T (rm', rn) P K (s.2 + n) mb A B Z) := by
  refine xCt.of (by decide) rfl ck_MO_putNumber (Nat.le_of_ble_eq_true rfl) rfl ?_
  refine b_MO_putNumber_0 ?_
  refine MO_pnum_loop hn2 hv hn (fun rm' h => ⟨_, rfl, rfl, rm', by rw [Nat.mod_eq_of_lt hv2] at h; exact h, rfl⟩) n 0 rm true (by omega) ?_
  rw [Nat.pow_zero, Nat.mod_one, bput_0]
  exact hs
theorem c_MO_pad (hs : mbs s rm) (hn : s.2 + 7 ≤ 524288) : xCr l x 1 0 0 mMO_pad [.ref 74] (hM C cd T (rm, rn) P K s.2 mb A B Z) (fun o H' => o = none ∧ ∃ rm', mbs (s.1, (s.2 + 7) / 8 * 8) rm' ∧ H' = hM C cd T (rm', rn) P K ((s.2 + 7) / 8 * 8) mb A B Z) := by
  refine xCt.of (by decide) rfl ck_MO_pad (Nat.le_of_ble_eq_true rfl) rfl ?_
  generalize List.length (hM C cd T (rm, rn) P K s.2 mb A B Z) = n0
  obtain ⟨V, n⟩ := s
  dsimp only at hn ⊢
  have h : ∀ (j : Nat) (i : Nat) (rm' : Nat → Nat) (cl : Bool), i + j = (n + 7) / 8 * 8 → j < 8 → mbs (V, i) rm' → xW l x 1 0 0 mMO_pad n0 (fun r H' => ∃ o, r = Sum.inl o ∧ o = none ∧ ∃ rm', mbs (V, (n + 7) / 8 * 8) rm' ∧ H' = hM C cd T (rm', rn) P K ((n + 7) / 8 * 8) mb A B Z) cl 0 [some (.ref 74)] [] (hM C cd T (rm', rn) P K i mb A B Z) 0 0 := by
    intro j
    induction j with
    | zero =>
      intro i rm' cl hi hj hs
      have : i = (n + 7) / 8 * 8 := by omega
      subst this
      refine b_MO_pad_0 ⟨_, ⟨_, rfl, rfl⟩, ?_⟩
      refine ⟨fun hb => ?_, fun hb => ?_⟩ <;> (try simp (disch := omega) only [nI_lit, nI_fold, nI_mul, nI_add, pk_sub, pk_div, nI_shrN, nI_clamp, nI_leI, nI_ltI, nI_eq, not_true_eq_false, not_false_eq_true, Bool.false_eq_true, if_true, if_false, nI_nem, nI_m1, nI_m7, nI_m15, nI_m32, nI_m4, nI_m8, nI_m16, nI_m2] at hb) <;> (try omega)
      refine ⟨rfl, Nat.le_refl _, _, rfl, ⟨rfl, rm', hs, rfl⟩⟩
    | succ j ih =>
      intro i rm' cl hi hj hs
      refine b_MO_pad_0 ⟨_, ⟨_, rfl, rfl⟩, ?_⟩
      refine ⟨fun hb => ?_, fun hb => ?_⟩ <;> (try simp (disch := omega) only [nI_lit, nI_fold, nI_mul, nI_add, pk_sub, pk_div, nI_shrN, nI_clamp, nI_leI, nI_ltI, nI_eq, not_true_eq_false, not_false_eq_true, Bool.false_eq_true, if_true, if_false, nI_nem, nI_m1, nI_m7, nI_m15, nI_m32, nI_m4, nI_m8, nI_m16, nI_m2] at hb) <;> (try omega)
      refine xs_callV rfl lk_12_231 (d' := 0) (c_MO_putBit (s := (V, i)) (v := 0) (by decide) hs (by dsimp only; omega)) (Nat.le_of_ble_eq_true rfl) rfl rfl rfl rfl rfl (Nat.le_of_ble_eq_true rfl) (by omega) (by omega) ?_
      rintro _ H1 ⟨rfl, rm2, hs2, rfl⟩
      refine b_MO_pad_8 ?_
      rw [show bput (V, i) 0 1 = (V, i + 1) by unfold bput; rw [Nat.zero_mul]; rfl] at hs2
      exact ih (i + 1) rm2 false (by omega) (by omega) hs2
  exact h ((n + 7) / 8 * 8 - n) n rm true (by omega) (by omega) hs
theorem mI_s (j : Nat) : nI (j + 1) - 1 = nI j := by rw [show (1 : Int32) = nI 1 from rfl, nI_sub (by omega)]; exact congrArg nI (by omega)
theorem mI_d (j : Nat) : nI j + (-1) = nI j - 1 := (Int32.sub_eq_add_neg _ _).symm
theorem MO_code_loop {n0 : Nat} {Q : xO → xH → Prop} {i n c : Nat} (hi6 : i < 600) (hn2 : n ≤ 16) (hc : c < 2 ^ 31) (hcd : B.2.2.2.2.1 i = nI c) (hn : s.2 + n ≤ 524288) (hq : ∀ rm', mbs (bput s (rev c n) n) rm' → Q (.inl none) (hM C cd T (rm', rn) P K (s.2 + n) mb A B Z)) : ∀ (j : Nat) (k : Nat) (rm' : Nat → Nat) (cl : Bool), k + j = n → mbs (bput s (rev (c / 2 ^ j) k) k) rm' → xW l x 1 0 0 mMO_putCode n0 Q cl 7 [some (.ref 74), some (.int (nI i)), some (.int (nI j - 1))] [] (hM C cd T (rm', rn) P K (s.2 + k) mb A B Z) 0 0 := by
  intro j
  induction j with
  | zero =>
    intro k rm' cl hk hs
    have : k = n := by omega
    subst this
    rw [Nat.pow_zero, Nat.div_one] at hs
    refine b_MO_putCode_7 ?_
    refine ⟨fun _ => ⟨rfl, Nat.le_refl _, hq rm' hs⟩, fun h => absurd (by decide) h⟩
  | succ j ih =>
    intro k rm' cl hk hs
    rw [mI_s]
    refine b_MO_putCode_7 ?_
    refine ⟨fun hb => ?_, fun hb => ?_⟩ <;> (try simp (disch := omega) only [nI_lit, nI_fold, nI_mul, nI_add, pk_sub, pk_div, nI_shrN, nI_clamp, nI_leI, nI_ltI, nI_eq, not_true_eq_false, not_false_eq_true, Bool.false_eq_true, if_true, if_false, nI_nem, nI_m1, nI_m7, nI_m15, nI_m32, nI_m4, nI_m8, nI_m16, nI_m2] at hb) <;> (try omega)
    refine ⟨_, ⟨_, rfl, rfl⟩, _, _, rfl, (by (try simp (disch := omega) only [nI_lit, nI_fold, nI_mul, nI_add, pk_sub, pk_div, nI_shrN, nI_clamp]); (with_reducible refine vp_in_nI ?_ ?_) <;> omega), ?_⟩
    rw [nI_clamp (by omega), show B.2.2.2.2.1 i >>> (nI j &&& 31) &&& 1 = nI (c / 2 ^ j % 2) by rw [hcd, nI_shr hc (by omega)]; exact nI_m1 (Nat.lt_of_le_of_lt (Nat.div_le_self _ _) (by omega))]
    refine xs_callV rfl lk_12_231 (d' := 0) (c_MO_putBit (s := bput s (rev (c / 2 ^ (j + 1)) k) k) (Nat.mod_lt _ (by decide)) hs (by show s.2 + k < 524288; omega)) (Nat.le_of_ble_eq_true rfl) rfl rfl rfl rfl rfl (Nat.le_of_ble_eq_true rfl) (by omega) (by omega) ?_
    rintro _ H1 ⟨rfl, rm2, hs2, rfl⟩
    refine b_MO_putCode_19 ?_
    rw [mI_d]
    rw [bput_2, show c / 2 ^ (j + 1) = c / 2 ^ j / 2 by rw [Nat.div_div_eq_div_mul, Nat.pow_succ], ← rev_s] at hs2
    exact ih (k + 1) rm2 false (by omega) hs2
theorem c_MO_putCode {i n c : Nat} (hi : i < 600) (hn2 : n ≤ 16) (hc : c < 2 ^ 31) (hl : A.2.2.1 i = nI n) (hcd : 1 ≤ n → B.2.2.2.2.1 i = nI c) (hs : mbs s rm) (hn : s.2 + n ≤ 524288) : xCr l x 1 0 0 mMO_putCode [.ref 74, .int (nI i)] (hM C cd T (rm, rn) P K s.2 mb A B Z) (fun o H' => o = none ∧ ∃ rm', mbs (bput s (rev c n) n) rm' ∧ H' = hM C cd T (rm', rn) P K (s.2 + n) mb A B Z) := by
  refine xCt.of (by decide) rfl ck_MO_putCode (Nat.le_of_ble_eq_true rfl) rfl ?_
  refine b_MO_putCode_0 ⟨_, ⟨_, rfl, rfl⟩, _, _, rfl, vp_in_nI hi (by decide), ?_⟩
  rw [nI_clamp (by omega)]
  rw [hl]
  by_cases h0 : n = 0
  · subst h0
    refine b_MO_putCode_7 ?_
    refine ⟨fun _ => ⟨rfl, Nat.le_refl _, _, rfl, rfl, rm, ?_, rfl⟩, fun h => absurd (by decide) h⟩
    show mbs (bput s 0 0) rm
    rw [bput_0]
    exact hs
  refine MO_code_loop hi hn2 hc (hcd (by omega)) hn (fun rm' h => ⟨_, rfl, rfl, rm', h, rfl⟩) n 0 rm true (by omega) ?_
  show mbs (bput s 0 0) rm
  rw [bput_0]
  exact hs
end MBits
