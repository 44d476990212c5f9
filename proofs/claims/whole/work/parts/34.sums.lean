/-! the first rows, wb_tb to wb_mask, are pasted from the kit's laws -/
theorem wb_tb (n : Nat) : (lN n).toBitVec = BitVec.ofNat 64 n := rfl
theorem wb_inj {a b : Int64} (h : a.toBitVec = b.toBitVec) : a = b := Int64.toBitVec_inj.mp h
theorem wb_tn {n : Nat} (h : n < 2 ^ 64) : (lN n).toBitVec.toNat = n := by rw [wb_tb, BitVec.toNat_ofNat, Nat.mod_eq_of_lt h]
theorem wb_of (x : Int64) : ∃ n, n < 2 ^ 64 ∧ x = lN n := ⟨x.toBitVec.toNat, x.toBitVec.isLt, wb_inj (by rw [wb_tb]; simp)⟩
theorem wb_of32 (x : Int32) : ∃ n, n < 2 ^ 32 ∧ x = nI n := ⟨x.toBitVec.toNat, x.toBitVec.isLt, Int32.toBitVec_inj.mp (by show _ = BitVec.ofNat 32 _; simp)⟩
theorem wb_c : ∀ k, k < 64 → ((nI k).toInt64 &&& 63) = lN k := by decide +kernel
theorem wb_cu : ∀ k, k < 64 → ((nI k).toInt64.toUInt64 &&& Int64.toUInt64 63) = UInt64.ofNat k := by decide +kernel
theorem wb_sm : ∀ k, k < 64 → (BitVec.ofNat 64 k).smod 64 = BitVec.ofNat 64 k := by decide +kernel
theorem wb_pw {a b : Nat} (h : a ≤ b) : 2 ^ b = 2 ^ a * 2 ^ (b - a) := by rw [← Nat.pow_add]; congr 1; omega
theorem wb_lt2 {a b : Nat} (h : a < b) : 2 ^ a < 2 ^ b := Nat.pow_lt_pow_right (by decide) h
theorem wb_mod (n : Nat) : lN n = lN (n % 2 ^ 64) := wb_inj (by rw [wb_tb, wb_tb]; apply BitVec.eq_of_toNat_eq; rw [BitVec.toNat_ofNat, BitVec.toNat_ofNat, Nat.mod_mod])
theorem wb_shr {n k : Nat} (hn : n < 2 ^ 64) (hk : k < 64) : ((lN n).toUInt64 >>> ((nI k).toInt64.toUInt64 &&& Int64.toUInt64 63)).toInt64 = lN (n / 2 ^ k) := by
  rw [wb_cu k hk]
  apply wb_inj
  apply BitVec.eq_of_toNat_eq
  show ((lN n).toUInt64 >>> UInt64.ofNat k).toNat = (BitVec.ofNat 64 _).toNat
  have h1 : (UInt64.ofNat k).toNat = k := by
    show (BitVec.ofNat 64 k).toNat = k
    rw [BitVec.toNat_ofNat, Nat.mod_eq_of_lt (by omega)]
  have h2 : (lN n).toUInt64.toNat = n := wb_tn hn
  rw [UInt64.toNat_shiftRight, h1, h2, Nat.mod_eq_of_lt hk, Nat.shiftRight_eq_div_pow, BitVec.toNat_ofNat, Nat.mod_eq_of_lt (Nat.lt_of_le_of_lt (Nat.div_le_self _ _) hn)]
theorem wb_shl (n : Nat) {k : Nat} (hk : k < 64) : lN n <<< ((nI k).toInt64 &&& 63) = lN (n * 2 ^ k) := by
  rw [wb_c k hk]
  apply wb_inj
  rw [Int64.toBitVec_shiftLeft, wb_tb, wb_tb, wb_tb, wb_sm k hk]
  apply BitVec.eq_of_toNat_eq
  rw [BitVec.shiftLeft_eq', BitVec.toNat_shiftLeft, BitVec.toNat_ofNat, BitVec.toNat_ofNat, BitVec.toNat_ofNat, Nat.mod_eq_of_lt (show k < 2 ^ 64 by omega), Nat.shiftLeft_eq, Nat.mul_mod, Nat.mod_mod, ← Nat.mul_mod]
theorem wb_and {a b : Nat} (ha : a < 2 ^ 64) (hb : b < 2 ^ 64) : lN a &&& lN b = lN (a &&& b) := by
  apply wb_inj
  rw [Int64.toBitVec_and, wb_tb, wb_tb, wb_tb]
  apply BitVec.eq_of_toNat_eq
  rw [BitVec.toNat_and, BitVec.toNat_ofNat, BitVec.toNat_ofNat, BitVec.toNat_ofNat, Nat.mod_eq_of_lt ha, Nat.mod_eq_of_lt hb, Nat.mod_eq_of_lt (Nat.and_lt_two_pow _ hb)]
theorem wb_or {a b : Nat} (ha : a < 2 ^ 64) (hb : b < 2 ^ 64) : lN a ||| lN b = lN (a ||| b) := by
  apply wb_inj
  rw [Int64.toBitVec_or, wb_tb, wb_tb, wb_tb]
  apply BitVec.eq_of_toNat_eq
  rw [BitVec.toNat_or, BitVec.toNat_ofNat, BitVec.toNat_ofNat, BitVec.toNat_ofNat, Nat.mod_eq_of_lt ha, Nat.mod_eq_of_lt hb, Nat.mod_eq_of_lt (Nat.or_lt_two_pow ha hb)]
theorem wb_mask {n k : Nat} (hn : n < 2 ^ 64) (hk : k < 64) : lN n &&& lN (2 ^ k - 1) = lN (n % 2 ^ k) := by
  rw [wb_and hn (by have := wb_lt2 hk; omega), Nat.and_two_pow_sub_one_eq_mod]

theorem lN_lit (n : Nat) : (OfNat.ofNat n : Int64) = lN n := rfl
theorem lN_xorN (a b : Nat) : lN a ^^^ lN b = lN (a ^^^ b) := by
  apply wb_inj
  rw [Int64.toBitVec_xor, wb_tb, wb_tb, wb_tb]
  apply BitVec.eq_of_toNat_eq
  simp [Nat.xor_mod_two_pow]
theorem nI_l32 {w : Nat} (h : w < 2 ^ 32) : (nI w).toInt64 &&& 4294967295 = lN w := by
  by_cases h1 : w < 2 ^ 31
  · rw [nI_l h1, show (4294967295 : Int64) = lN (2 ^ 32 - 1) from rfl, wb_mask (by omega) (by decide), Nat.mod_eq_of_lt h]
  · have e : (nI w).toInt64 = lN (w + 2 ^ 64 - 2 ^ 32) := by
      apply wb_inj
      rw [Int32.toBitVec_toInt64]
      apply BitVec.eq_of_toNat_eq
      rw [BitVec.toNat_signExtend, wb_tn (by omega)]
      have hn : (nI w).toBitVec.toNat = w := pk_tn h
      have hm : (nI w).toBitVec.msb = true := by rw [BitVec.msb_eq_decide, hn]; simp; omega
      rw [hm, BitVec.toNat_setWidth, hn]
      simp only [if_true]
      omega
    rw [e, show (4294967295 : Int64) = lN (2 ^ 32 - 1) from rfl, wb_mask (by omega) (by decide)]
    exact congrArg lN (by omega)
/-! SUM A -/
def adS (t : Nat → Nat) : Nat → Nat → Nat → Nat → Nat × Nat
  | 0, _, a, b => (a, b)
  | m + 1, i, a, b => adS t m (i + 1) ((a + t i) % 65521) ((b + (a + t i) % 65521) % 65521)
theorem adS_lt (t : Nat → Nat) : ∀ m i a b, a < 65521 → b < 65521 → (adS t m i a b).1 < 65521 ∧ (adS t m i a b).2 < 65521 := by
  intro m
  induction m with
  | zero => intro i a b ha hb; exact ⟨ha, hb⟩
  | succ m ih => intro i a b _ _; exact ih _ _ _ (Nat.mod_lt _ (by decide)) (Nat.mod_lt _ (by decide))
def adl (t : Nat → Nat) (fm to : Nat) : Nat := 65536 * (adS t (to - fm) fm 1 0).2 + (adS t (to - fm) fm 1 0).1
theorem adl_lt (t : Nat → Nat) (fm to : Nat) : adl t fm to < 2 ^ 32 := by
  have := adS_lt t (to - fm) fm 1 0 (by decide) (by decide)
  unfold adl
  omega
/-! SUM B -/
theorem cs_eq (v : Nat) : cs v = (v / 2) ^^^ (v % 2 * 3988292384) := by
  unfold cs
  split
  · rename_i h; rw [h, Nat.one_mul]
  · have h : v % 2 = 0 := by omega
    rw [h, Nat.zero_mul, Nat.xor_zero]
theorem cs_xor (x y : Nat) : cs (x ^^^ y) = cs x ^^^ cs y := by
  rw [cs_eq, cs_eq, cs_eq, Nat.xor_div_two]
  have h : ((x ^^^ y) % 2 * 3988292384) = (x % 2 * 3988292384) ^^^ (y % 2 * 3988292384) := by
    have h1 : (x ^^^ y) % 2 = (x % 2) ^^^ (y % 2) := by
      have := Nat.xor_mod_two_pow (a := x) (b := y) (n := 1)
      simpa using this
    rw [h1]
    have a1 : x % 2 = 0 ∨ x % 2 = 1 := by omega
    have a2 : y % 2 = 0 ∨ y % 2 = 1 := by omega
    rcases a1 with a1 | a1 <;> rcases a2 with a2 | a2 <;> rw [a1, a2] <;> decide
  rw [h]
  ac_rfl
theorem csn_xor : ∀ (n x y : Nat), csn n (x ^^^ y) = csn n x ^^^ csn n y := by
  intro n
  induction n with
  | zero => intro x y; rfl
  | succ n ih => intro x y; show csn n (cs (x ^^^ y)) = csn n (cs x) ^^^ csn n (cs y); rw [cs_xor, ih]
theorem csn_pow : ∀ (n m : Nat), csn n (m * 2 ^ n) = m := by
  intro n
  induction n with
  | zero => intro m; simp [csn]
  | succ n ih =>
    intro m
    show csn n (cs (m * 2 ^ (n + 1))) = m
    have h : cs (m * 2 ^ (n + 1)) = m * 2 ^ n := by
      have e : m * 2 ^ (n + 1) = 2 * (m * 2 ^ n) := by rw [Nat.pow_succ]; ac_rfl
      unfold cs
      rw [e, if_neg (by omega)]
      omega
    rw [h, ih]
theorem xor_split (x k : Nat) : x = (x / 2 ^ k * 2 ^ k) ^^^ (x % 2 ^ k) := by
  apply Nat.eq_of_testBit_eq
  intro i
  rw [Nat.testBit_xor, Nat.testBit_mul_two_pow, Nat.testBit_mod_two_pow, Nat.testBit_div_two_pow]
  by_cases h : k ≤ i
  · simp [h, Nat.not_lt.mpr h]
  · simp [h, Nat.lt_of_not_le h]
theorem csn8 (x : Nat) : csn 8 x = (x / 256) ^^^ crcT (x % 256) := by
  conv => lhs; rw [xor_split x 8]
  rw [csn_xor, csn_pow]
  rfl
theorem csn_lt : ∀ (n v : Nat), v < 2 ^ 32 → csn n v < 2 ^ 32 := by
  intro n
  induction n with
  | zero => intro v h; exact h
  | succ n ih => intro v h; exact ih _ (cs_lt h)
def crS (t : Nat → Nat) : Nat → Nat → Nat → Nat
  | 0, _, v => v
  | m + 1, i, v => crS t m (i + 1) (csn 8 (v ^^^ t i))
theorem crS_lt (t : Nat → Nat) (ht : ∀ i, t i < 256) : ∀ m i v, v < 2 ^ 32 → crS t m i v < 2 ^ 32 := by
  intro m
  induction m with
  | zero => intro i v h; exact h
  | succ m ih => intro i v h; exact ih _ _ (csn_lt _ _ (Nat.xor_lt_two_pow h (Nat.lt_of_lt_of_le (ht i) (by decide))))
def crc (t : Nat → Nat) (fm to : Nat) : Nat := crS t (to - fm) fm 4294967295 ^^^ 4294967295
theorem crc_lt {t : Nat → Nat} (ht : ∀ i, t i < 256) (fm to : Nat) : crc t fm to < 2 ^ 32 := Nat.xor_lt_two_pow (crS_lt t ht _ _ _ (by decide)) (by decide)
section Sums2
variable {l : Launch} {x : xX} {n0 : Nat} {Q : xO → xH → Prop} {H : xH} {r ra N fm to : Nat} {t : Nat → Nat} {w : Int32}
theorem SU_A_loop (h1 : H[r]? = some (cRO ra w)) (h2 : H[ra]? = some (aB N (bF t))) (ht : ∀ i, t i < 256) (hto : to ≤ N) (hN : N < 2 ^ 31) {v : Nat} (hq : Q (.inl (some (.long (lN v)))) H) : ∀ (j i a b : Nat) (cl : Bool), i + j = to → a < 65521 → b < 65521 → 65536 * (adS t j i a b).2 + (adS t j i a b).1 = v → xW l x 1 0 0 mSU_sumA n0 Q cl 6 [some (.ref 9), some (.ref r), some (.int (nI fm)), some (.int (nI to)), some (.int (nI a)), some (.int (nI b)), some (.int (nI i))] [] H 0 0 := by
  intro j
  induction j with
  | zero =>
    intro i a b cl hi ha hb hv
    have : i = to := by omega
    subst this
    refine b_SU_sumA_6 ?_
    refine ⟨fun hc => ?_, fun hc => ?_⟩ <;> (try simp (disch := omega) only [nI_lit, nI_fold, nI_mul, nI_add, pk_sub, pk_div, nI_shrN, nI_clamp, nI_leI, nI_ltI, nI_eq, not_true_eq_false, not_false_eq_true, Bool.false_eq_true, if_true, if_false, nI_nem, nI_m1, nI_m7, nI_m15, nI_m32, nI_m4, nI_m8, nI_m16, nI_m2] at hc) <;> (try omega)
    · refine ⟨rfl, Nat.le_refl _, ?_⟩
      rw [nI_l (by omega), nI_l (by omega), lN_lit, lN_mul, lN_add]
      rw [show 65536 * b + a = v from hv]
      exact hq
  | succ j ih =>
    intro i a b cl hi ha hb hv
    have h8 := ht i
    refine b_SU_sumA_6 ?_
    refine ⟨fun hc => ?_, fun hc => ?_⟩ <;> (try simp (disch := omega) only [nI_lit, nI_fold, nI_mul, nI_add, pk_sub, pk_div, nI_shrN, nI_clamp, nI_leI, nI_ltI, nI_eq, not_true_eq_false, not_false_eq_true, Bool.false_eq_true, if_true, if_false, nI_nem, nI_m1, nI_m7, nI_m15, nI_m32, nI_m4, nI_m8, nI_m16, nI_m2] at hc) <;> (try omega)
    refine xs_callV rfl lk_8_14 (d' := 0) (c_RO_byteAt h1 h2 ht (n := i) (by omega) hN) (Nat.le_of_ble_eq_true rfl) h1 rfl rfl rfl rfl (Nat.le_of_ble_eq_true rfl) (by omega) (by omega) ?_
    rintro _ H1 ⟨rfl, rfl⟩
    refine b_SU_sumA_13 ?_
    refine ⟨fun hc => ?_, fun hc => ?_⟩ <;> (try simp (disch := omega) only [nI_lit, nI_fold, nI_mul, nI_add, pk_sub, pk_div, nI_shrN, nI_clamp, nI_leI, nI_ltI, nI_eq, not_true_eq_false, not_false_eq_true, Bool.false_eq_true, if_true, if_false, nI_nem, nI_m1, nI_m7, nI_m15, nI_m32, nI_m4, nI_m8, nI_m16, nI_m2] at hc) <;> (try omega)
    · have e1 : (a + t i) % 65521 = a + t i := Nat.mod_eq_of_lt hc
      skip
      refine ⟨fun hd => ?_, fun hd => ?_⟩ <;> (try simp (disch := omega) only [nI_lit, nI_fold, nI_mul, nI_add, pk_sub, pk_div, nI_shrN, nI_clamp, nI_leI, nI_ltI, nI_eq, not_true_eq_false, not_false_eq_true, Bool.false_eq_true, if_true, if_false, nI_nem, nI_m1, nI_m7, nI_m15, nI_m32, nI_m4, nI_m8, nI_m16, nI_m2] at hd) <;> (try omega)
      · rw [nI_add, nI_add, nI_1]
        exact ih (i + 1) _ _ false (by omega) (by omega) hd (by rw [← hv, adS, e1, Nat.mod_eq_of_lt hd])
      · try simp (disch := omega) only [nI_lit, nI_fold, nI_mul, nI_add, pk_sub, pk_div, nI_shrN, nI_clamp]
        refine ih (i + 1) _ _ false (by omega) (by omega) (by omega) ?_
        rw [← hv, adS, e1, show (b + (a + t i)) % 65521 = b + (a + t i) - 65521 by omega]
    · have e1 : (a + t i) % 65521 = a + t i - 65521 := by omega
      skip
      refine ⟨fun hd => ?_, fun hd => ?_⟩ <;> (try simp (disch := omega) only [nI_lit, nI_fold, nI_mul, nI_add, pk_sub, pk_div, nI_shrN, nI_clamp, nI_leI, nI_ltI, nI_eq, not_true_eq_false, not_false_eq_true, Bool.false_eq_true, if_true, if_false, nI_nem, nI_m1, nI_m7, nI_m15, nI_m32, nI_m4, nI_m8, nI_m16, nI_m2] at hd) <;> (try omega)
      · try simp (disch := omega) only [nI_lit, nI_fold, nI_mul, nI_add, pk_sub, pk_div, nI_shrN, nI_clamp]
        exact ih (i + 1) _ _ false (by omega) (by omega) hd (by rw [← hv, adS, e1, Nat.mod_eq_of_lt hd])
      · try simp (disch := omega) only [nI_lit, nI_fold, nI_mul, nI_add, pk_sub, pk_div, nI_shrN, nI_clamp]
        refine ih (i + 1) _ _ false (by omega) (by omega) (by omega) ?_
        rw [← hv, adS, e1, show (b + (a + t i - 65521)) % 65521 = b + (a + t i - 65521) - 65521 by omega]
theorem c_SU_sumA (h1 : H[r]? = some (cRO ra w)) (h2 : H[ra]? = some (aB N (bF t))) (ht : ∀ i, t i < 256) (hf : fm ≤ to) (hto : to ≤ N) (hN : N < 2 ^ 31) : xCr l x 1 0 0 mSU_sumA [.ref 9, .ref r, .int (nI fm), .int (nI to)] H (fun o H' => o = some (.long (lN (adl t fm to))) ∧ H' = H) := by
  refine xCt.of (by decide) rfl ck_SU_sumA (Nat.le_of_ble_eq_true rfl) rfl ?_
  refine b_SU_sumA_0 ?_
  exact SU_A_loop h1 h2 ht hto hN ⟨_, rfl, rfl, rfl⟩ (to - fm) fm 1 0 true (by omega) (by decide) (by decide) rfl
theorem SU_B_loop (h9 : H[9]? = some (.inr (8, [.ref 10]))) (h10 : H[10]? = some (aI 256 stp)) (h1 : H[r]? = some (cRO ra w)) (h2 : H[ra]? = some (aB N (bF t))) (ht : ∀ i, t i < 256) (hto : to ≤ N) (hN : N < 2 ^ 31) {v : Nat} (hq : Q (.inl (some (.long (lN v)))) H) : ∀ (j i c : Nat) (cl : Bool), i + j = to → c < 2 ^ 32 → crS t j i c ^^^ 4294967295 = v → xW l x 1 0 0 mSU_sumB n0 Q cl 4 [some (.ref 9), some (.ref r), some (.int (nI fm)), some (.int (nI to)), some (.int (nI c)), some (.int (nI i))] [] H 0 0 := by
  intro j
  induction j with
  | zero =>
    intro i c cl hi hc hv
    have : i = to := by omega
    subst this
    refine b_SU_sumB_4 ?_
    refine ⟨fun hb => ?_, fun hb => ?_⟩ <;> (try simp (disch := omega) only [nI_lit, nI_fold, nI_mul, nI_add, pk_sub, pk_div, nI_shrN, nI_clamp, nI_leI, nI_ltI, nI_eq, not_true_eq_false, not_false_eq_true, Bool.false_eq_true, if_true, if_false, nI_nem, nI_m1, nI_m7, nI_m15, nI_m32, nI_m4, nI_m8, nI_m16, nI_m2] at hb) <;> (try omega)
    · refine ⟨rfl, Nat.le_refl _, ?_⟩
      rw [show (-1 : Int32) = nI 4294967295 from by decide, nI_xor, nI_l32 (Nat.xor_lt_two_pow hc (by decide))]
      rw [show c ^^^ 4294967295 = v from hv]
      exact hq
  | succ j ih =>
    intro i c cl hi hc hv
    have h8 := ht i
    refine b_SU_sumB_4 ?_
    refine ⟨fun hb => ?_, fun hb => ?_⟩ <;> (try simp (disch := omega) only [nI_lit, nI_fold, nI_mul, nI_add, pk_sub, pk_div, nI_shrN, nI_clamp, nI_leI, nI_ltI, nI_eq, not_true_eq_false, not_false_eq_true, Bool.false_eq_true, if_true, if_false, nI_nem, nI_m1, nI_m7, nI_m15, nI_m32, nI_m4, nI_m8, nI_m16, nI_m2] at hb) <;> (try omega)
    refine ⟨_, ⟨_, h9, rfl⟩, ?_⟩
    refine xs_callV rfl lk_8_14 (d' := 0) (c_RO_byteAt h1 h2 ht (n := i) (by omega) hN) (Nat.le_of_ble_eq_true rfl) h1 rfl rfl rfl rfl (Nat.le_of_ble_eq_true rfl) (by omega) (by omega) ?_
    rintro _ H1 ⟨rfl, rfl⟩
    have hx : c ^^^ t i < 2 ^ 32 := Nat.xor_lt_two_pow hc (by omega)
    have e1 : (nI c ^^^ nI (t i)) &&& 255 = nI ((c ^^^ t i) % 256) := by rw [nI_xor]; exact pk_andN hx 8 (by decide)
    refine b_SU_sumB_16 ⟨_, _, h10, ?_, ?_⟩
    · rw [e1]; exact vp_in_nI (Nat.mod_lt _ (by decide)) (by decide)
    have e2 : stp ((nI c ^^^ nI (t i)) &&& 255).toNatClampNeg = nI (crcT ((c ^^^ t i) % 256)) := by
      rw [e1, nI_clamp (Nat.lt_of_lt_of_le (Nat.mod_lt _ (by decide)) (by decide))]
      unfold stp x_fg
      rw [if_pos ⟨Nat.zero_le _, Nat.mod_lt _ (by decide)⟩]
    have e3 : ((nI c).toUInt32 >>> ((8 : Int32).toUInt32 &&& Int32.toUInt32 31)).toInt32 = nI (c / 256) := pk_ushrN hc 8 8 (by decide)
    have e4 : c / 256 ^^^ crcT ((c ^^^ t i) % 256) = csn 8 (c ^^^ t i) := by
      rw [csn8]
      congr 1
      have := Nat.xor_div_two_pow (a := c) (b := t i) (n := 8)
      rw [show (2 : Nat) ^ 8 = 256 from rfl] at this
      rw [this, Nat.div_eq_of_lt h8, Nat.xor_zero]
    rw [e2, e3, nI_xor, e4, nI_1]
    exact ih (i + 1) _ false (by omega) (csn_lt _ _ hx) hv
theorem c_SU_sumB (h9 : H[9]? = some (.inr (8, [.ref 10]))) (h10 : H[10]? = some (aI 256 stp)) (h1 : H[r]? = some (cRO ra w)) (h2 : H[ra]? = some (aB N (bF t))) (ht : ∀ i, t i < 256) (hf : fm ≤ to) (hto : to ≤ N) (hN : N < 2 ^ 31) : xCr l x 1 0 0 mSU_sumB [.ref 9, .ref r, .int (nI fm), .int (nI to)] H (fun o H' => o = some (.long (lN (crc t fm to))) ∧ H' = H) := by
  refine xCt.of (by decide) rfl ck_SU_sumB (Nat.le_of_ble_eq_true rfl) rfl ?_
  refine b_SU_sumB_0 ?_
  rw [show (-1 : Int32) = nI 4294967295 from by decide]
  exact SU_B_loop h9 h10 h1 h2 ht hto hN ⟨_, rfl, rfl, rfl⟩ (to - fm) fm _ true (by omega) (by decide) rfl
end Sums2
