/-! the class's calls -/
theorem sshr8 (v : BitVec 32) {s : Nat} (hs : s ≤ 24) : (v.sshiftRight s).toNat % 256 = v.toNat / 2 ^ s % 256 := by
  apply Nat.eq_of_testBit_eq
  intro i
  rw [show (256 : Nat) = 2 ^ 8 from rfl, Nat.testBit_mod_two_pow, Nat.testBit_mod_two_pow, Nat.testBit_div_two_pow]
  by_cases hi : i < 8
  · have e : (v.sshiftRight s).toNat.testBit i = v.toNat.testBit (s + i) := by
      show (v.sshiftRight s).getLsbD i = v.getLsbD (s + i)
      rw [BitVec.getLsbD_sshiftRight, if_pos (by omega)]
      simp
      omega
    rw [e, Nat.add_comm]
  · simp [hi]
theorem i32_w (v : Int32) : ∃ w, w < 2 ^ 32 ∧ v = nI w := ⟨v.toBitVec.toNat, v.toBitVec.isLt, Int32.toBitVec_inj.mp (by show _ = BitVec.ofNat 32 _; simp)⟩
/-- a number is typed -/
def ty4 (t : Nat → Nat) (n w : Nat) : Nat → Nat := nup (nup (nup (nup t n (w / 2 ^ 24 % 256)) (n + 1) (w / 2 ^ 16 % 256)) (n + 2) (w / 2 ^ 8 % 256)) (n + 3) (w % 256)
theorem ty4_lt {t : Nat → Nat} (ht : ∀ i, t i < 256) (n w i : Nat) : ty4 t n w i < 256 := by
  unfold ty4 nup
  split; exact Nat.mod_lt _ (by decide)
  split; exact Nat.mod_lt _ (by decide)
  split; exact Nat.mod_lt _ (by decide)
  split; exact Nat.mod_lt _ (by decide)
  exact ht i
def ty20 (T : wRow) (a b c d e : Nat) : wRow := (ty4 (ty4 (ty4 (ty4 (ty4 T.1 T.2 a) (T.2 + 4) b) (T.2 + 8) c) (T.2 + 12) d) (T.2 + 16) e, T.2 + 20)
section CCalls
variable {l : Launch} {x : xX} {d : Nat} {s0 : va_E} {T R : wRow} {P : wRep} {k : wPK} {u : wUN} {Z : xH}
theorem c_RO_addFour {w : Nat} (hw : w < 2 ^ 32) (hn : T.2 + 4 ≤ 32768) : xCr l x 1 0 0 mRO_addFour [.ref 3, .int (nI w)] (hc s0 T R P k u Z) (fun o H' => o = none ∧ H' = hc s0 (ty4 T.1 T.2 w, T.2 + 4) R P k u Z) := by
  refine xCt.of (by decide) rfl ck_RO_addFour (Nat.le_of_ble_eq_true rfl) rfl ?_
  generalize List.length (hc s0 T R P k u Z) = n0
  refine b_RO_addFour_0 ?_
  have st : ∀ (sh : Nat) (sI nx : Int32) (t : Nat → Nat) (n : Nat) (cl : Bool), sI = nI sh → sh ≤ 24 → n < 32768 → sI + (-8) = nx → (((nI w).toUInt32 >>> (sI.toUInt32 &&& Int32.toUInt32 31)).toInt32 = nI (w / 2 ^ sh)) → (xW l x 1 0 0 mRO_addFour n0 (fun r H' => ∃ o, r = Sum.inl o ∧ o = none ∧ H' = hc s0 (ty4 T.1 T.2 w, T.2 + 4) R P k u Z) false 2 [some (.ref 3), some (.int (nI w)), some (.int nx)] [] (hc s0 (nup t n (w / 2 ^ sh % 256), n + 1) R P k u Z) 0 0) → xW l x 1 0 0 mRO_addFour n0 (fun r H' => ∃ o, r = Sum.inl o ∧ o = none ∧ H' = hc s0 (ty4 T.1 T.2 w, T.2 + 4) R P k u Z) cl 2 [some (.ref 3), some (.int (nI w)), some (.int sI)] [] (hc s0 (t, n) R P k u Z) 0 0 := by
    intro sh sI nx t n cl hsI hsh hn hnx he K
    have hd : w / 2 ^ sh ≤ w := Nat.div_le_self _ _
    refine b_RO_addFour_2 ⟨fun h => absurd h (by rw [hsI]; exact nI_pos (by omega)), fun _ => ?_⟩
    rw [he]
    refine xs_callV rfl lk_7_17 (d' := 0) (c_RO_add (r := 3) (a := 4) (n := n) (N := 32768) (t := t) rfl rfl hn (by decide)) (Nat.le_of_ble_eq_true rfl) rfl rfl rfl rfl rfl (Nat.le_of_ble_eq_true rfl) (by omega) (by omega) ?_
    rw [uN8_m (y := w / 2 ^ sh) (by omega)]
    rintro _ H1 ⟨rfl, rfl⟩
    refine b_RO_addFour_9 ?_
    rw [hnx]
    exact K
  refine st 24 24 16 T.1 T.2 _ rfl (by decide) (by omega) rfl (pk_ushrN hw 24 24 (by decide)) ?_
  refine st 16 16 8 _ (T.2 + 1) _ rfl (by decide) (by omega) rfl (pk_ushrN hw 16 16 (by decide)) ?_
  refine st 8 8 0 _ (T.2 + 2) _ rfl (by decide) (by omega) rfl (pk_ushrN hw 8 8 (by decide)) ?_
  refine st 0 0 (-8) _ (T.2 + 3) _ rfl (by decide) (by omega) rfl (pk_ushrN hw 0 0 (by decide)) ?_
  rw [Nat.pow_zero, Nat.div_one]
  refine b_RO_addFour_2 ⟨fun _ => ?_, fun h => absurd (by decide) h⟩
  refine ⟨rfl, Nat.le_refl _, _, rfl, ⟨rfl, rfl⟩⟩
theorem c_RP_feed {a b c d e : Nat} (ha : a < 2 ^ 32) (hb : b < 2 ^ 32) (hc' : c < 2 ^ 32) (hd : d < 2 ^ 32) (he : e < 2 ^ 32) (hn : T.2 + 20 ≤ 32768) : xCr l x 2 0 0 mRP_feed [.ref 2, .int (nI a), .int (nI b), .int (nI c), .int (nI d), .int (nI e)] (hc s0 T R P k u Z) (fun o H' => o = some (.int (nI (T.2 + 20))) ∧ H' = hc s0 (ty20 T a b c d e) R P k u Z) := by
  refine xCt.of (by decide) rfl ck_RP_feed (Nat.le_of_ble_eq_true rfl) rfl ?_
  refine b_RP_feed_0 ⟨_, ⟨_, rfl, rfl⟩, _, ⟨_, rfl, rfl⟩, fun _ => ?_, fun h => absurd (by rw [show (32748 : Int32) = nI 32748 from rfl, nI_leI (by omega) (by decide)]; omega) h⟩
  refine ⟨_, ⟨_, rfl, rfl⟩, ?_⟩
  refine xs_callV rfl lk_0_60 (d' := 1) (c_RO_addFour (T := T) ha (by omega)) (Nat.le_of_ble_eq_true rfl) rfl rfl rfl rfl rfl (Nat.le_of_ble_eq_true rfl) (by omega) (by omega) ?_
  rintro _ H1 ⟨rfl, rfl⟩
  refine b_RP_feed_13 ⟨_, ⟨_, rfl, rfl⟩, ?_⟩
  refine xs_callV rfl lk_0_60 (d' := 1) (c_RO_addFour (T := (ty4 T.1 T.2 a, T.2 + 4)) hb (by dsimp only; omega)) (Nat.le_of_ble_eq_true rfl) rfl rfl rfl rfl rfl (Nat.le_of_ble_eq_true rfl) (by omega) (by omega) ?_
  rintro _ H1 ⟨rfl, rfl⟩
  refine b_RP_feed_17 ⟨_, ⟨_, rfl, rfl⟩, ?_⟩
  refine xs_callV rfl lk_0_60 (d' := 1) (c_RO_addFour (T := (ty4 (ty4 T.1 T.2 a) (T.2 + 4) b, T.2 + 4 + 4)) hc' (by dsimp only; omega)) (Nat.le_of_ble_eq_true rfl) rfl rfl rfl rfl rfl (Nat.le_of_ble_eq_true rfl) (by omega) (by omega) ?_
  rintro _ H1 ⟨rfl, rfl⟩
  refine b_RP_feed_21 ⟨_, ⟨_, rfl, rfl⟩, ?_⟩
  refine xs_callV rfl lk_0_60 (d' := 1) (c_RO_addFour (T := (ty4 (ty4 (ty4 T.1 T.2 a) (T.2 + 4) b) (T.2 + 8) c, T.2 + 8 + 4)) hd (by dsimp only; omega)) (Nat.le_of_ble_eq_true rfl) rfl rfl rfl rfl rfl (Nat.le_of_ble_eq_true rfl) (by omega) (by omega) ?_
  rintro _ H1 ⟨rfl, rfl⟩
  refine b_RP_feed_25 ⟨_, ⟨_, rfl, rfl⟩, ?_⟩
  refine xs_callV rfl lk_0_60 (d' := 1) (c_RO_addFour (T := (ty4 (ty4 (ty4 (ty4 T.1 T.2 a) (T.2 + 4) b) (T.2 + 8) c) (T.2 + 12) d, T.2 + 12 + 4)) he (by dsimp only; omega)) (Nat.le_of_ble_eq_true rfl) rfl rfl rfl rfl rfl (Nat.le_of_ble_eq_true rfl) (by omega) (by omega) ?_
  rintro _ H1 ⟨rfl, rfl⟩
  refine b_RP_feed_29 ⟨_, ⟨_, rfl, rfl⟩, _, ⟨_, rfl, rfl⟩, ?_⟩
  refine ⟨rfl, Nat.le_refl _, _, rfl, ⟨rfl, rfl⟩⟩
theorem c_RP_end {n : Nat} (hn : n ≤ T.2) (hT : T.2 ≤ 32768) : xCr l x d 0 0 mRP_end [.ref 2, .int (nI n)] (hc s0 T R P k u Z) (fun o H' => o = none ∧ H' = hc s0 (T.1, n) R P k u Z) := by
  refine xCt.of (by decide) rfl ck_RP_end (Nat.le_of_ble_eq_true rfl) rfl ?_
  refine b_RP_end_0 ⟨fun h => absurd h (nI_pos (by omega)), fun _ => ?_⟩
  refine ⟨_, ⟨_, rfl, rfl⟩, _, ⟨_, rfl, rfl⟩, fun _ => ?_, fun h => absurd ((nI_leI (by omega) (by omega)).mpr hn) h⟩
  refine ⟨_, ⟨_, rfl, rfl⟩, _, rfl, Nat.le_of_ble_eq_true rfl, fun H5 e5 => ?_⟩
  subst e5
  refine ⟨rfl, Nat.le_refl _, _, rfl, ⟨rfl, rfl⟩⟩
theorem c_RP_fault : xCr l x d 0 0 mRP_fault [.ref 2] (hc s0 T R P k u Z) (fun o H' => o = some (.int P.1) ∧ H' = hc s0 T R P k u Z) := by
  refine xCt.of (by decide) rfl ck_RP_fault (Nat.le_of_ble_eq_true rfl) rfl ?_
  refine b_RP_fault_0 ⟨_, ⟨_, rfl, rfl⟩, _, ⟨_, rfl, rfl⟩, ?_⟩
  refine ⟨rfl, Nat.le_refl _, _, rfl, ⟨rfl, rfl⟩⟩
theorem c_RP_place : xCr l x d 0 0 mRP_place [.ref 2] (hc s0 T R P k u Z) (fun o H' => o = some (.int P.2.1) ∧ H' = hc s0 T R P k u Z) := by
  refine xCt.of (by decide) rfl ck_RP_place (Nat.le_of_ble_eq_true rfl) rfl ?_
  refine b_RP_place_0 ⟨_, ⟨_, rfl, rfl⟩, _, ⟨_, rfl, rfl⟩, ?_⟩
  refine ⟨rfl, Nat.le_refl _, _, rfl, ⟨rfl, rfl⟩⟩
theorem c_RP_size : xCr l x d 0 0 mRP_size [.ref 2] (hc s0 T R P k u Z) (fun o H' => o = some (.int (nI R.2)) ∧ H' = hc s0 T R P k u Z) := by
  refine xCt.of (by decide) rfl ck_RP_size (Nat.le_of_ble_eq_true rfl) rfl ?_
  refine b_RP_size_0 ⟨_, ⟨_, rfl, rfl⟩, _, ⟨_, rfl, rfl⟩, ?_⟩
  refine ⟨rfl, Nat.le_refl _, _, rfl, ⟨rfl, rfl⟩⟩
theorem c_RP_blocks : xCr l x d 0 0 mRP_blocks [.ref 2] (hc s0 T R P k u Z) (fun o H' => o = some (.int (nI P.2.2.1)) ∧ H' = hc s0 T R P k u Z) := by
  refine xCt.of (by decide) rfl ck_RP_blocks (Nat.le_of_ble_eq_true rfl) rfl ?_
  refine b_RP_blocks_0 ⟨_, ⟨_, rfl, rfl⟩, _, ⟨_, rfl, rfl⟩, ?_⟩
  refine ⟨rfl, Nat.le_refl _, _, rfl, ⟨rfl, rfl⟩⟩
theorem c_RP_stretches : xCr l x d 0 0 mRP_stretches [.ref 2] (hc s0 T R P k u Z) (fun o H' => o = some (.int (nI P.2.2.2.1)) ∧ H' = hc s0 T R P k u Z) := by
  refine xCt.of (by decide) rfl ck_RP_stretches (Nat.le_of_ble_eq_true rfl) rfl ?_
  refine b_RP_stretches_0 ⟨_, ⟨_, rfl, rfl⟩, _, ⟨_, rfl, rfl⟩, ?_⟩
  refine ⟨rfl, Nat.le_refl _, _, rfl, ⟨rfl, rfl⟩⟩
theorem c_RP_out {i : Nat} (hR : ∀ i, R.1 i < 256) (hi : i < R.2) (hr : R.2 ≤ 65536) : xCr l x 1 0 0 mRP_out [.ref 2, .int (nI i)] (hc s0 T R P k u Z) (fun o H' => o = some (.int (nI (R.1 i))) ∧ H' = hc s0 T R P k u Z) := by
  refine xCt.of (by decide) rfl ck_RP_out (Nat.le_of_ble_eq_true rfl) rfl ?_
  refine b_RP_out_0 ⟨fun h => absurd h (nI_pos (by omega)), fun _ => ?_⟩
  refine ⟨_, ⟨_, rfl, rfl⟩, _, ⟨_, rfl, rfl⟩, fun _ => ?_, fun h => absurd ((nI_ltI (by omega) (by omega)).mpr hi) h⟩
  refine ⟨_, ⟨_, rfl, rfl⟩, ?_⟩
  refine xs_callV rfl lk_0_77 (d' := 0) (c_RO_byteAt (r := 5) (a := 6) (N := 65536) (t := R.1) (n := i) rfl rfl hR (by omega) (by decide)) (Nat.le_of_ble_eq_true rfl) rfl rfl rfl rfl rfl (Nat.le_of_ble_eq_true rfl) (by omega) (by omega) ?_
  rintro _ H1 ⟨rfl, rfl⟩
  refine b_RP_out_15 ?_
  refine ⟨rfl, Nat.le_refl _, _, rfl, ⟨rfl, rfl⟩⟩
theorem c_RP_sum {w : Nat} (hw : w ≤ 1) (hT : ∀ i, T.1 i < 256) (hn : T.2 ≤ 32768) : xCr l x 2 0 0 mRP_sum [.ref 2, .int (nI w)] (hc s0 T R P k u Z) (fun o H' => o = some (.long (lN (if w = 0 then adl T.1 0 T.2 else crc T.1 0 T.2))) ∧ H' = hc s0 T R P k u Z) := by
  refine xCt.of (by decide) rfl ck_RP_sum (Nat.le_of_ble_eq_true rfl) rfl ?_
  refine b_RP_sum_0 ?_
  refine ⟨fun hb => ?_, fun hb => ?_⟩ <;> (try simp (disch := omega) only [nI_lit, nI_fold, nI_mul, nI_add, pk_sub, pk_div, nI_shrN, nI_clamp, nI_leI, nI_ltI, nI_eq, not_true_eq_false, not_false_eq_true, Bool.false_eq_true, if_true, if_false, nI_nem, nI_m1, nI_m7, nI_m15, nI_m32, nI_m4, nI_m8, nI_m16, nI_m2] at hb) <;> (try omega)
  refine ⟨fun hc => ?_, fun hc => ?_⟩ <;> (try simp (disch := omega) only [nI_lit, nI_fold, nI_mul, nI_add, pk_sub, pk_div, nI_shrN, nI_clamp, nI_leI, nI_ltI, nI_eq, not_true_eq_false, not_false_eq_true, Bool.false_eq_true, if_true, if_false, nI_nem, nI_m1, nI_m7, nI_m15, nI_m32, nI_m4, nI_m8, nI_m16, nI_m2] at hc) <;> (try omega)
  refine ⟨fun hd => ?_, fun hd => ?_⟩ <;> (try simp (disch := omega) only [nI_lit, nI_fold, nI_mul, nI_add, pk_sub, pk_div, nI_shrN, nI_clamp, nI_leI, nI_ltI, nI_eq, not_true_eq_false, not_false_eq_true, Bool.false_eq_true, if_true, if_false, nI_nem, nI_m1, nI_m7, nI_m15, nI_m32, nI_m4, nI_m8, nI_m16, nI_m2] at hd) <;> (try omega)
  · rw [if_neg hd]
    refine ⟨_, ⟨_, rfl, rfl⟩, _, ⟨_, rfl, rfl⟩, _, ⟨_, rfl, rfl⟩, _, ⟨_, rfl, rfl⟩, ?_⟩
    refine xs_callV rfl lk_0_103 (d' := 1) (c_SU_sumB (r := 3) (ra := 4) (N := 32768) (t := T.1) (fm := 0) (to := T.2) rfl rfl rfl rfl hT (by omega) hn (by decide)) (Nat.le_of_ble_eq_true rfl) rfl rfl rfl rfl rfl (Nat.le_of_ble_eq_true rfl) (by omega) (by omega) ?_
    rintro _ H1 ⟨rfl, rfl⟩
    refine b_RP_sum_30 ?_
    refine ⟨rfl, Nat.le_refl _, _, rfl, ⟨rfl, rfl⟩⟩
  · rw [if_pos hd]
    refine ⟨_, ⟨_, rfl, rfl⟩, _, ⟨_, rfl, rfl⟩, _, ⟨_, rfl, rfl⟩, _, ⟨_, rfl, rfl⟩, ?_⟩
    refine xs_callV rfl lk_0_99 (d' := 1) (c_SU_sumA (r := 3) (ra := 4) (N := 32768) (t := T.1) (fm := 0) (to := T.2) rfl rfl hT (by omega) hn (by decide)) (Nat.le_of_ble_eq_true rfl) rfl rfl rfl rfl rfl (Nat.le_of_ble_eq_true rfl) (by omega) (by omega) ?_
    rintro _ H1 ⟨rfl, rfl⟩
    refine b_RP_sum_20 ?_
    refine b_RP_sum_30 ?_
    refine ⟨rfl, Nat.le_refl _, _, rfl, ⟨rfl, rfl⟩⟩
theorem c_RP_block {i w : Nat} {td : Nat → Nat} {fa pl : Int32} {bl st : Nat} (hi : i < bl) (hi2 : i < 64) (hw : w < 4) (hbl : bl < 2 ^ 20) : xCr l x d 0 0 mRP_block [.ref 2, .int (nI i), .int (nI w)] (hc s0 T R (fa, pl, bl, st, nF td) k u Z) (fun o H' => o = some (.int (nI (td (4 * i + w)))) ∧ H' = hc s0 T R (fa, pl, bl, st, nF td) k u Z) := by
  refine xCt.of (by decide) rfl ck_RP_block (Nat.le_of_ble_eq_true rfl) rfl ?_
  refine b_RP_block_0 ⟨fun h => absurd h (nI_pos (by omega)), fun _ => ?_⟩
  refine ⟨_, ⟨_, rfl, rfl⟩, _, ⟨_, rfl, rfl⟩, fun h => absurd ((nI_leI (a := bl) (b := i) (by omega) (by omega)).mp h) (by omega), fun _ => ?_⟩
  refine ⟨fun _ => ?_, fun h => absurd ((nI_ltI (a := i) (b := 64) (by omega) (by omega)).mpr hi2) h⟩
  refine ⟨fun h => absurd h (nI_pos (by omega)), fun _ => ?_⟩
  refine ⟨fun _ => ?_, fun h => absurd ((nI_ltI (a := w) (b := 4) (by omega) (by omega)).mpr hw) h⟩
  rw [show (4 : Int32) * nI i + nI w = nI (4 * i + w) by rw [show (4 : Int32) * nI i = nI (4 * i) from nI_mul 4 i, nI_add]]
  refine ⟨_, ⟨_, rfl, rfl⟩, _, ⟨_, rfl, rfl⟩, _, _, rfl, vp_in_nI (by omega) (by decide), ?_⟩
  try dsimp only
  rw [nI_clamp (by omega)]
  refine ⟨rfl, Nat.le_refl _, _, rfl, ⟨rfl, rfl⟩⟩
theorem c_RP_turn (hr : R.2 ≤ 32768) : xCr l x 2 0 0 mRP_turn [.ref 2] (hc s0 T R P k u Z) (fun o H' => o = some (.int (nI R.2)) ∧ H' = hc s0 (cpyN R.1 T.1 0 0 R.2, R.2) R P k u Z) := by
  refine xCt.of (by decide) rfl ck_RP_turn (Nat.le_of_ble_eq_true rfl) rfl ?_
  refine b_RP_turn_0 ⟨_, ⟨_, rfl, rfl⟩, _, ⟨_, rfl, rfl⟩, fun _ => ?_, fun h => absurd (by rw [show (32768 : Int32) = nI 32768 from rfl, nI_leI (by omega) (by decide)]; exact hr) h⟩
  refine ⟨_, ⟨_, rfl, rfl⟩, _, ⟨_, rfl, rfl⟩, _, ⟨_, rfl, rfl⟩, _, ⟨_, rfl, rfl⟩, _, ⟨_, rfl, rfl⟩, _, ⟨_, rfl, rfl⟩, ?_⟩
  refine xs_copy rfl la_0_93 (t := 1) (r0 := 6) (r1 := 4) (m0 := 65536) (m1 := 32768) (f := bF R.1) (g := bF T.1) (Or.inr rfl) rfl rfl (by decide) (by decide) (by decide) (by decide) (nI_pos (by omega)) ?_ ?_ (fun i _ => pk_fb _) (by decide) (Nat.le_of_ble_eq_true rfl) ?_
  · rw [nI_clamp (by omega), show (0 : Int32).toNatClampNeg = 0 from rfl]; omega
  · rw [nI_clamp (by omega), show (0 : Int32).toNatClampNeg = 0 from rfl]; omega
  rw [nI_clamp (by omega), show (0 : Int32).toNatClampNeg = 0 from rfl, cpy_bF]
  refine b_RP_turn_21 ⟨_, ⟨_, rfl, rfl⟩, _, ⟨_, rfl, rfl⟩, _, ⟨_, rfl, rfl⟩, _, rfl, Nat.le_of_ble_eq_true rfl, fun H5 e5 => ?_⟩
  subst e5
  refine ⟨_, ⟨_, rfl, rfl⟩, _, ⟨_, rfl, rfl⟩, ?_⟩
  refine ⟨rfl, Nat.le_refl _, _, rfl, ⟨rfl, rfl⟩⟩
end CCalls
