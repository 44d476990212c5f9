/-! the class writes bits -/
abbrev wPQ : Type := (Nat × Nat × Nat × Nat) × wWC × wWC × wMC × (wF × wF × wF × wF) × wFI
abbrev hW (s0 : va_E) (T : wRow) (rb : Nat → Nat) (P : wRep) (q : wPQ) (u : wUN) (Z : xH) (s : Nat × Nat) : xH := hc s0 T (rb, s.2 / 8) P (q.1, q.2.1, q.2.2.1, q.2.2.2.1, q.2.2.2.2.1, q.2.2.2.2.2, (s.1 / 2 ^ (8 * (s.2 / 8)), s.2 % 8)) u Z
def cbs (s : Nat × Nat) (rb : Nat → Nat) : Prop := s.1 < 2 ^ s.2 ∧ (∀ i, 8 * i + 8 ≤ s.2 → rb i = s.1 / 2 ^ (8 * i) % 256) ∧ ∀ i, rb i < 256
theorem uN8_m {y : Nat} (h : y < 2 ^ 32) : uN8 (nI y) = y % 256 := by unfold uN8; rw [pk_tn h]
theorem dv8 (V m : Nat) : V / 2 ^ (8 * m) / 2 ^ 8 = V / 2 ^ (8 * (m + 1)) := by rw [Nat.div_div_eq_div_mul, ← Nat.pow_add, show 8 * m + 8 = 8 * (m + 1) by omega]
theorem sm64 : ∀ k, k < 64 → ((lN k).toBitVec.smod 64).toNat = k := by decide +kernel
theorem lN_shr {w k : Nat} (hw : w < 2 ^ 63) (hk : k < 64) : lN w >>> ((nI k).toInt64 &&& 63) = lN (w / 2 ^ k) := by
  rw [wb_c k hk]
  apply Int64.toBitVec_inj.mp
  have hm : (lN w).toBitVec.msb = false := by
    rw [BitVec.msb_eq_decide, wb_tn (by omega)]
    exact decide_eq_false (by omega)
  show (lN w).toBitVec.sshiftRight ((lN k).toBitVec.smod 64).toNat = (lN (w / 2 ^ k)).toBitVec
  rw [sm64 k hk, BitVec.sshiftRight_eq_of_msb_false hm]
  apply BitVec.eq_of_toNat_eq
  have h2 : w / 2 ^ k ≤ w := Nat.div_le_self _ _
  rw [BitVec.toNat_ushiftRight, Nat.shiftRight_eq_div_pow, wb_tn (by omega), wb_tn (by omega)]
theorem lN_byte {w k : Nat} (hw : w < 2 ^ 32) (hk : k < 64) : (lN w >>> ((nI k).toInt64 &&& 63)).toInt32 &&& 255 = nI (w / 2 ^ k % 256) := by
  have h2 : w / 2 ^ k ≤ w := Nat.div_le_self _ _
  rw [lN_shr (by omega) hk, lN_i]
  exact nI_m255 (by omega)
section CBits
variable {l : Launch} {x : xX} {d : Nat} {s0 : va_E} {T : wRow} {rb : Nat → Nat} {P : wRep} {q : wPQ} {u : wUN} {Z : xH} {s : Nat × Nat}
theorem c_BW_restart {R : wRow} {hd : Nat × Nat} : xCr l x d 0 0 mBW_restart [.ref 50] (hc s0 T R P (q.1, q.2.1, q.2.2.1, q.2.2.2.1, q.2.2.2.2.1, q.2.2.2.2.2, hd) u Z) (fun o H' => o = none ∧ H' = hW s0 T R.1 P q u Z (0, 0)) := by
  refine xCt.of (by decide) rfl ck_BW_restart (Nat.le_of_ble_eq_true rfl) rfl ?_
  refine b_BW_restart_0 ⟨_, ⟨_, rfl, rfl⟩, _, rfl, Nat.le_of_ble_eq_true rfl, fun H3 e3 => ?_⟩
  try simp (disch := omega) only [nI_lit, nI_fold, nI_mul, nI_add, pk_sub, pk_div, nI_shrN, nI_clamp] at e3
  subst e3
  refine ⟨_, rfl, Nat.le_of_ble_eq_true rfl, fun H5 e5 => ?_⟩
  try simp (disch := omega) only [nI_lit, nI_fold, nI_mul, nI_add, pk_sub, pk_div, nI_shrN, nI_clamp] at e5
  subst e5
  refine ⟨_, rfl, Nat.le_of_ble_eq_true rfl, fun H7 e7 => ?_⟩
  try simp (disch := omega) only [nI_lit, nI_fold, nI_mul, nI_add, pk_sub, pk_div, nI_shrN, nI_clamp] at e7
  subst e7
  refine ⟨rfl, Nat.le_refl _, _, rfl, ⟨rfl, rfl⟩⟩
theorem c_BW_bitsWritten (hn : s.2 ≤ 524288) : xCr l x d 0 0 mBW_bitsWritten [.ref 50] (hW s0 T rb P q u Z s) (fun o H' => o = some (.int (nI s.2)) ∧ H' = hW s0 T rb P q u Z s) := by
  refine xCt.of (by decide) rfl ck_BW_bitsWritten (Nat.le_of_ble_eq_true rfl) rfl ?_
  refine b_BW_bitsWritten_0 ⟨_, ⟨_, rfl, rfl⟩, _, ⟨_, rfl, rfl⟩, _, ⟨_, rfl, rfl⟩, ?_⟩
  rw [show (8 : Int32) * nI (s.2 / 8) + nI (s.2 % 8) = nI s.2 by rw [show (8 : Int32) * nI (s.2 / 8) = nI (8 * (s.2 / 8)) from nI_mul 8 _, nI_add]; exact congrArg nI (by omega)]
  refine ⟨rfl, Nat.le_refl _, _, rfl, ⟨rfl, rfl⟩⟩
theorem BW_num_loop {n0 : Nat} {Q : xO → xH → Prop} {V N : Nat} {v1 v2 : Int32} (hV : V < 2 ^ N) (hN : N ≤ 524288) (hq : ∀ rb', cbs (V, N) rb' → Q (.inl none) (hW s0 T rb' P q u Z (V, N))) : ∀ (j i m : Nat) (rb : Nat → Nat) (cl : Bool), m + j = N / 8 → i + j ≤ 2 → (∀ t, t < m → rb t = V / 2 ^ (8 * t) % 256) → (∀ t, rb t < 256) → xW l x 1 0 0 mBW_writeNumber n0 Q cl 17 [some (.ref 50), some (.int v1), some (.int v2), some (.int (nI i))] [] (hc s0 T (rb, m) P (q.1, q.2.1, q.2.2.1, q.2.2.2.1, q.2.2.2.2.1, q.2.2.2.2.2, (V / 2 ^ (8 * m), N - 8 * m)) u Z) 0 0 := by
  intro j
  induction j with
  | zero =>
    intro i m rb cl hm hi hrb hlt
    have : m = N / 8 := by omega
    subst this
    have hfin : Q (.inl none) (hc s0 T (rb, N / 8) P (q.1, q.2.1, q.2.2.1, q.2.2.2.1, q.2.2.2.2.1, q.2.2.2.2.2, (V / 2 ^ (8 * (N / 8)), N - 8 * (N / 8))) u Z) := by
      rw [show N - 8 * (N / 8) = N % 8 by omega]
      exact hq rb ⟨hV, fun i hi => hrb i (by dsimp only at hi; omega), hlt⟩
    refine b_BW_writeNumber_17 ?_
    refine ⟨fun hb => ?_, fun hb => ?_⟩ <;> (try simp (disch := omega) only [nI_lit, nI_fold, nI_mul, nI_add, pk_sub, pk_div, nI_shrN, nI_clamp, nI_leI, nI_ltI, nI_eq, not_true_eq_false, not_false_eq_true, Bool.false_eq_true, if_true, if_false, nI_nem, nI_m1, nI_m7, nI_m15, nI_m32, nI_m4, nI_m8, nI_m16, nI_m2] at hb) <;> (try omega)
    refine ⟨_, ⟨_, rfl, rfl⟩, ?_⟩
    refine ⟨fun hd => ?_, fun hd => ?_⟩ <;> (try simp (disch := omega) only [nI_lit, nI_fold, nI_mul, nI_add, pk_sub, pk_div, nI_shrN, nI_clamp, nI_leI, nI_ltI, nI_eq, not_true_eq_false, not_false_eq_true, Bool.false_eq_true, if_true, if_false, nI_nem, nI_m1, nI_m7, nI_m15, nI_m32, nI_m4, nI_m8, nI_m16, nI_m2] at hd) <;> (try omega)
    exact ⟨rfl, Nat.le_refl _, hfin⟩
  | succ j ih =>
    intro i m rb cl hm hi hrb hlt
    have hw : V / 2 ^ (8 * m) < 2 ^ 31 := by
      have h1 := dlt hV (show 8 * m ≤ N by omega)
      have h2 : 2 ^ (N - 8 * m) ≤ 2 ^ 31 := Nat.pow_le_pow_right (by decide) (by omega)
      omega
    have hd8 := dv8 V m
    refine b_BW_writeNumber_17 ?_
    refine ⟨fun hb => ?_, fun hb => ?_⟩ <;> (try simp (disch := omega) only [nI_lit, nI_fold, nI_mul, nI_add, pk_sub, pk_div, nI_shrN, nI_clamp, nI_leI, nI_ltI, nI_eq, not_true_eq_false, not_false_eq_true, Bool.false_eq_true, if_true, if_false, nI_nem, nI_m1, nI_m7, nI_m15, nI_m32, nI_m4, nI_m8, nI_m16, nI_m2] at hb) <;> (try omega)
    refine ⟨_, ⟨_, rfl, rfl⟩, ?_⟩
    refine ⟨fun hd => ?_, fun hd => ?_⟩ <;> (try simp (disch := omega) only [nI_lit, nI_fold, nI_mul, nI_add, pk_sub, pk_div, nI_shrN, nI_clamp, nI_leI, nI_ltI, nI_eq, not_true_eq_false, not_false_eq_true, Bool.false_eq_true, if_true, if_false, nI_nem, nI_m1, nI_m7, nI_m15, nI_m32, nI_m4, nI_m8, nI_m16, nI_m2] at hd) <;> (try omega)
    refine ⟨_, ⟨_, rfl, rfl⟩, _, ⟨_, rfl, rfl⟩, ?_⟩
    refine xs_callV rfl lk_1_25 (d' := 0) (c_RO_add (r := 5) (a := 6) (n := m) (N := 65536) (t := rb) rfl rfl (by omega) (by decide)) (Nat.le_of_ble_eq_true rfl) rfl rfl rfl rfl rfl (Nat.le_of_ble_eq_true rfl) (by omega) (by omega) ?_
    rintro _ H1 ⟨rfl, rfl⟩
    rw [uN8_m (y := V / 2 ^ (8 * m)) (by omega)]
    generalize hw2 : V / 2 ^ (8 * m) = w at hw hd8
    refine b_BW_writeNumber_29 ⟨_, ⟨_, rfl, rfl⟩, _, rfl, Nat.le_of_ble_eq_true rfl, fun H3 e3 => ?_⟩
    rw [pk_ushrN (n := w) (by omega) 8 8 (by decide), hd8] at e3
    subst e3
    refine ⟨_, ⟨_, rfl, rfl⟩, _, rfl, Nat.le_of_ble_eq_true rfl, fun H6 e6 => ?_⟩
    rw [show (8 : Int32) = nI 8 from rfl, nI_sub (a := N - 8 * m) (b := 8) (by omega), show N - 8 * m - 8 = N - 8 * (m + 1) by omega] at e6
    subst e6
    rw [nI_1]
    refine ih (i + 1) (m + 1) (nup rb m (w % 256)) false (by omega) (by omega) (fun t ht => ?_) (fun t => ?_)
    · unfold nup
      split
      · rename_i h; rw [h, hw2]
      · exact hrb t (by omega)
    · unfold nup
      split
      · exact Nat.mod_lt _ (by decide)
      · exact hlt t
theorem c_BW_writeNumber {v k : Nat} (hv : v < 2 ^ k) (hk : k ≤ 16) (hs : cbs s rb) (hn : s.2 + k ≤ 524288) : xCr l x 1 0 0 mBW_writeNumber [.ref 50, .int (nI v), .int (nI k)] (hW s0 T rb P q u Z s) (fun o H' => o = none ∧ ∃ rb', cbs (bput s v k) rb' ∧ H' = hW s0 T rb' P q u Z (bput s v k)) := by
  have hlt := bput_lt hs.1 hv
  obtain ⟨V, n⟩ := s
  obtain ⟨h1, h2, h3⟩ := hs
  dsimp only at h1 h2 h3 hn
  have h4 : V / 2 ^ (8 * (n / 8)) < 2 ^ (n % 8) := by
    have := dlt h1 (show 8 * (n / 8) ≤ n by omega)
    rw [show n - 8 * (n / 8) = n % 8 by omega] at this
    exact this
  have h5 := p2_8 (show n % 8 < 8 by omega)
  have h6 : v * 2 ^ (n % 8) < 2 ^ 24 := by
    have a1 : 2 ^ k ≤ 2 ^ 16 := Nat.pow_le_pow_right (by decide) hk
    have a2 : v * 2 ^ (n % 8) ≤ 65535 * 128 := Nat.mul_le_mul (by omega) h5
    omega
  have h7 : (V + v * 2 ^ n) / 2 ^ (8 * (n / 8)) = V / 2 ^ (8 * (n / 8)) + v * 2 ^ (n % 8) := by
    rw [dvp (by omega), show n - 8 * (n / 8) = n % 8 by omega]
  have he : nI (V / 2 ^ (8 * (n / 8))) ||| nI v <<< (nI (n % 8) &&& 31) = nI ((V + v * 2 ^ n) / 2 ^ (8 * (n / 8))) := by
    rw [nI_shl (by omega) (by omega), nI_or, or_add h4, h7]
  refine xCt.of (by decide) rfl ck_BW_writeNumber (Nat.le_of_ble_eq_true rfl) rfl ?_
  refine b_BW_writeNumber_0 ⟨_, ⟨_, rfl, rfl⟩, _, ⟨_, rfl, rfl⟩, _, rfl, Nat.le_of_ble_eq_true rfl, fun H4 e4 => ?_⟩
  rw [he] at e4
  subst e4
  refine ⟨_, ⟨_, rfl, rfl⟩, _, rfl, Nat.le_of_ble_eq_true rfl, fun H7 e7 => ?_⟩
  rw [nI_add, show n % 8 + k = n + k - 8 * (n / 8) by omega] at e7
  subst e7
  exact BW_num_loop (V := V + v * 2 ^ n) (N := n + k) hlt hn (fun rb' h => ⟨_, rfl, rfl, rb', h, rfl⟩) ((n + k) / 8 - n / 8) 0 (n / 8) rb false (by omega) (by omega) (fun t ht => by rw [dvm (by omega)]; exact h2 t (by omega)) h3
theorem neg7 : ∀ b, b < 8 → -nI b &&& 7 = nI ((8 - b) % 8) := by decide
theorem c_BW_fillByte (hs : cbs s rb) (hn : s.2 + 7 ≤ 524288) : xCr l x 2 0 0 mBW_fillByte [.ref 50] (hW s0 T rb P q u Z s) (fun o H' => o = none ∧ ∃ rb', cbs (s.1, (s.2 + 7) / 8 * 8) rb' ∧ H' = hW s0 T rb' P q u Z (s.1, (s.2 + 7) / 8 * 8)) := by
  have hb : bput s 0 ((8 - s.2 % 8) % 8) = (s.1, (s.2 + 7) / 8 * 8) := by
    unfold bput
    rw [Nat.zero_mul]
    exact Prod.ext rfl (by dsimp only; omega)
  refine xCt.of (by decide) rfl ck_BW_fillByte (Nat.le_of_ble_eq_true rfl) rfl ?_
  refine b_BW_fillByte_0 ⟨_, ⟨_, rfl, rfl⟩, ?_⟩
  rw [neg7 (s.2 % 8) (by omega)]
  refine xs_callV rfl lk_1_29 (d' := 1) (c_BW_writeNumber (v := 0) (k := (8 - s.2 % 8) % 8) (Nat.two_pow_pos _) (by omega) hs (by omega)) (Nat.le_of_ble_eq_true rfl) rfl rfl rfl rfl rfl (Nat.le_of_ble_eq_true rfl) (by omega) (by omega) ?_
  rw [hb]
  rintro _ H1 ⟨rfl, rb', hs', rfl⟩
  refine b_BW_fillByte_8 ?_
  refine ⟨rfl, Nat.le_refl _, _, rfl, ⟨rfl, rb', hs', rfl⟩⟩
/-- four bytes -/
def bsh (hf : Bool) (i : Nat) : Nat := if hf then 24 - 8 * i else 8 * i
def bfour (s : Nat × Nat) (w : Nat) (hf : Bool) : Nat → Nat × Nat
  | 0 => s
  | i + 1 => bput (bfour s w hf i) (w / 2 ^ bsh hf i % 256) 8
theorem bfour_2 (s : Nat × Nat) (w : Nat) (hf : Bool) : ∀ i, (bfour s w hf i).2 = s.2 + 8 * i := by
  intro i
  induction i with
  | zero => rfl
  | succ i ih => show (bfour s w hf i).2 + 8 = _; omega
theorem c_BW_writeFour {w : Nat} (hw : w < 2 ^ 32) (hf : Bool) (hs : cbs s rb) (hn : s.2 + 32 ≤ 524288) : xCr l x 2 0 0 mBW_writeFour [.ref 50, .long (lN w), .int (if hf then 1 else 0)] (hW s0 T rb P q u Z s) (fun o H' => o = none ∧ ∃ rb', cbs (bfour s w hf 4) rb' ∧ H' = hW s0 T rb' P q u Z (bfour s w hf 4)) := by
  refine xCt.of (by decide) rfl ck_BW_writeFour (Nat.le_of_ble_eq_true rfl) rfl ?_
  generalize List.length (hW s0 T rb P q u Z s) = n0
  refine b_BW_writeFour_0 ?_
  have h : ∀ (j i : Nat) (rb' : Nat → Nat) (cl : Bool), i + j = 4 → cbs (bfour s w hf i) rb' → xW l x 2 0 0 mBW_writeFour n0 (fun r H' => ∃ o, r = Sum.inl o ∧ o = none ∧ ∃ rb', cbs (bfour s w hf 4) rb' ∧ H' = hW s0 T rb' P q u Z (bfour s w hf 4)) cl 2 [some (.ref 50), some (.long (lN w)), none, some (.int (if hf then 1 else 0)), some (.int (nI i)), none] [] (hW s0 T rb' P q u Z (bfour s w hf i)) 0 0 := by
    intro j
    induction j with
    | zero =>
      intro i rb' cl hi hs'
      have : i = 4 := by omega
      subst this
      refine b_BW_writeFour_2 ?_
      refine ⟨fun hb => ?_, fun hb => ?_⟩ <;> (try simp (disch := omega) only [nI_lit, nI_fold, nI_mul, nI_add, pk_sub, pk_div, nI_shrN, nI_clamp, nI_leI, nI_ltI, nI_eq, not_true_eq_false, not_false_eq_true, Bool.false_eq_true, if_true, if_false, nI_nem, nI_m1, nI_m7, nI_m15, nI_m32, nI_m4, nI_m8, nI_m16, nI_m2] at hb) <;> (try omega)
      refine ⟨rfl, Nat.le_refl _, _, rfl, ⟨rfl, rb', hs', rfl⟩⟩
    | succ j ih =>
      intro i rb' cl hi hs'
      have h2 := bfour_2 s w hf i
      refine b_BW_writeFour_2 ?_
      refine ⟨fun hb => ?_, fun hb => ?_⟩ <;> (try simp (disch := omega) only [nI_lit, nI_fold, nI_mul, nI_add, pk_sub, pk_div, nI_shrN, nI_clamp, nI_leI, nI_ltI, nI_eq, not_true_eq_false, not_false_eq_true, Bool.false_eq_true, if_true, if_false, nI_nem, nI_m1, nI_m7, nI_m15, nI_m32, nI_m4, nI_m8, nI_m16, nI_m2] at hb) <;> (try omega)
      cases hf with
      | false =>
        refine ⟨fun _ => ?_, fun h => absurd rfl h⟩
        rw [show (8 : Int32) * nI i = nI (8 * i) from nI_mul 8 i, lN_byte hw (by omega)]
        refine xs_callV rfl lk_1_29 (d' := 1) (c_BW_writeNumber (s := bfour s w false i) (v := w / 2 ^ (8 * i) % 256) (k := 8) (Nat.mod_lt _ (by decide)) (by decide) hs' (by omega)) (Nat.le_of_ble_eq_true rfl) rfl rfl rfl rfl rfl (Nat.le_of_ble_eq_true rfl) (by omega) (by omega) ?_
        rintro _ H1 ⟨rfl, rb2, hs2, rfl⟩
        refine b_BW_writeFour_26 ?_
        rw [nI_1]
        refine xW.fgt 5 ?_
        exact ih (i + 1) rb2 false (by omega) hs2
      | true =>
        refine ⟨fun h => absurd h (by decide), fun _ => ?_⟩
        rw [show (24 : Int32) - (8 : Int32) * nI i = nI (24 - 8 * i) by rw [show (8 : Int32) * nI i = nI (8 * i) from nI_mul 8 i, show (24 : Int32) = nI 24 from rfl, nI_sub (by omega)], lN_byte hw (by omega)]
        refine xs_callV rfl lk_1_29 (d' := 1) (c_BW_writeNumber (s := bfour s w true i) (v := w / 2 ^ (24 - 8 * i) % 256) (k := 8) (Nat.mod_lt _ (by decide)) (by decide) hs' (by omega)) (Nat.le_of_ble_eq_true rfl) rfl rfl rfl rfl rfl (Nat.le_of_ble_eq_true rfl) (by omega) (by omega) ?_
        rintro _ H1 ⟨rfl, rb2, hs2, rfl⟩
        refine b_BW_writeFour_26 ?_
        rw [nI_1]
        refine xW.fgt 5 ?_
        exact ih (i + 1) rb2 false (by omega) hs2
  exact h 4 0 rb true rfl hs
theorem c_BW_writeSymbol {r a1 a2 a3 N i n w : Nat} {fl fw : wF} (h1 : (hW s0 T rb P q u Z s)[r]? = some (.inr (11, [.ref a1, .ref a2, .ref a3]))) (h2 : (hW s0 T rb P q u Z s)[a1]? = some (aI N fl)) (h3 : (hW s0 T rb P q u Z s)[a2]? = some (aI N fw)) (hi : i < N) (hN : N < 2 ^ 31) (hl : fl i = nI n) (hw : fw i = nI w) (hv : w < 2 ^ n) (hk : n ≤ 16) (hs : cbs s rb) (hn : s.2 + n ≤ 524288) : xCr l x 2 0 0 mBW_writeSymbol [.ref 50, .ref r, .int (nI i)] (hW s0 T rb P q u Z s) (fun o H' => o = none ∧ ∃ rb', cbs (bput s w n) rb' ∧ H' = hW s0 T rb' P q u Z (bput s w n)) := by
  refine xCt.of (by decide) rfl ck_BW_writeSymbol (Nat.le_of_ble_eq_true rfl) rfl ?_
  refine b_BW_writeSymbol_0 ⟨_, ⟨_, h1, rfl⟩, _, _, h3, vp_in_nI hi hN, _, ⟨_, h1, rfl⟩, _, _, h2, vp_in_nI hi hN, ?_⟩
  rw [nI_clamp (by omega), hl, hw]
  refine xs_callV rfl lk_1_29 (d' := 1) (c_BW_writeNumber (v := w) (k := n) hv hk hs hn) (Nat.le_of_ble_eq_true rfl) rfl rfl rfl rfl rfl (Nat.le_of_ble_eq_true rfl) (by omega) (by omega) ?_
  rintro _ H1 ⟨rfl, rb', hs', rfl⟩
  refine b_BW_writeSymbol_10 ?_
  refine ⟨rfl, Nat.le_refl _, _, rfl, ⟨rfl, rb', hs', rfl⟩⟩
end CBits
