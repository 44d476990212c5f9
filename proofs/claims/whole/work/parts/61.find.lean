/-! the class's finder -/
def kN (t : Nat → Nat) (p : Nat) : Nat := (t p + t (p + 1) * 2 ^ 8 + t (p + 2) * 2 ^ 16) * 2654435761 % 2 ^ 32 / 2 ^ 20
theorem kN_lt (t : Nat → Nat) (p : Nat) : kN t p < 4096 := by unfold kN; omega
theorem kN_eq {t : Nat → Nat} {q p most : Nat} (h : 2 < smL t q p most) : kN t q = kN t p := by
  have h0 := smL_eq (t := t) (q := q) (p := p) (most := most) (i := 0) (by omega)
  have h1 := smL_eq (t := t) (q := q) (p := p) (most := most) (i := 1) (by omega)
  have h2 := smL_eq (t := t) (q := q) (p := p) (most := most) (i := 2) (by omega)
  rw [Nat.add_zero, Nat.add_zero] at h0
  unfold kN
  rw [h0, h1, h2]
/-- the latest place before e with the key c, and one more; 0 for none -/
def lb (t : Nat → Nat) (c : Nat) : Nat → Nat
  | 0 => 0
  | e + 1 => if kN t e = c then e + 1 else lb t c e
theorem lb_le (t : Nat → Nat) (c : Nat) : ∀ e, lb t c e ≤ e := by
  intro e
  induction e with
  | zero => exact Nat.le_refl _
  | succ e ih => unfold lb; split <;> omega
theorem lb_key {t : Nat → Nat} {c m : Nat} : ∀ e, lb t c e = m + 1 → kN t m = c := by
  intro e
  induction e with
  | zero => intro h; cases h
  | succ e ih =>
    intro h
    unfold lb at h
    split at h
    · rename_i h2
      have : e = m := by omega
      rw [← this]; exact h2
    · exact ih h
theorem lb_no {t : Nat → Nat} {c : Nat} : ∀ e i, lb t c e ≤ i → i < e → kN t i ≠ c := by
  intro e
  induction e with
  | zero => intro i _ h; omega
  | succ e ih =>
    intro i h1 h2
    unfold lb at h1
    split at h1
    · omega
    · rename_i h3
      by_cases hi : i = e
      · rw [hi]; exact h3
      · exact ih i h1 (by omega)
theorem st_skip {t : Nat → Nat} {p most : Nat} {e0 e1 : Nat} (he : e1 ≤ p) (h : ∀ e, e0 ≤ e → e < e1 → kN t e ≠ kN t p) : ∀ j, e0 + j ≤ e1 → st t p most (p - (e1 - j)) = st t p most (p - e1) := by
  intro j
  induction j with
  | zero => intro _; rfl
  | succ j ih =>
    intro hj
    rw [show p - (e1 - (j + 1)) = p - (e1 - j) + 1 by omega]
    show (if (st t p most (p - (e1 - j))).1 < smL t (p - (p - (e1 - j) + 1)) p most then (smL t (p - (p - (e1 - j) + 1)) p most, p - (e1 - j) + 1) else st t p most (p - (e1 - j))) = _
    have hlo := st_lo t p most (p - (e1 - j))
    rw [if_neg ?_]
    · exact ih (by omega)
    · intro hlt
      exact h (p - (p - (e1 - j) + 1)) (by omega) (by omega) (kN_eq (most := most) (by omega))
def FIok (t : Nat → Nat) (f : wFI) : Prop := (∀ c, c < 4096 → f.2.2.2.2.1 c = nI (lb t c f.2.2.1) - 1) ∧ ∀ e, e < f.2.2.1 → f.2.2.2.2.2 e = nI (lb t (kN t e) e) - 1
theorem max_lo2 : ∀ a, a < 64 → ∀ b, b < 64 → (if (0 : Int32) < nI (64 * a + b) - 4096 then nI (64 * a + b) - 4096 else 0) = 0 := by decide +kernel
theorem max_low (p : Nat) (h : p < 4096) : (if (0 : Int32) < nI p - 4096 then nI p - 4096 else 0) = 0 := by
  have := max_lo2 (p / 64) (by omega) (p % 64) (by omega)
  rw [show 64 * (p / 64) + p % 64 = p by omega] at this
  exact this
theorem nI_gtm {v : Nat} (h : v < 2 ^ 31) : nI 0 - 1 < nI v := by
  rw [Int32.lt_iff_toInt_lt, nI_toInt h]
  have : (nI 0 - 1 : Int32).toInt = -1 := by decide
  omega
section Find
variable {l : Launch} {x : xX} {d : Nat} {s0 : va_E} {T R : wRow} {P : wRep} {k1 : Nat × Nat × Nat × Nat} {k2 k3 : wWC} {k4 : wMC} {k5 : wF × wF × wF × wF} {hd : Nat × Nat} {u : wUN} {Z : xH}
theorem c_FI_keyAt (hT : ∀ i, T.1 i < 256) {f : wFI} {p : Nat} (hp : p + 3 ≤ 32768) : xCr l x d 0 0 mFI_keyAt [.ref 47, .int (nI p)] (hc s0 T R P (k1, k2, k3, k4, k5, f, hd) u Z) (fun o H' => o = some (.int (nI (kN T.1 p))) ∧ H' = hc s0 T R P (k1, k2, k3, k4, k5, f, hd) u Z) := by
  have h0 := hT p
  have h1 := hT (p + 1)
  have h2 := hT (p + 2)
  refine xCt.of (by decide) rfl ck_FI_keyAt (Nat.le_of_ble_eq_true rfl) rfl ?_
  refine b_FI_keyAt_0 ⟨_, ⟨_, rfl, rfl⟩, _, ⟨_, rfl, rfl⟩, _, _, rfl, (by (try simp (disch := omega) only [nI_lit, nI_fold, nI_mul, nI_add, pk_sub, pk_div, nI_shrN, nI_clamp]); (with_reducible refine vp_in_nI ?_ ?_) <;> omega), _, _, rfl, (by (try simp (disch := omega) only [nI_lit, nI_fold, nI_mul, nI_add, pk_sub, pk_div, nI_shrN, nI_clamp]); (with_reducible refine vp_in_nI ?_ ?_) <;> omega), _, _, rfl, (by (try simp (disch := omega) only [nI_lit, nI_fold, nI_mul, nI_add, pk_sub, pk_div, nI_shrN, nI_clamp]); (with_reducible refine vp_in_nI ?_ ?_) <;> omega), ?_⟩
  rw [show nI p + 1 = nI (p + 1) from nI_1 p, show nI p + 2 = nI (p + 2) from nI_add p 2, nI_clamp (by omega), nI_clamp (by omega), nI_clamp (by omega), show bF T.1 p &&& 255 = nI (T.1 p) from (sb_byte _ h0).1, show bF T.1 (p + 1) &&& 255 = nI (T.1 (p + 1)) from (sb_byte _ h1).1, show bF T.1 (p + 2) &&& 255 = nI (T.1 (p + 2)) from (sb_byte _ h2).1]
  rw [show nI (T.1 (p + 1)) <<< ((8 : Int32) &&& 31) = nI (T.1 (p + 1) * 2 ^ 8) from nI_shl (k := 8) (by decide) (by omega), show nI (T.1 (p + 2)) <<< ((16 : Int32) &&& 31) = nI (T.1 (p + 2) * 2 ^ 16) from nI_shl (k := 16) (by decide) (by omega), nI_or, nI_or, or_add (show T.1 p < 2 ^ 8 by omega), or_add (show T.1 p + T.1 (p + 1) * 2 ^ 8 < 2 ^ 16 by omega), show (-1640531535 : Int32) = nI 2654435761 from rfl, nI_mul]
  rw [show ∀ w, nI w = nI (w % 2 ^ 32) from fun w => Int32.toBitVec_inj.mp (by show BitVec.ofNat 32 w = BitVec.ofNat 32 (w % 2 ^ 32); apply BitVec.eq_of_toNat_eq; rw [BitVec.toNat_ofNat, BitVec.toNat_ofNat, Nat.mod_mod])]
  rw [pk_ushrN (Nat.mod_lt _ (by decide)) 20 20 (by decide)]
  refine ⟨rfl, Nat.le_refl _, _, rfl, ⟨rfl, rfl⟩⟩
theorem c_FI_sameBytes (hT : ∀ i, T.1 i < 256) {f : wFI} {q p most : Nat} (hq : q ≤ p) (hp : p + most ≤ 32768) : xCr l x d 0 0 mFI_sameBytes [.ref 47, .int (nI q), .int (nI p), .int (nI most)] (hc s0 T R P (k1, k2, k3, k4, k5, f, hd) u Z) (fun o H' => o = some (.int (nI (smL T.1 q p most))) ∧ H' = hc s0 T R P (k1, k2, k3, k4, k5, f, hd) u Z) := by
  refine xCt.of (by decide) rfl ck_FI_sameBytes (Nat.le_of_ble_eq_true rfl) rfl ?_
  generalize List.length (hc s0 T R P (k1, k2, k3, k4, k5, f, hd) u Z) = n0
  refine b_FI_sameBytes_0 ⟨_, ⟨_, rfl, rfl⟩, _, ⟨_, rfl, rfl⟩, ?_⟩
  unfold smL
  generalize hv : sm T.1 q p most 0 = v
  have h : ∀ (j i : Nat) (cl : Bool), i + j = most → sm T.1 q p j i = v → xW l x d 0 0 mFI_sameBytes n0 (fun r H' => ∃ o, r = Sum.inl o ∧ o = some (.int (nI v)) ∧ H' = hc s0 T R P (k1, k2, k3, k4, k5, f, hd) u Z) cl 6 [some (.ref 47), some (.int (nI q)), some (.int (nI p)), some (.int (nI most)), some (.ref 4), some (.int (nI i))] [] (hc s0 T R P (k1, k2, k3, k4, k5, f, hd) u Z) 0 0 := by
    intro j
    induction j with
    | zero =>
      intro i cl hi hz
      have hz : i = v := hz
      subst hz
      refine b_FI_sameBytes_6 ?_
      refine ⟨fun hb => ?_, fun hb => ?_⟩ <;> (try simp (disch := omega) only [nI_lit, nI_fold, nI_mul, nI_add, pk_sub, pk_div, nI_shrN, nI_clamp, nI_leI, nI_ltI, nI_eq, not_true_eq_false, not_false_eq_true, Bool.false_eq_true, if_true, if_false, nI_nem, nI_m1, nI_m7, nI_m15, nI_m32, nI_m4, nI_m8, nI_m16, nI_m2] at hb) <;> (try omega)
      refine ⟨rfl, Nat.le_refl _, _, rfl, ⟨rfl, rfl⟩⟩
    | succ j ih =>
      intro i cl hi hz
      unfold sm at hz
      refine b_FI_sameBytes_6 ?_
      refine ⟨fun hb => ?_, fun hb => ?_⟩ <;> (try simp (disch := omega) only [nI_lit, nI_fold, nI_mul, nI_add, pk_sub, pk_div, nI_shrN, nI_clamp, nI_leI, nI_ltI, nI_eq, not_true_eq_false, not_false_eq_true, Bool.false_eq_true, if_true, if_false, nI_nem, nI_m1, nI_m7, nI_m15, nI_m32, nI_m4, nI_m8, nI_m16, nI_m2] at hb) <;> (try omega)
      refine ⟨_, _, rfl, (by (try simp (disch := omega) only [nI_lit, nI_fold, nI_mul, nI_add, pk_sub, pk_div, nI_shrN, nI_clamp]); (with_reducible refine vp_in_nI ?_ ?_) <;> omega), _, _, rfl, (by (try simp (disch := omega) only [nI_lit, nI_fold, nI_mul, nI_add, pk_sub, pk_div, nI_shrN, nI_clamp]); (with_reducible refine vp_in_nI ?_ ?_) <;> omega), ?_⟩
      refine ⟨fun he => ?_, fun he => ?_⟩ <;> (try simp (disch := omega) only [nI_lit, nI_fold, nI_mul, nI_add, pk_sub, pk_div, nI_shrN, nI_clamp, nI_leI, nI_ltI, nI_eq, not_true_eq_false, not_false_eq_true, Bool.false_eq_true, if_true, if_false, nI_nem, nI_m1, nI_m7, nI_m15, nI_m32, nI_m4, nI_m8, nI_m16, nI_m2] at he) <;> (try omega)
      · rw [bF_eq hT] at he
        rw [if_neg he] at hz
        subst hz
        refine ⟨rfl, Nat.le_refl _, _, rfl, ⟨rfl, rfl⟩⟩
      · rw [bF_eq hT] at he
        rw [if_pos he] at hz
        rw [nI_1]
        exact ih (i + 1) cl (by omega) hz
  exact h most 0 true (by omega) hv
theorem c_FI_restart {f : wFI} : xCr l x 1 0 0 mFI_restart [.ref 47] (hc s0 T R P (k1, k2, k3, k4, k5, f, hd) u Z) (fun o H' => o = none ∧ ∃ lat, FIok T.1 (f.1, f.2.1, 0, -1, lat, f.2.2.2.2.2) ∧ H' = hc s0 T R P (k1, k2, k3, k4, k5, (f.1, f.2.1, 0, -1, lat, f.2.2.2.2.2), hd) u Z) := by
  refine xCt.of (by decide) rfl ck_FI_restart (Nat.le_of_ble_eq_true rfl) rfl ?_
  refine b_FI_restart_0 ⟨_, ⟨_, rfl, rfl⟩, ?_⟩
  refine xs_callS rfl lk_2_23 (d' := 0) (c_AR_fill (N := 4096) (f := f.2.2.2.2.1) rfl (by decide) (by decide)) (Nat.le_of_ble_eq_true rfl) rfl rfl (Nat.le_of_ble_eq_true rfl) (by omega) (by omega) ?_
  rintro _ H1 ⟨rfl, rfl⟩
  refine b_FI_restart_4 ⟨_, rfl, Nat.le_of_ble_eq_true rfl, fun H2 e2 => ?_⟩
  try simp (disch := omega) only [nI_lit, nI_fold, nI_mul, nI_add, pk_sub, pk_div, nI_shrN, nI_clamp] at e2
  subst e2
  refine ⟨_, rfl, Nat.le_of_ble_eq_true rfl, fun H4 e4 => ?_⟩
  try simp (disch := omega) only [nI_lit, nI_fold, nI_mul, nI_add, pk_sub, pk_div, nI_shrN, nI_clamp] at e4
  subst e4
  refine ⟨rfl, Nat.le_refl _, _, rfl, rfl, x_fil f.2.2.2.2.1 (-1) 0 4096, ⟨fun c hc => ?_, fun e he => absurd he (Nat.not_lt_zero _)⟩, rfl⟩
  show x_fil f.2.2.2.2.1 (-1) 0 4096 c = nI 0 - 1
  unfold x_fil
  rw [if_pos ⟨Nat.zero_le _, hc⟩]
  rfl
theorem c_FI_enter (hT : ∀ i, T.1 i < 256) (hn : T.2 ≤ 32768) {f : wFI} {p : Nat} (hp : p ≤ T.2) (hf : FIok T.1 f) (he : f.2.2.1 ≤ p) : xCr l x 1 0 0 mFI_enterPlacesBefore [.ref 47, .int (nI p)] (hc s0 T R P (k1, k2, k3, k4, k5, f, hd) u Z) (fun o H' => o = none ∧ ∃ en lat bef, FIok T.1 (f.1, f.2.1, en, f.2.2.2.1, lat, bef) ∧ en ≤ p ∧ (en = p ∨ T.2 < en + 3) ∧ H' = hc s0 T R P (k1, k2, k3, k4, k5, (f.1, f.2.1, en, f.2.2.2.1, lat, bef), hd) u Z) := by
  refine xCt.of (by decide) rfl ck_FI_enterPlacesBefore (Nat.le_of_ble_eq_true rfl) rfl ?_
  generalize List.length (hc s0 T R P (k1, k2, k3, k4, k5, f, hd) u Z) = n0
  obtain ⟨f1, f2, en, fd, lat, bef⟩ := f
  dsimp only at he ⊢
  have h : ∀ (j en : Nat) (lat bef : wF) (cl : Bool), en + j = p → FIok T.1 (f1, f2, en, fd, lat, bef) → xW l x 1 0 0 mFI_enterPlacesBefore n0 (fun r H' => ∃ o, r = Sum.inl o ∧ o = none ∧ ∃ en lat bef, FIok T.1 (f1, f2, en, fd, lat, bef) ∧ en ≤ p ∧ (en = p ∨ T.2 < en + 3) ∧ H' = hc s0 T R P (k1, k2, k3, k4, k5, (f1, f2, en, fd, lat, bef), hd) u Z) cl 0 [some (.ref 47), some (.int (nI p)), none] [] (hc s0 T R P (k1, k2, k3, k4, k5, (f1, f2, en, fd, lat, bef), hd) u Z) 0 0 := by
    intro j
    induction j with
    | zero =>
      intro en lat bef cl hj hf
      refine b_FI_enterPlacesBefore_0 ⟨_, ⟨_, rfl, rfl⟩, ?_⟩
      refine ⟨fun hb => ?_, fun hb => ?_⟩ <;> (try simp (disch := omega) only [nI_lit, nI_fold, nI_mul, nI_add, pk_sub, pk_div, nI_shrN, nI_clamp, nI_leI, nI_ltI, nI_eq, not_true_eq_false, not_false_eq_true, Bool.false_eq_true, if_true, if_false, nI_nem, nI_m1, nI_m7, nI_m15, nI_m32, nI_m4, nI_m8, nI_m16, nI_m2] at hb) <;> (try omega)
      refine ⟨rfl, Nat.le_refl _, _, rfl, ⟨rfl, en, lat, bef, hf, by omega, Or.inl (by omega), rfl⟩⟩
    | succ j ih =>
      intro en lat bef cl hj hf
      have hk := kN_lt T.1 en
      refine b_FI_enterPlacesBefore_0 ⟨_, ⟨_, rfl, rfl⟩, ?_⟩
      refine ⟨fun hb => ?_, fun hb => ?_⟩ <;> (try simp (disch := omega) only [nI_lit, nI_fold, nI_mul, nI_add, pk_sub, pk_div, nI_shrN, nI_clamp, nI_leI, nI_ltI, nI_eq, not_true_eq_false, not_false_eq_true, Bool.false_eq_true, if_true, if_false, nI_nem, nI_m1, nI_m7, nI_m15, nI_m32, nI_m4, nI_m8, nI_m16, nI_m2] at hb) <;> (try omega)
      refine ⟨_, ⟨_, rfl, rfl⟩, _, ⟨_, rfl, rfl⟩, _, ⟨_, rfl, rfl⟩, ?_⟩
      refine ⟨fun hc => ?_, fun hc => ?_⟩ <;> (try simp (disch := omega) only [nI_lit, nI_fold, nI_mul, nI_add, pk_sub, pk_div, nI_shrN, nI_clamp, nI_leI, nI_ltI, nI_eq, not_true_eq_false, not_false_eq_true, Bool.false_eq_true, if_true, if_false, nI_nem, nI_m1, nI_m7, nI_m15, nI_m32, nI_m4, nI_m8, nI_m16, nI_m2] at hc) <;> (try omega)
      · refine ⟨rfl, Nat.le_refl _, _, rfl, ⟨rfl, en, lat, bef, hf, by omega, Or.inr (by omega), rfl⟩⟩
      refine ⟨_, ⟨_, rfl, rfl⟩, ?_⟩
      refine xs_callV rfl lk_2_58 (d' := 0) (c_FI_keyAt hT (p := en) (by omega)) (Nat.le_of_ble_eq_true rfl) rfl rfl rfl rfl rfl (Nat.le_of_ble_eq_true rfl) (by omega) (by omega) ?_
      rintro _ H1 ⟨rfl, rfl⟩
      refine b_FI_enterPlacesBefore_16 ⟨_, ⟨_, rfl, rfl⟩, _, ⟨_, rfl, rfl⟩, _, ⟨_, rfl, rfl⟩, _, _, rfl, (by (try simp (disch := omega) only [nI_lit, nI_fold, nI_mul, nI_add, pk_sub, pk_div, nI_shrN, nI_clamp]); (with_reducible refine vp_in_nI ?_ ?_) <;> omega), _, _, rfl, Nat.le_of_ble_eq_true rfl, (by (try simp (disch := omega) only [nI_lit, nI_fold, nI_mul, nI_add, pk_sub, pk_div, nI_shrN, nI_clamp]); (with_reducible refine vp_in_nI ?_ ?_) <;> omega), fun H8 e8 => ?_⟩
      try simp (disch := omega) only [nI_lit, nI_fold, nI_mul, nI_add, pk_sub, pk_div, nI_shrN, nI_clamp] at e8
      subst e8
      refine ⟨_, ⟨_, rfl, rfl⟩, _, ⟨_, rfl, rfl⟩, _, _, rfl, Nat.le_of_ble_eq_true rfl, (by (try simp (disch := omega) only [nI_lit, nI_fold, nI_mul, nI_add, pk_sub, pk_div, nI_shrN, nI_clamp]); (with_reducible refine vp_in_nI ?_ ?_) <;> omega), fun H13 e13 => ?_⟩
      try simp (disch := omega) only [nI_lit, nI_fold, nI_mul, nI_add, pk_sub, pk_div, nI_shrN, nI_clamp] at e13
      subst e13
      refine ⟨_, ⟨_, rfl, rfl⟩, _, rfl, Nat.le_of_ble_eq_true rfl, fun H16 e16 => ?_⟩
      try simp (disch := omega) only [nI_lit, nI_fold, nI_mul, nI_add, pk_sub, pk_div, nI_shrN, nI_clamp] at e16
      subst e16
      refine xW.fgt 2 ?_
      refine ih (en + 1) (upd lat (kN T.1 en) (nI en)) (upd bef en (lat (kN T.1 en))) false (by omega) ⟨fun c hc => ?_, fun e he => ?_⟩
      · show upd lat (kN T.1 en) (nI en) c = nI (if kN T.1 en = c then en + 1 else lb T.1 c en) - 1
        unfold upd
        by_cases h : c = kN T.1 en
        · rw [if_pos h, if_pos h.symm, nI_pred]
        · rw [if_neg h, if_neg (fun h2 => h h2.symm)]
          exact hf.1 c hc
      · show upd bef en (lat (kN T.1 en)) e = nI (lb T.1 (kN T.1 e) e) - 1
        have he : e < en + 1 := he
        unfold upd
        by_cases h : e = en
        · rw [if_pos h, h]
          exact hf.1 _ hk
        · rw [if_neg h]
          exact hf.2 e (by dsimp only; omega)
  exact h (p - en) en lat bef true (by omega) hf
def fres (t : Nat → Nat) (n p : Nat) (f : wFI) : Prop := f.1 = (stO t n p).1 ∧ (1 ≤ f.1 → f.2.1 = (stO t n p).2)
theorem FI_search_loop (hT : ∀ i, T.1 i < 256) (hn : T.2 ≤ 32768) {n0 : Nat} {Q : xO → xH → Prop} {p : Nat} {lat bef : wF} {fd : Int32} (hp : p + 3 ≤ T.2) (hf : ∀ e, e < p → bef e = nI (lb T.1 (kN T.1 e) e) - 1) (hq : ∀ f1 f2, fres T.1 T.2 p (f1, f2, p, fd, lat, bef) → Q (.inl none) (hc s0 T R P (k1, k2, k3, k4, k5, (f1, f2, p, fd, lat, bef), hd) u Z)) :
    ∀ (qq : Nat) (i f1 f2 : Nat) (cl : Bool), qq ≤ p → i ≤ p - qq → (1 ≤ qq → kN T.1 (qq - 1) = kN T.1 p) → f1 = (if 2 < (st T.1 p (mst T.2 p) (if p - qq ≤ dmx p then p - qq else dmx p)).1 then (st T.1 p (mst T.2 p) (if p - qq ≤ dmx p then p - qq else dmx p)).1 else 0) → (1 ≤ f1 → f2 = (st T.1 p (mst T.2 p) (if p - qq ≤ dmx p then p - qq else dmx p)).2) → xW l x 1 0 0 mFI_search n0 Q cl 21 [some (.ref 47), some (.int (nI p)), some (.int (nI (mst T.2 p))), some (.ref 4), some (.int (nI (p - 4096))), some (.int (nI (st T.1 p (mst T.2 p) (if p - qq ≤ dmx p then p - qq else dmx p)).1)), some (.int (nI qq - 1)), some (.int (nI i)), none] [] (hc s0 T R P (k1, k2, k3, k4, k5, (f1, f2, p, fd, lat, bef), hd) u Z) 0 0 := by
  have hm : mst T.2 p ≤ 258 ∧ mst T.2 p ≤ T.2 - p ∧ 3 ≤ mst T.2 p := by unfold mst; split <;> omega
  have hD : dmx p ≤ 4096 ∧ dmx p ≤ p ∧ (dmx p = 4096 ∨ dmx p = p) ∧ p - dmx p = p - 4096 := by unfold dmx; split <;> omega
  have hO : stO T.1 T.2 p = if 2 < (st T.1 p (mst T.2 p) (dmx p)).1 then st T.1 p (mst T.2 p) (dmx p) else (0, 0) := rfl
  generalize mst T.2 p = most at *
  have kE : ∀ (dd f1 f2 : Nat) , st T.1 p most dd = st T.1 p most (dmx p) → f1 = (if 2 < (st T.1 p most dd).1 then (st T.1 p most dd).1 else 0) → (1 ≤ f1 → f2 = (st T.1 p most dd).2) → (0 : Nat) = 0 ∧ 0 ≤ 0 ∧ Q (.inl none) (hc s0 T R P (k1, k2, k3, k4, k5, (f1, f2, p, fd, lat, bef), hd) u Z) := by
    intro dd f1 f2 hdd h1 h2
    refine ⟨rfl, Nat.le_refl _, hq f1 f2 ?_⟩
    rw [hdd] at h1 h2
    unfold fres
    rw [hO]
    dsimp only
    by_cases h : 2 < (st T.1 p most (dmx p)).1
    · rw [if_pos h] at h1 ⊢
      exact ⟨h1, h2⟩
    · rw [if_neg h] at h1 ⊢
      exact ⟨h1, fun h3 => by omega⟩
  intro qq
  induction qq using Nat.strongRecOn with
  | _ qq ih =>
  intro i f1 f2 cl hqp hi hkey h1 h2
  by_cases hfar : p - qq ≤ dmx p
  case neg =>
    rw [if_neg hfar] at h1 h2 ⊢
    have hE := kE (dmx p) f1 f2 rfl h1 h2
    refine b_FI_search_21 ?_
    refine ⟨fun _ => hE, fun _ => ?_⟩
    refine ⟨fun _ => hE, fun h => ?_⟩
    exfalso
    refine h ?_
    by_cases h0 : qq = 0
    · subst h0
      exact nI_gtm (by omega)
    rw [show nI qq - 1 = nI (qq - 1) by rw [show (1 : Int32) = nI 1 from rfl, nI_sub (by omega)], nI_ltI (by omega) (by omega)]
    omega
  rw [if_pos hfar] at h1 h2 ⊢
  by_cases hq0 : qq = 0
  case pos =>
    subst hq0
    have hE := kE (p - 0) f1 f2 (by rw [show dmx p = p - 0 by omega]) h1 h2
    refine b_FI_search_21 ?_
    refine ⟨fun _ => hE, fun _ => ?_⟩
    refine ⟨fun _ => hE, fun h => ?_⟩
    exfalso
    refine h ?_
    rw [show p - 4096 = 0 by omega]
    decide
  obtain ⟨m, rfl⟩ : ∃ m, qq = m + 1 := ⟨qq - 1, by omega⟩
  have hkey := hkey (by omega)
  rw [show m + 1 - 1 = m by omega] at hkey
  rw [nI_pred]
  have hlo := st_lo T.1 p most (p - (m + 1))
  have hbd : (st T.1 p most (p - (m + 1))).1 ≤ 258 := by
    by_cases h3 : 2 < (st T.1 p most (p - (m + 1))).1
    · have := st_hi T.1 p most _ h3; omega
    · omega
  have hst : st T.1 p most (p - m) = if (st T.1 p most (p - (m + 1))).1 < smL T.1 m p most then (smL T.1 m p most, p - m) else st T.1 p most (p - (m + 1)) := by
    rw [show p - m = p - (m + 1) + 1 by omega]
    show (if (st T.1 p most (p - (m + 1))).1 < smL T.1 (p - (p - (m + 1) + 1)) p most then (smL T.1 (p - (p - (m + 1) + 1)) p most, p - (m + 1) + 1) else st T.1 p most (p - (m + 1))) = _
    rw [show p - (p - (m + 1) + 1) = m by omega]
  have hsl := smL_le T.1 m p most
  -- the next place of the chain
  have hnx : ∀ (i' f1 f2 : Nat) (cl : Bool), i' = i + 1 → m + 1 ≤ p → ¬ m < p - 4096 → f1 = (if 2 < (st T.1 p most (p - m)).1 then (st T.1 p most (p - m)).1 else 0) → (1 ≤ f1 → f2 = (st T.1 p most (p - m)).2) → xW l x 1 0 0 mFI_search n0 Q cl 21 [some (.ref 47), some (.int (nI p)), some (.int (nI most)), some (.ref 4), some (.int (nI (p - 4096))), some (.int (nI (st T.1 p most (p - m)).1)), some (.int (bef m)), some (.int (nI i')), none] [] (hc s0 T R P (k1, k2, k3, k4, k5, (f1, f2, p, fd, lat, bef), hd) u Z) 0 0 := by
    intro i' f1 f2 cl hi' hmp hlow g1 g2
    subst hi'
    have hle := lb_le T.1 (kN T.1 p) m
    have hno := lb_no (t := T.1) (c := kN T.1 p) m
    rw [hf m (by omega), hkey]
    have hs : st T.1 p most (if p - lb T.1 (kN T.1 p) m ≤ dmx p then p - lb T.1 (kN T.1 p) m else dmx p) = st T.1 p most (p - m) := by
      by_cases h3 : p - lb T.1 (kN T.1 p) m ≤ dmx p
      · rw [if_pos h3]
        have := st_skip (most := most) (p := p) (e0 := lb T.1 (kN T.1 p) m) (e1 := m) (by omega) hno (m - lb T.1 (kN T.1 p) m) (by omega)
        rw [show p - (m - (m - lb T.1 (kN T.1 p) m)) = p - lb T.1 (kN T.1 p) m by omega] at this
        exact this
      · rw [if_neg h3]
        have := st_skip (most := most) (p := p) (e0 := lb T.1 (kN T.1 p) m) (e1 := m) (by omega) hno (m - (p - dmx p)) (by omega)
        rw [show p - (m - (m - (p - dmx p))) = dmx p by omega] at this
        exact this
    have := ih (lb T.1 (kN T.1 p) m) (by omega) (i + 1) f1 f2 cl (by omega) (by omega) (fun h3 => by
      obtain ⟨y, hy⟩ : ∃ y, lb T.1 (kN T.1 p) m = y + 1 := ⟨lb T.1 (kN T.1 p) m - 1, by omega⟩
      rw [hy, show y + 1 - 1 = y by omega]
      exact lb_key m hy)
    rw [hs] at this
    exact this g1 g2
  refine b_FI_search_21 ?_
  refine ⟨fun h => ?_, fun h => ?_⟩ <;> rw [show (4096 : Int32) = nI 4096 from rfl, nI_leI (by omega) (by omega)] at h
  · exact kE (p - (m + 1)) f1 f2 (by rw [show dmx p = p - (m + 1) by omega]) h1 h2
  refine ⟨fun h => ?_, fun hlow => ?_⟩
  · rw [nI_ltI (by omega) (by omega)] at h
    exact kE (p - (m + 1)) f1 f2 (by rw [show dmx p = p - (m + 1) by omega]) h1 h2
  rw [nI_ltI (by omega) (by omega)] at hlow
  refine ⟨fun h => ?_, fun h => ?_⟩ <;> rw [nI_leI (by omega) (by omega)] at h
  · exact kE (p - (m + 1)) f1 f2 (by have := st_stop h (dmx p - (p - (m + 1))); rw [show p - (m + 1) + (dmx p - (p - (m + 1))) = dmx p by omega] at this; exact this.symm) h1 h2
  refine ⟨_, _, rfl, (by (try simp (disch := omega) only [nI_lit, nI_fold, nI_mul, nI_add, pk_sub, pk_div, nI_shrN, nI_clamp]); (with_reducible refine vp_in_nI ?_ ?_) <;> omega), _, _, rfl, (by (try simp (disch := omega) only [nI_lit, nI_fold, nI_mul, nI_add, pk_sub, pk_div, nI_shrN, nI_clamp]); (with_reducible refine vp_in_nI ?_ ?_) <;> omega), ?_⟩
  refine ⟨fun hc => ?_, fun hc => ?_⟩ <;> rw [nI_add, nI_add, nI_clamp (by omega), nI_clamp (by omega), bF_eq hT] at hc
  · have hno : ¬ (st T.1 p most (p - (m + 1))).1 < smL T.1 m p most := fun h3 => hc (smL_eq h3)
    rw [if_neg hno] at hst
    rw [← hst] at h1 h2 ⊢
    refine ⟨_, ⟨_, rfl, rfl⟩, _, _, rfl, (by (try simp (disch := omega) only [nI_lit, nI_fold, nI_mul, nI_add, pk_sub, pk_div, nI_shrN, nI_clamp]); (with_reducible refine vp_in_nI ?_ ?_) <;> omega), ?_⟩
    rw [nI_clamp (by omega), nI_1]
    exact hnx (i + 1) f1 f2 _ rfl (by omega) (by omega) h1 h2
  refine xs_callV rfl lk_2_70 (d' := 0) (c_FI_sameBytes hT (q := m) (p := p) (most := most) (by omega) (by omega)) (Nat.le_of_ble_eq_true rfl) rfl rfl rfl rfl rfl (Nat.le_of_ble_eq_true rfl) (by omega) (by omega) ?_
  rintro _ H1 ⟨rfl, rfl⟩
  refine b_FI_search_46 ?_
  refine ⟨fun hc => ?_, fun hc => ?_⟩ <;> rw [nI_leI (by omega) (by omega)] at hc
  · rw [if_neg (by omega)] at hst
    rw [← hst] at h1 h2 ⊢
    refine ⟨_, ⟨_, rfl, rfl⟩, _, _, rfl, (by (try simp (disch := omega) only [nI_lit, nI_fold, nI_mul, nI_add, pk_sub, pk_div, nI_shrN, nI_clamp]); (with_reducible refine vp_in_nI ?_ ?_) <;> omega), ?_⟩
    rw [nI_clamp (by omega), nI_1]
    refine xW.fgt 8 ?_
    exact hnx (i + 1) f1 f2 _ rfl (by omega) (by omega) h1 h2
  · rw [if_pos (by omega)] at hst
    refine ⟨_, rfl, Nat.le_of_ble_eq_true rfl, fun H5 e5 => ?_⟩
    try simp (disch := omega) only [nI_lit, nI_fold, nI_mul, nI_add, pk_sub, pk_div, nI_shrN, nI_clamp] at e5
    subst e5
    refine ⟨_, rfl, Nat.le_of_ble_eq_true rfl, fun H7 e7 => ?_⟩
    try simp (disch := omega) only [nI_lit, nI_fold, nI_mul, nI_add, pk_sub, pk_div, nI_shrN, nI_clamp] at e7
    subst e7
    refine ⟨_, ⟨_, rfl, rfl⟩, _, _, rfl, (by (try simp (disch := omega) only [nI_lit, nI_fold, nI_mul, nI_add, pk_sub, pk_div, nI_shrN, nI_clamp]); (with_reducible refine vp_in_nI ?_ ?_) <;> omega), ?_⟩
    rw [nI_clamp (by omega), nI_1]
    refine xW.fgt 8 ?_
    have := hnx (i + 1) (smL T.1 m p most) (p - m) false rfl (by omega) (by omega) (by rw [hst, if_pos (by dsimp only; omega)]) (fun _ => by rw [hst])
    rw [hst] at this
    exact this
theorem c_FI_search (hT : ∀ i, T.1 i < 256) (hn : T.2 ≤ 32768) {p : Nat} {lat bef : wF} {fd : Int32} {f2 : Nat} (hp : p + 3 ≤ T.2) (hf : FIok T.1 (0, f2, p, fd, lat, bef)) : xCr l x 1 0 0 mFI_search [.ref 47, .int (nI p), .int (nI (mst T.2 p))] (hc s0 T R P (k1, k2, k3, k4, k5, (0, f2, p, fd, lat, bef), hd) u Z) (fun o H' => o = none ∧ ∃ f1 f2, fres T.1 T.2 p (f1, f2, p, fd, lat, bef) ∧ H' = hc s0 T R P (k1, k2, k3, k4, k5, (f1, f2, p, fd, lat, bef), hd) u Z) := by
  have hk := kN_lt T.1 p
  have hle := lb_le T.1 (kN T.1 p) p
  have hno := lb_no (t := T.1) (c := kN T.1 p) p
  have hD : dmx p ≤ 4096 ∧ dmx p ≤ p := by unfold dmx; split <;> omega
  refine xCt.of (by decide) rfl ck_FI_search (Nat.le_of_ble_eq_true rfl) rfl ?_
  refine b_FI_search_0 ⟨_, ⟨_, rfl, rfl⟩, _, ⟨_, rfl, rfl⟩, ?_⟩
  refine xs_callS rfl lk_2_67 (d' := 0) (c_MA_max) (Nat.le_of_ble_eq_true rfl) rfl rfl (Nat.le_of_ble_eq_true rfl) (by omega) (by omega) ?_
  rintro _ H1 ⟨rfl, rfl⟩
  rw [show (if (0 : Int32) < nI p - 4096 then nI p - 4096 else 0) = nI (p - 4096) by
    by_cases h : p < 4096
    · rw [max_low p h, show p - 4096 = 0 by omega]; rfl
    · rw [show (4096 : Int32) = nI 4096 from rfl, nI_sub (by omega)]
      by_cases h2 : p = 4096
      · rw [h2]; rfl
      · rw [if_pos]
        show nI 0 < _
        rw [nI_ltI (by omega) (by omega)]
        omega]
  refine b_FI_search_9 ⟨_, ⟨_, rfl, rfl⟩, ?_⟩
  refine xs_callV rfl lk_2_58 (d' := 0) (c_FI_keyAt hT (p := p) (by omega)) (Nat.le_of_ble_eq_true rfl) rfl rfl rfl rfl rfl (Nat.le_of_ble_eq_true rfl) (by omega) (by omega) ?_
  rintro _ H1 ⟨rfl, rfl⟩
  refine b_FI_search_17 ⟨_, _, rfl, (by (try simp (disch := omega) only [nI_lit, nI_fold, nI_mul, nI_add, pk_sub, pk_div, nI_shrN, nI_clamp]); (with_reducible refine vp_in_nI ?_ ?_) <;> omega), ?_⟩
  dsimp only
  rw [nI_clamp (by omega), show lat (kN T.1 p) = nI (lb T.1 (kN T.1 p) p) - 1 from hf.1 _ hk]
  have hs : st T.1 p (mst T.2 p) (if p - lb T.1 (kN T.1 p) p ≤ dmx p then p - lb T.1 (kN T.1 p) p else dmx p) = (2, 0) := by
    by_cases h3 : p - lb T.1 (kN T.1 p) p ≤ dmx p
    · rw [if_pos h3]
      have := st_skip (most := mst T.2 p) (p := p) (e0 := lb T.1 (kN T.1 p) p) (e1 := p) (by omega) hno (p - lb T.1 (kN T.1 p) p) (by omega)
      rw [show p - (p - (p - lb T.1 (kN T.1 p) p)) = p - lb T.1 (kN T.1 p) p by omega, Nat.sub_self] at this
      exact this
    · rw [if_neg h3]
      have := st_skip (most := mst T.2 p) (p := p) (e0 := lb T.1 (kN T.1 p) p) (e1 := p) (by omega) hno (dmx p) (by omega)
      rw [show p - (p - dmx p) = dmx p by omega, Nat.sub_self] at this
      exact this
  have := FI_search_loop (l := l) (x := x) (s0 := s0) (R := R) (P := P) (k1 := k1) (k2 := k2) (k3 := k3) (k4 := k4) (k5 := k5) (hd := hd) (u := u) (Z := Z) (lat := lat) (bef := bef) (fd := fd) hT hn (n0 := List.length (hc s0 T R P (k1, k2, k3, k4, k5, (0, f2, p, fd, lat, bef), hd) u Z)) (Q := fun r H' => ∃ o, r = Sum.inl o ∧ o = none ∧ ∃ f1 f2, fres T.1 T.2 p (f1, f2, p, fd, lat, bef) ∧ H' = hc s0 T R P (k1, k2, k3, k4, k5, (f1, f2, p, fd, lat, bef), hd) u Z) hp hf.2 (fun f1 f2 h => ⟨_, rfl, rfl, f1, f2, h, rfl⟩) (lb T.1 (kN T.1 p) p) 0 0 f2 false hle (Nat.zero_le _) (fun h3 => by
        obtain ⟨y, hy⟩ : ∃ y, lb T.1 (kN T.1 p) p = y + 1 := ⟨lb T.1 (kN T.1 p) p - 1, by omega⟩
        rw [hy, show y + 1 - 1 = y by omega]
        exact lb_key p hy)
  rw [hs] at this
  exact this rfl (fun h => absurd h (by decide))
/-- the finder between its calls -/
def FIb (t : Nat → Nat) (n : Nat) (f : wFI) (p : Nat) : Prop := FIok t f ∧ f.2.2.1 ≤ p ∧ (f.2.2.2.1 = -1 ∨ ∃ p0, f.2.2.2.1 = nI p0 ∧ p0 ≤ p ∧ f.2.2.1 ≤ p0 ∧ fres t n p0 f)
theorem c_FI_find (hT : ∀ i, T.1 i < 256) (hn : T.2 ≤ 32768) {f : wFI} {p : Nat} (hp : p ≤ T.2) (hf : FIb T.1 T.2 f p) : xCr l x 2 0 0 mFI_find [.ref 47, .int (nI p)] (hc s0 T R P (k1, k2, k3, k4, k5, f, hd) u Z) (fun o H' => o = none ∧ ∃ f', FIb T.1 T.2 f' p ∧ f'.2.2.1 ≤ p ∧ fres T.1 T.2 p f' ∧ H' = hc s0 T R P (k1, k2, k3, k4, k5, f', hd) u Z) := by
  obtain ⟨f1, f2, en, fd, lat, bef⟩ := f
  obtain ⟨hok, hen, hfd⟩ := id hf
  dsimp only at hok hen hfd
  have hlen : ∀ f', fres T.1 T.2 p f' → FIok T.1 f' → f'.2.2.1 ≤ p → f'.2.2.2.1 = nI p → FIb T.1 T.2 f' p := fun f' h1 h2 h3 h4 => ⟨h2, h3, Or.inr ⟨p, h4, Nat.le_refl _, h3, h1⟩⟩
  refine xCt.of (by decide) rfl ck_FI_find (Nat.le_of_ble_eq_true rfl) rfl ?_
  refine b_FI_find_0 ⟨_, ⟨_, rfl, rfl⟩, ?_⟩
  refine ⟨fun hne => ?_, fun heq => ?_⟩
  case refine_2 =>
    rcases hfd with hfd | ⟨p0, hfd, hp0, hen0, hres⟩
    · rw [hfd] at heq
      exact absurd heq (fun h => (nI_nem (v := p) (by omega)).mp h)
    · rw [hfd, nI_eq (by omega) (by omega)] at heq
      subst heq
      refine ⟨rfl, Nat.le_refl _, _, rfl, ⟨rfl, _, hf, hen, hres, rfl⟩⟩
  refine ⟨_, rfl, Nat.le_of_ble_eq_true rfl, fun H3 e3 => ?_⟩
  try simp (disch := omega) only [nI_lit, nI_fold, nI_mul, nI_add, pk_sub, pk_div, nI_shrN, nI_clamp] at e3
  subst e3
  refine ⟨_, rfl, Nat.le_of_ble_eq_true rfl, fun H5 e5 => ?_⟩
  try simp (disch := omega) only [nI_lit, nI_fold, nI_mul, nI_add, pk_sub, pk_div, nI_shrN, nI_clamp] at e5
  subst e5
  refine xs_callV rfl lk_2_39 (d' := 1) (c_FI_enter (f := (0, f2, en, nI p, lat, bef)) hT hn hp hok hen) (Nat.le_of_ble_eq_true rfl) rfl rfl rfl rfl rfl (Nat.le_of_ble_eq_true rfl) (by omega) (by omega) ?_
  rintro _ H1 ⟨rfl, en', lat', bef', hok', hen', hcase, rfl⟩
  refine b_FI_find_14 ⟨_, ⟨_, rfl, rfl⟩, _, ⟨_, rfl, rfl⟩, ?_⟩
  try simp (disch := omega) only [nI_lit, nI_fold, nI_mul, nI_add, pk_sub, pk_div, nI_shrN, nI_clamp]
  refine xs_callS rfl lk_2_48 (d' := 0) (c_MA_min) (Nat.le_of_ble_eq_true rfl) rfl rfl (Nat.le_of_ble_eq_true rfl) (by omega) (by omega) ?_
  rintro _ H1 ⟨rfl, rfl⟩
  rw [show (if nI 258 ≤ nI (T.2 - p) then nI 258 else nI (T.2 - p)) = nI (mst T.2 p) by
    unfold mst
    by_cases h : 258 ≤ T.2 - p
    · rw [if_pos h, if_pos (by rw [nI_leI (by omega) (by omega)]; exact h)]
    · rw [if_neg h, if_neg (by rw [nI_leI (by omega) (by omega)]; exact h)]]
  have hm : mst T.2 p ≤ 258 ∧ (mst T.2 p < 3 ↔ T.2 < p + 3) := by unfold mst; split <;> omega
  refine b_FI_find_21 ?_
  refine ⟨fun hb => ?_, fun hb => ?_⟩ <;> (try simp (disch := omega) only [nI_lit, nI_fold, nI_mul, nI_add, pk_sub, pk_div, nI_shrN, nI_clamp, nI_leI, nI_ltI, nI_eq, not_true_eq_false, not_false_eq_true, Bool.false_eq_true, if_true, if_false, nI_nem, nI_m1, nI_m7, nI_m15, nI_m32, nI_m4, nI_m8, nI_m16, nI_m2] at hb) <;> (try omega)
  · have h0 : fres T.1 T.2 p (0, f2, en', nI p, lat', bef') := by
      have h1 : (stO T.1 T.2 p).1 = 0 := by
        by_cases h2 : 0 < (stO T.1 T.2 p).1
        · have := stO_ok h2; omega
        · omega
      exact ⟨h1.symm, fun h => absurd h (by show ¬ 1 ≤ 0; decide)⟩
    refine b_FI_find_29 ?_
    refine ⟨rfl, Nat.le_refl _, _, rfl, ⟨rfl, _, hlen _ h0 hok' hen' rfl, hen', h0, rfl⟩⟩
  · have : en' = p := by omega
    subst this
    refine xs_callV rfl lk_2_54 (d' := 1) (c_FI_search hT hn (by omega) hok') (Nat.le_of_ble_eq_true rfl) rfl rfl rfl rfl rfl (Nat.le_of_ble_eq_true rfl) (by omega) (by omega) ?_
    rintro _ H1 ⟨rfl, g1, g2, hres, rfl⟩
    refine b_FI_find_29 ?_
    refine ⟨rfl, Nat.le_refl _, _, rfl, ⟨rfl, _, hlen _ hres hok' (Nat.le_refl _) rfl, Nat.le_refl _, hres, rfl⟩⟩
end Find
