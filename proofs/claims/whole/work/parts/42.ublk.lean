/-! blocks are read -/
def cpyN (t rb : Nat → Nat) (sp dp n : Nat) : Nat → Nat := fun j => if dp ≤ j ∧ j < dp + n then t (sp + (j - dp)) else rb j
theorem cpy_bF {t rb : Nat → Nat} {sp dp n : Nat} : va_cpy (bF t) (bF rb) sp dp n = bF (cpyN t rb sp dp n) := by
  funext j
  unfold va_cpy cpyN
  simp only [bF]
  split <;> rfl
def zplain (t : Nat → Nat) (e a : Nat) (rb : Nat → Nat) (rn : Nat) : (Nat × Nat) ⊕ (Nat × (Nat → Nat) × Nat) :=
  if e < (a + 7) / 8 * 8 + 32 then .inl (1, e) else if rdn t ((a + 7) / 8 * 8 + 16) 16 ≠ 65535 - rdn t ((a + 7) / 8 * 8) 16 then .inl (3, (a + 7) / 8 * 8 + 16) else if 65536 - rn < rdn t ((a + 7) / 8 * 8) 16 then .inl (10, (a + 7) / 8 * 8) else if e < (a + 7) / 8 * 8 + 32 + 8 * rdn t ((a + 7) / 8 * 8) 16 then .inl (1, e) else .inr ((a + 7) / 8 * 8 + 32 + 8 * rdn t ((a + 7) / 8 * 8) 16, cpyN t rb (((a + 7) / 8 * 8 + 32) / 8) rn (rdn t ((a + 7) / 8 * 8) 16), rn + rdn t ((a + 7) / 8 * 8) 16)
noncomputable def zcodes (t : Nat → Nat) (e a : Nat) : (Nat × Nat) ⊕ ((Nat → Nat) × Nat × Nat × Nat) :=
  if e < a + 5 then .inl (1, e) else if 286 < 257 + rdn t a 5 then .inl (4, a) else if e < a + 10 then .inl (1, e) else if 30 < 1 + rdn t (a + 5) 5 then .inl (4, a + 5) else
  match zcol t e (a + 10) with
  | .inl q => .inl q
  | .inr (g, b) => match zrl t e g (257 + rdn t a 5 + (1 + rdn t (a + 5) 5)) 316 0 (fun _ => 0) b with
    | .inl q => .inl q
    | .inr (row, b') => if krs row (257 + rdn t a 5) 15 = 32768 ∧ row 256 ≠ 0 ∧ (1 + rdn t (a + 5) 5 - cnt (fun i => row (257 + rdn t a 5 + i)) (1 + rdn t (a + 5) 5) 0 = 0 ∨ (1 + rdn t (a + 5) 5 - cnt (fun i => row (257 + rdn t a 5 + i)) (1 + rdn t (a + 5) 5) 0 = 1 ∧ cnt (fun i => row (257 + rdn t a 5 + i)) (1 + rdn t (a + 5) 5) 1 = 1) ∨ krs (fun i => row (257 + rdn t a 5 + i)) (1 + rdn t (a + 5) 5) 15 = 32768) then .inr (row, 257 + rdn t a 5, 1 + rdn t (a + 5) 5, b') else .inl (5, b')
section UBlk
variable {l : Launch} {x : xX} {d : Nat} {s0 : va_E} {T R : wRow} {P : wRep} {k : wPK} {a e mb : Nat} {c1 c2 c3 c4 c5 : wRC} {fl f9 : wF} {Z : xH}
theorem c_UN_readPlain (hT : ∀ i, T.1 i < 256) (he : e = 8 * T.2) (hn : T.2 ≤ 32768) (ha : a ≤ e) (hR : R.2 ≤ 65536) : xCr l x 2 0 0 mUN_readPlain [.ref 51] (hc s0 T R P k (a, e, mb, c1, c2, c3, c4, c5, fl, f9) Z) (fun o H' => (∃ f p, zplain T.1 e a R.1 R.2 = .inl (f, p) ∧ o = some (.int 0) ∧ UF s0 T P k e c1 c2 f9 Z f p H') ∨ ∃ a' rb' rn', zplain T.1 e a R.1 R.2 = .inr (a', rb', rn') ∧ o = some (.int 1) ∧ H' = hc s0 T (rb', rn') P k (a', e, mb, c1, c2, c3, c4, c5, fl, f9) Z) := by
  have hA : ∃ b, b = (a + 7) / 8 * 8 := ⟨_, rfl⟩
  obtain ⟨b, hb⟩ := hA
  have h16 := rdn16 T.1 b
  have h17 := rdn16 T.1 (b + 16)
  have hz : zplain T.1 e a R.1 R.2 = if e < b + 32 then .inl (1, e) else if rdn T.1 (b + 16) 16 ≠ 65535 - rdn T.1 b 16 then .inl (3, b + 16) else if 65536 - R.2 < rdn T.1 b 16 then .inl (10, b) else if e < b + 32 + 8 * rdn T.1 b 16 then .inl (1, e) else .inr (b + 32 + 8 * rdn T.1 b 16, cpyN T.1 R.1 ((b + 32) / 8) R.2 (rdn T.1 b 16), R.2 + rdn T.1 b 16) := by rw [hb]; rfl
  rw [hz]
  refine xCt.of (by decide) rfl ck_UN_readPlain (Nat.le_of_ble_eq_true rfl) rfl ?_
  refine b_UN_readPlain_0 ?_
  refine xs_callV rfl lk_9_172 (d' := 0) (c_UN_goToNextByte (gs := (c1, c2, c3, c4, c5, fl, f9)) (by omega)) (Nat.le_of_ble_eq_true rfl) rfl rfl rfl rfl rfl (Nat.le_of_ble_eq_true rfl) (by omega) (by omega) ?_
  rintro _ H1 ⟨rfl, rfl⟩
  rw [← hb]
  refine b_UN_readPlain_2 ?_
  refine xs_callV rfl lk_9_111 (d' := 1) (c_UN_readNumber (gs := (c1, c2, c3, c4, c5, fl, f9)) (n := 16) hT (by omega) (by omega) (by omega)) (Nat.le_of_ble_eq_true rfl) rfl rfl rfl rfl rfl (Nat.le_of_ble_eq_true rfl) (by omega) (by omega) ?_
  rintro _ H1 (⟨g1, rfl, rfl⟩ | ⟨g1, rfl, rfl⟩)
  case inr =>
    refine b_UN_readPlain_5 ?_
    refine ⟨fun hf => ?_, fun hf => ?_⟩ <;> (try simp (disch := omega) only [nI_lit, nI_fold, nI_mul, nI_add, pk_sub, pk_div, nI_shrN, nI_clamp, nI_leI, nI_ltI, nI_eq, not_true_eq_false, not_false_eq_true, Bool.false_eq_true, if_true, if_false, nI_nem, nI_m1, nI_m7, nI_m15, nI_m32, nI_m4, nI_m8, nI_m16, nI_m2] at hf) <;> (try omega)
    refine b_UN_readPlain_14 ?_
    refine ⟨fun hf => ?_, fun hf => ?_⟩ <;> (try simp (disch := omega) only [nI_lit, nI_fold, nI_mul, nI_add, pk_sub, pk_div, nI_shrN, nI_clamp, nI_leI, nI_ltI, nI_eq, not_true_eq_false, not_false_eq_true, Bool.false_eq_true, if_true, if_false, nI_nem, nI_m1, nI_m7, nI_m15, nI_m32, nI_m4, nI_m8, nI_m16, nI_m2] at hf) <;> (try omega)
    refine ⟨rfl, rfl, Nat.le_refl _, _, rfl, Or.inl ⟨1, e, if_pos (by omega), rfl, _, _, _, _, _, _, _, rfl⟩⟩
  refine b_UN_readPlain_5 ?_
  refine ⟨fun hf => ?_, fun hf => ?_⟩ <;> (try simp (disch := omega) only [nI_lit, nI_fold, nI_mul, nI_add, pk_sub, pk_div, nI_shrN, nI_clamp, nI_leI, nI_ltI, nI_eq, not_true_eq_false, not_false_eq_true, Bool.false_eq_true, if_true, if_false, nI_nem, nI_m1, nI_m7, nI_m15, nI_m32, nI_m4, nI_m8, nI_m16, nI_m2] at hf) <;> (try omega)
  refine xs_callV rfl lk_9_111 (d' := 1) (c_UN_readNumber (gs := (c1, c2, c3, c4, c5, fl, f9)) (n := 16) hT (by omega) (by omega) (by omega)) (Nat.le_of_ble_eq_true rfl) rfl rfl rfl rfl rfl (Nat.le_of_ble_eq_true rfl) (by omega) (by omega) ?_
  rintro _ H1 (⟨g2, rfl, rfl⟩ | ⟨g2, rfl, rfl⟩)
  case inr =>
    refine b_UN_readPlain_14 ?_
    refine ⟨fun hf => ?_, fun hf => ?_⟩ <;> (try simp (disch := omega) only [nI_lit, nI_fold, nI_mul, nI_add, pk_sub, pk_div, nI_shrN, nI_clamp, nI_leI, nI_ltI, nI_eq, not_true_eq_false, not_false_eq_true, Bool.false_eq_true, if_true, if_false, nI_nem, nI_m1, nI_m7, nI_m15, nI_m32, nI_m4, nI_m8, nI_m16, nI_m2] at hf) <;> (try omega)
    refine ⟨rfl, rfl, Nat.le_refl _, _, rfl, Or.inl ⟨1, e, if_pos (by omega), rfl, _, _, _, _, _, _, _, rfl⟩⟩
  rw [if_neg (by omega)]
  refine b_UN_readPlain_14 ?_
  refine ⟨fun hf => ?_, fun hf => ?_⟩ <;> (try simp (disch := omega) only [nI_lit, nI_fold, nI_mul, nI_add, pk_sub, pk_div, nI_shrN, nI_clamp, nI_leI, nI_ltI, nI_eq, not_true_eq_false, not_false_eq_true, Bool.false_eq_true, if_true, if_false, nI_nem, nI_m1, nI_m7, nI_m15, nI_m32, nI_m4, nI_m8, nI_m16, nI_m2] at hf) <;> (try omega)
  skip
  refine ⟨fun hf => ?_, fun hf => ?_⟩ <;> (try simp (disch := omega) only [nI_lit, nI_fold, nI_mul, nI_add, pk_sub, pk_div, nI_shrN, nI_clamp, nI_leI, nI_ltI, nI_eq, not_true_eq_false, not_false_eq_true, Bool.false_eq_true, if_true, if_false, nI_nem, nI_m1, nI_m7, nI_m15, nI_m32, nI_m4, nI_m8, nI_m16, nI_m2] at hf) <;> (try omega)
  · rw [if_neg (by omega)]
    refine ⟨_, ⟨_, rfl, rfl⟩, _, ⟨_, rfl, rfl⟩, ?_⟩
    refine ⟨fun hg => ?_, fun hg => ?_⟩ <;> (try simp (disch := omega) only [nI_lit, nI_fold, nI_mul, nI_add, pk_sub, pk_div, nI_shrN, nI_clamp, nI_leI, nI_ltI, nI_eq, not_true_eq_false, not_false_eq_true, Bool.false_eq_true, if_true, if_false, nI_nem, nI_m1, nI_m7, nI_m15, nI_m32, nI_m4, nI_m8, nI_m16, nI_m2] at hg) <;> (try omega)
    · rw [if_neg (by omega)]
      refine ⟨_, ⟨_, rfl, rfl⟩, _, ⟨_, rfl, rfl⟩, ?_⟩
      refine ⟨fun hh => ?_, fun hh => ?_⟩ <;> (try simp (disch := omega) only [nI_lit, nI_fold, nI_mul, nI_add, pk_sub, pk_div, nI_shrN, nI_clamp, nI_leI, nI_ltI, nI_eq, not_true_eq_false, not_false_eq_true, Bool.false_eq_true, if_true, if_false, nI_nem, nI_m1, nI_m7, nI_m15, nI_m32, nI_m4, nI_m8, nI_m16, nI_m2] at hh) <;> (try omega)
      · rw [if_neg (by omega)]
        refine ⟨_, ⟨_, rfl, rfl⟩, _, ⟨_, rfl, rfl⟩, _, ⟨_, rfl, rfl⟩, _, ⟨_, rfl, rfl⟩, _, ⟨_, rfl, rfl⟩, _, ⟨_, rfl, rfl⟩, _, ⟨_, rfl, rfl⟩, ?_⟩
        rw [show nI (b + 16 + 16, e, mb, c1, c2, c3, c4, c5, fl, f9).1 / 8 = nI ((b + 32) / 8) from pk_div (d := 8) (by omega) (by decide) (by decide)]
        refine xs_copy rfl la_9_177 (t := 1) (r0 := 4) (r1 := 6) (m0 := 32768) (m1 := 65536) (f := bF T.1) (g := bF R.1) (Or.inr rfl) rfl rfl (by decide) (by decide) (nI_pos (by omega)) (nI_pos (by omega)) (nI_pos (by omega)) ?_ ?_ (fun i _ => pk_fb _) (by decide) (Nat.le_of_ble_eq_true rfl) ?_
        · rw [nI_clamp (by omega), nI_clamp (by omega)]; omega
        · rw [nI_clamp (by omega), nI_clamp (by omega)]; omega
        rw [nI_clamp (by omega), nI_clamp (by omega), nI_clamp (by omega), cpy_bF]
        refine b_UN_readPlain_78 ⟨_, ⟨_, rfl, rfl⟩, _, ⟨_, rfl, rfl⟩, _, rfl, Nat.le_of_ble_eq_true rfl, fun H4 e4 => ?_⟩
        try simp (disch := omega) only [nI_lit, nI_fold, nI_mul, nI_add, pk_sub, pk_div, nI_shrN, nI_clamp] at e4
        subst e4
        refine ⟨_, ⟨_, rfl, rfl⟩, _, rfl, Nat.le_of_ble_eq_true rfl, fun H7 e7 => ?_⟩
        try simp (disch := omega) only [nI_lit, nI_fold, nI_mul, nI_add, pk_sub, pk_div, nI_shrN, nI_clamp] at e7
        subst e7
        refine ⟨rfl, rfl, Nat.le_refl _, _, rfl, Or.inr ⟨_, _, _, rfl, rfl, rfl⟩⟩
      · rw [if_pos (by omega)]
        refine ⟨_, ⟨_, rfl, rfl⟩, ?_⟩
        refine xs_callV rfl lk_9_98 (d' := 0) (c_UN_fail (gs := (c1, c2, c3, c4, c5, fl, f9))) (Nat.le_of_ble_eq_true rfl) rfl rfl rfl rfl rfl (Nat.le_of_ble_eq_true rfl) (by omega) (by omega) ?_
        rintro _ H1 ⟨rfl, rfl⟩
        refine b_UN_readPlain_62 ?_
        refine ⟨rfl, rfl, Nat.le_refl _, _, rfl, Or.inl ⟨1, e, rfl, rfl, _, _, _, _, _, _, _, rfl⟩⟩
    · rw [if_pos (by omega)]
      refine ⟨_, ⟨_, rfl, rfl⟩, ?_⟩
      try simp (disch := omega) only [nI_lit, nI_fold, nI_mul, nI_add, pk_sub, pk_div, nI_shrN, nI_clamp]
      refine xs_callV rfl lk_9_98 (d' := 0) (c_UN_fail (gs := (c1, c2, c3, c4, c5, fl, f9))) (Nat.le_of_ble_eq_true rfl) rfl rfl rfl rfl rfl (Nat.le_of_ble_eq_true rfl) (by omega) (by omega) ?_
      rintro _ H1 ⟨rfl, rfl⟩
      refine b_UN_readPlain_47 ?_
      refine ⟨rfl, rfl, Nat.le_refl _, _, rfl, Or.inl ⟨10, b, rfl, rfl, _, _, _, _, _, _, _, rfl⟩⟩
  · rw [if_pos (by omega)]
    refine ⟨_, ⟨_, rfl, rfl⟩, ?_⟩
    try simp (disch := omega) only [nI_lit, nI_fold, nI_mul, nI_add, pk_sub, pk_div, nI_shrN, nI_clamp]
    refine xs_callV rfl lk_9_98 (d' := 0) (c_UN_fail (gs := (c1, c2, c3, c4, c5, fl, f9))) (Nat.le_of_ble_eq_true rfl) rfl rfl rfl rfl rfl (Nat.le_of_ble_eq_true rfl) (by omega) (by omega) ?_
    rintro _ H1 ⟨rfl, rfl⟩
    refine b_UN_readPlain_32 ?_
    refine ⟨rfl, rfl, Nat.le_refl _, _, rfl, Or.inl ⟨3, b + 16, rfl, rfl, _, _, _, _, _, _, _, rfl⟩⟩
theorem c_UN_readCodes (hT : ∀ i, T.1 i < 256) (he : e = 8 * T.2) (hn : T.2 ≤ 32768) (ha : a ≤ e) : xCr l x 3 0 0 mUN_readCodes [.ref 51] (hc s0 T R P k (a, e, mb, c1, c2, c3, c4, c5, fl, f9) Z) (fun o H' => (∃ f p, zcodes T.1 e a = .inl (f, p) ∧ o = some (.int 0) ∧ UF s0 T P k e c1 c2 f9 Z f p H') ∨ ∃ row nL nD a' c3' c4' c5' fl', zcodes T.1 e a = .inr (row, nL, nD, a') ∧ o = some (.int 1) ∧ nL ≤ 286 ∧ nD ≤ 30 ∧ a' ≤ e ∧ rcOK c4' row nL ∧ rcOK c5' (fun i => row (nL + i)) nD ∧ H' = hc s0 T R P k (a', e, mb, c1, c2, c3', c4', c5', fl', f9) Z) := by
  have h5 := rdn_lt T.1 a 5
  have h6 := rdn_lt T.1 (a + 5) 5
  unfold zcodes
  refine xCt.of (by decide) rfl ck_UN_readCodes (Nat.le_of_ble_eq_true rfl) rfl ?_
  refine b_UN_readCodes_0 ?_
  refine xs_callV rfl lk_9_111 (d' := 1) (c_UN_readNumber (gs := (c1, c2, c3, c4, c5, fl, f9)) (n := 5) hT (by omega) (by omega) (by omega)) (Nat.le_of_ble_eq_true rfl) rfl rfl rfl rfl rfl (Nat.le_of_ble_eq_true rfl) (by omega) (by omega) ?_
  rintro _ H1 (⟨g1, rfl, rfl⟩ | ⟨g1, rfl, rfl⟩)
  case inr =>
    refine b_UN_readCodes_3 ?_
    refine ⟨fun hf => ?_, fun hf => ?_⟩ <;> (try simp (disch := omega) only [nI_lit, nI_fold, nI_mul, nI_add, pk_sub, pk_div, nI_shrN, nI_clamp, nI_leI, nI_ltI, nI_eq, not_true_eq_false, not_false_eq_true, Bool.false_eq_true, if_true, if_false, nI_nem, nI_m1, nI_m7, nI_m15, nI_m32, nI_m4, nI_m8, nI_m16, nI_m2] at hf) <;> (try omega)
    refine ⟨rfl, rfl, Nat.le_refl _, _, rfl, Or.inl ⟨1, e, if_pos (by omega), rfl, _, _, _, _, _, _, _, rfl⟩⟩
  rw [if_neg (by omega)]
  generalize rdn T.1 a 5 = m1 at *
  refine b_UN_readCodes_3 ?_
  refine ⟨fun hf => ?_, fun hf => ?_⟩ <;> (try simp (disch := omega) only [nI_lit, nI_fold, nI_mul, nI_add, pk_sub, pk_div, nI_shrN, nI_clamp, nI_leI, nI_ltI, nI_eq, not_true_eq_false, not_false_eq_true, Bool.false_eq_true, if_true, if_false, nI_nem, nI_m1, nI_m7, nI_m15, nI_m32, nI_m4, nI_m8, nI_m16, nI_m2] at hf) <;> (try omega)
  skip
  refine ⟨fun hf => ?_, fun hf => ?_⟩ <;> (try simp (disch := omega) only [nI_lit, nI_fold, nI_mul, nI_add, pk_sub, pk_div, nI_shrN, nI_clamp, nI_leI, nI_ltI, nI_eq, not_true_eq_false, not_false_eq_true, Bool.false_eq_true, if_true, if_false, nI_nem, nI_m1, nI_m7, nI_m15, nI_m32, nI_m4, nI_m8, nI_m16, nI_m2] at hf) <;> (try omega)
  case refine_2 =>
    rw [if_pos (by omega)]
    refine ⟨_, ⟨_, rfl, rfl⟩, ?_⟩
    try simp (disch := omega) only [nI_lit, nI_fold, nI_mul, nI_add, pk_sub, pk_div, nI_shrN, nI_clamp]
    refine xs_callV rfl lk_9_98 (d' := 0) (c_UN_fail (gs := (c1, c2, c3, c4, c5, fl, f9))) (Nat.le_of_ble_eq_true rfl) rfl rfl rfl rfl rfl (Nat.le_of_ble_eq_true rfl) (by omega) (by omega) ?_
    rintro _ H1 ⟨rfl, rfl⟩
    refine b_UN_readCodes_23 ?_
    refine ⟨rfl, rfl, Nat.le_refl _, _, rfl, Or.inl ⟨4, a, rfl, rfl, _, _, _, _, _, _, _, rfl⟩⟩
  rw [if_neg (by omega)]
  skip
  try simp (disch := omega) only [nI_lit, nI_fold, nI_mul, nI_add, pk_sub, pk_div, nI_shrN, nI_clamp]
  refine xs_callV rfl lk_9_111 (d' := 1) (c_UN_readNumber (gs := (c1, c2, c3, c4, c5, fl, f9)) (n := 5) hT (by omega) (by omega) (by omega)) (Nat.le_of_ble_eq_true rfl) rfl rfl rfl rfl rfl (Nat.le_of_ble_eq_true rfl) (by omega) (by omega) ?_
  rintro _ H1 (⟨g2, rfl, rfl⟩ | ⟨g2, rfl, rfl⟩)
  case inr =>
    refine b_UN_readCodes_27 ?_
    refine ⟨fun hg => ?_, fun hg => ?_⟩ <;> (try simp (disch := omega) only [nI_lit, nI_fold, nI_mul, nI_add, pk_sub, pk_div, nI_shrN, nI_clamp, nI_leI, nI_ltI, nI_eq, not_true_eq_false, not_false_eq_true, Bool.false_eq_true, if_true, if_false, nI_nem, nI_m1, nI_m7, nI_m15, nI_m32, nI_m4, nI_m8, nI_m16, nI_m2] at hg) <;> (try omega)
    refine ⟨rfl, rfl, Nat.le_refl _, _, rfl, Or.inl ⟨1, e, if_pos (by omega), rfl, _, _, _, _, _, _, _, rfl⟩⟩
  rw [if_neg (by omega)]
  generalize rdn T.1 (a + 5) 5 = m2 at *
  refine b_UN_readCodes_27 ?_
  refine ⟨fun hg => ?_, fun hg => ?_⟩ <;> (try simp (disch := omega) only [nI_lit, nI_fold, nI_mul, nI_add, pk_sub, pk_div, nI_shrN, nI_clamp, nI_leI, nI_ltI, nI_eq, not_true_eq_false, not_false_eq_true, Bool.false_eq_true, if_true, if_false, nI_nem, nI_m1, nI_m7, nI_m15, nI_m32, nI_m4, nI_m8, nI_m16, nI_m2] at hg) <;> (try omega)
  skip
  refine ⟨fun hg => ?_, fun hg => ?_⟩ <;> (try simp (disch := omega) only [nI_lit, nI_fold, nI_mul, nI_add, pk_sub, pk_div, nI_shrN, nI_clamp, nI_leI, nI_ltI, nI_eq, not_true_eq_false, not_false_eq_true, Bool.false_eq_true, if_true, if_false, nI_nem, nI_m1, nI_m7, nI_m15, nI_m32, nI_m4, nI_m8, nI_m16, nI_m2] at hg) <;> (try omega)
  case refine_2 =>
    rw [if_pos (by omega)]
    refine ⟨_, ⟨_, rfl, rfl⟩, ?_⟩
    try simp (disch := omega) only [nI_lit, nI_fold, nI_mul, nI_add, pk_sub, pk_div, nI_shrN, nI_clamp]
    refine xs_callV rfl lk_9_98 (d' := 0) (c_UN_fail (gs := (c1, c2, c3, c4, c5, fl, f9))) (Nat.le_of_ble_eq_true rfl) rfl rfl rfl rfl rfl (Nat.le_of_ble_eq_true rfl) (by omega) (by omega) ?_
    rintro _ H1 ⟨rfl, rfl⟩
    refine b_UN_readCodes_47 ?_
    refine ⟨rfl, rfl, Nat.le_refl _, _, rfl, Or.inl ⟨4, a + 5, rfl, rfl, _, _, _, _, _, _, _, rfl⟩⟩
  rw [if_neg (by omega)]
  skip
  try simp (disch := omega) only [nI_lit, nI_fold, nI_mul, nI_add, pk_sub, pk_div, nI_shrN, nI_clamp]
  refine xs_callV rfl lk_9_183 (d' := 2) (c_UN_readCodeOfLengths (c1 := c1) (c2 := c2) (c3 := c3) (c4 := c4) (c5 := c5) (fl := fl) (f9 := f9) hT (a := a + 5 + 5) (by omega) (by omega)) (Nat.le_of_ble_eq_true rfl) rfl rfl rfl rfl rfl (Nat.le_of_ble_eq_true rfl) (by omega) (by omega) ?_
  rw [show a + 5 + 5 = a + 10 by omega]
  rintro _ H1 (⟨f, p, q1, rfl, R', a', mb', c3', c4', c5', fl', rfl⟩ | ⟨g, b, c, fl', q1, rfl, q2, rfl⟩)
  · rw [q1]
    refine b_UN_readCodes_50 ?_
    refine ⟨fun hh => ?_, fun hh => ?_⟩ <;> (try simp (disch := omega) only [nI_lit, nI_fold, nI_mul, nI_add, pk_sub, pk_div, nI_shrN, nI_clamp, nI_leI, nI_ltI, nI_eq, not_true_eq_false, not_false_eq_true, Bool.false_eq_true, if_true, if_false, nI_nem, nI_m1, nI_m7, nI_m15, nI_m32, nI_m4, nI_m8, nI_m16, nI_m2] at hh) <;> (try omega)
    refine ⟨rfl, rfl, Nat.le_refl _, _, rfl, Or.inl ⟨f, p, rfl, rfl, _, _, _, _, _, _, _, rfl⟩⟩
  have hbe : b ≤ e := by
    unfold zcol at q1
    split at q1
    · cases q1
    · split at q1
      · cases q1
      · split at q1
        · cases q1; omega
        · cases q1
  rw [q1]
  dsimp only
  refine b_UN_readCodes_50 ?_
  refine ⟨fun hh => ?_, fun hh => ?_⟩ <;> (try simp (disch := omega) only [nI_lit, nI_fold, nI_mul, nI_add, pk_sub, pk_div, nI_shrN, nI_clamp, nI_leI, nI_ltI, nI_eq, not_true_eq_false, not_false_eq_true, Bool.false_eq_true, if_true, if_false, nI_nem, nI_m1, nI_m7, nI_m15, nI_m32, nI_m4, nI_m8, nI_m16, nI_m2] at hh) <;> (try omega)
  try simp (disch := omega) only [nI_lit, nI_fold, nI_mul, nI_add, pk_sub, pk_div, nI_shrN, nI_clamp]
  refine xs_callV rfl lk_9_186 (d' := 2) (c_UN_readLengths (g := g) (due := 257 + m1 + (1 + m2)) (c1 := c1) (c2 := c2) (c3 := c) (c4 := c4) (c5 := c5) (fl := fl') (f9 := f9) hT (by omega) hn (by omega) q2 hbe) (Nat.le_of_ble_eq_true rfl) rfl rfl rfl rfl rfl (Nat.le_of_ble_eq_true rfl) (by omega) (by omega) ?_
  rintro o H1 (⟨f, p, q3, rfl, R', a', mb', c3', c4', c5', fl'', rfl⟩ | ⟨row, b', fl2, q3, rfl, q4, q5, q6, rfl⟩)
  · rw [q3]
    refine b_UN_readCodes_56 ?_
    refine ⟨fun hh => ?_, fun hh => ?_⟩ <;> (try simp (disch := omega) only [nI_lit, nI_fold, nI_mul, nI_add, pk_sub, pk_div, nI_shrN, nI_clamp, nI_leI, nI_ltI, nI_eq, not_true_eq_false, not_false_eq_true, Bool.false_eq_true, if_true, if_false, nI_nem, nI_m1, nI_m7, nI_m15, nI_m32, nI_m4, nI_m8, nI_m16, nI_m2] at hh) <;> (try omega)
    refine ⟨rfl, rfl, Nat.le_refl _, _, rfl, Or.inl ⟨f, p, rfl, rfl, _, _, _, _, _, _, _, rfl⟩⟩
  rw [q3]
  dsimp only
  refine b_UN_readCodes_56 ?_
  refine ⟨fun hh => ?_, fun hh => ?_⟩ <;> (try simp (disch := omega) only [nI_lit, nI_fold, nI_mul, nI_add, pk_sub, pk_div, nI_shrN, nI_clamp, nI_leI, nI_ltI, nI_eq, not_true_eq_false, not_false_eq_true, Bool.false_eq_true, if_true, if_false, nI_nem, nI_m1, nI_m7, nI_m15, nI_m32, nI_m4, nI_m8, nI_m16, nI_m2] at hh) <;> (try omega)
  refine ⟨_, ⟨_, rfl, rfl⟩, _, ⟨_, rfl, rfl⟩, ?_⟩
  refine xs_callV rfl lk_9_53 (d' := 1) (c_RC_make64 (fm := 0) (n := 257 + m1) (g := row) (by omega) (by omega) (fun i hi => by rw [Nat.zero_add]; exact q4 i (by omega)) (fun i hi => q5 i (by omega))) (Nat.le_of_ble_eq_true rfl) rfl rfl rfl rfl rfl (Nat.le_of_ble_eq_true rfl) (by omega) (by omega) ?_
  rintro _ H1 ⟨rfl, c4', hc4, rfl⟩
  refine b_UN_readCodes_66 ⟨_, ⟨_, rfl, rfl⟩, _, ⟨_, rfl, rfl⟩, ?_⟩
  refine xs_callV rfl lk_9_53 (d' := 1) (c_RC_make68 (fm := 257 + m1) (n := 1 + m2) (g := fun i => row (257 + m1 + i)) (by omega) (by omega) (fun i hi => q4 _ (by omega)) (fun i hi => q5 _ (by omega))) (Nat.le_of_ble_eq_true rfl) rfl rfl rfl rfl rfl (Nat.le_of_ble_eq_true rfl) (by omega) (by omega) ?_
  rintro _ H1 ⟨rfl, c5', hc5, rfl⟩
  refine b_UN_readCodes_73 ⟨_, ⟨_, rfl, rfl⟩, ?_⟩
  refine xs_callV rfl lk_9_189 (d' := 0) (c_RC_isFull (n := 257 + m1) (by omega) rfl rfl hc4.2.1) (Nat.le_of_ble_eq_true rfl) rfl rfl rfl rfl rfl (Nat.le_of_ble_eq_true rfl) (by omega) (by omega) ?_
  rintro _ H1 ⟨v, hv, rfl, rfl⟩
  rcases hv with ⟨rfl, hv⟩ | ⟨rfl, hv⟩
  case inr =>
    refine b_UN_readCodes_76 ?_
    refine ⟨fun hj => ?_, fun hj => ?_⟩ <;> (try simp (disch := omega) only [nI_lit, nI_fold, nI_mul, nI_add, pk_sub, pk_div, nI_shrN, nI_clamp, nI_leI, nI_ltI, nI_eq, not_true_eq_false, not_false_eq_true, Bool.false_eq_true, if_true, if_false, nI_nem, nI_m1, nI_m7, nI_m15, nI_m32, nI_m4, nI_m8, nI_m16, nI_m2] at hj) <;> (try omega)
    refine ⟨_, ⟨_, rfl, rfl⟩, ?_⟩
    refine xs_callV rfl lk_9_98 (d' := 0) (c_UN_fail (gs := (c1, c2, c, c4', c5', fl2, f9))) (Nat.le_of_ble_eq_true rfl) rfl rfl rfl rfl rfl (Nat.le_of_ble_eq_true rfl) (by omega) (by omega) ?_
    rintro _ H1 ⟨rfl, rfl⟩
    refine b_UN_readCodes_91 ?_
    refine ⟨rfl, rfl, Nat.le_refl _, _, rfl, Or.inl ⟨5, b', if_neg (fun h => hv h.1), rfl, _, _, _, _, _, _, _, rfl⟩⟩
  have e256 : fl2 (256 : Int32).toNatClampNeg = nI (row 256) := q4 256 (by omega)
  have h15 := q5 256 (by omega)
  refine b_UN_readCodes_76 ?_
  refine ⟨fun hj => ?_, fun hj => ?_⟩ <;> (try simp (disch := omega) only [nI_lit, nI_fold, nI_mul, nI_add, pk_sub, pk_div, nI_shrN, nI_clamp, nI_leI, nI_ltI, nI_eq, not_true_eq_false, not_false_eq_true, Bool.false_eq_true, if_true, if_false, nI_nem, nI_m1, nI_m7, nI_m15, nI_m32, nI_m4, nI_m8, nI_m16, nI_m2] at hj) <;> (try omega)
  refine ⟨_, ⟨_, rfl, rfl⟩, _, _, rfl, vp_in_nI (n := 256) (by decide) (by decide), ?_⟩
  rw [show (b', e, mb, c1, c2, c, c4', c5', fl2, f9).2.2.2.2.2.2.2.2.1 (256 : Int32).toNatClampNeg = nI (row 256) from e256]
  refine ⟨fun hj => ?_, fun hj => ?_⟩ <;> (try simp (disch := omega) only [nI_lit, nI_fold, nI_mul, nI_add, pk_sub, pk_div, nI_shrN, nI_clamp, nI_leI, nI_ltI, nI_eq, not_true_eq_false, not_false_eq_true, Bool.false_eq_true, if_true, if_false, nI_nem, nI_m1, nI_m7, nI_m15, nI_m32, nI_m4, nI_m8, nI_m16, nI_m2] at hj) <;> (try omega)
  · refine ⟨_, ⟨_, rfl, rfl⟩, ?_⟩
    refine xs_callV rfl lk_9_98 (d' := 0) (c_UN_fail (gs := (c1, c2, c, c4', c5', fl2, f9))) (Nat.le_of_ble_eq_true rfl) rfl rfl rfl rfl rfl (Nat.le_of_ble_eq_true rfl) (by omega) (by omega) ?_
    rintro _ H1 ⟨rfl, rfl⟩
    refine b_UN_readCodes_91 ?_
    refine ⟨rfl, rfl, Nat.le_refl _, _, rfl, Or.inl ⟨5, b', if_neg (fun h => h.2.1 hj), rfl, _, _, _, _, _, _, _, rfl⟩⟩
  refine ⟨_, ⟨_, rfl, rfl⟩, ?_⟩
  refine xs_callV rfl lk_9_192 (d' := 1) (c_RC_servesDistances (n := 1 + m2) (by omega) hc5.1 rfl rfl hc5.2.1) (Nat.le_of_ble_eq_true rfl) rfl rfl rfl rfl rfl (Nat.le_of_ble_eq_true rfl) (by omega) (by omega) ?_
  rintro _ H1 ⟨v, hw, rfl, rfl⟩
  rcases hw with ⟨rfl, hw⟩ | ⟨rfl, hw⟩
  · refine b_UN_readCodes_85 ?_
    refine ⟨fun hl => ?_, fun hl => ?_⟩ <;> (try simp (disch := omega) only [nI_lit, nI_fold, nI_mul, nI_add, pk_sub, pk_div, nI_shrN, nI_clamp, nI_leI, nI_ltI, nI_eq, not_true_eq_false, not_false_eq_true, Bool.false_eq_true, if_true, if_false, nI_nem, nI_m1, nI_m7, nI_m15, nI_m32, nI_m4, nI_m8, nI_m16, nI_m2] at hl) <;> (try omega)
    refine ⟨rfl, rfl, Nat.le_refl _, _, rfl, Or.inr ⟨row, 257 + m1, 1 + m2, b', _, c4', c5', _, if_pos ⟨hv, hj, hw⟩, rfl, by omega, by omega, q6, hc4, hc5, rfl⟩⟩
  · refine b_UN_readCodes_85 ?_
    refine ⟨fun hl => ?_, fun hl => ?_⟩ <;> (try simp (disch := omega) only [nI_lit, nI_fold, nI_mul, nI_add, pk_sub, pk_div, nI_shrN, nI_clamp, nI_leI, nI_ltI, nI_eq, not_true_eq_false, not_false_eq_true, Bool.false_eq_true, if_true, if_false, nI_nem, nI_m1, nI_m7, nI_m15, nI_m32, nI_m4, nI_m8, nI_m16, nI_m2] at hl) <;> (try omega)
    refine ⟨_, ⟨_, rfl, rfl⟩, ?_⟩
    refine xs_callV rfl lk_9_98 (d' := 0) (c_UN_fail (gs := (c1, c2, c, c4', c5', fl2, f9))) (Nat.le_of_ble_eq_true rfl) rfl rfl rfl rfl rfl (Nat.le_of_ble_eq_true rfl) (by omega) (by omega) ?_
    rintro _ H1 ⟨rfl, rfl⟩
    refine b_UN_readCodes_91 ?_
    refine ⟨rfl, rfl, Nat.le_refl _, _, rfl, Or.inl ⟨5, b', if_neg (fun h => hw h.2.2), rfl, _, _, _, _, _, _, _, rfl⟩⟩
end UBlk
