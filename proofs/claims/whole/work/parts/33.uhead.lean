/-! reading heads: what it comes to -/
abbrev zR : Type := (Nat × Nat) ⊕ Nat
def zb (z : zR) (f : Nat → zR) : zR := match z with
  | .inl q => .inl q
  | .inr a => f a
theorem zb_l {q : Nat × Nat} {f : Nat → zR} : zb (.inl q) f = .inl q := rfl
theorem zb_r {a : Nat} {f : Nat → zR} : zb (.inr a) f = f a := rfl
theorem rdn8 (t : Nat → Nat) (a : Nat) : rdn t a 8 < 256 := rdn_lt t a 8
theorem rdn16 (t : Nat → Nat) (a : Nat) : rdn t a 16 < 65536 := rdn_lt t a 16
def zbyte (t : Nat → Nat) (e due a : Nat) : zR := if e < a + 8 then .inl (1, e) else if rdn t a 8 = due then .inr (a + 8) else .inl (12, a)
def zskip (e n a : Nat) : zR := if e < a + 8 * n then .inl (1, e) else .inr (a + 8 * n)
def zzr (t : Nat → Nat) (e : Nat) : Nat → Nat → zR
  | 0, _ => .inl (1, e)
  | m + 1, i => if t i = 0 then .inr (8 * (i + 1)) else zzr t e m (i + 1)
def zshort (t : Nat → Nat) (e a : Nat) : zR := if e < a + 8 then .inl (1, e) else if rdn t a 8 % 16 ≠ 8 ∨ 7 < rdn t a 8 / 16 then .inl (12, a) else if e < a + 16 then .inl (1, e) else if rdn t (a + 8) 8 / 32 % 2 = 1 ∨ (256 * rdn t a 8 + rdn t (a + 8) 8) % 31 ≠ 0 then .inl (12, a + 8) else .inr (a + 16)
/-- how a reading of heads ends -/
def UA (s0 : va_E) (T R : wRow) (P : wRep) (k : wPK) (e mb : Nat) (gs : wRC × wRC × wRC × wRC × wRC × wF × wF) (Z : xH) (z : zR) (o : Option Value) (H' : xH) : Prop := match z with
  | .inl (f, p) => o = some (.int 0) ∧ ∃ a', H' = hc s0 T R (nI f, nI p, P.2.2) k (a', e, mb, gs) Z
  | .inr a' => o = some (.int 1) ∧ H' = hc s0 T R P k (a', e, mb, gs) Z
section UHead
variable {l : Launch} {x : xX} {d : Nat} {s0 : va_E} {T R : wRow} {P : wRep} {k : wPK} {a e mb : Nat} {gs : wRC × wRC × wRC × wRC × wRC × wF × wF} {Z : xH}
theorem UA.fl {z : zR} {f p a' : Nat} (h : z = .inl (f, p)) : UA s0 T R P k e mb gs Z z (some (.int 0)) (hc s0 T R (nI f, nI p, P.2.2) k (a', e, mb, gs) Z) := by subst h; exact ⟨rfl, _, rfl⟩
theorem UA.ok {z : zR} {a' : Nat} (h : z = .inr a') : UA s0 T R P k e mb gs Z z (some (.int 1)) (hc s0 T R P k (a', e, mb, gs) Z) := by subst h; exact ⟨rfl, rfl⟩
theorem c_UN_readByteThatIs {v : Nat} (hv : v < 256) (hT : ∀ i, T.1 i < 256) (ha : a ≤ e) (he : e ≤ 262144) : xCr l x 2 0 0 mUN_readByteThatIs [.ref 51, .int (nI v)] (hc s0 T R P k (a, e, mb, gs) Z) (fun o H' => UA s0 T R P k e mb gs Z (zbyte T.1 e v a) o H') := by
  have h8 := rdn8 T.1 a
  refine xCt.of (by decide) rfl ck_UN_readByteThatIs (Nat.le_of_ble_eq_true rfl) rfl ?_
  refine b_UN_readByteThatIs_0 ?_
  refine xs_callV rfl lk_9_111 (d' := 1) (c_UN_readNumber (n := 8) hT (by omega) ha he) (Nat.le_of_ble_eq_true rfl) rfl rfl rfl rfl rfl (Nat.le_of_ble_eq_true rfl) (by omega) (by omega) ?_
  rintro _ H1 (⟨h1, rfl, rfl⟩ | ⟨h1, rfl, rfl⟩)
  · refine b_UN_readByteThatIs_3 ?_
    refine ⟨fun hb => ?_, fun hb => ?_⟩ <;> (try simp (disch := omega) only [nI_lit, nI_fold, nI_mul, nI_add, pk_sub, pk_div, nI_shrN, nI_clamp, nI_leI, nI_ltI, nI_eq, not_true_eq_false, not_false_eq_true, Bool.false_eq_true, if_true, if_false, nI_nem, nI_m1, nI_m7, nI_m15, nI_m32, nI_m4, nI_m8, nI_m16, nI_m2] at hb) <;> (try omega)
    skip
    refine ⟨fun hb => ?_, fun hb => ?_⟩ <;> (try simp (disch := omega) only [nI_lit, nI_fold, nI_mul, nI_add, pk_sub, pk_div, nI_shrN, nI_clamp, nI_leI, nI_ltI, nI_eq, not_true_eq_false, not_false_eq_true, Bool.false_eq_true, if_true, if_false, nI_nem, nI_m1, nI_m7, nI_m15, nI_m32, nI_m4, nI_m8, nI_m16, nI_m2] at hb) <;> (try omega)
    · refine ⟨rfl, rfl, Nat.le_refl _, _, rfl, UA.ok (by unfold zbyte; rw [if_neg (by omega), if_pos (by assumption)])⟩
    refine ⟨_, ⟨_, rfl, rfl⟩, ?_⟩
    try simp (disch := omega) only [nI_lit, nI_fold, nI_mul, nI_add, pk_sub, pk_div, nI_shrN, nI_clamp]
    refine xs_callV rfl lk_9_98 (d' := 0) (c_UN_fail) (Nat.le_of_ble_eq_true rfl) rfl rfl rfl rfl rfl (Nat.le_of_ble_eq_true rfl) (by omega) (by omega) ?_
    rintro _ H1 ⟨rfl, rfl⟩
    refine b_UN_readByteThatIs_19 ?_
    refine ⟨fun hb => ?_, fun hb => ?_⟩ <;> (try simp (disch := omega) only [nI_lit, nI_fold, nI_mul, nI_add, pk_sub, pk_div, nI_shrN, nI_clamp, nI_leI, nI_ltI, nI_eq, not_true_eq_false, not_false_eq_true, Bool.false_eq_true, if_true, if_false, nI_nem, nI_m1, nI_m7, nI_m15, nI_m32, nI_m4, nI_m8, nI_m16, nI_m2] at hb) <;> (try omega)
    refine ⟨rfl, rfl, Nat.le_refl _, _, rfl, UA.fl (by unfold zbyte; rw [if_neg (by omega), if_neg (by assumption)]; rfl)⟩
  · refine b_UN_readByteThatIs_3 ?_
    refine ⟨fun hb => ?_, fun hb => ?_⟩ <;> (try simp (disch := omega) only [nI_lit, nI_fold, nI_mul, nI_add, pk_sub, pk_div, nI_shrN, nI_clamp, nI_leI, nI_ltI, nI_eq, not_true_eq_false, not_false_eq_true, Bool.false_eq_true, if_true, if_false, nI_nem, nI_m1, nI_m7, nI_m15, nI_m32, nI_m4, nI_m8, nI_m16, nI_m2] at hb) <;> (try omega)
    refine ⟨rfl, rfl, Nat.le_refl _, _, rfl, UA.fl (by unfold zbyte; rw [if_pos (by omega)])⟩
theorem c_UN_skipBytes {n : Nat} (hn : n < 65536) (ha : a ≤ e) (he : e ≤ 262144) : xCr l x 1 0 0 mUN_skipBytes [.ref 51, .int (nI n)] (hc s0 T R P k (a, e, mb, gs) Z) (fun o H' => UA s0 T R P k e mb gs Z (zskip e n a) o H') := by
  refine xCt.of (by decide) rfl ck_UN_skipBytes (Nat.le_of_ble_eq_true rfl) rfl ?_
  refine b_UN_skipBytes_0 ⟨_, ⟨_, rfl, rfl⟩, _, ⟨_, rfl, rfl⟩, ?_⟩
  refine ⟨fun hb => ?_, fun hb => ?_⟩ <;> (try simp (disch := omega) only [nI_lit, nI_fold, nI_mul, nI_add, pk_sub, pk_div, nI_shrN, nI_clamp, nI_leI, nI_ltI, nI_eq, not_true_eq_false, not_false_eq_true, Bool.false_eq_true, if_true, if_false, nI_nem, nI_m1, nI_m7, nI_m15, nI_m32, nI_m4, nI_m8, nI_m16, nI_m2] at hb) <;> (try omega)
  · refine ⟨_, ⟨_, rfl, rfl⟩, _, rfl, Nat.le_of_ble_eq_true rfl, fun H5 e5 => ?_⟩
    try simp (disch := omega) only [nI_lit, nI_fold, nI_mul, nI_add, pk_sub, pk_div, nI_shrN, nI_clamp] at e5
    subst e5
    refine ⟨rfl, rfl, Nat.le_refl _, _, rfl, UA.ok (by unfold zskip; rw [if_neg (by omega)])⟩
  refine ⟨_, ⟨_, rfl, rfl⟩, ?_⟩
  refine xs_callV rfl lk_9_98 (d' := 0) (c_UN_fail) (Nat.le_of_ble_eq_true rfl) rfl rfl rfl rfl rfl (Nat.le_of_ble_eq_true rfl) (by omega) (by omega) ?_
  rintro _ H1 ⟨rfl, rfl⟩
  refine b_UN_skipBytes_14 ?_
  refine ⟨rfl, rfl, Nat.le_refl _, _, rfl, UA.fl (by unfold zskip; rw [if_pos (by omega)])⟩
theorem c_UN_goToNextByte (ha : a ≤ 262144) : xCr l x d 0 0 mUN_goToNextByte [.ref 51] (hc s0 T R P k (a, e, mb, gs) Z) (fun o H' => o = none ∧ H' = hc s0 T R P k ((a + 7) / 8 * 8, e, mb, gs) Z) := by
  refine xCt.of (by decide) rfl ck_UN_goToNextByte (Nat.le_of_ble_eq_true rfl) rfl ?_
  refine b_UN_goToNextByte_0 ⟨_, ⟨_, rfl, rfl⟩, _, rfl, Nat.le_of_ble_eq_true rfl, fun H3 e3 => ?_⟩
  try simp (disch := omega) only [nI_lit, nI_fold, nI_mul, nI_add, pk_sub, pk_div, nI_shrN, nI_clamp] at e3
  subst e3
  refine ⟨rfl, Nat.le_refl _, _, rfl, ⟨rfl, rfl⟩⟩
theorem UN_zero_loop {n0 : Nat} {Q : xO → xH → Prop} (hT : ∀ i, T.1 i < 256) (hn : T.2 ≤ 32768) (z : zR) (hq : ∀ o H', UA s0 T R P k e mb gs Z z o H' → Q (.inl o) H') : ∀ (j i : Nat) (cl : Bool), i + j = T.2 → zzr T.1 e j i = z → xW l x 1 0 0 mUN_skipThroughZero n0 Q cl 5 [some (.ref 51), some (.int (nI i))] [] (hc s0 T R P k (a, e, mb, gs) Z) 0 0 := by
  intro j
  induction j with
  | zero =>
    intro i cl hi hz
    refine b_UN_skipThroughZero_5 ⟨_, ⟨_, rfl, rfl⟩, _, ⟨_, rfl, rfl⟩, ?_⟩
    refine ⟨fun hb => ?_, fun hb => ?_⟩ <;> (try simp (disch := omega) only [nI_lit, nI_fold, nI_mul, nI_add, pk_sub, pk_div, nI_shrN, nI_clamp, nI_leI, nI_ltI, nI_eq, not_true_eq_false, not_false_eq_true, Bool.false_eq_true, if_true, if_false, nI_nem, nI_m1, nI_m7, nI_m15, nI_m32, nI_m4, nI_m8, nI_m16, nI_m2] at hb) <;> (try omega)
    · refine ⟨_, ⟨_, rfl, rfl⟩, ?_⟩
      refine xs_callV rfl lk_9_98 (d' := 0) (c_UN_fail) (Nat.le_of_ble_eq_true rfl) rfl rfl rfl rfl rfl (Nat.le_of_ble_eq_true rfl) (by omega) (by omega) ?_
      rintro _ H1 ⟨rfl, rfl⟩
      refine b_UN_skipThroughZero_31 ?_
      exact ⟨rfl, rfl, Nat.le_refl _, hq _ _ (UA.fl hz.symm)⟩
  | succ j ih =>
    intro i cl hi hz
    refine b_UN_skipThroughZero_5 ⟨_, ⟨_, rfl, rfl⟩, _, ⟨_, rfl, rfl⟩, ?_⟩
    refine ⟨fun hb => ?_, fun hb => ?_⟩ <;> (try simp (disch := omega) only [nI_lit, nI_fold, nI_mul, nI_add, pk_sub, pk_div, nI_shrN, nI_clamp, nI_leI, nI_ltI, nI_eq, not_true_eq_false, not_false_eq_true, Bool.false_eq_true, if_true, if_false, nI_nem, nI_m1, nI_m7, nI_m15, nI_m32, nI_m4, nI_m8, nI_m16, nI_m2] at hb) <;> (try omega)
    refine ⟨_, ⟨_, rfl, rfl⟩, ?_⟩
    refine xs_callV rfl lk_9_141 (d' := 0) (c_RO_byteAt (a := 4) (N := 32768) (t := T.1) (n := i) rfl rfl hT (by omega) (by decide)) (Nat.le_of_ble_eq_true rfl) rfl rfl rfl rfl rfl (Nat.le_of_ble_eq_true rfl) (by omega) (by omega) ?_
    rintro _ H1 ⟨rfl, rfl⟩
    have h8 := hT i
    refine b_UN_skipThroughZero_14 ?_
    refine ⟨fun hb => ?_, fun hb => ?_⟩ <;> (try simp (disch := omega) only [nI_lit, nI_fold, nI_mul, nI_add, pk_sub, pk_div, nI_shrN, nI_clamp, nI_leI, nI_ltI, nI_eq, not_true_eq_false, not_false_eq_true, Bool.false_eq_true, if_true, if_false, nI_nem, nI_m1, nI_m7, nI_m15, nI_m32, nI_m4, nI_m8, nI_m16, nI_m2] at hb) <;> (try omega)
    · skip
      rw [nI_1]
      exact ih (i + 1) false (by omega) (by rw [← hz, zzr, if_neg (by assumption)])
    · refine ⟨_, rfl, Nat.le_of_ble_eq_true rfl, fun H2 e2 => ?_⟩
      try simp (disch := omega) only [nI_lit, nI_fold, nI_mul, nI_add, pk_sub, pk_div, nI_shrN, nI_clamp] at e2
      subst e2
      exact ⟨rfl, rfl, Nat.le_refl _, hq _ _ (UA.ok (by rw [← hz, zzr, if_pos (by assumption)]))⟩
theorem c_UN_skipThroughZero (hT : ∀ i, T.1 i < 256) (hn : T.2 ≤ 32768) (ha : a ≤ 8 * T.2) : xCr l x 1 0 0 mUN_skipThroughZero [.ref 51] (hc s0 T R P k (a, e, mb, gs) Z) (fun o H' => UA s0 T R P k e mb gs Z (zzr T.1 e (T.2 - a / 8) (a / 8)) o H') := by
  refine xCt.of (by decide) rfl ck_UN_skipThroughZero (Nat.le_of_ble_eq_true rfl) rfl ?_
  refine b_UN_skipThroughZero_0 ⟨_, ⟨_, rfl, rfl⟩, ?_⟩
  try simp (disch := omega) only [nI_lit, nI_fold, nI_mul, nI_add, pk_sub, pk_div, nI_shrN, nI_clamp]
  exact UN_zero_loop hT hn _ (fun o H' h => ⟨_, rfl, h⟩) _ _ true (by omega) rfl
theorem c_UN_readShortHead (hT : ∀ i, T.1 i < 256) (ha : a ≤ e) (he : e ≤ 262144) : xCr l x 2 0 0 mUN_readShortHead [.ref 51] (hc s0 T R P k (a, e, mb, gs) Z) (fun o H' => UA s0 T R P k e mb gs Z (zshort T.1 e a) o H') := by
  have h8 := rdn8 T.1 a
  have h9 := rdn8 T.1 (a + 8)
  refine xCt.of (by decide) rfl ck_UN_readShortHead (Nat.le_of_ble_eq_true rfl) rfl ?_
  refine b_UN_readShortHead_0 ?_
  refine xs_callV rfl lk_9_111 (d' := 1) (c_UN_readNumber (n := 8) hT (by omega) ha he) (Nat.le_of_ble_eq_true rfl) rfl rfl rfl rfl rfl (Nat.le_of_ble_eq_true rfl) (by omega) (by omega) ?_
  rintro _ H1 (⟨h1, rfl, rfl⟩ | ⟨h1, rfl, rfl⟩)
  · refine b_UN_readShortHead_3 ?_
    refine ⟨fun hb => ?_, fun hb => ?_⟩ <;> (try simp (disch := omega) only [nI_lit, nI_fold, nI_mul, nI_add, pk_sub, pk_div, nI_shrN, nI_clamp, nI_leI, nI_ltI, nI_eq, not_true_eq_false, not_false_eq_true, Bool.false_eq_true, if_true, if_false, nI_nem, nI_m1, nI_m7, nI_m15, nI_m32, nI_m4, nI_m8, nI_m16, nI_m2] at hb) <;> (try omega)
    skip
    refine ⟨fun hb => ?_, fun hb => ?_⟩ <;> (try simp (disch := omega) only [nI_lit, nI_fold, nI_mul, nI_add, pk_sub, pk_div, nI_shrN, nI_clamp, nI_leI, nI_ltI, nI_eq, not_true_eq_false, not_false_eq_true, Bool.false_eq_true, if_true, if_false, nI_nem, nI_m1, nI_m7, nI_m15, nI_m32, nI_m4, nI_m8, nI_m16, nI_m2] at hb) <;> (try omega)
    · refine ⟨_, ⟨_, rfl, rfl⟩, ?_⟩
      try simp (disch := omega) only [nI_lit, nI_fold, nI_mul, nI_add, pk_sub, pk_div, nI_shrN, nI_clamp]
      refine xs_callV rfl lk_9_98 (d' := 0) (c_UN_fail) (Nat.le_of_ble_eq_true rfl) rfl rfl rfl rfl rfl (Nat.le_of_ble_eq_true rfl) (by omega) (by omega) ?_
      rintro _ H1 ⟨rfl, rfl⟩
      refine b_UN_readShortHead_26 ?_
      refine ⟨rfl, rfl, Nat.le_refl _, _, rfl, UA.fl (by unfold zshort; rw [if_neg (by omega), if_pos (by omega)]; rfl)⟩
    skip
    refine ⟨fun hc => ?_, fun hc => ?_⟩ <;> (try simp (disch := omega) only [nI_lit, nI_fold, nI_mul, nI_add, pk_sub, pk_div, nI_shrN, nI_clamp, nI_leI, nI_ltI, nI_eq, not_true_eq_false, not_false_eq_true, Bool.false_eq_true, if_true, if_false, nI_nem, nI_m1, nI_m7, nI_m15, nI_m32, nI_m4, nI_m8, nI_m16, nI_m2] at hc) <;> (try omega)
    · skip
      refine xs_callV rfl lk_9_111 (d' := 1) (c_UN_readNumber (n := 8) hT (by omega) (by omega) he) (Nat.le_of_ble_eq_true rfl) rfl rfl rfl rfl rfl (Nat.le_of_ble_eq_true rfl) (by omega) (by omega) ?_
      rintro _ H1 (⟨h2, rfl, rfl⟩ | ⟨h2, rfl, rfl⟩)
      · refine b_UN_readShortHead_30 ?_
        refine ⟨fun hd => ?_, fun hd => ?_⟩ <;> (try simp (disch := omega) only [nI_lit, nI_fold, nI_mul, nI_add, pk_sub, pk_div, nI_shrN, nI_clamp, nI_leI, nI_ltI, nI_eq, not_true_eq_false, not_false_eq_true, Bool.false_eq_true, if_true, if_false, nI_nem, nI_m1, nI_m7, nI_m15, nI_m32, nI_m4, nI_m8, nI_m16, nI_m2] at hd) <;> (try omega)
        skip
        refine ⟨fun hd => ?_, fun hd => ?_⟩ <;> (try simp (disch := omega) only [nI_lit, nI_fold, nI_mul, nI_add, pk_sub, pk_div, nI_shrN, nI_clamp, nI_leI, nI_ltI, nI_eq, not_true_eq_false, not_false_eq_true, Bool.false_eq_true, if_true, if_false, nI_nem, nI_m1, nI_m7, nI_m15, nI_m32, nI_m4, nI_m8, nI_m16, nI_m2] at hd) <;> (try omega)
        · refine ⟨_, ⟨_, rfl, rfl⟩, ?_⟩
          try simp (disch := omega) only [nI_lit, nI_fold, nI_mul, nI_add, pk_sub, pk_div, nI_shrN, nI_clamp]
          refine xs_callV rfl lk_9_98 (d' := 0) (c_UN_fail) (Nat.le_of_ble_eq_true rfl) rfl rfl rfl rfl rfl (Nat.le_of_ble_eq_true rfl) (by omega) (by omega) ?_
          rintro _ H1 ⟨rfl, rfl⟩
          refine b_UN_readShortHead_55 ?_
          refine ⟨rfl, rfl, Nat.le_refl _, _, rfl, UA.fl (by unfold zshort; rw [if_neg (by omega), if_neg (by omega), if_neg (by omega), if_pos (by omega)]; rfl)⟩
        skip
        refine ⟨fun hf => ?_, fun hf => ?_⟩ <;> simp (disch := omega) only [nI_lit, nI_mul, nI_add, pk_rem, nI_eq] at hf
        · refine ⟨rfl, rfl, Nat.le_refl _, _, rfl, UA.ok (by unfold zshort; rw [if_neg (by omega), if_neg (by omega), if_neg (by omega), if_neg (by omega)])⟩
        · refine ⟨_, ⟨_, rfl, rfl⟩, ?_⟩
          try simp (disch := omega) only [nI_lit, nI_fold, nI_mul, nI_add, pk_sub, pk_div, nI_shrN, nI_clamp]
          refine xs_callV rfl lk_9_98 (d' := 0) (c_UN_fail) (Nat.le_of_ble_eq_true rfl) rfl rfl rfl rfl rfl (Nat.le_of_ble_eq_true rfl) (by omega) (by omega) ?_
          rintro _ H1 ⟨rfl, rfl⟩
          refine b_UN_readShortHead_55 ?_
          refine ⟨rfl, rfl, Nat.le_refl _, _, rfl, UA.fl (by unfold zshort; rw [if_neg (by omega), if_neg (by omega), if_neg (by omega), if_pos (by omega)]; rfl)⟩
      · refine b_UN_readShortHead_30 ?_
        refine ⟨fun hb => ?_, fun hb => ?_⟩ <;> (try simp (disch := omega) only [nI_lit, nI_fold, nI_mul, nI_add, pk_sub, pk_div, nI_shrN, nI_clamp, nI_leI, nI_ltI, nI_eq, not_true_eq_false, not_false_eq_true, Bool.false_eq_true, if_true, if_false, nI_nem, nI_m1, nI_m7, nI_m15, nI_m32, nI_m4, nI_m8, nI_m16, nI_m2] at hb) <;> (try omega)
        refine ⟨rfl, rfl, Nat.le_refl _, _, rfl, UA.fl (by unfold zshort; rw [if_neg (by omega), if_neg (by omega), if_pos (by omega)])⟩
    · refine ⟨_, ⟨_, rfl, rfl⟩, ?_⟩
      try simp (disch := omega) only [nI_lit, nI_fold, nI_mul, nI_add, pk_sub, pk_div, nI_shrN, nI_clamp]
      refine xs_callV rfl lk_9_98 (d' := 0) (c_UN_fail) (Nat.le_of_ble_eq_true rfl) rfl rfl rfl rfl rfl (Nat.le_of_ble_eq_true rfl) (by omega) (by omega) ?_
      rintro _ H1 ⟨rfl, rfl⟩
      refine b_UN_readShortHead_26 ?_
      refine ⟨rfl, rfl, Nat.le_refl _, _, rfl, UA.fl (by unfold zshort; rw [if_neg (by omega), if_pos (by omega)]; rfl)⟩
  · refine b_UN_readShortHead_3 ?_
    refine ⟨fun hb => ?_, fun hb => ?_⟩ <;> (try simp (disch := omega) only [nI_lit, nI_fold, nI_mul, nI_add, pk_sub, pk_div, nI_shrN, nI_clamp, nI_leI, nI_ltI, nI_eq, not_true_eq_false, not_false_eq_true, Bool.false_eq_true, if_true, if_false, nI_nem, nI_m1, nI_m7, nI_m15, nI_m32, nI_m4, nI_m8, nI_m16, nI_m2] at hb) <;> (try omega)
    refine ⟨rfl, rfl, Nat.le_refl _, _, rfl, UA.fl (by unfold zshort; rw [if_pos (by omega)])⟩
end UHead
