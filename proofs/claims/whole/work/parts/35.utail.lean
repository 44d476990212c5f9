theorem xW.fgt {l : Launch} {x : xX} {d mc ms : Nat} {μ : xM} {n0 : Nat} {Q : xO → xH → Prop} {cl : Bool} {k : Nat} {L : xL} {S : List Value} {H : xH} {uc us : Nat} (i : Nat) (kk : xW l x d mc ms μ n0 Q cl k (L.set i none) S H uc us) : xW l x d mc ms μ n0 Q cl k L S H uc us := by
  refine xW.less (by rw [List.length_set]) (fun j v hj => ?_) kk
  rw [List.getElem?_set] at hj
  by_cases h : i = j
  · rw [if_pos h] at hj
    split at hj <;> cases hj
  · rw [if_neg h] at hj
    exact hj
/-! four bytes -/
def orv (t : Nat → Nat) (b : Nat) (hf : Bool) : Nat → Nat
  | 0 => 0
  | i + 1 => orv t b hf i ||| t (b + i) * 2 ^ (if hf then 24 - 8 * i else 8 * i)
theorem orv_lt {t : Nat → Nat} (ht : ∀ i, t i < 256) (b : Nat) (hf : Bool) : ∀ i, i ≤ 4 → orv t b hf i < 2 ^ 32 := by
  intro i
  induction i with
  | zero => intro _; exact (by decide : 0 < 2 ^ 32)
  | succ i ih =>
    intro h
    refine Nat.or_lt_two_pow (ih (by omega)) ?_
    have h1 : 2 ^ (if hf then 24 - 8 * i else 8 * i) ≤ 2 ^ 24 := Nat.pow_le_pow_right (by decide) (by split <;> omega)
    have h2 := ht (b + i)
    exact Nat.lt_of_lt_of_le (Nat.mul_lt_mul_of_lt_of_le h2 h1 (by decide)) (by decide)
def fourv (t : Nat → Nat) (b : Nat) (hf : Bool) : Nat := if hf then ((t b * 256 + t (b + 1)) * 256 + t (b + 2)) * 256 + t (b + 3) else t b + 256 * t (b + 1) + 65536 * t (b + 2) + 16777216 * t (b + 3)
theorem orv_four {t : Nat → Nat} (ht : ∀ i, t i < 256) (b : Nat) (hf : Bool) : orv t b hf 4 = fourv t b hf := by
  have h0 := ht b
  have h1 := ht (b + 1)
  have h2 := ht (b + 2)
  have h3 := ht (b + 3)
  cases hf
  · show ((((0 ||| t b * 2 ^ 0) ||| t (b + 1) * 2 ^ 8) ||| t (b + 2) * 2 ^ 16) ||| t (b + 3) * 2 ^ 24) = t b + 256 * t (b + 1) + 65536 * t (b + 2) + 16777216 * t (b + 3)
    have e1 : t b * 2 ^ 0 ||| t (b + 1) * 2 ^ 8 = t b * 2 ^ 0 + t (b + 1) * 2 ^ 8 := or_add (by omega)
    have e2 : (t b * 2 ^ 0 + t (b + 1) * 2 ^ 8) ||| t (b + 2) * 2 ^ 16 = t b * 2 ^ 0 + t (b + 1) * 2 ^ 8 + t (b + 2) * 2 ^ 16 := or_add (by omega)
    have e3 : (t b * 2 ^ 0 + t (b + 1) * 2 ^ 8 + t (b + 2) * 2 ^ 16) ||| t (b + 3) * 2 ^ 24 = t b * 2 ^ 0 + t (b + 1) * 2 ^ 8 + t (b + 2) * 2 ^ 16 + t (b + 3) * 2 ^ 24 := or_add (by omega)
    rw [Nat.zero_or, e1, e2, e3]
    omega
  · show ((((0 ||| t b * 2 ^ 24) ||| t (b + 1) * 2 ^ 16) ||| t (b + 2) * 2 ^ 8) ||| t (b + 3) * 2 ^ 0) = ((t b * 256 + t (b + 1)) * 256 + t (b + 2)) * 256 + t (b + 3)
    have e1 : t (b + 1) * 2 ^ 16 ||| t b * 2 ^ 24 = t (b + 1) * 2 ^ 16 + t b * 2 ^ 24 := or_add (by omega)
    have e2 : t (b + 2) * 2 ^ 8 ||| (t (b + 1) + t b * 2 ^ 8) * 2 ^ 16 = t (b + 2) * 2 ^ 8 + (t (b + 1) + t b * 2 ^ 8) * 2 ^ 16 := or_add (by omega)
    have e3 : t (b + 3) * 2 ^ 0 ||| (t (b + 2) + (t (b + 1) + t b * 2 ^ 8) * 2 ^ 8) * 2 ^ 8 = t (b + 3) * 2 ^ 0 + (t (b + 2) + (t (b + 1) + t b * 2 ^ 8) * 2 ^ 8) * 2 ^ 8 := or_add (by omega)
    rw [Nat.zero_or, Nat.or_comm (t b * 2 ^ 24), e1, Nat.or_comm _ (t (b + 2) * 2 ^ 8), show t (b + 1) * 2 ^ 16 + t b * 2 ^ 24 = (t (b + 1) + t b * 2 ^ 8) * 2 ^ 16 by omega, e2, Nat.or_comm _ (t (b + 3) * 2 ^ 0), show t (b + 2) * 2 ^ 8 + (t (b + 1) + t b * 2 ^ 8) * 2 ^ 16 = (t (b + 2) + (t (b + 1) + t b * 2 ^ 8) * 2 ^ 8) * 2 ^ 8 by omega, e3]
    omega
theorem fourv_lt {t : Nat → Nat} (ht : ∀ i, t i < 256) (b : Nat) (hf : Bool) : fourv t b hf < 2 ^ 32 := by rw [← orv_four ht]; exact orv_lt ht b hf 4 (by decide)
def zfour (t : Nat → Nat) (e : Nat) (hf : Bool) (f due a : Nat) : zR := if e < a + 32 then .inl (1, e) else if fourv t (a / 8) hf = due then .inr (a + 32) else .inl (f, a)
def zsum (t : Nat → Nat) (e b a : Nat) : zR := if e < a + 16 then .inl (1, e) else if rdn t a 16 = crc t b (a / 8) % 65536 then .inr (a + 16) else .inl (13, a)
/-- the head of LONG -/
def zlong4 (t : Nat → Nat) (e m b a : Nat) : zR := if m / 2 % 2 = 1 then zsum t e b a else .inr a
def zlong3 (t : Nat → Nat) (e m b a : Nat) : zR := zb (if m / 16 % 2 = 1 then zzr t e (e / 8 - a / 8) (a / 8) else .inr a) fun a => zlong4 t e m b a
def zlong2 (t : Nat → Nat) (e m b a : Nat) : zR := zb (if m / 8 % 2 = 1 then zzr t e (e / 8 - a / 8) (a / 8) else .inr a) fun a => zlong3 t e m b a
def zlong1 (t : Nat → Nat) (e m b a : Nat) : zR := zb (if m / 4 % 2 = 1 then (if e < a + 16 then .inl (1, e) else zskip e (rdn t a 16) (a + 16)) else .inr a) fun a => zlong2 t e m b a
def zlong0 (t : Nat → Nat) (e b a : Nat) : zR := if e < a + 8 then .inl (1, e) else if rdn t a 8 / 32 ≠ 0 then .inl (12, a) else zb (zskip e 6 (a + 8)) fun c => zlong1 t e (rdn t a 8) b c
def zlong (t : Nat → Nat) (e a : Nat) : zR := zb (zbyte t e 31 a) fun b => zb (zbyte t e 139 b) fun b => zb (zbyte t e 8 b) fun b => zlong0 t e (a / 8) b
def zhead (t : Nat → Nat) (e w a : Nat) : zR := if w = 0 then .inr a else if w = 1 then zshort t e a else zlong t e a
/-- where a reading ends well, it ends not behind the tape -/
theorem zbyte_le {t : Nat → Nat} {e v a b : Nat} (h : zbyte t e v a = .inr b) : b = a + 8 ∧ b ≤ e := by
  unfold zbyte at h
  split at h
  · cases h
  · split at h
    · cases h; exact ⟨rfl, by omega⟩
    · cases h
theorem zskip_le {e n a b : Nat} (h : zskip e n a = .inr b) : b = a + 8 * n ∧ b ≤ e := by
  unfold zskip at h
  split at h
  · cases h
  · cases h; exact ⟨rfl, by omega⟩
theorem zzr_le {t : Nat → Nat} {e b : Nat} : ∀ m i, zzr t e m i = .inr b → b ≤ 8 * (i + m) ∧ 8 * i < b ∧ b % 8 = 0 := by
  intro m
  induction m with
  | zero => intro i h; cases h
  | succ m ih =>
    intro i h
    unfold zzr at h
    split at h
    · cases h; omega
    · have := ih _ h; omega
section UTail
variable {l : Launch} {x : xX} {d : Nat} {s0 : va_E} {T R : wRow} {P : wRep} {k : wPK} {a e mb : Nat} {gs : wRC × wRC × wRC × wRC × wRC × wF × wF} {Z : xH}
theorem UN_four_loop {n0 : Nat} {Q : xO → xH → Prop} (hT : ∀ i, T.1 i < 256) (ha : a + 32 ≤ 8 * T.2) (hn : T.2 ≤ 32768) (h8 : a % 8 = 0) (hf : Bool) {f : Nat} {v : Int64} (K : ∀ cl, xW l x 1 0 0 mUN_readFourThatAre n0 Q cl 17 [some (.ref 51), some (.long v), none, some (.int (nI (if hf then 1 else 0))), some (.int (nI f)), some (.long (lN (orv T.1 (a / 8) hf 4))), none, some (.int (nI 4)), none] [] (hc s0 T R P k (a, e, mb, gs) Z) 0 0) : ∀ (j i : Nat) (cl : Bool), i + j = 4 → xW l x 1 0 0 mUN_readFourThatAre n0 Q cl 17 [some (.ref 51), some (.long v), none, some (.int (nI (if hf then 1 else 0))), some (.int (nI f)), some (.long (lN (orv T.1 (a / 8) hf i))), none, some (.int (nI i)), none] [] (hc s0 T R P k (a, e, mb, gs) Z) 0 0 := by
  intro j
  induction j with
  | zero =>
    intro i cl hi
    have : i = 4 := by omega
    subst this
    exact K cl
  | succ j ih =>
    intro i cl hi
    have hb := hT (a / 8 + i)
    have ho := orv_lt hT (a / 8) hf i (by omega)
    have hp : T.1 (a / 8 + i) * 2 ^ (if hf then 24 - 8 * i else 8 * i) < 2 ^ 64 := by
      have h1 : 2 ^ (if hf then 24 - 8 * i else 8 * i) ≤ 2 ^ 24 := Nat.pow_le_pow_right (by decide) (by split <;> omega)
      exact Nat.lt_of_lt_of_le (Nat.mul_lt_mul_of_lt_of_le hb h1 (by decide)) (by decide)
    have key : ∀ (sh : Nat), (if hf then 24 - 8 * i else 8 * i) = sh → lN (orv T.1 (a / 8) hf i) ||| ((nI (T.1 (a / 8 + i))).toInt64 <<< ((nI sh).toInt64 &&& 63)) = lN (orv T.1 (a / 8) hf (i + 1)) := by
      intro sh hs
      rw [nI_l (by omega), wb_shl _ (by rw [← hs]; split <;> omega), wb_or (by omega) (by rw [← hs]; exact hp), ← hs]
      rfl
    refine b_UN_readFourThatAre_17 ?_
    refine ⟨fun hc => ?_, fun hc => ?_⟩ <;> (try simp (disch := omega) only [nI_lit, nI_fold, nI_mul, nI_add, pk_sub, pk_div, nI_shrN, nI_clamp, nI_leI, nI_ltI, nI_eq, not_true_eq_false, not_false_eq_true, Bool.false_eq_true, if_true, if_false, nI_nem, nI_m1, nI_m7, nI_m15, nI_m32, nI_m4, nI_m8, nI_m16, nI_m2] at hc) <;> (try omega)
    skip
    cases hf
    · refine ⟨fun hd => ?_, fun hd => ?_⟩ <;> (try simp (disch := omega) only [nI_lit, nI_fold, nI_mul, nI_add, pk_sub, pk_div, nI_shrN, nI_clamp, nI_leI, nI_ltI, nI_eq, not_true_eq_false, not_false_eq_true, Bool.false_eq_true, if_true, if_false, nI_nem, nI_m1, nI_m7, nI_m15, nI_m32, nI_m4, nI_m8, nI_m16, nI_m2] at hd) <;> (try omega)
      refine ⟨_, ⟨_, rfl, rfl⟩, _, ⟨_, rfl, rfl⟩, ?_⟩
      try simp (disch := omega) only [nI_lit, nI_fold, nI_mul, nI_add, pk_sub, pk_div, nI_shrN, nI_clamp]
      refine xs_callV rfl lk_9_141 (d' := 0) (c_RO_byteAt (a := 4) (N := 32768) (t := T.1) (n := a / 8 + i) rfl rfl hT (by omega) (by decide)) (Nat.le_of_ble_eq_true rfl) rfl rfl rfl rfl rfl (Nat.le_of_ble_eq_true rfl) (by omega) (by omega) ?_
      rintro _ H1 ⟨rfl, rfl⟩
      refine b_UN_readFourThatAre_42 ?_
      rw [key (8 * i) rfl, nI_1]
      refine xW.fgt 8 ?_
      exact ih (i + 1) false (by omega)
    · refine ⟨fun hd => ?_, fun hd => ?_⟩ <;> (try simp (disch := omega) only [nI_lit, nI_fold, nI_mul, nI_add, pk_sub, pk_div, nI_shrN, nI_clamp, nI_leI, nI_ltI, nI_eq, not_true_eq_false, not_false_eq_true, Bool.false_eq_true, if_true, if_false, nI_nem, nI_m1, nI_m7, nI_m15, nI_m32, nI_m4, nI_m8, nI_m16, nI_m2] at hd) <;> (try omega)
      refine ⟨_, ⟨_, rfl, rfl⟩, _, ⟨_, rfl, rfl⟩, ?_⟩
      try simp (disch := omega) only [nI_lit, nI_fold, nI_mul, nI_add, pk_sub, pk_div, nI_shrN, nI_clamp]
      refine xs_callV rfl lk_9_141 (d' := 0) (c_RO_byteAt (a := 4) (N := 32768) (t := T.1) (n := a / 8 + i) rfl rfl hT (by omega) (by decide)) (Nat.le_of_ble_eq_true rfl) rfl rfl rfl rfl rfl (Nat.le_of_ble_eq_true rfl) (by omega) (by omega) ?_
      rintro _ H1 ⟨rfl, rfl⟩
      refine b_UN_readFourThatAre_42 ?_
      rw [key (24 - 8 * i) rfl, nI_1]
      refine xW.fgt 8 ?_
      exact ih (i + 1) false (by omega)
theorem c_UN_readFourThatAre (hT : ∀ i, T.1 i < 256) (hn : T.2 ≤ 32768) (h8 : a % 8 = 0) (ha : a ≤ e) (he : e = 8 * T.2) (hf : Bool) {f due : Nat} (hf1 : f < 100) (hd : due < 2 ^ 32) : xCr l x 1 0 0 mUN_readFourThatAre [.ref 51, .long (lN due), .int (nI (if hf then 1 else 0)), .int (nI f)] (hc s0 T R P k (a, e, mb, gs) Z) (fun o H' => UA s0 T R P k e mb gs Z (zfour T.1 e hf f due a) o H') := by
  refine xCt.of (by decide) rfl ck_UN_readFourThatAre (Nat.le_of_ble_eq_true rfl) rfl ?_
  refine b_UN_readFourThatAre_0 ⟨_, ⟨_, rfl, rfl⟩, _, ⟨_, rfl, rfl⟩, ?_⟩
  refine ⟨fun hb => ?_, fun hb => ?_⟩ <;> (try simp (disch := omega) only [nI_lit, nI_fold, nI_mul, nI_add, pk_sub, pk_div, nI_shrN, nI_clamp, nI_leI, nI_ltI, nI_eq, not_true_eq_false, not_false_eq_true, Bool.false_eq_true, if_true, if_false, nI_nem, nI_m1, nI_m7, nI_m15, nI_m32, nI_m4, nI_m8, nI_m16, nI_m2] at hb) <;> (try omega)
  · refine UN_four_loop hT (by omega) hn h8 hf (fun cl => ?_) 4 0 true rfl
    refine b_UN_readFourThatAre_17 ?_
    refine ⟨fun hc => ?_, fun hc => ?_⟩ <;> (try simp (disch := omega) only [nI_lit, nI_fold, nI_mul, nI_add, pk_sub, pk_div, nI_shrN, nI_clamp, nI_leI, nI_ltI, nI_eq, not_true_eq_false, not_false_eq_true, Bool.false_eq_true, if_true, if_false, nI_nem, nI_m1, nI_m7, nI_m15, nI_m32, nI_m4, nI_m8, nI_m16, nI_m2] at hc) <;> (try omega)
    · skip
      have hv := fourv_lt hT (a / 8) hf
      refine ⟨fun hd2 => ?_, fun hd2 => ?_⟩ <;> rw [lg_cmp_eq, orv_four hT, pk_lEQ (by omega) (by omega)] at hd2
      · refine ⟨_, ⟨_, rfl, rfl⟩, _, rfl, Nat.le_of_ble_eq_true rfl, fun H3 e3 => ?_⟩
        try simp (disch := omega) only [nI_lit, nI_fold, nI_mul, nI_add, pk_sub, pk_div, nI_shrN, nI_clamp] at e3
        subst e3
        refine ⟨rfl, rfl, Nat.le_refl _, _, rfl, UA.ok (by unfold zfour; rw [if_neg (by omega), if_pos hd2])⟩
      · refine ⟨_, ⟨_, rfl, rfl⟩, ?_⟩
        refine xs_callV rfl lk_9_98 (d' := 0) (c_UN_fail) (Nat.le_of_ble_eq_true rfl) rfl rfl rfl rfl rfl (Nat.le_of_ble_eq_true rfl) (by omega) (by omega) ?_
        rintro _ H1 ⟨rfl, rfl⟩
        refine b_UN_readFourThatAre_58 ?_
        refine ⟨rfl, rfl, Nat.le_refl _, _, rfl, UA.fl (by unfold zfour; rw [if_neg (by omega), if_neg hd2])⟩
  · refine ⟨_, ⟨_, rfl, rfl⟩, ?_⟩
    refine xs_callV rfl lk_9_98 (d' := 0) (c_UN_fail) (Nat.le_of_ble_eq_true rfl) rfl rfl rfl rfl rfl (Nat.le_of_ble_eq_true rfl) (by omega) (by omega) ?_
    rintro _ H1 ⟨rfl, rfl⟩
    refine b_UN_readFourThatAre_12 ?_
    refine ⟨rfl, rfl, Nat.le_refl _, _, rfl, UA.fl (by unfold zfour; rw [if_pos (by omega)])⟩
theorem c_UN_readSumOfHead {b : Nat} (hT : ∀ i, T.1 i < 256) (hn : T.2 ≤ 32768) (ha : a ≤ e) (hb : b ≤ a / 8) (he : e = 8 * T.2) : xCr l x 2 0 0 mUN_readSumOfHead [.ref 51, .int (nI b)] (hc s0 T R P k (a, e, mb, gs) Z) (fun o H' => UA s0 T R P k e mb gs Z (zsum T.1 e b a) o H') := by
  have h16 := rdn16 T.1 a
  have hcr := crc_lt hT b (a / 8)
  refine xCt.of (by decide) rfl ck_UN_readSumOfHead (Nat.le_of_ble_eq_true rfl) rfl ?_
  refine b_UN_readSumOfHead_0 ⟨_, ⟨_, rfl, rfl⟩, _, ⟨_, rfl, rfl⟩, _, ⟨_, rfl, rfl⟩, ?_⟩
  try simp (disch := omega) only [nI_lit, nI_fold, nI_mul, nI_add, pk_sub, pk_div, nI_shrN, nI_clamp]
  refine xs_callV rfl lk_9_126 (d' := 1) (c_SU_sumB (ra := 4) (N := 32768) (t := T.1) rfl rfl rfl rfl hT hb (by omega) (by decide)) (Nat.le_of_ble_eq_true rfl) rfl rfl rfl rfl rfl (Nat.le_of_ble_eq_true rfl) (by omega) (by omega) ?_
  rintro _ H1 ⟨rfl, rfl⟩
  refine b_UN_readSumOfHead_10 ?_
  rw [show (65535 : Int64) = lN (2 ^ 16 - 1) from rfl, wb_mask (by omega) (by decide)]
  refine xs_callV rfl lk_9_111 (d' := 1) (c_UN_readNumber (n := 16) hT (by omega) ha (by omega)) (Nat.le_of_ble_eq_true rfl) rfl rfl rfl rfl rfl (Nat.le_of_ble_eq_true rfl) (by omega) (by omega) ?_
  rintro _ H1 (⟨h1, rfl, rfl⟩ | ⟨h1, rfl, rfl⟩)
  · refine b_UN_readSumOfHead_16 ?_
    refine ⟨fun hc => ?_, fun hc => ?_⟩ <;> (try simp (disch := omega) only [nI_lit, nI_fold, nI_mul, nI_add, pk_sub, pk_div, nI_shrN, nI_clamp, nI_leI, nI_ltI, nI_eq, not_true_eq_false, not_false_eq_true, Bool.false_eq_true, if_true, if_false, nI_nem, nI_m1, nI_m7, nI_m15, nI_m32, nI_m4, nI_m8, nI_m16, nI_m2] at hc) <;> (try omega)
    skip
    refine ⟨fun hd2 => ?_, fun hd2 => ?_⟩ <;> rw [lg_cmp_eq, nI_l (by omega), pk_lEQ (by omega) (by omega)] at hd2
    · refine ⟨rfl, rfl, Nat.le_refl _, _, rfl, UA.ok (by unfold zsum; rw [if_neg (by omega), if_pos hd2])⟩
    · refine ⟨_, ⟨_, rfl, rfl⟩, ?_⟩
      try simp (disch := omega) only [nI_lit, nI_fold, nI_mul, nI_add, pk_sub, pk_div, nI_shrN, nI_clamp]
      refine xs_callV rfl lk_9_98 (d' := 0) (c_UN_fail) (Nat.le_of_ble_eq_true rfl) rfl rfl rfl rfl rfl (Nat.le_of_ble_eq_true rfl) (by omega) (by omega) ?_
      rintro _ H1 ⟨rfl, rfl⟩
      refine b_UN_readSumOfHead_34 ?_
      refine ⟨fun hb => ?_, fun hb => ?_⟩ <;> (try simp (disch := omega) only [nI_lit, nI_fold, nI_mul, nI_add, pk_sub, pk_div, nI_shrN, nI_clamp, nI_leI, nI_ltI, nI_eq, not_true_eq_false, not_false_eq_true, Bool.false_eq_true, if_true, if_false, nI_nem, nI_m1, nI_m7, nI_m15, nI_m32, nI_m4, nI_m8, nI_m16, nI_m2] at hb) <;> (try omega)
      refine ⟨rfl, rfl, Nat.le_refl _, _, rfl, UA.fl (by unfold zsum; rw [if_neg (by omega), if_neg hd2]; rfl)⟩
  · refine b_UN_readSumOfHead_16 ?_
    refine ⟨fun hc => ?_, fun hc => ?_⟩ <;> (try simp (disch := omega) only [nI_lit, nI_fold, nI_mul, nI_add, pk_sub, pk_div, nI_shrN, nI_clamp, nI_leI, nI_ltI, nI_eq, not_true_eq_false, not_false_eq_true, Bool.false_eq_true, if_true, if_false, nI_nem, nI_m1, nI_m7, nI_m15, nI_m32, nI_m4, nI_m8, nI_m16, nI_m2] at hc) <;> (try omega)
    refine ⟨rfl, rfl, Nat.le_refl _, _, rfl, UA.fl (by unfold zsum; rw [if_pos (by omega)])⟩
theorem UA.cases {z : zR} {o : Option Value} {H' : xH} (h : UA s0 T R P k e mb gs Z z o H') : (∃ f p a', z = .inl (f, p) ∧ o = some (.int 0) ∧ H' = hc s0 T R (nI f, nI p, P.2.2) k (a', e, mb, gs) Z) ∨ (∃ a', z = .inr a' ∧ o = some (.int 1) ∧ H' = hc s0 T R P k (a', e, mb, gs) Z) := by
  match z, h with
  | .inl (f, p), h => obtain ⟨h1, a', h2⟩ := h; exact Or.inl ⟨f, p, a', rfl, h1, h2⟩
  | .inr a', h => exact Or.inr ⟨a', rfl, h.1, h.2⟩
theorem c_UN_readLongHead (hT : ∀ i, T.1 i < 256) (hn : T.2 ≤ 32768) (h8 : a % 8 = 0) (ha : a ≤ e) (he : e = 8 * T.2) : xCr l x 3 0 0 mUN_readLongHead [.ref 51] (hc s0 T R P k (a, e, mb, gs) Z) (fun o H' => UA s0 T R P k e mb gs Z (zlong T.1 e a) o H') := by
  have he8 : e / 8 = T.2 := by omega
  have k85 : ∀ (m c : Nat) (z : zR) (cl : Bool), a ≤ c → c ≤ e → zsum T.1 e (a / 8) c = z → xW l x 3 0 0 mUN_readLongHead (List.length (hc s0 T R P k (a, e, mb, gs) Z)) (fun r H' => ∃ v, r = Sum.inl v ∧ UA s0 T R P k e mb gs Z z v H') cl 85 [some (.ref 51), some (.int (nI (a / 8))), some (.int (nI m)), none] [.int (nI (a / 8)), .ref 51] (hc s0 T R P k (c, e, mb, gs) Z) 0 0 := by
    intro m c z cl hac hce hz
    refine xs_callV rfl lk_9_123 (d' := 2) (c_UN_readSumOfHead hT hn hce (by omega) he) (Nat.le_of_ble_eq_true rfl) rfl rfl rfl rfl rfl (Nat.le_of_ble_eq_true rfl) (by omega) (by omega) ?_
    intro o H1 h1
    rcases h1.cases with ⟨f, p, a', h2, rfl, rfl⟩ | ⟨a', h2, rfl, rfl⟩
    · refine b_UN_readLongHead_86 ?_
      refine ⟨fun hb => ?_, fun hb => ?_⟩ <;> (try simp (disch := omega) only [nI_lit, nI_fold, nI_mul, nI_add, pk_sub, pk_div, nI_shrN, nI_clamp, nI_leI, nI_ltI, nI_eq, not_true_eq_false, not_false_eq_true, Bool.false_eq_true, if_true, if_false, nI_nem, nI_m1, nI_m7, nI_m15, nI_m32, nI_m4, nI_m8, nI_m16, nI_m2] at hb) <;> (try omega)
      refine ⟨rfl, rfl, Nat.le_refl _, _, rfl, UA.fl (hz.symm.trans h2)⟩
    · refine b_UN_readLongHead_86 ?_
      refine ⟨fun hb => ?_, fun hb => ?_⟩ <;> (try simp (disch := omega) only [nI_lit, nI_fold, nI_mul, nI_add, pk_sub, pk_div, nI_shrN, nI_clamp, nI_leI, nI_ltI, nI_eq, not_true_eq_false, not_false_eq_true, Bool.false_eq_true, if_true, if_false, nI_nem, nI_m1, nI_m7, nI_m15, nI_m32, nI_m4, nI_m8, nI_m16, nI_m2] at hb) <;> (try omega)
      refine ⟨rfl, rfl, Nat.le_refl _, _, rfl, UA.ok (hz.symm.trans h2)⟩
  have k75 : ∀ (m c : Nat) (z : zR) (cl : Bool), m < 256 → m / 16 % 2 = 1 → a ≤ c → c ≤ e → zlong3 T.1 e m (a / 8) c = z → xW l x 3 0 0 mUN_readLongHead (List.length (hc s0 T R P k (a, e, mb, gs) Z)) (fun r H' => ∃ v, r = Sum.inl v ∧ UA s0 T R P k e mb gs Z z v H') cl 75 [some (.ref 51), some (.int (nI (a / 8))), some (.int (nI m)), none] [.ref 51] (hc s0 T R P k (c, e, mb, gs) Z) 0 0 := by
    intro m c z cl hm h16 hac hce hz
    unfold zlong3 at hz
    rw [if_pos h16, he8] at hz
    refine xs_callV rfl lk_9_120 (d' := 1) (c_UN_skipThroughZero hT hn (by omega)) (Nat.le_of_ble_eq_true rfl) rfl rfl rfl rfl rfl (Nat.le_of_ble_eq_true rfl) (by omega) (by omega) ?_
    intro o H1 h1
    rcases h1.cases with ⟨f, p, a', h2, rfl, rfl⟩ | ⟨a', h2, rfl, rfl⟩
    · rw [h2] at hz
      refine b_UN_readLongHead_76 ?_
      refine ⟨fun hb => ?_, fun hb => ?_⟩ <;> (try simp (disch := omega) only [nI_lit, nI_fold, nI_mul, nI_add, pk_sub, pk_div, nI_shrN, nI_clamp, nI_leI, nI_ltI, nI_eq, not_true_eq_false, not_false_eq_true, Bool.false_eq_true, if_true, if_false, nI_nem, nI_m1, nI_m7, nI_m15, nI_m32, nI_m4, nI_m8, nI_m16, nI_m2] at hb) <;> (try omega)
      refine ⟨rfl, rfl, Nat.le_refl _, _, rfl, UA.fl hz.symm⟩
    · have h3 := zzr_le _ _ h2
      rw [h2] at hz
      have hz4 : zlong4 T.1 e m (a / 8) a' = z := hz
      refine b_UN_readLongHead_76 ?_
      refine ⟨fun hb => ?_, fun hb => ?_⟩ <;> (try simp (disch := omega) only [nI_lit, nI_fold, nI_mul, nI_add, pk_sub, pk_div, nI_shrN, nI_clamp, nI_leI, nI_ltI, nI_eq, not_true_eq_false, not_false_eq_true, Bool.false_eq_true, if_true, if_false, nI_nem, nI_m1, nI_m7, nI_m15, nI_m32, nI_m4, nI_m8, nI_m16, nI_m2] at hb) <;> (try omega)
      skip
      refine ⟨fun hb => ?_, fun hb => ?_⟩ <;> (try simp (disch := omega) only [nI_lit, nI_fold, nI_mul, nI_add, pk_sub, pk_div, nI_shrN, nI_clamp, nI_leI, nI_ltI, nI_eq, not_true_eq_false, not_false_eq_true, Bool.false_eq_true, if_true, if_false, nI_nem, nI_m1, nI_m7, nI_m15, nI_m32, nI_m4, nI_m8, nI_m16, nI_m2] at hb) <;> (try omega)
      · refine ⟨rfl, rfl, Nat.le_refl _, _, rfl, UA.ok (by rw [← hz4, zlong4, if_neg (by omega)])⟩
      · exact k85 m a' z false (by omega) (by omega) (by rw [← hz4, zlong4, if_pos (by omega)])
  have k68 : ∀ (m c : Nat) (z : zR) (cl : Bool), m < 256 → m / 8 % 2 = 1 → a ≤ c → c ≤ e → zlong2 T.1 e m (a / 8) c = z → xW l x 3 0 0 mUN_readLongHead (List.length (hc s0 T R P k (a, e, mb, gs) Z)) (fun r H' => ∃ v, r = Sum.inl v ∧ UA s0 T R P k e mb gs Z z v H') cl 68 [some (.ref 51), some (.int (nI (a / 8))), some (.int (nI m)), none] [.ref 51] (hc s0 T R P k (c, e, mb, gs) Z) 0 0 := by
    intro m c z cl hm h16 hac hce hz
    unfold zlong2 at hz
    rw [if_pos h16, he8] at hz
    refine xs_callV rfl lk_9_120 (d' := 1) (c_UN_skipThroughZero hT hn (by omega)) (Nat.le_of_ble_eq_true rfl) rfl rfl rfl rfl rfl (Nat.le_of_ble_eq_true rfl) (by omega) (by omega) ?_
    intro o H1 h1
    rcases h1.cases with ⟨f, p, a', h2, rfl, rfl⟩ | ⟨a', h2, rfl, rfl⟩
    · rw [h2] at hz
      refine b_UN_readLongHead_69 ?_
      refine ⟨fun hb => ?_, fun hb => ?_⟩ <;> (try simp (disch := omega) only [nI_lit, nI_fold, nI_mul, nI_add, pk_sub, pk_div, nI_shrN, nI_clamp, nI_leI, nI_ltI, nI_eq, not_true_eq_false, not_false_eq_true, Bool.false_eq_true, if_true, if_false, nI_nem, nI_m1, nI_m7, nI_m15, nI_m32, nI_m4, nI_m8, nI_m16, nI_m2] at hb) <;> (try omega)
      refine ⟨rfl, rfl, Nat.le_refl _, _, rfl, UA.fl hz.symm⟩
    · have h3 := zzr_le _ _ h2
      rw [h2] at hz
      have hz3 : zlong3 T.1 e m (a / 8) a' = z := hz
      refine b_UN_readLongHead_69 ?_
      refine ⟨fun hb => ?_, fun hb => ?_⟩ <;> (try simp (disch := omega) only [nI_lit, nI_fold, nI_mul, nI_add, pk_sub, pk_div, nI_shrN, nI_clamp, nI_leI, nI_ltI, nI_eq, not_true_eq_false, not_false_eq_true, Bool.false_eq_true, if_true, if_false, nI_nem, nI_m1, nI_m7, nI_m15, nI_m32, nI_m4, nI_m8, nI_m16, nI_m2] at hb) <;> (try omega)
      skip
      refine ⟨fun hb => ?_, fun hb => ?_⟩ <;> (try simp (disch := omega) only [nI_lit, nI_fold, nI_mul, nI_add, pk_sub, pk_div, nI_shrN, nI_clamp, nI_leI, nI_ltI, nI_eq, not_true_eq_false, not_false_eq_true, Bool.false_eq_true, if_true, if_false, nI_nem, nI_m1, nI_m7, nI_m15, nI_m32, nI_m4, nI_m8, nI_m16, nI_m2] at hb) <;> (try omega)
      · have hz4 : zlong4 T.1 e m (a / 8) a' = z := by rw [← hz3, zlong3, if_neg (by omega)]; rfl
        skip
        refine ⟨fun hd => ?_, fun hd => ?_⟩ <;> (try simp (disch := omega) only [nI_lit, nI_fold, nI_mul, nI_add, pk_sub, pk_div, nI_shrN, nI_clamp, nI_leI, nI_ltI, nI_eq, not_true_eq_false, not_false_eq_true, Bool.false_eq_true, if_true, if_false, nI_nem, nI_m1, nI_m7, nI_m15, nI_m32, nI_m4, nI_m8, nI_m16, nI_m2] at hd) <;> (try omega)
        · refine ⟨rfl, rfl, Nat.le_refl _, _, rfl, UA.ok (by rw [← hz4, zlong4, if_neg (by omega)])⟩
        · exact k85 m a' z false (by omega) (by omega) (by rw [← hz4, zlong4, if_pos (by omega)])
      · exact k75 m a' z false hm (by omega) (by omega) (by omega) hz3
  have h31 := rdn8 T.1
  refine xCt.of (by decide) rfl ck_UN_readLongHead (Nat.le_of_ble_eq_true rfl) rfl ?_
  refine b_UN_readLongHead_0 ⟨_, ⟨_, rfl, rfl⟩, ?_⟩
  try simp (disch := omega) only [nI_lit, nI_fold, nI_mul, nI_add, pk_sub, pk_div, nI_shrN, nI_clamp]
  rcases hz : zlong T.1 e a with z
  rw [← hz]
  clear hz z
  unfold zlong
  refine xs_callV rfl lk_9_114 (d' := 2) (c_UN_readByteThatIs (v := 31) (by decide) hT ha (by omega)) (Nat.le_of_ble_eq_true rfl) rfl rfl rfl rfl rfl (Nat.le_of_ble_eq_true rfl) (by omega) (by omega) ?_
  intro o H1 h1
  rcases h1.cases with ⟨f, p, a', h2, rfl, rfl⟩ | ⟨a', h2, rfl, rfl⟩
  · rw [h2]
    refine b_UN_readLongHead_8 ?_
    refine ⟨fun hb => ?_, fun hb => ?_⟩ <;> (try simp (disch := omega) only [nI_lit, nI_fold, nI_mul, nI_add, pk_sub, pk_div, nI_shrN, nI_clamp, nI_leI, nI_ltI, nI_eq, not_true_eq_false, not_false_eq_true, Bool.false_eq_true, if_true, if_false, nI_nem, nI_m1, nI_m7, nI_m15, nI_m32, nI_m4, nI_m8, nI_m16, nI_m2] at hb) <;> (try omega)
    refine ⟨rfl, rfl, Nat.le_refl _, _, rfl, UA.fl rfl⟩
  have h3 := zbyte_le h2
  rw [h2]
  refine b_UN_readLongHead_8 ?_
  refine ⟨fun hb => ?_, fun hb => ?_⟩ <;> (try simp (disch := omega) only [nI_lit, nI_fold, nI_mul, nI_add, pk_sub, pk_div, nI_shrN, nI_clamp, nI_leI, nI_ltI, nI_eq, not_true_eq_false, not_false_eq_true, Bool.false_eq_true, if_true, if_false, nI_nem, nI_m1, nI_m7, nI_m15, nI_m32, nI_m4, nI_m8, nI_m16, nI_m2] at hb) <;> (try omega)
  skip
  refine xs_callV rfl lk_9_114 (d' := 2) (c_UN_readByteThatIs (v := 139) (by decide) hT (by omega) (by omega)) (Nat.le_of_ble_eq_true rfl) rfl rfl rfl rfl rfl (Nat.le_of_ble_eq_true rfl) (by omega) (by omega) ?_
  intro o H1 h1
  rcases h1.cases with ⟨f, p, a2, h4, rfl, rfl⟩ | ⟨a2, h4, rfl, rfl⟩
  · rw [zb_r, h4]
    refine b_UN_readLongHead_12 ?_
    refine ⟨fun hb => ?_, fun hb => ?_⟩ <;> (try simp (disch := omega) only [nI_lit, nI_fold, nI_mul, nI_add, pk_sub, pk_div, nI_shrN, nI_clamp, nI_leI, nI_ltI, nI_eq, not_true_eq_false, not_false_eq_true, Bool.false_eq_true, if_true, if_false, nI_nem, nI_m1, nI_m7, nI_m15, nI_m32, nI_m4, nI_m8, nI_m16, nI_m2] at hb) <;> (try omega)
    refine ⟨rfl, rfl, Nat.le_refl _, _, rfl, UA.fl rfl⟩
  have h5 := zbyte_le h4
  rw [zb_r, h4]
  refine b_UN_readLongHead_12 ?_
  refine ⟨fun hb => ?_, fun hb => ?_⟩ <;> (try simp (disch := omega) only [nI_lit, nI_fold, nI_mul, nI_add, pk_sub, pk_div, nI_shrN, nI_clamp, nI_leI, nI_ltI, nI_eq, not_true_eq_false, not_false_eq_true, Bool.false_eq_true, if_true, if_false, nI_nem, nI_m1, nI_m7, nI_m15, nI_m32, nI_m4, nI_m8, nI_m16, nI_m2] at hb) <;> (try omega)
  skip
  refine xs_callV rfl lk_9_114 (d' := 2) (c_UN_readByteThatIs (v := 8) (by decide) hT (by omega) (by omega)) (Nat.le_of_ble_eq_true rfl) rfl rfl rfl rfl rfl (Nat.le_of_ble_eq_true rfl) (by omega) (by omega) ?_
  intro o H1 h1
  rcases h1.cases with ⟨f, p, a3, h6, rfl, rfl⟩ | ⟨a3, h6, rfl, rfl⟩
  · rw [zb_r, h6]
    refine b_UN_readLongHead_16 ?_
    refine ⟨fun hb => ?_, fun hb => ?_⟩ <;> (try simp (disch := omega) only [nI_lit, nI_fold, nI_mul, nI_add, pk_sub, pk_div, nI_shrN, nI_clamp, nI_leI, nI_ltI, nI_eq, not_true_eq_false, not_false_eq_true, Bool.false_eq_true, if_true, if_false, nI_nem, nI_m1, nI_m7, nI_m15, nI_m32, nI_m4, nI_m8, nI_m16, nI_m2] at hb) <;> (try omega)
    refine ⟨rfl, rfl, Nat.le_refl _, _, rfl, UA.fl rfl⟩
  have h7 := zbyte_le h6
  have hm := h31 a3
  rw [zb_r, h6, zb_r]
  refine b_UN_readLongHead_16 ?_
  refine ⟨fun hb => ?_, fun hb => ?_⟩ <;> (try simp (disch := omega) only [nI_lit, nI_fold, nI_mul, nI_add, pk_sub, pk_div, nI_shrN, nI_clamp, nI_leI, nI_ltI, nI_eq, not_true_eq_false, not_false_eq_true, Bool.false_eq_true, if_true, if_false, nI_nem, nI_m1, nI_m7, nI_m15, nI_m32, nI_m4, nI_m8, nI_m16, nI_m2] at hb) <;> (try omega)
  skip
  refine xs_callV rfl lk_9_111 (d' := 1) (c_UN_readNumber (n := 8) hT (by omega) (by omega) (by omega)) (Nat.le_of_ble_eq_true rfl) rfl rfl rfl rfl rfl (Nat.le_of_ble_eq_true rfl) (by omega) (by omega) ?_
  rintro _ H1 (⟨g1, rfl, rfl⟩ | ⟨g1, rfl, rfl⟩)
  case inr =>
    refine b_UN_readLongHead_22 ?_
    refine ⟨fun hb => ?_, fun hb => ?_⟩ <;> (try simp (disch := omega) only [nI_lit, nI_fold, nI_mul, nI_add, pk_sub, pk_div, nI_shrN, nI_clamp, nI_leI, nI_ltI, nI_eq, not_true_eq_false, not_false_eq_true, Bool.false_eq_true, if_true, if_false, nI_nem, nI_m1, nI_m7, nI_m15, nI_m32, nI_m4, nI_m8, nI_m16, nI_m2] at hb) <;> (try omega)
    refine ⟨rfl, rfl, Nat.le_refl _, _, rfl, UA.fl (by unfold zlong0; rw [if_pos (by omega)])⟩
  refine b_UN_readLongHead_22 ?_
  refine ⟨fun hb => ?_, fun hb => ?_⟩ <;> (try simp (disch := omega) only [nI_lit, nI_fold, nI_mul, nI_add, pk_sub, pk_div, nI_shrN, nI_clamp, nI_leI, nI_ltI, nI_eq, not_true_eq_false, not_false_eq_true, Bool.false_eq_true, if_true, if_false, nI_nem, nI_m1, nI_m7, nI_m15, nI_m32, nI_m4, nI_m8, nI_m16, nI_m2] at hb) <;> (try omega)
  skip
  refine ⟨fun hb => ?_, fun hb => ?_⟩ <;> (try simp (disch := omega) only [nI_lit, nI_fold, nI_mul, nI_add, pk_sub, pk_div, nI_shrN, nI_clamp, nI_leI, nI_ltI, nI_eq, not_true_eq_false, not_false_eq_true, Bool.false_eq_true, if_true, if_false, nI_nem, nI_m1, nI_m7, nI_m15, nI_m32, nI_m4, nI_m8, nI_m16, nI_m2] at hb) <;> (try omega)
  case refine_2 =>
    refine ⟨_, ⟨_, rfl, rfl⟩, ?_⟩
    try simp (disch := omega) only [nI_lit, nI_fold, nI_mul, nI_add, pk_sub, pk_div, nI_shrN, nI_clamp]
    refine xs_callV rfl lk_9_98 (d' := 0) (c_UN_fail) (Nat.le_of_ble_eq_true rfl) rfl rfl rfl rfl rfl (Nat.le_of_ble_eq_true rfl) (by omega) (by omega) ?_
    rintro _ H1 ⟨rfl, rfl⟩
    refine b_UN_readLongHead_39 ?_
    refine ⟨rfl, rfl, Nat.le_refl _, _, rfl, UA.fl (by unfold zlong0; rw [if_neg (by omega), if_pos (by omega)]; rfl)⟩
  have hz0 : zlong0 T.1 e (a / 8) a3 = zb (zskip e 6 (a3 + 8)) fun c => zlong1 T.1 e (rdn T.1 a3 8) (a / 8) c := by unfold zlong0; rw [if_neg (by omega), if_neg (by omega)]
  rw [hz0]
  generalize rdn T.1 a3 8 = m at *
  skip
  refine xs_callV rfl lk_9_117 (d' := 1) (c_UN_skipBytes (n := 6) (by decide) (by omega) (by omega)) (Nat.le_of_ble_eq_true rfl) rfl rfl rfl rfl rfl (Nat.le_of_ble_eq_true rfl) (by omega) (by omega) ?_
  intro o H1 h1
  rcases h1.cases with ⟨f, p, a4, h9, rfl, rfl⟩ | ⟨a4, h9, rfl, rfl⟩
  · rw [h9]
    refine b_UN_readLongHead_43 ?_
    refine ⟨fun hb => ?_, fun hb => ?_⟩ <;> (try simp (disch := omega) only [nI_lit, nI_fold, nI_mul, nI_add, pk_sub, pk_div, nI_shrN, nI_clamp, nI_leI, nI_ltI, nI_eq, not_true_eq_false, not_false_eq_true, Bool.false_eq_true, if_true, if_false, nI_nem, nI_m1, nI_m7, nI_m15, nI_m32, nI_m4, nI_m8, nI_m16, nI_m2] at hb) <;> (try omega)
    refine ⟨rfl, rfl, Nat.le_refl _, _, rfl, UA.fl rfl⟩
  have h10 := zskip_le h9
  rw [h9, zb_r]
  refine b_UN_readLongHead_43 ?_
  refine ⟨fun hb => ?_, fun hb => ?_⟩ <;> (try simp (disch := omega) only [nI_lit, nI_fold, nI_mul, nI_add, pk_sub, pk_div, nI_shrN, nI_clamp, nI_leI, nI_ltI, nI_eq, not_true_eq_false, not_false_eq_true, Bool.false_eq_true, if_true, if_false, nI_nem, nI_m1, nI_m7, nI_m15, nI_m32, nI_m4, nI_m8, nI_m16, nI_m2] at hb) <;> (try omega)
  skip
  refine ⟨fun hb => ?_, fun hb => ?_⟩ <;> (try simp (disch := omega) only [nI_lit, nI_fold, nI_mul, nI_add, pk_sub, pk_div, nI_shrN, nI_clamp, nI_leI, nI_ltI, nI_eq, not_true_eq_false, not_false_eq_true, Bool.false_eq_true, if_true, if_false, nI_nem, nI_m1, nI_m7, nI_m15, nI_m32, nI_m4, nI_m8, nI_m16, nI_m2] at hb) <;> (try omega)
  · have q2 : zlong1 T.1 e m (a / 8) a4 = zlong2 T.1 e m (a / 8) a4 := by unfold zlong1; rw [if_neg (by omega)]; rfl
    rw [q2]
    skip
    refine ⟨fun hd => ?_, fun hd => ?_⟩ <;> (try simp (disch := omega) only [nI_lit, nI_fold, nI_mul, nI_add, pk_sub, pk_div, nI_shrN, nI_clamp, nI_leI, nI_ltI, nI_eq, not_true_eq_false, not_false_eq_true, Bool.false_eq_true, if_true, if_false, nI_nem, nI_m1, nI_m7, nI_m15, nI_m32, nI_m4, nI_m8, nI_m16, nI_m2] at hd) <;> (try omega)
    · have q3 : zlong2 T.1 e m (a / 8) a4 = zlong3 T.1 e m (a / 8) a4 := by unfold zlong2; rw [if_neg (by omega)]; rfl
      rw [q3]
      skip
      refine ⟨fun hf => ?_, fun hf => ?_⟩ <;> (try simp (disch := omega) only [nI_lit, nI_fold, nI_mul, nI_add, pk_sub, pk_div, nI_shrN, nI_clamp, nI_leI, nI_ltI, nI_eq, not_true_eq_false, not_false_eq_true, Bool.false_eq_true, if_true, if_false, nI_nem, nI_m1, nI_m7, nI_m15, nI_m32, nI_m4, nI_m8, nI_m16, nI_m2] at hf) <;> (try omega)
      · have q4 : zlong3 T.1 e m (a / 8) a4 = zlong4 T.1 e m (a / 8) a4 := by unfold zlong3; rw [if_neg (by omega)]; rfl
        rw [q4]
        skip
        refine ⟨fun hg => ?_, fun hg => ?_⟩ <;> (try simp (disch := omega) only [nI_lit, nI_fold, nI_mul, nI_add, pk_sub, pk_div, nI_shrN, nI_clamp, nI_leI, nI_ltI, nI_eq, not_true_eq_false, not_false_eq_true, Bool.false_eq_true, if_true, if_false, nI_nem, nI_m1, nI_m7, nI_m15, nI_m32, nI_m4, nI_m8, nI_m16, nI_m2] at hg) <;> (try omega)
        · refine ⟨rfl, rfl, Nat.le_refl _, _, rfl, UA.ok (by unfold zlong4; rw [if_neg (by omega)])⟩
        · exact k85 m a4 _ false (by omega) (by omega) (by unfold zlong4; rw [if_pos (by omega)])
      · exact k75 m a4 _ false hm (by omega) (by omega) (by omega) rfl
    · exact k68 m a4 _ false hm (by omega) (by omega) (by omega) rfl
  · have h16 := rdn16 T.1 a4
    skip
    refine xs_callV rfl lk_9_111 (d' := 1) (c_UN_readNumber (n := 16) hT (by omega) (by omega) (by omega)) (Nat.le_of_ble_eq_true rfl) rfl rfl rfl rfl rfl (Nat.le_of_ble_eq_true rfl) (by omega) (by omega) ?_
    rintro _ H1 (⟨g2, rfl, rfl⟩ | ⟨g2, rfl, rfl⟩)
    case inr =>
      refine b_UN_readLongHead_53 ?_
      refine ⟨fun hd => ?_, fun hd => ?_⟩ <;> (try simp (disch := omega) only [nI_lit, nI_fold, nI_mul, nI_add, pk_sub, pk_div, nI_shrN, nI_clamp, nI_leI, nI_ltI, nI_eq, not_true_eq_false, not_false_eq_true, Bool.false_eq_true, if_true, if_false, nI_nem, nI_m1, nI_m7, nI_m15, nI_m32, nI_m4, nI_m8, nI_m16, nI_m2] at hd) <;> (try omega)
      refine ⟨rfl, rfl, Nat.le_refl _, _, rfl, UA.fl (by unfold zlong1; rw [if_pos (by omega), if_pos (by omega)]; rfl)⟩
    have q1 : zlong1 T.1 e m (a / 8) a4 = zb (zskip e (rdn T.1 a4 16) (a4 + 16)) fun c => zlong2 T.1 e m (a / 8) c := by unfold zlong1; rw [if_pos (by omega), if_neg (by omega)]
    rw [q1]
    refine b_UN_readLongHead_53 ?_
    refine ⟨fun hd => ?_, fun hd => ?_⟩ <;> (try simp (disch := omega) only [nI_lit, nI_fold, nI_mul, nI_add, pk_sub, pk_div, nI_shrN, nI_clamp, nI_leI, nI_ltI, nI_eq, not_true_eq_false, not_false_eq_true, Bool.false_eq_true, if_true, if_false, nI_nem, nI_m1, nI_m7, nI_m15, nI_m32, nI_m4, nI_m8, nI_m16, nI_m2] at hd) <;> (try omega)
    skip
    refine xs_callV rfl lk_9_117 (d' := 1) (c_UN_skipBytes (n := rdn T.1 a4 16) (by omega) (by omega) (by omega)) (Nat.le_of_ble_eq_true rfl) rfl rfl rfl rfl rfl (Nat.le_of_ble_eq_true rfl) (by omega) (by omega) ?_
    intro o H1 h1
    rcases h1.cases with ⟨f, p, a5, h11, rfl, rfl⟩ | ⟨a5, h11, rfl, rfl⟩
    · rw [h11]
      refine b_UN_readLongHead_60 ?_
      refine ⟨fun hd => ?_, fun hd => ?_⟩ <;> (try simp (disch := omega) only [nI_lit, nI_fold, nI_mul, nI_add, pk_sub, pk_div, nI_shrN, nI_clamp, nI_leI, nI_ltI, nI_eq, not_true_eq_false, not_false_eq_true, Bool.false_eq_true, if_true, if_false, nI_nem, nI_m1, nI_m7, nI_m15, nI_m32, nI_m4, nI_m8, nI_m16, nI_m2] at hd) <;> (try omega)
      refine ⟨rfl, rfl, Nat.le_refl _, _, rfl, UA.fl rfl⟩
    have h12 := zskip_le h11
    rw [h11, zb_r]
    refine b_UN_readLongHead_60 ?_
    refine ⟨fun hd => ?_, fun hd => ?_⟩ <;> (try simp (disch := omega) only [nI_lit, nI_fold, nI_mul, nI_add, pk_sub, pk_div, nI_shrN, nI_clamp, nI_leI, nI_ltI, nI_eq, not_true_eq_false, not_false_eq_true, Bool.false_eq_true, if_true, if_false, nI_nem, nI_m1, nI_m7, nI_m15, nI_m32, nI_m4, nI_m8, nI_m16, nI_m2] at hd) <;> (try omega)
    skip
    refine ⟨fun hd => ?_, fun hd => ?_⟩ <;> (try simp (disch := omega) only [nI_lit, nI_fold, nI_mul, nI_add, pk_sub, pk_div, nI_shrN, nI_clamp, nI_leI, nI_ltI, nI_eq, not_true_eq_false, not_false_eq_true, Bool.false_eq_true, if_true, if_false, nI_nem, nI_m1, nI_m7, nI_m15, nI_m32, nI_m4, nI_m8, nI_m16, nI_m2] at hd) <;> (try omega)
    · have q3 : zlong2 T.1 e m (a / 8) a5 = zlong3 T.1 e m (a / 8) a5 := by unfold zlong2; rw [if_neg (by omega)]; rfl
      rw [q3]
      skip
      refine ⟨fun hf => ?_, fun hf => ?_⟩ <;> (try simp (disch := omega) only [nI_lit, nI_fold, nI_mul, nI_add, pk_sub, pk_div, nI_shrN, nI_clamp, nI_leI, nI_ltI, nI_eq, not_true_eq_false, not_false_eq_true, Bool.false_eq_true, if_true, if_false, nI_nem, nI_m1, nI_m7, nI_m15, nI_m32, nI_m4, nI_m8, nI_m16, nI_m2] at hf) <;> (try omega)
      · have q4 : zlong3 T.1 e m (a / 8) a5 = zlong4 T.1 e m (a / 8) a5 := by unfold zlong3; rw [if_neg (by omega)]; rfl
        rw [q4]
        skip
        refine ⟨fun hg => ?_, fun hg => ?_⟩ <;> (try simp (disch := omega) only [nI_lit, nI_fold, nI_mul, nI_add, pk_sub, pk_div, nI_shrN, nI_clamp, nI_leI, nI_ltI, nI_eq, not_true_eq_false, not_false_eq_true, Bool.false_eq_true, if_true, if_false, nI_nem, nI_m1, nI_m7, nI_m15, nI_m32, nI_m4, nI_m8, nI_m16, nI_m2] at hg) <;> (try omega)
        · refine ⟨rfl, rfl, Nat.le_refl _, _, rfl, UA.ok (by unfold zlong4; rw [if_neg (by omega)])⟩
        · refine xW.fgt 3 ?_
          exact k85 m a5 _ false (by omega) (by omega) (by unfold zlong4; rw [if_pos (by omega)])
      · refine xW.fgt 3 ?_
        exact k75 m a5 _ false hm (by omega) (by omega) (by omega) rfl
    · refine xW.fgt 3 ?_
      exact k68 m a5 _ false hm (by omega) (by omega) (by omega) rfl
end UTail
