/-! symbols of a block: at, bytes, how many, stretches -/
abbrev sS : Type := Nat × (Nat → Nat) × Nat × Nat
abbrev zS : Type := (Nat × Nat × Nat) ⊕ sS
def zstr (t : Nat → Nat) (e mb : Nat) (gD : Nat → Nat) (nD y a0 : Nat) (s : sS) : zS :=
  if 286 ≤ y then .inl (8, a0, s.2.2.2) else if e < s.1 + lbts (y - 257) then .inl (1, e, s.2.2.2) else
  match zs t e gD nD (s.1 + lbts (y - 257)) with
  | .inl (f, p) => .inl (f, p, s.2.2.2)
  | .inr (j, b) => if 30 ≤ j then .inl (8, s.1 + lbts (y - 257), s.2.2.2) else if e < b + dbts j then .inl (1, e, s.2.2.2) else
    if s.2.2.1 - mb < dbas j + rdn t b (dbts j) then .inl (9, s.1 + lbts (y - 257), s.2.2.2) else if 65536 - s.2.2.1 < lbas (y - 257) + rdn t s.1 (lbts (y - 257)) then .inl (10, a0, s.2.2.2) else
    .inr (b + dbts j, repN s.2.1 s.2.2.1 (dbas j + rdn t b (dbts j)) (lbas (y - 257) + rdn t s.1 (lbts (y - 257))), s.2.2.1 + (lbas (y - 257) + rdn t s.1 (lbts (y - 257))), s.2.2.2 + 1)
def zsyms (t : Nat → Nat) (e mb : Nat) (gL : Nat → Nat) (nL : Nat) (gD : Nat → Nat) (nD : Nat) : Nat → sS → zS
  | 0, s => .inl (1, e, s.2.2.2)
  | m + 1, s => match zs t e gL nL s.1 with
    | .inl (f, p) => .inl (f, p, s.2.2.2)
    | .inr (y, b) => if y = 256 then .inr (b, s.2) else if 257 ≤ y then
        match zstr t e mb gD nD y s.1 (b, s.2) with
        | .inl q => .inl q
        | .inr s' => zsyms t e mb gL nL gD nD m s'
      else if s.2.2.1 = 65536 then .inl (10, s.1, s.2.2.2) else zsyms t e mb gL nL gD nD m (b, nup s.2.1 s.2.2.1 y, s.2.2.1 + 1, s.2.2.2)
/-- what a state of symbols keeps: at not behind the end, so many bytes at most, bytes -/
def sOK (e mb : Nat) (s : sS) : Prop := s.1 ≤ e ∧ s.2.2.1 ≤ 65536 ∧ mb ≤ s.2.2.1 ∧ ∀ i, s.2.1 i < 256
def atC (s0 : va_E) (T : wRow) (k : wPK) (e mb : Nat) (gs : wRC × wRC × wRC × wRC × wRC × wF × wF) (Z : xH) (r b1 b2 b3 : Nat) (c : wRC) : Prop := ∀ (R : wRow) (P : wRep) (a : Nat), (hc s0 T R P k (a, e, mb, gs) Z)[r]? = some (cRC b1 b2 b3 c.1) ∧ (hc s0 T R P k (a, e, mb, gs) Z)[b1]? = some (aI 16 c.2.1) ∧ (hc s0 T R P k (a, e, mb, gs) Z)[b2]? = some (aI 288 c.2.2.1)
def QS (s0 : va_E) (T : wRow) (fa pl : Int32) (bl : Nat) (td : wF) (k : wPK) (e mb : Nat) (c1 c2 c3 c4 c5 : wRC) (fl f9 : wF) (Z : xH) (z : zS) (o : Option Value) (H' : xH) : Prop := (∃ f p st, z = .inl (f, p, st) ∧ o = some (.int 0) ∧ UF s0 T (fa, pl, bl, st, td) k e c1 c2 f9 Z f p H') ∨ ∃ s, z = .inr s ∧ o = some (.int 1) ∧ H' = hc s0 T (s.2.1, s.2.2.1) (fa, pl, bl, s.2.2.2, td) k (s.1, e, mb, c1, c2, c3, c4, c5, fl, f9) Z
theorem zstr_ok {t : Nat → Nat} {e mb : Nat} {gD : Nat → Nat} {nD y a0 : Nat} {s s' : sS} (hs : sOK e mb s) (h : zstr t e mb gD nD y a0 s = .inr s') : sOK e mb s' ∧ s.1 < s'.1 := by
  unfold zstr at h
  split at h
  · cases h
  split at h
  · cases h
  split at h
  · cases h
  · rename_i j b hj
    have hle := zs_le hj
    split at h
    · cases h
    split at h
    · cases h
    split at h
    · cases h
    split at h
    · cases h
    · cases h
      obtain ⟨h1, h2, h3, h4⟩ := hs
      exact ⟨⟨by dsimp only; omega, by dsimp only; omega, by dsimp only; omega, fun i => by dsimp only; exact repN_lt h4 _ _ _ _⟩, by dsimp only; omega⟩
theorem zsyms_ok {t : Nat → Nat} {e mb : Nat} {gL gD : Nat → Nat} {nL nD : Nat} {s' : sS} : ∀ m s, sOK e mb s → zsyms t e mb gL nL gD nD m s = .inr s' → sOK e mb s' ∧ s.1 < s'.1 := by
  intro m
  induction m with
  | zero => intro s _ h; cases h
  | succ m ih =>
    intro s hs h
    obtain ⟨h1, h2, h3, h4⟩ := id hs
    unfold zsyms at h
    split at h
    · cases h
    · rename_i y b hy
      have hle := zs_le hy
      split at h
      · cases h
        exact ⟨⟨by dsimp only; omega, by dsimp only; omega, by dsimp only; omega, fun i => by dsimp only; exact h4 i⟩, by dsimp only; omega⟩
      split at h
      · split at h
        · cases h
        · rename_i s2 hz
          have q := zstr_ok (s := (b, s.2)) ⟨by dsimp only; omega, by dsimp only; omega, by dsimp only; omega, fun i => by dsimp only; exact h4 i⟩ hz
          have q2 := ih s2 q.1 h
          have q3 := q.2
          dsimp only at q3
          exact ⟨q2.1, by omega⟩
      · split at h
        · cases h
        · have q2 := ih _ ⟨by dsimp only; omega, by dsimp only; omega, by dsimp only; omega, fun i => by dsimp only [nup]; split; omega; exact h4 i⟩ h
          exact ⟨q2.1, by have := q2.2; dsimp only at this; omega⟩
section USyms
variable {l : Launch} {x : xX} {d : Nat} {s0 : va_E} {T : wRow} {fa pl : Int32} {bl : Nat} {td : wF} {k : wPK} {e mb : Nat} {c1 c2 c3 c4 c5 : wRC} {fl f9 : wF} {Z : xH}
theorem c_UN_readStretch (hT : ∀ i, T.1 i < 256) (he : e = 8 * T.2) (hn : T.2 ≤ 32768) {r b1 b2 b3 : Nat} {c : wRC} {gD : Nat → Nat} {nD : Nat} (hnD : nD ≤ 288) (hat : atC s0 T k e mb (c1, c2, c3, c4, c5, fl, f9) Z r b1 b2 b3 c) (hok : rcOK c gD nD) {y a0 : Nat} (hy : 257 ≤ y) (hy2 : y < 288) (ha0 : a0 ≤ e) {s : sS} (hs : sOK e mb s) : xCr l x 2 0 0 mUN_readStretch [.ref 51, .int (nI y), .int (nI a0), .ref r] (hc s0 T (s.2.1, s.2.2.1) (fa, pl, bl, s.2.2.2, td) k (s.1, e, mb, c1, c2, c3, c4, c5, fl, f9) Z) (fun o H' => QS s0 T fa pl bl td k e mb c1 c2 c3 c4 c5 fl f9 Z (zstr T.1 e mb gD nD y a0 s) o H') := by
  obtain ⟨a, rb, rn, st⟩ := s
  obtain ⟨h1, h2, h3, h4⟩ := hs
  dsimp only at h1 h2 h3 h4
  unfold zstr
  dsimp only
  refine xCt.of (by decide) rfl ck_UN_readStretch (Nat.le_of_ble_eq_true rfl) rfl ?_
  refine b_UN_readStretch_0 ?_
  refine ⟨fun hf => ?_, fun hf => ?_⟩ <;> (try simp (disch := omega) only [nI_lit, nI_fold, nI_mul, nI_add, pk_sub, pk_div, nI_shrN, nI_clamp, nI_leI, nI_ltI, nI_eq, not_true_eq_false, not_false_eq_true, Bool.false_eq_true, if_true, if_false, nI_nem, nI_m1, nI_m7, nI_m15, nI_m32, nI_m4, nI_m8, nI_m16, nI_m2] at hf) <;> (try omega)
  case refine_2 =>
    rw [if_pos (by omega)]
    skip
    refine xs_callV rfl lk_9_98 (d' := 0) (c_UN_fail (gs := (c1, c2, c3, c4, c5, fl, f9))) (Nat.le_of_ble_eq_true rfl) rfl rfl rfl rfl rfl (Nat.le_of_ble_eq_true rfl) (by omega) (by omega) ?_
    rintro _ H1 ⟨rfl, rfl⟩
    refine b_UN_readStretch_7 ?_
    refine ⟨rfl, rfl, Nat.le_refl _, _, rfl, Or.inl ⟨8, a0, st, rfl, rfl, _, _, _, _, _, _, _, rfl⟩⟩
  rw [if_neg (by omega)]
  obtain ⟨t1, t2, t3⟩ := lbts_le (y - 257) (by omega)
  skip
  try simp (disch := omega) only [nI_lit, nI_fold, nI_mul, nI_add, pk_sub, pk_div, nI_shrN, nI_clamp]
  refine xs_callSN rfl lk_9_213 (d' := 0) (c_RP_lengthBits (i := y - 257) (by omega)) (Nat.le_of_ble_eq_true rfl) rfl rfl (Nat.le_of_ble_eq_true rfl) (by omega) (by omega) ?_
  rintro _ H1 ⟨rfl, rfl⟩
  have hrn := rdn_lt T.1 a (lbts (y - 257))
  have hp1 : 2 ^ lbts (y - 257) ≤ 2 ^ 5 := Nat.pow_le_pow_right (by decide) t1
  generalize lbts (y - 257) = nb at *
  refine xs_callV rfl lk_9_111 (d' := 1) (c_UN_readNumber (gs := (c1, c2, c3, c4, c5, fl, f9)) (n := nb) hT (by omega) h1 (by omega)) (Nat.le_of_ble_eq_true rfl) rfl rfl rfl rfl rfl (Nat.le_of_ble_eq_true rfl) (by omega) (by omega) ?_
  rintro _ H1 (⟨g1, rfl, rfl⟩ | ⟨g1, rfl, rfl⟩)
  case inr =>
    refine b_UN_readStretch_14 ?_
    refine ⟨fun hg => ?_, fun hg => ?_⟩ <;> (try simp (disch := omega) only [nI_lit, nI_fold, nI_mul, nI_add, pk_sub, pk_div, nI_shrN, nI_clamp, nI_leI, nI_ltI, nI_eq, not_true_eq_false, not_false_eq_true, Bool.false_eq_true, if_true, if_false, nI_nem, nI_m1, nI_m7, nI_m15, nI_m32, nI_m4, nI_m8, nI_m16, nI_m2] at hg) <;> (try omega)
    refine ⟨rfl, rfl, Nat.le_refl _, _, rfl, Or.inl ⟨1, e, st, if_pos (by omega), rfl, _, _, _, _, _, _, _, rfl⟩⟩
  rw [if_neg (by omega)]
  refine b_UN_readStretch_14 ?_
  refine ⟨fun hg => ?_, fun hg => ?_⟩ <;> (try simp (disch := omega) only [nI_lit, nI_fold, nI_mul, nI_add, pk_sub, pk_div, nI_shrN, nI_clamp, nI_leI, nI_ltI, nI_eq, not_true_eq_false, not_false_eq_true, Bool.false_eq_true, if_true, if_false, nI_nem, nI_m1, nI_m7, nI_m15, nI_m32, nI_m4, nI_m8, nI_m16, nI_m2] at hg) <;> (try omega)
  refine ⟨_, ⟨_, rfl, rfl⟩, ?_⟩
  refine xs_callV rfl lk_9_201 (d' := 1) (c_UN_readSymbol (gs := (c1, c2, c3, c4, c5, fl, f9)) hT (by omega) hn hnD (a := a + nb) (by omega) (fun _ => (hat _ _ _).1) (fun _ => (hat _ _ _).2.1) (fun _ => (hat _ _ _).2.2) hok) (Nat.le_of_ble_eq_true rfl) rfl rfl rfl rfl rfl (Nat.le_of_ble_eq_true rfl) (by omega) (by omega) ?_
  intro o H1 hY
  rcases hY.cases with ⟨f, p, a', q1, rfl, rfl⟩ | ⟨j, b, q1, rfl, rfl⟩
  · rw [q1]
    refine b_UN_readStretch_26 ?_
    refine ⟨fun hg => ?_, fun hg => ?_⟩ <;> (try simp (disch := omega) only [nI_lit, nI_fold, nI_mul, nI_add, pk_sub, pk_div, nI_shrN, nI_clamp, nI_leI, nI_ltI, nI_eq, not_true_eq_false, not_false_eq_true, Bool.false_eq_true, if_true, if_false, nI_nem, nI_m1, nI_m7, nI_m15, nI_m32, nI_m4, nI_m8, nI_m16, nI_m2] at hg) <;> (try omega)
    refine ⟨rfl, rfl, Nat.le_refl _, _, rfl, Or.inl ⟨f, p, st, rfl, rfl, _, _, _, _, _, _, _, rfl⟩⟩
  have q2 := zs_le q1
  rw [q1]
  dsimp only
  refine b_UN_readStretch_26 ?_
  refine ⟨fun hg => ?_, fun hg => ?_⟩ <;> (try simp (disch := omega) only [nI_lit, nI_fold, nI_mul, nI_add, pk_sub, pk_div, nI_shrN, nI_clamp, nI_leI, nI_ltI, nI_eq, not_true_eq_false, not_false_eq_true, Bool.false_eq_true, if_true, if_false, nI_nem, nI_m1, nI_m7, nI_m15, nI_m32, nI_m4, nI_m8, nI_m16, nI_m2] at hg) <;> (try omega)
  refine ⟨fun hg => ?_, fun hg => ?_⟩ <;> (try simp (disch := omega) only [nI_lit, nI_fold, nI_mul, nI_add, pk_sub, pk_div, nI_shrN, nI_clamp, nI_leI, nI_ltI, nI_eq, not_true_eq_false, not_false_eq_true, Bool.false_eq_true, if_true, if_false, nI_nem, nI_m1, nI_m7, nI_m15, nI_m32, nI_m4, nI_m8, nI_m16, nI_m2] at hg) <;> (try omega)
  case refine_2 =>
    rw [if_pos (by omega)]
    refine xs_callV rfl lk_9_98 (d' := 0) (c_UN_fail (gs := (c1, c2, c3, c4, c5, fl, f9))) (Nat.le_of_ble_eq_true rfl) rfl rfl rfl rfl rfl (Nat.le_of_ble_eq_true rfl) (by omega) (by omega) ?_
    rintro _ H1 ⟨rfl, rfl⟩
    refine b_UN_readStretch_39 ?_
    refine ⟨rfl, rfl, Nat.le_refl _, _, rfl, Or.inl ⟨8, a + nb, st, rfl, rfl, _, _, _, _, _, _, _, rfl⟩⟩
  rw [if_neg (by omega)]
  obtain ⟨u1, u2, u3⟩ := dbts_le j (by omega)
  refine xs_callSN rfl lk_9_216 (d' := 0) (c_RP_distanceBits (j := j) (by omega)) (Nat.le_of_ble_eq_true rfl) rfl rfl (Nat.le_of_ble_eq_true rfl) (by omega) (by omega) ?_
  rintro _ H1 ⟨rfl, rfl⟩
  have hrd := rdn_lt T.1 b (dbts j)
  have hp2 : 2 ^ dbts j ≤ 2 ^ 13 := Nat.pow_le_pow_right (by decide) u1
  generalize dbts j = nd at *
  refine xs_callV rfl lk_9_111 (d' := 1) (c_UN_readNumber (gs := (c1, c2, c3, c4, c5, fl, f9)) (n := nd) hT (by omega) q2.2.1 (by omega)) (Nat.le_of_ble_eq_true rfl) rfl rfl rfl rfl rfl (Nat.le_of_ble_eq_true rfl) (by omega) (by omega) ?_
  rintro _ H1 (⟨g2, rfl, rfl⟩ | ⟨g2, rfl, rfl⟩)
  case inr =>
    refine b_UN_readStretch_44 ?_
    refine ⟨fun hh => ?_, fun hh => ?_⟩ <;> (try simp (disch := omega) only [nI_lit, nI_fold, nI_mul, nI_add, pk_sub, pk_div, nI_shrN, nI_clamp, nI_leI, nI_ltI, nI_eq, not_true_eq_false, not_false_eq_true, Bool.false_eq_true, if_true, if_false, nI_nem, nI_m1, nI_m7, nI_m15, nI_m32, nI_m4, nI_m8, nI_m16, nI_m2] at hh) <;> (try omega)
    refine ⟨rfl, rfl, Nat.le_refl _, _, rfl, Or.inl ⟨1, e, st, if_pos (by omega), rfl, _, _, _, _, _, _, _, rfl⟩⟩
  rw [if_neg (by omega)]
  refine b_UN_readStretch_44 ?_
  refine ⟨fun hh => ?_, fun hh => ?_⟩ <;> (try simp (disch := omega) only [nI_lit, nI_fold, nI_mul, nI_add, pk_sub, pk_div, nI_shrN, nI_clamp, nI_leI, nI_ltI, nI_eq, not_true_eq_false, not_false_eq_true, Bool.false_eq_true, if_true, if_false, nI_nem, nI_m1, nI_m7, nI_m15, nI_m32, nI_m4, nI_m8, nI_m16, nI_m2] at hh) <;> (try omega)
  try simp (disch := omega) only [nI_lit, nI_fold, nI_mul, nI_add, pk_sub, pk_div, nI_shrN, nI_clamp]
  refine xs_callSN rfl lk_9_219 (d' := 1) (c_RP_lengthBase (i := y - 257) (by omega)) (Nat.le_of_ble_eq_true rfl) rfl rfl (Nat.le_of_ble_eq_true rfl) (by omega) (by omega) ?_
  rintro _ H1 ⟨rfl, rfl⟩
  refine b_UN_readStretch_54 ?_
  rw [nI_add]
  have hlen : ∃ n, n = lbas (y - 257) + rdn T.1 a nb := ⟨_, rfl⟩
  obtain ⟨len, hlen⟩ := hlen
  rw [← hlen]
  have hlen2 : len < 260 := by omega
  refine xs_callSN rfl lk_9_222 (d' := 1) (c_RP_distanceBase (j := j) (by omega)) (Nat.le_of_ble_eq_true rfl) rfl rfl (Nat.le_of_ble_eq_true rfl) (by omega) (by omega) ?_
  rintro _ H1 ⟨rfl, rfl⟩
  have hdis : ∃ n, n = dbas j + rdn T.1 b nd := ⟨_, rfl⟩
  obtain ⟨dis, hdis⟩ := hdis
  refine b_UN_readStretch_59 ?_
  rw [nI_add, ← hdis]
  have hdis2 : dis < 32769 := by omega
  refine ⟨_, ⟨_, rfl, rfl⟩, _, ⟨_, rfl, rfl⟩, _, ⟨_, rfl, rfl⟩, ?_⟩
  refine ⟨fun hi => ?_, fun hi => ?_⟩ <;> (try simp (disch := omega) only [nI_lit, nI_fold, nI_mul, nI_add, pk_sub, pk_div, nI_shrN, nI_clamp, nI_leI, nI_ltI, nI_eq, not_true_eq_false, not_false_eq_true, Bool.false_eq_true, if_true, if_false, nI_nem, nI_m1, nI_m7, nI_m15, nI_m32, nI_m4, nI_m8, nI_m16, nI_m2] at hi) <;> (try omega)
  case refine_2 =>
    rw [if_pos (by omega)]
    skip
    refine xs_callV rfl lk_9_98 (d' := 0) (c_UN_fail (gs := (c1, c2, c3, c4, c5, fl, f9))) (Nat.le_of_ble_eq_true rfl) rfl rfl rfl rfl rfl (Nat.le_of_ble_eq_true rfl) (by omega) (by omega) ?_
    rintro _ H1 ⟨rfl, rfl⟩
    refine b_UN_readStretch_74 ?_
    refine ⟨rfl, rfl, Nat.le_refl _, _, rfl, Or.inl ⟨9, a + nb, st, rfl, rfl, _, _, _, _, _, _, _, rfl⟩⟩
  rw [if_neg (by omega)]
  refine ⟨_, ⟨_, rfl, rfl⟩, _, ⟨_, rfl, rfl⟩, ?_⟩
  refine ⟨fun hj => ?_, fun hj => ?_⟩ <;> (try simp (disch := omega) only [nI_lit, nI_fold, nI_mul, nI_add, pk_sub, pk_div, nI_shrN, nI_clamp, nI_leI, nI_ltI, nI_eq, not_true_eq_false, not_false_eq_true, Bool.false_eq_true, if_true, if_false, nI_nem, nI_m1, nI_m7, nI_m15, nI_m32, nI_m4, nI_m8, nI_m16, nI_m2] at hj) <;> (try omega)
  case refine_2 =>
    rw [if_pos (by omega)]
    skip
    refine xs_callV rfl lk_9_98 (d' := 0) (c_UN_fail (gs := (c1, c2, c3, c4, c5, fl, f9))) (Nat.le_of_ble_eq_true rfl) rfl rfl rfl rfl rfl (Nat.le_of_ble_eq_true rfl) (by omega) (by omega) ?_
    rintro _ H1 ⟨rfl, rfl⟩
    refine b_UN_readStretch_86 ?_
    refine ⟨rfl, rfl, Nat.le_refl _, _, rfl, Or.inl ⟨10, a0, st, rfl, rfl, _, _, _, _, _, _, _, rfl⟩⟩
  rw [if_neg (by omega)]
  refine ⟨_, ⟨_, rfl, rfl⟩, ?_⟩
  refine xs_callV rfl lk_9_225 (d' := 0) (c_RO_repeat (N := 65536) (ra := 6) (n := rn) (f := rb) (back := dis) (times := len) (by decide) (by omega) (by omega) (by omega) rfl rfl) (Nat.le_of_ble_eq_true rfl) rfl rfl rfl rfl rfl (Nat.le_of_ble_eq_true rfl) (by omega) (by omega) ?_
  rintro _ H1 ⟨rfl, rfl⟩
  refine b_UN_readStretch_92 ⟨_, ⟨_, rfl, rfl⟩, _, ⟨_, rfl, rfl⟩, _, rfl, Nat.le_of_ble_eq_true rfl, fun H4 e4 => ?_⟩
  try simp (disch := omega) only [nI_lit, nI_fold, nI_mul, nI_add, pk_sub, pk_div, nI_shrN, nI_clamp] at e4
  subst e4
  refine ⟨rfl, rfl, Nat.le_refl _, _, rfl, Or.inr ⟨_, rfl, rfl, rfl⟩⟩
theorem UN_syms_loop {n0 : Nat} {Q : xO → xH → Prop} (hT : ∀ i, T.1 i < 256) (he : e = 8 * T.2) (hn : T.2 ≤ 32768) {r b1 b2 b3 r' b1' b2' b3' : Nat} {c c' : wRC} {gL gD : Nat → Nat} {nL nD : Nat} (hnL : nL ≤ 288) (hnD : nD ≤ 288) (hat : atC s0 T k e mb (c1, c2, c3, c4, c5, fl, f9) Z r b1 b2 b3 c) (hok : rcOK c gL nL) (hat' : atC s0 T k e mb (c1, c2, c3, c4, c5, fl, f9) Z r' b1' b2' b3' c') (hok' : rcOK c' gD nD) (z : zS) (hq : ∀ o H', QS s0 T fa pl bl td k e mb c1 c2 c3 c4 c5 fl f9 Z z o H' → Q (.inl o) H') :
    ∀ (m i : Nat) (s : sS) (cl : Bool), i + m = 262144 → sOK e mb s → zsyms T.1 e mb gL nL gD nD m s = z → xW l x 3 0 0 mUN_readSymbols n0 Q cl 2 [some (.ref 51), some (.ref r), some (.ref r'), some (.int (nI i)), none, none] [] (hc s0 T (s.2.1, s.2.2.1) (fa, pl, bl, s.2.2.2, td) k (s.1, e, mb, c1, c2, c3, c4, c5, fl, f9) Z) 0 0 := by
  intro m
  induction m with
  | zero =>
    intro i s cl hi hs hz
    refine b_UN_readSymbols_2 ?_
    refine ⟨fun hb => ?_, fun hb => ?_⟩ <;> (try simp (disch := omega) only [nI_lit, nI_fold, nI_mul, nI_add, pk_sub, pk_div, nI_shrN, nI_clamp, nI_leI, nI_ltI, nI_eq, not_true_eq_false, not_false_eq_true, Bool.false_eq_true, if_true, if_false, nI_nem, nI_m1, nI_m7, nI_m15, nI_m32, nI_m4, nI_m8, nI_m16, nI_m2] at hb) <;> (try omega)
    refine ⟨_, ⟨_, rfl, rfl⟩, ?_⟩
    refine xs_callV rfl lk_9_98 (d' := 0) (c_UN_fail (gs := (c1, c2, c3, c4, c5, fl, f9))) (Nat.le_of_ble_eq_true rfl) rfl rfl rfl rfl rfl (Nat.le_of_ble_eq_true rfl) (by omega) (by omega) ?_
    rintro _ H1 ⟨rfl, rfl⟩
    refine b_UN_readSymbols_54 ?_
    exact ⟨rfl, rfl, Nat.le_refl _, hq _ _ (Or.inl ⟨1, e, _, hz.symm, rfl, _, _, _, _, _, _, _, rfl⟩)⟩
  | succ m ih =>
    intro i s cl hi hs hz
    obtain ⟨a, rb, rn, st⟩ := s
    obtain ⟨h1, h2, h3, h4⟩ := id hs
    dsimp only at h1 h2 h3 h4
    unfold zsyms at hz
    dsimp only at hz
    refine b_UN_readSymbols_2 ?_
    refine ⟨fun hb => ?_, fun hb => ?_⟩ <;> (try simp (disch := omega) only [nI_lit, nI_fold, nI_mul, nI_add, pk_sub, pk_div, nI_shrN, nI_clamp, nI_leI, nI_ltI, nI_eq, not_true_eq_false, not_false_eq_true, Bool.false_eq_true, if_true, if_false, nI_nem, nI_m1, nI_m7, nI_m15, nI_m32, nI_m4, nI_m8, nI_m16, nI_m2] at hb) <;> (try omega)
    refine ⟨_, ⟨_, rfl, rfl⟩, ?_⟩
    refine xs_callV rfl lk_9_201 (d' := 1) (c_UN_readSymbol (gs := (c1, c2, c3, c4, c5, fl, f9)) hT (by omega) hn hnL (a := a) (by omega) (fun _ => (hat _ _ _).1) (fun _ => (hat _ _ _).2.1) (fun _ => (hat _ _ _).2.2) hok) (Nat.le_of_ble_eq_true rfl) rfl rfl rfl rfl rfl (Nat.le_of_ble_eq_true rfl) (by omega) (by omega) ?_
    intro o H1 hY
    rcases hY.cases with ⟨f, p, a', q1, rfl, rfl⟩ | ⟨y, b, q1, rfl, rfl⟩
    · rw [q1] at hz
      refine b_UN_readSymbols_11 ?_
      refine ⟨fun hg => ?_, fun hg => ?_⟩ <;> (try simp (disch := omega) only [nI_lit, nI_fold, nI_mul, nI_add, pk_sub, pk_div, nI_shrN, nI_clamp, nI_leI, nI_ltI, nI_eq, not_true_eq_false, not_false_eq_true, Bool.false_eq_true, if_true, if_false, nI_nem, nI_m1, nI_m7, nI_m15, nI_m32, nI_m4, nI_m8, nI_m16, nI_m2] at hg) <;> (try omega)
      exact ⟨rfl, rfl, Nat.le_refl _, hq _ _ (Or.inl ⟨f, p, _, hz.symm, rfl, _, _, _, _, _, _, _, rfl⟩)⟩
    have q2 := zs_le q1
    rw [q1] at hz
    dsimp only at hz
    refine b_UN_readSymbols_11 ?_
    refine ⟨fun hg => ?_, fun hg => ?_⟩ <;> (try simp (disch := omega) only [nI_lit, nI_fold, nI_mul, nI_add, pk_sub, pk_div, nI_shrN, nI_clamp, nI_leI, nI_ltI, nI_eq, not_true_eq_false, not_false_eq_true, Bool.false_eq_true, if_true, if_false, nI_nem, nI_m1, nI_m7, nI_m15, nI_m32, nI_m4, nI_m8, nI_m16, nI_m2] at hg) <;> (try omega)
    refine ⟨fun hg => ?_, fun hg => ?_⟩ <;> (try simp (disch := omega) only [nI_lit, nI_fold, nI_mul, nI_add, pk_sub, pk_div, nI_shrN, nI_clamp, nI_leI, nI_ltI, nI_eq, not_true_eq_false, not_false_eq_true, Bool.false_eq_true, if_true, if_false, nI_nem, nI_m1, nI_m7, nI_m15, nI_m32, nI_m4, nI_m8, nI_m16, nI_m2] at hg) <;> (try omega)
    case refine_2 =>
      rw [if_pos hg] at hz
      exact ⟨rfl, rfl, Nat.le_refl _, hq _ _ (Or.inr ⟨_, hz.symm, rfl, rfl⟩)⟩
    rw [if_neg hg] at hz
    refine ⟨fun hh => ?_, fun hh => ?_⟩ <;> (try simp (disch := omega) only [nI_lit, nI_fold, nI_mul, nI_add, pk_sub, pk_div, nI_shrN, nI_clamp, nI_leI, nI_ltI, nI_eq, not_true_eq_false, not_false_eq_true, Bool.false_eq_true, if_true, if_false, nI_nem, nI_m1, nI_m7, nI_m15, nI_m32, nI_m4, nI_m8, nI_m16, nI_m2] at hh) <;> (try omega)
    · rw [if_neg (by omega)] at hz
      refine ⟨_, ⟨_, rfl, rfl⟩, _, ⟨_, rfl, rfl⟩, ?_⟩
      refine ⟨fun hj => ?_, fun hj => ?_⟩ <;> (try simp (disch := omega) only [nI_lit, nI_fold, nI_mul, nI_add, pk_sub, pk_div, nI_shrN, nI_clamp, nI_leI, nI_ltI, nI_eq, not_true_eq_false, not_false_eq_true, Bool.false_eq_true, if_true, if_false, nI_nem, nI_m1, nI_m7, nI_m15, nI_m32, nI_m4, nI_m8, nI_m16, nI_m2] at hj) <;> (try omega)
      · rw [if_neg hj] at hz
        refine ⟨_, ⟨_, rfl, rfl⟩, ?_⟩
        refine xs_callV rfl lk_9_209 (d' := 0) (c_RO_add (N := 65536) (a := 6) (n := rn) (t := rb) rfl rfl (by omega) (by decide)) (Nat.le_of_ble_eq_true rfl) rfl rfl rfl rfl rfl (Nat.le_of_ble_eq_true rfl) (by omega) (by omega) ?_
        rintro _ H1 ⟨rfl, rfl⟩
        refine b_UN_readSymbols_47 ?_
        rw [nI_1]
        refine xW.fgt 4 (xW.fgt 5 ?_)
        have hu : uN8 (nI y) = y := by unfold uN8; rw [pk_tn (by omega)]; omega
        rw [hu]
        exact ih (i + 1) (b, nup rb rn y, rn + 1, st) false (by omega) ⟨by dsimp only; omega, by dsimp only; omega, by dsimp only; omega, fun i => by dsimp only [nup]; split; omega; exact h4 i⟩ hz
      · rw [if_pos hj] at hz
        skip
        refine xs_callV rfl lk_9_98 (d' := 0) (c_UN_fail (gs := (c1, c2, c3, c4, c5, fl, f9))) (Nat.le_of_ble_eq_true rfl) rfl rfl rfl rfl rfl (Nat.le_of_ble_eq_true rfl) (by omega) (by omega) ?_
        rintro _ H1 ⟨rfl, rfl⟩
        refine b_UN_readSymbols_42 ?_
        exact ⟨rfl, rfl, Nat.le_refl _, hq _ _ (Or.inl ⟨10, a, _, hz.symm, rfl, _, _, _, _, _, _, _, rfl⟩)⟩
    · rw [if_pos (by omega)] at hz
      refine xs_callV rfl lk_9_205 (d' := 2) (c_UN_readStretch (s := (b, rb, rn, st)) (y := y) (a0 := a) hT he hn hnD hat' hok' (by omega) (by omega) h1 ⟨by dsimp only; omega, by dsimp only; omega, by dsimp only; omega, fun i => by dsimp only; exact h4 i⟩) (Nat.le_of_ble_eq_true rfl) rfl rfl rfl rfl rfl (Nat.le_of_ble_eq_true rfl) (by omega) (by omega) ?_
      rintro o H1 (⟨f, p, st', q3, rfl, R', a', mb', c3', c4', c5', fl', rfl⟩ | ⟨s', q3, rfl, rfl⟩)
      · rw [q3] at hz
        refine b_UN_readSymbols_30 ?_
        refine ⟨fun hj => ?_, fun hj => ?_⟩ <;> (try simp (disch := omega) only [nI_lit, nI_fold, nI_mul, nI_add, pk_sub, pk_div, nI_shrN, nI_clamp, nI_leI, nI_ltI, nI_eq, not_true_eq_false, not_false_eq_true, Bool.false_eq_true, if_true, if_false, nI_nem, nI_m1, nI_m7, nI_m15, nI_m32, nI_m4, nI_m8, nI_m16, nI_m2] at hj) <;> (try omega)
        exact ⟨rfl, rfl, Nat.le_refl _, hq _ _ (Or.inl ⟨f, p, st', hz.symm, rfl, _, _, _, _, _, _, _, rfl⟩)⟩
      · rw [q3] at hz
        have q4 := zstr_ok (s := (b, rb, rn, st)) ⟨by dsimp only; omega, by dsimp only; omega, by dsimp only; omega, fun i => by dsimp only; exact h4 i⟩ q3
        refine b_UN_readSymbols_30 ?_
        refine ⟨fun hj => ?_, fun hj => ?_⟩ <;> (try simp (disch := omega) only [nI_lit, nI_fold, nI_mul, nI_add, pk_sub, pk_div, nI_shrN, nI_clamp, nI_leI, nI_ltI, nI_eq, not_true_eq_false, not_false_eq_true, Bool.false_eq_true, if_true, if_false, nI_nem, nI_m1, nI_m7, nI_m15, nI_m32, nI_m4, nI_m8, nI_m16, nI_m2] at hj) <;> (try omega)
        refine b_UN_readSymbols_47 ?_
        rw [nI_1]
        refine xW.fgt 4 (xW.fgt 5 ?_)
        exact ih (i + 1) s' false (by omega) q4.1 hz
theorem c_UN_readSymbols (hT : ∀ i, T.1 i < 256) (he : e = 8 * T.2) (hn : T.2 ≤ 32768) {r b1 b2 b3 r' b1' b2' b3' : Nat} {c c' : wRC} {gL gD : Nat → Nat} {nL nD : Nat} (hnL : nL ≤ 288) (hnD : nD ≤ 288) (hat : atC s0 T k e mb (c1, c2, c3, c4, c5, fl, f9) Z r b1 b2 b3 c) (hok : rcOK c gL nL) (hat' : atC s0 T k e mb (c1, c2, c3, c4, c5, fl, f9) Z r' b1' b2' b3' c') (hok' : rcOK c' gD nD) {s : sS} (hs : sOK e mb s) :
    xCr l x 3 0 0 mUN_readSymbols [.ref 51, .ref r, .ref r'] (hc s0 T (s.2.1, s.2.2.1) (fa, pl, bl, s.2.2.2, td) k (s.1, e, mb, c1, c2, c3, c4, c5, fl, f9) Z) (fun o H' => QS s0 T fa pl bl td k e mb c1 c2 c3 c4 c5 fl f9 Z (zsyms T.1 e mb gL nL gD nD 262144 s) o H') := by
  refine xCt.of (by decide) rfl ck_UN_readSymbols (Nat.le_of_ble_eq_true rfl) rfl ?_
  refine b_UN_readSymbols_0 ?_
  exact UN_syms_loop hT he hn hnL hnD hat hok hat' hok' _ (fun o H' h => ⟨_, rfl, h⟩) 262144 0 s true (by omega) hs rfl
end USyms
