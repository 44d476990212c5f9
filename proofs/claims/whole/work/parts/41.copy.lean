theorem la_3_69 : x_LA 3 69 := ⟨x_tb3 (List.mem_of_getElem? (i := 211) rfl), x_tb3 (List.mem_of_getElem? (i := 213) rfl), x_tb3 (List.mem_of_getElem? (i := 212) rfl), x_tb1 (List.mem_of_getElem? (i := 22) rfl)⟩
theorem la_9_177 : x_LA 9 177 := ⟨x_tb4 (List.mem_of_getElem? (i := 141) rfl), x_tb3 (List.mem_of_getElem? (i := 213) rfl), x_tb3 (List.mem_of_getElem? (i := 212) rfl), x_tb1 (List.mem_of_getElem? (i := 22) rfl)⟩
theorem la_17_150 : x_LA 17 150 := ⟨x_tb5 (List.mem_of_getElem? (i := 6) rfl), x_tb3 (List.mem_of_getElem? (i := 213) rfl), x_tb3 (List.mem_of_getElem? (i := 212) rfl), x_tb1 (List.mem_of_getElem? (i := 22) rfl)⟩
theorem la_0_93 : x_LA 0 93 := ⟨x_tb6 (List.mem_of_getElem? (i := 2) rfl), x_tb3 (List.mem_of_getElem? (i := 213) rfl), x_tb3 (List.mem_of_getElem? (i := 212) rfl), x_tb1 (List.mem_of_getElem? (i := 22) rfl)⟩
/-! the tables of lengths and distances -/
def lbts (i : Nat) : Nat := if i < 8 ∨ i = 28 then 0 else i / 4 - 1
def lbas (i : Nat) : Nat := if i < 8 then 3 + i else if i = 28 then 258 else (4 + i % 4) * 2 ^ (i / 4 - 1) + 3
def dbts (j : Nat) : Nat := if j < 4 then 0 else j / 2 - 1
def dbas (j : Nat) : Nat := if j < 4 then 1 + j else (2 + j % 2) * 2 ^ (j / 2 - 1) + 1
theorem lbts_le : ∀ i, i < 29 → lbts i ≤ 5 ∧ 3 ≤ lbas i ∧ lbas i + 2 ^ lbts i ≤ 260 := by decide +kernel
theorem dbts_le : ∀ j, j < 30 → dbts j ≤ 13 ∧ 1 ≤ dbas j ∧ dbas j + 2 ^ dbts j ≤ 32769 := by decide +kernel
section Tabs
variable {l : Launch} {x : xX} {d : Nat} {H : xH}
theorem c_RP_lengthBits {i : Nat} (hi : i < 29) : xCr l x d 0 0 mRP_lengthBits [.int (nI i)] H (fun o H' => o = some (.int (nI (lbts i))) ∧ H' = H) := by
  refine xCt.of (by decide) rfl ck_RP_lengthBits (Nat.le_of_ble_eq_true rfl) rfl ?_
  refine b_RP_lengthBits_0 ?_
  refine ⟨fun hb => ?_, fun hb => ?_⟩ <;> (try simp (disch := omega) only [nI_lit, nI_fold, nI_mul, nI_add, pk_sub, pk_div, nI_shrN, nI_clamp, nI_leI, nI_ltI, nI_eq, not_true_eq_false, not_false_eq_true, Bool.false_eq_true, if_true, if_false, nI_nem, nI_m1, nI_m7, nI_m15, nI_m32, nI_m4, nI_m8, nI_m16, nI_m2] at hb) <;> (try omega)
  · refine ⟨rfl, Nat.le_refl _, _, rfl, ⟨by unfold lbts; rw [if_pos (by omega)]; rfl, rfl⟩⟩
  refine ⟨fun hd => ?_, fun hd => ?_⟩ <;> (try simp (disch := omega) only [nI_lit, nI_fold, nI_mul, nI_add, pk_sub, pk_div, nI_shrN, nI_clamp, nI_leI, nI_ltI, nI_eq, not_true_eq_false, not_false_eq_true, Bool.false_eq_true, if_true, if_false, nI_nem, nI_m1, nI_m7, nI_m15, nI_m32, nI_m4, nI_m8, nI_m16, nI_m2] at hd) <;> (try omega)
  · refine ⟨rfl, Nat.le_refl _, _, rfl, ⟨by simp (disch := omega) only [nI_lit, nI_fold, nI_mul, nI_add, pk_sub, pk_div, nI_shrN, nI_clamp]; unfold lbts; rw [if_neg (by omega)], rfl⟩⟩
  · refine ⟨rfl, Nat.le_refl _, _, rfl, ⟨by unfold lbts; rw [if_pos (by omega)]; rfl, rfl⟩⟩
theorem c_RP_distanceBits {j : Nat} (hj : j < 30) : xCr l x d 0 0 mRP_distanceBits [.int (nI j)] H (fun o H' => o = some (.int (nI (dbts j))) ∧ H' = H) := by
  refine xCt.of (by decide) rfl ck_RP_distanceBits (Nat.le_of_ble_eq_true rfl) rfl ?_
  refine b_RP_distanceBits_0 ?_
  refine ⟨fun hb => ?_, fun hb => ?_⟩ <;> (try simp (disch := omega) only [nI_lit, nI_fold, nI_mul, nI_add, pk_sub, pk_div, nI_shrN, nI_clamp, nI_leI, nI_ltI, nI_eq, not_true_eq_false, not_false_eq_true, Bool.false_eq_true, if_true, if_false, nI_nem, nI_m1, nI_m7, nI_m15, nI_m32, nI_m4, nI_m8, nI_m16, nI_m2] at hb) <;> (try omega)
  · refine ⟨rfl, Nat.le_refl _, _, rfl, ⟨by simp (disch := omega) only [nI_lit, nI_fold, nI_mul, nI_add, pk_sub, pk_div, nI_shrN, nI_clamp]; unfold dbts; rw [if_neg (by omega)], rfl⟩⟩
  · refine ⟨rfl, Nat.le_refl _, _, rfl, ⟨by unfold dbts; rw [if_pos (by omega)]; rfl, rfl⟩⟩
theorem c_RP_lengthBase {i : Nat} (hi : i < 29) : xCr l x 1 0 0 mRP_lengthBase [.int (nI i)] H (fun o H' => o = some (.int (nI (lbas i))) ∧ H' = H) := by
  refine xCt.of (by decide) rfl ck_RP_lengthBase (Nat.le_of_ble_eq_true rfl) rfl ?_
  refine b_RP_lengthBase_0 ?_
  refine ⟨fun hb => ?_, fun hb => ?_⟩ <;> (try simp (disch := omega) only [nI_lit, nI_fold, nI_mul, nI_add, pk_sub, pk_div, nI_shrN, nI_clamp, nI_leI, nI_ltI, nI_eq, not_true_eq_false, not_false_eq_true, Bool.false_eq_true, if_true, if_false, nI_nem, nI_m1, nI_m7, nI_m15, nI_m32, nI_m4, nI_m8, nI_m16, nI_m2] at hb) <;> (try omega)
  · refine ⟨fun hd => ?_, fun hd => ?_⟩ <;> (try simp (disch := omega) only [nI_lit, nI_fold, nI_mul, nI_add, pk_sub, pk_div, nI_shrN, nI_clamp, nI_leI, nI_ltI, nI_eq, not_true_eq_false, not_false_eq_true, Bool.false_eq_true, if_true, if_false, nI_nem, nI_m1, nI_m7, nI_m15, nI_m32, nI_m4, nI_m8, nI_m16, nI_m2] at hd) <;> (try omega)
    · simp (disch := omega) only [nI_lit, pk_rem, nI_add]
      refine xs_callS rfl lk_0_116 (d' := 0) (c_RP_lengthBits hi) (Nat.le_of_ble_eq_true rfl) rfl rfl (Nat.le_of_ble_eq_true rfl) (by omega) (by omega) ?_
      rintro _ H1 ⟨rfl, rfl⟩
      refine b_RP_lengthBase_19 ?_
      have h1 : lbts i = i / 4 - 1 := by unfold lbts; rw [if_neg (by omega)]
      have h2 : 2 ^ (i / 4 - 1) ≤ 2 ^ 6 := Nat.pow_le_pow_right (by decide) (by omega)
      have h3 : (4 + i % 4) * 2 ^ (i / 4 - 1) ≤ 7 * 2 ^ 6 := Nat.mul_le_mul (by omega) h2
      rw [h1, nI_shl (by omega) (by omega), show (3 : Int32) = nI 3 from rfl, nI_add]
      refine ⟨rfl, Nat.le_refl _, _, rfl, ⟨by unfold lbas; rw [if_neg (by omega), if_neg (by omega)], rfl⟩⟩
    · refine ⟨rfl, Nat.le_refl _, _, rfl, ⟨by unfold lbas; rw [if_neg (by omega), if_pos (by omega)]; rfl, rfl⟩⟩
  · refine ⟨rfl, Nat.le_refl _, _, rfl, ⟨by simp (disch := omega) only [nI_lit, nI_fold, nI_mul, nI_add, pk_sub, pk_div, nI_shrN, nI_clamp]; unfold lbas; rw [if_pos (by omega)], rfl⟩⟩
theorem c_RP_distanceBase {j : Nat} (hj : j < 30) : xCr l x 1 0 0 mRP_distanceBase [.int (nI j)] H (fun o H' => o = some (.int (nI (dbas j))) ∧ H' = H) := by
  refine xCt.of (by decide) rfl ck_RP_distanceBase (Nat.le_of_ble_eq_true rfl) rfl ?_
  refine b_RP_distanceBase_0 ?_
  refine ⟨fun hb => ?_, fun hb => ?_⟩ <;> (try simp (disch := omega) only [nI_lit, nI_fold, nI_mul, nI_add, pk_sub, pk_div, nI_shrN, nI_clamp, nI_leI, nI_ltI, nI_eq, not_true_eq_false, not_false_eq_true, Bool.false_eq_true, if_true, if_false, nI_nem, nI_m1, nI_m7, nI_m15, nI_m32, nI_m4, nI_m8, nI_m16, nI_m2] at hb) <;> (try omega)
  · simp (disch := omega) only [nI_lit, pk_rem, nI_add]
    refine xs_callS rfl lk_0_123 (d' := 0) (c_RP_distanceBits hj) (Nat.le_of_ble_eq_true rfl) rfl rfl (Nat.le_of_ble_eq_true rfl) (by omega) (by omega) ?_
    rintro _ H1 ⟨rfl, rfl⟩
    refine b_RP_distanceBase_14 ?_
    have h1 : dbts j = j / 2 - 1 := by unfold dbts; rw [if_neg (by omega)]
    have h2 : 2 ^ (j / 2 - 1) ≤ 2 ^ 13 := Nat.pow_le_pow_right (by decide) (by omega)
    have h3 : (2 + j % 2) * 2 ^ (j / 2 - 1) ≤ 3 * 2 ^ 13 := Nat.mul_le_mul (by omega) h2
    rw [h1, nI_shl (by omega) (by omega), show (1 : Int32) = nI 1 from rfl, nI_add]
    refine ⟨rfl, Nat.le_refl _, _, rfl, ⟨by unfold dbas; rw [if_neg (by omega)], rfl⟩⟩
  · refine ⟨rfl, Nat.le_refl _, _, rfl, ⟨by simp (disch := omega) only [nI_lit, nI_fold, nI_mul, nI_add, pk_sub, pk_div, nI_shrN, nI_clamp]; unfold dbas; rw [if_pos (by omega)], rfl⟩⟩
end Tabs
/-- so many bytes again, from so far back -/
def repN (f : Nat → Nat) (n back : Nat) : Nat → Nat → Nat
  | 0 => f
  | j + 1 => nup (repN f n back j) (n + j) (repN f n back j (n + j - back))
theorem repN_lt {f : Nat → Nat} (hf : ∀ i, f i < 256) (n back : Nat) : ∀ j i, repN f n back j i < 256 := by
  intro j
  induction j with
  | zero => exact hf
  | succ j ih => intro i; unfold repN nup; split; exact ih _; exact ih _
theorem bF_up {t : Nat → Nat} {k v : Nat} : upd (bF t) k (vp_nar .byte (sb_b v)) = bF (nup t k v) := by
  funext j
  simp only [upd, bF, nup]
  split
  · unfold sb_b; rw [pk_vb]
  · rfl
section Rep
variable {l : Launch} {x : xX} {d : Nat} {n0 : Nat} {Q : xO → xH → Prop} {r ra N n back times : Nat} {f : Nat → Nat}
theorem RO_rep_loop (hN : N < 2 ^ 30) (hb : 1 ≤ back) (hbn : back ≤ n) (hnt : n + times ≤ N) (hne : ra ≠ r) : ∀ (k j : Nat) (H : xH) (cl : Bool), j + k = times → H[r]? = some (cRO ra (nI n)) → H[ra]? = some (aB N (bF (repN f n back j))) → Q (.inl none) ((H.set ra (aB N (bF (repN f n back times)))).set r (cRO ra (nI (n + times)))) → xW l x d 0 0 mRO_repeat n0 Q cl 8 [some (.ref r), some (.int (nI back)), some (.int (nI times)), some (.int (nI (n + times))), some (.int (nI (n + j)))] [] H 0 0 := by
  intro k
  induction k with
  | zero =>
    intro j H cl hj h1 h2 hq
    have : j = times := by omega
    subst this
    refine b_RO_repeat_8 ?_
    refine ⟨fun hc => ?_, fun hc => ?_⟩ <;> (try simp (disch := omega) only [nI_lit, nI_fold, nI_mul, nI_add, pk_sub, pk_div, nI_shrN, nI_clamp, nI_leI, nI_ltI, nI_eq, not_true_eq_false, not_false_eq_true, Bool.false_eq_true, if_true, if_false, nI_nem, nI_m1, nI_m7, nI_m15, nI_m32, nI_m4, nI_m8, nI_m16, nI_m2] at hc) <;> (try omega)
    refine ⟨_, h1, Nat.le_of_ble_eq_true rfl, fun H2 e2 => ⟨rfl, Nat.le_refl _, ?_⟩⟩
    rw [x_sid h2] at hq
    rw [e2]
    exact hq
  | succ k ih =>
    intro j H cl hj h1 h2 hq
    refine b_RO_repeat_8 ?_
    refine ⟨fun hc => ?_, fun hc => ?_⟩ <;> (try simp (disch := omega) only [nI_lit, nI_fold, nI_mul, nI_add, pk_sub, pk_div, nI_shrN, nI_clamp, nI_leI, nI_ltI, nI_eq, not_true_eq_false, not_false_eq_true, Bool.false_eq_true, if_true, if_false, nI_nem, nI_m1, nI_m7, nI_m15, nI_m32, nI_m4, nI_m8, nI_m16, nI_m2] at hc) <;> (try omega)
    refine ⟨_, ⟨_, h1, rfl⟩, _, ⟨_, h1, rfl⟩, _, _, h2, ?_, _, _, h2, vp_in_nI (by omega) (by omega), fun H9 e9 => ?_⟩
    · rw [pk_sub (by omega)]; exact vp_in_nI (by omega) (by omega)
    rw [pk_sub (by omega), nI_clamp (by omega), nI_clamp (by omega), bF_up] at e9
    rw [nI_1]
    refine ih (j + 1) H9 false (by omega) (x_gn e9 h1 hne) (x_gs e9 h2) ?_
    rw [e9, List.set_set]
    exact hq
theorem c_RO_repeat {H : xH} (hN : N < 2 ^ 30) (hb : 1 ≤ back) (hbn : back ≤ n) (hnt : n + times ≤ N) (h1 : H[r]? = some (cRO ra (nI n))) (h2 : H[ra]? = some (aB N (bF f))) : xCr l x d 0 0 mRO_repeat [.ref r, .int (nI back), .int (nI times)] H (fun o H' => o = none ∧ H' = (H.set ra (aB N (bF (repN f n back times)))).set r (cRO ra (nI (n + times)))) := by
  have hne : ra ≠ r := by rintro rfl; rw [h1] at h2; cases h2
  refine xCt.of (by decide) rfl ck_RO_repeat (Nat.le_of_ble_eq_true rfl) rfl ?_
  refine b_RO_repeat_0 ⟨_, ⟨_, h1, rfl⟩, _, ⟨_, h1, rfl⟩, ?_⟩
  rw [nI_add]
  exact RO_rep_loop hN hb hbn hnt hne times 0 H true (by omega) h1 h2 ⟨_, rfl, rfl, rfl⟩
end Rep
/-- a block is noted -/
def noteT (td : Nat → Nat) (bl k f b y : Nat) : Nat → Nat := if bl < 64 then nup (nup (nup (nup td (4 * bl) k) (4 * bl + 1) f) (4 * bl + 2) b) (4 * bl + 3) y else td
abbrev nF (t : Nat → Nat) : wF := fun i => nI (t i)
section Note
variable {l : Launch} {x : xX} {d : Nat} {s0 : va_E} {T R : wRow} {k : wPK} {u : wUN} {Z : xH} {fa pl : Int32} {bl st : Nat} {td : Nat → Nat}
theorem c_RE_addBlock {a b c d' : Nat} (hbl : bl < 2 ^ 20) : xCr l x d 0 0 mRE_addBlock [.ref 7, .int (nI a), .int (nI b), .int (nI c), .int (nI d')] (hc s0 T R (fa, pl, bl, st, nF td) k u Z) (fun o H' => o = none ∧ H' = hc s0 T R (fa, pl, bl + 1, st, nF (noteT td bl a b c d')) k u Z) := by
  refine xCt.of (by decide) rfl ck_RE_addBlock (Nat.le_of_ble_eq_true rfl) rfl ?_
  refine b_RE_addBlock_0 ⟨_, ⟨_, rfl, rfl⟩, ?_⟩
  refine ⟨fun hb => ?_, fun hb => ?_⟩ <;> (try simp (disch := omega) only [nI_lit, nI_fold, nI_mul, nI_add, pk_sub, pk_div, nI_shrN, nI_clamp, nI_leI, nI_ltI, nI_eq, not_true_eq_false, not_false_eq_true, Bool.false_eq_true, if_true, if_false, nI_nem, nI_m1, nI_m7, nI_m15, nI_m32, nI_m4, nI_m8, nI_m16, nI_m2] at hb) <;> (try omega)
  · refine ⟨_, ⟨_, rfl, rfl⟩, _, rfl, Nat.le_of_ble_eq_true rfl, fun H4 e4 => ?_⟩
    try simp (disch := omega) only [nI_lit, nI_fold, nI_mul, nI_add, pk_sub, pk_div, nI_shrN, nI_clamp] at e4
    subst e4
    refine ⟨rfl, Nat.le_refl _, _, rfl, ⟨rfl, by unfold noteT; rw [if_neg (by omega)]; rfl⟩⟩
  · refine ⟨_, ⟨_, rfl, rfl⟩, _, ⟨_, rfl, rfl⟩, _, _, rfl, Nat.le_of_ble_eq_true rfl, (by (try simp (disch := omega) only [nI_lit, nI_fold, nI_mul, nI_add, pk_sub, pk_div, nI_shrN, nI_clamp]); (with_reducible refine vp_in_nI ?_ ?_) <;> omega), fun H9 e9 => ?_⟩
    try simp (disch := omega) only [nI_lit, nI_fold, nI_mul, nI_add, pk_sub, pk_div, nI_shrN, nI_clamp] at e9
    subst e9
    refine ⟨_, ⟨_, rfl, rfl⟩, _, _, rfl, Nat.le_of_ble_eq_true rfl, (by (try simp (disch := omega) only [nI_lit, nI_fold, nI_mul, nI_add, pk_sub, pk_div, nI_shrN, nI_clamp]); (with_reducible refine vp_in_nI ?_ ?_) <;> omega), fun H13 e13 => ?_⟩
    try simp (disch := omega) only [nI_lit, nI_fold, nI_mul, nI_add, pk_sub, pk_div, nI_shrN, nI_clamp] at e13
    subst e13
    refine ⟨_, ⟨_, rfl, rfl⟩, _, _, rfl, Nat.le_of_ble_eq_true rfl, (by (try simp (disch := omega) only [nI_lit, nI_fold, nI_mul, nI_add, pk_sub, pk_div, nI_shrN, nI_clamp]); (with_reducible refine vp_in_nI ?_ ?_) <;> omega), fun H17 e17 => ?_⟩
    try simp (disch := omega) only [nI_lit, nI_fold, nI_mul, nI_add, pk_sub, pk_div, nI_shrN, nI_clamp] at e17
    subst e17
    refine ⟨_, ⟨_, rfl, rfl⟩, _, _, rfl, Nat.le_of_ble_eq_true rfl, (by (try simp (disch := omega) only [nI_lit, nI_fold, nI_mul, nI_add, pk_sub, pk_div, nI_shrN, nI_clamp]); (with_reducible refine vp_in_nI ?_ ?_) <;> omega), fun H21 e21 => ?_⟩
    try simp (disch := omega) only [nI_lit, nI_fold, nI_mul, nI_add, pk_sub, pk_div, nI_shrN, nI_clamp] at e21
    subst e21
    refine ⟨_, ⟨_, rfl, rfl⟩, _, rfl, Nat.le_of_ble_eq_true rfl, fun H24 e24 => ?_⟩
    try simp (disch := omega) only [nI_lit, nI_fold, nI_mul, nI_add, pk_sub, pk_div, nI_shrN, nI_clamp] at e24
    subst e24
    refine ⟨rfl, Nat.le_refl _, _, rfl, rfl, ?_⟩
    unfold noteT
    rw [if_pos (by omega)]
    rw [nF_up, nF_up, nF_up, nF_up]
    rfl
end Note
