/-! stretches -/
def sm (t : Nat → Nat) (q p : Nat) : Nat → Nat → Nat
  | 0, n => n
  | m + 1, n => if t (q + n) = t (p + n) then sm t q p m (n + 1) else n
theorem sm_ge (t : Nat → Nat) (q p : Nat) : ∀ m n, n ≤ sm t q p m n ∧ sm t q p m n ≤ n + m := by
  intro m
  induction m with
  | zero => intro n; exact ⟨Nat.le_refl _, Nat.le_refl _⟩
  | succ m ih =>
    intro n
    unfold sm
    split
    · have := ih (n + 1); omega
    · omega
theorem sm_eq {t : Nat → Nat} {q p : Nat} : ∀ m n i, n ≤ i → i < sm t q p m n → t (q + i) = t (p + i) := by
  intro m
  induction m with
  | zero => intro n i h1 h2; unfold sm at h2; omega
  | succ m ih =>
    intro n i h1 h2
    unfold sm at h2
    split at h2
    · rename_i h
      by_cases hi : i = n
      · rw [hi]; exact h
      · exact ih (n + 1) i (by omega) h2
    · omega
def smL (t : Nat → Nat) (q p most : Nat) : Nat := sm t q p most 0
theorem smL_le (t : Nat → Nat) (q p most : Nat) : smL t q p most ≤ most := by have := sm_ge t q p most 0; unfold smL; omega
theorem smL_eq {t : Nat → Nat} {q p most i : Nat} (h : i < smL t q p most) : t (q + i) = t (p + i) := sm_eq most 0 i (Nat.zero_le _) h
def st (t : Nat → Nat) (p most : Nat) : Nat → Nat × Nat
  | 0 => (2, 0)
  | d + 1 => if (st t p most d).1 < smL t (p - (d + 1)) p most then (smL t (p - (d + 1)) p most, d + 1) else st t p most d
theorem st_lo (t : Nat → Nat) (p most : Nat) : ∀ d, 2 ≤ (st t p most d).1 := by
  intro d
  induction d with
  | zero => exact Nat.le_refl _
  | succ d ih => unfold st; split; dsimp only; omega; exact ih
theorem st_hi (t : Nat → Nat) (p most : Nat) : ∀ d, 2 < (st t p most d).1 → (st t p most d).1 ≤ most ∧ 1 ≤ (st t p most d).2 ∧ (st t p most d).2 ≤ d := by
  intro d
  induction d with
  | zero => intro h; exact absurd h (Nat.lt_irrefl 2)
  | succ d ih =>
    intro h
    unfold st at h ⊢
    split
    · exact ⟨smL_le _ _ _ _, Nat.succ_le_succ (Nat.zero_le _), Nat.le_refl _⟩
    · rename_i hn
      rw [if_neg hn] at h
      have := ih h
      omega
theorem st_2 (t : Nat → Nat) (p most : Nat) : ∀ d, ¬ 2 < (st t p most d).1 → st t p most d = (2, 0) := by
  intro d
  induction d with
  | zero => intro _; rfl
  | succ d ih =>
    intro h
    unfold st at h ⊢
    have hl := st_lo t p most d
    split
    · rename_i hn
      rw [if_pos hn] at h
      dsimp only at h
      omega
    · rename_i hn
      rw [if_neg hn] at h
      exact ih h
theorem st_stop {t : Nat → Nat} {p most d : Nat} (h : most ≤ (st t p most d).1) : ∀ j, st t p most (d + j) = st t p most d := by
  intro j
  induction j with
  | zero => rfl
  | succ j ih =>
    show (if (st t p most (d + j)).1 < smL t (p - (d + j + 1)) p most then (smL t (p - (d + j + 1)) p most, d + j + 1) else st t p most (d + j)) = _
    have := smL_le t (p - (d + j + 1)) p most
    rw [ih, if_neg (by omega)]
def mst (n p : Nat) : Nat := if 258 ≤ n - p then 258 else n - p
def dmx (p : Nat) : Nat := if 4096 ≤ p then 4096 else p
def stO (t : Nat → Nat) (n p : Nat) : Nat × Nat := if 2 < (st t p (mst n p) (dmx p)).1 then st t p (mst n p) (dmx p) else (0, 0)
theorem stO_ok {t : Nat → Nat} {n p : Nat} (h : 0 < (stO t n p).1) : 3 ≤ (stO t n p).1 ∧ (stO t n p).1 ≤ 258 ∧ p + (stO t n p).1 ≤ n ∧ 1 ≤ (stO t n p).2 ∧ (stO t n p).2 ≤ 4096 ∧ (stO t n p).2 ≤ p := by
  unfold stO at h ⊢
  split
  · rename_i h2
    have h3 := st_hi t p (mst n p) (dmx p) h2
    have h4 : mst n p ≤ 258 ∧ mst n p ≤ n - p := by unfold mst; split <;> omega
    have h5 : dmx p ≤ 4096 ∧ dmx p ≤ p := by unfold dmx; split <;> omega
    omega
  · rename_i h2
    rw [if_neg h2] at h
    exact absurd h (Nat.lt_irrefl _)
theorem bF_eq {t : Nat → Nat} (ht : ∀ i, t i < 256) (a b : Nat) : (bF t a = bF t b) ↔ t a = t b := by
  constructor
  · intro h
    have h2 := congrArg uN8 h
    rw [show uN8 (bF t a) = t a from uN8_sb _ (ht a), show uN8 (bF t b) = t b from uN8_sb _ (ht b)] at h2
    exact h2
  · intro h
    show sb_b (t a) = sb_b (t b)
    rw [h]
section MStr
variable {l : Launch} {x : xX} {d : Nat} {C : Nat → va_E} {cd : Int32} {T R : wRow} {P : wRp} {K : wK4} {a mb : Nat} {A : wK4} {B : wMB} {Z : xH}
theorem c_MO_same (hT : ∀ i, T.1 i < 256) (hn : T.2 ≤ 32768) {p q : Nat} (hq : q ≤ p) (hp : p ≤ T.2) : xCr l x d 0 0 mMO_same [.ref 74, .int (nI p), .int (nI q)] (hM C cd T R P K a mb A B Z) (fun o H' => o = some (.int (nI (smL T.1 q p (mst T.2 p)))) ∧ H' = hM C cd T R P K a mb A B Z) := by
  have hm : mst T.2 p ≤ 258 ∧ mst T.2 p ≤ T.2 - p ∧ (mst T.2 p = 258 ∨ mst T.2 p = T.2 - p) := by unfold mst; split <;> omega
  refine xCt.of (by decide) rfl ck_MO_same (Nat.le_of_ble_eq_true rfl) rfl ?_
  generalize List.length (hM C cd T R P K a mb A B Z) = n0
  refine b_MO_same_0 ?_
  unfold smL
  generalize hv : sm T.1 q p (mst T.2 p) 0 = v
  have h : ∀ (j i : Nat) (cl : Bool), i + j = mst T.2 p → sm T.1 q p j i = v → xW l x d 0 0 mMO_same n0 (fun r H' => ∃ o, r = Sum.inl o ∧ o = some (.int (nI v)) ∧ H' = hM C cd T R P K a mb A B Z) cl 2 [some (.ref 74), some (.int (nI p)), some (.int (nI q)), some (.int (nI i))] [] (hM C cd T R P K a mb A B Z) 0 0 := by
    intro j
    induction j with
    | zero =>
      intro i cl hi hz
      have hz : i = v := hz
      subst hz
      refine b_MO_same_2 ?_
      refine ⟨fun hb => ?_, fun hb => ?_⟩ <;> (try simp (disch := omega) only [nI_lit, nI_fold, nI_mul, nI_add, pk_sub, pk_div, nI_shrN, nI_clamp, nI_leI, nI_ltI, nI_eq, not_true_eq_false, not_false_eq_true, Bool.false_eq_true, if_true, if_false, nI_nem, nI_m1, nI_m7, nI_m15, nI_m32, nI_m4, nI_m8, nI_m16, nI_m2] at hb) <;> (try omega)
      · refine ⟨rfl, Nat.le_refl _, _, rfl, ⟨rfl, rfl⟩⟩
      refine ⟨_, ⟨_, rfl, rfl⟩, ?_⟩
      refine ⟨fun hc => ?_, fun hc => ?_⟩ <;> (try simp (disch := omega) only [nI_lit, nI_fold, nI_mul, nI_add, pk_sub, pk_div, nI_shrN, nI_clamp, nI_leI, nI_ltI, nI_eq, not_true_eq_false, not_false_eq_true, Bool.false_eq_true, if_true, if_false, nI_nem, nI_m1, nI_m7, nI_m15, nI_m32, nI_m4, nI_m8, nI_m16, nI_m2] at hc) <;> (try omega)
      refine ⟨rfl, Nat.le_refl _, _, rfl, ⟨rfl, rfl⟩⟩
    | succ j ih =>
      intro i cl hi hz
      unfold sm at hz
      refine b_MO_same_2 ?_
      refine ⟨fun hb => ?_, fun hb => ?_⟩ <;> (try simp (disch := omega) only [nI_lit, nI_fold, nI_mul, nI_add, pk_sub, pk_div, nI_shrN, nI_clamp, nI_leI, nI_ltI, nI_eq, not_true_eq_false, not_false_eq_true, Bool.false_eq_true, if_true, if_false, nI_nem, nI_m1, nI_m7, nI_m15, nI_m32, nI_m4, nI_m8, nI_m16, nI_m2] at hb) <;> (try omega)
      refine ⟨_, ⟨_, rfl, rfl⟩, ?_⟩
      refine ⟨fun hc => ?_, fun hc => ?_⟩ <;> (try simp (disch := omega) only [nI_lit, nI_fold, nI_mul, nI_add, pk_sub, pk_div, nI_shrN, nI_clamp, nI_leI, nI_ltI, nI_eq, not_true_eq_false, not_false_eq_true, Bool.false_eq_true, if_true, if_false, nI_nem, nI_m1, nI_m7, nI_m15, nI_m32, nI_m4, nI_m8, nI_m16, nI_m2] at hc) <;> (try omega)
      refine ⟨_, ⟨_, rfl, rfl⟩, _, _, rfl, (by (try simp (disch := omega) only [nI_lit, nI_fold, nI_mul, nI_add, pk_sub, pk_div, nI_shrN, nI_clamp]); (with_reducible refine vp_in_nI ?_ ?_) <;> omega), _, ⟨_, rfl, rfl⟩, _, _, rfl, (by (try simp (disch := omega) only [nI_lit, nI_fold, nI_mul, nI_add, pk_sub, pk_div, nI_shrN, nI_clamp]); (with_reducible refine vp_in_nI ?_ ?_) <;> omega), ?_⟩
      refine ⟨fun he => ?_, fun he => ?_⟩ <;> (try simp (disch := omega) only [nI_lit, nI_fold, nI_mul, nI_add, pk_sub, pk_div, nI_shrN, nI_clamp, nI_leI, nI_ltI, nI_eq, not_true_eq_false, not_false_eq_true, Bool.false_eq_true, if_true, if_false, nI_nem, nI_m1, nI_m7, nI_m15, nI_m32, nI_m4, nI_m8, nI_m16, nI_m2] at he) <;> (try omega)
      · rw [bF_eq hT] at he
        rw [if_neg (fun h => he h.symm)] at hz
        subst hz
        refine ⟨rfl, Nat.le_refl _, _, rfl, ⟨rfl, rfl⟩⟩
      · rw [bF_eq hT] at he
        rw [if_pos he.symm] at hz
        rw [nI_1]
        exact ih (i + 1) cl (by omega) hz
  exact h (mst T.2 p) 0 true (by omega) hv
theorem c_MO_stretchOf (hT : ∀ i, T.1 i < 256) (hn : T.2 ≤ 32768) {p : Nat} (hp : p ≤ T.2) : xCr l x 1 0 0 mMO_stretchOf [.ref 74, .int (nI p)] (hM C cd T R P K a mb A B Z) (fun o H' => o = some (.int (nI (65536 * (stO T.1 T.2 p).1 + (stO T.1 T.2 p).2))) ∧ H' = hM C cd T R P K a mb A B Z) := by
  have hm : mst T.2 p ≤ 258 ∧ mst T.2 p ≤ T.2 - p ∧ (mst T.2 p = 258 ∨ mst T.2 p = T.2 - p) := by unfold mst; split <;> omega
  have hD : dmx p ≤ 4096 ∧ dmx p ≤ p ∧ (dmx p = 4096 ∨ dmx p = p) := by unfold dmx; split <;> omega
  have hO : stO T.1 T.2 p = if 2 < (st T.1 p (mst T.2 p) (dmx p)).1 then st T.1 p (mst T.2 p) (dmx p) else (0, 0) := rfl
  generalize hmo : mst T.2 p = most at *
  refine xCt.of (by decide) rfl ck_MO_stretchOf (Nat.le_of_ble_eq_true rfl) rfl ?_
  generalize List.length (hM C cd T R P K a mb A B Z) = n0
  -- the end
  have kE : ∀ (b dd : Nat), (b, dd) = st T.1 p most (dmx p) → b ≤ 260 → dd ≤ 4096 → (nI b ≤ 2 → (0 : Nat) = 0 ∧ 0 ≤ 0 ∧ ∃ o, (Sum.inl (some (.int 0)) : xO) = Sum.inl o ∧ o = some (.int (nI (65536 * (stO T.1 T.2 p).1 + (stO T.1 T.2 p).2))) ∧ hM C cd T R P K a mb A B Z = hM C cd T R P K a mb A B Z) ∧ (¬ nI b ≤ 2 → (0 : Nat) = 0 ∧ 0 ≤ 0 ∧ ∃ o, (Sum.inl (some (.int ((65536 : Int32) * nI b + nI dd))) : xO) = Sum.inl o ∧ o = some (.int (nI (65536 * (stO T.1 T.2 p).1 + (stO T.1 T.2 p).2))) ∧ hM C cd T R P K a mb A B Z = hM C cd T R P K a mb A B Z) := by
    intro b dd hb h1 h2
    rw [← hb] at hO
    dsimp only at hO
    refine ⟨fun h => ?_, fun h => ?_⟩ <;> rw [show (2 : Int32) = nI 2 from rfl, nI_leI (by omega) (by decide)] at h
    · rw [if_neg (by omega)] at hO
      rw [hO]
      exact ⟨rfl, Nat.le_refl _, _, rfl, rfl, rfl⟩
    · rw [if_pos (by omega)] at hO
      rw [hO, show (65536 : Int32) * nI b + nI dd = nI (65536 * b + dd) by rw [show (65536 : Int32) * nI b = nI (65536 * b) from nI_mul 65536 b, nI_add]]
      exact ⟨rfl, Nat.le_refl _, _, rfl, rfl, rfl⟩
  have k : ∀ (j dd : Nat) (cl : Bool), dd + j = dmx p → xW l x 1 0 0 mMO_stretchOf n0 (fun r H' => ∃ o, r = Sum.inl o ∧ o = some (.int (nI (65536 * (stO T.1 T.2 p).1 + (stO T.1 T.2 p).2))) ∧ H' = hM C cd T R P K a mb A B Z) cl 19 [some (.ref 74), some (.int (nI p)), some (.int (nI (st T.1 p most dd).1)), some (.int (nI (st T.1 p most dd).2)), some (.int (nI most)), some (.int (nI (dd + 1))), none] [] (hM C cd T R P K a mb A B Z) 0 0 := by
    intro j
    induction j with
    | zero =>
      intro dd cl hd
      have : dd = dmx p := by omega
      have hlo := st_lo T.1 p most dd
      have hb : (st T.1 p most dd).1 ≤ 260 ∧ (st T.1 p most dd).2 ≤ 4096 := by
        by_cases h2 : 2 < (st T.1 p most dd).1
        · have := st_hi T.1 p most dd h2; omega
        · rw [st_2 _ _ _ _ h2]; decide
      have hE := kE (st T.1 p most dd).1 (st T.1 p most dd).2 (by rw [← this]) hb.1 hb.2
      clear hb
      refine b_MO_stretchOf_19 ?_
      refine ⟨fun _ => hE, fun hb => ?_⟩
      refine ⟨fun _ => hE, fun hc => ?_⟩
      rw [show (4096 : Int32) = nI 4096 from rfl, nI_ltI (by omega) (by omega)] at hb
      rw [nI_ltI (by omega) (by omega)] at hc
      omega
    | succ j ih =>
      intro dd cl hd
      have hlo := st_lo T.1 p most dd
      have hbd : (st T.1 p most dd).1 ≤ 260 ∧ (st T.1 p most dd).2 ≤ 4096 := by
        by_cases h2 : 2 < (st T.1 p most dd).1
        · have := st_hi T.1 p most dd h2; omega
        · rw [st_2 _ _ _ _ h2]; decide
      have hst : st T.1 p most (dd + 1) = if (st T.1 p most dd).1 < smL T.1 (p - (dd + 1)) p most then (smL T.1 (p - (dd + 1)) p most, dd + 1) else st T.1 p most dd := rfl
      have hsl := smL_le T.1 (p - (dd + 1)) p most
      have ih := ih (dd + 1)
      refine b_MO_stretchOf_19 ?_
      refine ⟨fun hb => ?_, fun hb => ?_⟩ <;> (try simp (disch := omega) only [nI_lit, nI_fold, nI_mul, nI_add, pk_sub, pk_div, nI_shrN, nI_clamp, nI_leI, nI_ltI, nI_eq, not_true_eq_false, not_false_eq_true, Bool.false_eq_true, if_true, if_false, nI_nem, nI_m1, nI_m7, nI_m15, nI_m32, nI_m4, nI_m8, nI_m16, nI_m2] at hb) <;> (try omega)
      refine ⟨fun hc => ?_, fun hc => ?_⟩ <;> (try simp (disch := omega) only [nI_lit, nI_fold, nI_mul, nI_add, pk_sub, pk_div, nI_shrN, nI_clamp, nI_leI, nI_ltI, nI_eq, not_true_eq_false, not_false_eq_true, Bool.false_eq_true, if_true, if_false, nI_nem, nI_m1, nI_m7, nI_m15, nI_m32, nI_m4, nI_m8, nI_m16, nI_m2] at hc) <;> (try omega)
      refine ⟨fun he => ?_, fun he => ?_⟩ <;> (try simp (disch := omega) only [nI_lit, nI_fold, nI_mul, nI_add, pk_sub, pk_div, nI_shrN, nI_clamp, nI_leI, nI_ltI, nI_eq, not_true_eq_false, not_false_eq_true, Bool.false_eq_true, if_true, if_false, nI_nem, nI_m1, nI_m7, nI_m15, nI_m32, nI_m4, nI_m8, nI_m16, nI_m2] at he) <;> (try omega)
      · exact kE (st T.1 p most dd).1 (st T.1 p most dd).2 (by rw [show dmx p = dd + (j + 1) by omega, st_stop (by omega)]) hbd.1 hbd.2
      rw [show nI (dd + 1) = nI (dd + 1) from rfl]
      refine ⟨_, ⟨_, rfl, rfl⟩, _, _, rfl, (by (try simp (disch := omega) only [nI_lit, nI_fold, nI_mul, nI_add, pk_sub, pk_div, nI_shrN, nI_clamp]); (with_reducible refine vp_in_nI ?_ ?_) <;> omega), _, ⟨_, rfl, rfl⟩, _, _, rfl, (by (try simp (disch := omega) only [nI_lit, nI_fold, nI_mul, nI_add, pk_sub, pk_div, nI_shrN, nI_clamp]); (with_reducible refine vp_in_nI ?_ ?_) <;> omega), ?_⟩
      refine ⟨fun hf => ?_, fun hf => ?_⟩ <;> (try simp (disch := omega) only [nI_lit, nI_fold, nI_mul, nI_add, pk_sub, pk_div, nI_shrN, nI_clamp, nI_leI, nI_ltI, nI_eq, not_true_eq_false, not_false_eq_true, Bool.false_eq_true, if_true, if_false, nI_nem, nI_m1, nI_m7, nI_m15, nI_m32, nI_m4, nI_m8, nI_m16, nI_m2] at hf) <;> (try omega)
      · rw [bF_eq hT] at hf
        have hno : ¬ (st T.1 p most dd).1 < smL T.1 (p - (dd + 1)) p most := fun h => hf (smL_eq h).symm
        rw [if_neg hno] at hst
        rw [hst] at ih
        rw [nI_1]
        exact ih cl (by omega)
      rw [bF_eq hT] at hf
      refine ⟨_, ⟨_, rfl, rfl⟩, _, _, rfl, (by (try simp (disch := omega) only [nI_lit, nI_fold, nI_mul, nI_add, pk_sub, pk_div, nI_shrN, nI_clamp]); (with_reducible refine vp_in_nI ?_ ?_) <;> omega), _, ⟨_, rfl, rfl⟩, _, _, rfl, (by (try simp (disch := omega) only [nI_lit, nI_fold, nI_mul, nI_add, pk_sub, pk_div, nI_shrN, nI_clamp]); (with_reducible refine vp_in_nI ?_ ?_) <;> omega), ?_⟩
      refine ⟨fun hg => ?_, fun hg => ?_⟩ <;> (try simp (disch := omega) only [nI_lit, nI_fold, nI_mul, nI_add, pk_sub, pk_div, nI_shrN, nI_clamp, nI_leI, nI_ltI, nI_eq, not_true_eq_false, not_false_eq_true, Bool.false_eq_true, if_true, if_false, nI_nem, nI_m1, nI_m7, nI_m15, nI_m32, nI_m4, nI_m8, nI_m16, nI_m2] at hg) <;> (try omega)
      · rw [bF_eq hT] at hg
        have hno : ¬ (st T.1 p most dd).1 < smL T.1 (p - (dd + 1)) p most := fun h => hg (smL_eq (t := T.1) (q := p - (dd + 1)) (p := p) (most := most) (i := 0) (by omega)).symm
        rw [if_neg hno] at hst
        rw [hst] at ih
        rw [nI_1]
        exact ih cl (by omega)
      try simp (disch := omega) only [nI_lit, nI_fold, nI_mul, nI_add, pk_sub, pk_div, nI_shrN, nI_clamp]
      refine xs_callV rfl lk_12_228 (d' := 0) (c_MO_same hT hn (p := p) (q := p - (dd + 1)) (by omega) hp) (Nat.le_of_ble_eq_true rfl) rfl rfl rfl rfl rfl (Nat.le_of_ble_eq_true rfl) (by omega) (by omega) ?_
      rw [hmo]
      rintro _ H1 ⟨rfl, rfl⟩
      refine b_MO_stretchOf_60 ?_
      refine ⟨fun hi => ?_, fun hi => ?_⟩ <;> (try simp (disch := omega) only [nI_lit, nI_fold, nI_mul, nI_add, pk_sub, pk_div, nI_shrN, nI_clamp, nI_leI, nI_ltI, nI_eq, not_true_eq_false, not_false_eq_true, Bool.false_eq_true, if_true, if_false, nI_nem, nI_m1, nI_m7, nI_m15, nI_m32, nI_m4, nI_m8, nI_m16, nI_m2] at hi) <;> (try omega)
      · rw [if_neg (by omega)] at hst
        rw [hst] at ih
        rw [nI_1]
        refine xW.fgt 6 ?_
        exact ih false (by omega)
      · rw [if_pos (by omega)] at hst
        rw [hst] at ih
        rw [nI_1]
        refine xW.fgt 6 ?_
        exact ih false (by omega)
  refine b_MO_stretchOf_0 ⟨_, ⟨_, rfl, rfl⟩, ?_⟩
  unfold mst at hmo
  refine ⟨fun hb => ?_, fun hb => ?_⟩ <;> (try simp (disch := omega) only [nI_lit, nI_fold, nI_mul, nI_add, pk_sub, pk_div, nI_shrN, nI_clamp, nI_leI, nI_ltI, nI_eq, not_true_eq_false, not_false_eq_true, Bool.false_eq_true, if_true, if_false, nI_nem, nI_m1, nI_m7, nI_m15, nI_m32, nI_m4, nI_m8, nI_m16, nI_m2] at hb) <;> (try omega)
  · rw [if_pos (by omega)] at hmo
    subst hmo
    exact k (dmx p) 0 _ (by omega)
  · rw [if_neg (by omega)] at hmo
    subst hmo
    refine ⟨_, ⟨_, rfl, rfl⟩, ?_⟩
    try simp (disch := omega) only [nI_lit, nI_fold, nI_mul, nI_add, pk_sub, pk_div, nI_shrN, nI_clamp]
    exact k (dmx p) 0 _ (by omega)
end MStr
