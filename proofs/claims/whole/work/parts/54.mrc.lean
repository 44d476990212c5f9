section MRc
variable {l : Launch} {x : xX} {d : Nat} {C : Nat → va_E} {cd : Int32} {T R : wRow} {P : wRp} {pl : Int32} {bl st : Nat} {K : wK4} {a mb : Nat} {ct od ln rw' : wF} {B : wMB} {Z : xH} {e : Nat}
/-- how a reading of codes ends -/
def QC (C : Nat → va_E) (cd : Int32) (T R : wRow) (pl : Int32) (bl st : Nat) (K : wK4) (mb : Nat) (B : wMB) (Z : xH) (e : Nat) (z : (Nat × Nat) ⊕ ((Nat → Nat) × Nat × Nat × Nat)) (o : Option Value) (H' : xH) : Prop := (∃ f p v, z = .inl (f, p) ∧ o = some (.int v) ∧ MF C cd T bl st K B Z f p H') ∨ ∃ row nL nD a' ct' od' ln' rw2, z = .inr (row, nL, nD, a') ∧ o = some (.int (nI (howN (fun i => row (nL + i)) nD))) ∧ nL ≤ 286 ∧ nD ≤ 30 ∧ a' ≤ e ∧ prd ct' od' 0 0 row nL ∧ prd ct' od' 400 16 (fun i => row (nL + i)) nD ∧ (∀ i, i < nD → row (nL + i) ≤ 15) ∧ krs row nL 15 = 32768 ∧ howN (fun i => row (nL + i)) nD ≠ 3 ∧ H' = hM C cd T R (0, pl, bl, st) K a' mb (ct', od', ln', rw2) B Z
theorem MO_rc46 {n0 : Nat} {Q : xO → xH → Prop} {v1 v2 v3 v4 : Int32} (Kk : ∀ (ln : wF) (cl : Bool), (∀ i, i < 19 → ln (500 + i) = nI 0) → xW l x 4 0 0 mMO_readCodes n0 Q cl 60 [some (.ref 74), some (.int v1), some (.int v2), some (.int v3), some (.int v4), some (.int (nI 0)), none] [] (hM C cd T R P K a mb (ct, od, ln, rw') B Z) 0 0) : ∀ (j i : Nat) (ln : wF) (cl : Bool), i + j = 19 → (∀ q, q < i → ln (500 + q) = nI 0) → xW l x 4 0 0 mMO_readCodes n0 Q cl 46 [some (.ref 74), some (.int v1), some (.int v2), some (.int v3), some (.int v4), some (.int (nI i)), none] [] (hM C cd T R P K a mb (ct, od, ln, rw') B Z) 0 0 := by
  intro j
  induction j with
  | zero =>
    intro i ln cl hi h1
    refine b_MO_readCodes_46 ?_
    refine ⟨fun hb => ?_, fun hb => ?_⟩ <;> (try simp (disch := omega) only [nI_lit, nI_fold, nI_mul, nI_add, pk_sub, pk_div, nI_shrN, nI_clamp, nI_leI, nI_ltI, nI_eq, not_true_eq_false, not_false_eq_true, Bool.false_eq_true, if_true, if_false, nI_nem, nI_m1, nI_m7, nI_m15, nI_m32, nI_m4, nI_m8, nI_m16, nI_m2] at hb) <;> (try omega)
    exact Kk ln cl (fun q hq => h1 q (by omega))
  | succ j ih =>
    intro i ln cl hi h1
    refine b_MO_readCodes_46 ?_
    refine ⟨fun hb => ?_, fun hb => ?_⟩ <;> (try simp (disch := omega) only [nI_lit, nI_fold, nI_mul, nI_add, pk_sub, pk_div, nI_shrN, nI_clamp, nI_leI, nI_ltI, nI_eq, not_true_eq_false, not_false_eq_true, Bool.false_eq_true, if_true, if_false, nI_nem, nI_m1, nI_m7, nI_m15, nI_m32, nI_m4, nI_m8, nI_m16, nI_m2] at hb) <;> (try omega)
    refine ⟨_, ⟨_, rfl, rfl⟩, _, _, rfl, Nat.le_of_ble_eq_true rfl, (by (try simp (disch := omega) only [nI_lit, nI_fold, nI_mul, nI_add, pk_sub, pk_div, nI_shrN, nI_clamp]); (with_reducible refine vp_in_nI ?_ ?_) <;> omega), fun H4 e4 => ?_⟩
    try simp (disch := omega) only [nI_lit, nI_fold, nI_mul, nI_add, pk_sub, pk_div, nI_shrN, nI_clamp] at e4
    subst e4
    rw [nI_1]
    refine ih (i + 1) (upd ln (500 + i) (nI 0)) false (by omega) (fun q hq => ?_)
    unfold upd
    split
    · rfl
    · exact h1 q (by omega)
theorem MO_rc109 {n0 : Nat} {Q : xO → xH → Prop} {v1 v4 : Int32} {nL nD : Nat} (hL : nL ≤ 286) (hD : nD ≤ 30) {row : Nat → Nat} (hrw : ∀ j, j < nL + nD → rw' j = nI (row j)) (Kk : ∀ (ln : wF) (cl : Bool), (∀ i, i < nL → ln i = nI (row i)) → xW l x 4 0 0 mMO_readCodes n0 Q cl 124 [some (.ref 74), some (.int v1), some (.int (nI nL)), some (.int (nI nD)), some (.int v4), some (.int (nI 0)), none] [] (hM C cd T R P K a mb (ct, od, ln, rw') B Z) 0 0) : ∀ (j i : Nat) (ln : wF) (cl : Bool), i + j = nL → (∀ q, q < i → ln q = nI (row q)) → xW l x 4 0 0 mMO_readCodes n0 Q cl 109 [some (.ref 74), some (.int v1), some (.int (nI nL)), some (.int (nI nD)), some (.int v4), some (.int (nI i)), none] [] (hM C cd T R P K a mb (ct, od, ln, rw') B Z) 0 0 := by
  intro j
  induction j with
  | zero =>
    intro i ln cl hi h1
    refine b_MO_readCodes_109 ?_
    refine ⟨fun hb => ?_, fun hb => ?_⟩ <;> (try simp (disch := omega) only [nI_lit, nI_fold, nI_mul, nI_add, pk_sub, pk_div, nI_shrN, nI_clamp, nI_leI, nI_ltI, nI_eq, not_true_eq_false, not_false_eq_true, Bool.false_eq_true, if_true, if_false, nI_nem, nI_m1, nI_m7, nI_m15, nI_m32, nI_m4, nI_m8, nI_m16, nI_m2] at hb) <;> (try omega)
    exact Kk ln cl (fun q hq => h1 q (by omega))
  | succ j ih =>
    intro i ln cl hi h1
    refine b_MO_readCodes_109 ?_
    refine ⟨fun hb => ?_, fun hb => ?_⟩ <;> (try simp (disch := omega) only [nI_lit, nI_fold, nI_mul, nI_add, pk_sub, pk_div, nI_shrN, nI_clamp, nI_leI, nI_ltI, nI_eq, not_true_eq_false, not_false_eq_true, Bool.false_eq_true, if_true, if_false, nI_nem, nI_m1, nI_m7, nI_m15, nI_m32, nI_m4, nI_m8, nI_m16, nI_m2] at hb) <;> (try omega)
    refine ⟨_, ⟨_, rfl, rfl⟩, _, ⟨_, rfl, rfl⟩, _, _, rfl, (by (try simp (disch := omega) only [nI_lit, nI_fold, nI_mul, nI_add, pk_sub, pk_div, nI_shrN, nI_clamp]); (with_reducible refine vp_in_nI ?_ ?_) <;> omega), _, _, rfl, Nat.le_of_ble_eq_true rfl, (by (try simp (disch := omega) only [nI_lit, nI_fold, nI_mul, nI_add, pk_sub, pk_div, nI_shrN, nI_clamp]); (with_reducible refine vp_in_nI ?_ ?_) <;> omega), fun H7 e7 => ?_⟩
    try simp (disch := omega) only [nI_lit, nI_fold, nI_mul, nI_add, pk_sub, pk_div, nI_shrN, nI_clamp] at e7
    subst e7
    rw [nI_1, hrw i (by omega)]
    refine ih (i + 1) (upd ln i (nI (row i))) false (by omega) (fun q hq => ?_)
    unfold upd
    split
    · rename_i h; rw [h]
    · exact h1 q (by omega)
theorem MO_rc124 {n0 : Nat} {Q : xO → xH → Prop} {v1 v4 : Int32} {nL nD : Nat} (hL : nL ≤ 286) (hD : nD ≤ 30) {row : Nat → Nat} (hrw : ∀ j, j < nL + nD → rw' j = nI (row j)) (Kk : ∀ (ln : wF) (cl : Bool), (∀ i, i < nL → ln i = nI (row i)) → (∀ i, i < nD → ln (400 + i) = nI (row (nL + i))) → xW l x 4 0 0 mMO_readCodes n0 Q cl 145 [some (.ref 74), some (.int v1), some (.int (nI nL)), some (.int (nI nD)), some (.int v4), some (.int (nI nD)), none] [.int (nI 0), .int (nI nL), .int (nI 0), .ref 74] (hM C cd T R P K a mb (ct, od, ln, rw') B Z) 0 0) : ∀ (j i : Nat) (ln : wF) (cl : Bool), i + j = nD → (∀ i, i < nL → ln i = nI (row i)) → (∀ q, q < i → ln (400 + q) = nI (row (nL + q))) → xW l x 4 0 0 mMO_readCodes n0 Q cl 124 [some (.ref 74), some (.int v1), some (.int (nI nL)), some (.int (nI nD)), some (.int v4), some (.int (nI i)), none] [] (hM C cd T R P K a mb (ct, od, ln, rw') B Z) 0 0 := by
  intro j
  induction j with
  | zero =>
    intro i ln cl hi h0 h1
    have : i = nD := by omega
    subst this
    refine b_MO_readCodes_124 ?_
    refine ⟨fun hb => ?_, fun hb => ?_⟩ <;> (try simp (disch := omega) only [nI_lit, nI_fold, nI_mul, nI_add, pk_sub, pk_div, nI_shrN, nI_clamp, nI_leI, nI_ltI, nI_eq, not_true_eq_false, not_false_eq_true, Bool.false_eq_true, if_true, if_false, nI_nem, nI_m1, nI_m7, nI_m15, nI_m32, nI_m4, nI_m8, nI_m16, nI_m2] at hb) <;> (try omega)
    exact Kk ln cl h0 h1
  | succ j ih =>
    intro i ln cl hi h0 h1
    refine b_MO_readCodes_124 ?_
    refine ⟨fun hb => ?_, fun hb => ?_⟩ <;> (try simp (disch := omega) only [nI_lit, nI_fold, nI_mul, nI_add, pk_sub, pk_div, nI_shrN, nI_clamp, nI_leI, nI_ltI, nI_eq, not_true_eq_false, not_false_eq_true, Bool.false_eq_true, if_true, if_false, nI_nem, nI_m1, nI_m7, nI_m15, nI_m32, nI_m4, nI_m8, nI_m16, nI_m2] at hb) <;> (try omega)
    refine ⟨_, ⟨_, rfl, rfl⟩, _, ⟨_, rfl, rfl⟩, _, _, rfl, (by (try simp (disch := omega) only [nI_lit, nI_fold, nI_mul, nI_add, pk_sub, pk_div, nI_shrN, nI_clamp]); (with_reducible refine vp_in_nI ?_ ?_) <;> omega), _, _, rfl, Nat.le_of_ble_eq_true rfl, (by (try simp (disch := omega) only [nI_lit, nI_fold, nI_mul, nI_add, pk_sub, pk_div, nI_shrN, nI_clamp]); (with_reducible refine vp_in_nI ?_ ?_) <;> omega), fun H7 e7 => ?_⟩
    try simp (disch := omega) only [nI_lit, nI_fold, nI_mul, nI_add, pk_sub, pk_div, nI_shrN, nI_clamp] at e7
    subst e7
    rw [nI_1, hrw (nL + i) (by omega)]
    refine ih (i + 1) (upd ln (400 + i) (nI (row (nL + i)))) false (by omega) (fun q hq => ?_) (fun q hq => ?_)
    · unfold upd; rw [if_neg (by omega)]; exact h0 q hq
    · unfold upd
      split
      · rename_i h; rw [show q = i by omega]
      · exact h1 q (by omega)
theorem MO_rc60 {n0 : Nat} {Q : xO → xH → Prop} (hT : ∀ i, T.1 i < 256) (hn : T.2 ≤ 32768) (he : e = 8 * T.2) {b m : Nat} (hm : m ≤ 15) {v1 v2 v3 : Int32} (hF : e < b + 3 * (4 + m) → ∀ (v5 : Int32) (a' : Nat) (A' : wK4) (cl : Bool), xW l x 4 0 0 mMO_readCodes n0 Q cl 60 [some (.ref 74), some (.int v1), some (.int v2), some (.int v3), some (.int (nI (4 + m))), some (.int v5), none] [] (hM C cd T R (1, nI e, bl, st) K a' mb A' B Z) 0 0)
    (Kk : b + 3 * (4 + m) ≤ e → ∀ (ln : wF) (cl : Bool), (∀ q, q < 19 → ln (500 + q) = nI (rdcl T.1 b (4 + m) q)) → xW l x 4 0 0 mMO_readCodes n0 Q cl 60 [some (.ref 74), some (.int v1), some (.int v2), some (.int v3), some (.int (nI (4 + m))), some (.int (nI (4 + m))), none] [] (hM C cd T R (0, pl, bl, st) K (b + 3 * (4 + m)) mb (ct, od, ln, rw') B Z) 0 0) :
    ∀ (j i : Nat) (ln : wF) (cl : Bool), i + j = 4 + m → b + 3 * i ≤ e → (∀ q, q < 19 → ln (500 + q) = nI (rdcl T.1 b i q)) → xW l x 4 0 0 mMO_readCodes n0 Q cl 60 [some (.ref 74), some (.int v1), some (.int v2), some (.int v3), some (.int (nI (4 + m))), some (.int (nI i)), none] [] (hM C cd T R (0, pl, bl, st) K (b + 3 * i) mb (ct, od, ln, rw') B Z) 0 0 := by
  intro j
  induction j with
  | zero =>
    intro i ln cl hi hbe hl
    have : i = 4 + m := by omega
    subst this
    exact Kk hbe ln cl hl
  | succ j ih =>
    intro i ln cl hi hbe hl
    have ho := (ord_N i (by omega)).2
    refine b_MO_readCodes_60 ?_
    refine ⟨fun hb => ?_, fun hb => ?_⟩ <;> (try simp (disch := omega) only [nI_lit, nI_fold, nI_mul, nI_add, pk_sub, pk_div, nI_shrN, nI_clamp, nI_leI, nI_ltI, nI_eq, not_true_eq_false, not_false_eq_true, Bool.false_eq_true, if_true, if_false, nI_nem, nI_m1, nI_m7, nI_m15, nI_m32, nI_m4, nI_m8, nI_m16, nI_m2] at hb) <;> (try omega)
    refine ⟨_, ⟨_, rfl, rfl⟩, ?_⟩
    refine ⟨fun h => absurd rfl h, fun _ => ?_⟩
    refine ⟨_, ⟨_, rfl, rfl⟩, ?_⟩
    refine xs_callS rfl lk_12_136 (d' := 0) (c_MO_orderOf (k := i) (by omega)) (Nat.le_of_ble_eq_true rfl) rfl rfl (Nat.le_of_ble_eq_true rfl) (by omega) (by omega) ?_
    rintro _ H1 ⟨rfl, rfl⟩
    refine b_MO_readCodes_71 ?_
    refine xs_callV rfl lk_12_133 (d' := 2) (c_MO_number (n := 3) hT hn he (by decide) hbe) (Nat.le_of_ble_eq_true rfl) rfl rfl rfl rfl rfl (Nat.le_of_ble_eq_true rfl) (by omega) (by omega) ?_
    rintro _ H1 (⟨g1, rfl, rfl⟩ | ⟨g1, w, a', rfl, rfl⟩)
    · refine b_MO_readCodes_75 ⟨_, _, rfl, Nat.le_of_ble_eq_true rfl, (by rw [show (500 : Int32) + nI (ordN i) = nI (500 + ordN i) from nI_add 500 _]; exact vp_in_nI (by omega) (by decide)), fun H3 e3 => ?_⟩
      rw [show (500 : Int32) + nI (ordN i) = nI (500 + ordN i) from nI_add 500 _, nI_clamp (by omega)] at e3
      subst e3
      rw [nI_1]
      refine ih (i + 1) (upd ln (500 + ordN i) (nI (rdn T.1 (b + 3 * i) 3))) false (by omega) (by omega) (fun q hq => ?_)
      unfold upd rdcl nup
      by_cases h : q = ordN i
      · rw [if_pos (by omega), if_pos h]
      · rw [if_neg (by omega), if_neg h]
        exact hl q hq
    · refine b_MO_readCodes_75 ⟨_, _, rfl, Nat.le_of_ble_eq_true rfl, (by rw [show (500 : Int32) + nI (ordN i) = nI (500 + ordN i) from nI_add 500 _]; exact vp_in_nI (by omega) (by decide)), fun H3 e3 => ?_⟩
      subst e3
      exact hF (by omega) _ a' (ct, od, upd ln _ w, rw') false
theorem c_MO_readCodes (hT : ∀ i, T.1 i < 256) (hn : T.2 ≤ 32768) (he : e = 8 * T.2) (ha : a ≤ e) : xCr l x 4 0 0 mMO_readCodes [.ref 74] (hM C cd T R (0, pl, bl, st) K a mb (ct, od, ln, rw') B Z) (fun o H' => QC C cd T R pl bl st K mb B Z e (zcodes T.1 e a) o H') := by
  have hK : fK (zcodes T.1 e a) := fK_zcodes
  generalize hz : zcodes T.1 e a = z at hK
  unfold zcodes at hz
  have h5 := rdn_lt T.1 a 5
  have h6 := rdn_lt T.1 (a + 5) 5
  have h4 := rdn_lt T.1 (a + 10) 4
  have f60 : ∀ (f p : Nat) (v1 v2 v3 v4 v5 : Int32) (a' : Nat) (A' : wK4) (cl : Bool), z = .inl (f, p) → xW l x 4 0 0 mMO_readCodes (List.length (hM C cd T R (0, pl, bl, st) K a mb (ct, od, ln, rw') B Z)) (fun r H' => ∃ o, r = Sum.inl o ∧ QC C cd T R pl bl st K mb B Z e z o H') cl 60 [some (.ref 74), some (.int v1), some (.int v2), some (.int v3), some (.int v4), some (.int v5), none] [] (hM C cd T R (nI f, nI p, bl, st) K a' mb A' B Z) 0 0 := by
    intro f p v1 v2 v3 v4 v5 a' A' cl hz
    have hf := hK _ hz
    have hF := nI_ne hf.1 hf.2
    refine b_MO_readCodes_60 ?_
    refine ⟨fun _ => ?_, fun _ => ?_⟩
    · refine ⟨_, ⟨_, rfl, rfl⟩, ?_⟩
      refine ⟨fun h => absurd h (nI_nle (by omega) (by omega)), fun _ => ?_⟩
      refine ⟨rfl, Nat.le_refl _, _, rfl, Or.inl ⟨f, p, _, hz, rfl, _, _, _, _, rfl⟩⟩
    · refine ⟨_, ⟨_, rfl, rfl⟩, ?_⟩
      refine ⟨fun _ => ?_, fun h => absurd h hF⟩
      refine ⟨_, ⟨_, rfl, rfl⟩, ?_⟩
      refine ⟨fun h => absurd h (nI_nle (by omega) (by omega)), fun _ => ?_⟩
      refine ⟨rfl, Nat.le_refl _, _, rfl, Or.inl ⟨f, p, _, hz, rfl, _, _, _, _, rfl⟩⟩
  have f42 : ∀ (f p : Nat) (v1 v2 v3 u0 u1 : Int32) (a' : Nat) (cl : Bool), z = .inl (f, p) → xW l x 4 0 0 mMO_readCodes (List.length (hM C cd T R (0, pl, bl, st) K a mb (ct, od, ln, rw') B Z)) (fun r H' => ∃ o, r = Sum.inl o ∧ QC C cd T R pl bl st K mb B Z e z o H') cl 42 [some (.ref 74), some (.int v1), some (.int v2), some (.int v3), none, none, none] [.int u1, .int u0] (hM C cd T R (nI f, nI p, bl, st) K a' mb (ct, od, ln, rw') B Z) 0 0 := by
    intro f p v1 v2 v3 u0 u1 a' cl hz
    refine b_MO_readCodes_42 ?_
    exact MO_rc46 (fun ln cl _ => f60 f p _ _ _ _ _ _ _ _ hz) 19 0 ln cl (by omega) (fun q hq => absurd hq (Nat.not_lt_zero _))
  have f38 : ∀ (f p : Nat) (v1 v2 v3 : Int32) (a' : Nat) (cl : Bool), z = .inl (f, p) → xW l x 4 0 0 mMO_readCodes (List.length (hM C cd T R (0, pl, bl, st) K a mb (ct, od, ln, rw') B Z)) (fun r H' => ∃ o, r = Sum.inl o ∧ QC C cd T R pl bl st K mb B Z e z o H') cl 38 [some (.ref 74), some (.int v1), some (.int v2), some (.int v3), none, none, none] [] (hM C cd T R (nI f, nI p, bl, st) K a' mb (ct, od, ln, rw') B Z) 0 0 := by
    intro f p v1 v2 v3 a' cl hz
    have hF := nI_ne (hK _ hz).1 (hK _ hz).2
    refine b_MO_readCodes_38 ?_
    refine xs_callV rfl lk_12_133 (d' := 2) (c_MO_number_f (n := 4) hF) (Nat.le_of_ble_eq_true rfl) rfl rfl rfl rfl rfl (Nat.le_of_ble_eq_true rfl) (by omega) (by omega) ?_
    rintro _ H1 ⟨rfl, rfl⟩
    exact f42 f p _ _ _ _ _ _ _ hz
  have f19 : ∀ (f p : Nat) (v1 v2 : Int32) (a' : Nat) (cl : Bool), z = .inl (f, p) → xW l x 4 0 0 mMO_readCodes (List.length (hM C cd T R (0, pl, bl, st) K a mb (ct, od, ln, rw') B Z)) (fun r H' => ∃ o, r = Sum.inl o ∧ QC C cd T R pl bl st K mb B Z e z o H') cl 19 [some (.ref 74), some (.int v1), some (.int v2), none, none, none, none] [] (hM C cd T R (nI f, nI p, bl, st) K a' mb (ct, od, ln, rw') B Z) 0 0 := by
    intro f p v1 v2 a' cl hz
    have hF := nI_ne (hK _ hz).1 (hK _ hz).2
    refine b_MO_readCodes_19 ⟨_, ⟨_, rfl, rfl⟩, ?_⟩
    refine xs_callV rfl lk_12_133 (d' := 2) (c_MO_number_f (n := 5) hF) (Nat.le_of_ble_eq_true rfl) rfl rfl rfl rfl rfl (Nat.le_of_ble_eq_true rfl) (by omega) (by omega) ?_
    rintro _ H1 ⟨rfl, rfl⟩
    refine b_MO_readCodes_26 ⟨_, ⟨_, rfl, rfl⟩, ?_⟩
    refine ⟨fun _ => ?_, fun h => absurd h hF⟩
    exact f38 f p _ _ _ _ _ hz
  refine xCt.of (by decide) rfl ck_MO_readCodes (Nat.le_of_ble_eq_true rfl) rfl ?_
  refine b_MO_readCodes_0 ⟨_, ⟨_, rfl, rfl⟩, ?_⟩
  refine xs_callV rfl lk_12_133 (d' := 2) (c_MO_number (n := 5) hT hn he (by decide) ha) (Nat.le_of_ble_eq_true rfl) rfl rfl rfl rfl rfl (Nat.le_of_ble_eq_true rfl) (by omega) (by omega) ?_
  rintro _ H1 (⟨g1, rfl, rfl⟩ | ⟨g1, w, a', rfl, rfl⟩)
  case inr =>
    rw [if_pos (by omega)] at hz
    refine b_MO_readCodes_7 ⟨_, ⟨_, rfl, rfl⟩, ?_⟩
    refine ⟨fun _ => ?_, fun h => absurd h (show ¬ (1 : Int32) = 0 by decide)⟩
    exact f19 1 e _ _ _ _ hz.symm
  rw [if_neg (by omega)] at hz
  generalize rdn T.1 a 5 = m1 at *
  refine b_MO_readCodes_7 ⟨_, ⟨_, rfl, rfl⟩, ?_⟩
  refine ⟨fun h => absurd rfl h, fun _ => ?_⟩
  rw [show (257 : Int32) + nI m1 = nI (257 + m1) from nI_add 257 m1]
  refine ⟨fun hf => ?_, fun hf => ?_⟩ <;> (try simp (disch := omega) only [nI_lit, nI_fold, nI_mul, nI_add, pk_sub, pk_div, nI_shrN, nI_clamp, nI_leI, nI_ltI, nI_eq, not_true_eq_false, not_false_eq_true, Bool.false_eq_true, if_true, if_false, nI_nem, nI_m1, nI_m7, nI_m15, nI_m32, nI_m4, nI_m8, nI_m16, nI_m2] at hf) <;> (try omega)
  case refine_2 =>
    rw [if_pos (by omega)] at hz
    refine xs_callV rfl lk_12_121 (d' := 0) (c_MO_fail) (Nat.le_of_ble_eq_true rfl) rfl rfl rfl rfl rfl (Nat.le_of_ble_eq_true rfl) (by omega) (by omega) ?_
    rintro _ H1 ⟨rfl, rfl⟩
    exact f19 4 a _ _ _ _ hz.symm
  rw [if_neg (by omega)] at hz
  refine b_MO_readCodes_19 ⟨_, ⟨_, rfl, rfl⟩, ?_⟩
  refine xs_callV rfl lk_12_133 (d' := 2) (c_MO_number (n := 5) hT hn he (by decide) (by omega)) (Nat.le_of_ble_eq_true rfl) rfl rfl rfl rfl rfl (Nat.le_of_ble_eq_true rfl) (by omega) (by omega) ?_
  rintro _ H1 (⟨g2, rfl, rfl⟩ | ⟨g2, w, a', rfl, rfl⟩)
  case inr =>
    rw [if_pos (by omega)] at hz
    refine b_MO_readCodes_26 ⟨_, ⟨_, rfl, rfl⟩, ?_⟩
    refine ⟨fun _ => ?_, fun h => absurd h (show ¬ (1 : Int32) = 0 by decide)⟩
    exact f38 1 e _ _ _ _ _ hz.symm
  rw [if_neg (by omega)] at hz
  generalize rdn T.1 (a + 5) 5 = m2 at *
  refine b_MO_readCodes_26 ⟨_, ⟨_, rfl, rfl⟩, ?_⟩
  refine ⟨fun h => absurd rfl h, fun _ => ?_⟩
  rw [show (1 : Int32) + nI m2 = nI (1 + m2) from nI_add 1 m2]
  refine ⟨fun hg => ?_, fun hg => ?_⟩ <;> (try simp (disch := omega) only [nI_lit, nI_fold, nI_mul, nI_add, pk_sub, pk_div, nI_shrN, nI_clamp, nI_leI, nI_ltI, nI_eq, not_true_eq_false, not_false_eq_true, Bool.false_eq_true, if_true, if_false, nI_nem, nI_m1, nI_m7, nI_m15, nI_m32, nI_m4, nI_m8, nI_m16, nI_m2] at hg) <;> (try omega)
  case refine_2 =>
    rw [if_pos (by omega)] at hz
    refine xs_callV rfl lk_12_121 (d' := 0) (c_MO_fail) (Nat.le_of_ble_eq_true rfl) rfl rfl rfl rfl rfl (Nat.le_of_ble_eq_true rfl) (by omega) (by omega) ?_
    rintro _ H1 ⟨rfl, rfl⟩
    exact f38 4 (a + 5) _ _ _ _ _ hz.symm
  rw [if_neg (by omega)] at hz
  -- the code of lengths
  rw [show a + 5 + 5 = a + 10 by omega] at *
  have hcol : ∃ zc, zcol T.1 e (a + 10) = zc := ⟨_, rfl⟩
  obtain ⟨zc, hzc⟩ := hcol
  rw [hzc] at hz
  unfold zcol at hzc
  refine b_MO_readCodes_38 ?_
  refine xs_callV rfl lk_12_133 (d' := 2) (c_MO_number (n := 4) hT hn he (by decide) (by omega)) (Nat.le_of_ble_eq_true rfl) rfl rfl rfl rfl rfl (Nat.le_of_ble_eq_true rfl) (by omega) (by omega) ?_
  rintro _ H1 (⟨g3, rfl, rfl⟩ | ⟨g3, w, a', rfl, rfl⟩)
  case inr =>
    rw [if_pos (by omega)] at hzc
    subst hzc
    exact f42 1 e _ _ _ _ _ _ _ hz.symm
  rw [if_neg (by omega)] at hzc
  generalize rdn T.1 (a + 10) 4 = m3 at *
  refine b_MO_readCodes_42 ?_
  rw [show (4 : Int32) + nI m3 = nI (4 + m3) from nI_add 4 m3]
  refine MO_rc46 (fun ln1 cl z1 => ?_) 19 0 ln false (by omega) (fun q hq => absurd hq (Nat.not_lt_zero _))
  have hz1 : ∀ q, q < 19 → ln1 (500 + q) = nI (rdcl T.1 (a + 10 + 4) 0 q) := z1
  refine MO_rc60 (b := a + 10 + 4) (m := m3) hT hn he (by omega) (fun hlt v5 a' A' cl => ?_) (fun hge ln2 cl z2 => ?_) (4 + m3) 0 ln1 cl (by omega) (by omega) hz1
  · rw [if_pos (by omega)] at hzc
    subst hzc
    exact f60 1 e _ _ _ _ _ _ _ _ hz.symm
  rw [if_neg (by omega)] at hzc
  refine b_MO_readCodes_60 ?_
  refine ⟨fun hh => ?_, fun hh => ?_⟩ <;> (try simp (disch := omega) only [nI_lit, nI_fold, nI_mul, nI_add, pk_sub, pk_div, nI_shrN, nI_clamp, nI_leI, nI_ltI, nI_eq, not_true_eq_false, not_false_eq_true, Bool.false_eq_true, if_true, if_false, nI_nem, nI_m1, nI_m7, nI_m15, nI_m32, nI_m4, nI_m8, nI_m16, nI_m2] at hh) <;> (try omega)
  refine ⟨_, ⟨_, rfl, rfl⟩, ?_⟩
  refine ⟨fun _ => ?_, fun h => absurd (show (0 : Int32) ≤ 0 by decide) h⟩
  refine xs_callV rfl lk_12_139 (d' := 0) (c_MO_prepare (fm := 500) (n := 19) (tb := 32) (g := rdcl T.1 (a + 10 + 4) (4 + m3)) (by decide) (by decide) (by decide) z2 (fun i hi => Nat.le_trans (rdcl_le _ _ _ _) (by decide))) (Nat.le_of_ble_eq_true rfl) rfl rfl rfl rfl rfl (Nat.le_of_ble_eq_true rfl) (by omega) (by omega) ?_
  rintro _ H1 ⟨rfl, ct1, od1, hp1, q3, q4, rfl⟩
  have hhl := how_le (rdcl T.1 (a + 10 + 4) (4 + m3)) 19
  refine b_MO_readCodes_88 ?_
  refine ⟨fun hi => ?_, fun hi => ?_⟩ <;> (try simp (disch := omega) only [nI_lit, nI_fold, nI_mul, nI_add, pk_sub, pk_div, nI_shrN, nI_clamp, nI_leI, nI_ltI, nI_eq, not_true_eq_false, not_false_eq_true, Bool.false_eq_true, if_true, if_false, nI_nem, nI_m1, nI_m7, nI_m15, nI_m32, nI_m4, nI_m8, nI_m16, nI_m2] at hi) <;> (try omega)
  case refine_2 =>
    rw [if_neg (fun h => hi (by unfold howN; rw [if_pos h]))] at hzc
    subst hzc
    refine ⟨_, ⟨_, rfl, rfl⟩, ?_⟩
    refine xs_callV rfl lk_12_121 (d' := 0) (c_MO_fail) (Nat.le_of_ble_eq_true rfl) rfl rfl rfl rfl rfl (Nat.le_of_ble_eq_true rfl) (by omega) (by omega) ?_
    rintro _ H1 ⟨rfl, rfl⟩
    refine b_MO_readCodes_95 ?_
    refine ⟨rfl, Nat.le_refl _, _, rfl, Or.inl ⟨5, _, _, hz.symm, rfl, _, _, _, _, rfl⟩⟩
  have hful := how_2 hi
  rw [if_pos hful] at hzc
  subst hzc
  dsimp only at hz
  have hrl : ∃ zr, zrl T.1 e (rdcl T.1 (a + 10 + 4) (4 + m3)) (257 + m1 + (1 + m2)) 316 0 (fun _ => 0) (a + 10 + 4 + 3 * (4 + m3)) = zr := ⟨_, rfl⟩
  obtain ⟨zr, hzr⟩ := hrl
  rw [hzr] at hz
  try simp (disch := omega) only [nI_lit, nI_fold, nI_mul, nI_add, pk_sub, pk_div, nI_shrN, nI_clamp]
  refine xs_callV rfl lk_12_143 (d' := 3) (c_MO_readRow (due := 257 + m1 + (1 + m2)) hT hn he (by omega) hp1 hful hge) (Nat.le_of_ble_eq_true rfl) rfl rfl rfl rfl rfl (Nat.le_of_ble_eq_true rfl) (by omega) (by omega) ?_
  rw [hzr]
  rintro _ H1 ⟨rfl, (⟨f, p, q5, R', a', mb', A', rfl⟩ | ⟨row, b', rw2, q5, q6, q7, q8, rfl⟩)⟩
  · subst q5
    have hf := hK _ hz.symm
    refine b_MO_readCodes_102 ⟨_, ⟨_, rfl, rfl⟩, ?_⟩
    refine ⟨fun h => absurd h (nI_nle (by omega) (by omega)), fun _ => ?_⟩
    refine ⟨rfl, Nat.le_refl _, _, rfl, Or.inl ⟨f, p, _, hz.symm, rfl, _, _, _, _, rfl⟩⟩
  subst q5
  dsimp only at hz
  refine b_MO_readCodes_102 ⟨_, ⟨_, rfl, rfl⟩, ?_⟩
  refine ⟨fun _ => ?_, fun h => absurd (show (0 : Int32) ≤ 0 by decide) h⟩
  refine MO_rc109 (nL := 257 + m1) (nD := 1 + m2) (by omega) (by omega) q6 (fun ln3 cl z3 => ?_) (257 + m1) 0 ln2 false (by omega) (fun q hq => absurd hq (Nat.not_lt_zero _))
  refine MO_rc124 (nL := 257 + m1) (nD := 1 + m2) (by omega) (by omega) q6 (fun ln4 cl z4 z5 => ?_) (1 + m2) 0 ln3 cl (by omega) z3 (fun q hq => absurd hq (Nat.not_lt_zero _))
  refine xs_callV rfl lk_12_139 (d' := 0) (c_MO_prepare (fm := 0) (n := 257 + m1) (tb := 0) (g := row) (by omega) (by decide) (by omega) (fun i hi => by rw [Nat.zero_add]; exact z4 i hi) (fun i hi => q7 i (by omega))) (Nat.le_of_ble_eq_true rfl) rfl rfl rfl rfl rfl (Nat.le_of_ble_eq_true rfl) (by omega) (by omega) ?_
  rintro _ H1 ⟨rfl, ct2, od2, hp2, q9, q10, rfl⟩
  have hhl2 := how_le row (257 + m1)
  refine b_MO_readCodes_146 ?_
  refine xs_callV rfl lk_12_139 (d' := 0) (c_MO_prepare (fm := 400) (n := 1 + m2) (tb := 16) (g := fun i => row (257 + m1 + i)) (by omega) (by decide) (by omega) (fun i hi => z5 i hi) (fun i hi => q7 _ (by omega))) (Nat.le_of_ble_eq_true rfl) rfl rfl rfl rfl rfl (Nat.le_of_ble_eq_true rfl) (by omega) (by omega) ?_
  rintro _ H1 ⟨rfl, ct3, od3, hp3, q11, q12, rfl⟩
  have hp2' : prd ct3 od3 0 0 row (257 + m1) := by
    refine ⟨fun l hl => ?_, fun i hi hg => ?_⟩
    · rw [q11 _ (by omega)]; exact hp2.1 l hl
    · have := plc_n (g := row) hi hg
      rw [q12 _ (by omega)]; exact hp2.2 i hi hg
  have hhl3 := how_le (fun i => row (257 + m1 + i)) (1 + m2)
  have hsv := serves_how (g := fun i => row (257 + m1 + i)) (n := 1 + m2) (fun i hi => q7 _ (by omega))
  have e256 : ln4 (256 : Int32).toNatClampNeg = nI (row 256) := z4 256 (by omega)
  have h15 := q7 256 (by omega)
  refine b_MO_readCodes_152 ?_
  refine ⟨fun hj => ?_, fun hj => ?_⟩ <;> (try simp (disch := omega) only [nI_lit, nI_fold, nI_mul, nI_add, pk_sub, pk_div, nI_shrN, nI_clamp, nI_leI, nI_ltI, nI_eq, not_true_eq_false, not_false_eq_true, Bool.false_eq_true, if_true, if_false, nI_nem, nI_m1, nI_m7, nI_m15, nI_m32, nI_m4, nI_m8, nI_m16, nI_m2] at hj) <;> (try omega)
  · rw [if_neg (fun h => hj (by unfold howN; rw [if_pos h.1]))] at hz
    refine ⟨_, ⟨_, rfl, rfl⟩, ?_⟩
    refine xs_callV rfl lk_12_121 (d' := 0) (c_MO_fail) (Nat.le_of_ble_eq_true rfl) rfl rfl rfl rfl rfl (Nat.le_of_ble_eq_true rfl) (by omega) (by omega) ?_
    rintro _ H1 ⟨rfl, rfl⟩
    refine b_MO_readCodes_169 ?_
    refine ⟨rfl, Nat.le_refl _, _, rfl, Or.inl ⟨5, b', _, hz.symm, rfl, _, _, _, _, rfl⟩⟩
  have hful2 := how_2 hj
  refine ⟨_, ⟨_, rfl, rfl⟩, _, _, rfl, vp_in_nI (n := 256) (by decide) (by decide), ?_⟩
  rw [show (ct3, od3, ln4, rw2).2.2.1 (256 : Int32).toNatClampNeg = nI (row 256) from e256]
  refine ⟨fun hk => ?_, fun hk => ?_⟩ <;> (try simp (disch := omega) only [nI_lit, nI_fold, nI_mul, nI_add, pk_sub, pk_div, nI_shrN, nI_clamp, nI_leI, nI_ltI, nI_eq, not_true_eq_false, not_false_eq_true, Bool.false_eq_true, if_true, if_false, nI_nem, nI_m1, nI_m7, nI_m15, nI_m32, nI_m4, nI_m8, nI_m16, nI_m2] at hk) <;> (try omega)
  · rw [if_neg (fun h => h.2.1 hk)] at hz
    refine ⟨_, ⟨_, rfl, rfl⟩, ?_⟩
    refine xs_callV rfl lk_12_121 (d' := 0) (c_MO_fail) (Nat.le_of_ble_eq_true rfl) rfl rfl rfl rfl rfl (Nat.le_of_ble_eq_true rfl) (by omega) (by omega) ?_
    rintro _ H1 ⟨rfl, rfl⟩
    refine b_MO_readCodes_169 ?_
    refine ⟨rfl, Nat.le_refl _, _, rfl, Or.inl ⟨5, b', _, hz.symm, rfl, _, _, _, _, rfl⟩⟩
  refine ⟨fun hm => ?_, fun hm => ?_⟩ <;> (try simp (disch := omega) only [nI_lit, nI_fold, nI_mul, nI_add, pk_sub, pk_div, nI_shrN, nI_clamp, nI_leI, nI_ltI, nI_eq, not_true_eq_false, not_false_eq_true, Bool.false_eq_true, if_true, if_false, nI_nem, nI_m1, nI_m7, nI_m15, nI_m32, nI_m4, nI_m8, nI_m16, nI_m2] at hm) <;> (try omega)
  · rw [if_pos ⟨hful2, hk, hsv.mpr hm⟩] at hz
    refine b_MO_readCodes_169 ?_
    refine ⟨rfl, Nat.le_refl _, _, rfl, Or.inr ⟨row, 257 + m1, 1 + m2, b', ct3, od3, ln4, rw2, hz.symm, rfl, by omega, by omega, q8, hp2', hp3, fun i hi => q7 _ (by omega), hful2, hm, rfl⟩⟩
  · rw [if_neg (fun h => absurd hm (hsv.mp h.2.2))] at hz
    refine ⟨_, ⟨_, rfl, rfl⟩, ?_⟩
    refine xs_callV rfl lk_12_121 (d' := 0) (c_MO_fail) (Nat.le_of_ble_eq_true rfl) rfl rfl rfl rfl rfl (Nat.le_of_ble_eq_true rfl) (by omega) (by omega) ?_
    rintro _ H1 ⟨rfl, rfl⟩
    refine b_MO_readCodes_169 ?_
    refine ⟨rfl, Nat.le_refl _, _, rfl, Or.inl ⟨5, b', _, hz.symm, rfl, _, _, _, _, rfl⟩⟩
end MRc
