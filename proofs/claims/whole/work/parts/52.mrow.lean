/-! the model reads rows of lengths -/
section MRow
variable {l : Launch} {x : xX} {d : Nat} {C : Nat → va_E} {cd : Int32} {T R : wRow} {pl : Int32} {bl st : Nat} {K : wK4} {a mb : Nat} {ct od ln rw' : wF} {B : wMB} {Z : xH} {e : Nat}
def QR (C : Nat → va_E) (cd : Int32) (T R : wRow) (pl : Int32) (bl st : Nat) (K : wK4) (mb : Nat) (ct od ln : wF) (B : wMB) (Z : xH) (e due : Nat) (z : (Nat × Nat) ⊕ ((Nat → Nat) × Nat)) (H' : xH) : Prop := (∃ f p, z = .inl (f, p) ∧ MF C cd T bl st K B Z f p H') ∨ ∃ row a' rw2, z = .inr (row, a') ∧ (∀ j, j < due → rw2 j = nI (row j)) ∧ (∀ j, j < due → row j ≤ 15) ∧ a' ≤ e ∧ H' = hM C cd T R (0, pl, bl, st) K a' mb (ct, od, ln, rw2) B Z
theorem MO_row_in {n0 : Nat} {Q : xO → xH → Prop} {due many tm : Nat} {v3 v4 v : Nat} (hd : many + tm ≤ due) (hdue : due ≤ 316) (Kk : ∀ (rw2 : wF), (∀ j, j < many → rw2 j = rw' j) → (∀ j, many ≤ j → j < many + tm → rw2 j = nI v) → xW l x 3 0 0 mMO_readRow n0 Q false 2 [some (.ref 74), some (.int (nI due)), some (.int (nI (many + tm))), none, none, none, none, none] [] (hM C cd T R (0, pl, bl, st) K a mb (ct, od, ln, rw2) B Z) 0 0) : ∀ (j k : Nat) (rw2 : wF) (cl : Bool), k + j = tm → (∀ j, j < many → rw2 j = rw' j) → (∀ j, many ≤ j → j < many + k → rw2 j = nI v) → xW l x 3 0 0 mMO_readRow n0 Q cl 84 [some (.ref 74), some (.int (nI due)), some (.int (nI (many + k))), some (.int (nI v3)), some (.int (nI v4)), some (.int (nI tm)), some (.int (nI v)), some (.int (nI k))] [] (hM C cd T R (0, pl, bl, st) K a mb (ct, od, ln, rw2) B Z) 0 0 := by
  intro j
  induction j with
  | zero =>
    intro k rw2 cl hk h1 h2
    have : k = tm := by omega
    subst this
    refine b_MO_readRow_84 ?_
    refine ⟨fun hb => ?_, fun hb => ?_⟩ <;> (try simp (disch := omega) only [nI_lit, nI_fold, nI_mul, nI_add, pk_sub, pk_div, nI_shrN, nI_clamp, nI_leI, nI_ltI, nI_eq, not_true_eq_false, not_false_eq_true, Bool.false_eq_true, if_true, if_false, nI_nem, nI_m1, nI_m7, nI_m15, nI_m32, nI_m4, nI_m8, nI_m16, nI_m2] at hb) <;> (try omega)
    refine xW.fgt 3 (xW.fgt 4 (xW.fgt 5 (xW.fgt 6 (xW.fgt 7 ?_))))
    exact xW.weak (Kk rw2 h1 h2)
  | succ j ih =>
    intro k rw2 cl hk h1 h2
    refine b_MO_readRow_84 ?_
    refine ⟨fun hb => ?_, fun hb => ?_⟩ <;> (try simp (disch := omega) only [nI_lit, nI_fold, nI_mul, nI_add, pk_sub, pk_div, nI_shrN, nI_clamp, nI_leI, nI_ltI, nI_eq, not_true_eq_false, not_false_eq_true, Bool.false_eq_true, if_true, if_false, nI_nem, nI_m1, nI_m7, nI_m15, nI_m32, nI_m4, nI_m8, nI_m16, nI_m2] at hb) <;> (try omega)
    refine ⟨_, ⟨_, rfl, rfl⟩, ?_⟩
    refine ⟨fun h => absurd rfl h, fun _ => ?_⟩
    refine ⟨_, ⟨_, rfl, rfl⟩, _, _, rfl, Nat.le_of_ble_eq_true rfl, (by (try simp (disch := omega) only [nI_lit, nI_fold, nI_mul, nI_add, pk_sub, pk_div, nI_shrN, nI_clamp]); (with_reducible refine vp_in_nI ?_ ?_) <;> omega), fun H5 e5 => ?_⟩
    try simp (disch := omega) only [nI_lit, nI_fold, nI_mul, nI_add, pk_sub, pk_div, nI_shrN, nI_clamp] at e5
    subst e5
    rw [nI_1, nI_1]
    refine ih (k + 1) (upd rw2 (many + k) (nI v)) false (by omega) (fun q hq => ?_) (fun q hq1 hq2 => ?_)
    · unfold upd; rw [if_neg (by omega)]; exact h1 q hq
    · unfold upd
      split
      · rfl
      · exact h2 q hq1 (by omega)
theorem MO_row_loop {n0 : Nat} {Q : xO → xH → Prop} (hT : ∀ i, T.1 i < 256) (hn : T.2 ≤ 32768) (he : e = 8 * T.2) {g : Nat → Nat} {due : Nat} (hdue : due ≤ 316) (hp : prd ct od 500 32 g 19) (hfull : krs g 19 15 = 32768) (z : (Nat × Nat) ⊕ ((Nat → Nat) × Nat)) (hK : fK z) (hq : ∀ H', QR C cd T R pl bl st K mb ct od ln B Z e due z H' → Q (.inl none) H') :
    ∀ (m many a : Nat) (row : Nat → Nat) (rw' : wF) (cl : Bool), due ≤ many + m → many ≤ due → a ≤ e → (∀ j, j < many → rw' j = nI (row j)) → (∀ j, j < many → row j ≤ 15) → zrl T.1 e g due m many row a = z → xW l x 3 0 0 mMO_readRow n0 Q cl 2 [some (.ref 74), some (.int (nI due)), some (.int (nI many)), none, none, none, none, none] [] (hM C cd T R (0, pl, bl, st) K a mb (ct, od, ln, rw') B Z) 0 0 := by
  -- behind a fault
  have f82 : ∀ (f p : Nat) (v1 v2 v3 v4 v5 v6 : Int32) (R' : wRow) (a' mb' : Nat) (A' : wK4) (cl : Bool), z = .inl (f, p) → xW l x 3 0 0 mMO_readRow n0 Q cl 82 [some (.ref 74), some (.int v1), some (.int v2), some (.int v3), some (.int v4), some (.int v5), some (.int v6), none] [] (hM C cd T R' (nI f, nI p, bl, st) K a' mb' A' B Z) 0 0 := by
    intro f p v1 v2 v3 v4 v5 v6 R' a' mb' A' cl hz
    have hF := nI_ne (hK _ hz).1 (hK _ hz).2
    have hfin : ∀ (cl : Bool), xW l x 3 0 0 mMO_readRow n0 Q cl 2 [some (.ref 74), some (.int v1), some (.int v2), none, none, none, none, none] [] (hM C cd T R' (nI f, nI p, bl, st) K a' mb' A' B Z) 0 0 := by
      intro cl
      refine b_MO_readRow_2 ?_
      refine ⟨fun _ => ⟨rfl, Nat.le_refl _, hq _ (Or.inl ⟨f, p, hz, _, _, _, _, rfl⟩)⟩, fun _ => ?_⟩
      refine ⟨_, ⟨_, rfl, rfl⟩, ?_⟩
      exact ⟨fun _ => ⟨rfl, Nat.le_refl _, hq _ (Or.inl ⟨f, p, hz, _, _, _, _, rfl⟩)⟩, fun h => absurd h hF⟩
    refine b_MO_readRow_82 ?_
    refine b_MO_readRow_84 ?_
    refine ⟨fun _ => ?_, fun _ => ?_⟩
    · refine xW.fgt 3 (xW.fgt 4 (xW.fgt 5 (xW.fgt 6 (xW.fgt 7 ?_))))
      exact hfin cl
    refine ⟨_, ⟨_, rfl, rfl⟩, ?_⟩
    refine ⟨fun _ => ?_, fun h => absurd h hF⟩
    refine xW.fgt 3 (xW.fgt 4 (xW.fgt 5 (xW.fgt 6 (xW.fgt 7 ?_))))
    exact hfin cl
  intro m
  induction m with
  | zero =>
    intro many a row rw' cl hm hmd hae hrw hrow hz
    refine b_MO_readRow_2 ?_
    refine ⟨fun hb => ?_, fun hb => ?_⟩ <;> (try simp (disch := omega) only [nI_lit, nI_fold, nI_mul, nI_add, pk_sub, pk_div, nI_shrN, nI_clamp, nI_leI, nI_ltI, nI_eq, not_true_eq_false, not_false_eq_true, Bool.false_eq_true, if_true, if_false, nI_nem, nI_m1, nI_m7, nI_m15, nI_m32, nI_m4, nI_m8, nI_m16, nI_m2] at hb) <;> (try omega)
    exact ⟨rfl, Nat.le_refl _, hq _ (Or.inr ⟨row, a, rw', hz.symm, fun j hj => hrw j (by omega), fun j hj => hrow j (by omega), hae, rfl⟩)⟩
  | succ m ih =>
    intro many a row rw' cl hm hmd hae hrw hrow hz
    unfold zrl at hz
    refine b_MO_readRow_2 ?_
    refine ⟨fun hb => ?_, fun hb => ?_⟩ <;> (try simp (disch := omega) only [nI_lit, nI_fold, nI_mul, nI_add, pk_sub, pk_div, nI_shrN, nI_clamp, nI_leI, nI_ltI, nI_eq, not_true_eq_false, not_false_eq_true, Bool.false_eq_true, if_true, if_false, nI_nem, nI_m1, nI_m7, nI_m15, nI_m32, nI_m4, nI_m8, nI_m16, nI_m2] at hb) <;> (try omega)
    · rw [if_neg (by omega)] at hz
      exact ⟨rfl, Nat.le_refl _, hq _ (Or.inr ⟨row, a, rw', hz.symm, fun j hj => hrw j (by omega), fun j hj => hrow j (by omega), hae, rfl⟩)⟩
    rw [if_pos (by omega)] at hz
    refine ⟨_, ⟨_, rfl, rfl⟩, ?_⟩
    refine ⟨fun h => absurd rfl h, fun _ => ?_⟩
    refine ⟨_, ⟨_, rfl, rfl⟩, ?_⟩
    refine xs_callV rfl lk_12_129 (d' := 2) (c_MO_symbol (fm := 500) (tb := 32) (n := 19) hT hn he (by decide) (by decide) (by decide) hp hfull hae) (Nat.le_of_ble_eq_true rfl) rfl rfl rfl rfl rfl (Nat.le_of_ble_eq_true rfl) (by omega) (by omega) ?_
    intro o H1 hY
    rcases hY.cases with ⟨f, p, a', q1, rfl, rfl⟩ | ⟨y, b, q1, rfl, rfl⟩
    · rw [q1] at hz
      have hF := nI_ne (hK _ hz.symm).1 (hK _ hz.symm).2
      refine b_MO_readRow_15 ?_
      refine ⟨fun _ => ?_, fun h => absurd h (by decide)⟩
      refine ⟨fun _ => ?_, fun h => absurd (show (0 : Int32) ≤ 16 by decide) h⟩
      refine ⟨_, ⟨_, rfl, rfl⟩, ?_⟩
      refine ⟨fun _ => ?_, fun h => absurd h hF⟩
      exact f82 f p _ _ _ _ _ _ _ _ _ _ _ hz.symm
    have q2 := zs_le q1
    rw [q1] at hz
    dsimp only at hz
    -- so many times a length
    have k82 : ∀ (b tm v y : Nat) (cl : Bool), 1 ≤ tm → tm ≤ due - many → v ≤ 15 → b ≤ e → zrl T.1 e g due m (many + tm) (filN row v many (many + tm)) b = z → xW l x 3 0 0 mMO_readRow n0 Q cl 82 [some (.ref 74), some (.int (nI due)), some (.int (nI many)), some (.int (nI a)), some (.int (nI y)), some (.int (nI tm)), some (.int (nI v)), none] [] (hM C cd T R (0, pl, bl, st) K b mb (ct, od, ln, rw') B Z) 0 0 := by
      intro b tm v y cl htm htd hv hbe hz2
      refine b_MO_readRow_82 ?_
      refine MO_row_in (rw' := rw') (many := many) (tm := tm) (v := v) (by omega) hdue (fun rw2 g1 g2 => ?_) tm 0 rw' cl (by omega) (fun _ _ => rfl) (fun j h1 h2 => by omega)
      refine ih (many + tm) b _ rw2 false (by omega) (by omega) hbe (fun j hj => ?_) (fun j hj => ?_) hz2
      · unfold filN
        split
        · exact g2 j (by omega) (by omega)
        · rw [g1 j (by omega)]; exact hrw j (by omega)
      · unfold filN
        split
        · exact hv
        · exact hrow j (by omega)
    have k46 : ∀ (v : Nat) (cl : Bool), y = 16 → ¬ (y = 16 ∧ many = 0) → v = (if y = 16 then row (many - 1) else 0) → v ≤ 15 → xW l x 3 0 0 mMO_readRow n0 Q cl 46 [some (.ref 74), some (.int (nI due)), some (.int (nI many)), some (.int (nI a)), some (.int (nI y)), some (.int 1), some (.int (nI v)), none] [.int (nI 2), .ref 74, .int (nI 3)] (hM C cd T R (0, pl, bl, st) K b mb (ct, od, ln, rw') B Z) 0 0 := by
      intro v cl hy hy2 hv hv15
      have hz2 := hz
      rw [if_neg (show ¬ y < 16 by omega), if_neg hy2, ← hv, show (if y = 16 then 2 else if y = 17 then 3 else 7) = 2 by rw [hy]; rfl, show (if y = 18 then 11 else 3) = 3 by rw [hy]; rfl] at hz2
      have hrn := rdn_lt T.1 b 2
      refine xs_callV rfl lk_12_133 (d' := 2) (c_MO_number (n := 2) hT hn he (by decide) q2.2.1) (Nat.le_of_ble_eq_true rfl) rfl rfl rfl rfl rfl (Nat.le_of_ble_eq_true rfl) (by omega) (by omega) ?_
      rintro _ H1 (⟨g1, rfl, rfl⟩ | ⟨g1, w, a', rfl, rfl⟩)
      · rw [if_neg (by omega)] at hz2
        refine b_MO_readRow_47 ⟨_, ⟨_, rfl, rfl⟩, fun h => absurd rfl h, fun _ => ?_⟩
        rw [nI_add, pk_sub (by omega)]
        refine ⟨fun hg => ?_, fun hg => ?_⟩ <;> (try simp (disch := omega) only [nI_lit, nI_fold, nI_mul, nI_add, pk_sub, pk_div, nI_shrN, nI_clamp, nI_leI, nI_ltI, nI_eq, not_true_eq_false, not_false_eq_true, Bool.false_eq_true, if_true, if_false, nI_nem, nI_m1, nI_m7, nI_m15, nI_m32, nI_m4, nI_m8, nI_m16, nI_m2] at hg) <;> (try omega)
        · rw [if_neg (by omega)] at hz2
          rw [show 3 + rdn T.1 b 2 = rdn T.1 b 2 + 3 by omega]
          exact k82 (b + 2) _ v y false (by omega) (by omega) hv15 g1 hz2
        · rw [if_pos (by omega)] at hz2
          refine xs_callV rfl lk_12_121 (d' := 0) (c_MO_fail) (Nat.le_of_ble_eq_true rfl) rfl rfl rfl rfl rfl (Nat.le_of_ble_eq_true rfl) (by omega) (by omega) ?_
          rintro _ H1 ⟨rfl, rfl⟩
          exact f82 7 a _ _ _ _ _ _ _ _ _ _ _ hz2.symm
      · rw [if_pos (by omega)] at hz2
        refine b_MO_readRow_47 ⟨_, ⟨_, rfl, rfl⟩, fun _ => ?_, fun h => absurd h (show ¬ (1 : Int32) = 0 by decide)⟩
        exact f82 1 e _ _ _ _ _ _ _ _ _ _ _ hz2.symm
    have k61 : ∀ (v : Nat) (cl : Bool), y = 17 → ¬ (y = 16 ∧ many = 0) → v = (if y = 16 then row (many - 1) else 0) → v ≤ 15 → xW l x 3 0 0 mMO_readRow n0 Q cl 61 [some (.ref 74), some (.int (nI due)), some (.int (nI many)), some (.int (nI a)), some (.int (nI y)), some (.int 1), some (.int (nI v)), none] [.int (nI 3), .ref 74, .int (nI 3)] (hM C cd T R (0, pl, bl, st) K b mb (ct, od, ln, rw') B Z) 0 0 := by
      intro v cl hy hy2 hv hv15
      have hz2 := hz
      rw [if_neg (show ¬ y < 16 by omega), if_neg hy2, ← hv, show (if y = 16 then 2 else if y = 17 then 3 else 7) = 3 by rw [hy]; rfl, show (if y = 18 then 11 else 3) = 3 by rw [hy]; rfl] at hz2
      have hrn := rdn_lt T.1 b 3
      refine xs_callV rfl lk_12_133 (d' := 2) (c_MO_number (n := 3) hT hn he (by decide) q2.2.1) (Nat.le_of_ble_eq_true rfl) rfl rfl rfl rfl rfl (Nat.le_of_ble_eq_true rfl) (by omega) (by omega) ?_
      rintro _ H1 (⟨g1, rfl, rfl⟩ | ⟨g1, w, a', rfl, rfl⟩)
      · rw [if_neg (by omega)] at hz2
        refine b_MO_readRow_62 ⟨_, ⟨_, rfl, rfl⟩, fun h => absurd rfl h, fun _ => ?_⟩
        rw [nI_add, pk_sub (by omega)]
        refine ⟨fun hg => ?_, fun hg => ?_⟩ <;> (try simp (disch := omega) only [nI_lit, nI_fold, nI_mul, nI_add, pk_sub, pk_div, nI_shrN, nI_clamp, nI_leI, nI_ltI, nI_eq, not_true_eq_false, not_false_eq_true, Bool.false_eq_true, if_true, if_false, nI_nem, nI_m1, nI_m7, nI_m15, nI_m32, nI_m4, nI_m8, nI_m16, nI_m2] at hg) <;> (try omega)
        · rw [if_neg (by omega)] at hz2
          rw [show 3 + rdn T.1 b 3 = rdn T.1 b 3 + 3 by omega]
          exact k82 (b + 3) _ v y false (by omega) (by omega) hv15 g1 hz2
        · rw [if_pos (by omega)] at hz2
          refine xs_callV rfl lk_12_121 (d' := 0) (c_MO_fail) (Nat.le_of_ble_eq_true rfl) rfl rfl rfl rfl rfl (Nat.le_of_ble_eq_true rfl) (by omega) (by omega) ?_
          rintro _ H1 ⟨rfl, rfl⟩
          exact f82 7 a _ _ _ _ _ _ _ _ _ _ _ hz2.symm
      · rw [if_pos (by omega)] at hz2
        refine b_MO_readRow_62 ⟨_, ⟨_, rfl, rfl⟩, fun _ => ?_, fun h => absurd h (show ¬ (1 : Int32) = 0 by decide)⟩
        exact f82 1 e _ _ _ _ _ _ _ _ _ _ _ hz2.symm
    have k67 : ∀ (v : Nat) (cl : Bool), y = 18 → ¬ (y = 16 ∧ many = 0) → v = (if y = 16 then row (many - 1) else 0) → v ≤ 15 → xW l x 3 0 0 mMO_readRow n0 Q cl 67 [some (.ref 74), some (.int (nI due)), some (.int (nI many)), some (.int (nI a)), some (.int (nI y)), some (.int 1), some (.int (nI v)), none] [.int (nI 7), .ref 74, .int (nI 11)] (hM C cd T R (0, pl, bl, st) K b mb (ct, od, ln, rw') B Z) 0 0 := by
      intro v cl hy hy2 hv hv15
      have hz2 := hz
      rw [if_neg (show ¬ y < 16 by omega), if_neg hy2, ← hv, show (if y = 16 then 2 else if y = 17 then 3 else 7) = 7 by rw [hy]; rfl, show (if y = 18 then 11 else 3) = 11 by rw [hy]; rfl] at hz2
      have hrn := rdn_lt T.1 b 7
      refine xs_callV rfl lk_12_133 (d' := 2) (c_MO_number (n := 7) hT hn he (by decide) q2.2.1) (Nat.le_of_ble_eq_true rfl) rfl rfl rfl rfl rfl (Nat.le_of_ble_eq_true rfl) (by omega) (by omega) ?_
      rintro _ H1 (⟨g1, rfl, rfl⟩ | ⟨g1, w, a', rfl, rfl⟩)
      · rw [if_neg (by omega)] at hz2
        refine b_MO_readRow_68 ⟨_, ⟨_, rfl, rfl⟩, fun h => absurd rfl h, fun _ => ?_⟩
        rw [nI_add, pk_sub (by omega)]
        refine ⟨fun hg => ?_, fun hg => ?_⟩ <;> (try simp (disch := omega) only [nI_lit, nI_fold, nI_mul, nI_add, pk_sub, pk_div, nI_shrN, nI_clamp, nI_leI, nI_ltI, nI_eq, not_true_eq_false, not_false_eq_true, Bool.false_eq_true, if_true, if_false, nI_nem, nI_m1, nI_m7, nI_m15, nI_m32, nI_m4, nI_m8, nI_m16, nI_m2] at hg) <;> (try omega)
        · rw [if_neg (by omega)] at hz2
          rw [show 11 + rdn T.1 b 7 = rdn T.1 b 7 + 11 by omega]
          exact k82 (b + 7) _ v y false (by omega) (by omega) hv15 g1 hz2
        · rw [if_pos (by omega)] at hz2
          refine xs_callV rfl lk_12_121 (d' := 0) (c_MO_fail) (Nat.le_of_ble_eq_true rfl) rfl rfl rfl rfl rfl (Nat.le_of_ble_eq_true rfl) (by omega) (by omega) ?_
          rintro _ H1 ⟨rfl, rfl⟩
          exact f82 7 a _ _ _ _ _ _ _ _ _ _ _ hz2.symm
      · rw [if_pos (by omega)] at hz2
        refine b_MO_readRow_68 ⟨_, ⟨_, rfl, rfl⟩, fun _ => ?_, fun h => absurd h (show ¬ (1 : Int32) = 0 by decide)⟩
        exact f82 1 e _ _ _ _ _ _ _ _ _ _ _ hz2.symm
    refine b_MO_readRow_15 ?_
    refine ⟨fun hf => ?_, fun hf => ?_⟩ <;> (try simp (disch := omega) only [nI_lit, nI_fold, nI_mul, nI_add, pk_sub, pk_div, nI_shrN, nI_clamp, nI_leI, nI_ltI, nI_eq, not_true_eq_false, not_false_eq_true, Bool.false_eq_true, if_true, if_false, nI_nem, nI_m1, nI_m7, nI_m15, nI_m32, nI_m4, nI_m8, nI_m16, nI_m2] at hf) <;> (try omega)
    · refine ⟨fun hg => ?_, fun hg => ?_⟩ <;> (try simp (disch := omega) only [nI_lit, nI_fold, nI_mul, nI_add, pk_sub, pk_div, nI_shrN, nI_clamp, nI_leI, nI_ltI, nI_eq, not_true_eq_false, not_false_eq_true, Bool.false_eq_true, if_true, if_false, nI_nem, nI_m1, nI_m7, nI_m15, nI_m32, nI_m4, nI_m8, nI_m16, nI_m2] at hg) <;> (try omega)
      · refine ⟨_, ⟨_, rfl, rfl⟩, ?_⟩
        refine ⟨fun h => absurd rfl h, fun _ => ?_⟩
        rw [pk_sub (by omega)]
        refine ⟨fun hh => ?_, fun hh => ?_⟩ <;> (try simp (disch := omega) only [nI_lit, nI_fold, nI_mul, nI_add, pk_sub, pk_div, nI_shrN, nI_clamp, nI_leI, nI_ltI, nI_eq, not_true_eq_false, not_false_eq_true, Bool.false_eq_true, if_true, if_false, nI_nem, nI_m1, nI_m7, nI_m15, nI_m32, nI_m4, nI_m8, nI_m16, nI_m2] at hh) <;> (try omega)
        rw [if_pos (by omega)] at hz
        refine k82 b 1 y y false (by decide) (by omega) (by omega) q2.2.1 ?_
        rw [← hz]
        congr 1
        funext j
        unfold filN nup
        by_cases hj : j = many
        · rw [if_pos (by omega), if_pos hj]
        · rw [if_neg (by omega), if_neg hj]
      · refine ⟨fun hh => ?_, fun hh => ?_⟩ <;> (try simp (disch := omega) only [nI_lit, nI_fold, nI_mul, nI_add, pk_sub, pk_div, nI_shrN, nI_clamp, nI_leI, nI_ltI, nI_eq, not_true_eq_false, not_false_eq_true, Bool.false_eq_true, if_true, if_false, nI_nem, nI_m1, nI_m7, nI_m15, nI_m32, nI_m4, nI_m8, nI_m16, nI_m2] at hh) <;> (try omega)
        · exact k67 0 false (by omega) (by omega) (by rw [if_neg (by omega)]) (by omega)
        · exact k61 0 false (by omega) (by omega) (by rw [if_neg (by omega)]) (by omega)
    · refine ⟨_, ⟨_, rfl, rfl⟩, ?_⟩
      refine ⟨fun h => absurd rfl h, fun _ => ?_⟩
      refine ⟨fun hh => ?_, fun hh => ?_⟩ <;> (try simp (disch := omega) only [nI_lit, nI_fold, nI_mul, nI_add, pk_sub, pk_div, nI_shrN, nI_clamp, nI_leI, nI_ltI, nI_eq, not_true_eq_false, not_false_eq_true, Bool.false_eq_true, if_true, if_false, nI_nem, nI_m1, nI_m7, nI_m15, nI_m32, nI_m4, nI_m8, nI_m16, nI_m2] at hh) <;> (try omega)
      · refine b_MO_readRow_32 ?_
        refine ⟨fun hi => ?_, fun hi => ?_⟩ <;> (try simp (disch := omega) only [nI_lit, nI_fold, nI_mul, nI_add, pk_sub, pk_div, nI_shrN, nI_clamp, nI_leI, nI_ltI, nI_eq, not_true_eq_false, not_false_eq_true, Bool.false_eq_true, if_true, if_false, nI_nem, nI_m1, nI_m7, nI_m15, nI_m32, nI_m4, nI_m8, nI_m16, nI_m2] at hi) <;> (try omega)
        refine ⟨_, ⟨_, rfl, rfl⟩, _, _, rfl, (by rw [show nI many - 1 = nI (many - 1) from pk_sub (b := 1) (by omega)]; exact vp_in_nI (by omega) (by decide)), ?_⟩
        rw [show nI many - 1 = nI (many - 1) from pk_sub (b := 1) (by omega), nI_clamp (by omega), show (ct, od, ln, rw').2.2.2 (many - 1) = nI (row (many - 1)) from hrw _ (by omega)]
        exact k46 (row (many - 1)) false hf (by omega) (by rw [if_pos hf]) (hrow _ (by omega))
      · rw [if_neg (by omega), if_pos ⟨hf, hh⟩] at hz
        refine xs_callV rfl lk_12_121 (d' := 0) (c_MO_fail) (Nat.le_of_ble_eq_true rfl) rfl rfl rfl rfl rfl (Nat.le_of_ble_eq_true rfl) (by omega) (by omega) ?_
        rintro _ H1 ⟨rfl, rfl⟩
        refine b_MO_readRow_32 ?_
        refine ⟨fun hi => ?_, fun hi => ?_⟩ <;> (try simp (disch := omega) only [nI_lit, nI_fold, nI_mul, nI_add, pk_sub, pk_div, nI_shrN, nI_clamp, nI_leI, nI_ltI, nI_eq, not_true_eq_false, not_false_eq_true, Bool.false_eq_true, if_true, if_false, nI_nem, nI_m1, nI_m7, nI_m15, nI_m32, nI_m4, nI_m8, nI_m16, nI_m2] at hi) <;> (try omega)
        refine xs_callV rfl lk_12_133 (d' := 2) (c_MO_number_f (F := 6) (n := 2) (by decide)) (Nat.le_of_ble_eq_true rfl) rfl rfl rfl rfl rfl (Nat.le_of_ble_eq_true rfl) (by omega) (by omega) ?_
        rintro _ H1 ⟨rfl, rfl⟩
        refine b_MO_readRow_47 ⟨_, ⟨_, rfl, rfl⟩, fun _ => ?_, fun h => absurd h (show ¬ (6 : Int32) = 0 by decide)⟩
        exact f82 6 a _ _ _ _ _ _ _ _ _ _ _ hz.symm
theorem c_MO_readRow (hT : ∀ i, T.1 i < 256) (hn : T.2 ≤ 32768) (he : e = 8 * T.2) {g : Nat → Nat} {due : Nat} (hdue : due ≤ 316) (hp : prd ct od 500 32 g 19) (hfull : krs g 19 15 = 32768) (ha : a ≤ e) : xCr l x 3 0 0 mMO_readRow [.ref 74, .int (nI due)] (hM C cd T R (0, pl, bl, st) K a mb (ct, od, ln, rw') B Z) (fun o H' => o = none ∧ QR C cd T R pl bl st K mb ct od ln B Z e due (zrl T.1 e g due 316 0 (fun _ => 0) a) H') := by
  refine xCt.of (by decide) rfl ck_MO_readRow (Nat.le_of_ble_eq_true rfl) rfl ?_
  refine b_MO_readRow_0 ?_
  exact MO_row_loop hT hn he hdue hp hfull _ (fK_zrl _ _ _ _) (fun H' h => ⟨_, rfl, rfl, h⟩) 316 0 a _ rw' true (by omega) (by omega) ha (fun j hj => absurd hj (Nat.not_lt_zero _)) (fun j hj => absurd hj (Nat.not_lt_zero _)) rfl
end MRow
