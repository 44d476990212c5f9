section URow
variable {l : Launch} {x : xX} {d : Nat} {s0 : va_E} {T R : wRow} {P : wRep} {k : wPK} {a e mb : Nat} {c1 c2 c3 c4 c5 : wRC} {fl f9 : wF} {Z : xH}
def QLn (s0 : va_E) (T R : wRow) (P : wRep) (k : wPK) (e mb : Nat) (c1 c2 c3 c4 c5 : wRC) (f9 : wF) (Z : xH) (due : Nat) (z : (Nat × Nat) ⊕ ((Nat → Nat) × Nat)) (o : Option Value) (H' : xH) : Prop := (∃ f p, z = .inl (f, p) ∧ o = some (.int 0) ∧ UF s0 T P k e c1 c2 f9 Z f p H') ∨ ∃ row a' fl', z = .inr (row, a') ∧ o = some (.int 1) ∧ (∀ j, j < due → fl' j = nI (row j)) ∧ (∀ j, j < due → row j ≤ 15) ∧ a' ≤ e ∧ H' = hc s0 T R P k (a', e, mb, c1, c2, c3, c4, c5, fl', f9) Z
theorem UN_len_loop {n0 : Nat} {Q : xO → xH → Prop} (hT : ∀ i, T.1 i < 256) (he : e ≤ 8 * T.2) (hn : T.2 ≤ 32768) {g : Nat → Nat} {due : Nat} (hdue : due ≤ 316) (hok : rcOK c3 g 19) (z : (Nat × Nat) ⊕ ((Nat → Nat) × Nat)) (hq : ∀ o H', QLn s0 T R P k e mb c1 c2 c3 c4 c5 f9 Z due z o H' → Q (.inl o) H') :
    ∀ (m i many a : Nat) (row : Nat → Nat) (fl : wF) (cl : Bool), i + m = 316 → i ≤ many → many ≤ due → a ≤ e → (∀ j, j < many → fl j = nI (row j)) → (∀ j, j < many → row j ≤ 15) → zrl T.1 e g due m many row a = z → xW l x 2 0 0 mUN_readLengths n0 Q cl 4 [some (.ref 51), some (.int (nI due)), some (.int (nI many)), some (.int (nI i)), none, none, none, none] [] (hc s0 T R P k (a, e, mb, c1, c2, c3, c4, c5, fl, f9) Z) 0 0 := by
  intro m
  induction m with
  | zero =>
    intro i many a row fl cl hi him hmd hae hfl hrow hz
    refine b_UN_readLengths_4 ?_
    refine ⟨fun hb => ?_, fun hb => ?_⟩ <;> (try simp (disch := omega) only [nI_lit, nI_fold, nI_mul, nI_add, pk_sub, pk_div, nI_shrN, nI_clamp, nI_leI, nI_ltI, nI_eq, not_true_eq_false, not_false_eq_true, Bool.false_eq_true, if_true, if_false, nI_nem, nI_m1, nI_m7, nI_m15, nI_m32, nI_m4, nI_m8, nI_m16, nI_m2] at hb) <;> (try omega)
    exact ⟨rfl, rfl, Nat.le_refl _, hq _ _ (Or.inr ⟨row, a, fl, hz.symm, rfl, fun j hj => hfl j (by omega), fun j hj => hrow j (by omega), hae, rfl⟩)⟩
  | succ m ih =>
    intro i many a row fl cl hi him hmd hae hfl hrow hz
    refine b_UN_readLengths_4 ?_
    refine ⟨fun hb => ?_, fun hb => ?_⟩ <;> (try simp (disch := omega) only [nI_lit, nI_fold, nI_mul, nI_add, pk_sub, pk_div, nI_shrN, nI_clamp, nI_leI, nI_ltI, nI_eq, not_true_eq_false, not_false_eq_true, Bool.false_eq_true, if_true, if_false, nI_nem, nI_m1, nI_m7, nI_m15, nI_m32, nI_m4, nI_m8, nI_m16, nI_m2] at hb) <;> (try omega)
    · exact ⟨rfl, rfl, Nat.le_refl _, hq _ _ (Or.inr ⟨row, a, fl, by rw [← hz, zrl, if_neg (by omega)], rfl, fun j hj => hfl j (by omega), fun j hj => hrow j (by omega), hae, rfl⟩)⟩
    skip
    refine ⟨fun hd => ?_, fun hd => ?_⟩ <;> (try simp (disch := omega) only [nI_lit, nI_fold, nI_mul, nI_add, pk_sub, pk_div, nI_shrN, nI_clamp, nI_leI, nI_ltI, nI_eq, not_true_eq_false, not_false_eq_true, Bool.false_eq_true, if_true, if_false, nI_nem, nI_m1, nI_m7, nI_m15, nI_m32, nI_m4, nI_m8, nI_m16, nI_m2] at hd) <;> (try omega)
    rw [zrl, if_pos (by omega)] at hz
    refine ⟨_, ⟨_, rfl, rfl⟩, _, ⟨_, rfl, rfl⟩, ?_⟩
    refine xs_callV rfl lk_9_201 (d' := 1) (c_UN_readSymbol (gs := (c1, c2, c3, c4, c5, fl, f9)) hT he hn (n := 19) (by decide) hae (fun _ => rfl) (fun _ => rfl) (fun _ => rfl) hok) (Nat.le_of_ble_eq_true rfl) rfl rfl rfl rfl rfl (Nat.le_of_ble_eq_true rfl) (by omega) (by omega) ?_
    intro o H1 h1
    rcases h1.cases with ⟨f, p, a', h2, rfl, rfl⟩ | ⟨y, b, h2, rfl, rfl⟩
    · rw [h2] at hz
      refine b_UN_readLengths_17 ?_
      refine ⟨fun hf => ?_, fun hf => ?_⟩ <;> (try simp (disch := omega) only [nI_lit, nI_fold, nI_mul, nI_add, pk_sub, pk_div, nI_shrN, nI_clamp, nI_leI, nI_ltI, nI_eq, not_true_eq_false, not_false_eq_true, Bool.false_eq_true, if_true, if_false, nI_nem, nI_m1, nI_m7, nI_m15, nI_m32, nI_m4, nI_m8, nI_m16, nI_m2] at hf) <;> (try omega)
      exact ⟨rfl, rfl, Nat.le_refl _, hq _ _ (Or.inl ⟨f, p, hz.symm, rfl, _, _, _, _, _, _, _, rfl⟩)⟩
    have h3 := zs_le h2
    rw [h2] at hz
    dsimp only at hz
    -- a run
    have k55 : ∀ (nb : Nat) (cl : Bool), 16 ≤ y → ¬ (y = 16 ∧ many = 0) → nb = (if y = 16 then 2 else if y = 17 then 3 else 7) → xW l x 2 0 0 mUN_readLengths n0 Q cl 55 [some (.ref 51), some (.int (nI due)), some (.int (nI many)), some (.int (nI i)), some (.int (nI a)), some (.int (nI y)), none, none] [.int (nI nb), .ref 51] (hc s0 T R P k (b, e, mb, c1, c2, c3, c4, c5, fl, f9) Z) 0 0 := by
      intro nb cl hy hy2 hnb
      have hnb7 : nb ≤ 7 := by rw [hnb]; split <;> (try split) <;> omega
      have hz2 := hz
      rw [if_neg (show ¬ y < 16 by omega), if_neg hy2, ← hnb] at hz2
      have hrn : rdn T.1 b nb < 128 := Nat.lt_of_lt_of_le (rdn_lt T.1 b nb) (Nat.pow_le_pow_right (by decide) hnb7)
      have k98 : ∀ (tm v v6 : Nat) (cl : Bool), tm = rdn T.1 b nb + (if y = 18 then 11 else 3) → b + nb ≤ e → tm ≤ due - many → v = (if y = 16 then row (many - 1) else 0) → xW l x 2 0 0 mUN_readLengths n0 Q cl 98 [some (.ref 51), some (.int (nI due)), some (.int (nI many)), some (.int (nI i)), some (.int (nI a)), some (.int (nI y)), some (.int (nI v6)), some (.int (nI tm))] [.int (nI v), .int (nI (many + tm)), .int (nI many), .ref 72] (hc s0 T R P k (b + nb, e, mb, c1, c2, c3, c4, c5, fl, f9) Z) 0 0 := by
        intro tm v v6 cl htm hbe htd hv
        rw [if_neg (by omega), ← htm, if_neg (by omega), ← hv] at hz2
        have hv15 : v ≤ 15 := by
          rw [hv]
          split
          · exact hrow _ (by omega)
          · omega
        refine xs_callS rfl lk_9_195 (d' := 1) (c_AR_fill2 (N := 316) (f := fl) (a := many) (b := many + tm) rfl (by decide) (by omega) (by omega) (by decide)) (Nat.le_of_ble_eq_true rfl) rfl rfl (Nat.le_of_ble_eq_true rfl) (by omega) (by omega) ?_
        rintro _ H1 ⟨rfl, rfl⟩
        refine b_UN_readLengths_99 ?_
        try simp (disch := omega) only [nI_lit, nI_fold, nI_mul, nI_add, pk_sub, pk_div, nI_shrN, nI_clamp]
        refine xW.fgt 4 (xW.fgt 5 (xW.fgt 6 (xW.fgt 7 ?_)))
        refine ih (i + 1) (many + tm) (b + nb) (filN row v many (many + tm)) (x_fil fl (nI v) many (many + tm)) false (by omega) (by split at htm <;> omega) (by omega) hbe (fun j hj => ?_) (fun j hj => ?_) hz2
        · unfold x_fil filN
          split
          · rfl
          · exact hfl j (by omega)
        · unfold filN
          split
          · exact hv15
          · exact hrow j (by omega)
      refine xs_callV rfl lk_9_111 (d' := 1) (c_UN_readNumber (n := nb) hT (by omega) (by omega) (by omega)) (Nat.le_of_ble_eq_true rfl) rfl rfl rfl rfl rfl (Nat.le_of_ble_eq_true rfl) (by omega) (by omega) ?_
      rintro _ H1 (⟨g1, rfl, rfl⟩ | ⟨g1, rfl, rfl⟩)
      case inr =>
        rw [if_pos g1] at hz2
        refine b_UN_readLengths_56 ?_
        refine ⟨fun hf => ?_, fun hf => ?_⟩ <;> (try simp (disch := omega) only [nI_lit, nI_fold, nI_mul, nI_add, pk_sub, pk_div, nI_shrN, nI_clamp, nI_leI, nI_ltI, nI_eq, not_true_eq_false, not_false_eq_true, Bool.false_eq_true, if_true, if_false, nI_nem, nI_m1, nI_m7, nI_m15, nI_m32, nI_m4, nI_m8, nI_m16, nI_m2] at hf) <;> (try omega)
        exact ⟨rfl, rfl, Nat.le_refl _, hq _ _ (Or.inl ⟨1, e, hz2.symm, rfl, _, _, _, _, _, _, _, rfl⟩)⟩
      refine b_UN_readLengths_56 ?_
      refine ⟨fun hf => ?_, fun hf => ?_⟩ <;> (try simp (disch := omega) only [nI_lit, nI_fold, nI_mul, nI_add, pk_sub, pk_div, nI_shrN, nI_clamp, nI_leI, nI_ltI, nI_eq, not_true_eq_false, not_false_eq_true, Bool.false_eq_true, if_true, if_false, nI_nem, nI_m1, nI_m7, nI_m15, nI_m32, nI_m4, nI_m8, nI_m16, nI_m2] at hf) <;> (try omega)
      skip
      refine ⟨fun hf => ?_, fun hf => ?_⟩ <;> (try simp (disch := omega) only [nI_lit, nI_fold, nI_mul, nI_add, pk_sub, pk_div, nI_shrN, nI_clamp, nI_leI, nI_ltI, nI_eq, not_true_eq_false, not_false_eq_true, Bool.false_eq_true, if_true, if_false, nI_nem, nI_m1, nI_m7, nI_m15, nI_m32, nI_m4, nI_m8, nI_m16, nI_m2] at hf) <;> (try omega)
      · skip
        refine ⟨fun hg => ?_, fun hg => ?_⟩ <;> (try simp (disch := omega) only [nI_lit, nI_fold, nI_mul, nI_add, pk_sub, pk_div, nI_shrN, nI_clamp, nI_leI, nI_ltI, nI_eq, not_true_eq_false, not_false_eq_true, Bool.false_eq_true, if_true, if_false, nI_nem, nI_m1, nI_m7, nI_m15, nI_m32, nI_m4, nI_m8, nI_m16, nI_m2] at hg) <;> (try omega)
        · refine ⟨_, ⟨_, rfl, rfl⟩, ?_⟩
          refine ⟨fun hh => ?_, fun hh => ?_⟩ <;> (try simp (disch := omega) only [nI_lit, nI_fold, nI_mul, nI_add, pk_sub, pk_div, nI_shrN, nI_clamp, nI_leI, nI_ltI, nI_eq, not_true_eq_false, not_false_eq_true, Bool.false_eq_true, if_true, if_false, nI_nem, nI_m1, nI_m7, nI_m15, nI_m32, nI_m4, nI_m8, nI_m16, nI_m2] at hh) <;> (try omega)
          · skip
            try simp (disch := omega) only [nI_lit, nI_fold, nI_mul, nI_add, pk_sub, pk_div, nI_shrN, nI_clamp]
            exact k98 _ 0 _ false (by rw [if_neg hf]) g1 hg (by rw [if_neg hh])
          · refine ⟨_, ⟨_, rfl, rfl⟩, _, _, rfl, (by (try simp (disch := omega) only [nI_lit, nI_fold, nI_mul, nI_add, pk_sub, pk_div, nI_shrN, nI_clamp]); (with_reducible refine vp_in_nI ?_ ?_) <;> omega), ?_⟩
            try simp (disch := omega) only [nI_lit, nI_fold, nI_mul, nI_add, pk_sub, pk_div, nI_shrN, nI_clamp]
            rw [hfl _ (by omega)]
            exact k98 _ _ _ false (by rw [if_neg hf]) g1 hg (by rw [if_pos hh])
        · rw [if_neg (by omega), if_neg hf, if_pos (by omega)] at hz2
          skip
          refine xs_callV rfl lk_9_98 (d' := 0) (c_UN_fail) (Nat.le_of_ble_eq_true rfl) rfl rfl rfl rfl rfl (Nat.le_of_ble_eq_true rfl) (by omega) (by omega) ?_
          rintro _ H1 ⟨rfl, rfl⟩
          refine b_UN_readLengths_80 ?_
          exact ⟨rfl, rfl, Nat.le_refl _, hq _ _ (Or.inl ⟨7, a, hz2.symm, rfl, _, _, _, _, _, _, _, rfl⟩)⟩
      · skip
        refine ⟨fun hg => ?_, fun hg => ?_⟩ <;> (try simp (disch := omega) only [nI_lit, nI_fold, nI_mul, nI_add, pk_sub, pk_div, nI_shrN, nI_clamp, nI_leI, nI_ltI, nI_eq, not_true_eq_false, not_false_eq_true, Bool.false_eq_true, if_true, if_false, nI_nem, nI_m1, nI_m7, nI_m15, nI_m32, nI_m4, nI_m8, nI_m16, nI_m2] at hg) <;> (try omega)
        · refine ⟨_, ⟨_, rfl, rfl⟩, ?_⟩
          refine ⟨fun hh => ?_, fun hh => ?_⟩ <;> (try simp (disch := omega) only [nI_lit, nI_fold, nI_mul, nI_add, pk_sub, pk_div, nI_shrN, nI_clamp, nI_leI, nI_ltI, nI_eq, not_true_eq_false, not_false_eq_true, Bool.false_eq_true, if_true, if_false, nI_nem, nI_m1, nI_m7, nI_m15, nI_m32, nI_m4, nI_m8, nI_m16, nI_m2] at hh) <;> (try omega)
          skip
          try simp (disch := omega) only [nI_lit, nI_fold, nI_mul, nI_add, pk_sub, pk_div, nI_shrN, nI_clamp]
          exact k98 _ 0 _ false (by rw [if_pos hf]) g1 hg (by rw [if_neg hh])
        · rw [if_neg (by omega), if_pos hf, if_pos (by omega)] at hz2
          skip
          refine xs_callV rfl lk_9_98 (d' := 0) (c_UN_fail) (Nat.le_of_ble_eq_true rfl) rfl rfl rfl rfl rfl (Nat.le_of_ble_eq_true rfl) (by omega) (by omega) ?_
          rintro _ H1 ⟨rfl, rfl⟩
          refine b_UN_readLengths_80 ?_
          exact ⟨rfl, rfl, Nat.le_refl _, hq _ _ (Or.inl ⟨7, a, hz2.symm, rfl, _, _, _, _, _, _, _, rfl⟩)⟩
    refine b_UN_readLengths_17 ?_
    refine ⟨fun hf => ?_, fun hf => ?_⟩ <;> (try simp (disch := omega) only [nI_lit, nI_fold, nI_mul, nI_add, pk_sub, pk_div, nI_shrN, nI_clamp, nI_leI, nI_ltI, nI_eq, not_true_eq_false, not_false_eq_true, Bool.false_eq_true, if_true, if_false, nI_nem, nI_m1, nI_m7, nI_m15, nI_m32, nI_m4, nI_m8, nI_m16, nI_m2] at hf) <;> (try omega)
    skip
    refine ⟨fun hf => ?_, fun hf => ?_⟩ <;> (try simp (disch := omega) only [nI_lit, nI_fold, nI_mul, nI_add, pk_sub, pk_div, nI_shrN, nI_clamp, nI_leI, nI_ltI, nI_eq, not_true_eq_false, not_false_eq_true, Bool.false_eq_true, if_true, if_false, nI_nem, nI_m1, nI_m7, nI_m15, nI_m32, nI_m4, nI_m8, nI_m16, nI_m2] at hf) <;> (try omega)
    · skip
      refine ⟨fun hg => ?_, fun hg => ?_⟩ <;> (try simp (disch := omega) only [nI_lit, nI_fold, nI_mul, nI_add, pk_sub, pk_div, nI_shrN, nI_clamp, nI_leI, nI_ltI, nI_eq, not_true_eq_false, not_false_eq_true, Bool.false_eq_true, if_true, if_false, nI_nem, nI_m1, nI_m7, nI_m15, nI_m32, nI_m4, nI_m8, nI_m16, nI_m2] at hg) <;> (try omega)
      · refine ⟨fun hh => ?_, fun hh => ?_⟩ <;> (try simp (disch := omega) only [nI_lit, nI_fold, nI_mul, nI_add, pk_sub, pk_div, nI_shrN, nI_clamp, nI_leI, nI_ltI, nI_eq, not_true_eq_false, not_false_eq_true, Bool.false_eq_true, if_true, if_false, nI_nem, nI_m1, nI_m7, nI_m15, nI_m32, nI_m4, nI_m8, nI_m16, nI_m2] at hh) <;> (try omega)
        refine ⟨fun hj => ?_, fun hj => ?_⟩ <;> (try simp (disch := omega) only [nI_lit, nI_fold, nI_mul, nI_add, pk_sub, pk_div, nI_shrN, nI_clamp, nI_leI, nI_ltI, nI_eq, not_true_eq_false, not_false_eq_true, Bool.false_eq_true, if_true, if_false, nI_nem, nI_m1, nI_m7, nI_m15, nI_m32, nI_m4, nI_m8, nI_m16, nI_m2] at hj) <;> (try omega)
        · exact k55 7 false hf (by omega) (by rw [if_neg hg, if_neg hj])
        · exact k55 3 false hf (by omega) (by rw [if_neg hg, if_pos hj])
      · skip
        refine ⟨fun hh => ?_, fun hh => ?_⟩ <;> (try simp (disch := omega) only [nI_lit, nI_fold, nI_mul, nI_add, pk_sub, pk_div, nI_shrN, nI_clamp, nI_leI, nI_ltI, nI_eq, not_true_eq_false, not_false_eq_true, Bool.false_eq_true, if_true, if_false, nI_nem, nI_m1, nI_m7, nI_m15, nI_m32, nI_m4, nI_m8, nI_m16, nI_m2] at hh) <;> (try omega)
        · refine ⟨fun hj => ?_, fun hj => ?_⟩ <;> (try simp (disch := omega) only [nI_lit, nI_fold, nI_mul, nI_add, pk_sub, pk_div, nI_shrN, nI_clamp, nI_leI, nI_ltI, nI_eq, not_true_eq_false, not_false_eq_true, Bool.false_eq_true, if_true, if_false, nI_nem, nI_m1, nI_m7, nI_m15, nI_m32, nI_m4, nI_m8, nI_m16, nI_m2] at hj) <;> (try omega)
          exact k55 2 false hf (by omega) (by rw [if_pos hg])
        · skip
          refine xs_callV rfl lk_9_98 (d' := 0) (c_UN_fail) (Nat.le_of_ble_eq_true rfl) rfl rfl rfl rfl rfl (Nat.le_of_ble_eq_true rfl) (by omega) (by omega) ?_
          rintro _ H1 ⟨rfl, rfl⟩
          refine b_UN_readLengths_42 ?_
          refine ⟨rfl, rfl, Nat.le_refl _, hq _ _ (Or.inl ⟨6, a, ?_, rfl, _, _, _, _, _, _, _, rfl⟩)⟩
          rw [← hz, if_neg (by omega), if_pos ⟨hg, hh⟩]
    · refine ⟨_, ⟨_, rfl, rfl⟩, _, _, rfl, Nat.le_of_ble_eq_true rfl, (by (try simp (disch := omega) only [nI_lit, nI_fold, nI_mul, nI_add, pk_sub, pk_div, nI_shrN, nI_clamp]); (with_reducible refine vp_in_nI ?_ ?_) <;> omega), fun H4 e4 => ?_⟩
      try simp (disch := omega) only [nI_lit, nI_fold, nI_mul, nI_add, pk_sub, pk_div, nI_shrN, nI_clamp] at e4
      subst e4
      rw [nI_1, nI_1]
      refine xW.fgt 4 (xW.fgt 5 ?_)
      refine ih (i + 1) (many + 1) b (nup row many y) (upd fl many (nI y)) false (by omega) (by omega) (by omega) (by omega) (fun j hj => ?_) (fun j hj => ?_) ?_
      · unfold upd nup
        split
        · rfl
        · exact hfl j (by omega)
      · unfold nup
        split
        · omega
        · exact hrow j (by omega)
      · rw [← hz, if_pos (by omega)]
theorem c_UN_readLengths (hT : ∀ i, T.1 i < 256) (he : e ≤ 8 * T.2) (hn : T.2 ≤ 32768) {g : Nat → Nat} {due : Nat} (hdue : due ≤ 316) (hok : rcOK c3 g 19) (ha : a ≤ e) : xCr l x 2 0 0 mUN_readLengths [.ref 51, .int (nI due)] (hc s0 T R P k (a, e, mb, c1, c2, c3, c4, c5, fl, f9) Z) (fun o H' => QLn s0 T R P k e mb c1 c2 c3 c4 c5 f9 Z due (zrl T.1 e g due 316 0 (fun _ => 0) a) o H') := by
  refine xCt.of (by decide) rfl ck_UN_readLengths (Nat.le_of_ble_eq_true rfl) rfl ?_
  refine b_UN_readLengths_0 ?_
  exact UN_len_loop hT he hn hdue hok _ (fun o H' h => ⟨_, rfl, h⟩) 316 0 0 a _ fl true (by omega) (by omega) (by omega) ha (fun j hj => absurd hj (Nat.not_lt_zero _)) (fun j hj => absurd hj (Nat.not_lt_zero _)) rfl
end URow
