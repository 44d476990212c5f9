/-! the model's pack -/
section MPk
variable {l : Launch} {x : xX} {d : Nat} {C : Nat → va_E} {cd : Int32} {T : wRow} {Z : xH}
theorem c_MO_pack_bad {v : Int32} (hv : v < 0 ∨ ¬ v ≤ 2) {R : wRow} {P : wRp} {K A : wK4} {a mb : Nat} {B : wMB} : xCr l x 6 0 0 mMO_pack [.ref 74, .int v] (hM C cd T R P K a mb A B Z) (fun o H' => o = some (.int 0) ∧ H' = hM C 1 T R P K a mb A B Z) := by
  refine xCt.of (by decide) rfl ck_MO_pack (Nat.le_of_ble_eq_true rfl) rfl ?_
  refine b_MO_pack_0 ?_
  refine ⟨fun hb => ?_, fun hb => ?_⟩
  · refine ⟨_, rfl, Nat.le_of_ble_eq_true rfl, fun H2 e2 => ?_⟩
    try simp (disch := omega) only [nI_lit, nI_fold, nI_mul, nI_add, pk_sub, pk_div, nI_shrN, nI_clamp] at e2
    subst e2
    refine ⟨_, ⟨_, rfl, rfl⟩, ?_⟩
    refine ⟨fun h => absurd h (by decide), fun _ => ?_⟩
    refine ⟨rfl, Nat.le_refl _, _, rfl, ⟨rfl, rfl⟩⟩
  · refine ⟨fun hd => ?_, fun hd => ?_⟩
    · rcases hv with hv | hv
      · exact absurd hv hb
      · exact absurd hd hv
    · refine ⟨_, rfl, Nat.le_of_ble_eq_true rfl, fun H8 e8 => ?_⟩
      try simp (disch := omega) only [nI_lit, nI_fold, nI_mul, nI_add, pk_sub, pk_div, nI_shrN, nI_clamp] at e8
      subst e8
      refine ⟨_, ⟨_, rfl, rfl⟩, ?_⟩
      refine ⟨fun h => absurd h (by decide), fun _ => ?_⟩
      refine ⟨rfl, Nat.le_refl _, _, rfl, ⟨rfl, rfl⟩⟩
theorem c_MO_pack (hT : ∀ i, T.1 i < 256) (hn : T.2 ≤ 32768) {w : Nat} (hw : w ≤ 2) {R : wRow} {P : wRp} {a mb : Nat} {A : wK4} {B : wMB} {td : Nat → Nat} (hR : ∀ i, R.1 i < 256) : xCr l x 6 0 0 mMO_pack [.ref 74, .int (nI w)] (hM C cd T R P (K4 td) a mb A B Z) (fun o H' => o = some (.int (nI ((pkS T w td).2 / 8))) ∧ ∃ rm a' mb' A' B', mbs (pkS T w td) rm ∧ H' = hM C 0 T (rm, (pkS T w td).2 / 8) (0, -1, (pkB T w td).2.2.1, (pkB T w td).2.2.2.1) (K4 (pkB T w td).2.2.2.2) a' mb' A' B' Z) := by
  have hbd := pkB_bd hn w td
  have hs00 : mbs (0, 0) R.1 := ⟨by decide, fun i hi => absurd hi (by dsimp only; omega), hR⟩
  refine xCt.of (by decide) rfl ck_MO_pack (Nat.le_of_ble_eq_true rfl) rfl ?_
  generalize List.length (hM C cd T R P (K4 td) a mb A B Z) = n0
  -- the end
  have k106 : ∀ (rm : Nat → Nat) (A : wK4) (B : wMB) (L2 L4 : Option Value) (cl : Bool), mbs (pkS T w td) rm → (pkS T w td).2 ≤ 524288 → xW l x 6 0 0 mMO_pack n0 (fun r H' => ∃ o, r = Sum.inl o ∧ o = some (.int (nI ((pkS T w td).2 / 8))) ∧ ∃ rm a' mb' A' B', mbs (pkS T w td) rm ∧ H' = hM C 0 T (rm, (pkS T w td).2 / 8) (0, -1, (pkB T w td).2.2.1, (pkB T w td).2.2.2.1) (K4 (pkB T w td).2.2.2.2) a' mb' A' B' Z) cl 106 [some (.ref 74), some (.int (nI w)), L2, none, L4] [] (hM C 0 T (rm, 0) (0, -1, (pkB T w td).2.2.1, (pkB T w td).2.2.2.1) (K4 (pkB T w td).2.2.2.2) (pkS T w td).2 0 A B Z) 0 0 := by
    intro rm A B L2 L4 cl hs hb
    generalize pkS T w td = s at hs hb ⊢
    refine xW.fgt 2 (xW.fgt 4 ?_)
    refine b_MO_pack_106 ⟨_, ⟨_, rfl, rfl⟩, _, rfl, Nat.le_of_ble_eq_true rfl, fun H3 e3 => ?_⟩
    rw [show nI s.2 / 8 = nI (s.2 / 8) from pk_div (d := 8) (by omega) (by decide) (by decide)] at e3
    subst e3
    refine ⟨_, ⟨_, rfl, rfl⟩, rfl, Nat.le_refl _, _, rfl, rfl, rm, _, _, _, _, hs, rfl⟩
  have k64 : ∀ (rm : Nat → Nat) (A : wK4) (B : wMB) (L2 : Option Value) (cl : Bool), mbs ((pkB T w td).1.1, ((pkB T w td).1.2 + 7) / 8 * 8) rm → xW l x 6 0 0 mMO_pack n0 (fun r H' => ∃ o, r = Sum.inl o ∧ o = some (.int (nI ((pkS T w td).2 / 8))) ∧ ∃ rm a' mb' A' B', mbs (pkS T w td) rm ∧ H' = hM C 0 T (rm, (pkS T w td).2 / 8) (0, -1, (pkB T w td).2.2.1, (pkB T w td).2.2.2.1) (K4 (pkB T w td).2.2.2.2) a' mb' A' B' Z) cl 64 [some (.ref 74), some (.int (nI w)), L2, none, none] [] (hM C 0 T (rm, 0) (0, -1, (pkB T w td).2.2.1, (pkB T w td).2.2.2.1) (K4 (pkB T w td).2.2.2.2) (((pkB T w td).1.2 + 7) / 8 * 8) 0 A B Z) 0 0 := by
    intro rm A B L2 cl hs
    have hpk : pkS T w td = wtS T w ((pkB T w td).1.1, ((pkB T w td).1.2 + 7) / 8 * 8) := rfl
    have h2 : ((pkB T w td).1.1, ((pkB T w td).1.2 + 7) / 8 * 8).2 ≤ 400000 := by dsimp only; omega
    have hw2 := wtS_2 T (w := w) ((pkB T w td).1.1, ((pkB T w td).1.2 + 7) / 8 * 8)
    rw [← hpk] at hw2
    have hle : (pkS T w td).2 ≤ 524288 := by
      rw [hw2]
      split
      · omega
      split <;> omega
    have k106 := k106 (A := A)
    rw [show (((pkB T w td).1.2 + 7) / 8 * 8) = ((pkB T w td).1.1, ((pkB T w td).1.2 + 7) / 8 * 8).2 from rfl]
    generalize ((pkB T w td).1.1, ((pkB T w td).1.2 + 7) / 8 * 8) = s at hs h2 hpk ⊢
    obtain ⟨pl, pv, pc, wt, cds, th, is, tc, bw, tdd, tnn, tcn, lu, du, ku⟩ := B
    obtain ⟨ct, od, ln, rw'⟩ := A
    clear hw2
    generalize pkS T w td = s9 at hpk hle k106 ⊢
    unfold wtS at hpk
    refine xW.fgt 2 ?_
    refine b_MO_pack_64 ?_
    refine ⟨fun hb => ?_, fun hb => ?_⟩ <;> (try simp (disch := omega) only [nI_lit, nI_fold, nI_mul, nI_add, pk_sub, pk_div, nI_shrN, nI_clamp, nI_leI, nI_ltI, nI_eq, not_true_eq_false, not_false_eq_true, Bool.false_eq_true, if_true, if_false, nI_nem, nI_m1, nI_m7, nI_m15, nI_m32, nI_m4, nI_m8, nI_m16, nI_m2] at hb) <;> (try omega)
    case refine_2 =>
      rw [if_pos hb] at hpk
      refine ⟨_, ⟨_, rfl, rfl⟩, _, ⟨_, rfl, rfl⟩, ?_⟩
      refine xs_callS rfl lk_12_101 (d' := 0) (c_MO_sumA (r := 75) (N := 32768) (t := T.1) (fm := 0) (to := T.2) rfl hT (by omega) hn (by decide)) (Nat.le_of_ble_eq_true rfl) rfl rfl (Nat.le_of_ble_eq_true rfl) (by omega) (by omega) ?_
      rintro _ H1 ⟨rfl, rfl⟩
      have had := adl_lt T.1 0 T.2
      generalize adl T.1 0 T.2 = v at had hpk ⊢
      refine b_MO_pack_73 ?_
      have h76 : ∀ (j i : Nat) (rm : Nat → Nat) (cl : Bool), i + j = 4 → mbs (bfour s v true i) rm → xW l x 6 0 0 mMO_pack n0 (fun r H' => ∃ o, r = Sum.inl o ∧ o = some (.int (nI (s9.2 / 8))) ∧ ∃ rm a' mb' A' B', mbs s9 rm ∧ H' = hM C 0 T (rm, s9.2 / 8) (0, -1, (pkB T w td).2.2.1, (pkB T w td).2.2.2.1) (K4 (pkB T w td).2.2.2.2) a' mb' A' B' Z) cl 76 [some (.ref 74), some (.int (nI w)), some (.long (lN v)), none, some (.int (if i = 4 then -8 else nI (24 - 8 * i)))] [] (hM C 0 T (rm, 0) (0, -1, (pkB T w td).2.2.1, (pkB T w td).2.2.2.1) (K4 (pkB T w td).2.2.2.2) (bfour s v true i).2 0 (ct, od, ln, rw') (pl, pv, pc, wt, cds, th, is, tc, bw, tdd, tnn, tcn, lu, du, ku) Z) 0 0 := by
        intro j
        induction j with
        | zero =>
          intro i rm cl hi hs'
          have : i = 4 := by omega
          subst this
          rw [if_pos rfl, ← hpk] at *
          refine b_MO_pack_76 ⟨fun _ => ?_, fun h => absurd (by decide) h⟩
          exact k106 rm _ _ _ _ hs' hle
        | succ j ih =>
          intro i rm cl hi hs'
          have hb2 := bfour_2 s v true i
          have ih := ih (i + 1)
          rw [show bfour s v true (i + 1) = bput (bfour s v true i) (v / 2 ^ (24 - 8 * i) % 256) 8 from rfl] at ih
          rw [if_neg (by omega)]
          generalize bfour s v true i = s4 at hs' hb2 ih ⊢
          refine b_MO_pack_76 ?_
          refine ⟨fun h => absurd h (nI_pos (by omega)), fun _ => ?_⟩
          rw [lN_byte had (by omega)]
          refine xs_callV rfl lk_12_294 (d' := 1) (c_MO_putNumber (s := s4) (n := 8) (v := v / 2 ^ (24 - 8 * i) % 256) (by decide) (by omega) (Nat.mod_lt _ (by decide)) hs' (by omega)) (Nat.le_of_ble_eq_true rfl) rfl rfl rfl rfl rfl (Nat.le_of_ble_eq_true rfl) (by omega) (by omega) ?_
          rintro _ H1 ⟨rfl, rm4, hs4, rfl⟩
          refine b_MO_pack_87 ?_
          rw [show nI (24 - 8 * i) + (-8) = (if i + 1 = 4 then -8 else nI (24 - 8 * (i + 1))) by
            have hi4 : i = 0 ∨ i = 1 ∨ i = 2 ∨ i = 3 := by omega
            rcases hi4 with rfl | rfl | rfl | rfl <;> rfl]
          exact ih rm4 false (by omega) hs4
      exact h76 4 0 rm _ rfl hs
    rw [if_neg hb] at hpk
    refine ⟨fun hc => ?_, fun hc => ?_⟩ <;> (try simp (disch := omega) only [nI_lit, nI_fold, nI_mul, nI_add, pk_sub, pk_div, nI_shrN, nI_clamp, nI_leI, nI_ltI, nI_eq, not_true_eq_false, not_false_eq_true, Bool.false_eq_true, if_true, if_false, nI_nem, nI_m1, nI_m7, nI_m15, nI_m32, nI_m4, nI_m8, nI_m16, nI_m2] at hc) <;> (try omega)
    · rw [if_neg hc] at hpk
      subst hpk
      exact k106 rm _ _ _ _ hs hle
    rw [if_pos hc] at hpk
    refine ⟨_, ⟨_, rfl, rfl⟩, _, ⟨_, rfl, rfl⟩, ?_⟩
    refine xs_callS rfl lk_12_105 (d' := 0) (c_MO_sumB (r := 75) (N := 32768) (t := T.1) (fm := 0) (to := T.2) rfl hT (by omega) hn (by decide)) (Nat.le_of_ble_eq_true rfl) rfl rfl (Nat.le_of_ble_eq_true rfl) (by omega) (by omega) ?_
    rintro _ H1 ⟨rfl, rfl⟩
    have hcr := crc_lt hT 0 T.2
    have hb4 := bfour_2 s (crc T.1 0 T.2) false 4
    refine xs_callV rfl lk_12_322 (d' := 2) (c_MO_putFour (s := s) (w := crc T.1 0 T.2) hcr hs (by omega)) (Nat.le_of_ble_eq_true rfl) rfl rfl rfl rfl rfl (Nat.le_of_ble_eq_true rfl) (by omega) (by omega) ?_
    rintro _ H1 ⟨rfl, rm2, hs2, rfl⟩
    refine b_MO_pack_101 ⟨_, ⟨_, rfl, rfl⟩, ?_⟩
    rw [nI_l (by omega)]
    refine xs_callV rfl lk_12_322 (d' := 2) (c_MO_putFour (s := bfour s (crc T.1 0 T.2) false 4) (w := T.2) (by omega) hs2 (by omega)) (Nat.le_of_ble_eq_true rfl) rfl rfl rfl rfl rfl (Nat.le_of_ble_eq_true rfl) (by omega) (by omega) ?_
    rw [← hpk]
    rintro _ H1 ⟨rfl, rm3, hs3, rfl⟩
    exact k106 rm3 _ _ _ _ hs3 hle
  have k63 : ∀ (rm : Nat → Nat) (A : wK4) (B : wMB) (L2 : Option Value) (cl : Bool), mbs (whd w) rm → xW l x 6 0 0 mMO_pack n0 (fun r H' => ∃ o, r = Sum.inl o ∧ o = some (.int (nI ((pkS T w td).2 / 8))) ∧ ∃ rm a' mb' A' B', mbs (pkS T w td) rm ∧ H' = hM C 0 T (rm, (pkS T w td).2 / 8) (0, -1, (pkB T w td).2.2.1, (pkB T w td).2.2.2.1) (K4 (pkB T w td).2.2.2.2) a' mb' A' B' Z) cl 63 [some (.ref 74), some (.int (nI w)), L2, none, none] [.ref 74] (hM C 0 T (rm, 0) (0, -1, 0, 0) (K4 td) (whd w).2 0 A B Z) 0 0 := by
    intro rm A B L2 cl hs
    refine xs_callV rfl lk_12_319 (d' := 5) (c_MO_putBlocks (s0 := whd w) (td := td) hT hn hs (whd_2 w).1) (Nat.le_of_ble_eq_true rfl) rfl rfl rfl rfl rfl (Nat.le_of_ble_eq_true rfl) (by omega) (by omega) ?_
    rintro _ H1 ⟨rfl, rm', A', B', hs', rfl⟩
    exact k64 rm' A' B' L2 _ hs'
  clear k106 k64 hbd
  generalize pkS T w td = s9 at k63 ⊢
  generalize pkB T w td = e9 at k63 ⊢
  refine b_MO_pack_0 ?_
  refine ⟨fun hb => ?_, fun hb => ?_⟩ <;> (try simp (disch := omega) only [nI_lit, nI_fold, nI_mul, nI_add, pk_sub, pk_div, nI_shrN, nI_clamp, nI_leI, nI_ltI, nI_eq, not_true_eq_false, not_false_eq_true, Bool.false_eq_true, if_true, if_false, nI_nem, nI_m1, nI_m7, nI_m15, nI_m32, nI_m4, nI_m8, nI_m16, nI_m2] at hb) <;> (try omega)
  refine ⟨fun hd => ?_, fun hd => ?_⟩ <;> (try simp (disch := omega) only [nI_lit, nI_fold, nI_mul, nI_add, pk_sub, pk_div, nI_shrN, nI_clamp, nI_leI, nI_ltI, nI_eq, not_true_eq_false, not_false_eq_true, Bool.false_eq_true, if_true, if_false, nI_nem, nI_m1, nI_m7, nI_m15, nI_m32, nI_m4, nI_m8, nI_m16, nI_m2] at hd) <;> (try omega)
  refine ⟨_, rfl, Nat.le_of_ble_eq_true rfl, fun H5 e5 => ?_⟩
  try simp (disch := omega) only [nI_lit, nI_fold, nI_mul, nI_add, pk_sub, pk_div, nI_shrN, nI_clamp] at e5
  subst e5
  refine ⟨_, ⟨_, rfl, rfl⟩, ?_⟩
  refine ⟨fun _ => ?_, fun h => absurd (by decide) h⟩
  refine xs_callV rfl lk_12_219 (d' := 0) (c_MO_clear) (Nat.le_of_ble_eq_true rfl) rfl rfl rfl rfl rfl (Nat.le_of_ble_eq_true rfl) (by omega) (by omega) ?_
  rintro _ H1 ⟨rfl, rfl⟩
  refine b_MO_pack_17 ?_
  refine ⟨fun hf => ?_, fun hf => ?_⟩ <;> (try simp (disch := omega) only [nI_lit, nI_fold, nI_mul, nI_add, pk_sub, pk_div, nI_shrN, nI_clamp, nI_leI, nI_ltI, nI_eq, not_true_eq_false, not_false_eq_true, Bool.false_eq_true, if_true, if_false, nI_nem, nI_m1, nI_m7, nI_m15, nI_m32, nI_m4, nI_m8, nI_m16, nI_m2] at hf) <;> (try omega)
  case refine_2 =>
    subst hf
    refine xs_callV rfl lk_12_294 (d' := 1) (c_MO_putNumber (s := (0, 0)) (n := 8) (v := 120) (by decide) (by decide) (by decide) hs00 (by decide)) (Nat.le_of_ble_eq_true rfl) rfl rfl rfl rfl rfl (Nat.le_of_ble_eq_true rfl) (by omega) (by omega) ?_
    rintro _ H1 ⟨rfl, rm1, hs1, rfl⟩
    refine b_MO_pack_24 ?_
    refine xs_callV rfl lk_12_294 (d' := 1) (c_MO_putNumber (s := bput (0, 0) 120 8) (n := 8) (v := 156) (by decide) (by decide) (by decide) hs1 (by decide)) (Nat.le_of_ble_eq_true rfl) rfl rfl rfl rfl rfl (Nat.le_of_ble_eq_true rfl) (by omega) (by omega) ?_
    rintro _ H1 ⟨rfl, rm2, hs2, rfl⟩
    refine b_MO_pack_28 ?_
    exact k63 rm2 _ _ _ _ hs2
  refine ⟨fun hg => ?_, fun hg => ?_⟩ <;> (try simp (disch := omega) only [nI_lit, nI_fold, nI_mul, nI_add, pk_sub, pk_div, nI_shrN, nI_clamp, nI_leI, nI_ltI, nI_eq, not_true_eq_false, not_false_eq_true, Bool.false_eq_true, if_true, if_false, nI_nem, nI_m1, nI_m7, nI_m15, nI_m32, nI_m4, nI_m8, nI_m16, nI_m2] at hg) <;> (try omega)
  · have : w = 0 := by omega
    subst this
    exact k63 R.1 _ _ _ _ hs00
  subst hg
  have k34 : ∀ (i : Nat) (v : Nat) (s : Nat × Nat) (rm : Nat → Nat) (A : wK4) (B : wMB) (cl : Bool), i < 10 → v = hLg i → s.2 ≤ 1000 → mbs s rm → (∀ rm', mbs (bput s v 8) rm' → xW l x 6 0 0 mMO_pack n0 (fun r H' => ∃ o, r = Sum.inl o ∧ o = some (.int (nI (s9.2 / 8))) ∧ ∃ rm a' mb' A' B', mbs s9 rm ∧ H' = hM C 0 T (rm, s9.2 / 8) (0, -1, e9.2.2.1, e9.2.2.2.1) (K4 e9.2.2.2.2) a' mb' A' B' Z) false 34 [some (.ref 74), some (.int (nI 2)), some (.int (nI (i + 1))), none, none] [] (hM C 0 T (rm', 0) (0, -1, 0, 0) (K4 td) (bput s v 8).2 0 A B Z) 0 0) → xW l x 6 0 0 mMO_pack n0 (fun r H' => ∃ o, r = Sum.inl o ∧ o = some (.int (nI (s9.2 / 8))) ∧ ∃ rm a' mb' A' B', mbs s9 rm ∧ H' = hM C 0 T (rm, s9.2 / 8) (0, -1, e9.2.2.1, e9.2.2.2.1) (K4 e9.2.2.2.2) a' mb' A' B' Z) cl 34 [some (.ref 74), some (.int (nI 2)), some (.int (nI i)), none, none] [] (hM C 0 T (rm, 0) (0, -1, 0, 0) (K4 td) s.2 0 A B Z) 0 0 := by
    intro i v s rm A B cl hi hv h2 hs K
    have hvb : v < 256 := by rw [hv]; unfold hLg; split; decide; split; decide; split; decide; split <;> decide
    have hcall : ∀ (cl : Bool), xW l x 6 0 0 mMO_pack n0 (fun r H' => ∃ o, r = Sum.inl o ∧ o = some (.int (nI (s9.2 / 8))) ∧ ∃ rm a' mb' A' B', mbs s9 rm ∧ H' = hM C 0 T (rm, s9.2 / 8) (0, -1, e9.2.2.1, e9.2.2.2.1) (K4 e9.2.2.2.2) a' mb' A' B' Z) cl 59 [some (.ref 74), some (.int (nI 2)), some (.int (nI i)), none, none] [.int (nI v), .int 8, .ref 74] (hM C 0 T (rm, 0) (0, -1, 0, 0) (K4 td) s.2 0 A B Z) 0 0 := by
      intro cl
      refine xs_callV rfl lk_12_294 (d' := 1) (c_MO_putNumber (s := s) (n := 8) (v := v) (by decide) (by omega) hvb hs (by omega)) (Nat.le_of_ble_eq_true rfl) rfl rfl rfl rfl rfl (Nat.le_of_ble_eq_true rfl) (by omega) (by omega) ?_
      rintro _ H1 ⟨rfl, rm', hs', rfl⟩
      refine b_MO_pack_60 ?_
      rw [nI_1]
      exact K rm' hs'
    unfold hLg at hv
    refine b_MO_pack_34 ?_
    refine ⟨fun hb => ?_, fun hb => ?_⟩ <;> (try simp (disch := omega) only [nI_lit, nI_fold, nI_mul, nI_add, pk_sub, pk_div, nI_shrN, nI_clamp, nI_leI, nI_ltI, nI_eq, not_true_eq_false, not_false_eq_true, Bool.false_eq_true, if_true, if_false, nI_nem, nI_m1, nI_m7, nI_m15, nI_m32, nI_m4, nI_m8, nI_m16, nI_m2] at hb) <;> (try omega)
    refine ⟨fun hc => ?_, fun hc => ?_⟩ <;> (try simp (disch := omega) only [nI_lit, nI_fold, nI_mul, nI_add, pk_sub, pk_div, nI_shrN, nI_clamp, nI_leI, nI_ltI, nI_eq, not_true_eq_false, not_false_eq_true, Bool.false_eq_true, if_true, if_false, nI_nem, nI_m1, nI_m7, nI_m15, nI_m32, nI_m4, nI_m8, nI_m16, nI_m2] at hc) <;> (try omega)
    case refine_2 =>
      rw [if_pos hc] at hv
      subst hv
      exact hcall _
    rw [if_neg hc] at hv
    refine ⟨fun hd => ?_, fun hd => ?_⟩ <;> (try simp (disch := omega) only [nI_lit, nI_fold, nI_mul, nI_add, pk_sub, pk_div, nI_shrN, nI_clamp, nI_leI, nI_ltI, nI_eq, not_true_eq_false, not_false_eq_true, Bool.false_eq_true, if_true, if_false, nI_nem, nI_m1, nI_m7, nI_m15, nI_m32, nI_m4, nI_m8, nI_m16, nI_m2] at hd) <;> (try omega)
    case refine_2 =>
      rw [if_pos hd] at hv
      subst hv
      exact hcall _
    rw [if_neg hd] at hv
    refine ⟨fun he => ?_, fun he => ?_⟩ <;> (try simp (disch := omega) only [nI_lit, nI_fold, nI_mul, nI_add, pk_sub, pk_div, nI_shrN, nI_clamp, nI_leI, nI_ltI, nI_eq, not_true_eq_false, not_false_eq_true, Bool.false_eq_true, if_true, if_false, nI_nem, nI_m1, nI_m7, nI_m15, nI_m32, nI_m4, nI_m8, nI_m16, nI_m2] at he) <;> (try omega)
    case refine_2 =>
      rw [if_pos he] at hv
      subst hv
      exact hcall _
    rw [if_neg he] at hv
    refine ⟨fun hg => ?_, fun hg => ?_⟩ <;> (try simp (disch := omega) only [nI_lit, nI_fold, nI_mul, nI_add, pk_sub, pk_div, nI_shrN, nI_clamp, nI_leI, nI_ltI, nI_eq, not_true_eq_false, not_false_eq_true, Bool.false_eq_true, if_true, if_false, nI_nem, nI_m1, nI_m7, nI_m15, nI_m32, nI_m4, nI_m8, nI_m16, nI_m2] at hg) <;> (try omega)
    case refine_2 =>
      rw [if_pos hg] at hv
      subst hv
      exact hcall _
    rw [if_neg hg] at hv
    subst hv
    exact hcall _
  skip
  refine k34 0 31 (0, 0) R.1 _ _ _ (by decide) rfl (by decide) hs00 fun rm1 h1 => ?_
  refine k34 1 139 _ rm1 _ _ _ (by decide) rfl (by decide) h1 fun rm2 h2 => ?_
  refine k34 2 8 _ rm2 _ _ _ (by decide) rfl (by decide) h2 fun rm3 h3 => ?_
  refine k34 3 0 _ rm3 _ _ _ (by decide) rfl (by decide) h3 fun rm4 h4 => ?_
  refine k34 4 0 _ rm4 _ _ _ (by decide) rfl (by decide) h4 fun rm5 h5 => ?_
  refine k34 5 0 _ rm5 _ _ _ (by decide) rfl (by decide) h5 fun rm6 h6 => ?_
  refine k34 6 0 _ rm6 _ _ _ (by decide) rfl (by decide) h6 fun rm7 h7 => ?_
  refine k34 7 0 _ rm7 _ _ _ (by decide) rfl (by decide) h7 fun rm8 h8 => ?_
  refine k34 8 0 _ rm8 _ _ _ (by decide) rfl (by decide) h8 fun rm9 h9 => ?_
  refine k34 9 255 _ rm9 _ _ _ (by decide) rfl (by decide) h9 fun rm10 h10 => ?_
  refine b_MO_pack_34 ⟨fun _ => ?_, fun h => absurd (by decide) h⟩
  exact k63 rm10 _ _ _ _ h10
end MPk
