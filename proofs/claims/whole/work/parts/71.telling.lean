/-! the class writes how codes are told -/
section Telling
variable {l : Launch} {x : xX} {d : Nat} {s0 : va_E} {T R : wRow} {P : wRep} {k1 : Nat × Nat × Nat × Nat} {k2 k3 : wWC} {k4 : wMC} {tc mL mD mK : Nat} {WL WD WK : wWC} {we : wWE} {row ts tn tw : wF} {k5 : wF × wF × wF × wF} {k6 : wFI} {hd : Nat × Nat} {u : wUN} {Z : xH} {s : Nat × Nat} {rb : Nat → Nat}
theorem c_MC_bitsOfTelling (hT : ∀ i, T.1 i < 256) {p0 : Nat} (hnp : 1 ≤ npc T.1 T.2 p0) (hm : MCok T.1 T.2 p0 k4) : xCr l x 1 0 0 mMC_bitsOfTelling [.ref 20] (hc s0 T R P (k1, k2, k3, k4, k5, k6, hd) u Z) (fun o H' => o = some (.int (nI (mbt T.1 T.2 p0))) ∧ H' = hc s0 T R P (k1, k2, k3, k4, k5, k6, hd) u Z) := by
  obtain ⟨m1, m2⟩ := mtl_ok hT hnp
  obtain ⟨tc, mL, mD, mK, WL, WD, WK, we, row, ts, tn, tw⟩ := k4
  obtain ⟨e1, e2, e3, e4, e5, e6, e7, e8⟩ := hm
  dsimp only at e1 e2 e3 e4 e5 e6 e7 e8
  have hkb : mK ≤ 19 := by rw [e4]; exact (kdc_ok _ 19).1
  have hmb : mbt T.1 T.2 p0 = 14 + 3 * mK + tbt (mtl T.1 T.2 p0) (mkK T.1 T.2 p0) tc := by rw [e4, e1]; rfl
  rw [← e1] at m2
  clear e2 e3 e4 e5 e6
  generalize mbt T.1 T.2 p0 = F at hmb ⊢
  generalize mtl T.1 T.2 p0 = q at *
  generalize mkK T.1 T.2 p0 = g at *
  refine xCt.of (by decide) rfl ck_MC_bitsOfTelling (Nat.le_of_ble_eq_true rfl) rfl ?_
  generalize List.length (hc s0 T R P (k1, k2, k3, (tc, mL, mD, mK, WL, WD, WK, we, row, ts, tn, tw), k5, k6, hd) u Z) = n0
  refine b_MC_bitsOfTelling_0 ⟨_, ⟨_, rfl, rfl⟩, ?_⟩
  rw [show (14 : Int32) + (3 : Int32) * nI mK = nI (14 + 3 * mK) by rw [show (3 : Int32) * nI mK = nI (3 * mK) from nI_mul 3 _, show (14 : Int32) = nI 14 from rfl, nI_add]]
  have h : ∀ (j i : Nat) (cl : Bool), i + j = tc → xW l x 1 0 0 mMC_bitsOfTelling n0 (fun r H' => ∃ o, r = Sum.inl o ∧ o = some (.int (nI F)) ∧ H' = hc s0 T R P (k1, k2, k3, (tc, mL, mD, mK, WL, WD, WK, we, row, ts, tn, tw), k5, k6, hd) u Z) cl 9 [some (.ref 20), some (.int (nI (14 + 3 * mK + tbt q g i))), some (.int (nI i))] [] (hc s0 T R P (k1, k2, k3, (tc, mL, mD, mK, WL, WD, WK, we, row, ts, tn, tw), k5, k6, hd) u Z) 0 0 := by
    intro j
    induction j with
    | zero =>
      intro i cl hi
      have : i = tc := by omega
      subst this
      refine b_MC_bitsOfTelling_9 ⟨_, ⟨_, rfl, rfl⟩, ?_⟩
      refine ⟨fun hb => ?_, fun hb => ?_⟩ <;> (try simp (disch := omega) only [nI_lit, nI_fold, nI_mul, nI_add, pk_sub, pk_div, nI_shrN, nI_clamp, nI_leI, nI_ltI, nI_eq, not_true_eq_false, not_false_eq_true, Bool.false_eq_true, if_true, if_false, nI_nem, nI_m1, nI_m7, nI_m15, nI_m32, nI_m4, nI_m8, nI_m16, nI_m2] at hb) <;> (try omega)
      rw [← hmb]
      refine ⟨rfl, Nat.le_refl _, _, rfl, ⟨rfl, rfl⟩⟩
    | succ j ih =>
      intro i cl hi
      have y1 := (e8 i (by omega)).1
      have y2 := (m1 i (by omega)).1
      have ih := ih (i + 1) false (by omega)
      rw [show tbt q g (i + 1) = tbt q g i + (g (q.2.1 i) + tbs (q.2.1 i)) from rfl, show 14 + 3 * mK + (tbt q g i + (g (q.2.1 i) + tbs (q.2.1 i))) = 14 + 3 * mK + tbt q g i + (g (q.2.1 i) + tbs (q.2.1 i)) by omega] at ih
      refine b_MC_bitsOfTelling_9 ⟨_, ⟨_, rfl, rfl⟩, ?_⟩
      refine ⟨fun hb => ?_, fun hb => ?_⟩ <;> (try simp (disch := omega) only [nI_lit, nI_fold, nI_mul, nI_add, pk_sub, pk_div, nI_shrN, nI_clamp, nI_leI, nI_ltI, nI_eq, not_true_eq_false, not_false_eq_true, Bool.false_eq_true, if_true, if_false, nI_nem, nI_m1, nI_m7, nI_m15, nI_m32, nI_m4, nI_m8, nI_m16, nI_m2] at hb) <;> (try omega)
      refine ⟨_, ⟨_, rfl, rfl⟩, _, ⟨_, rfl, rfl⟩, _, ⟨_, rfl, rfl⟩, _, _, rfl, vp_in_nI (by omega) (by decide), ?_⟩
      try dsimp only
      repeat rw [nI_clamp (by omega)]
      rw [y1]
      refine ⟨_, _, rfl, vp_in_nI (by omega) (by decide), _, ⟨_, rfl, rfl⟩, _, _, rfl, vp_in_nI (by omega) (by decide), ?_⟩
      try dsimp only
      repeat rw [nI_clamp (by omega)]
      rw [e7 _ y2]
      try rw [y1]
      refine xs_callS rfl lk_3_90 (d' := 0) (c_MC_numberBits y2) (Nat.le_of_ble_eq_true rfl) rfl rfl (Nat.le_of_ble_eq_true rfl) (by omega) (by omega) ?_
      rintro _ H1 ⟨rfl, rfl⟩
      refine b_MC_bitsOfTelling_27 ?_
      rw [nI_add, nI_add, nI_1]
      exact ih
  exact h tc 0 true (by omega)
theorem tbs_num {y m : Nat} (hy : y < 19) (h : m < 128 ∧ (y < 16 → m = 0) ∧ (y = 16 → m < 4) ∧ (y = 17 → m < 8)) : m < 2 ^ tbs y ∧ tbs y ≤ 7 := by
  unfold tbs
  split
  · rename_i h1
    rw [h.2.1 h1]
    decide
  split
  · rename_i h1 h2
    exact ⟨h.2.2.1 h2, by decide⟩
  split
  · rename_i h1 h2 h3
    exact ⟨h.2.2.2 h3, by decide⟩
  · exact ⟨h.1, by decide⟩
theorem c_MC_writeTelling (hT : ∀ i, T.1 i < 256) {p0 : Nat} (hnp : 1 ≤ npc T.1 T.2 p0) (hm : MCok T.1 T.2 p0 (tc, mL, mD, mK, WL, WD, WK, we, row, ts, tn, tw)) (hs : cbs s rb) (hn : s.2 + mbt T.1 T.2 p0 ≤ 524288) : xCr l x 3 0 0 mMC_writeTelling [.ref 20, .ref 50] (hW s0 T rb P (k1, k2, k3, (tc, mL, mD, mK, WL, WD, WK, we, row, ts, tn, tw), k5, k6) u Z (s)) (fun o H' => o = none ∧ ∃ rb' WK', WK'.2.1 = WK.2.1 ∧ cbs (wtg T.1 T.2 p0 s) rb' ∧ H' = hW s0 T rb' P (k1, k2, k3, (tc, mL, mD, mK, WL, WD, WK', we, row, ts, tn, tw), k5, k6) u Z (wtg T.1 T.2 p0 s)) := by
  obtain ⟨m1, m2⟩ := mtl_ok hT hnp
  obtain ⟨n1, n2, n3, n4⟩ := nLt_ok hT hnp
  obtain ⟨e1, e2, e3, e4, e5, e6, e7, e8⟩ := hm
  dsimp only at e1 e2 e3 e4 e5 e6 e7 e8
  have hk4 : 4 ≤ mK ∧ mK ≤ 19 := by rw [e4]; exact ⟨(kdc_ok _ 19).2 (by decide), (kdc_ok _ 19).1⟩
  have hmb : mbt T.1 T.2 p0 = 14 + 3 * mK + tbt (mtl T.1 T.2 p0) (mkK T.1 T.2 p0) (mtl T.1 T.2 p0).1 := by rw [e4]; rfl
  have hF : wtg T.1 T.2 p0 s = wtl (mkK T.1 T.2 p0) (mtl T.1 T.2 p0) (wks (mkK T.1 T.2 p0) (bput (bput (bput s (mL - 257) 5) (mD - 1) 5) (mK - 4) 4) mK) tc := by rw [e1, e2, e3, e4]; rfl
  generalize wtg T.1 T.2 p0 s = F at hF ⊢
  rw [← e1] at hmb m2
  obtain ⟨fn0, fl, fw0⟩ := WK
  dsimp only at e7 ⊢
  refine xCt.of (by decide) rfl ck_MC_writeTelling (Nat.le_of_ble_eq_true rfl) rfl ?_
  generalize List.length (hW s0 T rb P (k1, k2, k3, (tc, mL, mD, mK, WL, WD, (fn0, fl, fw0), we, row, ts, tn, tw), k5, k6) u Z (s)) = n0
  refine b_MC_writeTelling_0 ⟨_, ⟨_, rfl, rfl⟩, ?_⟩
  refine xs_callV rfl lk_3_94 (d' := 1) (c_WC_makeWords (r := 29) (a1 := 31) (a2 := 32) (a3 := 30) (N := 19) (g := mkK T.1 T.2 p0) (fw := fw0) (fn := fn0) (Nat.le_refl _) ⟨rfl, ⟨fl, rfl, e7⟩, by decide, by decide, by decide, by decide, by decide, by decide, fun i _ => by have := (mk_le T.1 T.2 p0 i).2.2; omega⟩ rfl rfl) (Nat.le_of_ble_eq_true rfl) rfl rfl rfl rfl rfl (Nat.le_of_ble_eq_true rfl) (by omega) (by omega) ?_
  rintro _ H1 ⟨rfl, hfr, fw, fn, q1, q2, hfw⟩
  have hH1 := fr_2 hfr q1 q2
  subst hH1
  clear hfr q1 q2
  refine b_MC_writeTelling_3 ⟨_, ⟨_, rfl, rfl⟩, ?_⟩
  rw [show nI mL - 257 = nI (mL - 257) by rw [show (257 : Int32) = nI 257 from rfl, nI_sub (by omega)]]
  refine xs_callV rfl lk_3_97 (d' := 1) (c_BW_writeNumber (s := s) (rb := rb) (q := (k1, k2, k3, (tc, mL, mD, mK, WL, WD, (fn, fl, fw), we, row, ts, tn, tw), k5, k6)) (v := mL - 257) (k := 5) (by omega) (by decide) hs (by omega)) (Nat.le_of_ble_eq_true rfl) rfl rfl rfl rfl rfl (Nat.le_of_ble_eq_true rfl) (by omega) (by omega) ?_
  rintro _ H1 ⟨rfl, rb1, hs1, rfl⟩
  refine b_MC_writeTelling_10 ⟨_, ⟨_, rfl, rfl⟩, ?_⟩
  rw [show nI mD - 1 = nI (mD - 1) by rw [show (1 : Int32) = nI 1 from rfl, nI_sub (by omega)]]
  refine xs_callV rfl lk_3_97 (d' := 1) (c_BW_writeNumber (q := (k1, k2, k3, (tc, mL, mD, mK, WL, WD, (fn, fl, fw), we, row, ts, tn, tw), k5, k6)) (v := mD - 1) (k := 5) (by omega) (by decide) hs1 (by show s.2 + 5 + 5 ≤ _; omega)) (Nat.le_of_ble_eq_true rfl) rfl rfl rfl rfl rfl (Nat.le_of_ble_eq_true rfl) (by omega) (by omega) ?_
  rintro _ H1 ⟨rfl, rb2, hs2, rfl⟩
  refine b_MC_writeTelling_17 ⟨_, ⟨_, rfl, rfl⟩, ?_⟩
  rw [show nI mK - 4 = nI (mK - 4) by rw [show (4 : Int32) = nI 4 from rfl, nI_sub (by omega)]]
  refine xs_callV rfl lk_3_97 (d' := 1) (c_BW_writeNumber (q := (k1, k2, k3, (tc, mL, mD, mK, WL, WD, (fn, fl, fw), we, row, ts, tn, tw), k5, k6)) (v := mK - 4) (k := 4) (by omega) (by decide) hs2 (by show s.2 + 5 + 5 + 4 ≤ _; omega)) (Nat.le_of_ble_eq_true rfl) rfl rfl rfl rfl rfl (Nat.le_of_ble_eq_true rfl) (by omega) (by omega) ?_
  rintro _ H1 ⟨rfl, rb3, hs3, rfl⟩
  have h2 : (bput (bput (bput s (mL - 257) 5) (mD - 1) 5) (mK - 4) 4).2 = s.2 + 14 := rfl
  generalize bput (bput (bput s (mL - 257) 5) (mD - 1) 5) (mK - 4) 4 = s3 at hF hs3 h2 ⊢
  refine b_MC_writeTelling_24 ?_
  -- what is told
  have k44 : ∀ (j i : Nat) (rb' : Nat → Nat) (cl : Bool), i + j = tc → cbs (wtl (mkK T.1 T.2 p0) (mtl T.1 T.2 p0) (wks (mkK T.1 T.2 p0) s3 mK) i) rb' → xW l x 3 0 0 mMC_writeTelling n0 (fun r H' => ∃ o, r = Sum.inl o ∧ o = none ∧ ∃ rb' WK', WK'.2.1 = fl ∧ cbs F rb' ∧ H' = hW s0 T rb' P (k1, k2, k3, (tc, mL, mD, mK, WL, WD, WK', we, row, ts, tn, tw), k5, k6) u Z (F)) cl 44 [some (.ref 20), some (.ref 50), some (.int (nI i))] [] (hW s0 T rb' P (k1, k2, k3, (tc, mL, mD, mK, WL, WD, (fn, fl, fw), we, row, ts, tn, tw), k5, k6) u Z (wtl (mkK T.1 T.2 p0) (mtl T.1 T.2 p0) (wks (mkK T.1 T.2 p0) s3 mK) i)) 0 0 := by
    intro j
    induction j with
    | zero =>
      intro i rb' cl hi hs'
      have : i = tc := by omega
      subst this
      rw [← hF] at hs' ⊢
      refine b_MC_writeTelling_44 ⟨_, ⟨_, rfl, rfl⟩, ?_⟩
      refine ⟨fun hb => ?_, fun hb => ?_⟩ <;> (try simp (disch := omega) only [nI_lit, nI_fold, nI_mul, nI_add, pk_sub, pk_div, nI_shrN, nI_clamp, nI_leI, nI_ltI, nI_eq, not_true_eq_false, not_false_eq_true, Bool.false_eq_true, if_true, if_false, nI_nem, nI_m1, nI_m7, nI_m15, nI_m32, nI_m4, nI_m8, nI_m16, nI_m2] at hb) <;> (try omega)
      refine ⟨rfl, Nat.le_refl _, _, rfl, ⟨rfl, rb', _, rfl, hs', rfl⟩⟩
    | succ j ih =>
      intro i rb' cl hi hs'
      obtain ⟨y1, y4⟩ := e8 i (by omega)
      obtain ⟨y2, y3⟩ := m1 i (by omega)
      have hb2 := wtl_2 (mkK T.1 T.2 p0) (mtl T.1 T.2 p0) (wks (mkK T.1 T.2 p0) s3 mK) i
      have hks := wks_2 (mkK T.1 T.2 p0) s3 mK
      have hmono := tbt_mono (mtl T.1 T.2 p0) (mkK T.1 T.2 p0) (i + 1) j
      rw [show i + 1 + j = tc by omega] at hmono
      have hstep : tbt (mtl T.1 T.2 p0) (mkK T.1 T.2 p0) (i + 1) = tbt (mtl T.1 T.2 p0) (mkK T.1 T.2 p0) i + (mkK T.1 T.2 p0 ((mtl T.1 T.2 p0).2.1 i) + tbs ((mtl T.1 T.2 p0).2.1 i)) := rfl
      have hnum := tbs_num y2 y3
      have hk := (mk_le T.1 T.2 p0 ((mtl T.1 T.2 p0).2.1 i)).2.2
      rw [e1] at hmb
      have ih := ih (i + 1)
      rw [show wtl (mkK T.1 T.2 p0) (mtl T.1 T.2 p0) (wks (mkK T.1 T.2 p0) s3 mK) (i + 1) = bput (bput (wtl (mkK T.1 T.2 p0) (mtl T.1 T.2 p0) (wks (mkK T.1 T.2 p0) s3 mK) i) (rev (cde (mkK T.1 T.2 p0) 19 ((mtl T.1 T.2 p0).2.1 i)) (mkK T.1 T.2 p0 ((mtl T.1 T.2 p0).2.1 i))) (mkK T.1 T.2 p0 ((mtl T.1 T.2 p0).2.1 i))) ((mtl T.1 T.2 p0).2.2 i) (tbs ((mtl T.1 T.2 p0).2.1 i)) from rfl] at ih
      generalize wtl (mkK T.1 T.2 p0) (mtl T.1 T.2 p0) (wks (mkK T.1 T.2 p0) s3 mK) i = s4 at hs' hb2 ih ⊢
      rw [← e1] at hmb
      refine b_MC_writeTelling_44 ⟨_, ⟨_, rfl, rfl⟩, ?_⟩
      refine ⟨fun hb => ?_, fun hb => ?_⟩ <;> (try simp (disch := omega) only [nI_lit, nI_fold, nI_mul, nI_add, pk_sub, pk_div, nI_shrN, nI_clamp, nI_leI, nI_ltI, nI_eq, not_true_eq_false, not_false_eq_true, Bool.false_eq_true, if_true, if_false, nI_nem, nI_m1, nI_m7, nI_m15, nI_m32, nI_m4, nI_m8, nI_m16, nI_m2] at hb) <;> (try omega)
      refine ⟨_, ⟨_, rfl, rfl⟩, _, ⟨_, rfl, rfl⟩, _, _, rfl, vp_in_nI (by omega) (by decide), ?_⟩
      try dsimp only
      repeat rw [nI_clamp (by omega)]
      rw [y1]
      refine xs_callV rfl lk_3_103 (d' := 2) (c_BW_writeSymbol (q := (k1, k2, k3, (tc, mL, mD, mK, WL, WD, (fn, fl, fw), we, row, ts, tn, tw), k5, k6)) (s := s4) (rb := rb') (r := 29) (a1 := 31) (a2 := 32) (a3 := 30) (N := 19) (fl := fl) (fw := fw) rfl rfl rfl y2 (by decide) (e7 _ y2) (hfw _ y2) (rev_lt _ _) (by omega) hs' (by omega)) (Nat.le_of_ble_eq_true rfl) rfl rfl rfl rfl rfl (Nat.le_of_ble_eq_true rfl) (by omega) (by omega) ?_
      rintro _ H1 ⟨rfl, rb4, hs4, rfl⟩
      refine b_MC_writeTelling_56 ⟨_, ⟨_, rfl, rfl⟩, _, _, rfl, vp_in_nI (by omega) (by decide), _, ⟨_, rfl, rfl⟩, _, _, rfl, vp_in_nI (by omega) (by decide), ?_⟩
      try dsimp only
      repeat rw [nI_clamp (by omega)]
      rw [y1, y4]
      refine xs_callS rfl lk_3_90 (d' := 0) (c_MC_numberBits y2) (Nat.le_of_ble_eq_true rfl) rfl rfl (Nat.le_of_ble_eq_true rfl) (by omega) (by omega) ?_
      rintro _ H1 ⟨rfl, rfl⟩
      refine xs_callV rfl lk_3_97 (d' := 1) (c_BW_writeNumber (q := (k1, k2, k3, (tc, mL, mD, mK, WL, WD, (fn, fl, fw), we, row, ts, tn, tw), k5, k6)) (rb := rb4) (v := (mtl T.1 T.2 p0).2.2 i) (k := tbs ((mtl T.1 T.2 p0).2.1 i)) hnum.1 (by omega) hs4 (by show s4.2 + mkK T.1 T.2 p0 ((mtl T.1 T.2 p0).2.1 i) + tbs ((mtl T.1 T.2 p0).2.1 i) ≤ _; omega)) (Nat.le_of_ble_eq_true rfl) rfl rfl rfl rfl rfl (Nat.le_of_ble_eq_true rfl) (by omega) (by omega) ?_
      rintro _ H1 ⟨rfl, rb5, hs5, rfl⟩
      refine b_MC_writeTelling_67 ?_
      rw [nI_1]
      exact ih rb5 false (by omega) hs5
  have k26 : ∀ (j i : Nat) (rb' : Nat → Nat) (cl : Bool), i + j = mK → cbs (wks (mkK T.1 T.2 p0) s3 i) rb' → xW l x 3 0 0 mMC_writeTelling n0 (fun r H' => ∃ o, r = Sum.inl o ∧ o = none ∧ ∃ rb' WK', WK'.2.1 = fl ∧ cbs F rb' ∧ H' = hW s0 T rb' P (k1, k2, k3, (tc, mL, mD, mK, WL, WD, WK', we, row, ts, tn, tw), k5, k6) u Z (F)) cl 26 [some (.ref 20), some (.ref 50), some (.int (nI i))] [] (hW s0 T rb' P (k1, k2, k3, (tc, mL, mD, mK, WL, WD, (fn, fl, fw), we, row, ts, tn, tw), k5, k6) u Z (wks (mkK T.1 T.2 p0) s3 i)) 0 0 := by
    intro j
    induction j with
    | zero =>
      intro i rb' cl hi hs'
      have : i = mK := by omega
      subst this
      refine b_MC_writeTelling_26 ⟨_, ⟨_, rfl, rfl⟩, ?_⟩
      refine ⟨fun hb => ?_, fun hb => ?_⟩ <;> (try simp (disch := omega) only [nI_lit, nI_fold, nI_mul, nI_add, pk_sub, pk_div, nI_shrN, nI_clamp, nI_leI, nI_ltI, nI_eq, not_true_eq_false, not_false_eq_true, Bool.false_eq_true, if_true, if_false, nI_nem, nI_m1, nI_m7, nI_m15, nI_m32, nI_m4, nI_m8, nI_m16, nI_m2] at hb) <;> (try omega)
      exact k44 tc 0 rb' cl (by omega) hs'
    | succ j ih =>
      intro i rb' cl hi hs'
      obtain ⟨o1, o2⟩ := ord_N i (by omega)
      have hks := wks_2 (mkK T.1 T.2 p0) s3 i
      have hk := (mk_le T.1 T.2 p0 (ordN i)).2.2
      have ih := ih (i + 1)
      rw [show wks (mkK T.1 T.2 p0) s3 (i + 1) = bput (wks (mkK T.1 T.2 p0) s3 i) (mkK T.1 T.2 p0 (ordN i)) 3 from rfl] at ih
      generalize wks (mkK T.1 T.2 p0) s3 i = s4 at hs' hks ih ⊢
      refine b_MC_writeTelling_26 ⟨_, ⟨_, rfl, rfl⟩, ?_⟩
      refine ⟨fun hb => ?_, fun hb => ?_⟩ <;> (try simp (disch := omega) only [nI_lit, nI_fold, nI_mul, nI_add, pk_sub, pk_div, nI_shrN, nI_clamp, nI_leI, nI_ltI, nI_eq, not_true_eq_false, not_false_eq_true, Bool.false_eq_true, if_true, if_false, nI_nem, nI_m1, nI_m7, nI_m15, nI_m32, nI_m4, nI_m8, nI_m16, nI_m2] at hb) <;> (try omega)
      refine ⟨_, ⟨_, rfl, rfl⟩, _, ⟨_, rfl, rfl⟩, _, _, rfl, vp_in_nI (by omega) (by decide), ?_⟩
      try dsimp only
      repeat rw [nI_clamp (by omega)]
      rw [o1]
      refine ⟨_, _, rfl, vp_in_nI (by omega) (by decide), ?_⟩
      try dsimp only
      repeat rw [nI_clamp (by omega)]
      rw [e7 _ o2]
      refine xs_callV rfl lk_3_97 (d' := 1) (c_BW_writeNumber (q := (k1, k2, k3, (tc, mL, mD, mK, WL, WD, (fn, fl, fw), we, row, ts, tn, tw), k5, k6)) (s := s4) (rb := rb') (v := mkK T.1 T.2 p0 (ordN i)) (k := 3) (by omega) (by decide) hs' (by omega)) (Nat.le_of_ble_eq_true rfl) rfl rfl rfl rfl rfl (Nat.le_of_ble_eq_true rfl) (by omega) (by omega) ?_
      rintro _ H1 ⟨rfl, rb4, hs4, rfl⟩
      refine b_MC_writeTelling_40 ?_
      rw [nI_1]
      exact ih rb4 false (by omega) hs4
  exact k26 mK 0 rb3 false (by omega) hs3
end Telling
