/-! the class writes blocks -/
theorem neg7g {v : Nat} (h0 : 0 < v) (h : v < 2 ^ 31) : -nI v &&& 7 = nI ((8 - v % 8) % 8) := by
  have e : -nI v = nI (2 ^ 32 - v) := by
    apply Int32.toBitVec_inj.mp
    show -(BitVec.ofNat 32 v) = BitVec.ofNat 32 (2 ^ 32 - v)
    apply BitVec.eq_of_toNat_eq
    rw [BitVec.toNat_neg, BitVec.toNat_ofNat, BitVec.toNat_ofNat]
    omega
  rw [e, show (7 : Int32) = nI 7 from rfl, nI_m7 (by omega)]
  exact congrArg nI (by omega)
section WBlk
variable {l : Launch} {x : xX} {d : Nat} {s0 : va_E} {T R : wRow} {P : wRep} {k1 : Nat × Nat × Nat × Nat} {k2 k3 : wWC} {k4 : wMC} {k5 : wF × wF × wF × wF} {k6 : wFI} {hd : Nat × Nat} {u : wUN} {Z : xH} {s : Nat × Nat} {rb : Nat → Nat}
theorem c_PK_writePieces (hT : ∀ i, T.1 i < 256) {p0 : Nat} {b0 a0 : Nat} {r1 a1 a2 a3 NL r2 b1 b2 b3 ND : Nat} {flL fwL flD fwD : wF} {gL gD : Nat → Nat}
    (hL : ∀ rb s, (hW s0 T rb P ((npc T.1 T.2 p0, b0, p0, a0), k2, k3, k4, k5, k6) u Z s)[r1]? = some (.inr (11, [.ref a1, .ref a2, .ref a3])) ∧ (hW s0 T rb P ((npc T.1 T.2 p0, b0, p0, a0), k2, k3, k4, k5, k6) u Z s)[a1]? = some (aI NL flL) ∧ (hW s0 T rb P ((npc T.1 T.2 p0, b0, p0, a0), k2, k3, k4, k5, k6) u Z s)[a2]? = some (aI NL fwL))
    (hD : ∀ rb s, (hW s0 T rb P ((npc T.1 T.2 p0, b0, p0, a0), k2, k3, k4, k5, k6) u Z s)[r2]? = some (.inr (11, [.ref b1, .ref b2, .ref b3])) ∧ (hW s0 T rb P ((npc T.1 T.2 p0, b0, p0, a0), k2, k3, k4, k5, k6) u Z s)[b1]? = some (aI ND flD) ∧ (hW s0 T rb P ((npc T.1 T.2 p0, b0, p0, a0), k2, k3, k4, k5, k6) u Z s)[b2]? = some (aI ND fwD))
    (hNL : 286 ≤ NL) (hNL2 : NL ≤ 288) (hND : 30 ≤ ND) (hND2 : ND ≤ 32) (hlL : isN flL NL gL) (hwL : isN fwL NL (fun i => rev (cde gL NL i) (gL i))) (hgL : ∀ i, gL i ≤ 15) (hlD : isN flD ND gD) (hwD : isN fwD ND (fun i => rev (cde gD ND i) (gD i))) (hgD : ∀ i, gD i ≤ 15)
    (hk : PKa T.1 T.2 p0 (npc T.1 T.2 p0) k5) (hs : cbs s rb) (hn : s.2 + (gL 256 + pbs T.1 T.2 p0 gL gD (npc T.1 T.2 p0)) ≤ 524288) : xCr l x 3 0 0 mPK_writePieces [.ref 11, .ref r1, .ref r2] (hW s0 T rb P ((npc T.1 T.2 p0, b0, p0, a0), k2, k3, k4, k5, k6) u Z s) (fun o H' => o = none ∧ ∃ rb', cbs (wpa T.1 T.2 p0 gL gD NL ND s) rb' ∧ H' = hW s0 T rb' P ((npc T.1 T.2 p0, b0, p0, a0), k2, k3, k4, k5, k6) u Z (wpa T.1 T.2 p0 gL gD NL ND s)) := by
  obtain ⟨o1, o2, o3⟩ := npc_ok T.1 T.2 p0
  obtain ⟨pl, pv, fw1, fw2⟩ := k5
  refine xCt.of (by decide) rfl ck_PK_writePieces (Nat.le_of_ble_eq_true rfl) rfl ?_
  generalize List.length (hW s0 T rb P ((npc T.1 T.2 p0, b0, p0, a0), k2, k3, k4, (pl, pv, fw1, fw2), k6) u Z s) = n0
  refine b_PK_writePieces_0 ?_
  have h : ∀ (j c : Nat) (rb : Nat → Nat) (L4 L5 : Option Value) (cl : Bool), c + j = npc T.1 T.2 p0 → cbs (wps T.1 T.2 p0 gL gD NL ND s c) rb → xW l x 3 0 0 mPK_writePieces n0 (fun r H' => ∃ o, r = Sum.inl o ∧ o = none ∧ ∃ rb', cbs (wpa T.1 T.2 p0 gL gD NL ND s) rb' ∧ H' = hW s0 T rb' P ((npc T.1 T.2 p0, b0, p0, a0), k2, k3, k4, (pl, pv, fw1, fw2), k6) u Z (wpa T.1 T.2 p0 gL gD NL ND s)) cl 2 [some (.ref 11), some (.ref r1), some (.ref r2), some (.int (nI c)), L4, L5, none, none] [] (hW s0 T rb P ((npc T.1 T.2 p0, b0, p0, a0), k2, k3, k4, (pl, pv, fw1, fw2), k6) u Z (wps T.1 T.2 p0 gL gD NL ND s c)) 0 0 := by
    intro j
    induction j with
    | zero =>
      intro c rb L4 L5 cl hcq hs'
      have : c = npc T.1 T.2 p0 := by omega
      subst this
      have h2 := wps_2 T.1 T.2 p0 gL gD NL ND s (npc T.1 T.2 p0)
      refine xW.fgt 4 (xW.fgt 5 ?_)
      refine b_PK_writePieces_2 ⟨_, ⟨_, rfl, rfl⟩, ?_⟩
      refine ⟨fun hb => ?_, fun hb => ?_⟩ <;> (try simp (disch := omega) only [nI_lit, nI_fold, nI_mul, nI_add, pk_sub, pk_div, nI_shrN, nI_clamp, nI_leI, nI_ltI, nI_eq, not_true_eq_false, not_false_eq_true, Bool.false_eq_true, if_true, if_false, nI_nem, nI_m1, nI_m7, nI_m15, nI_m32, nI_m4, nI_m8, nI_m16, nI_m2] at hb) <;> (try omega)
      refine ⟨_, ⟨_, rfl, rfl⟩, ?_⟩
      obtain ⟨q1, q2, q3⟩ := hL rb (wps T.1 T.2 p0 gL gD NL ND s (npc T.1 T.2 p0))
      have hg := hgL 256
      refine xs_callV rfl lk_4_224 (d' := 2) (c_BW_writeSymbol (q := ((npc T.1 T.2 p0, b0, p0, a0), k2, k3, k4, (pl, pv, fw1, fw2), k6)) (i := 256) (n := gL 256) (w := rev (cde gL NL 256) (gL 256)) q1 q2 q3 (by omega) (by omega) (hlL 256 (by omega)) (hwL 256 (by omega)) (rev_lt _ _) (by omega) hs' (by omega)) (Nat.le_of_ble_eq_true rfl) rfl rfl rfl rfl rfl (Nat.le_of_ble_eq_true rfl) (by omega) (by omega) ?_
      rintro _ H1 ⟨rfl, rb', hs2, rfl⟩
      refine b_PK_writePieces_67 ?_
      refine ⟨rfl, Nat.le_refl _, _, rfl, ⟨rfl, rb', hs2, rfl⟩⟩
    | succ j ih =>
      intro c rb L4 L5 cl hcq hs'
      have h2 := wps_2 T.1 T.2 p0 gL gD NL ND s c
      have hmono := pbs_mono T.1 T.2 p0 gL gD (c + 1) j
      rw [show c + 1 + j = npc T.1 T.2 p0 by omega] at hmono
      have hst : pbs T.1 T.2 p0 gL gD (c + 1) = pbs T.1 T.2 p0 gL gD c + pbt T.1 T.2 (pp T.1 T.2 p0 c) gL gD := rfl
      have hwp : wps T.1 T.2 p0 gL gD NL ND s (c + 1) = wpc T.1 T.2 (pp T.1 T.2 p0 c) gL gD NL ND (wps T.1 T.2 p0 gL gD NL ND s c) := rfl
      have ih := ih (c + 1)
      rw [hwp] at ih
      generalize wps T.1 T.2 p0 gL gD NL ND s c = s1 at hs' h2 ih ⊢
      obtain ⟨y1, y2⟩ := hk.1 c (by omega)
      dsimp only at y1 y2
      refine xW.fgt 4 (xW.fgt 5 ?_)
      refine b_PK_writePieces_2 ⟨_, ⟨_, rfl, rfl⟩, ?_⟩
      refine ⟨fun hb => ?_, fun hb => ?_⟩ <;> (try simp (disch := omega) only [nI_lit, nI_fold, nI_mul, nI_add, pk_sub, pk_div, nI_shrN, nI_clamp, nI_leI, nI_ltI, nI_eq, not_true_eq_false, not_false_eq_true, Bool.false_eq_true, if_true, if_false, nI_nem, nI_m1, nI_m7, nI_m15, nI_m32, nI_m4, nI_m8, nI_m16, nI_m2] at hb) <;> (try omega)
      refine ⟨_, ⟨_, rfl, rfl⟩, _, _, rfl, vp_in_nI (by omega) (by decide), _, ⟨_, rfl, rfl⟩, _, _, rfl, vp_in_nI (by omega) (by decide), ?_⟩
      try dsimp only
      repeat rw [nI_clamp (by omega)]
      rw [y1, y2]
      cases hS : isS T.1 T.2 (pp T.1 T.2 p0 c) with
      | false =>
        have hv := (pc_b hS).2
        have ht := hT (pp T.1 T.2 p0 c)
        have hpb : pbt T.1 T.2 (pp T.1 T.2 p0 c) gL gD = gL (T.1 (pp T.1 T.2 p0 c)) := by unfold pbt; rw [hS]; rfl
        have hwc : wpc T.1 T.2 (pp T.1 T.2 p0 c) gL gD NL ND s1 = bput s1 (rev (cde gL NL (T.1 (pp T.1 T.2 p0 c))) (gL (T.1 (pp T.1 T.2 p0 c)))) (gL (T.1 (pp T.1 T.2 p0 c))) := by unfold wpc; rw [hS]; rfl
        rw [hwc] at ih
        rw [hv]
        refine ⟨fun h => absurd rfl h, fun _ => ?_⟩
        refine ⟨_, ⟨_, rfl, rfl⟩, ?_⟩
        obtain ⟨q1, q2, q3⟩ := hL rb s1
        have hg := hgL (T.1 (pp T.1 T.2 p0 c))
        refine xs_callV rfl lk_4_224 (d' := 2) (c_BW_writeSymbol (q := ((npc T.1 T.2 p0, b0, p0, a0), k2, k3, k4, (pl, pv, fw1, fw2), k6)) (i := T.1 (pp T.1 T.2 p0 c)) (n := gL (T.1 (pp T.1 T.2 p0 c))) (w := rev (cde gL NL (T.1 (pp T.1 T.2 p0 c))) (gL (T.1 (pp T.1 T.2 p0 c)))) q1 q2 q3 (by omega) (by omega) (hlL _ (by omega)) (hwL _ (by omega)) (rev_lt _ _) (by omega) hs' (by omega)) (Nat.le_of_ble_eq_true rfl) rfl rfl rfl rfl rfl (Nat.le_of_ble_eq_true rfl) (by omega) (by omega) ?_
        rintro _ H1 ⟨rfl, rb', hs2, rfl⟩
        refine b_PK_writePieces_23 ?_
        refine b_PK_writePieces_60 ?_
        rw [nI_1]
        exact ih rb' _ _ false (by omega) hs2
      | true =>
        obtain ⟨z1, z2, z3, z4, z5, z6⟩ := pc_s hS
        rw [if_pos rfl]
        generalize hlen : pcL T.1 T.2 (pp T.1 T.2 p0 c) = len at *
        generalize hdis : pcV T.1 T.2 (pp T.1 T.2 p0 c) = dis at *
        obtain ⟨i1, i2, i3, _, _⟩ := lsN_all (len := len) (by omega) z3
        have d0 := dsN_all (dis - 1) (by omega)
        rw [show dis - 1 + 1 = dis by omega] at d0
        obtain ⟨d1, d2, d3, _⟩ := d0
        have lb := (lbts_le (lsN len) i1)
        have db := (dbts_le (dsN dis) d1)
        have hpb : pbt T.1 T.2 (pp T.1 T.2 p0 c) gL gD = gL (257 + lsN len) + lbts (lsN len) + gD (dsN dis) + dbts (dsN dis) := by unfold pbt; rw [if_pos hS, hlen, hdis]
        have hwc : wpc T.1 T.2 (pp T.1 T.2 p0 c) gL gD NL ND s1 = bput (bput (bput (bput s1 (rev (cde gL NL (257 + lsN len)) (gL (257 + lsN len))) (gL (257 + lsN len))) (len - lbas (lsN len)) (lbts (lsN len))) (rev (cde gD ND (dsN dis)) (gD (dsN dis))) (gD (dsN dis))) (dis - dbas (dsN dis)) (dbts (dsN dis)) := by unfold wpc; rw [if_pos hS, hlen, hdis]
        rw [hwc] at ih
        have hg1 := hgL (257 + lsN len)
        have hg2 := hgD (dsN dis)
        refine ⟨fun _ => ?_, fun h => absurd h (nI_ne0 (by omega) (by omega))⟩
        refine xs_callSN rfl lk_4_173 (d' := 1) (c_RP_lengthSymbol z3 z4) (Nat.le_of_ble_eq_true rfl) rfl rfl (Nat.le_of_ble_eq_true rfl) (by omega) (by omega) ?_
        rintro _ H1 ⟨rfl, rfl⟩
        refine b_PK_writePieces_26 ?_
        refine xs_callSN rfl lk_4_176 (d' := 1) (c_RP_distanceSymbol z5 (by omega)) (Nat.le_of_ble_eq_true rfl) rfl rfl (Nat.le_of_ble_eq_true rfl) (by omega) (by omega) ?_
        rintro _ H1 ⟨rfl, rfl⟩
        refine b_PK_writePieces_29 ⟨_, ⟨_, rfl, rfl⟩, ?_⟩
        rw [show (257 : Int32) + nI (lsN len) = nI (257 + lsN len) from nI_add 257 _]
        obtain ⟨q1, q2, q3⟩ := hL rb s1
        refine xs_callV rfl lk_4_224 (d' := 2) (c_BW_writeSymbol (q := ((npc T.1 T.2 p0, b0, p0, a0), k2, k3, k4, (pl, pv, fw1, fw2), k6)) (i := 257 + lsN len) (n := gL (257 + lsN len)) (w := rev (cde gL NL (257 + lsN len)) (gL (257 + lsN len))) q1 q2 q3 (by omega) (by omega) (hlL _ (by omega)) (hwL _ (by omega)) (rev_lt _ _) (by omega) hs' (by omega)) (Nat.le_of_ble_eq_true rfl) rfl rfl rfl rfl rfl (Nat.le_of_ble_eq_true rfl) (by omega) (by omega) ?_
        rintro _ H1 ⟨rfl, rb2, hs2, rfl⟩
        refine b_PK_writePieces_37 ⟨_, ⟨_, rfl, rfl⟩, ?_⟩
        refine xs_callSN rfl lk_4_228 (d' := 1) (c_RP_lengthBase i1) (Nat.le_of_ble_eq_true rfl) rfl rfl (Nat.le_of_ble_eq_true rfl) (by omega) (by omega) ?_
        rintro _ H1 ⟨rfl, rfl⟩
        refine b_PK_writePieces_42 ?_
        rw [nI_sub i2]
        refine xs_callSN rfl lk_4_179 (d' := 0) (c_RP_lengthBits i1) (Nat.le_of_ble_eq_true rfl) rfl rfl (Nat.le_of_ble_eq_true rfl) (by omega) (by omega) ?_
        rintro _ H1 ⟨rfl, rfl⟩
        refine xs_callV rfl lk_4_129 (d' := 1) (c_BW_writeNumber (q := ((npc T.1 T.2 p0, b0, p0, a0), k2, k3, k4, (pl, pv, fw1, fw2), k6)) (rb := rb2) (v := len - lbas (lsN len)) (k := lbts (lsN len)) (by omega) (by omega) hs2 (by show s1.2 + gL (257 + lsN len) + lbts (lsN len) ≤ _; omega)) (Nat.le_of_ble_eq_true rfl) rfl rfl rfl rfl rfl (Nat.le_of_ble_eq_true rfl) (by omega) (by omega) ?_
        rintro _ H1 ⟨rfl, rb3, hs3, rfl⟩
        refine b_PK_writePieces_46 ⟨_, ⟨_, rfl, rfl⟩, ?_⟩
        obtain ⟨t1, t2, t3⟩ := hD rb3 (bput (bput s1 (rev (cde gL NL (257 + lsN len)) (gL (257 + lsN len))) (gL (257 + lsN len))) (len - lbas (lsN len)) (lbts (lsN len)))
        refine xs_callV rfl lk_4_224 (d' := 2) (c_BW_writeSymbol (q := ((npc T.1 T.2 p0, b0, p0, a0), k2, k3, k4, (pl, pv, fw1, fw2), k6)) (rb := rb3) (i := dsN dis) (n := gD (dsN dis)) (w := rev (cde gD ND (dsN dis)) (gD (dsN dis))) t1 t2 t3 (by omega) (by omega) (hlD _ (by omega)) (hwD _ (by omega)) (rev_lt _ _) (by omega) hs3 (by show s1.2 + gL (257 + lsN len) + lbts (lsN len) + gD (dsN dis) ≤ _; omega)) (Nat.le_of_ble_eq_true rfl) rfl rfl rfl rfl rfl (Nat.le_of_ble_eq_true rfl) (by omega) (by omega) ?_
        rintro _ H1 ⟨rfl, rb4, hs4, rfl⟩
        refine b_PK_writePieces_51 ⟨_, ⟨_, rfl, rfl⟩, ?_⟩
        refine xs_callSN rfl lk_4_231 (d' := 1) (c_RP_distanceBase d1) (Nat.le_of_ble_eq_true rfl) rfl rfl (Nat.le_of_ble_eq_true rfl) (by omega) (by omega) ?_
        rintro _ H1 ⟨rfl, rfl⟩
        refine b_PK_writePieces_56 ?_
        rw [nI_sub d2]
        refine xs_callSN rfl lk_4_182 (d' := 0) (c_RP_distanceBits d1) (Nat.le_of_ble_eq_true rfl) rfl rfl (Nat.le_of_ble_eq_true rfl) (by omega) (by omega) ?_
        rintro _ H1 ⟨rfl, rfl⟩
        refine xs_callV rfl lk_4_129 (d' := 1) (c_BW_writeNumber (q := ((npc T.1 T.2 p0, b0, p0, a0), k2, k3, k4, (pl, pv, fw1, fw2), k6)) (rb := rb4) (v := dis - dbas (dsN dis)) (k := dbts (dsN dis)) (by omega) (by omega) hs4 (by show s1.2 + gL (257 + lsN len) + lbts (lsN len) + gD (dsN dis) + dbts (dsN dis) ≤ _; omega)) (Nat.le_of_ble_eq_true rfl) rfl rfl rfl rfl rfl (Nat.le_of_ble_eq_true rfl) (by omega) (by omega) ?_
        rintro _ H1 ⟨rfl, rb5, hs5, rfl⟩
        refine xW.fgt 6 (xW.fgt 7 ?_)
        refine b_PK_writePieces_60 ?_
        rw [nI_1]
        exact ih rb5 _ _ false (by omega) hs5
  exact h (npc T.1 T.2 p0) 0 rb none none true (by omega) hs
theorem c_PK_writePlain (hT : ∀ i, T.1 i < 256) {c b p0 p : Nat} (hpp : p0 ≤ p) (hp : p ≤ 32768) (hs : cbs s rb) (hn : s.2 + 7 + 32 + 8 * (p - p0) ≤ 524288) : xCr l x 3 0 0 mPK_writePlain [.ref 11] (hW s0 T rb P ((c, b, p0, p), k2, k3, k4, k5, k6) u Z s) (fun o H' => o = none ∧ ∃ rb', cbs (wpl T.1 p0 (p - p0) s) rb' ∧ H' = hW s0 T rb' P ((c, b, p0, p), k2, k3, k4, k5, k6) u Z (wpl T.1 p0 (p - p0) s)) := by
  refine xCt.of (by decide) rfl ck_PK_writePlain (Nat.le_of_ble_eq_true rfl) rfl ?_
  generalize List.length (hW s0 T rb P ((c, b, p0, p), k2, k3, k4, k5, k6) u Z s) = n0
  refine b_PK_writePlain_0 ⟨_, ⟨_, rfl, rfl⟩, _, ⟨_, rfl, rfl⟩, _, ⟨_, rfl, rfl⟩, ?_⟩
  rw [nI_sub hpp]
  refine xs_callV rfl lk_4_123 (d' := 2) (c_BW_fillByte (q := ((c, b, p0, p), k2, k3, k4, k5, k6)) hs (by omega)) (Nat.le_of_ble_eq_true rfl) rfl rfl rfl rfl rfl (Nat.le_of_ble_eq_true rfl) (by omega) (by omega) ?_
  rintro _ H1 ⟨rfl, rb1, hs1, rfl⟩
  refine b_PK_writePlain_9 ⟨_, ⟨_, rfl, rfl⟩, ?_⟩
  refine xs_callV rfl lk_4_129 (d' := 1) (c_BW_writeNumber (q := ((c, b, p0, p), k2, k3, k4, k5, k6)) (v := p - p0) (k := 16) (by omega) (by decide) hs1 (by dsimp only; omega)) (Nat.le_of_ble_eq_true rfl) rfl rfl rfl rfl rfl (Nat.le_of_ble_eq_true rfl) (by omega) (by omega) ?_
  rintro _ H1 ⟨rfl, rb2, hs2, rfl⟩
  refine b_PK_writePlain_14 ⟨_, ⟨_, rfl, rfl⟩, ?_⟩
  rw [show (65535 : Int32) - nI (p - p0) = nI (65535 - (p - p0)) by rw [show (65535 : Int32) = nI 65535 from rfl, nI_sub (by omega)]]
  refine xs_callV rfl lk_4_129 (d' := 1) (c_BW_writeNumber (q := ((c, b, p0, p), k2, k3, k4, k5, k6)) (rb := rb2) (v := 65535 - (p - p0)) (k := 16) (by omega) (by decide) hs2 (by show (s.2 + 7) / 8 * 8 + 16 + 16 ≤ _; omega)) (Nat.le_of_ble_eq_true rfl) rfl rfl rfl rfl rfl (Nat.le_of_ble_eq_true rfl) (by omega) (by omega) ?_
  rintro _ H1 ⟨rfl, rb3, hs3, rfl⟩
  have h2 : (bput (bput (s.1, (s.2 + 7) / 8 * 8) (p - p0) 16) (65535 - (p - p0)) 16).2 = (s.2 + 7) / 8 * 8 + 32 := rfl
  have hF : wpl T.1 p0 (p - p0) s = wby T.1 p0 (bput (bput (s.1, (s.2 + 7) / 8 * 8) (p - p0) 16) (65535 - (p - p0)) 16) (p - p0) := rfl
  generalize wpl T.1 p0 (p - p0) s = F at hF ⊢
  generalize bput (bput (s.1, (s.2 + 7) / 8 * 8) (p - p0) 16) (65535 - (p - p0)) 16 = s3 at hs3 h2 hF ⊢
  refine b_PK_writePlain_21 ⟨_, ⟨_, rfl, rfl⟩, ?_⟩
  have h : ∀ (j i : Nat) (rb : Nat → Nat) (cl : Bool), i + j = p - p0 → cbs (wby T.1 p0 s3 i) rb → xW l x 3 0 0 mPK_writePlain n0 (fun r H' => ∃ o, r = Sum.inl o ∧ o = none ∧ ∃ rb', cbs F rb' ∧ H' = hW s0 T rb' P ((c, b, p0, p), k2, k3, k4, k5, k6) u Z F) cl 24 [some (.ref 11), some (.int (nI (p - p0))), some (.int (nI (p0 + i)))] [] (hW s0 T rb P ((c, b, p0, p), k2, k3, k4, k5, k6) u Z (wby T.1 p0 s3 i)) 0 0 := by
    intro j
    induction j with
    | zero =>
      intro i rb cl hi hs'
      have : i = p - p0 := by omega
      subst this
      rw [← hF] at hs' ⊢
      refine b_PK_writePlain_24 ⟨_, ⟨_, rfl, rfl⟩, ?_⟩
      refine ⟨fun hb => ?_, fun hb => ?_⟩ <;> (try simp (disch := omega) only [nI_lit, nI_fold, nI_mul, nI_add, pk_sub, pk_div, nI_shrN, nI_clamp, nI_leI, nI_ltI, nI_eq, not_true_eq_false, not_false_eq_true, Bool.false_eq_true, if_true, if_false, nI_nem, nI_m1, nI_m7, nI_m15, nI_m32, nI_m4, nI_m8, nI_m16, nI_m2] at hb) <;> (try omega)
      refine ⟨rfl, Nat.le_refl _, _, rfl, ⟨rfl, rb, hs', rfl⟩⟩
    | succ j ih =>
      intro i rb cl hi hs'
      have hb2 := wby_2 T.1 p0 s3 i
      have ht := hT (p0 + i)
      have ih := ih (i + 1)
      rw [show wby T.1 p0 s3 (i + 1) = bput (wby T.1 p0 s3 i) (T.1 (p0 + i)) 8 from rfl] at ih
      generalize wby T.1 p0 s3 i = s4 at hs' hb2 ih ⊢
      refine b_PK_writePlain_24 ⟨_, ⟨_, rfl, rfl⟩, ?_⟩
      refine ⟨fun hb => ?_, fun hb => ?_⟩ <;> (try simp (disch := omega) only [nI_lit, nI_fold, nI_mul, nI_add, pk_sub, pk_div, nI_shrN, nI_clamp, nI_leI, nI_ltI, nI_eq, not_true_eq_false, not_false_eq_true, Bool.false_eq_true, if_true, if_false, nI_nem, nI_m1, nI_m7, nI_m15, nI_m32, nI_m4, nI_m8, nI_m16, nI_m2] at hb) <;> (try omega)
      refine ⟨_, ⟨_, rfl, rfl⟩, _, ⟨_, rfl, rfl⟩, ?_⟩
      refine xs_callV rfl lk_4_170 (d' := 0) (c_RO_byteAt (r := 3) (a := 4) (N := 32768) (t := T.1) (n := p0 + i) rfl rfl hT (by omega) (by decide)) (Nat.le_of_ble_eq_true rfl) rfl rfl rfl rfl rfl (Nat.le_of_ble_eq_true rfl) (by omega) (by omega) ?_
      rintro _ H1 ⟨rfl, rfl⟩
      refine b_PK_writePlain_34 ?_
      refine xs_callV rfl lk_4_129 (d' := 1) (c_BW_writeNumber (q := ((c, b, p0, p), k2, k3, k4, k5, k6)) (rb := rb) (v := T.1 (p0 + i)) (k := 8) ht (by decide) hs' (by omega)) (Nat.le_of_ble_eq_true rfl) rfl rfl rfl rfl rfl (Nat.le_of_ble_eq_true rfl) (by omega) (by omega) ?_
      rintro _ H1 ⟨rfl, rb4, hs4, rfl⟩
      refine b_PK_writePlain_36 ?_
      rw [nI_1]
      exact ih rb4 false (by omega) hs4
  exact h (p - p0) 0 rb3 false (by omega) hs3
end WBlk
