/-! the model puts pieces, plain bytes and what is told -/
theorem cnt_ext {g : Nat → Nat} {N l : Nat} (hl : 1 ≤ l) : ∀ j, (∀ i, N ≤ i → i < N + j → g i = 0) → cnt g (N + j) l = cnt g N l := by
  intro j
  induction j with
  | zero => intro _; rfl
  | succ j ih =>
    intro h
    show cnt g (N + j) l + (if g (N + j) = l then 1 else 0) = _
    rw [ih (fun i h1 h2 => h i h1 (by omega)), if_neg (by rw [h (N + j) (by omega) (by omega)]; omega)]
    rfl
theorem fstc_ext {g : Nat → Nat} {N j : Nat} (h : ∀ i, N ≤ i → i < N + j → g i = 0) : ∀ l, fstc g (N + j) l = fstc g N l := by
  intro l
  induction l with
  | zero => rfl
  | succ l ih =>
    show 2 * (fstc g (N + j) l + (if l = 0 then 0 else cnt g (N + j) l)) = 2 * (fstc g N l + (if l = 0 then 0 else cnt g N l))
    rw [ih]
    by_cases h0 : l = 0
    · rw [if_pos h0, if_pos h0]
    · rw [if_neg h0, if_neg h0, cnt_ext (by omega) j h]
theorem cde_ext {g : Nat → Nat} {N j : Nat} (h : ∀ i, N ≤ i → i < N + j → g i = 0) (i : Nat) : cde g (N + j) i = cde g N i := by unfold cde; rw [fstc_ext h]
theorem wps_ext {t : Nat → Nat} {n p0 : Nat} {gL gD : Nat → Nat} {NL j ND k : Nat} (hL : ∀ i, NL ≤ i → i < NL + j → gL i = 0) (hD : ∀ i, ND ≤ i → i < ND + k → gD i = 0) (s : Nat × Nat) : ∀ c, wps t n p0 gL gD (NL + j) (ND + k) s c = wps t n p0 gL gD NL ND s c := by
  intro c
  induction c with
  | zero => rfl
  | succ c ih =>
    show wpc t n _ gL gD (NL + j) (ND + k) (wps t n p0 gL gD (NL + j) (ND + k) s c) = wpc t n _ gL gD NL ND (wps t n p0 gL gD NL ND s c)
    rw [ih]
    unfold wpc
    rw [cde_ext hL, cde_ext hD, cde_ext hL]
theorem wpa_ext {t : Nat → Nat} {n p0 : Nat} {gL gD : Nat → Nat} {NL j ND k : Nat} (hL : ∀ i, NL ≤ i → i < NL + j → gL i = 0) (hD : ∀ i, ND ≤ i → i < ND + k → gD i = 0) (s : Nat × Nat) : wpa t n p0 gL gD (NL + j) (ND + k) s = wpa t n p0 gL gD NL ND s := by
  unfold wpa
  rw [wps_ext hL hD, cde_ext hL]
theorem incs_out {sy L : Nat → Nat} {i : Nat} : ∀ c, (∀ j, j < c → sy j ≠ i) → incs sy L c i = L i := by
  intro c
  induction c with
  | zero => intro _; rfl
  | succ c ih =>
    intro h
    unfold incs nup
    rw [if_neg (fun e => h c (by omega) e.symm)]
    exact ih (fun j hj => h j (by omega))
theorem lnA_out {sw sy : Nat → Nat} {many i : Nat} (h : ∀ j, j < many → sy j ≠ i) : ∀ r tk L, tk ≤ (rws sw many r).1 → lnA sw sy many r tk L i = L i := by
  intro r
  induction r with
  | zero => intro tk L _; rfl
  | succ r ih =>
    intro tk L htk
    have ho := tkn_ok sw many r tk htk
    show lnA sw sy many r _ _ i = _
    rw [ih _ _ ho.2.2]
    exact incs_out _ (fun j hj => h j (by omega))
theorem lbw_out {g : Nat → Nat} {n m i : Nat} (hn : n < 2 ^ (m - 1)) (hm : 1 ≤ m) (hi : n ≤ i) : lbw g n m i = 0 := by
  obtain ⟨o1, o2, o3⟩ := srt_ok g n
  unfold lbw
  split
  · rename_i h
    unfold nup
    rw [if_neg (by have := (o2 0 (by omega)).1; omega)]
  split
  · rfl
  · exact lnA_out (fun j hj => by have := (o2 j hj).1; omega) _ _ _ (tkn_0 (by omega) hn hm _)
section MPut
variable {l : Launch} {x : xX} {d : Nat} {C : Nat → va_E} {cd : Int32} {T : wRow} {rm : Nat → Nat} {rn : Nat} {P : wRp} {K : wK4} {mb : Nat} {ct od ln rw' : wF} {Z : xH} {pl pv : wF} {pc : Nat} {wt : Nat → Int64} {cds : wF} {th : Nat → Int64} {is tc bw td tn : wF} {tcn lu du ku : Nat} {s : Nat × Nat}
theorem c_MO_putPieces (hT : ∀ i, T.1 i < 256) {p0 : Nat} (hpc : pc = npc T.1 T.2 p0) (hP : MPa T.1 T.2 p0 pc pl pv) {gL gD : Nat → Nat} (hL : ∀ i, i < 288 → ln i = nI (gL i)) (hD : ∀ j, j < 32 → ln (400 + j) = nI (gD j)) (hgL : ∀ i, gL i ≤ 15) (hgD : ∀ i, gD i ≤ 15) (hs : mbs s rm) (hn : s.2 + (gL 256 + pbs T.1 T.2 p0 gL gD pc) ≤ 524288) : xCr l x 2 0 0 mMO_putPieces [.ref 74] (hM C cd T (rm, rn) P K (s.2) mb (ct, od, ln, rw') (pl, pv, pc, wt, cds, th, is, tc, bw, td, tn, tcn, lu, du, ku) Z) (fun o H' => o = none ∧ ∃ rm' cds', mbs (wpa T.1 T.2 p0 gL gD 288 32 s) rm' ∧ H' = hM C cd T (rm', rn) P K ((wpa T.1 T.2 p0 gL gD 288 32 s).2) mb (ct, od, ln, rw') (pl, pv, pc, wt, cds', th, is, tc, bw, td, tn, tcn, lu, du, ku) Z) := by
  have hnp := (npc_ok T.1 T.2 p0).1
  rw [← hpc] at hnp
  have hF : wpa T.1 T.2 p0 gL gD 288 32 s = bput (wps T.1 T.2 p0 gL gD 288 32 s pc) (rev (cde gL 288 256) (gL 256)) (gL 256) := by rw [hpc]; rfl
  generalize wpa T.1 T.2 p0 gL gD 288 32 s = F at hF ⊢
  refine xCt.of (by decide) rfl ck_MO_putPieces (Nat.le_of_ble_eq_true rfl) rfl ?_
  generalize List.length (hM C cd T (rm, rn) P K (s.2) mb (ct, od, ln, rw') (pl, pv, pc, wt, cds, th, is, tc, bw, td, tn, tcn, lu, du, ku) Z) = n0
  refine b_MO_putPieces_0 ?_
  refine xs_callV rfl lk_12_288 (d' := 0) (c_MO_makeCodes (g := gL) (fm := 0) (n := 288) (by decide) (by decide) (fun k hk => by rw [Nat.zero_add]; exact hL k hk) hgL) (Nat.le_of_ble_eq_true rfl) rfl rfl rfl rfl rfl (Nat.le_of_ble_eq_true rfl) (by omega) (by omega) ?_
  rintro _ H1 ⟨rfl, cds1, hc1, hf1, rfl⟩
  refine b_MO_putPieces_4 ?_
  refine xs_callV rfl lk_12_288 (d' := 0) (c_MO_makeCodes (g := gD) (fm := 400) (n := 32) (by decide) (by decide) hD hgD) (Nat.le_of_ble_eq_true rfl) rfl rfl rfl rfl rfl (Nat.le_of_ble_eq_true rfl) (by omega) (by omega) ?_
  rintro _ H1 ⟨rfl, cds2, hc2, hf2, rfl⟩
  have hcL : ∀ i, i < 288 → 1 ≤ gL i → cds2 i = nI (cde gL 288 i) := by
    intro i hi h1
    rw [hf2 i (by omega)]
    have := hc1 i hi h1
    rw [Nat.zero_add] at this
    exact this
  have hcb : ∀ (g : Nat → Nat) (N i : Nat), (∀ k, g k ≤ 15) → N ≤ 288 → i ≤ N → cde g N i < 2 ^ 31 := by
    intro g N i hg hN hi
    have a := fstc_lt (g := g) (N := N) (l := g i) hN (hg i)
    have b := cnt_le g i (g i)
    unfold cde
    omega
  refine b_MO_putPieces_8 ?_
  have h : ∀ (j c : Nat) (rm : Nat → Nat) (cl : Bool), c + j = pc → mbs (wps T.1 T.2 p0 gL gD 288 32 s c) rm → xW l x 2 0 0 mMO_putPieces n0 (fun r H' => ∃ o, r = Sum.inl o ∧ o = none ∧ ∃ rm' cds', mbs F rm' ∧ H' = hM C cd T (rm', rn) P K (F.2) mb (ct, od, ln, rw') (pl, pv, pc, wt, cds', th, is, tc, bw, td, tn, tcn, lu, du, ku) Z) cl 10 [some (.ref 74), some (.int (nI c)), none, none] [] (hM C cd T (rm, rn) P K ((wps T.1 T.2 p0 gL gD 288 32 s c).2) mb (ct, od, ln, rw') (pl, pv, pc, wt, cds2, th, is, tc, bw, td, tn, tcn, lu, du, ku) Z) 0 0 := by
    intro j
    induction j with
    | zero =>
      intro c rm cl hc hs'
      have : c = pc := by omega
      subst this
      have h2 := wps_2 T.1 T.2 p0 gL gD 288 32 s c
      have hg := hgL 256
      generalize wps T.1 T.2 p0 gL gD 288 32 s c = s1 at hs' h2 hF ⊢
      subst hF
      refine b_MO_putPieces_10 ⟨_, ⟨_, rfl, rfl⟩, ?_⟩
      refine ⟨fun hb => ?_, fun hb => ?_⟩ <;> (try simp (disch := omega) only [nI_lit, nI_fold, nI_mul, nI_add, pk_sub, pk_div, nI_shrN, nI_clamp, nI_leI, nI_ltI, nI_eq, not_true_eq_false, not_false_eq_true, Bool.false_eq_true, if_true, if_false, nI_nem, nI_m1, nI_m7, nI_m15, nI_m32, nI_m4, nI_m8, nI_m16, nI_m2] at hb) <;> (try omega)
      refine xs_callV rfl lk_12_291 (d' := 1) (c_MO_putCode (s := s1) (i := 256) (n := gL 256) (c := cde gL 288 256) (by decide) (by omega) (hcb gL 288 256 hgL (by decide) (by decide)) (hL 256 (by decide)) (hcL 256 (by decide)) hs' (by omega)) (Nat.le_of_ble_eq_true rfl) rfl rfl rfl rfl rfl (Nat.le_of_ble_eq_true rfl) (by omega) (by omega) ?_
      rintro _ H1 ⟨rfl, rm', hs2, rfl⟩
      refine b_MO_putPieces_76 ?_
      refine ⟨rfl, Nat.le_refl _, _, rfl, ⟨rfl, rm', cds2, hs2, rfl⟩⟩
    | succ j ih =>
      intro c rm cl hc hs'
      have h2 := wps_2 T.1 T.2 p0 gL gD 288 32 s c
      have hmono := pbs_mono T.1 T.2 p0 gL gD (c + 1) j
      rw [show c + 1 + j = pc by omega] at hmono
      have hst : pbs T.1 T.2 p0 gL gD (c + 1) = pbs T.1 T.2 p0 gL gD c + pbt T.1 T.2 (pp T.1 T.2 p0 c) gL gD := rfl
      have ih := ih (c + 1)
      rw [show wps T.1 T.2 p0 gL gD 288 32 s (c + 1) = wpc T.1 T.2 (pp T.1 T.2 p0 c) gL gD 288 32 (wps T.1 T.2 p0 gL gD 288 32 s c) from rfl] at ih
      clear hF
      generalize wps T.1 T.2 p0 gL gD 288 32 s c = s1 at hs' h2 ih ⊢
      obtain ⟨y1, y2⟩ := hP c (by omega)
      obtain ⟨q1, q2, q3⟩ := pc_1 hT (n := T.2) (p := pp T.1 T.2 p0 c)
      have ht := hT (pp T.1 T.2 p0 c)
      refine b_MO_putPieces_10 ⟨_, ⟨_, rfl, rfl⟩, ?_⟩
      refine ⟨fun hb => ?_, fun hb => ?_⟩ <;> (try simp (disch := omega) only [nI_lit, nI_fold, nI_mul, nI_add, pk_sub, pk_div, nI_shrN, nI_clamp, nI_leI, nI_ltI, nI_eq, not_true_eq_false, not_false_eq_true, Bool.false_eq_true, if_true, if_false, nI_nem, nI_m1, nI_m7, nI_m15, nI_m32, nI_m4, nI_m8, nI_m16, nI_m2] at hb) <;> (try omega)
      refine ⟨_, ⟨_, rfl, rfl⟩, _, _, rfl, vp_in_nI (by omega) (by decide), ?_⟩
      try dsimp only
      repeat rw [nI_clamp (by omega)]
      rw [y1]
      cases hS : isS T.1 T.2 (pp T.1 T.2 p0 c) with
      | false =>
        have hL1 := q1.mpr hS
        have hv := (pc_b hS).2
        have hpb : pbt T.1 T.2 (pp T.1 T.2 p0 c) gL gD = gL (T.1 (pp T.1 T.2 p0 c)) := by unfold pbt; rw [hS]; rfl
        rw [show wpc T.1 T.2 (pp T.1 T.2 p0 c) gL gD 288 32 s1 = bput s1 (rev (cde gL 288 (T.1 (pp T.1 T.2 p0 c))) (gL (T.1 (pp T.1 T.2 p0 c)))) (gL (T.1 (pp T.1 T.2 p0 c))) by unfold wpc; rw [hS]; rfl] at ih
        have hg := hgL (T.1 (pp T.1 T.2 p0 c))
        rw [hL1]
        refine ⟨fun h => absurd rfl h, fun _ => ?_⟩
        refine ⟨_, ⟨_, rfl, rfl⟩, _, _, rfl, vp_in_nI (by omega) (by decide), ?_⟩
        try dsimp only
        repeat rw [nI_clamp (by omega)]
        rw [y2, hv]
        refine xs_callV rfl lk_12_291 (d' := 1) (c_MO_putCode (s := s1) (i := T.1 (pp T.1 T.2 p0 c)) (n := gL (T.1 (pp T.1 T.2 p0 c))) (c := cde gL 288 (T.1 (pp T.1 T.2 p0 c))) (by omega) (by omega) (hcb gL 288 _ hgL (by decide) (by omega)) (hL _ (by omega)) (hcL _ (by omega)) hs' (by omega)) (Nat.le_of_ble_eq_true rfl) rfl rfl rfl rfl rfl (Nat.le_of_ble_eq_true rfl) (by omega) (by omega) ?_
        rintro _ H1 ⟨rfl, rm', hs2, rfl⟩
        refine b_MO_putPieces_26 ?_
        refine b_MO_putPieces_71 ?_
        rw [nI_1]
        exact ih rm' false (by omega) hs2
      | true =>
        obtain ⟨z1, z2, z3, z4, z5, z6⟩ := pc_s hS
        generalize hlen : pcL T.1 T.2 (pp T.1 T.2 p0 c) = len at *
        generalize hdis : pcV T.1 T.2 (pp T.1 T.2 p0 c) = dis at *
        obtain ⟨i1, i2, i3, _, _⟩ := lsN_all (len := len) (by omega) z3
        have d0 := dsN_all (dis - 1) (by omega)
        rw [show dis - 1 + 1 = dis by omega] at d0
        obtain ⟨d1, d2, d3, _⟩ := d0
        have lb := (lbts_le (lsN len) i1)
        have db := (dbts_le (dsN dis) d1)
        have hpb : pbt T.1 T.2 (pp T.1 T.2 p0 c) gL gD = gL (257 + lsN len) + lbts (lsN len) + gD (dsN dis) + dbts (dsN dis) := by unfold pbt; rw [if_pos hS, hlen, hdis]
        rw [show wpc T.1 T.2 (pp T.1 T.2 p0 c) gL gD 288 32 s1 = bput (bput (bput (bput s1 (rev (cde gL 288 (257 + lsN len)) (gL (257 + lsN len))) (gL (257 + lsN len))) (len - lbas (lsN len)) (lbts (lsN len))) (rev (cde gD 32 (dsN dis)) (gD (dsN dis))) (gD (dsN dis))) (dis - dbas (dsN dis)) (dbts (dsN dis)) by unfold wpc; rw [if_pos hS, hlen, hdis]] at ih
        have hg1 := hgL (257 + lsN len)
        have hg2 := hgD (dsN dis)
        refine ⟨fun _ => ?_, fun h => absurd h (by rw [show (1 : Int32) = nI 1 from rfl, nI_eq (by omega) (by decide)]; omega)⟩
        refine ⟨_, ⟨_, rfl, rfl⟩, _, _, rfl, vp_in_nI (by omega) (by decide), ?_⟩
        try dsimp only
        repeat rw [nI_clamp (by omega)]
        try rw [y1]
        refine xs_callS rfl lk_12_245 (d' := 1) (c_MO_lengthSymbol z3 z4) (Nat.le_of_ble_eq_true rfl) rfl rfl (Nat.le_of_ble_eq_true rfl) (by omega) (by omega) ?_
        rintro _ H1 ⟨rfl, rfl⟩
        refine b_MO_putPieces_32 ⟨_, ⟨_, rfl, rfl⟩, _, _, rfl, vp_in_nI (by omega) (by decide), ?_⟩
        try dsimp only
        repeat rw [nI_clamp (by omega)]
        rw [y2]
        refine xs_callS rfl lk_12_248 (d' := 1) (c_MO_distanceSymbol z5 z6) (Nat.le_of_ble_eq_true rfl) rfl rfl (Nat.le_of_ble_eq_true rfl) (by omega) (by omega) ?_
        rintro _ H1 ⟨rfl, rfl⟩
        refine b_MO_putPieces_38 ?_
        rw [show (257 : Int32) + nI (lsN len) = nI (257 + lsN len) from nI_add 257 _]
        refine xs_callV rfl lk_12_291 (d' := 1) (c_MO_putCode (s := s1) (i := 257 + lsN len) (n := gL (257 + lsN len)) (c := cde gL 288 (257 + lsN len)) (by omega) (by omega) (hcb gL 288 _ hgL (by decide) (by omega)) (hL _ (by omega)) (hcL _ (by omega)) hs' (by omega)) (Nat.le_of_ble_eq_true rfl) rfl rfl rfl rfl rfl (Nat.le_of_ble_eq_true rfl) (by omega) (by omega) ?_
        rintro _ H1 ⟨rfl, rm2, hs2, rfl⟩
        refine b_MO_putPieces_44 ?_
        refine xs_callS rfl lk_12_158 (d' := 0) (c_MO_lengthBits i1) (Nat.le_of_ble_eq_true rfl) rfl rfl (Nat.le_of_ble_eq_true rfl) (by omega) (by omega) ?_
        rintro _ H1 ⟨rfl, rfl⟩
        refine b_MO_putPieces_47 ⟨_, ⟨_, rfl, rfl⟩, _, _, rfl, vp_in_nI (by omega) (by decide), ?_⟩
        try dsimp only
        repeat rw [nI_clamp (by omega)]
        rw [y1]
        refine xs_callS rfl lk_12_108 (d' := 0) (c_MO_leastLength i1) (Nat.le_of_ble_eq_true rfl) rfl rfl (Nat.le_of_ble_eq_true rfl) (by omega) (by omega) ?_
        rintro _ H1 ⟨rfl, rfl⟩
        refine b_MO_putPieces_53 ?_
        rw [nI_sub i2]
        refine xs_callV rfl lk_12_294 (d' := 1) (c_MO_putNumber (s := bput s1 (rev (cde gL 288 (257 + lsN len)) (gL (257 + lsN len))) (gL (257 + lsN len))) (n := lbts (lsN len)) (v := len - lbas (lsN len)) (by omega) (by omega) (by omega) hs2 (by show s1.2 + gL (257 + lsN len) + lbts (lsN len) ≤ _; omega)) (Nat.le_of_ble_eq_true rfl) rfl rfl rfl rfl rfl (Nat.le_of_ble_eq_true rfl) (by omega) (by omega) ?_
        rintro _ H1 ⟨rfl, rm3, hs3, rfl⟩
        refine b_MO_putPieces_55 ?_
        rw [show (400 : Int32) + nI (dsN dis) = nI (400 + dsN dis) from nI_add 400 _]
        refine xs_callV rfl lk_12_291 (d' := 1) (c_MO_putCode (s := bput (bput s1 (rev (cde gL 288 (257 + lsN len)) (gL (257 + lsN len))) (gL (257 + lsN len))) (len - lbas (lsN len)) (lbts (lsN len))) (i := 400 + dsN dis) (n := gD (dsN dis)) (c := cde gD 32 (dsN dis)) (by omega) (by omega) (hcb gD 32 _ hgD (by decide) (by omega)) (hD _ (by omega)) (hc2 _ (by omega)) hs3 (by show s1.2 + gL (257 + lsN len) + lbts (lsN len) + gD (dsN dis) ≤ _; omega)) (Nat.le_of_ble_eq_true rfl) rfl rfl rfl rfl rfl (Nat.le_of_ble_eq_true rfl) (by omega) (by omega) ?_
        rintro _ H1 ⟨rfl, rm4, hs4, rfl⟩
        refine b_MO_putPieces_60 ?_
        refine xs_callS rfl lk_12_149 (d' := 0) (c_MO_distanceBits d1) (Nat.le_of_ble_eq_true rfl) rfl rfl (Nat.le_of_ble_eq_true rfl) (by omega) (by omega) ?_
        rintro _ H1 ⟨rfl, rfl⟩
        refine b_MO_putPieces_63 ⟨_, ⟨_, rfl, rfl⟩, _, _, rfl, vp_in_nI (by omega) (by decide), ?_⟩
        try dsimp only
        repeat rw [nI_clamp (by omega)]
        rw [y2]
        refine xs_callS rfl lk_12_112 (d' := 0) (c_MO_leastDistance d1) (Nat.le_of_ble_eq_true rfl) rfl rfl (Nat.le_of_ble_eq_true rfl) (by omega) (by omega) ?_
        rintro _ H1 ⟨rfl, rfl⟩
        refine b_MO_putPieces_69 ?_
        rw [nI_sub d2]
        refine xs_callV rfl lk_12_294 (d' := 1) (c_MO_putNumber (s := bput (bput (bput s1 (rev (cde gL 288 (257 + lsN len)) (gL (257 + lsN len))) (gL (257 + lsN len))) (len - lbas (lsN len)) (lbts (lsN len))) (rev (cde gD 32 (dsN dis)) (gD (dsN dis))) (gD (dsN dis))) (n := dbts (dsN dis)) (v := dis - dbas (dsN dis)) (by omega) (by omega) (by omega) hs4 (by show s1.2 + gL (257 + lsN len) + lbts (lsN len) + gD (dsN dis) + dbts (dsN dis) ≤ _; omega)) (Nat.le_of_ble_eq_true rfl) rfl rfl rfl rfl rfl (Nat.le_of_ble_eq_true rfl) (by omega) (by omega) ?_
        rintro _ H1 ⟨rfl, rm5, hs5, rfl⟩
        refine xW.fgt 2 (xW.fgt 3 ?_)
        refine b_MO_putPieces_71 ?_
        rw [nI_1]
        exact ih rm5 false (by omega) hs5
  exact h pc 0 rm false (by omega) hs
theorem c_MO_putPlain (hT : ∀ i, T.1 i < 256) {p0 m : Nat} (hm : p0 + m ≤ 32768) (hs : mbs s rm) (hn : s.2 + 7 + 32 + 8 * m ≤ 524288) : xCr l x 2 0 0 mMO_putPlain [.ref 74, .int (nI p0), .int (nI m)] (hM C cd T (rm, rn) P K (s.2) mb (ct, od, ln, rw') (pl, pv, pc, wt, cds, th, is, tc, bw, td, tn, tcn, lu, du, ku) Z) (fun o H' => o = none ∧ ∃ rm', mbs (wpl T.1 p0 m s) rm' ∧ H' = hM C cd T (rm', rn) P K ((wpl T.1 p0 m s).2) mb (ct, od, ln, rw') (pl, pv, pc, wt, cds, th, is, tc, bw, td, tn, tcn, lu, du, ku) Z) := by
  refine xCt.of (by decide) rfl ck_MO_putPlain (Nat.le_of_ble_eq_true rfl) rfl ?_
  generalize List.length (hM C cd T (rm, rn) P K (s.2) mb (ct, od, ln, rw') (pl, pv, pc, wt, cds, th, is, tc, bw, td, tn, tcn, lu, du, ku) Z) = n0
  refine b_MO_putPlain_0 ?_
  refine xs_callV rfl lk_12_297 (d' := 1) (c_MO_pad hs (by omega)) (Nat.le_of_ble_eq_true rfl) rfl rfl rfl rfl rfl (Nat.le_of_ble_eq_true rfl) (by omega) (by omega) ?_
  rintro _ H1 ⟨rfl, rm1, hs1, rfl⟩
  refine b_MO_putPlain_2 ?_
  refine xs_callV rfl lk_12_294 (d' := 1) (c_MO_putNumber (s := (s.1, (s.2 + 7) / 8 * 8)) (n := 16) (v := m) (by decide) (by omega) (by omega) hs1 (by dsimp only; omega)) (Nat.le_of_ble_eq_true rfl) rfl rfl rfl rfl rfl (Nat.le_of_ble_eq_true rfl) (by omega) (by omega) ?_
  rintro _ H1 ⟨rfl, rm2, hs2, rfl⟩
  refine b_MO_putPlain_6 ?_
  rw [show (65535 : Int32) - nI m = nI (65535 - m) by rw [show (65535 : Int32) = nI 65535 from rfl, nI_sub (by omega)]]
  refine xs_callV rfl lk_12_294 (d' := 1) (c_MO_putNumber (s := bput (s.1, (s.2 + 7) / 8 * 8) m 16) (n := 16) (v := 65535 - m) (by decide) (by omega) (by omega) hs2 (by show (s.2 + 7) / 8 * 8 + 16 + 16 ≤ _; omega)) (Nat.le_of_ble_eq_true rfl) rfl rfl rfl rfl rfl (Nat.le_of_ble_eq_true rfl) (by omega) (by omega) ?_
  rintro _ H1 ⟨rfl, rm3, hs3, rfl⟩
  refine b_MO_putPlain_12 ?_
  have h2 : (bput (bput (s.1, (s.2 + 7) / 8 * 8) m 16) (65535 - m) 16).2 = (s.2 + 7) / 8 * 8 + 32 := rfl
  have hF : wpl T.1 p0 m s = wby T.1 p0 (bput (bput (s.1, (s.2 + 7) / 8 * 8) m 16) (65535 - m) 16) m := rfl
  have hH : (bput (s.1, (s.2 + 7) / 8 * 8) m 16).2 + 16 = (bput (bput (s.1, (s.2 + 7) / 8 * 8) m 16) (65535 - m) 16).2 := rfl
  rw [hH]
  generalize wpl T.1 p0 m s = F at hF ⊢
  generalize bput (bput (s.1, (s.2 + 7) / 8 * 8) m 16) (65535 - m) 16 = s3 at hs3 h2 hF ⊢
  have h : ∀ (j i : Nat) (rm : Nat → Nat) (cl : Bool), i + j = m → mbs (wby T.1 p0 s3 i) rm → xW l x 2 0 0 mMO_putPlain n0 (fun r H' => ∃ o, r = Sum.inl o ∧ o = none ∧ ∃ rm', mbs F rm' ∧ H' = hM C cd T (rm', rn) P K (F.2) mb (ct, od, ln, rw') (pl, pv, pc, wt, cds, th, is, tc, bw, td, tn, tcn, lu, du, ku) Z) cl 14 [some (.ref 74), some (.int (nI p0)), some (.int (nI m)), some (.int (nI i))] [] (hM C cd T (rm, rn) P K ((wby T.1 p0 s3 i).2) mb (ct, od, ln, rw') (pl, pv, pc, wt, cds, th, is, tc, bw, td, tn, tcn, lu, du, ku) Z) 0 0 := by
    intro j
    induction j with
    | zero =>
      intro i rm cl hi hs'
      have : i = m := by omega
      subst this
      rw [← hF] at hs' ⊢
      refine b_MO_putPlain_14 ?_
      refine ⟨fun hb => ?_, fun hb => ?_⟩ <;> (try simp (disch := omega) only [nI_lit, nI_fold, nI_mul, nI_add, pk_sub, pk_div, nI_shrN, nI_clamp, nI_leI, nI_ltI, nI_eq, not_true_eq_false, not_false_eq_true, Bool.false_eq_true, if_true, if_false, nI_nem, nI_m1, nI_m7, nI_m15, nI_m32, nI_m4, nI_m8, nI_m16, nI_m2] at hb) <;> (try omega)
      refine ⟨rfl, Nat.le_refl _, _, rfl, ⟨rfl, rm, hs', rfl⟩⟩
    | succ j ih =>
      intro i rm cl hi hs'
      have hb2 := wby_2 T.1 p0 s3 i
      have ht := hT (p0 + i)
      have ih := ih (i + 1)
      rw [show wby T.1 p0 s3 (i + 1) = bput (wby T.1 p0 s3 i) (T.1 (p0 + i)) 8 from rfl] at ih
      generalize wby T.1 p0 s3 i = s4 at hs' hb2 ih ⊢
      refine b_MO_putPlain_14 ?_
      refine ⟨fun hb => ?_, fun hb => ?_⟩ <;> (try simp (disch := omega) only [nI_lit, nI_fold, nI_mul, nI_add, pk_sub, pk_div, nI_shrN, nI_clamp, nI_leI, nI_ltI, nI_eq, not_true_eq_false, not_false_eq_true, Bool.false_eq_true, if_true, if_false, nI_nem, nI_m1, nI_m7, nI_m15, nI_m32, nI_m4, nI_m8, nI_m16, nI_m2] at hb) <;> (try omega)
      rw [nI_add]
      refine ⟨_, ⟨_, rfl, rfl⟩, _, _, rfl, vp_in_nI (by omega) (by decide), ?_⟩
      try dsimp only
      repeat rw [nI_clamp (by omega)]
      rw [show bF T.1 (p0 + i) &&& 255 = nI (T.1 (p0 + i)) from (sb_byte _ ht).1]
      refine xs_callV rfl lk_12_294 (d' := 1) (c_MO_putNumber (s := s4) (n := 8) (v := T.1 (p0 + i)) (by decide) (by omega) ht hs' (by omega)) (Nat.le_of_ble_eq_true rfl) rfl rfl rfl rfl rfl (Nat.le_of_ble_eq_true rfl) (by omega) (by omega) ?_
      rintro _ H1 ⟨rfl, rm4, hs4, rfl⟩
      refine b_MO_putPlain_28 ?_
      rw [nI_1]
      exact ih rm4 false (by omega) hs4
  exact h m 0 rm3 false (by omega) hs3
theorem c_MO_putFour {w : Nat} (hw : w < 2 ^ 32) (hs : mbs s rm) (hn : s.2 + 32 ≤ 524288) : xCr l x 2 0 0 mMO_putFour [.ref 74, .long (lN w)] (hM C cd T (rm, rn) P K (s.2) mb (ct, od, ln, rw') (pl, pv, pc, wt, cds, th, is, tc, bw, td, tn, tcn, lu, du, ku) Z) (fun o H' => o = none ∧ ∃ rm', mbs (bfour s w false 4) rm' ∧ H' = hM C cd T (rm', rn) P K ((bfour s w false 4).2) mb (ct, od, ln, rw') (pl, pv, pc, wt, cds, th, is, tc, bw, td, tn, tcn, lu, du, ku) Z) := by
  refine xCt.of (by decide) rfl ck_MO_putFour (Nat.le_of_ble_eq_true rfl) rfl ?_
  generalize List.length (hM C cd T (rm, rn) P K (s.2) mb (ct, od, ln, rw') (pl, pv, pc, wt, cds, th, is, tc, bw, td, tn, tcn, lu, du, ku) Z) = n0
  refine b_MO_putFour_0 ?_
  have h : ∀ (j i : Nat) (rm : Nat → Nat) (cl : Bool), i + j = 4 → mbs (bfour s w false i) rm → xW l x 2 0 0 mMO_putFour n0 (fun r H' => ∃ o, r = Sum.inl o ∧ o = none ∧ ∃ rm', mbs (bfour s w false 4) rm' ∧ H' = hM C cd T (rm', rn) P K ((bfour s w false 4).2) mb (ct, od, ln, rw') (pl, pv, pc, wt, cds, th, is, tc, bw, td, tn, tcn, lu, du, ku) Z) cl 2 [some (.ref 74), some (.long (lN w)), none, some (.int (nI i))] [] (hM C cd T (rm, rn) P K ((bfour s w false i).2) mb (ct, od, ln, rw') (pl, pv, pc, wt, cds, th, is, tc, bw, td, tn, tcn, lu, du, ku) Z) 0 0 := by
    intro j
    induction j with
    | zero =>
      intro i rm cl hi hs'
      have : i = 4 := by omega
      subst this
      refine b_MO_putFour_2 ?_
      refine ⟨fun hb => ?_, fun hb => ?_⟩ <;> (try simp (disch := omega) only [nI_lit, nI_fold, nI_mul, nI_add, pk_sub, pk_div, nI_shrN, nI_clamp, nI_leI, nI_ltI, nI_eq, not_true_eq_false, not_false_eq_true, Bool.false_eq_true, if_true, if_false, nI_nem, nI_m1, nI_m7, nI_m15, nI_m32, nI_m4, nI_m8, nI_m16, nI_m2] at hb) <;> (try omega)
      refine ⟨rfl, Nat.le_refl _, _, rfl, ⟨rfl, rm, hs', rfl⟩⟩
    | succ j ih =>
      intro i rm cl hi hs'
      have h2 := bfour_2 s w false i
      have ih := ih (i + 1)
      rw [show bfour s w false (i + 1) = bput (bfour s w false i) (w / 2 ^ (8 * i) % 256) 8 from rfl] at ih
      generalize hb4 : bfour s w false i = s4 at hs' h2 ih ⊢
      refine b_MO_putFour_2 ?_
      refine ⟨fun hb => ?_, fun hb => ?_⟩ <;> (try simp (disch := omega) only [nI_lit, nI_fold, nI_mul, nI_add, pk_sub, pk_div, nI_shrN, nI_clamp, nI_leI, nI_ltI, nI_eq, not_true_eq_false, not_false_eq_true, Bool.false_eq_true, if_true, if_false, nI_nem, nI_m1, nI_m7, nI_m15, nI_m32, nI_m4, nI_m8, nI_m16, nI_m2] at hb) <;> (try omega)
      rw [show (8 : Int32) * nI i = nI (8 * i) from nI_mul 8 i, lN_byte hw (by omega)]
      refine xs_callV rfl lk_12_294 (d' := 1) (c_MO_putNumber (s := s4) (n := 8) (v := w / 2 ^ (8 * i) % 256) (by decide) (by omega) (Nat.mod_lt _ (by decide)) hs' (by omega)) (Nat.le_of_ble_eq_true rfl) rfl rfl rfl rfl rfl (Nat.le_of_ble_eq_true rfl) (by omega) (by omega) ?_
      rintro _ H1 ⟨rfl, rm4, hs4, rfl⟩
      refine b_MO_putFour_16 ?_
      rw [nI_1]
      exact ih rm4 false (by omega) hs4
  exact h 4 0 rm true rfl hs
end MPut
