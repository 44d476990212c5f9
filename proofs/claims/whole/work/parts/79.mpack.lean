/-! the model packs -/
section MPack
variable {l : Launch} {x : xX} {d : Nat} {C : Nat → va_E} {cd : Int32} {T : wRow} {rm : Nat → Nat} {rn : Nat} {P : wRp} {K : wK4} {mb : Nat} {ct od ln rw' : wF} {Z : xH} {pl pv : wF} {pc : Nat} {wt : Nat → Int64} {cds : wF} {th : Nat → Int64} {is tc bw td tn : wF} {tcn lu du ku : Nat} {s : Nat × Nat}
theorem c_MO_putPlanned (hT : ∀ i, T.1 i < 256) {p0 : Nat} (hnp : 1 ≤ npc T.1 T.2 p0) (hpc : pc = npc T.1 T.2 p0) (hP : MPa T.1 T.2 p0 pc pl pv) (hm : MPl T.1 T.2 p0 ln td tn tcn lu du ku) (hl1 : ∀ i, i < 288 → ln i = nI (mkL T.1 T.2 p0 i)) (hl2 : ∀ j, j < 32 → ln (400 + j) = nI (mkD T.1 T.2 p0 j)) (hs : mbs s rm) (hn : s.2 + mbt T.1 T.2 p0 + (mkL T.1 T.2 p0 256 + pbs T.1 T.2 p0 (mkL T.1 T.2 p0) (mkD T.1 T.2 p0) pc) ≤ 524288) : xCr l x 3 0 0 mMO_putPlanned [.ref 74] (hM C cd T (rm, rn) P K (s.2) mb (ct, od, ln, rw') (pl, pv, pc, wt, cds, th, is, tc, bw, td, tn, tcn, lu, du, ku) Z) (fun o H' => o = none ∧ ∃ rm' cds', mbs (wpa T.1 T.2 p0 (mkL T.1 T.2 p0) (mkD T.1 T.2 p0) 286 30 (wtg T.1 T.2 p0 s)) rm' ∧ H' = hM C cd T (rm', rn) P K ((wpa T.1 T.2 p0 (mkL T.1 T.2 p0) (mkD T.1 T.2 p0) 286 30 (wtg T.1 T.2 p0 s)).2) mb (ct, od, ln, rw') (pl, pv, pc, wt, cds', th, is, tc, bw, td, tn, tcn, lu, du, ku) Z) := by
  obtain ⟨n1, n2, n3, n4⟩ := nLt_ok hT hnp
  obtain ⟨m1, m2⟩ := mtl_ok hT hnp
  obtain ⟨e1, e2, e3, e4, e5, e6, e7, e8⟩ := hm
  have hk4 : 4 ≤ ku ∧ ku ≤ 19 := by rw [e8]; exact ⟨(kdc_ok _ 19).2 (by decide), (kdc_ok _ 19).1⟩
  have hmb : mbt T.1 T.2 p0 = 14 + 3 * ku + tbt (mtl T.1 T.2 p0) (mkK T.1 T.2 p0) tcn := by rw [e8, e5]; rfl
  have hwg : wtg T.1 T.2 p0 s = wtl (mkK T.1 T.2 p0) (mtl T.1 T.2 p0) (wks (mkK T.1 T.2 p0) (bput (bput (bput s (lu - 257) 5) (du - 1) 5) (ku - 4) 4) ku) tcn := by rw [e5, e6, e7, e8]; rfl
  have hwg2 := wtg_2 T.1 T.2 p0 s
  have hF := wpa_ext (t := T.1) (n := T.2) (p0 := p0) (gL := mkL T.1 T.2 p0) (gD := mkD T.1 T.2 p0) (NL := 286) (j := 2) (ND := 30) (k := 2) (fun i h1 _ => lbw_out (by decide) (by decide) h1) (fun i h1 _ => lbw_out (by decide) (by decide) h1) (wtg T.1 T.2 p0 s)
  rw [show (286 : Nat) + 2 = 288 from rfl, show (30 : Nat) + 2 = 32 from rfl] at hF
  rw [← e5] at m2
  rw [← e6] at n1 n2
  rw [← e7] at n3 n4
  have hK7 : ∀ i, mkK T.1 T.2 p0 i ≤ 7 := fun i => (mk_le T.1 T.2 p0 i).2.2
  have hcall := fun (rm : Nat → Nat) (cds : wF) (hs : mbs (wtg T.1 T.2 p0 s) rm) => c_MO_putPieces (l := l) (x := x) (C := C) (cd := cd) (rn := rn) (P := P) (K := K) (mb := mb) (ct := ct) (od := od) (rw' := rw') (Z := Z) (wt := wt) (cds := cds) (th := th) (is := is) (tc := tc) (bw := bw) (td := td) (tn := tn) (tcn := tcn) (lu := lu) (du := du) (ku := ku) (rm := rm) (s := wtg T.1 T.2 p0 s) hT hpc hP hl1 hl2 (fun i => (mk_le T.1 T.2 p0 i).1) (fun i => (mk_le T.1 T.2 p0 i).2.1) hs (by omega)
  rw [hF] at hcall
  clear hF
  generalize wpa T.1 T.2 p0 (mkL T.1 T.2 p0) (mkD T.1 T.2 p0) 286 30 (wtg T.1 T.2 p0 s) = F at hcall ⊢
  generalize wtg T.1 T.2 p0 s = s9 at hwg hwg2 hcall
  generalize mbt T.1 T.2 p0 = nB at *
  generalize mtl T.1 T.2 p0 = q at *
  generalize mkK T.1 T.2 p0 = gK at *
  clear e1 e2 e6 e7 e8
  refine xCt.of (by decide) rfl ck_MO_putPlanned (Nat.le_of_ble_eq_true rfl) rfl ?_
  generalize List.length (hM C cd T (rm, rn) P K (s.2) mb (ct, od, ln, rw') (pl, pv, pc, wt, cds, th, is, tc, bw, td, tn, tcn, lu, du, ku) Z) = n0
  refine b_MO_putPlanned_0 ?_
  refine xs_callV rfl lk_12_288 (d' := 0) (c_MO_makeCodes (g := gK) (fm := 500) (n := 19) (by decide) (by decide) e3 (fun k => by have := hK7 k; omega)) (Nat.le_of_ble_eq_true rfl) rfl rfl rfl rfl rfl (Nat.le_of_ble_eq_true rfl) (by omega) (by omega) ?_
  rintro _ H1 ⟨rfl, cds1, hc1, hf1, rfl⟩
  refine b_MO_putPlanned_4 ⟨_, ⟨_, rfl, rfl⟩, ?_⟩
  rw [show nI lu - 257 = nI (lu - 257) by rw [show (257 : Int32) = nI 257 from rfl, nI_sub (by omega)]]
  refine xs_callV rfl lk_12_294 (d' := 1) (c_MO_putNumber (s := s) (n := 5) (v := lu - 257) (by decide) (by omega) (by omega) hs (by omega)) (Nat.le_of_ble_eq_true rfl) rfl rfl rfl rfl rfl (Nat.le_of_ble_eq_true rfl) (by omega) (by omega) ?_
  rintro _ H1 ⟨rfl, rm1, hs1, rfl⟩
  refine b_MO_putPlanned_11 ⟨_, ⟨_, rfl, rfl⟩, ?_⟩
  rw [show nI du - 1 = nI (du - 1) by rw [show (1 : Int32) = nI 1 from rfl, nI_sub (by omega)]]
  refine xs_callV rfl lk_12_294 (d' := 1) (c_MO_putNumber (s := bput s (lu - 257) 5) (n := 5) (v := du - 1) (by decide) (by omega) (by omega) hs1 (by show s.2 + 5 + 5 ≤ _; omega)) (Nat.le_of_ble_eq_true rfl) rfl rfl rfl rfl rfl (Nat.le_of_ble_eq_true rfl) (by omega) (by omega) ?_
  rintro _ H1 ⟨rfl, rm2, hs2, rfl⟩
  refine b_MO_putPlanned_18 ⟨_, ⟨_, rfl, rfl⟩, ?_⟩
  rw [show nI ku - 4 = nI (ku - 4) by rw [show (4 : Int32) = nI 4 from rfl, nI_sub (by omega)]]
  refine xs_callV rfl lk_12_294 (d' := 1) (c_MO_putNumber (s := bput (bput s (lu - 257) 5) (du - 1) 5) (n := 4) (v := ku - 4) (by decide) (by omega) (by omega) hs2 (by show s.2 + 5 + 5 + 4 ≤ _; omega)) (Nat.le_of_ble_eq_true rfl) rfl rfl rfl rfl rfl (Nat.le_of_ble_eq_true rfl) (by omega) (by omega) ?_
  rintro _ H1 ⟨rfl, rm3, hs3, rfl⟩
  have h2 : (bput (bput (bput s (lu - 257) 5) (du - 1) 5) (ku - 4) 4).2 = s.2 + 14 := rfl
  rw [show (bput (bput s (lu - 257) 5) (du - 1) 5).2 + 4 = (bput (bput (bput s (lu - 257) 5) (du - 1) 5) (ku - 4) 4).2 from rfl]
  generalize bput (bput (bput s (lu - 257) 5) (du - 1) 5) (ku - 4) 4 = s3 at hwg hs3 h2 ⊢
  refine b_MO_putPlanned_25 ?_
  have k45 : ∀ (j i : Nat) (rm : Nat → Nat) (cl : Bool), i + j = tcn → mbs (wtl gK q (wks gK s3 ku) i) rm → xW l x 3 0 0 mMO_putPlanned n0 (fun r H' => ∃ o, r = Sum.inl o ∧ o = none ∧ ∃ rm' cds', mbs F rm' ∧ H' = hM C cd T (rm', rn) P K (F.2) mb (ct, od, ln, rw') (pl, pv, pc, wt, cds', th, is, tc, bw, td, tn, tcn, lu, du, ku) Z) cl 45 [some (.ref 74), some (.int (nI i))] [] (hM C cd T (rm, rn) P K ((wtl gK q (wks gK s3 ku) i).2) mb (ct, od, ln, rw') (pl, pv, pc, wt, cds1, th, is, tc, bw, td, tn, tcn, lu, du, ku) Z) 0 0 := by
    intro j
    induction j with
    | zero =>
      intro i rm cl hi hs'
      have : i = tcn := by omega
      subst this
      rw [← hwg] at hs' ⊢
      refine b_MO_putPlanned_45 ⟨_, ⟨_, rfl, rfl⟩, ?_⟩
      refine ⟨fun hb => ?_, fun hb => ?_⟩ <;> (try simp (disch := omega) only [nI_lit, nI_fold, nI_mul, nI_add, pk_sub, pk_div, nI_shrN, nI_clamp, nI_leI, nI_ltI, nI_eq, not_true_eq_false, not_false_eq_true, Bool.false_eq_true, if_true, if_false, nI_nem, nI_m1, nI_m7, nI_m15, nI_m32, nI_m4, nI_m8, nI_m16, nI_m2] at hb) <;> (try omega)
      refine xs_callV rfl lk_12_300 (d' := 2) (hcall rm cds1 hs') (Nat.le_of_ble_eq_true rfl) rfl rfl rfl rfl rfl (Nat.le_of_ble_eq_true rfl) (by omega) (by omega) ?_
      rintro _ H1 ⟨rfl, rm', cds2, hs2, rfl⟩
      refine b_MO_putPlanned_72 ?_
      refine ⟨rfl, Nat.le_refl _, _, rfl, ⟨rfl, rm', cds2, hs2, rfl⟩⟩
    | succ j ih =>
      intro i rm cl hi hs'
      obtain ⟨y1, y4⟩ := e4 i (by omega)
      obtain ⟨y2, y3⟩ := m1 i (by omega)
      have hb2 := wtl_2 gK q (wks gK s3 ku) i
      have hks := wks_2 gK s3 ku
      have hmono := tbt_mono q gK (i + 1) j
      rw [show i + 1 + j = tcn by omega] at hmono
      have hstep : tbt q gK (i + 1) = tbt q gK i + (gK (q.2.1 i) + tbs (q.2.1 i)) := rfl
      have hnum := tbs_num y2 y3
      have hk := hK7 (q.2.1 i)
      have hcb : cde gK 19 (q.2.1 i) < 2 ^ 31 := by
        have a := fstc_lt (g := gK) (N := 19) (l := gK (q.2.1 i)) (by decide) (by omega)
        have b := cnt_le gK (q.2.1 i) (gK (q.2.1 i))
        unfold cde
        omega
      have ih := ih (i + 1)
      rw [show wtl gK q (wks gK s3 ku) (i + 1) = bput (bput (wtl gK q (wks gK s3 ku) i) (rev (cde gK 19 (q.2.1 i)) (gK (q.2.1 i))) (gK (q.2.1 i))) (q.2.2 i) (tbs (q.2.1 i)) from rfl] at ih
      clear hwg
      generalize wtl gK q (wks gK s3 ku) i = s4 at hs' hb2 ih ⊢
      refine b_MO_putPlanned_45 ⟨_, ⟨_, rfl, rfl⟩, ?_⟩
      refine ⟨fun hb => ?_, fun hb => ?_⟩ <;> (try simp (disch := omega) only [nI_lit, nI_fold, nI_mul, nI_add, pk_sub, pk_div, nI_shrN, nI_clamp, nI_leI, nI_ltI, nI_eq, not_true_eq_false, not_false_eq_true, Bool.false_eq_true, if_true, if_false, nI_nem, nI_m1, nI_m7, nI_m15, nI_m32, nI_m4, nI_m8, nI_m16, nI_m2] at hb) <;> (try omega)
      refine ⟨_, ⟨_, rfl, rfl⟩, _, _, rfl, vp_in_nI (by omega) (by decide), ?_⟩
      try dsimp only
      repeat rw [nI_clamp (by omega)]
      rw [y1, show (500 : Int32) + nI (q.2.1 i) = nI (500 + q.2.1 i) from nI_add 500 _]
      refine xs_callV rfl lk_12_291 (d' := 1) (c_MO_putCode (s := s4) (i := 500 + q.2.1 i) (n := gK (q.2.1 i)) (c := cde gK 19 (q.2.1 i)) (by omega) (by omega) hcb (e3 _ y2) (hc1 _ y2) hs' (by omega)) (Nat.le_of_ble_eq_true rfl) rfl rfl rfl rfl rfl (Nat.le_of_ble_eq_true rfl) (by omega) (by omega) ?_
      rintro _ H1 ⟨rfl, rm4, hs4, rfl⟩
      refine b_MO_putPlanned_57 ⟨_, ⟨_, rfl, rfl⟩, _, _, rfl, vp_in_nI (by omega) (by decide), ?_⟩
      try dsimp only
      repeat rw [nI_clamp (by omega)]
      rw [y1]
      refine xs_callS rfl lk_12_282 (d' := 0) (c_MO_toldBits y2) (Nat.le_of_ble_eq_true rfl) rfl rfl (Nat.le_of_ble_eq_true rfl) (by omega) (by omega) ?_
      rintro _ H1 ⟨rfl, rfl⟩
      refine b_MO_putPlanned_63 ⟨_, ⟨_, rfl, rfl⟩, _, _, rfl, vp_in_nI (by omega) (by decide), ?_⟩
      try dsimp only
      repeat rw [nI_clamp (by omega)]
      rw [y4]
      refine xs_callV rfl lk_12_294 (d' := 1) (c_MO_putNumber (s := bput s4 (rev (cde gK 19 (q.2.1 i)) (gK (q.2.1 i))) (gK (q.2.1 i))) (n := tbs (q.2.1 i)) (v := q.2.2 i) (by omega) (by omega) hnum.1 hs4 (by show s4.2 + gK (q.2.1 i) + tbs (q.2.1 i) ≤ _; omega)) (Nat.le_of_ble_eq_true rfl) rfl rfl rfl rfl rfl (Nat.le_of_ble_eq_true rfl) (by omega) (by omega) ?_
      rintro _ H1 ⟨rfl, rm5, hs5, rfl⟩
      refine b_MO_putPlanned_68 ?_
      rw [nI_1]
      exact ih rm5 false (by omega) hs5
  have k27 : ∀ (j i : Nat) (rm : Nat → Nat) (cl : Bool), i + j = ku → mbs (wks gK s3 i) rm → xW l x 3 0 0 mMO_putPlanned n0 (fun r H' => ∃ o, r = Sum.inl o ∧ o = none ∧ ∃ rm' cds', mbs F rm' ∧ H' = hM C cd T (rm', rn) P K (F.2) mb (ct, od, ln, rw') (pl, pv, pc, wt, cds', th, is, tc, bw, td, tn, tcn, lu, du, ku) Z) cl 27 [some (.ref 74), some (.int (nI i))] [] (hM C cd T (rm, rn) P K ((wks gK s3 i).2) mb (ct, od, ln, rw') (pl, pv, pc, wt, cds1, th, is, tc, bw, td, tn, tcn, lu, du, ku) Z) 0 0 := by
    intro j
    induction j with
    | zero =>
      intro i rm cl hi hs'
      have : i = ku := by omega
      subst this
      refine b_MO_putPlanned_27 ⟨_, ⟨_, rfl, rfl⟩, ?_⟩
      refine ⟨fun hb => ?_, fun hb => ?_⟩ <;> (try simp (disch := omega) only [nI_lit, nI_fold, nI_mul, nI_add, pk_sub, pk_div, nI_shrN, nI_clamp, nI_leI, nI_ltI, nI_eq, not_true_eq_false, not_false_eq_true, Bool.false_eq_true, if_true, if_false, nI_nem, nI_m1, nI_m7, nI_m15, nI_m32, nI_m4, nI_m8, nI_m16, nI_m2] at hb) <;> (try omega)
      exact k45 tcn 0 rm cl (by omega) hs'
    | succ j ih =>
      intro i rm cl hi hs'
      obtain ⟨o1, o2⟩ := ord_N i (by omega)
      have hks := wks_2 gK s3 i
      have hk := hK7 (ordN i)
      have ih := ih (i + 1)
      rw [show wks gK s3 (i + 1) = bput (wks gK s3 i) (gK (ordN i)) 3 from rfl] at ih
      generalize wks gK s3 i = s4 at hs' hks ih ⊢
      refine b_MO_putPlanned_27 ⟨_, ⟨_, rfl, rfl⟩, ?_⟩
      refine ⟨fun hb => ?_, fun hb => ?_⟩ <;> (try simp (disch := omega) only [nI_lit, nI_fold, nI_mul, nI_add, pk_sub, pk_div, nI_shrN, nI_clamp, nI_leI, nI_ltI, nI_eq, not_true_eq_false, not_false_eq_true, Bool.false_eq_true, if_true, if_false, nI_nem, nI_m1, nI_m7, nI_m15, nI_m32, nI_m4, nI_m8, nI_m16, nI_m2] at hb) <;> (try omega)
      refine ⟨_, ⟨_, rfl, rfl⟩, ?_⟩
      refine xs_callS rfl lk_12_136 (d' := 0) (c_MO_orderOf (show i < 19 by omega)) (Nat.le_of_ble_eq_true rfl) rfl rfl (Nat.le_of_ble_eq_true rfl) (by omega) (by omega) ?_
      rintro _ H1 ⟨rfl, rfl⟩
      refine b_MO_putPlanned_38 ?_
      rw [show (500 : Int32) + nI (ordN i) = nI (500 + ordN i) from nI_add 500 _]
      refine ⟨_, _, rfl, vp_in_nI (by omega) (by decide), ?_⟩
      try dsimp only
      repeat rw [nI_clamp (by omega)]
      rw [e3 _ o2]
      refine xs_callV rfl lk_12_294 (d' := 1) (c_MO_putNumber (s := s4) (n := 3) (v := gK (ordN i)) (by decide) (by omega) (by omega) hs' (by omega)) (Nat.le_of_ble_eq_true rfl) rfl rfl rfl rfl rfl (Nat.le_of_ble_eq_true rfl) (by omega) (by omega) ?_
      rintro _ H1 ⟨rfl, rm4, hs4, rfl⟩
      refine b_MO_putPlanned_41 ?_
      rw [nI_1]
      exact ih rm4 false (by omega) hs4
  exact k27 ku 0 rm3 false (by omega) hs3
/-- the model's rows for packing -/
def MBp (t : Nat → Nat) (n p0 c : Nat) (B : wMB) : Prop := B.2.2.1 = c ∧ MPa t n p0 c B.1 B.2.1
theorem c_MO_putBlock (hT : ∀ i, T.1 i < 256) (hn : T.2 ≤ 32768) {p0 : Nat} (hp0 : p0 ≤ T.2) {A : wK4} {B : wMB} (hB : MBp T.1 T.2 p0 (npc T.1 T.2 p0) B) (hs : mbs s rm) {P1 P2 : Int32} {bl st : Nat} {td : Nat → Nat} (hbl : bl < 2 ^ 20) (hroom : s.2 + plB s.2 (pend T.1 T.2 p0 - p0) + 8 ≤ 524288) : xCr l x 4 0 0 mMO_putBlock [.ref 74, .int (nI p0), .int (nI (pend T.1 T.2 p0 - p0)), .int (if pend T.1 T.2 p0 < T.2 then 0 else 1)] (hM C cd T (rm, rn) (P1, P2, bl, st) (K4 td) s.2 mb A B Z) (fun o H' => o = none ∧ ∃ rm' A' B', mbs (wbk T.1 T.2 p0 s) rm' ∧ H' = hM C cd T (rm', rn) (P1, P2, bl + 1, st) (K4 (noteT td bl (knd T.1 T.2 p0 s.2) s.2 ((wbk T.1 T.2 p0 s).2 - s.2) (pend T.1 T.2 p0 - p0))) (wbk T.1 T.2 p0 s).2 mb A' B' Z) := by
  have hpe := pend_ok (t := T.1) hp0
  have hnb := (npc_ok T.1 T.2 p0).1
  obtain ⟨b1, b2⟩ := wbk_2 T.1 T.2 p0 s
  obtain ⟨kd1, kd2⟩ := knd_2 (t := T.1) (n := T.2) (p0 := p0) (a := s.2)
  have hwb : wbk T.1 T.2 p0 s = if knd T.1 T.2 p0 s.2 = 0 then wpl T.1 p0 (pend T.1 T.2 p0 - p0) (bput (bput s (if pend T.1 T.2 p0 < T.2 then 0 else 1) 1) 0 2) else if knd T.1 T.2 p0 s.2 = 1 then wpa T.1 T.2 p0 flen (fun _ => 5) 288 32 (bput (bput s (if pend T.1 T.2 p0 < T.2 then 0 else 1) 1) 1 2) else wpa T.1 T.2 p0 (mkL T.1 T.2 p0) (mkD T.1 T.2 p0) 286 30 (wtg T.1 T.2 p0 (bput (bput s (if pend T.1 T.2 p0 < T.2 then 0 else 1) 1) 2 2)) := rfl
  have hkd : knd T.1 T.2 p0 s.2 = if fxB T.1 T.2 p0 < plB s.2 (pend T.1 T.2 p0 - p0) then (if 0 < npc T.1 T.2 p0 ∧ mdB T.1 T.2 p0 < fxB T.1 T.2 p0 then 2 else 1) else (if 0 < npc T.1 T.2 p0 ∧ mdB T.1 T.2 p0 < plB s.2 (pend T.1 T.2 p0 - p0) then 2 else 0) := rfl
  have hpl : plB s.2 (pend T.1 T.2 p0 - p0) = (s.2 + 3 + 7) / 8 * 8 - s.2 + 32 + 8 * (pend T.1 T.2 p0 - p0) := rfl
  have hfB : fxB T.1 T.2 p0 = 3 + (flen 256 + pbs T.1 T.2 p0 flen (fun _ => 5) (npc T.1 T.2 p0)) := rfl
  have hmB : mdB T.1 T.2 p0 = 3 + mbt T.1 T.2 p0 + (mkL T.1 T.2 p0 256 + pbs T.1 T.2 p0 (mkL T.1 T.2 p0) (mkD T.1 T.2 p0) (npc T.1 T.2 p0)) := rfl
  have hfb2 := pbs_le (t := T.1) (n := T.2) (p0 := p0) (gL := flen) (gD := fun _ => 5) flen_le (fun _ => by decide) (npc T.1 T.2 p0)
  have hfl := flen_le 256
  have hmb2 := pbs_le (t := T.1) (n := T.2) (p0 := p0) (gL := mkL T.1 T.2 p0) (gD := mkD T.1 T.2 p0) (fun i => (mk_le T.1 T.2 p0 i).1) (fun i => (mk_le T.1 T.2 p0 i).2.1) (npc T.1 T.2 p0)
  have hml := (mk_le T.1 T.2 p0 256).1
  have hmt : 1 ≤ npc T.1 T.2 p0 → mbt T.1 T.2 p0 ≤ 14 + 57 + 14 * 316 := by
    intro hnp
    obtain ⟨m1, m2⟩ := mtl_ok hT hnp
    have htb : ∀ c, tbt (mtl T.1 T.2 p0) (mkK T.1 T.2 p0) c ≤ 14 * c := by
      intro c
      induction c with
      | zero => exact Nat.le_refl _
      | succ c ih =>
        have a1 := (mk_le T.1 T.2 p0 ((mtl T.1 T.2 p0).2.1 c)).2.2
        have a2 : tbs ((mtl T.1 T.2 p0).2.1 c) ≤ 7 := by unfold tbs; split; decide; split; decide; split <;> decide
        show tbt (mtl T.1 T.2 p0) (mkK T.1 T.2 p0) c + (_ + _) ≤ _
        omega
    have a1 := htb (mtl T.1 T.2 p0).1
    have a2 := (kdc_ok (mkK T.1 T.2 p0) 19).1
    show 14 + 3 * kdc (mkK T.1 T.2 p0) 19 + tbt (mtl T.1 T.2 p0) (mkK T.1 T.2 p0) (mtl T.1 T.2 p0).1 ≤ _
    omega
  have hlast : ∃ lastN, lastN = (if pend T.1 T.2 p0 < T.2 then 0 else 1) ∧ lastN < 2 ∧ (if pend T.1 T.2 p0 < T.2 then (0 : Int32) else 1) = nI lastN := ⟨_, rfl, by split <;> decide, by split <;> rfl⟩
  obtain ⟨lastN, hl0, hl1, hl2⟩ := hlast
  rw [← hl0] at hwb
  rw [hl2]
  generalize hF : wbk T.1 T.2 p0 s = F at hwb b1 b2 ⊢
  generalize hkk : knd T.1 T.2 p0 s.2 = kd at *
  generalize hpb : plB s.2 (pend T.1 T.2 p0 - p0) = pB at *
  generalize hfb : fxB T.1 T.2 p0 = fB at *
  generalize hm0 : pend T.1 T.2 p0 - p0 = m at *
  obtain ⟨ct, od, ln, rw'⟩ := A
  obtain ⟨pl, pv, pc, wt, cds, th, is, tc, bw, tdd, tnn, tcn, lu, du, ku⟩ := B
  obtain ⟨hpc, hP⟩ := hB
  dsimp only at hpc hP
  rw [← hpc] at hP
  refine xCt.of (by decide) rfl ck_MO_putBlock (Nat.le_of_ble_eq_true rfl) rfl ?_
  generalize List.length (hM C cd T (rm, rn) (P1, P2, bl, st) (K4 td) s.2 mb (ct, od, ln, rw') (pl, pv, pc, wt, cds, th, is, tc, bw, tdd, tnn, tcn, lu, du, ku) Z) = n0
  have k102 : ∀ (rm : Nat → Nat) (A : wK4) (B : wMB) (v5 v6 v8 : Int32) (cl : Bool), mbs F rm → xW l x 4 0 0 mMO_putBlock n0 (fun r H' => ∃ o, r = Sum.inl o ∧ o = none ∧ ∃ rm' A' B', mbs F rm' ∧ H' = hM C cd T (rm', rn) (P1, P2, bl + 1, st) (K4 (noteT td bl kd s.2 (F.2 - s.2) m)) F.2 mb A' B' Z) cl 102 [some (.ref 74), some (.int (nI p0)), some (.int (nI m)), some (.int (nI lastN)), some (.int (nI s.2)), some (.int v5), some (.int v6), some (.int (nI kd)), some (.int v8), none] [] (hM C cd T (rm, rn) (P1, P2, bl, st) (K4 td) F.2 mb A B Z) 0 0 := by
    intro rm A B v5 v6 v8 cl hs'
    refine b_MO_putBlock_102 ⟨_, ⟨_, rfl, rfl⟩, ?_⟩
    rw [nI_sub (a := F.2) (b := s.2) (by omega)]
    refine xs_callV rfl lk_12_186 (d' := 0) (c_MO_note (td := td) (k := kd) (f := s.2) (b := F.2 - s.2) (y := m) hbl) (Nat.le_of_ble_eq_true rfl) rfl rfl rfl rfl rfl (Nat.le_of_ble_eq_true rfl) (by omega) (by omega) ?_
    rintro _ H1 ⟨rfl, rfl⟩
    refine b_MO_putBlock_111 ?_
    refine ⟨rfl, Nat.le_refl _, _, rfl, ⟨rfl, rm, A, B, hs', rfl⟩⟩
  have k56 : ∀ (ln rw' : wF) (wt : Nat → Int64) (th : Nat → Int64) (is tc bw tdd tnn : wF) (tcn lu du ku : Nat) (v5 v6 v8 : Int32) (cl : Bool), (kd = 2 → 1 ≤ npc T.1 T.2 p0 ∧ MPl T.1 T.2 p0 ln tdd tnn tcn lu du ku) → xW l x 4 0 0 mMO_putBlock n0 (fun r H' => ∃ o, r = Sum.inl o ∧ o = none ∧ ∃ rm' A' B', mbs F rm' ∧ H' = hM C cd T (rm', rn) (P1, P2, bl + 1, st) (K4 (noteT td bl kd s.2 (F.2 - s.2) m)) F.2 mb A' B' Z) cl 56 [some (.ref 74), some (.int (nI p0)), some (.int (nI m)), some (.int (nI lastN)), some (.int (nI s.2)), some (.int v5), some (.int v6), some (.int (nI kd)), some (.int v8), none] [.int (nI lastN), .ref 74] (hM C cd T (rm, rn) (P1, P2, bl, st) (K4 td) s.2 mb (ct, od, ln, rw') (pl, pv, pc, wt, cds, th, is, tc, bw, tdd, tnn, tcn, lu, du, ku) Z) 0 0 := by
    intro ln rw' wt th is tc bw tdd tnn tcn lu du ku v5 v6 v8 cl hmp
    refine xs_callV rfl lk_12_231 (d' := 0) (c_MO_putBit (s := s) hl1 hs (by omega)) (Nat.le_of_ble_eq_true rfl) rfl rfl rfl rfl rfl (Nat.le_of_ble_eq_true rfl) (by omega) (by omega) ?_
    rintro _ H1 ⟨rfl, rm1, hs1, rfl⟩
    refine b_MO_putBlock_57 ?_
    refine xs_callV rfl lk_12_294 (d' := 1) (c_MO_putNumber (s := bput s lastN 1) (n := 2) (v := kd) (by decide) (by omega) (by omega) hs1 (by show s.2 + 1 + 2 ≤ _; omega)) (Nat.le_of_ble_eq_true rfl) rfl rfl rfl rfl rfl (Nat.le_of_ble_eq_true rfl) (by omega) (by omega) ?_
    rintro _ H1 ⟨rfl, rm2, hs2, rfl⟩
    have h2 : (bput (bput s lastN 1) kd 2).2 = s.2 + 3 := rfl
    rw [show (bput s lastN 1).2 + 2 = (bput (bput s lastN 1) kd 2).2 from rfl]
    refine b_MO_putBlock_61 ?_
    refine ⟨fun hb => ?_, fun hb => ?_⟩ <;> (try simp (disch := omega) only [nI_lit, nI_fold, nI_mul, nI_add, pk_sub, pk_div, nI_shrN, nI_clamp, nI_leI, nI_ltI, nI_eq, not_true_eq_false, not_false_eq_true, Bool.false_eq_true, if_true, if_false, nI_nem, nI_m1, nI_m7, nI_m15, nI_m32, nI_m4, nI_m8, nI_m16, nI_m2] at hb) <;> (try omega)
    case refine_2 =>
      subst hb
      rw [if_pos rfl] at hwb
      generalize bput (bput s lastN 1) 0 2 = s3 at hwb hs2 h2 ⊢
      have hw2 := wpl_2 T.1 p0 m s3
      rw [← hwb] at hw2
      refine xs_callV rfl lk_12_306 (d' := 2) (c_MO_putPlain (s := s3) (rm := rm2) (p0 := p0) (m := m) hT (by omega) hs2 (by omega)) (Nat.le_of_ble_eq_true rfl) rfl rfl rfl rfl rfl (Nat.le_of_ble_eq_true rfl) (by omega) (by omega) ?_
      rw [← hwb]
      rintro _ H1 ⟨rfl, rm3, hs3, rfl⟩
      refine b_MO_putBlock_67 ?_
      exact k102 rm3 _ _ _ _ _ _ hs3
    rw [if_neg hb] at hwb
    refine ⟨fun hc => ?_, fun hc => ?_⟩ <;> (try simp (disch := omega) only [nI_lit, nI_fold, nI_mul, nI_add, pk_sub, pk_div, nI_shrN, nI_clamp, nI_leI, nI_ltI, nI_eq, not_true_eq_false, not_false_eq_true, Bool.false_eq_true, if_true, if_false, nI_nem, nI_m1, nI_m7, nI_m15, nI_m32, nI_m4, nI_m8, nI_m16, nI_m2] at hc) <;> (try omega)
    case refine_2 =>
      subst hc
      rw [if_pos rfl] at hwb
      generalize bput (bput s lastN 1) 1 2 = s3 at hwb hs2 h2 ⊢
      have hw2 : F.2 = s3.2 + pbs T.1 T.2 p0 flen (fun _ => 5) (npc T.1 T.2 p0) + flen 256 := by
        rw [hwb]
        show (wps T.1 T.2 p0 flen (fun _ => 5) 288 32 s3 (npc T.1 T.2 p0)).2 + flen 256 = _
        rw [wps_2]
      rw [← hpc] at hw2
      refine xs_callV rfl lk_12_177 (d' := 0) (c_MO_plainLengths (ct := ct) (od := od) (ln := ln) (rw' := rw')) (Nat.le_of_ble_eq_true rfl) rfl rfl rfl rfl rfl (Nat.le_of_ble_eq_true rfl) (by omega) (by omega) ?_
      rintro _ H1 ⟨rfl, ln', g1, g2, g3, rfl⟩
      refine b_MO_putBlock_73 ?_
      refine xs_callV rfl lk_12_300 (d' := 2) (c_MO_putPieces (s := s3) (rm := rm2) (p0 := p0) (gL := flen) (gD := fun _ => 5) hT hpc hP g1 g2 (fun i => flen_le i) (fun _ => by decide) hs2 (by omega)) (Nat.le_of_ble_eq_true rfl) rfl rfl rfl rfl rfl (Nat.le_of_ble_eq_true rfl) (by omega) (by omega) ?_
      rw [← hwb]
      rintro _ H1 ⟨rfl, rm3, cds3, hs3, rfl⟩
      refine b_MO_putBlock_75 ?_
      exact k102 rm3 _ _ _ _ _ _ hs3
    rw [if_neg hc] at hwb
    have : kd = 2 := by omega
    subst this
    obtain ⟨hnp, hmc⟩ := hmp rfl
    generalize bput (bput s lastN 1) 2 2 = s3 at hwb hs2 h2 ⊢
    have ht2 := wtg_2 T.1 T.2 p0 s3
    have hw2 : F.2 = (wtg T.1 T.2 p0 s3).2 + pbs T.1 T.2 p0 (mkL T.1 T.2 p0) (mkD T.1 T.2 p0) (npc T.1 T.2 p0) + mkL T.1 T.2 p0 256 := by
      rw [hwb]
      show (wps T.1 T.2 p0 (mkL T.1 T.2 p0) (mkD T.1 T.2 p0) 286 30 (wtg T.1 T.2 p0 s3) (npc T.1 T.2 p0)).2 + mkL T.1 T.2 p0 256 = _
      rw [wps_2]
    rw [← hpc] at hw2
    obtain ⟨e1, e2, e3, e4, e5, e6, e7, e8⟩ := id hmc
    have z1 : ∀ i, 286 ≤ i → mkL T.1 T.2 p0 i = 0 := fun i h => lbw_out (by decide) (by decide) h
    have z2 : ∀ i, 30 ≤ i → mkD T.1 T.2 p0 i = 0 := fun i h => lbw_out (by decide) (by decide) h
    have k90 : ∀ (ln : wF), MPl T.1 T.2 p0 ln tdd tnn tcn lu du ku → (∀ i, i < 288 → ln i = nI (mkL T.1 T.2 p0 i)) → ∀ (j i : Nat) (ln' : wF) (cl : Bool), i + j = 432 → 430 ≤ i → (∀ t, t < 430 ∨ 432 ≤ t → ln' t = ln t) → (∀ t, 430 ≤ t → t < i → ln' t = nI 0) → xW l x 4 0 0 mMO_putBlock n0 (fun r H' => ∃ o, r = Sum.inl o ∧ o = none ∧ ∃ rm' A' B', mbs F rm' ∧ H' = hM C cd T (rm', rn) (P1, P2, bl + 1, st) (K4 (noteT td bl 2 s.2 (F.2 - s.2) m)) F.2 mb A' B' Z) cl 90 [some (.ref 74), some (.int (nI p0)), some (.int (nI m)), some (.int (nI lastN)), some (.int (nI s.2)), some (.int v5), some (.int v6), some (.int (nI 2)), some (.int v8), some (.int (nI i))] [] (hM C cd T (rm2, rn) (P1, P2, bl, st) (K4 td) s3.2 mb (ct, od, ln', rw') (pl, pv, pc, wt, cds, th, is, tc, bw, tdd, tnn, tcn, lu, du, ku) Z) 0 0 := by
      intro ln hmc hl8 j
      induction j with
      | zero =>
        intro i ln' cl hi h430 h1 h2
        have : i = 432 := by omega
        subst this
        obtain ⟨e1, e2, e3, e4, e5, e6, e7, e8⟩ := hmc
        have hl1' : ∀ i, i < 288 → ln' i = nI (mkL T.1 T.2 p0 i) := fun i hi => by rw [h1 i (by omega)]; exact hl8 i hi
        have hl2' : ∀ j, j < 32 → ln' (400 + j) = nI (mkD T.1 T.2 p0 j) := by
          intro j hj
          by_cases hj30 : j < 30
          · rw [h1 _ (by omega)]; exact e2 j hj30
          · rw [h2 _ (by omega) (by omega), z2 j (by omega)]
        have hmc' : MPl T.1 T.2 p0 ln' tdd tnn tcn lu du ku := ⟨fun i hi => hl1' i (by omega), fun j hj => hl2' j (by omega), fun k hk => by rw [h1 _ (by omega)]; exact e3 k hk, e4, e5, e6, e7, e8⟩
        refine b_MO_putBlock_90 ?_
        refine ⟨fun hb => ?_, fun hb => ?_⟩ <;> (try simp (disch := omega) only [nI_lit, nI_fold, nI_mul, nI_add, pk_sub, pk_div, nI_shrN, nI_clamp, nI_leI, nI_ltI, nI_eq, not_true_eq_false, not_false_eq_true, Bool.false_eq_true, if_true, if_false, nI_nem, nI_m1, nI_m7, nI_m15, nI_m32, nI_m4, nI_m8, nI_m16, nI_m2] at hb) <;> (try omega)
        refine xs_callV rfl lk_12_309 (d' := 3) (c_MO_putPlanned (s := s3) (rm := rm2) (p0 := p0) hT hnp hpc hP hmc' hl1' hl2' hs2 (by omega)) (Nat.le_of_ble_eq_true rfl) rfl rfl rfl rfl rfl (Nat.le_of_ble_eq_true rfl) (by omega) (by omega) ?_
        rw [← hwb]
        rintro _ H1 ⟨rfl, rm3, cds3, hs3, rfl⟩
        refine xW.fgt 9 ?_
        exact k102 rm3 _ _ _ _ _ _ hs3
      | succ j ih =>
        intro i ln' cl hi h430 h1 h2
        refine b_MO_putBlock_90 ?_
        refine ⟨fun hb => ?_, fun hb => ?_⟩ <;> (try simp (disch := omega) only [nI_lit, nI_fold, nI_mul, nI_add, pk_sub, pk_div, nI_shrN, nI_clamp, nI_leI, nI_ltI, nI_eq, not_true_eq_false, not_false_eq_true, Bool.false_eq_true, if_true, if_false, nI_nem, nI_m1, nI_m7, nI_m15, nI_m32, nI_m4, nI_m8, nI_m16, nI_m2] at hb) <;> (try omega)
        refine ⟨_, ⟨_, rfl, rfl⟩, _, _, rfl, Nat.le_of_ble_eq_true rfl, vp_in_nI (by omega) (by decide), fun H4 e4 => ?_⟩
        try dsimp only at e4
        rw [nI_clamp (by omega)] at e4
        subst e4
        rw [nI_1]
        refine ih (i + 1) (upd ln' i 0) false (by omega) (by omega) (fun t ht => ?_) (fun t ht1 ht2 => ?_)
        · unfold upd
          rw [if_neg (by omega)]
          exact h1 t ht
        · unfold upd
          split
          · rfl
          · exact h2 t ht1 (by omega)
    have k78 : ∀ (j i : Nat) (ln' : wF) (cl : Bool), i + j = 288 → 286 ≤ i → (∀ t, t < 286 ∨ 288 ≤ t → ln' t = ln t) → (∀ t, 286 ≤ t → t < i → ln' t = nI 0) → xW l x 4 0 0 mMO_putBlock n0 (fun r H' => ∃ o, r = Sum.inl o ∧ o = none ∧ ∃ rm' A' B', mbs F rm' ∧ H' = hM C cd T (rm', rn) (P1, P2, bl + 1, st) (K4 (noteT td bl 2 s.2 (F.2 - s.2) m)) F.2 mb A' B' Z) cl 78 [some (.ref 74), some (.int (nI p0)), some (.int (nI m)), some (.int (nI lastN)), some (.int (nI s.2)), some (.int v5), some (.int v6), some (.int (nI 2)), some (.int v8), some (.int (nI i))] [] (hM C cd T (rm2, rn) (P1, P2, bl, st) (K4 td) s3.2 mb (ct, od, ln', rw') (pl, pv, pc, wt, cds, th, is, tc, bw, tdd, tnn, tcn, lu, du, ku) Z) 0 0 := by
      intro j
      induction j with
      | zero =>
        intro i ln' cl hi h286 h1 h2
        have : i = 288 := by omega
        subst this
        have hl8 : ∀ i, i < 288 → ln' i = nI (mkL T.1 T.2 p0 i) := by
          intro i hi
          by_cases h : i < 286
          · rw [h1 i (by omega)]; exact e1 i h
          · rw [h2 i (by omega) hi, z1 i (by omega)]
        have hmc' : MPl T.1 T.2 p0 ln' tdd tnn tcn lu du ku := ⟨fun i hi => hl8 i (by omega), fun j hj => by rw [h1 _ (by omega)]; exact e2 j hj, fun k hk => by rw [h1 _ (by omega)]; exact e3 k hk, e4, e5, e6, e7, e8⟩
        refine b_MO_putBlock_78 ?_
        refine ⟨fun hb => ?_, fun hb => ?_⟩ <;> (try simp (disch := omega) only [nI_lit, nI_fold, nI_mul, nI_add, pk_sub, pk_div, nI_shrN, nI_clamp, nI_leI, nI_ltI, nI_eq, not_true_eq_false, not_false_eq_true, Bool.false_eq_true, if_true, if_false, nI_nem, nI_m1, nI_m7, nI_m15, nI_m32, nI_m4, nI_m8, nI_m16, nI_m2] at hb) <;> (try omega)
        exact k90 ln' hmc' hl8 2 430 ln' _ (by omega) (by omega) (fun _ _ => rfl) (fun t h1 h2 => by omega)
      | succ j ih =>
        intro i ln' cl hi h286 h1 h2
        refine b_MO_putBlock_78 ?_
        refine ⟨fun hb => ?_, fun hb => ?_⟩ <;> (try simp (disch := omega) only [nI_lit, nI_fold, nI_mul, nI_add, pk_sub, pk_div, nI_shrN, nI_clamp, nI_leI, nI_ltI, nI_eq, not_true_eq_false, not_false_eq_true, Bool.false_eq_true, if_true, if_false, nI_nem, nI_m1, nI_m7, nI_m15, nI_m32, nI_m4, nI_m8, nI_m16, nI_m2] at hb) <;> (try omega)
        refine ⟨_, ⟨_, rfl, rfl⟩, _, _, rfl, Nat.le_of_ble_eq_true rfl, vp_in_nI (by omega) (by decide), fun H4 e4 => ?_⟩
        try dsimp only at e4
        rw [nI_clamp (by omega)] at e4
        subst e4
        rw [nI_1]
        refine ih (i + 1) (upd ln' i 0) false (by omega) (by omega) (fun t ht => ?_) (fun t ht1 ht2 => ?_)
        · unfold upd
          rw [if_neg (by omega)]
          exact h1 t ht
        · unfold upd
          split
          · rfl
          · exact h2 t ht1 (by omega)
    exact k78 2 286 ln _ (by omega) (by omega) (fun _ _ => rfl) (fun t h1 h2 => by omega)
  have kbit : ∀ (v7 : Nat) (ln rw' : wF) (wt : Nat → Int64) (th : Nat → Int64) (is tc bw tdd tnn : wF) (tcn lu du ku : Nat) (v5 v6 v8 : Int32) (cl : Bool), v7 = kd → (kd = 2 → 1 ≤ npc T.1 T.2 p0 ∧ MPl T.1 T.2 p0 ln tdd tnn tcn lu du ku) → (nI lastN = 0 → xW l x 4 0 0 mMO_putBlock n0 (fun r H' => ∃ o, r = Sum.inl o ∧ o = none ∧ ∃ rm' A' B', mbs F rm' ∧ H' = hM C cd T (rm', rn) (P1, P2, bl + 1, st) (K4 (noteT td bl kd s.2 (F.2 - s.2) m)) F.2 mb A' B' Z) cl 56 [some (.ref 74), some (.int (nI p0)), some (.int (nI m)), some (.int (nI lastN)), some (.int (nI s.2)), some (.int v5), some (.int v6), some (.int (nI v7)), some (.int v8), none] [.int 0, .ref 74] (hM C cd T (rm, rn) (P1, P2, bl, st) (K4 td) s.2 mb (ct, od, ln, rw') (pl, pv, pc, wt, cds, th, is, tc, bw, tdd, tnn, tcn, lu, du, ku) Z) 0 0) ∧ (¬ nI lastN = 0 → xW l x 4 0 0 mMO_putBlock n0 (fun r H' => ∃ o, r = Sum.inl o ∧ o = none ∧ ∃ rm' A' B', mbs F rm' ∧ H' = hM C cd T (rm', rn) (P1, P2, bl + 1, st) (K4 (noteT td bl kd s.2 (F.2 - s.2) m)) F.2 mb A' B' Z) cl 56 [some (.ref 74), some (.int (nI p0)), some (.int (nI m)), some (.int (nI lastN)), some (.int (nI s.2)), some (.int v5), some (.int v6), some (.int (nI v7)), some (.int v8), none] [.int 1, .ref 74] (hM C cd T (rm, rn) (P1, P2, bl, st) (K4 td) s.2 mb (ct, od, ln, rw') (pl, pv, pc, wt, cds, th, is, tc, bw, tdd, tnn, tcn, lu, du, ku) Z) 0 0) := by
    intro v7 ln rw' wt th is tc bw tdd tnn tcn lu du ku v5 v6 v8 cl h7 hmp
    subst h7
    have hk := k56 ln rw' wt th is tc bw tdd tnn tcn lu du ku v5 v6 v8 cl hmp
    have hl3 : lastN = 0 ∨ lastN = 1 := by omega
    rcases hl3 with rfl | rfl
    · exact ⟨fun _ => hk, fun h => absurd rfl h⟩
    · exact ⟨fun h => absurd h (by decide), fun _ => hk⟩
  refine b_MO_putBlock_0 ⟨_, ⟨_, rfl, rfl⟩, _, ⟨_, rfl, rfl⟩, _, ⟨_, rfl, rfl⟩, ?_⟩
  rw [show (nI s.2 + 3 + 7) / 8 * 8 - nI s.2 + 32 + (8 : Int32) * nI m = nI pB by
    rw [show nI s.2 + 3 = nI (s.2 + 3) from nI_add _ 3, show nI (s.2 + 3) + 7 = nI (s.2 + 3 + 7) from nI_add _ 7, show nI (s.2 + 3 + 7) / 8 = nI ((s.2 + 3 + 7) / 8) from pk_div (d := 8) (by omega) (by decide) (by decide), show nI ((s.2 + 3 + 7) / 8) * 8 = nI ((s.2 + 3 + 7) / 8 * 8) from nI_mul _ 8, nI_sub (by omega), show nI ((s.2 + 3 + 7) / 8 * 8 - s.2) + 32 = nI ((s.2 + 3 + 7) / 8 * 8 - s.2 + 32) from nI_add _ 32, show (8 : Int32) * nI m = nI (8 * m) from nI_mul 8 m, nI_add]
    exact congrArg nI hpl.symm]
  refine xs_callV rfl lk_12_177 (d' := 0) (c_MO_plainLengths (ct := ct) (od := od) (ln := ln) (rw' := rw')) (Nat.le_of_ble_eq_true rfl) rfl rfl rfl rfl rfl (Nat.le_of_ble_eq_true rfl) (by omega) (by omega) ?_
  rintro _ H1 ⟨rfl, ln', g1, g2, g3, rfl⟩
  refine b_MO_putBlock_29 ?_
  refine xs_callV rfl lk_12_285 (d' := 2) (c_MO_pieceBits (p0 := p0) (gL := flen) (gD := fun _ => 5) hT hpc hP (fun i hi => g1 i (by omega)) (fun j hj => g2 j (by omega)) (fun i => flen_le i) (fun _ => by decide)) (Nat.le_of_ble_eq_true rfl) rfl rfl rfl rfl rfl (Nat.le_of_ble_eq_true rfl) (by omega) (by omega) ?_
  rintro _ H1 ⟨rfl, rfl⟩
  refine b_MO_putBlock_32 ?_
  rw [show (3 : Int32) + nI (flen 256 + pbs T.1 T.2 p0 flen (fun _ => 5) pc) = nI fB by rw [show (3 : Int32) + nI (flen 256 + pbs T.1 T.2 p0 flen (fun _ => 5) pc) = nI (3 + (flen 256 + pbs T.1 T.2 p0 flen (fun _ => 5) pc)) from nI_add 3 _, hfB, hpc]]
  have kplan : ∀ (v6 v7 : Nat) (v5 v8 : Int32) (cl : Bool), 1 ≤ npc T.1 T.2 p0 → v6 < 2 ^ 31 → kd = (if mdB T.1 T.2 p0 < v6 then 2 else v7) → v7 ≤ 1 → xW l x 4 0 0 mMO_putBlock n0 (fun r H' => ∃ o, r = Sum.inl o ∧ o = none ∧ ∃ rm' A' B', mbs F rm' ∧ H' = hM C cd T (rm', rn) (P1, P2, bl + 1, st) (K4 (noteT td bl kd s.2 (F.2 - s.2) m)) F.2 mb A' B' Z) cl 45 [some (.ref 74), some (.int (nI p0)), some (.int (nI m)), some (.int (nI lastN)), some (.int (nI s.2)), some (.int v5), some (.int (nI v6)), some (.int (nI v7)), some (.int v8), none] [.ref 74] (hM C cd T (rm, rn) (P1, P2, bl, st) (K4 td) s.2 mb (ct, od, ln', rw') (pl, pv, pc, wt, cds, th, is, tc, bw, tdd, tnn, tcn, lu, du, ku) Z) 0 0 := by
    intro v6 v7 v5 v8 cl hnp hv6 hk7 hv7
    have hmt2 := hmt hnp
    refine xs_callV rfl lk_12_303 (d' := 3) (c_MO_plan (p0 := p0) hT hnp hpc hP) (Nat.le_of_ble_eq_true rfl) rfl rfl rfl rfl rfl (Nat.le_of_ble_eq_true rfl) (by omega) (by omega) ?_
    rintro _ H1 ⟨rfl, ln2, rw2, wt2, th2, is2, tc2, bw2, td2, tn2, tcn2, lu2, du2, ku2, hmp, rfl⟩
    refine b_MO_putBlock_46 ?_
    refine ⟨fun hb => ?_, fun hb => ?_⟩ <;> rw [nI_leI (by omega) (by omega)] at hb
    · rw [if_neg (by omega)] at hk7
      exact kbit v7 ln2 rw2 wt2 th2 is2 tc2 bw2 td2 tn2 tcn2 lu2 du2 ku2 _ _ _ _ hk7.symm (fun h => by omega)
    · rw [if_pos (by omega)] at hk7
      exact kbit 2 ln2 rw2 wt2 th2 is2 tc2 bw2 td2 tn2 tcn2 lu2 du2 ku2 _ _ _ _ hk7.symm (fun _ => ⟨hnp, hmp⟩)
  refine ⟨fun hb => ?_, fun hb => ?_⟩ <;> (try simp (disch := omega) only [nI_lit, nI_fold, nI_mul, nI_add, pk_sub, pk_div, nI_shrN, nI_clamp, nI_leI, nI_ltI, nI_eq, not_true_eq_false, not_false_eq_true, Bool.false_eq_true, if_true, if_false, nI_nem, nI_m1, nI_m7, nI_m15, nI_m32, nI_m4, nI_m8, nI_m16, nI_m2] at hb) <;> (try omega)
  · rw [if_neg (by omega)] at hkd
    refine ⟨_, ⟨_, rfl, rfl⟩, ?_⟩
    refine ⟨fun hc => ?_, fun hc => ?_⟩ <;> (try simp (disch := omega) only [nI_lit, nI_fold, nI_mul, nI_add, pk_sub, pk_div, nI_shrN, nI_clamp, nI_leI, nI_ltI, nI_eq, not_true_eq_false, not_false_eq_true, Bool.false_eq_true, if_true, if_false, nI_nem, nI_m1, nI_m7, nI_m15, nI_m32, nI_m4, nI_m8, nI_m16, nI_m2] at hc) <;> (try omega)
    refine kplan pB 0 _ _ _ (by omega) (by omega) ?_ (by decide)
    rw [hkd]
    by_cases h1 : mdB T.1 T.2 p0 < pB
    · rw [if_pos ⟨by omega, h1⟩, if_pos h1]
    · rw [if_neg (fun h => h1 h.2), if_neg h1]
  · rw [if_pos (by omega)] at hkd
    refine ⟨_, ⟨_, rfl, rfl⟩, ?_⟩
    refine ⟨fun hc => ?_, fun hc => ?_⟩ <;> (try simp (disch := omega) only [nI_lit, nI_fold, nI_mul, nI_add, pk_sub, pk_div, nI_shrN, nI_clamp, nI_leI, nI_ltI, nI_eq, not_true_eq_false, not_false_eq_true, Bool.false_eq_true, if_true, if_false, nI_nem, nI_m1, nI_m7, nI_m15, nI_m32, nI_m4, nI_m8, nI_m16, nI_m2] at hc) <;> (try omega)
    · rw [if_neg (by omega)] at hkd
      exact kbit 1 ln' rw' wt th is tc bw tdd tnn tcn lu du ku _ _ _ _ hkd.symm (fun h => by omega)
    · refine kplan fB 1 _ _ _ (by omega) (by omega) ?_ (by decide)
      rw [hkd]
      by_cases h1 : mdB T.1 T.2 p0 < fB
      · rw [if_pos ⟨by omega, h1⟩, if_pos h1]
      · rw [if_neg (fun h => h1 h.2), if_neg h1]
end MPack
