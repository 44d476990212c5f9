/-! the model's plan -/
section MPlan
variable {l : Launch} {x : xX} {d : Nat} {C : Nat → va_E} {cd : Int32} {T R : wRow} {P : wRp} {K : wK4} {a mb : Nat} {ct od ln rw' : wF} {Z : xH} {pl pv : wF} {pc : Nat} {wt : Nat → Int64} {cds : wF} {th : Nat → Int64} {is tc bw td tn : wF} {tcn lu du ku : Nat}
/-- what a plan leaves behind -/
def MPl (t : Nat → Nat) (n p0 : Nat) (ln td tn : wF) (tcn lu du ku : Nat) : Prop := (∀ i, i < 286 → ln i = nI (mkL t n p0 i)) ∧ (∀ j, j < 30 → ln (400 + j) = nI (mkD t n p0 j)) ∧ (∀ k, k < 19 → ln (500 + k) = nI (mkK t n p0 k)) ∧ tOK (mtl t n p0) td tn ∧ tcn = (mtl t n p0).1 ∧ lu = nLt t n p0 ∧ du = nDs t n p0 ∧ ku = nKs t n p0
theorem c_MO_plan (hT : ∀ i, T.1 i < 256) {p0 : Nat} (hnp : 1 ≤ npc T.1 T.2 p0) (hpc : pc = npc T.1 T.2 p0) (hP : MPa T.1 T.2 p0 pc pl pv) : xCr l x 3 0 0 mMO_plan [.ref 74] (hM C cd T R P K a mb (ct, od, ln, rw') (pl, pv, pc, wt, cds, th, is, tc, bw, td, tn, tcn, lu, du, ku) Z) (fun o H' => o = some (.int (nI (mdB T.1 T.2 p0))) ∧ ∃ ln' rw2 wt' th' is' tc' bw' td' tn' tcn' lu' du' ku', MPl T.1 T.2 p0 ln' td' tn' tcn' lu' du' ku' ∧ H' = hM C cd T R P K a mb (ct, od, ln', rw2) (pl, pv, pc, wt', cds, th', is', tc', bw', td', tn', tcn', lu', du', ku') Z) := by
  obtain ⟨n1, n2, n3, n4⟩ := nLt_ok hT hnp
  obtain ⟨m1, m2⟩ := mtl_ok hT hnp
  have hnb := (npc_ok T.1 T.2 p0).1
  have hmdB : mdB T.1 T.2 p0 = 17 + 3 * nKs T.1 T.2 p0 + tbt (mtl T.1 T.2 p0) (mkK T.1 T.2 p0) (mtl T.1 T.2 p0).1 + (mkL T.1 T.2 p0 256 + pbs T.1 T.2 p0 (mkL T.1 T.2 p0) (mkD T.1 T.2 p0) pc) := by
    rw [hpc]
    show 3 + (14 + 3 * nKs T.1 T.2 p0 + tbt (mtl T.1 T.2 p0) (mkK T.1 T.2 p0) (mtl T.1 T.2 p0).1) + _ = _
    omega
  have hnk : kac (mkK T.1 T.2 p0) 19 = nKs T.1 T.2 p0 := by rw [kac_kdc, if_neg (by decide)]; rfl
  have hnk19 : nKs T.1 T.2 p0 ≤ 19 := (kdc_ok _ 19).1
  have hK7 : ∀ i, mkK T.1 T.2 p0 i ≤ 7 := fun i => (mk_le T.1 T.2 p0 i).2.2
  have hL15 : ∀ i, mkL T.1 T.2 p0 i ≤ 15 := fun i => (mk_le T.1 T.2 p0 i).1
  have hD15 : ∀ i, mkD T.1 T.2 p0 i ≤ 15 := fun i => (mk_le T.1 T.2 p0 i).2.1
  have eL : lbw (wLt T.1 T.2 p0 pc) 286 15 = mkL T.1 T.2 p0 := by rw [hpc]; rfl
  have eD : lbw (wDt T.1 T.2 p0 pc) 30 15 = mkD T.1 T.2 p0 := by rw [hpc]; rfl
  have eK : lbw (tw1 (twt (mtl T.1 T.2 p0) (mtl T.1 T.2 p0).1)) 19 7 = mkK T.1 T.2 p0 := rfl
  have enL : lst (mkL T.1 T.2 p0) 286 = nLt T.1 T.2 p0 := rfl
  have enD : (if lst (mkD T.1 T.2 p0) 30 = 0 then 1 else lst (mkD T.1 T.2 p0) 30) = nDs T.1 T.2 p0 := rfl
  have etl : told (mrw T.1 T.2 p0) (nLt T.1 T.2 p0 + nDs T.1 T.2 p0) = mtl T.1 T.2 p0 := rfl
  have erw : ∀ i, mrw T.1 T.2 p0 i = if i < nLt T.1 T.2 p0 then mkL T.1 T.2 p0 i else mkD T.1 T.2 p0 (i - nLt T.1 T.2 p0) := fun _ => rfl
  have hrw16 : ∀ i, mrw T.1 T.2 p0 i < 16 := fun i => mrw_lt
  have hpl : ∀ ln' td' tn' tcn' lu' du' ku', MPl T.1 T.2 p0 ln' td' tn' tcn' lu' du' ku' ↔ (∀ i, i < 286 → ln' i = nI (mkL T.1 T.2 p0 i)) ∧ (∀ j, j < 30 → ln' (400 + j) = nI (mkD T.1 T.2 p0 j)) ∧ (∀ k, k < 19 → ln' (500 + k) = nI (mkK T.1 T.2 p0 k)) ∧ tOK (mtl T.1 T.2 p0) td' tn' ∧ tcn' = (mtl T.1 T.2 p0).1 ∧ lu' = nLt T.1 T.2 p0 ∧ du' = nDs T.1 T.2 p0 ∧ ku' = nKs T.1 T.2 p0 := fun _ _ _ _ _ _ _ => Iff.rfl
  have hlD := lst_le (mkD T.1 T.2 p0) 30
  generalize MPl T.1 T.2 p0 = MPLf at hpl ⊢
  generalize mdB T.1 T.2 p0 = F at hmdB ⊢
  generalize mrw T.1 T.2 p0 = gR at etl erw hrw16
  generalize mtl T.1 T.2 p0 = q at *
  generalize mkK T.1 T.2 p0 = gK at *
  generalize mkL T.1 T.2 p0 = gL at *
  generalize mkD T.1 T.2 p0 = gD at *
  generalize nLt T.1 T.2 p0 = nl at *
  generalize nDs T.1 T.2 p0 = nd at *
  generalize nKs T.1 T.2 p0 = nk at *
  refine xCt.of (by decide) rfl ck_MO_plan (Nat.le_of_ble_eq_true rfl) rfl ?_
  generalize List.length (hM C cd T R P K a mb (ct, od, ln, rw') (pl, pv, pc, wt, cds, th, is, tc, bw, td, tn, tcn, lu, du, ku) Z) = n0
  -- the bits
  have htb : ∀ c, tbt q gK c ≤ 14 * c := by
    intro c
    induction c with
    | zero => exact Nat.le_refl _
    | succ c ih =>
      have a1 := hK7 (q.2.1 c)
      have a2 : tbs (q.2.1 c) ≤ 7 := by unfold tbs; split; decide; split; decide; split <;> decide
      show tbt q gK c + (_ + _) ≤ _
      omega
  have k187 : ∀ (ln' rw2 : wF) (wt' th' : Nat → Int64) (is' tc' bw' td' tn' : wF) (v1 : Int32), (∀ i, i < 286 → ln' i = nI (gL i)) → (∀ j, j < 30 → ln' (400 + j) = nI (gD j)) → (∀ k, k < 19 → ln' (500 + k) = nI (gK k)) → tOK q td' tn' → ∀ (j i : Nat) (cl : Bool), i + j = q.1 → xW l x 3 0 0 mMO_plan n0 (fun r H' => ∃ o, r = Sum.inl o ∧ o = some (.int (nI F)) ∧ ∃ ln' rw2 wt' th' is' tc' bw' td' tn' tcn' lu' du' ku', MPLf ln' td' tn' tcn' lu' du' ku' ∧ H' = hM C cd T R P K a mb (ct, od, ln', rw2) (pl, pv, pc, wt', cds, th', is', tc', bw', td', tn', tcn', lu', du', ku') Z) cl 187 [some (.ref 74), some (.int v1), some (.int (nI (17 + 3 * nk + tbt q gK i))), some (.int (nI i))] [] (hM C cd T R P K a mb (ct, od, ln', rw2) (pl, pv, pc, wt', cds, th', is', tc', bw', td', tn', q.1, nl, nd, nk) Z) 0 0 := by
    intro ln' rw2 wt' th' is' tc' bw' td' tn' v1 hl1 hl2 hl3 htk j
    induction j with
    | zero =>
      intro i cl hi
      have : i = q.1 := by omega
      subst this
      refine b_MO_plan_187 ⟨_, ⟨_, rfl, rfl⟩, ?_⟩
      refine ⟨fun hb => ?_, fun hb => ?_⟩ <;> (try simp (disch := omega) only [nI_lit, nI_fold, nI_mul, nI_add, pk_sub, pk_div, nI_shrN, nI_clamp, nI_leI, nI_ltI, nI_eq, not_true_eq_false, not_false_eq_true, Bool.false_eq_true, if_true, if_false, nI_nem, nI_m1, nI_m7, nI_m15, nI_m32, nI_m4, nI_m8, nI_m16, nI_m2] at hb) <;> (try omega)
      refine xs_callV rfl lk_12_285 (d' := 2) (c_MO_pieceBits (gL := gL) (gD := gD) hT hpc hP hl1 hl2 hL15 hD15) (Nat.le_of_ble_eq_true rfl) rfl rfl rfl rfl rfl (Nat.le_of_ble_eq_true rfl) (by omega) (by omega) ?_
      rintro _ H1 ⟨rfl, rfl⟩
      refine b_MO_plan_214 ?_
      rw [nI_add, ← hmdB]
      refine ⟨rfl, Nat.le_refl _, _, rfl, rfl, ln', rw2, wt', th', is', tc', bw', td', tn', q.1, nl, nd, nk, ?_, rfl⟩
      exact (hpl _ _ _ _ _ _ _).mpr ⟨hl1, hl2, hl3, htk, rfl, rfl, rfl, rfl⟩
    | succ j ih =>
      intro i cl hi
      have y1 := (htk i (by omega)).1
      have y2 := (m1 i (by omega)).1
      have ih := ih (i + 1) false (by omega)
      rw [show tbt q gK (i + 1) = tbt q gK i + (gK (q.2.1 i) + tbs (q.2.1 i)) from rfl, show 17 + 3 * nk + (tbt q gK i + (gK (q.2.1 i) + tbs (q.2.1 i))) = 17 + 3 * nk + tbt q gK i + (gK (q.2.1 i) + tbs (q.2.1 i)) by omega] at ih
      refine b_MO_plan_187 ⟨_, ⟨_, rfl, rfl⟩, ?_⟩
      refine ⟨fun hb => ?_, fun hb => ?_⟩ <;> (try simp (disch := omega) only [nI_lit, nI_fold, nI_mul, nI_add, pk_sub, pk_div, nI_shrN, nI_clamp, nI_leI, nI_ltI, nI_eq, not_true_eq_false, not_false_eq_true, Bool.false_eq_true, if_true, if_false, nI_nem, nI_m1, nI_m7, nI_m15, nI_m32, nI_m4, nI_m8, nI_m16, nI_m2] at hb) <;> (try omega)
      refine ⟨_, ⟨_, rfl, rfl⟩, _, ⟨_, rfl, rfl⟩, _, _, rfl, vp_in_nI (by omega) (by decide), ?_⟩
      try dsimp only
      repeat rw [nI_clamp (by omega)]
      rw [y1, show (500 : Int32) + nI (q.2.1 i) = nI (500 + q.2.1 i) from nI_add 500 _]
      refine ⟨_, _, rfl, vp_in_nI (by omega) (by decide), _, ⟨_, rfl, rfl⟩, _, _, rfl, vp_in_nI (by omega) (by decide), ?_⟩
      try dsimp only
      repeat rw [nI_clamp (by omega)]
      rw [hl3 _ y2]
      try rw [y1]
      refine xs_callS rfl lk_12_282 (d' := 0) (c_MO_toldBits y2) (Nat.le_of_ble_eq_true rfl) rfl rfl (Nat.le_of_ble_eq_true rfl) (by omega) (by omega) ?_
      rintro _ H1 ⟨rfl, rfl⟩
      refine b_MO_plan_206 ?_
      rw [nI_add, nI_add, nI_1]
      exact ih
  -- how many lengths are used
  have k153 : ∀ (ln' rw2 : wF) (wt' th' : Nat → Int64) (is' tc' bw' td' tn' : wF) (v1 : Int32), (∀ i, i < 286 → ln' i = nI (gL i)) → (∀ j, j < 30 → ln' (400 + j) = nI (gD j)) → (∀ k, k < 19 → ln' (500 + k) = nI (gK k)) → tOK q td' tn' → ∀ (j i : Nat) (cl : Bool), i + j = 19 → xW l x 3 0 0 mMO_plan n0 (fun r H' => ∃ o, r = Sum.inl o ∧ o = some (.int (nI F)) ∧ ∃ ln' rw2 wt' th' is' tc' bw' td' tn' tcn' lu' du' ku', MPLf ln' td' tn' tcn' lu' du' ku' ∧ H' = hM C cd T R P K a mb (ct, od, ln', rw2) (pl, pv, pc, wt', cds, th', is', tc', bw', td', tn', tcn', lu', du', ku') Z) cl 153 [some (.ref 74), some (.int v1), some (.int (nI i)), none] [] (hM C cd T R P K a mb (ct, od, ln', rw2) (pl, pv, pc, wt', cds, th', is', tc', bw', td', tn', q.1, nl, nd, kac gK i) Z) 0 0 := by
    intro ln' rw2 wt' th' is' tc' bw' td' tn' v1 hl1 hl2 hl3 htk j
    induction j with
    | zero =>
      intro i cl hi
      have : i = 19 := by omega
      subst this
      rw [hnk]
      refine b_MO_plan_153 ?_
      refine ⟨fun hb => ?_, fun hb => ?_⟩ <;> (try simp (disch := omega) only [nI_lit, nI_fold, nI_mul, nI_add, pk_sub, pk_div, nI_shrN, nI_clamp, nI_leI, nI_ltI, nI_eq, not_true_eq_false, not_false_eq_true, Bool.false_eq_true, if_true, if_false, nI_nem, nI_m1, nI_m7, nI_m15, nI_m32, nI_m4, nI_m8, nI_m16, nI_m2] at hb) <;> (try omega)
      refine ⟨_, ⟨_, rfl, rfl⟩, ?_⟩
      rw [show (17 : Int32) + (3 : Int32) * nI nk = nI (17 + 3 * nk) by rw [show (3 : Int32) * nI nk = nI (3 * nk) from nI_mul 3 _, show (17 : Int32) = nI 17 from rfl, nI_add]]
      exact k187 ln' rw2 wt' th' is' tc' bw' td' tn' v1 hl1 hl2 hl3 htk q.1 0 _ (by omega)
    | succ j ih =>
      intro i cl hi
      obtain ⟨o1, o2⟩ := ord_N i (by omega)
      have hk7 := hK7 (ordN i)
      have hka : kac gK i ≤ 19 := by
        rw [kac_kdc]
        split
        · decide
        · have := (kdc_ok gK i).1; omega
      have ih := ih (i + 1) false (by omega)
      rw [show kac gK (i + 1) = kst (gK (ordN i)) i (kac gK i) from rfl] at ih
      generalize kac gK i = kk at hka ih ⊢
      unfold kst at ih
      refine b_MO_plan_153 ?_
      refine ⟨fun hb => ?_, fun hb => ?_⟩ <;> (try simp (disch := omega) only [nI_lit, nI_fold, nI_mul, nI_add, pk_sub, pk_div, nI_shrN, nI_clamp, nI_leI, nI_ltI, nI_eq, not_true_eq_false, not_false_eq_true, Bool.false_eq_true, if_true, if_false, nI_nem, nI_m1, nI_m7, nI_m15, nI_m32, nI_m4, nI_m8, nI_m16, nI_m2] at hb) <;> (try omega)
      refine ⟨_, ⟨_, rfl, rfl⟩, ?_⟩
      refine xs_callS rfl lk_12_136 (d' := 0) (c_MO_orderOf (show i < 19 by omega)) (Nat.le_of_ble_eq_true rfl) rfl rfl (Nat.le_of_ble_eq_true rfl) (by omega) (by omega) ?_
      rintro _ H1 ⟨rfl, rfl⟩
      refine b_MO_plan_162 ?_
      rw [show (500 : Int32) + nI (ordN i) = nI (500 + ordN i) from nI_add 500 _]
      refine ⟨_, _, rfl, vp_in_nI (by omega) (by decide), ?_⟩
      try dsimp only
      repeat rw [nI_clamp (by omega)]
      rw [hl3 _ o2]
      refine ⟨fun hc => ?_, fun hc => ?_⟩ <;> (try simp (disch := omega) only [nI_lit, nI_fold, nI_mul, nI_add, pk_sub, pk_div, nI_shrN, nI_clamp, nI_leI, nI_ltI, nI_eq, not_true_eq_false, not_false_eq_true, Bool.false_eq_true, if_true, if_false, nI_nem, nI_m1, nI_m7, nI_m15, nI_m32, nI_m4, nI_m8, nI_m16, nI_m2] at hc) <;> (try omega)
      · rw [if_neg (by omega)] at ih
        refine ⟨_, ⟨_, rfl, rfl⟩, _, rfl, Nat.le_of_ble_eq_true rfl, fun H5 e5 => ?_⟩
        subst e5
        rw [nI_1]
        exact ih
      refine ⟨_, ⟨_, rfl, rfl⟩, ?_⟩
      refine ⟨fun he => ?_, fun he => ?_⟩ <;> (try simp (disch := omega) only [nI_lit, nI_fold, nI_mul, nI_add, pk_sub, pk_div, nI_shrN, nI_clamp, nI_leI, nI_ltI, nI_eq, not_true_eq_false, not_false_eq_true, Bool.false_eq_true, if_true, if_false, nI_nem, nI_m1, nI_m7, nI_m15, nI_m32, nI_m4, nI_m8, nI_m16, nI_m2] at he) <;> (try omega)
      · rw [if_neg (by omega)] at ih
        refine ⟨_, ⟨_, rfl, rfl⟩, _, rfl, Nat.le_of_ble_eq_true rfl, fun H5 e5 => ?_⟩
        subst e5
        rw [nI_1]
        exact ih
      · rw [if_pos (by omega)] at ih
        refine ⟨_, rfl, Nat.le_of_ble_eq_true rfl, fun H5 e5 => ?_⟩
        rw [nI_1] at e5
        subst e5
        rw [nI_1]
        exact ih
  -- the lengths of lengths
  have k147 : ∀ (ln' rw2 : wF) (wt' th' : Nat → Int64) (is' tc' bw' td' tn' : wF) (v1 v2 : Int32) (ku' : Nat) (cl : Bool), (∀ i, i < 286 → ln' i = nI (gL i)) → (∀ j, j < 30 → ln' (400 + j) = nI (gD j)) → (∀ k, k < 19 → wt' (500 + k) = lN (tw1 (twt q q.1) k)) → tOK q td' tn' → xW l x 3 0 0 mMO_plan n0 (fun r H' => ∃ o, r = Sum.inl o ∧ o = some (.int (nI F)) ∧ ∃ ln' rw2 wt' th' is' tc' bw' td' tn' tcn' lu' du' ku', MPLf ln' td' tn' tcn' lu' du' ku' ∧ H' = hM C cd T R P K a mb (ct, od, ln', rw2) (pl, pv, pc, wt', cds, th', is', tc', bw', td', tn', tcn', lu', du', ku') Z) cl 147 [some (.ref 74), some (.int v1), some (.int v2), none] [.int 7, .int 19, .int 500, .ref 74] (hM C cd T R P K a mb (ct, od, ln', rw2) (pl, pv, pc, wt', cds, th', is', tc', bw', td', tn', q.1, nl, nd, ku') Z) 0 0 := by
    intro ln' rw2 wt' th' is' tc' bw' td' tn' v1 v2 ku' cl hl1 hl2 hw htk
    have htwb : ∀ i, tw1 (twt q q.1) i ≤ 1025 := by
      intro i
      have := twt_le q q.1 i
      unfold tw1
      split
      · split
        · unfold nup; split; decide; omega
        · unfold nup; split; decide; omega
      · omega
    refine xs_callV rfl lk_12_263 (d' := 2) (c_MO_byWeights (g := tw1 (twt q q.1)) (fm := 500) (n := 19) (m := 7) (by decide) (by decide) (by decide) (by decide) (by decide) (fun i hi => ⟨hw i hi, htwb i⟩)) (Nat.le_of_ble_eq_true rfl) rfl rfl rfl rfl rfl (Nat.le_of_ble_eq_true rfl) (by omega) (by omega) ?_
    rw [eK]
    rintro _ H1 ⟨rfl, ln2, th2, is2, tc2, bw2, g1, g2, rfl⟩
    refine b_MO_plan_148 ⟨_, rfl, Nat.le_of_ble_eq_true rfl, fun H2 e2 => ?_⟩
    subst e2
    refine k153 ln2 rw2 wt' th2 is2 tc2 bw2 td' tn' v1 (fun i hi => ?_) (fun i hi => ?_) g1 htk 19 0 false rfl
    · rw [g2 i (by omega)]; exact hl1 i hi
    · rw [g2 (400 + i) (by omega)]; exact hl2 i hi
  -- kinds
  have k104 : ∀ (ln' rw2 : wF) (wt' th' : Nat → Int64) (is' tc' bw' td' tn' : wF) (ku' : Nat), (∀ i, i < 286 → ln' i = nI (gL i)) → (∀ j, j < 30 → ln' (400 + j) = nI (gD j)) → (∀ k, k < 19 → wt' (500 + k) = lN (twt q q.1 k)) → tOK q td' tn' → ∀ (j i kn : Nat) (cl : Bool), i + j = 19 → kn = nzs (twt q q.1) i → xW l x 3 0 0 mMO_plan n0 (fun r H' => ∃ o, r = Sum.inl o ∧ o = some (.int (nI F)) ∧ ∃ ln' rw2 wt' th' is' tc' bw' td' tn' tcn' lu' du' ku', MPLf ln' td' tn' tcn' lu' du' ku' ∧ H' = hM C cd T R P K a mb (ct, od, ln', rw2) (pl, pv, pc, wt', cds, th', is', tc', bw', td', tn', tcn', lu', du', ku') Z) cl 104 [some (.ref 74), some (.int (nI kn)), some (.int (nI i)), none] [] (hM C cd T R P K a mb (ct, od, ln', rw2) (pl, pv, pc, wt', cds, th', is', tc', bw', td', tn', q.1, nl, nd, ku') Z) 0 0 := by
    intro ln' rw2 wt' th' is' tc' bw' td' tn' ku' hl1 hl2 hw htk j
    induction j with
    | zero =>
      intro i kn cl hi hkn
      have : i = 19 := by omega
      subst this
      have hz := nzs_le (twt q q.1) 19
      have h0 := twt_le q q.1 0
      have etw : tw1 (twt q q.1) = if nzs (twt q q.1) 19 = 1 then (if twt q q.1 0 = 0 then nup (twt q q.1) 0 1 else nup (twt q q.1) 1 1) else twt q q.1 := rfl
      rw [← hkn] at etw hz
      clear hkn
      refine b_MO_plan_104 ?_
      refine ⟨fun hb => ?_, fun hb => ?_⟩ <;> (try simp (disch := omega) only [nI_lit, nI_fold, nI_mul, nI_add, pk_sub, pk_div, nI_shrN, nI_clamp, nI_leI, nI_ltI, nI_eq, not_true_eq_false, not_false_eq_true, Bool.false_eq_true, if_true, if_false, nI_nem, nI_m1, nI_m7, nI_m15, nI_m32, nI_m4, nI_m8, nI_m16, nI_m2] at hb) <;> (try omega)
      refine ⟨fun hc => ?_, fun hc => ?_⟩ <;> (try simp (disch := omega) only [nI_lit, nI_fold, nI_mul, nI_add, pk_sub, pk_div, nI_shrN, nI_clamp, nI_leI, nI_ltI, nI_eq, not_true_eq_false, not_false_eq_true, Bool.false_eq_true, if_true, if_false, nI_nem, nI_m1, nI_m7, nI_m15, nI_m32, nI_m4, nI_m8, nI_m16, nI_m2] at hc) <;> (try omega)
      · rw [if_neg hc] at etw
        exact k147 ln' rw2 wt' th' is' tc' bw' td' tn' _ _ ku' _ hl1 hl2 (by rw [etw]; exact hw) htk
      rw [if_pos hc] at etw
      refine ⟨_, ⟨_, rfl, rfl⟩, _, _, rfl, vp_in_nI (n := 500) (by decide) (by decide), ?_⟩
      try dsimp only
      rw [show (500 : Int32).toNatClampNeg = 500 from rfl, show wt' 500 = lN (twt q q.1 0) from hw 0 (by decide)]
      refine ⟨fun hd => ?_, fun hd => ?_⟩ <;> rw [lg_cmp_le, show (0 : Int64) = lN 0 from rfl, lN_le (by omega) (by decide)] at hd
      · rw [if_pos (by omega)] at etw
        refine ⟨_, ⟨_, rfl, rfl⟩, _, _, rfl, vp_in_nI (n := 500) (by decide) (by decide), fun H7 e7 => ?_⟩
        try rw [show (500 : Int32).toNatClampNeg = 500 from rfl] at e7
        subst e7
        refine k147 ln' rw2 (vp_updL wt' 500 1) th' is' tc' bw' td' tn' _ _ ku' _ hl1 hl2 (fun k hk => ?_) htk
        rw [etw]
        unfold vp_updL nup
        by_cases e : k = 0
        · rw [if_pos (by omega), if_pos e]; rfl
        · rw [if_neg (by omega), if_neg e]; exact hw k hk
      · rw [if_neg (by omega)] at etw
        refine ⟨_, ⟨_, rfl, rfl⟩, _, _, rfl, vp_in_nI (n := 501) (by decide) (by decide), fun H7 e7 => ?_⟩
        rw [show (501 : Int32).toNatClampNeg = 501 from rfl] at e7
        subst e7
        refine k147 ln' rw2 (vp_updL wt' 501 1) th' is' tc' bw' td' tn' _ _ ku' _ hl1 hl2 (fun k hk => ?_) htk
        rw [etw]
        unfold vp_updL nup
        by_cases e : k = 1
        · rw [if_pos (by omega), if_pos e]; rfl
        · rw [if_neg (by omega), if_neg e]; exact hw k hk
    | succ j ih =>
      intro i kn cl hi hkn
      have h0 := twt_le q q.1 i
      have hwi := hw i (by omega)
      refine b_MO_plan_104 ?_
      refine ⟨fun hb => ?_, fun hb => ?_⟩ <;> (try simp (disch := omega) only [nI_lit, nI_fold, nI_mul, nI_add, pk_sub, pk_div, nI_shrN, nI_clamp, nI_leI, nI_ltI, nI_eq, not_true_eq_false, not_false_eq_true, Bool.false_eq_true, if_true, if_false, nI_nem, nI_m1, nI_m7, nI_m15, nI_m32, nI_m4, nI_m8, nI_m16, nI_m2] at hb) <;> (try omega)
      rw [show (500 : Int32) + nI i = nI (500 + i) from nI_add 500 _]
      refine ⟨_, ⟨_, rfl, rfl⟩, _, _, rfl, vp_in_nI (by omega) (by decide), ?_⟩
      try dsimp only
      repeat rw [nI_clamp (by omega)]
      rw [hwi]
      refine ⟨fun hd => ?_, fun hd => ?_⟩ <;> rw [lg_cmp_le, show (0 : Int64) = lN 0 from rfl, lN_le (by omega) (by decide)] at hd
      · rw [nI_1]
        exact ih (i + 1) kn _ (by omega) (by show kn = nzs (twt q q.1) i + (if 0 < twt q q.1 i then 1 else 0); rw [if_neg (by omega)]; exact hkn)
      · rw [nI_1, nI_1]
        exact ih (i + 1) (kn + 1) _ (by omega) (by show kn + 1 = nzs (twt q q.1) i + (if 0 < twt q q.1 i then 1 else 0); rw [if_pos (by omega), hkn])
  -- the weights of what is told
  have k81 : ∀ (ln' rw2 : wF) (th' : Nat → Int64) (is' tc' bw' td' tn' : wF) (ku' : Nat), (∀ i, i < 286 → ln' i = nI (gL i)) → (∀ j, j < 30 → ln' (400 + j) = nI (gD j)) → tOK q td' tn' → ∀ (j i : Nat) (wt' : Nat → Int64) (cl : Bool), i + j = q.1 → (∀ k, k < 19 → wt' (500 + k) = lN (twt q i k)) → xW l x 3 0 0 mMO_plan n0 (fun r H' => ∃ o, r = Sum.inl o ∧ o = some (.int (nI F)) ∧ ∃ ln' rw2 wt' th' is' tc' bw' td' tn' tcn' lu' du' ku', MPLf ln' td' tn' tcn' lu' du' ku' ∧ H' = hM C cd T R P K a mb (ct, od, ln', rw2) (pl, pv, pc, wt', cds, th', is', tc', bw', td', tn', tcn', lu', du', ku') Z) cl 81 [some (.ref 74), some (.int (nI i)), none, none] [] (hM C cd T R P K a mb (ct, od, ln', rw2) (pl, pv, pc, wt', cds, th', is', tc', bw', td', tn', q.1, nl, nd, ku') Z) 0 0 := by
    intro ln' rw2 th' is' tc' bw' td' tn' ku' hl1 hl2 htk j
    induction j with
    | zero =>
      intro i wt' cl hi hw
      have : i = q.1 := by omega
      subst this
      refine b_MO_plan_81 ⟨_, ⟨_, rfl, rfl⟩, ?_⟩
      refine ⟨fun hb => ?_, fun hb => ?_⟩ <;> (try simp (disch := omega) only [nI_lit, nI_fold, nI_mul, nI_add, pk_sub, pk_div, nI_shrN, nI_clamp, nI_leI, nI_ltI, nI_eq, not_true_eq_false, not_false_eq_true, Bool.false_eq_true, if_true, if_false, nI_nem, nI_m1, nI_m7, nI_m15, nI_m32, nI_m4, nI_m8, nI_m16, nI_m2] at hb) <;> (try omega)
      exact k104 ln' rw2 wt' th' is' tc' bw' td' tn' ku' hl1 hl2 hw htk 19 0 0 _ rfl rfl
    | succ j ih =>
      intro i wt' cl hi hw
      have y1 := (htk i (by omega)).1
      have y2 := (m1 i (by omega)).1
      have hle := twt_le q i (q.2.1 i)
      refine b_MO_plan_81 ⟨_, ⟨_, rfl, rfl⟩, ?_⟩
      refine ⟨fun hb => ?_, fun hb => ?_⟩ <;> (try simp (disch := omega) only [nI_lit, nI_fold, nI_mul, nI_add, pk_sub, pk_div, nI_shrN, nI_clamp, nI_leI, nI_ltI, nI_eq, not_true_eq_false, not_false_eq_true, Bool.false_eq_true, if_true, if_false, nI_nem, nI_m1, nI_m7, nI_m15, nI_m32, nI_m4, nI_m8, nI_m16, nI_m2] at hb) <;> (try omega)
      refine ⟨_, ⟨_, rfl, rfl⟩, _, ⟨_, rfl, rfl⟩, _, _, rfl, vp_in_nI (by omega) (by decide), ?_⟩
      try dsimp only
      repeat rw [nI_clamp (by omega)]
      rw [y1, show (500 : Int32) + nI (q.2.1 i) = nI (500 + q.2.1 i) from nI_add 500 _]
      refine ⟨_, _, rfl, vp_in_nI (by omega) (by decide), _, _, rfl, vp_in_nI (by omega) (by decide), fun H10 e10 => ?_⟩
      try dsimp only at e10
      rw [nI_clamp (by omega), hw _ y2, lN_1] at e10
      subst e10
      rw [nI_1]
      refine ih (i + 1) (vp_updL wt' (500 + q.2.1 i) (lN (twt q i (q.2.1 i) + 1))) false (by omega) (fun k hk => ?_)
      show vp_updL wt' (500 + q.2.1 i) _ (500 + k) = lN (nup (twt q i) (q.2.1 i) (twt q i (q.2.1 i) + 1) k)
      unfold vp_updL nup
      by_cases e : k = q.2.1 i
      · rw [if_pos (by omega), if_pos e]
      · rw [if_neg (by omega), if_neg e]; exact hw k hk
  -- the row
  have k53 : ∀ (ln' : wF) (wt' th' : Nat → Int64) (is' tc' bw' : wF), (∀ i, i < 286 → ln' i = nI (gL i)) → (∀ j, j < 30 → ln' (400 + j) = nI (gD j)) → (∀ k, k < 19 → wt' (500 + k) = lN 0) → ∀ (j i : Nat) (rw2 : wF) (cl : Bool), i + j = nd → (∀ t, t < nl + i → rw2 t = nI (gR t)) → xW l x 3 0 0 mMO_plan n0 (fun r H' => ∃ o, r = Sum.inl o ∧ o = some (.int (nI F)) ∧ ∃ ln' rw2 wt' th' is' tc' bw' td' tn' tcn' lu' du' ku', MPLf ln' td' tn' tcn' lu' du' ku' ∧ H' = hM C cd T R P K a mb (ct, od, ln', rw2) (pl, pv, pc, wt', cds, th', is', tc', bw', td', tn', tcn', lu', du', ku') Z) cl 53 [some (.ref 74), some (.int (nI i)), none, none] [] (hM C cd T R P K a mb (ct, od, ln', rw2) (pl, pv, pc, wt', cds, th', is', tc', bw', td, tn, tcn, nl, nd, ku) Z) 0 0 := by
    intro ln' wt' th' is' tc' bw' hl1 hl2 hw j
    induction j with
    | zero =>
      intro i rw2 cl hi hr
      have : i = nd := by omega
      subst this
      refine b_MO_plan_53 ⟨_, ⟨_, rfl, rfl⟩, ?_⟩
      refine ⟨fun hb => ?_, fun hb => ?_⟩ <;> (try simp (disch := omega) only [nI_lit, nI_fold, nI_mul, nI_add, pk_sub, pk_div, nI_shrN, nI_clamp, nI_leI, nI_ltI, nI_eq, not_true_eq_false, not_false_eq_true, Bool.false_eq_true, if_true, if_false, nI_nem, nI_m1, nI_m7, nI_m15, nI_m32, nI_m4, nI_m8, nI_m16, nI_m2] at hb) <;> (try omega)
      refine ⟨_, ⟨_, rfl, rfl⟩, _, ⟨_, rfl, rfl⟩, ?_⟩
      rw [nI_add]
      refine xs_callV rfl lk_12_276 (d' := 1) (c_MO_tellRow (g := gR) (n := nl + i) (by omega) (fun t ht => ⟨hr t ht, hrw16 t⟩)) (Nat.le_of_ble_eq_true rfl) rfl rfl rfl rfl rfl (Nat.le_of_ble_eq_true rfl) (by omega) (by omega) ?_
      rw [etl]
      rintro _ H1 ⟨rfl, ts2, tn2, ht2, rfl⟩
      refine b_MO_plan_79 ?_
      exact k81 ln' rw2 th' is' tc' bw' ts2 tn2 ku hl1 hl2 ht2 q.1 0 wt' _ (by omega) hw
    | succ j ih =>
      intro i rw2 cl hi hr
      have e1 := erw (nl + i)
      rw [if_neg (by omega), show nl + i - nl = i by omega] at e1
      refine b_MO_plan_53 ⟨_, ⟨_, rfl, rfl⟩, ?_⟩
      refine ⟨fun hb => ?_, fun hb => ?_⟩ <;> (try simp (disch := omega) only [nI_lit, nI_fold, nI_mul, nI_add, pk_sub, pk_div, nI_shrN, nI_clamp, nI_leI, nI_ltI, nI_eq, not_true_eq_false, not_false_eq_true, Bool.false_eq_true, if_true, if_false, nI_nem, nI_m1, nI_m7, nI_m15, nI_m32, nI_m4, nI_m8, nI_m16, nI_m2] at hb) <;> (try omega)
      rw [show (400 : Int32) + nI i = nI (400 + i) from nI_add 400 _]
      refine ⟨_, ⟨_, rfl, rfl⟩, _, ⟨_, rfl, rfl⟩, _, ⟨_, rfl, rfl⟩, _, _, rfl, vp_in_nI (by omega) (by decide), ?_⟩
      try dsimp only
      repeat rw [nI_clamp (by omega)]
      rw [hl2 _ (by omega), nI_add]
      refine ⟨_, _, rfl, Nat.le_of_ble_eq_true rfl, vp_in_nI (by omega) (by decide), fun H11 e11 => ?_⟩
      try dsimp only at e11
      rw [nI_clamp (by omega)] at e11
      subst e11
      rw [nI_1]
      refine ih (i + 1) (upd rw2 (nl + i) (nI (gD i))) false (by omega) (fun t ht => ?_)
      unfold upd
      by_cases e : t = nl + i
      · rw [if_pos e, e, e1]
      · rw [if_neg e]; exact hr t (by omega)
  have k37 : ∀ (ln' : wF) (wt' th' : Nat → Int64) (is' tc' bw' : wF), (∀ i, i < 286 → ln' i = nI (gL i)) → (∀ j, j < 30 → ln' (400 + j) = nI (gD j)) → (∀ k, k < 19 → wt' (500 + k) = lN 0) → ∀ (j i : Nat) (rw2 : wF) (cl : Bool), i + j = nl → (∀ t, t < i → rw2 t = nI (gR t)) → xW l x 3 0 0 mMO_plan n0 (fun r H' => ∃ o, r = Sum.inl o ∧ o = some (.int (nI F)) ∧ ∃ ln' rw2 wt' th' is' tc' bw' td' tn' tcn' lu' du' ku', MPLf ln' td' tn' tcn' lu' du' ku' ∧ H' = hM C cd T R P K a mb (ct, od, ln', rw2) (pl, pv, pc, wt', cds, th', is', tc', bw', td', tn', tcn', lu', du', ku') Z) cl 37 [some (.ref 74), some (.int (nI i)), none, none] [] (hM C cd T R P K a mb (ct, od, ln', rw2) (pl, pv, pc, wt', cds, th', is', tc', bw', td, tn, tcn, nl, nd, ku) Z) 0 0 := by
    intro ln' wt' th' is' tc' bw' hl1 hl2 hw j
    induction j with
    | zero =>
      intro i rw2 cl hi hr
      have : i = nl := by omega
      subst this
      refine b_MO_plan_37 ⟨_, ⟨_, rfl, rfl⟩, ?_⟩
      refine ⟨fun hb => ?_, fun hb => ?_⟩ <;> (try simp (disch := omega) only [nI_lit, nI_fold, nI_mul, nI_add, pk_sub, pk_div, nI_shrN, nI_clamp, nI_leI, nI_ltI, nI_eq, not_true_eq_false, not_false_eq_true, Bool.false_eq_true, if_true, if_false, nI_nem, nI_m1, nI_m7, nI_m15, nI_m32, nI_m4, nI_m8, nI_m16, nI_m2] at hb) <;> (try omega)
      exact k53 ln' wt' th' is' tc' bw' hl1 hl2 hw nd 0 rw2 _ (by omega) hr
    | succ j ih =>
      intro i rw2 cl hi hr
      have e1 := erw i
      rw [if_pos (by omega)] at e1
      refine b_MO_plan_37 ⟨_, ⟨_, rfl, rfl⟩, ?_⟩
      refine ⟨fun hb => ?_, fun hb => ?_⟩ <;> (try simp (disch := omega) only [nI_lit, nI_fold, nI_mul, nI_add, pk_sub, pk_div, nI_shrN, nI_clamp, nI_leI, nI_ltI, nI_eq, not_true_eq_false, not_false_eq_true, Bool.false_eq_true, if_true, if_false, nI_nem, nI_m1, nI_m7, nI_m15, nI_m32, nI_m4, nI_m8, nI_m16, nI_m2] at hb) <;> (try omega)
      refine ⟨_, ⟨_, rfl, rfl⟩, _, ⟨_, rfl, rfl⟩, _, _, rfl, vp_in_nI (by omega) (by decide), ?_⟩
      try dsimp only
      repeat rw [nI_clamp (by omega)]
      rw [hl1 _ (by omega)]
      refine ⟨_, _, rfl, Nat.le_of_ble_eq_true rfl, vp_in_nI (by omega) (by decide), fun H8 e8 => ?_⟩
      try dsimp only at e8
      try rw [nI_clamp (by omega)] at e8
      subst e8
      rw [nI_1]
      refine ih (i + 1) (upd rw2 i (nI (gL i))) false (by omega) (fun t ht => ?_)
      unfold upd
      by_cases e : t = i
      · rw [if_pos e, e, e1]
      · rw [if_neg e]; exact hr t (by omega)
  refine b_MO_plan_0 ?_
  refine xs_callV rfl lk_12_260 (d' := 2) (c_MO_weigh hT hpc hP) (Nat.le_of_ble_eq_true rfl) rfl rfl rfl rfl rfl (Nat.le_of_ble_eq_true rfl) (by omega) (by omega) ?_
  rintro _ H1 ⟨rfl, wt1, hw1, rfl⟩
  refine b_MO_plan_2 ?_
  refine xs_callV rfl lk_12_263 (d' := 2) (c_MO_byWeights (g := wLt T.1 T.2 p0 pc) (fm := 0) (n := 286) (m := 15) (by decide) (by decide) (by decide) (by decide) (by decide) (fun i hi => ⟨by rw [Nat.zero_add]; exact hw1.1 i hi, by have := wLt_le T.1 T.2 p0 pc i; omega⟩)) (Nat.le_of_ble_eq_true rfl) rfl rfl rfl rfl rfl (Nat.le_of_ble_eq_true rfl) (by omega) (by omega) ?_
  rw [eL]
  rintro _ H1 ⟨rfl, ln1, th1, is1, tc1, bw1, g1, g2, rfl⟩
  refine b_MO_plan_7 ?_
  refine xs_callV rfl lk_12_263 (d' := 2) (c_MO_byWeights (g := wDt T.1 T.2 p0 pc) (fm := 400) (n := 30) (m := 15) (by decide) (by decide) (by decide) (by decide) (by decide) (fun i hi => ⟨hw1.2.1 i hi, by have := wDt_le T.1 T.2 p0 pc i; omega⟩)) (Nat.le_of_ble_eq_true rfl) rfl rfl rfl rfl rfl (Nat.le_of_ble_eq_true rfl) (by omega) (by omega) ?_
  rw [eD]
  rintro _ H1 ⟨rfl, ln2, th2, is2, tc2, bw2, g3, g4, rfl⟩
  have hl1 : ∀ i, i < 286 → ln2 i = nI (gL i) := by
    intro i hi
    rw [g4 i (by omega)]
    have := g1 i hi
    rw [Nat.zero_add] at this
    exact this
  refine b_MO_plan_12 ⟨_, ⟨_, rfl, rfl⟩, ?_⟩
  refine xs_callS rfl lk_12_266 (d' := 0) (c_MO_lastOf (r := 83) (M := 600) (fm := 0) (n := 286) (fl := ln2) (g := gL) rfl (by decide) (by decide) (fun i hi => by rw [Nat.zero_add]; exact hl1 i hi) (fun i _ => by have := hL15 i; omega)) (Nat.le_of_ble_eq_true rfl) rfl rfl (Nat.le_of_ble_eq_true rfl) (by omega) (by omega) ?_
  rw [enL]
  rintro _ H1 ⟨rfl, rfl⟩
  refine b_MO_plan_18 ⟨_, rfl, Nat.le_of_ble_eq_true rfl, fun H2 e2 => ?_⟩
  try simp (disch := omega) only [nI_lit, nI_fold, nI_mul, nI_add, pk_sub, pk_div, nI_shrN, nI_clamp] at e2
  subst e2
  refine ⟨_, ⟨_, rfl, rfl⟩, ?_⟩
  refine xs_callS rfl lk_12_266 (d' := 0) (c_MO_lastOf (r := 83) (M := 600) (fm := 400) (n := 30) (fl := ln2) (g := gD) rfl (by decide) (by decide) g3 (fun i _ => by have := hD15 i; omega)) (Nat.le_of_ble_eq_true rfl) rfl rfl (Nat.le_of_ble_eq_true rfl) (by omega) (by omega) ?_
  rintro _ H1 ⟨rfl, rfl⟩
  generalize lst gD 30 = lD at enD hlD ⊢
  refine b_MO_plan_25 ⟨_, rfl, Nat.le_of_ble_eq_true rfl, fun H2 e2 => ?_⟩
  subst e2
  refine ⟨_, ⟨_, rfl, rfl⟩, ?_⟩
  refine ⟨fun hc => ?_, fun hc => ?_⟩ <;> (try simp (disch := omega) only [nI_lit, nI_fold, nI_mul, nI_add, pk_sub, pk_div, nI_shrN, nI_clamp, nI_leI, nI_ltI, nI_eq, not_true_eq_false, not_false_eq_true, Bool.false_eq_true, if_true, if_false, nI_nem, nI_m1, nI_m7, nI_m15, nI_m32, nI_m4, nI_m8, nI_m16, nI_m2] at hc) <;> (try omega)
  · rw [if_neg hc] at enD
    subst enD
    refine ⟨_, ⟨_, rfl, rfl⟩, _, rfl, Nat.le_of_ble_eq_true rfl, fun H6 e6 => ?_⟩
    subst e6
    exact k37 ln2 wt1 th2 is2 tc2 bw2 hl1 g3 hw1.2.2 nl 0 rw' _ (by omega) (fun t h => absurd h (Nat.not_lt_zero _))
  · rw [if_pos hc] at enD
    subst enD
    refine ⟨_, rfl, Nat.le_of_ble_eq_true rfl, fun H6 e6 => ?_⟩
    subst e6
    exact k37 ln2 wt1 th2 is2 tc2 bw2 hl1 g3 hw1.2.2 nl 0 rw' _ (by omega) (fun t h => absurd h (Nat.not_lt_zero _))
end MPlan
