/-! the class packs -/
def PKfix (k2 k3 : wWC) : Prop := isN k2.2.1 288 flen ∧ isN k2.2.2 288 (fun i => rev (cde flen 288 i) (flen i)) ∧ isN k3.2.1 32 (fun _ => 5) ∧ isN k3.2.2 32 (fun i => rev (cde (fun _ => 5) 32 i) 5)
theorem isN.lo {f : Nat → Int32} {N M : Nat} {F : Nat → Nat} (h : isN f N F) (hM : M ≤ N) : isN f M F := fun i hi => h i (by omega)
section CPack
variable {l : Launch} {x : xX} {d : Nat} {s0 : va_E} {T R : wRow} {P : wRep} {k1 : Nat × Nat × Nat × Nat} {k2 k3 : wWC} {k4 : wMC} {k5 : wF × wF × wF × wF} {k6 : wFI} {hd : Nat × Nat} {u : wUN} {Z : xH} {s : Nat × Nat} {rb : Nat → Nat}
theorem flen_le2 (i : Nat) : flen i ≤ 9 := by unfold flen; split; decide; split; decide; split <;> decide
theorem c_PK_fewestBits (hT : ∀ i, T.1 i < 256) (hn : T.2 ≤ 32768) {p0 a : Nat} (hp0 : p0 ≤ T.2) (ha : a ≤ 524288) (hfx : PKfix k2 k3) (hm : 1 ≤ npc T.1 T.2 p0 → MCok T.1 T.2 p0 k4) (hk : PKa T.1 T.2 p0 (npc T.1 T.2 p0) k5) : xCr l x 2 0 0 mPK_fewestBits [.ref 11, .int (nI a)] (hc s0 T R P ((npc T.1 T.2 p0, bnm T.1 T.2 p0 (npc T.1 T.2 p0), p0, pend T.1 T.2 p0), k2, k3, k4, k5, k6, hd) u Z) (fun o H' => o = some (.int (nI (knd T.1 T.2 p0 a))) ∧ H' = hc s0 T R P ((npc T.1 T.2 p0, bnm T.1 T.2 p0 (npc T.1 T.2 p0), p0, pend T.1 T.2 p0), k2, k3, k4, k5, k6, hd) u Z) := by
  obtain ⟨o1, o2, o3⟩ := npc_ok T.1 T.2 p0
  obtain ⟨x1, x2, x3, x4⟩ := hfx
  obtain ⟨y1, y2, y3⟩ := hk
  have hpe := pend_ok (t := T.1) hp0
  have hbn := bnm_le T.1 T.2 p0 (npc T.1 T.2 p0)
  have hLb : ∀ i, wLt T.1 T.2 p0 (npc T.1 T.2 p0) i ≤ 1025 := fun i => by have := wLt_le T.1 T.2 p0 (npc T.1 T.2 p0) i; omega
  have hDb : ∀ i, wDt T.1 T.2 p0 (npc T.1 T.2 p0) i ≤ 1025 := fun i => by have := wDt_le T.1 T.2 p0 (npc T.1 T.2 p0) i; omega
  have w1 := wsum_le (w := wLt T.1 T.2 p0 (npc T.1 T.2 p0)) (g := flen) (A := 1025) (B := 15) 286 (fun i _ => ⟨hLb i, by have := flen_le2 i; omega⟩)
  have w2 := wsum_le (w := wDt T.1 T.2 p0 (npc T.1 T.2 p0)) (g := fun _ => 5) (A := 1025) (B := 15) 30 (fun i _ => ⟨hDb i, by decide⟩)
  have hfx := wsum_pbs hT (n := T.2) (p0 := p0) flen (fun _ => 5) (npc T.1 T.2 p0)
  have hfB : fxB T.1 T.2 p0 = 3 + (flen 256 + pbs T.1 T.2 p0 flen (fun _ => 5) (npc T.1 T.2 p0)) := rfl
  have hkd : knd T.1 T.2 p0 a = if fxB T.1 T.2 p0 < plB a (pend T.1 T.2 p0 - p0) then (if 0 < npc T.1 T.2 p0 ∧ mdB T.1 T.2 p0 < fxB T.1 T.2 p0 then 2 else 1) else (if 0 < npc T.1 T.2 p0 ∧ mdB T.1 T.2 p0 < plB a (pend T.1 T.2 p0 - p0) then 2 else 0) := rfl
  have hpl : plB a (pend T.1 T.2 p0 - p0) = (a + 3 + 7) / 8 * 8 - a + 32 + 8 * (pend T.1 T.2 p0 - p0) := rfl
  generalize knd T.1 T.2 p0 a = F at hkd ⊢
  generalize fxB T.1 T.2 p0 = fB at hfB hkd
  generalize plB a (pend T.1 T.2 p0 - p0) = pB at hpl hkd
  refine xCt.of (by decide) rfl ck_PK_fewestBits (Nat.le_of_ble_eq_true rfl) rfl ?_
  generalize List.length (hc s0 T R P ((npc T.1 T.2 p0, bnm T.1 T.2 p0 (npc T.1 T.2 p0), p0, pend T.1 T.2 p0), k2, k3, k4, k5, k6, hd) u Z) = n0
  refine b_PK_fewestBits_0 ⟨_, ⟨_, rfl, rfl⟩, _, ⟨_, rfl, rfl⟩, _, ⟨_, rfl, rfl⟩, _, ⟨_, rfl, rfl⟩, _, ⟨_, rfl, rfl⟩, ?_⟩
  rw [show (3 : Int32) + nI (bnm T.1 T.2 p0 (npc T.1 T.2 p0)) = nI (3 + bnm T.1 T.2 p0 (npc T.1 T.2 p0)) from nI_add 3 _]
  rw [show (3 : Int32) + (-(nI a + 3) &&& 7) + 32 + (8 : Int32) * (nI (pend T.1 T.2 p0) - nI p0) = nI pB by
    rw [show nI a + 3 = nI (a + 3) from nI_add a 3, neg7g (by omega) (by omega), nI_sub hpe.1, show (8 : Int32) * nI (pend T.1 T.2 p0 - p0) = nI (8 * (pend T.1 T.2 p0 - p0)) from nI_mul 8 _, show (3 : Int32) = nI 3 from rfl, nI_add, show (32 : Int32) = nI 32 from rfl, nI_add, nI_add]
    exact congrArg nI (by rw [hpl]; omega)]
  refine xs_callV rfl lk_4_216 (d' := 0) (c_WC_bitsFor (r := 12) (a1 := 14) (q := 45) (N := 288) (M := 286) (fl := k2.2.1) (fw := k5.2.2.1) rfl rfl rfl (by decide) (by decide) (by decide) (x1.lo (by decide)) y2) (Nat.le_of_ble_eq_true rfl) rfl rfl rfl rfl rfl (Nat.le_of_ble_eq_true rfl) (by omega) (by omega) ?_
  rintro _ H1 ⟨rfl, rfl⟩
  refine b_PK_fewestBits_30 ⟨_, ⟨_, rfl, rfl⟩, _, ⟨_, rfl, rfl⟩, ?_⟩
  rw [nI_add]
  refine xs_callV rfl lk_4_216 (d' := 0) (c_WC_bitsFor (r := 16) (a1 := 18) (q := 46) (N := 32) (M := 30) (fl := k3.2.1) (fw := k5.2.2.2) rfl rfl rfl (by decide) (by decide) (by decide) (x3.lo (by decide)) y3) (Nat.le_of_ble_eq_true rfl) rfl rfl rfl rfl rfl (Nat.le_of_ble_eq_true rfl) (by omega) (by omega) ?_
  rintro _ H1 ⟨rfl, rfl⟩
  have hsum : 3 + bnm T.1 T.2 p0 (npc T.1 T.2 p0) + wsum (wLt T.1 T.2 p0 (npc T.1 T.2 p0)) flen 286 + wsum (wDt T.1 T.2 p0 (npc T.1 T.2 p0)) (fun _ => 5) 30 = fB := by omega
  -- the made codes
  have k54 : ∀ (v2 v3 : Nat) (v4 : Int32) (cl : Bool), 1 ≤ npc T.1 T.2 p0 → v3 < 2 ^ 31 → F = (if mdB T.1 T.2 p0 < v3 then 2 else v2) → xW l x 2 0 0 mPK_fewestBits n0 (fun r H' => ∃ o, r = Sum.inl o ∧ o = some (.int (nI F)) ∧ H' = hc s0 T R P ((npc T.1 T.2 p0, bnm T.1 T.2 p0 (npc T.1 T.2 p0), p0, pend T.1 T.2 p0), k2, k3, k4, k5, k6, hd) u Z) cl 54 [some (.ref 11), some (.int (nI a)), some (.int (nI v2)), some (.int (nI v3)), some (.int v4), none] [.ref 20, .int ((3 : Int32) + nI (bnm T.1 T.2 p0 (npc T.1 T.2 p0)))] (hc s0 T R P ((npc T.1 T.2 p0, bnm T.1 T.2 p0 (npc T.1 T.2 p0), p0, pend T.1 T.2 p0), k2, k3, k4, k5, k6, hd) u Z) 0 0 := by
    intro v2 v3 v4 cl hnp hv3 hF
    have hmc := hm hnp
    obtain ⟨m1, m2⟩ := mtl_ok hT hnp
    have hmd := wsum_pbs hT (n := T.2) (p0 := p0) (mkL T.1 T.2 p0) (mkD T.1 T.2 p0) (npc T.1 T.2 p0)
    have hmB : mdB T.1 T.2 p0 = 3 + mbt T.1 T.2 p0 + (mkL T.1 T.2 p0 256 + pbs T.1 T.2 p0 (mkL T.1 T.2 p0) (mkD T.1 T.2 p0) (npc T.1 T.2 p0)) := rfl
    have w3 := wsum_le (w := wLt T.1 T.2 p0 (npc T.1 T.2 p0)) (g := mkL T.1 T.2 p0) (A := 1025) (B := 15) 286 (fun i _ => ⟨hLb i, (mk_le T.1 T.2 p0 i).1⟩)
    have w4 := wsum_le (w := wDt T.1 T.2 p0 (npc T.1 T.2 p0)) (g := mkD T.1 T.2 p0) (A := 1025) (B := 15) 30 (fun i _ => ⟨hDb i, (mk_le T.1 T.2 p0 i).2.1⟩)
    have htb : ∀ c, tbt (mtl T.1 T.2 p0) (mkK T.1 T.2 p0) c ≤ 14 * c := by
      intro c
      induction c with
      | zero => exact Nat.le_refl _
      | succ c ih =>
        have a1 := (mk_le T.1 T.2 p0 ((mtl T.1 T.2 p0).2.1 c)).2.2
        have a2 : tbs ((mtl T.1 T.2 p0).2.1 c) ≤ 7 := by unfold tbs; split; decide; split; decide; split <;> decide
        show tbt (mtl T.1 T.2 p0) (mkK T.1 T.2 p0) c + (_ + _) ≤ _
        omega
    have hmb : mbt T.1 T.2 p0 ≤ 14 + 57 + 14 * 316 := by
      have a1 := htb (mtl T.1 T.2 p0).1
      have a2 := (kdc_ok (mkK T.1 T.2 p0) 19).1
      show 14 + 3 * kdc (mkK T.1 T.2 p0) 19 + tbt (mtl T.1 T.2 p0) (mkK T.1 T.2 p0) (mtl T.1 T.2 p0).1 ≤ _
      omega
    obtain ⟨e1, e2, e3, e4, e5, e6, e7, e8⟩ := id hmc
    rw [show (3 : Int32) + nI (bnm T.1 T.2 p0 (npc T.1 T.2 p0)) = nI (3 + bnm T.1 T.2 p0 (npc T.1 T.2 p0)) from nI_add 3 _]
    refine xs_callV rfl lk_4_220 (d' := 1) (c_MC_bitsOfTelling hT hnp hmc) (Nat.le_of_ble_eq_true rfl) rfl rfl rfl rfl rfl (Nat.le_of_ble_eq_true rfl) (by omega) (by omega) ?_
    rintro _ H1 ⟨rfl, rfl⟩
    refine b_PK_fewestBits_55 ⟨_, ⟨_, rfl, rfl⟩, _, ⟨_, rfl, rfl⟩, _, ⟨_, rfl, rfl⟩, ?_⟩
    rw [nI_add]
    refine xs_callV rfl lk_4_216 (d' := 0) (c_WC_bitsFor (r := 21) (a1 := 23) (q := 45) (N := 286) (M := 286) (fl := k4.2.2.2.2.1.2.1) (fw := k5.2.2.1) rfl rfl rfl (by decide) (by decide) (by decide) e5 y2) (Nat.le_of_ble_eq_true rfl) rfl rfl rfl rfl rfl (Nat.le_of_ble_eq_true rfl) (by omega) (by omega) ?_
    rintro _ H1 ⟨rfl, rfl⟩
    refine b_PK_fewestBits_62 ⟨_, ⟨_, rfl, rfl⟩, _, ⟨_, rfl, rfl⟩, _, ⟨_, rfl, rfl⟩, ?_⟩
    rw [nI_add]
    refine xs_callV rfl lk_4_216 (d' := 0) (c_WC_bitsFor (r := 25) (a1 := 27) (q := 46) (N := 30) (M := 30) (fl := k4.2.2.2.2.2.1.2.1) (fw := k5.2.2.2) rfl rfl rfl (by decide) (by decide) (by decide) e6 y3) (Nat.le_of_ble_eq_true rfl) rfl rfl rfl rfl rfl (Nat.le_of_ble_eq_true rfl) (by omega) (by omega) ?_
    rintro _ H1 ⟨rfl, rfl⟩
    refine b_PK_fewestBits_69 ?_
    rw [nI_add, show 3 + bnm T.1 T.2 p0 (npc T.1 T.2 p0) + mbt T.1 T.2 p0 + wsum (wLt T.1 T.2 p0 (npc T.1 T.2 p0)) (mkL T.1 T.2 p0) 286 + wsum (wDt T.1 T.2 p0 (npc T.1 T.2 p0)) (mkD T.1 T.2 p0) 30 = mdB T.1 T.2 p0 by omega]
    refine ⟨fun hb => ?_, fun hb => ?_⟩ <;> rw [nI_leI (by omega) (by omega)] at hb
    · rw [if_neg (by omega)] at hF
      rw [hF]
      refine ⟨rfl, Nat.le_refl _, _, rfl, ⟨rfl, rfl⟩⟩
    · rw [if_pos (by omega)] at hF
      rw [hF]
      refine ⟨rfl, Nat.le_refl _, _, rfl, ⟨rfl, rfl⟩⟩
  refine b_PK_fewestBits_36 ?_
  rw [nI_add, hsum]
  refine ⟨fun hb => ?_, fun hb => ?_⟩ <;> (try simp (disch := omega) only [nI_lit, nI_fold, nI_mul, nI_add, pk_sub, pk_div, nI_shrN, nI_clamp, nI_leI, nI_ltI, nI_eq, not_true_eq_false, not_false_eq_true, Bool.false_eq_true, if_true, if_false, nI_nem, nI_m1, nI_m7, nI_m15, nI_m32, nI_m4, nI_m8, nI_m16, nI_m2] at hb) <;> (try omega)
  · rw [if_neg (by omega)] at hkd
    refine ⟨_, ⟨_, rfl, rfl⟩, ?_⟩
    refine ⟨fun hcq => ?_, fun hcq => ?_⟩ <;> (try simp (disch := omega) only [nI_lit, nI_fold, nI_mul, nI_add, pk_sub, pk_div, nI_shrN, nI_clamp, nI_leI, nI_ltI, nI_eq, not_true_eq_false, not_false_eq_true, Bool.false_eq_true, if_true, if_false, nI_nem, nI_m1, nI_m7, nI_m15, nI_m32, nI_m4, nI_m8, nI_m16, nI_m2] at hcq) <;> (try omega)
    · rw [if_neg (by omega)] at hkd
      rw [hkd]
      refine ⟨rfl, Nat.le_refl _, _, rfl, ⟨rfl, rfl⟩⟩
    · refine ⟨_, ⟨_, rfl, rfl⟩, _, ⟨_, rfl, rfl⟩, ?_⟩
      refine k54 0 pB _ _ (by omega) (by omega) ?_
      rw [hkd]
      by_cases h1 : mdB T.1 T.2 p0 < pB
      · rw [if_pos ⟨by omega, h1⟩, if_pos h1]
      · rw [if_neg (fun h => h1 h.2), if_neg h1]
  · rw [if_pos (by omega)] at hkd
    refine ⟨_, ⟨_, rfl, rfl⟩, ?_⟩
    refine ⟨fun hcq => ?_, fun hcq => ?_⟩ <;> (try simp (disch := omega) only [nI_lit, nI_fold, nI_mul, nI_add, pk_sub, pk_div, nI_shrN, nI_clamp, nI_leI, nI_ltI, nI_eq, not_true_eq_false, not_false_eq_true, Bool.false_eq_true, if_true, if_false, nI_nem, nI_m1, nI_m7, nI_m15, nI_m32, nI_m4, nI_m8, nI_m16, nI_m2] at hcq) <;> (try omega)
    · rw [if_neg (by omega)] at hkd
      rw [hkd]
      refine ⟨rfl, Nat.le_refl _, _, rfl, ⟨rfl, rfl⟩⟩
    · refine ⟨_, ⟨_, rfl, rfl⟩, _, ⟨_, rfl, rfl⟩, ?_⟩
      refine k54 1 fB _ _ (by omega) (by omega) ?_
      rw [hkd]
      by_cases h1 : mdB T.1 T.2 p0 < fB
      · rw [if_pos ⟨by omega, h1⟩, if_pos h1]
      · rw [if_neg (fun h => h1 h.2), if_neg h1]
theorem knd_2 {t : Nat → Nat} {n p0 a : Nat} : knd t n p0 a ≤ 2 ∧ (knd t n p0 a = 2 → 1 ≤ npc t n p0) := by
  unfold knd
  split
  · split
    · rename_i h; exact ⟨by decide, fun _ => h.1⟩
    · exact ⟨by decide, fun h => by cases h⟩
  · split
    · rename_i h; exact ⟨by decide, fun _ => h.1⟩
    · exact ⟨by decide, fun h => by cases h⟩
theorem c_PK_writeBlock (hT : ∀ i, T.1 i < 256) (hn : T.2 ≤ 32768) {p0 : Nat} (hp0 : p0 ≤ T.2) (hfx : PKfix k2 k3) (hm : 1 ≤ npc T.1 T.2 p0 → MCok T.1 T.2 p0 k4) (hwe : WEok k4.2.2.2.2.2.2.2.1) (hk : PKa T.1 T.2 p0 (npc T.1 T.2 p0) k5) (hs : cbs s rb) {fa pl : Int32} {bl st : Nat} {td : Nat → Nat} (hbl : bl < 2 ^ 20) (hroom : s.2 + plB s.2 (pend T.1 T.2 p0 - p0) + 8 ≤ 524288) : xCr l x 4 0 0 mPK_writeBlock [.ref 11, .int (if pend T.1 T.2 p0 < T.2 then 0 else 1)] (hW s0 T rb (fa, pl, bl, st, nF td) ((npc T.1 T.2 p0, bnm T.1 T.2 p0 (npc T.1 T.2 p0), p0, pend T.1 T.2 p0), k2, k3, k4, k5, k6) u Z s) (fun o H' => o = none ∧ ∃ rb' k4', WEok k4'.2.2.2.2.2.2.2.1 ∧ cbs (wbk T.1 T.2 p0 s) rb' ∧ H' = hW s0 T rb' (fa, pl, bl + 1, st, nF (noteT td bl (knd T.1 T.2 p0 s.2) s.2 ((wbk T.1 T.2 p0 s).2 - s.2) (pend T.1 T.2 p0 - p0))) ((npc T.1 T.2 p0, bnm T.1 T.2 p0 (npc T.1 T.2 p0), p0, pend T.1 T.2 p0), k2, k3, k4', k5, k6) u Z (wbk T.1 T.2 p0 s)) := by
  have hpe := pend_ok (t := T.1) hp0
  obtain ⟨b1, b2⟩ := wbk_2 T.1 T.2 p0 s
  obtain ⟨kd1, kd2⟩ := knd_2 (t := T.1) (n := T.2) (p0 := p0) (a := s.2)
  have hwb : wbk T.1 T.2 p0 s = if knd T.1 T.2 p0 s.2 = 0 then wpl T.1 p0 (pend T.1 T.2 p0 - p0) (bput (bput s (if pend T.1 T.2 p0 < T.2 then 0 else 1) 1) 0 2) else if knd T.1 T.2 p0 s.2 = 1 then wpa T.1 T.2 p0 flen (fun _ => 5) 288 32 (bput (bput s (if pend T.1 T.2 p0 < T.2 then 0 else 1) 1) 1 2) else wpa T.1 T.2 p0 (mkL T.1 T.2 p0) (mkD T.1 T.2 p0) 286 30 (wtg T.1 T.2 p0 (bput (bput s (if pend T.1 T.2 p0 < T.2 then 0 else 1) 1) 2 2)) := rfl
  obtain ⟨x1, x2, x3, x4⟩ := id hfx
  refine xCt.of (by decide) rfl ck_PK_writeBlock (Nat.le_of_ble_eq_true rfl) rfl ?_
  generalize List.length (hW s0 T rb (fa, pl, bl, st, nF td) ((npc T.1 T.2 p0, bnm T.1 T.2 p0 (npc T.1 T.2 p0), p0, pend T.1 T.2 p0), k2, k3, k4, k5, k6) u Z s) = n0
  refine b_PK_writeBlock_0 ⟨_, ⟨_, rfl, rfl⟩, ?_⟩
  refine xs_callV rfl lk_4_188 (d' := 0) (c_BW_bitsWritten (q := ((npc T.1 T.2 p0, bnm T.1 T.2 p0 (npc T.1 T.2 p0), p0, pend T.1 T.2 p0), k2, k3, k4, k5, k6)) (by omega)) (Nat.le_of_ble_eq_true rfl) rfl rfl rfl rfl rfl (Nat.le_of_ble_eq_true rfl) (by omega) (by omega) ?_
  rintro _ H1 ⟨rfl, rfl⟩
  refine b_PK_writeBlock_3 ?_
  refine xs_callV rfl lk_4_192 (d' := 2) (c_PK_fewestBits (k5 := k5) (k4 := k4) hT hn hp0 (by omega) hfx hm hk) (Nat.le_of_ble_eq_true rfl) rfl rfl rfl rfl rfl (Nat.le_of_ble_eq_true rfl) (by omega) (by omega) ?_
  rintro _ H1 ⟨rfl, rfl⟩
  generalize hF : wbk T.1 T.2 p0 s = F at hwb b1 b2 ⊢
  generalize hkd : knd T.1 T.2 p0 s.2 = kd at *
  generalize hlast : (if pend T.1 T.2 p0 < T.2 then 0 else 1) = lastN at hwb
  have hl1 : lastN < 2 := by rw [← hlast]; split <;> decide
  have hl2 : (if pend T.1 T.2 p0 < T.2 then (0 : Int32) else 1) = nI lastN := by rw [← hlast]; split <;> rfl
  rw [hl2]
  -- the end: what is told of the block
  have k58 : ∀ (rb' : Nat → Nat) (k4' : wMC) (cl : Bool), WEok k4'.2.2.2.2.2.2.2.1 → cbs F rb' → xW l x 4 0 0 mPK_writeBlock n0 (fun r H' => ∃ o, r = Sum.inl o ∧ o = none ∧ ∃ rb' k4', WEok k4'.2.2.2.2.2.2.2.1 ∧ cbs F rb' ∧ H' = hW s0 T rb' (fa, pl, bl + 1, st, nF (noteT td bl kd s.2 (F.2 - s.2) (pend T.1 T.2 p0 - p0))) ((npc T.1 T.2 p0, bnm T.1 T.2 p0 (npc T.1 T.2 p0), p0, pend T.1 T.2 p0), k2, k3, k4', k5, k6) u Z F) cl 58 [some (.ref 11), some (.int (nI lastN)), some (.int (nI s.2)), some (.int (nI kd))] [] (hW s0 T rb' (fa, pl, bl, st, nF td) ((npc T.1 T.2 p0, bnm T.1 T.2 p0 (npc T.1 T.2 p0), p0, pend T.1 T.2 p0), k2, k3, k4', k5, k6) u Z F) 0 0 := by
    intro rb' k4' cl hwe' hs'
    refine b_PK_writeBlock_58 ⟨_, ⟨_, rfl, rfl⟩, _, ⟨_, rfl, rfl⟩, ?_⟩
    refine xs_callV rfl lk_4_188 (d' := 0) (c_BW_bitsWritten (q := ((npc T.1 T.2 p0, bnm T.1 T.2 p0 (npc T.1 T.2 p0), p0, pend T.1 T.2 p0), k2, k3, k4', k5, k6)) (s := F) (by omega)) (Nat.le_of_ble_eq_true rfl) rfl rfl rfl rfl rfl (Nat.le_of_ble_eq_true rfl) (by omega) (by omega) ?_
    rintro _ H1 ⟨rfl, rfl⟩
    refine b_PK_writeBlock_65 ⟨_, ⟨_, rfl, rfl⟩, _, ⟨_, rfl, rfl⟩, ?_⟩
    try dsimp only
    rw [nI_sub (a := F.2) (b := s.2) (by omega), nI_sub (a := pend T.1 T.2 p0) (b := p0) hpe.1]
    refine xs_callV rfl lk_4_212 (d' := 0) (c_RE_addBlock (td := td) (a := kd) (b := s.2) (c := F.2 - s.2) (d' := pend T.1 T.2 p0 - p0) hbl) (Nat.le_of_ble_eq_true rfl) rfl rfl rfl rfl rfl (Nat.le_of_ble_eq_true rfl) (by omega) (by omega) ?_
    rintro _ H1 ⟨rfl, rfl⟩
    refine b_PK_writeBlock_73 ?_
    refine ⟨rfl, Nat.le_refl _, _, rfl, ⟨rfl, rb', k4', hwe', hs', rfl⟩⟩
  have k17 : ∀ (rb : Nat → Nat) (cl : Bool), cbs (bput s lastN 1) rb → xW l x 4 0 0 mPK_writeBlock n0 (fun r H' => ∃ o, r = Sum.inl o ∧ o = none ∧ ∃ rb' k4', WEok k4'.2.2.2.2.2.2.2.1 ∧ cbs F rb' ∧ H' = hW s0 T rb' (fa, pl, bl + 1, st, nF (noteT td bl kd s.2 (F.2 - s.2) (pend T.1 T.2 p0 - p0))) ((npc T.1 T.2 p0, bnm T.1 T.2 p0 (npc T.1 T.2 p0), p0, pend T.1 T.2 p0), k2, k3, k4', k5, k6) u Z F) cl 17 [some (.ref 11), some (.int (nI lastN)), some (.int (nI s.2)), some (.int (nI kd))] [] (hW s0 T rb (fa, pl, bl, st, nF td) ((npc T.1 T.2 p0, bnm T.1 T.2 p0 (npc T.1 T.2 p0), p0, pend T.1 T.2 p0), k2, k3, k4, k5, k6) u Z (bput s lastN 1)) 0 0 := by
    intro rb cl hs1
    refine b_PK_writeBlock_17 ⟨_, ⟨_, rfl, rfl⟩, ?_⟩
    refine xs_callV rfl lk_4_129 (d' := 1) (c_BW_writeNumber (q := ((npc T.1 T.2 p0, bnm T.1 T.2 p0 (npc T.1 T.2 p0), p0, pend T.1 T.2 p0), k2, k3, k4, k5, k6)) (v := kd) (k := 2) (by omega) (by decide) hs1 (by show s.2 + 1 + 2 ≤ _; omega)) (Nat.le_of_ble_eq_true rfl) rfl rfl rfl rfl rfl (Nat.le_of_ble_eq_true rfl) (by omega) (by omega) ?_
    rintro _ H1 ⟨rfl, rb2, hs2, rfl⟩
    have h2 : (bput (bput s lastN 1) kd 2).2 = s.2 + 3 := rfl
    refine b_PK_writeBlock_22 ?_
    refine ⟨fun hb => ?_, fun hb => ?_⟩ <;> (try simp (disch := omega) only [nI_lit, nI_fold, nI_mul, nI_add, pk_sub, pk_div, nI_shrN, nI_clamp, nI_leI, nI_ltI, nI_eq, not_true_eq_false, not_false_eq_true, Bool.false_eq_true, if_true, if_false, nI_nem, nI_m1, nI_m7, nI_m15, nI_m32, nI_m4, nI_m8, nI_m16, nI_m2] at hb) <;> (try omega)
    case refine_2 =>
      subst hb
      rw [if_pos rfl] at hwb
      generalize bput (bput s lastN 1) 0 2 = s3 at hwb hs2 h2 ⊢
      have hw2 := wpl_2 T.1 p0 (pend T.1 T.2 p0 - p0) s3
      rw [← hwb] at hw2
      have hpl : plB s.2 (pend T.1 T.2 p0 - p0) = (s.2 + 3 + 7) / 8 * 8 - s.2 + 32 + 8 * (pend T.1 T.2 p0 - p0) := rfl
      refine xs_callV rfl lk_4_195 (d' := 3) (c_PK_writePlain (s := s3) (rb := rb2) hT hpe.1 (by omega) hs2 (by omega)) (Nat.le_of_ble_eq_true rfl) rfl rfl rfl rfl rfl (Nat.le_of_ble_eq_true rfl) (by omega) (by omega) ?_
      rw [← hwb]
      rintro _ H1 ⟨rfl, rb3, hs3, rfl⟩
      refine b_PK_writeBlock_26 ?_
      exact k58 rb3 k4 _ hwe hs3
    rw [if_neg hb] at hwb
    refine ⟨fun hcq => ?_, fun hcq => ?_⟩ <;> (try simp (disch := omega) only [nI_lit, nI_fold, nI_mul, nI_add, pk_sub, pk_div, nI_shrN, nI_clamp, nI_leI, nI_ltI, nI_eq, not_true_eq_false, not_false_eq_true, Bool.false_eq_true, if_true, if_false, nI_nem, nI_m1, nI_m7, nI_m15, nI_m32, nI_m4, nI_m8, nI_m16, nI_m2] at hcq) <;> (try omega)
    case refine_2 =>
      subst hcq
      rw [if_pos rfl] at hwb
      generalize bput (bput s lastN 1) 1 2 = s3 at hwb hs2 h2 ⊢
      have hw2 : F.2 = s3.2 + pbs T.1 T.2 p0 flen (fun _ => 5) (npc T.1 T.2 p0) + flen 256 := by
        rw [hwb]
        show (wps T.1 T.2 p0 flen (fun _ => 5) 288 32 s3 (npc T.1 T.2 p0)).2 + flen 256 = _
        rw [wps_2]
      refine ⟨_, ⟨_, rfl, rfl⟩, _, ⟨_, rfl, rfl⟩, ?_⟩
      refine xs_callV rfl lk_4_198 (d' := 3) (c_PK_writePieces (s := s3) (rb := rb2) (r1 := 12) (a1 := 14) (a2 := 15) (a3 := 13) (NL := 288) (r2 := 16) (b1 := 18) (b2 := 19) (b3 := 17) (ND := 32) (flL := k2.2.1) (fwL := k2.2.2) (flD := k3.2.1) (fwD := k3.2.2) (gL := flen) (gD := fun _ => 5) hT (fun _ _ => ⟨rfl, rfl, rfl⟩) (fun _ _ => ⟨rfl, rfl, rfl⟩) (by decide) (by decide) (by decide) (by decide) x1 x2 (fun i => flen_le i) x3 x4 (fun _ => by decide) hk hs2 (by omega)) (Nat.le_of_ble_eq_true rfl) rfl rfl rfl rfl rfl (Nat.le_of_ble_eq_true rfl) (by omega) (by omega) ?_
      rw [← hwb]
      rintro _ H1 ⟨rfl, rb3, hs3, rfl⟩
      refine b_PK_writeBlock_36 ?_
      exact k58 rb3 k4 _ hwe hs3
    rw [if_neg hcq] at hwb
    have : kd = 2 := by omega
    subst this
    have hnp := kd2 rfl
    have hmc := hm hnp
    obtain ⟨e1, e2, e3, e4, e5, e6, e7, e8⟩ := id hmc
    obtain ⟨tc, mL, mD, mK, ⟨fnL, flL, fwL⟩, ⟨fnD, flD, fwD⟩, WK, we, row, ts, tn, tw⟩ := k4
    dsimp only at e1 e2 e3 e4 e5 e6 e7 e8
    generalize bput (bput s lastN 1) 2 2 = s3 at hwb hs2 h2 ⊢
    have ht2 := wtg_2 T.1 T.2 p0 s3
    have hw2 : F.2 = (wtg T.1 T.2 p0 s3).2 + pbs T.1 T.2 p0 (mkL T.1 T.2 p0) (mkD T.1 T.2 p0) (npc T.1 T.2 p0) + mkL T.1 T.2 p0 256 := by
      rw [hwb]
      show (wps T.1 T.2 p0 (mkL T.1 T.2 p0) (mkD T.1 T.2 p0) 286 30 (wtg T.1 T.2 p0 s3) (npc T.1 T.2 p0)).2 + mkL T.1 T.2 p0 256 = _
      rw [wps_2]
    refine ⟨_, ⟨_, rfl, rfl⟩, _, ⟨_, rfl, rfl⟩, ?_⟩
    refine xs_callV rfl lk_4_84 (d' := 1) (c_WC_makeWords (r := 21) (a1 := 23) (a2 := 24) (a3 := 22) (N := 286) (g := mkL T.1 T.2 p0) (fw := fwL) (fn := fnL) (Nat.le_refl _) ⟨rfl, ⟨flL, rfl, e5⟩, by decide, by decide, by decide, by decide, by decide, by decide, fun i _ => (mk_le T.1 T.2 p0 i).1⟩ rfl rfl) (Nat.le_of_ble_eq_true rfl) rfl rfl rfl rfl rfl (Nat.le_of_ble_eq_true rfl) (by omega) (by omega) ?_
    rintro _ H1 ⟨rfl, hfr, fwL2, fnL2, q1, q2, hfwL⟩
    have hH1 := fr_2 hfr q1 q2
    subst hH1
    clear hfr q1 q2
    refine b_PK_writeBlock_41 ⟨_, ⟨_, rfl, rfl⟩, _, ⟨_, rfl, rfl⟩, ?_⟩
    refine xs_callV rfl lk_4_84 (d' := 1) (c_WC_makeWords (r := 25) (a1 := 27) (a2 := 28) (a3 := 26) (N := 30) (g := mkD T.1 T.2 p0) (fw := fwD) (fn := fnD) (Nat.le_refl _) ⟨rfl, ⟨flD, rfl, e6⟩, by decide, by decide, by decide, by decide, by decide, by decide, fun i _ => (mk_le T.1 T.2 p0 i).2.1⟩ rfl rfl) (Nat.le_of_ble_eq_true rfl) rfl rfl rfl rfl rfl (Nat.le_of_ble_eq_true rfl) (by omega) (by omega) ?_
    rintro _ H1 ⟨rfl, hfr, fwD2, fnD2, q1, q2, hfwD⟩
    have hH1 := fr_2 hfr q1 q2
    subst hH1
    clear hfr q1 q2
    refine b_PK_writeBlock_45 ⟨_, ⟨_, rfl, rfl⟩, _, ⟨_, rfl, rfl⟩, ?_⟩
    refine xs_callV rfl lk_4_208 (d' := 3) (c_MC_writeTelling (k1 := (npc T.1 T.2 p0, bnm T.1 T.2 p0 (npc T.1 T.2 p0), p0, pend T.1 T.2 p0)) (k2 := k2) (k3 := k3) (k5 := k5) (k6 := k6) (WL := (fnL2, flL, fwL2)) (WD := (fnD2, flD, fwD2)) (WK := WK) (s := s3) (rb := rb2) (p0 := p0) (tc := tc) (mL := mL) (mD := mD) (mK := mK) (we := we) (row := row) (ts := ts) (tn := tn) (tw := tw) hT hnp ⟨e1, e2, e3, e4, e5, e6, e7, e8⟩ hs2 (by omega)) (Nat.le_of_ble_eq_true rfl) rfl rfl rfl rfl rfl (Nat.le_of_ble_eq_true rfl) (by omega) (by omega) ?_
    rintro _ H1 ⟨rfl, rb3, WK', hWK, hs3, rfl⟩
    refine b_PK_writeBlock_50 ⟨_, ⟨_, rfl, rfl⟩, _, ⟨_, rfl, rfl⟩, _, ⟨_, rfl, rfl⟩, _, ⟨_, rfl, rfl⟩, ?_⟩
    refine xs_callV rfl lk_4_198 (d' := 3) (c_PK_writePieces (s := wtg T.1 T.2 p0 s3) (rb := rb3) (r1 := 21) (a1 := 23) (a2 := 24) (a3 := 22) (NL := 286) (r2 := 25) (b1 := 27) (b2 := 28) (b3 := 26) (ND := 30) (flL := flL) (fwL := fwL2) (flD := flD) (fwD := fwD2) (gL := mkL T.1 T.2 p0) (gD := mkD T.1 T.2 p0) (k4 := (tc, mL, mD, mK, (fnL2, flL, fwL2), (fnD2, flD, fwD2), WK', we, row, ts, tn, tw)) hT (fun _ _ => ⟨rfl, rfl, rfl⟩) (fun _ _ => ⟨rfl, rfl, rfl⟩) (by decide) (by decide) (by decide) (by decide) e5 hfwL (fun i => (mk_le T.1 T.2 p0 i).1) e6 hfwD (fun i => (mk_le T.1 T.2 p0 i).2.1) hk hs3 (by omega)) (Nat.le_of_ble_eq_true rfl) rfl rfl rfl rfl rfl (Nat.le_of_ble_eq_true rfl) (by omega) (by omega) ?_
    rw [← hwb]
    rintro _ H1 ⟨rfl, rb4, hs4, rfl⟩
    exact k58 rb4 _ _ hwe hs4
  refine b_PK_writeBlock_7 ⟨_, ⟨_, rfl, rfl⟩, ?_⟩
  have hcall : ∀ (cl : Bool), xW l x 4 0 0 mPK_writeBlock n0 (fun r H' => ∃ o, r = Sum.inl o ∧ o = none ∧ ∃ rb' k4', WEok k4'.2.2.2.2.2.2.2.1 ∧ cbs F rb' ∧ H' = hW s0 T rb' (fa, pl, bl + 1, st, nF (noteT td bl kd s.2 (F.2 - s.2) (pend T.1 T.2 p0 - p0))) ((npc T.1 T.2 p0, bnm T.1 T.2 p0 (npc T.1 T.2 p0), p0, pend T.1 T.2 p0), k2, k3, k4', k5, k6) u Z F) cl 16 [some (.ref 11), some (.int (nI lastN)), some (.int (nI s.2)), some (.int (nI kd))] [.int 1, .int (nI lastN), .ref 50] (hW s0 T rb (fa, pl, bl, st, nF td) ((npc T.1 T.2 p0, bnm T.1 T.2 p0 (npc T.1 T.2 p0), p0, pend T.1 T.2 p0), k2, k3, k4, k5, k6) u Z s) 0 0 := by
    intro cl
    refine xs_callV rfl lk_4_129 (d' := 1) (c_BW_writeNumber (q := ((npc T.1 T.2 p0, bnm T.1 T.2 p0 (npc T.1 T.2 p0), p0, pend T.1 T.2 p0), k2, k3, k4, k5, k6)) (v := lastN) (k := 1) hl1 (by decide) hs (by omega)) (Nat.le_of_ble_eq_true rfl) rfl rfl rfl rfl rfl (Nat.le_of_ble_eq_true rfl) (by omega) (by omega) ?_
    rintro _ H1 ⟨rfl, rb1, hs1, rfl⟩
    exact k17 rb1 _ hs1
  have hl3 : lastN = 0 ∨ lastN = 1 := by omega
  rcases hl3 with rfl | rfl
  · exact ⟨fun _ => hcall _, fun h => absurd rfl h⟩
  · exact ⟨fun h => absurd h (by decide), fun _ => hcall _⟩
end CPack
