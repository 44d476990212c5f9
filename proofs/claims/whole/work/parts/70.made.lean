/-! the class's made codes -/
theorem fr_2 {H H' : xH} {b1 b2 : Nat} {c1 c2 : va_E} (hf : fr (fun q => q ≠ b1 ∧ q ≠ b2) H H') (h1 : H'[b1]? = some c1) (h2 : H'[b2]? = some c2) : H' = (H.set b1 c1).set b2 c2 := by
  have l1 : b1 < H.length := by rw [← hf.1]; exact (List.getElem?_eq_some_iff.mp h1).1
  have l2 : b2 < H.length := by rw [← hf.1]; exact (List.getElem?_eq_some_iff.mp h2).1
  apply List.ext_getElem?
  intro i
  rw [List.getElem?_set, List.getElem?_set]
  simp only [List.length_set]
  by_cases e2 : b2 = i
  · rw [if_pos e2, if_pos l2, ← e2]; exact h2
  rw [if_neg e2]
  by_cases e1 : b1 = i
  · rw [if_pos e1, if_pos l1, ← e1]; exact h1
  rw [if_neg e1]
  exact hf.2 i ⟨fun h => e1 h.symm, fun h => e2 h.symm⟩
section Made
variable {l : Launch} {x : xX} {d : Nat} {s0 : va_E} {T R : wRow} {P : wRep} {k1 : Nat × Nat × Nat × Nat} {k2 k3 : wWC} {tc mL mD mK : Nat} {WL WD WK : wWC} {we : wWE} {row ts tn tw : wF} {pl pv fwL fwD : wF} {k6 : wFI} {hd : Nat × Nat} {u : wUN} {Z : xH} {s : tS}
theorem c_WE_make23 {g : Nat → Nat} (hwe : WEok we) (hfw : isN fwL 286 g) (hg : ∀ i, i < 286 → g i ≤ 1025) : xCr l x 1 0 0 mWE_makeLengths [.ref 33, .ref 45, .int 15, .ref 23] (hc s0 T R P (k1, k2, k3, (tc, mL, mD, mK, WL, WD, WK, we, row, ts, tn, tw), (pl, pv, fwL, fwD), k6, hd) u Z) (fun o H' => o = none ∧ ∃ fl' w', isN fl' 286 (lbw g 286 15) ∧ WEok w' ∧ H' = hc s0 T R P (k1, k2, k3, (tc, mL, mD, mK, (WL.1, fl', WL.2.2), WD, WK, w', row, ts, tn, tw), (pl, pv, fwL, fwD), k6, hd) u Z) := by
  refine xCr.mo (c_WE_makeLengths (C := fun i => ((hc s0 T R P (k1, k2, k3, (tc, mL, mD, mK, WL, WD, WK, we, row, ts, tn, tw), (pl, pv, fwL, fwD), k6, hd) u Z)[i]?).getD s0) (Z := List.drop 39 (hc s0 T R P (k1, k2, k3, (tc, mL, mD, mK, WL, WD, WK, we, row, ts, tn, tw), (pl, pv, fwL, fwD), k6, hd) u Z)) (r1 := 45) (r3 := 23) (n := 286) (m := 15) (fl := WL.2.1) (fw := fwL) (w := we) (g := g) hwe (by decide) (by decide) (by decide) (by decide) (by decide) (by decide) rfl (fun c w => rfl) hfw hg) ?_
  rintro o H' ⟨h1, fl', w', h2, h3, rfl⟩
  exact ⟨h1, fl', w', h2, h3, rfl⟩
theorem c_WE_make27 {g : Nat → Nat} (hwe : WEok we) (hfw : isN fwD 30 g) (hg : ∀ i, i < 30 → g i ≤ 1025) : xCr l x 1 0 0 mWE_makeLengths [.ref 33, .ref 46, .int 15, .ref 27] (hc s0 T R P (k1, k2, k3, (tc, mL, mD, mK, WL, WD, WK, we, row, ts, tn, tw), (pl, pv, fwL, fwD), k6, hd) u Z) (fun o H' => o = none ∧ ∃ fl' w', isN fl' 30 (lbw g 30 15) ∧ WEok w' ∧ H' = hc s0 T R P (k1, k2, k3, (tc, mL, mD, mK, WL, (WD.1, fl', WD.2.2), WK, w', row, ts, tn, tw), (pl, pv, fwL, fwD), k6, hd) u Z) := by
  refine xCr.mo (c_WE_makeLengths (C := fun i => ((hc s0 T R P (k1, k2, k3, (tc, mL, mD, mK, WL, WD, WK, we, row, ts, tn, tw), (pl, pv, fwL, fwD), k6, hd) u Z)[i]?).getD s0) (Z := List.drop 39 (hc s0 T R P (k1, k2, k3, (tc, mL, mD, mK, WL, WD, WK, we, row, ts, tn, tw), (pl, pv, fwL, fwD), k6, hd) u Z)) (r1 := 46) (r3 := 27) (n := 30) (m := 15) (fl := WD.2.1) (fw := fwD) (w := we) (g := g) hwe (by decide) (by decide) (by decide) (by decide) (by decide) (by decide) rfl (fun c w => rfl) hfw hg) ?_
  rintro o H' ⟨h1, fl', w', h2, h3, rfl⟩
  exact ⟨h1, fl', w', h2, h3, rfl⟩
theorem c_WE_make31 {g : Nat → Nat} (hwe : WEok we) (hfw : isN tw 19 g) (hg : ∀ i, i < 19 → g i ≤ 1025) : xCr l x 1 0 0 mWE_makeLengths [.ref 33, .ref 42, .int 7, .ref 31] (hc s0 T R P (k1, k2, k3, (tc, mL, mD, mK, WL, WD, WK, we, row, ts, tn, tw), (pl, pv, fwL, fwD), k6, hd) u Z) (fun o H' => o = none ∧ ∃ fl' w', isN fl' 19 (lbw g 19 7) ∧ WEok w' ∧ H' = hc s0 T R P (k1, k2, k3, (tc, mL, mD, mK, WL, WD, (WK.1, fl', WK.2.2), w', row, ts, tn, tw), (pl, pv, fwL, fwD), k6, hd) u Z) := by
  refine xCr.mo (c_WE_makeLengths (C := fun i => ((hc s0 T R P (k1, k2, k3, (tc, mL, mD, mK, WL, WD, WK, we, row, ts, tn, tw), (pl, pv, fwL, fwD), k6, hd) u Z)[i]?).getD s0) (Z := List.drop 39 (hc s0 T R P (k1, k2, k3, (tc, mL, mD, mK, WL, WD, WK, we, row, ts, tn, tw), (pl, pv, fwL, fwD), k6, hd) u Z)) (r1 := 42) (r3 := 31) (n := 19) (m := 7) (fl := WK.2.1) (fw := tw) (w := we) (g := g) hwe (by decide) (by decide) (by decide) (by decide) (by decide) (by decide) rfl (fun c w => rfl) hfw hg) ?_
  rintro o H' ⟨h1, fl', w', h2, h3, rfl⟩
  exact ⟨h1, fl', w', h2, h3, rfl⟩
/-- the made codes are those of the block from p0 -/
def MCok (t : Nat → Nat) (n p0 : Nat) (m : wMC) : Prop := m.1 = (mtl t n p0).1 ∧ m.2.1 = nLt t n p0 ∧ m.2.2.1 = nDs t n p0 ∧ m.2.2.2.1 = nKs t n p0 ∧ isN m.2.2.2.2.1.2.1 286 (mkL t n p0) ∧ isN m.2.2.2.2.2.1.2.1 30 (mkD t n p0) ∧ isN m.2.2.2.2.2.2.1.2.1 19 (mkK t n p0) ∧ tOK (mtl t n p0) m.2.2.2.2.2.2.2.2.2.1 m.2.2.2.2.2.2.2.2.2.2.1
theorem mk_le (t : Nat → Nat) (n p0 i : Nat) : mkL t n p0 i ≤ 15 ∧ mkD t n p0 i ≤ 15 ∧ mkK t n p0 i ≤ 7 := ⟨lbw_le (by decide) (by decide) i, lbw_le (by decide) (by decide) i, lbw_le (by decide) (by decide) i⟩
theorem nLt_ok {t : Nat → Nat} (ht : ∀ i, t i < 256) {n p0 : Nat} (h : 1 ≤ npc t n p0) : 257 ≤ nLt t n p0 ∧ nLt t n p0 ≤ 286 ∧ 1 ≤ nDs t n p0 ∧ nDs t n p0 ≤ 30 := by
  have a : 1 ≤ mkL t n p0 256 := lbw_1 (by decide) (by decide) (by decide) (wLt_256 ht n p0 _) (wLt_two ht h)
  have b := lst_gt (g := mkL t n p0) (k := 256) a 286 (by decide)
  have c := lst_le (mkL t n p0) 286
  have e := lst_le (mkD t n p0) 30
  unfold nLt nDs
  refine ⟨by omega, c, ?_, ?_⟩ <;> split <;> omega
theorem mrw_lt {t : Nat → Nat} {n p0 i : Nat} : mrw t n p0 i < 16 := by
  unfold mrw
  split
  · have := (mk_le t n p0 i).1; omega
  · have := (mk_le t n p0 (i - nLt t n p0)).2.1; omega
theorem mtl_ok {t : Nat → Nat} (ht : ∀ i, t i < 256) {n p0 : Nat} (h : 1 ≤ npc t n p0) : tsm (mtl t n p0) ∧ (mtl t n p0).1 ≤ 316 := by
  have a := nLt_ok ht h
  have b := trow_ok (g := mrw t n p0) (n := nLt t n p0 + nDs t n p0) (fun i _ => mrw_lt) (nLt t n p0 + nDs t n p0) 0 (0, fun _ => 0, fun _ => 0) (fun i hi => absurd hi (Nat.not_lt_zero _)) (Nat.le_refl _) (Nat.zero_le _)
  exact ⟨b.1, by unfold mtl told; omega⟩
theorem c_MC_make (hT : ∀ i, T.1 i < 256) {p0 : Nat} (hnp : 1 ≤ npc T.1 T.2 p0) (hwe : WEok we) (hL : isN fwL 286 (wLt T.1 T.2 p0 (npc T.1 T.2 p0))) (hD : isN fwD 30 (wDt T.1 T.2 p0 (npc T.1 T.2 p0))) : xCr l x 3 0 0 mMC_make [.ref 20, .ref 45, .ref 46] (hc s0 T R P (k1, k2, k3, (tc, mL, mD, mK, WL, WD, WK, we, row, ts, tn, tw), (pl, pv, fwL, fwD), k6, hd) u Z) (fun o H' => o = none ∧ ∃ k4 : wMC, MCok T.1 T.2 p0 k4 ∧ WEok k4.2.2.2.2.2.2.2.1 ∧ H' = hc s0 T R P (k1, k2, k3, k4, (pl, pv, fwL, fwD), k6, hd) u Z) := by
  have hnb := (npc_ok T.1 T.2 p0).1
  obtain ⟨n1, n2, n3, n4⟩ := nLt_ok hT hnp
  obtain ⟨m1, m2⟩ := mtl_ok hT hnp
  refine xCt.of (by decide) rfl ck_MC_make (Nat.le_of_ble_eq_true rfl) rfl ?_
  generalize List.length (hc s0 T R P (k1, k2, k3, (tc, mL, mD, mK, WL, WD, WK, we, row, ts, tn, tw), (pl, pv, fwL, fwD), k6, hd) u Z) = n0
  refine b_MC_make_0 ⟨_, ⟨_, rfl, rfl⟩, _, ⟨_, rfl, rfl⟩, _, ⟨_, rfl, rfl⟩, ?_⟩
  refine xs_callV rfl lk_3_48 (d' := 1) (c_WE_make23 hwe hL (fun i _ => by have := wLt_le T.1 T.2 p0 (npc T.1 T.2 p0) i; omega)) (Nat.le_of_ble_eq_true rfl) rfl rfl rfl rfl rfl (Nat.le_of_ble_eq_true rfl) (by omega) (by omega) ?_
  rintro _ H1 ⟨rfl, fl1, we1, hf1, hw1, rfl⟩
  refine b_MC_make_8 ⟨_, ⟨_, rfl, rfl⟩, _, ⟨_, rfl, rfl⟩, _, ⟨_, rfl, rfl⟩, ?_⟩
  refine xs_callV rfl lk_3_48 (d' := 1) (c_WE_make27 hw1 hD (fun i _ => by have := wDt_le T.1 T.2 p0 (npc T.1 T.2 p0) i; omega)) (Nat.le_of_ble_eq_true rfl) rfl rfl rfl rfl rfl (Nat.le_of_ble_eq_true rfl) (by omega) (by omega) ?_
  rintro _ H1 ⟨rfl, fl2, we2, hf2, hw2, rfl⟩
  refine b_MC_make_16 ⟨_, ⟨_, rfl, rfl⟩, ?_⟩
  refine xs_callV rfl lk_3_52 (d' := 0) (c_WC_many (r := 21) (a1 := 23) (N := 286) (fl := fl1) (g := mkL T.1 T.2 p0) rfl rfl (by decide) hf1 (fun i _ => by have := (mk_le T.1 T.2 p0 i).1; omega)) (Nat.le_of_ble_eq_true rfl) rfl rfl rfl rfl rfl (Nat.le_of_ble_eq_true rfl) (by omega) (by omega) ?_
  rintro _ H1 ⟨rfl, rfl⟩
  refine b_MC_make_20 ⟨_, rfl, Nat.le_of_ble_eq_true rfl, fun H2 e2 => ?_⟩
  try simp (disch := omega) only [nI_lit, nI_fold, nI_mul, nI_add, pk_sub, pk_div, nI_shrN, nI_clamp] at e2
  subst e2
  refine ⟨_, ⟨_, rfl, rfl⟩, ?_⟩
  refine xs_callV rfl lk_3_52 (d' := 0) (c_WC_many (r := 25) (a1 := 27) (N := 30) (fl := fl2) (g := mkD T.1 T.2 p0) rfl rfl (by decide) hf2 (fun i _ => by have := (mk_le T.1 T.2 p0 i).2.1; omega)) (Nat.le_of_ble_eq_true rfl) rfl rfl rfl rfl rfl (Nat.le_of_ble_eq_true rfl) (by omega) (by omega) ?_
  rintro _ H1 ⟨rfl, rfl⟩
  refine xs_callS rfl lk_3_60 (d' := 0) (c_MA_max) (Nat.le_of_ble_eq_true rfl) rfl rfl (Nat.le_of_ble_eq_true rfl) (by omega) (by omega) ?_
  rintro _ H1 ⟨rfl, rfl⟩
  have hmx : (if (1 : Int32) < nI (lst (mkD T.1 T.2 p0) 30) then nI (lst (mkD T.1 T.2 p0) 30) else 1) = nI (nDs T.1 T.2 p0) := by
    have e := lst_le (mkD T.1 T.2 p0) 30
    unfold nDs
    by_cases h0 : lst (mkD T.1 T.2 p0) 30 = 0
    · rw [if_pos h0, h0]; rfl
    · rw [if_neg h0]
      by_cases h1 : lst (mkD T.1 T.2 p0) 30 = 1
      · rw [h1]; rfl
      · rw [if_pos (by rw [show (1 : Int32) = nI 1 from rfl, nI_ltI (by decide) (by omega)]; omega)]
  rw [hmx, show lst (mkL T.1 T.2 p0) 286 = nLt T.1 T.2 p0 from rfl]
  refine b_MC_make_27 ⟨_, rfl, Nat.le_of_ble_eq_true rfl, fun H2 e2 => ?_⟩
  try simp (disch := omega) only [nI_lit, nI_fold, nI_mul, nI_add, pk_sub, pk_div, nI_shrN, nI_clamp] at e2
  subst e2
  refine ⟨_, ⟨_, rfl, rfl⟩, _, ⟨_, rfl, rfl⟩, _, ⟨_, rfl, rfl⟩, _, ⟨_, rfl, rfl⟩, ?_⟩
  refine xs_copy rfl la_3_69 (t := 0) (r0 := 23) (r1 := 39) (m0 := 286) (m1 := 316) (f := fl1) (g := row) (Or.inl rfl) rfl rfl (by decide) (by decide) (by decide) (by decide) (nI_pos (by omega)) ?_ ?_ (fun i _ => rfl) (by decide) (Nat.le_of_ble_eq_true rfl) ?_
  · rw [nI_clamp (by omega), show (0 : Int32).toNatClampNeg = 0 from rfl]; omega
  · rw [nI_clamp (by omega), show (0 : Int32).toNatClampNeg = 0 from rfl]; omega
  try dsimp only
  repeat rw [nI_clamp (by omega)]
  rw [show (0 : Int32).toNatClampNeg = 0 from rfl]
  refine b_MC_make_38 ⟨_, ⟨_, rfl, rfl⟩, _, ⟨_, rfl, rfl⟩, _, ⟨_, rfl, rfl⟩, _, ⟨_, rfl, rfl⟩, _, ⟨_, rfl, rfl⟩, ?_⟩
  refine xs_copy rfl la_3_69 (t := 0) (r0 := 27) (r1 := 39) (m0 := 30) (m1 := 316) (f := fl2) (g := va_cpy fl1 row 0 0 (nLt T.1 T.2 p0)) (Or.inl rfl) rfl rfl (by decide) (by decide) (by decide) (nI_pos (by omega)) (nI_pos (by omega)) ?_ ?_ (fun i _ => rfl) (by decide) (Nat.le_of_ble_eq_true rfl) ?_
  · rw [nI_clamp (by omega), show (0 : Int32).toNatClampNeg = 0 from rfl]; omega
  · rw [nI_clamp (by omega), nI_clamp (by omega)]; omega
  try dsimp only
  repeat rw [nI_clamp (by omega)]
  rw [show (0 : Int32).toNatClampNeg = 0 from rfl]
  have hrow : ∀ i, i < nLt T.1 T.2 p0 + nDs T.1 T.2 p0 → va_cpy fl2 (va_cpy fl1 row 0 0 (nLt T.1 T.2 p0)) 0 (nLt T.1 T.2 p0) (nDs T.1 T.2 p0) i = nI (mrw T.1 T.2 p0 i) ∧ mrw T.1 T.2 p0 i < 16 := by
    intro i hi
    refine ⟨?_, mrw_lt⟩
    unfold va_cpy mrw
    by_cases h : i < nLt T.1 T.2 p0
    · rw [if_pos h, if_neg (by omega), if_pos (by omega)]
      have := hf1 (0 + (i - 0)) (by omega)
      rw [show 0 + (i - 0) = i by omega] at this ⊢
      exact this
    · rw [if_neg h, if_pos (by omega)]
      have := hf2 (0 + (i - nLt T.1 T.2 p0)) (by omega)
      rw [show 0 + (i - nLt T.1 T.2 p0) = i - nLt T.1 T.2 p0 by omega] at this ⊢
      exact this
  generalize va_cpy fl2 (va_cpy fl1 row 0 0 (nLt T.1 T.2 p0)) 0 (nLt T.1 T.2 p0) (nDs T.1 T.2 p0) = row2 at hrow
  refine b_MC_make_49 ⟨_, ⟨_, rfl, rfl⟩, _, ⟨_, rfl, rfl⟩, ?_⟩
  try simp (disch := omega) only [nI_lit, nI_fold, nI_mul, nI_add, pk_sub, pk_div, nI_shrN, nI_clamp]
  refine xs_callV rfl lk_3_75 (d' := 2) (c_MC_tellRow (g := mrw T.1 T.2 p0) (n := nLt T.1 T.2 p0 + nDs T.1 T.2 p0) (by omega) (by omega) hrow) (Nat.le_of_ble_eq_true rfl) rfl rfl rfl rfl rfl (Nat.le_of_ble_eq_true rfl) (by omega) (by omega) ?_
  rintro _ H1 ⟨rfl, ts2, tn2, ht2, rfl⟩
  rw [show told (mrw T.1 T.2 p0) (nLt T.1 T.2 p0 + nDs T.1 T.2 p0) = mtl T.1 T.2 p0 from rfl] at ht2 ⊢
  refine b_MC_make_56 ?_
  refine xs_callV rfl lk_3_78 (d' := 1) (c_MC_weighTold (s := mtl T.1 T.2 p0) ht2 m1 m2) (Nat.le_of_ble_eq_true rfl) rfl rfl rfl rfl rfl (Nat.le_of_ble_eq_true rfl) (by omega) (by omega) ?_
  rintro _ H1 ⟨rfl, tw2, htw, rfl⟩
  refine b_MC_make_58 ⟨_, ⟨_, rfl, rfl⟩, _, ⟨_, rfl, rfl⟩, _, ⟨_, rfl, rfl⟩, _, ⟨_, rfl, rfl⟩, ?_⟩
  have htwb : ∀ i, i < 19 → tw1 (twt (mtl T.1 T.2 p0) (mtl T.1 T.2 p0).1) i ≤ 1025 := by
    intro i hi
    have := twt_le (mtl T.1 T.2 p0) (mtl T.1 T.2 p0).1 i
    unfold tw1
    split
    · split
      · unfold nup; split; decide; omega
      · unfold nup; split; decide; omega
    · omega
  refine xs_callV rfl lk_3_48 (d' := 1) (c_WE_make31 hw2 htw htwb) (Nat.le_of_ble_eq_true rfl) rfl rfl rfl rfl rfl (Nat.le_of_ble_eq_true rfl) (by omega) (by omega) ?_
  rintro _ H1 ⟨rfl, fl3, we3, hf3, hw3, rfl⟩
  rw [show lbw (tw1 (twt (mtl T.1 T.2 p0) (mtl T.1 T.2 p0).1)) 19 7 = mkK T.1 T.2 p0 from rfl] at hf3
  refine b_MC_make_67 ⟨_, rfl, Nat.le_of_ble_eq_true rfl, fun H2 e2 => ?_⟩
  try simp (disch := omega) only [nI_lit, nI_fold, nI_mul, nI_add, pk_sub, pk_div, nI_shrN, nI_clamp] at e2
  subst e2
  have h70 : ∀ (m : Nat) (cl : Bool), 4 ≤ m → m ≤ 19 → kdc (mkK T.1 T.2 p0) m = nKs T.1 T.2 p0 → xW l x 3 0 0 mMC_make n0 (fun r H' => ∃ o, r = Sum.inl o ∧ o = none ∧ ∃ k4 : wMC, MCok T.1 T.2 p0 k4 ∧ WEok k4.2.2.2.2.2.2.2.1 ∧ H' = hc s0 T R P (k1, k2, k3, k4, (pl, pv, fwL, fwD), k6, hd) u Z) cl 70 [some (.ref 20), some (.ref 45), some (.ref 46)] [] (hc s0 T R P (k1, k2, k3, ((mtl T.1 T.2 p0).1, nLt T.1 T.2 p0, nDs T.1 T.2 p0, m, (WL.1, fl1, WL.2.2), (WD.1, fl2, WD.2.2), (WK.1, fl3, WK.2.2), we3, row2, ts2, tn2, tw2), (pl, pv, fwL, fwD), k6, hd) u Z) 0 0 := by
    intro m
    induction m with
    | zero => intro cl h; omega
    | succ m ih =>
      intro cl h4 h19 hz
      unfold kdc at hz
      refine b_MC_make_70 ⟨_, ⟨_, rfl, rfl⟩, ?_⟩
      refine ⟨fun hb => ?_, fun hb => ?_⟩ <;> (try simp (disch := omega) only [nI_lit, nI_fold, nI_mul, nI_add, pk_sub, pk_div, nI_shrN, nI_clamp, nI_leI, nI_ltI, nI_eq, not_true_eq_false, not_false_eq_true, Bool.false_eq_true, if_true, if_false, nI_nem, nI_m1, nI_m7, nI_m15, nI_m32, nI_m4, nI_m8, nI_m16, nI_m2] at hb) <;> (try omega)
      · rw [if_pos hb] at hz
        refine ⟨rfl, Nat.le_refl _, _, rfl, rfl, _, ⟨rfl, rfl, rfl, hz, hf1, hf2, hf3, ht2⟩, hw3, rfl⟩
      rw [if_neg hb] at hz
      obtain ⟨o1, o2⟩ := ord_N m (by omega)
      have hk := (mk_le T.1 T.2 p0 (ordN m)).2.2
      refine ⟨_, ⟨_, rfl, rfl⟩, _, ⟨_, rfl, rfl⟩, _, ⟨_, rfl, rfl⟩, _, _, rfl, ?_, ?_⟩
      · rw [nI_pred]; exact vp_in_nI (by omega) (by decide)
      try dsimp only
      rw [nI_pred, nI_clamp (by omega), o1]
      refine ⟨_, _, rfl, vp_in_nI (by omega) (by decide), ?_⟩
      try dsimp only
      repeat rw [nI_clamp (by omega)]
      rw [hf3 _ o2]
      refine ⟨fun hcq => ?_, fun hcq => ?_⟩ <;> (try simp (disch := omega) only [nI_lit, nI_fold, nI_mul, nI_add, pk_sub, pk_div, nI_shrN, nI_clamp, nI_leI, nI_ltI, nI_eq, not_true_eq_false, not_false_eq_true, Bool.false_eq_true, if_true, if_false, nI_nem, nI_m1, nI_m7, nI_m15, nI_m32, nI_m4, nI_m8, nI_m16, nI_m2] at hcq) <;> (try omega)
      · rw [if_neg hcq] at hz
        refine ⟨rfl, Nat.le_refl _, _, rfl, rfl, _, ⟨rfl, rfl, rfl, hz, hf1, hf2, hf3, ht2⟩, hw3, rfl⟩
      · rw [if_pos hcq] at hz
        refine ⟨_, ⟨_, rfl, rfl⟩, _, rfl, Nat.le_of_ble_eq_true rfl, fun H11 e11 => ?_⟩
        rw [nI_pred] at e11
        subst e11
        exact ih false (by omega) (by omega) hz
  exact h70 19 false (by decide) (Nat.le_refl _) rfl
end Made
