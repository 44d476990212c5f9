/-! the weights of what is told -/
theorem nzs_le (w : Nat → Nat) : ∀ N, nzs w N ≤ N := by
  intro N
  induction N with
  | zero => exact Nat.le_refl _
  | succ N ih => unfold nzs; split <;> omega
theorem nzs_0 : ∀ N, nzs (fun _ => 0) N = 0 := by
  intro N
  induction N with
  | zero => rfl
  | succ N ih => unfold nzs; rw [ih, if_neg (Nat.lt_irrefl 0)]
def hV (C : Nat → va_E) (tc : Nat) (x1 x2 x3 : Int32) (ts tw : wF) (Z : xH) : xH := C 0 :: C 1 :: C 2 :: C 3 :: C 4 :: C 5 :: C 6 :: C 7 :: C 8 :: C 9 :: C 10 :: C 11 :: C 12 :: C 13 :: C 14 :: C 15 :: C 16 :: C 17 :: C 18 :: C 19 :: .inr (3, [.ref 21, .ref 25, .ref 29, .ref 33, .ref 39, .ref 40, .ref 41, .ref 42, .int (nI tc), .int x1, .int x2, .int x3]) :: C 21 :: C 22 :: C 23 :: C 24 :: C 25 :: C 26 :: C 27 :: C 28 :: C 29 :: C 30 :: C 31 :: C 32 :: C 33 :: C 34 :: C 35 :: C 36 :: C 37 :: C 38 :: C 39 :: aI 316 ts :: C 41 :: aI 19 tw :: Z
section Wtold
variable {l : Launch} {x : xX} {d : Nat} {C : Nat → va_E} {x1 x2 x3 : Int32} {ts tn tw : wF} {Z : xH} {s : tS}
theorem c_MC_wtold (hs : tOK s ts tn) (hsm : tsm s) (hcq : s.1 ≤ 316) : xCr l x 1 0 0 mMC_weighTold [.ref 20] (hV C (s.1) x1 x2 x3 ts (tw) Z) (fun o H' => o = none ∧ ∃ tw', isN tw' 19 (tw1 (twt s s.1)) ∧ H' = hV C (s.1) x1 x2 x3 ts (tw') Z) := by
  refine xCt.of (by decide) rfl ck_MC_weighTold (Nat.le_of_ble_eq_true rfl) rfl ?_
  generalize List.length (hV C (s.1) x1 x2 x3 ts (tw) Z) = n0
  refine b_MC_weighTold_0 ⟨_, ⟨_, rfl, rfl⟩, ?_⟩
  refine xs_callS rfl lk_3_116 (d' := 0) (c_AR_fill (N := 19) (f := tw) rfl (by decide) (by decide)) (Nat.le_of_ble_eq_true rfl) rfl rfl (Nat.le_of_ble_eq_true rfl) (by omega) (by omega) ?_
  rintro _ H1 ⟨rfl, rfl⟩
  have hfil : isN (x_fil tw 0 0 19) 19 (twt s 0) := fun i hi => by unfold x_fil; rw [if_pos ⟨Nat.zero_le _, hi⟩]; rfl
  refine b_MC_weighTold_4 ?_
  have h : ∀ (j i kk : Nat) (tw : wF) (cl : Bool), i + j = s.1 → kk = nzs (twt s i) 19 → isN tw 19 (twt s i) → xW l x 1 0 0 mMC_weighTold n0 (fun r H' => ∃ o, r = Sum.inl o ∧ o = none ∧ ∃ tw', isN tw' 19 (tw1 (twt s s.1)) ∧ H' = hV C (s.1) x1 x2 x3 ts (tw') Z) cl 8 [some (.ref 20), some (.int (nI kk)), some (.int (nI i))] [] (hV C (s.1) x1 x2 x3 ts (tw) Z) 0 0 := by
    intro j
    induction j with
    | zero =>
      intro i kk tw cl hi hkk ht
      have : i = s.1 := by omega
      subst this
      have hz := nzs_le (twt s s.1) 19
      have h0 := ht 0 (by decide)
      have hle := twt_le s s.1 0
      unfold tw1
      refine b_MC_weighTold_8 ⟨_, ⟨_, rfl, rfl⟩, ?_⟩
      refine ⟨fun hb => ?_, fun hb => ?_⟩ <;> (try simp (disch := omega) only [nI_lit, nI_fold, nI_mul, nI_add, pk_sub, pk_div, nI_shrN, nI_clamp, nI_leI, nI_ltI, nI_eq, not_true_eq_false, not_false_eq_true, Bool.false_eq_true, if_true, if_false, nI_nem, nI_m1, nI_m7, nI_m15, nI_m32, nI_m4, nI_m8, nI_m16, nI_m2] at hb) <;> (try omega)
      refine ⟨fun hcq => ?_, fun hcq => ?_⟩ <;> (try simp (disch := omega) only [nI_lit, nI_fold, nI_mul, nI_add, pk_sub, pk_div, nI_shrN, nI_clamp, nI_leI, nI_ltI, nI_eq, not_true_eq_false, not_false_eq_true, Bool.false_eq_true, if_true, if_false, nI_nem, nI_m1, nI_m7, nI_m15, nI_m32, nI_m4, nI_m8, nI_m16, nI_m2] at hcq) <;> (try omega)
      · rw [if_neg (by rw [← hkk]; exact hcq)]
        refine ⟨rfl, Nat.le_refl _, _, rfl, ⟨rfl, tw, ht, rfl⟩⟩
      · rw [if_pos (by rw [← hkk]; exact hcq)]
        refine ⟨_, ⟨_, rfl, rfl⟩, _, ⟨_, rfl, rfl⟩, _, _, rfl, vp_in_nI (n := 0) (by decide) (by decide), ?_⟩
        try dsimp only
        rw [show (0 : Int32).toNatClampNeg = 0 from rfl, h0]
        refine ⟨fun hd => ?_, fun hd => ?_⟩ <;> (try simp (disch := omega) only [nI_lit, nI_fold, nI_mul, nI_add, pk_sub, pk_div, nI_shrN, nI_clamp, nI_leI, nI_ltI, nI_eq, not_true_eq_false, not_false_eq_true, Bool.false_eq_true, if_true, if_false, nI_nem, nI_m1, nI_m7, nI_m15, nI_m32, nI_m4, nI_m8, nI_m16, nI_m2] at hd) <;> (try omega)
        · rw [if_neg hd]
          refine ⟨_, _, rfl, Nat.le_of_ble_eq_true rfl, vp_in_nI (n := 1) (by decide) (by decide), fun H8 e8 => ?_⟩
          rw [show (1 : Int32).toNatClampNeg = 1 from rfl] at e8
          subst e8
          refine ⟨rfl, Nat.le_refl _, _, rfl, rfl, upd tw 1 1, fun i hi => ?_, rfl⟩
          unfold upd nup
          split
          · rfl
          · exact ht i hi
        · rw [if_pos hd]
          refine ⟨_, _, rfl, Nat.le_of_ble_eq_true rfl, vp_in_nI (n := 0) (by decide) (by decide), fun H8 e8 => ?_⟩
          subst e8
          refine ⟨rfl, Nat.le_refl _, _, rfl, rfl, upd tw 0 1, fun i hi => ?_, rfl⟩
          unfold upd nup
          split
          · rfl
          · exact ht i hi
    | succ j ih =>
      intro i kk tw cl hi hkk ht
      have y1 := (hs i (by omega)).1
      have y2 := (hsm i (by omega)).1
      have hle := twt_le s i (s.2.1 i)
      have hup := nzs_up (w := twt s i) (a := s.2.1 i) 19
      have hz := nzs_le (twt s i) 19
      have ht2 : isN (upd tw (s.2.1 i) (nI (twt s i (s.2.1 i) + 1))) 19 (twt s (i + 1)) := by
        intro q hq
        show upd tw (s.2.1 i) _ q = nI (nup (twt s i) (s.2.1 i) (twt s i (s.2.1 i) + 1) q)
        unfold upd nup
        split
        · rfl
        · exact ht q hq
      have ih := fun kk h => ih (i + 1) kk _ false (by omega) h ht2
      refine b_MC_weighTold_8 ⟨_, ⟨_, rfl, rfl⟩, ?_⟩
      refine ⟨fun hb => ?_, fun hb => ?_⟩ <;> (try simp (disch := omega) only [nI_lit, nI_fold, nI_mul, nI_add, pk_sub, pk_div, nI_shrN, nI_clamp, nI_leI, nI_ltI, nI_eq, not_true_eq_false, not_false_eq_true, Bool.false_eq_true, if_true, if_false, nI_nem, nI_m1, nI_m7, nI_m15, nI_m32, nI_m4, nI_m8, nI_m16, nI_m2] at hb) <;> (try omega)
      refine ⟨_, ⟨_, rfl, rfl⟩, _, ⟨_, rfl, rfl⟩, _, _, rfl, vp_in_nI (by omega) (by decide), ?_⟩
      try dsimp only
      repeat rw [nI_clamp (by omega)]
      rw [y1]
      refine ⟨_, _, rfl, vp_in_nI (by omega) (by decide), ?_⟩
      try dsimp only
      repeat rw [nI_clamp (by omega)]
      rw [ht _ y2]
      refine ⟨fun hcq => ?_, fun hcq => ?_⟩ <;> (try simp (disch := omega) only [nI_lit, nI_fold, nI_mul, nI_add, pk_sub, pk_div, nI_shrN, nI_clamp, nI_leI, nI_ltI, nI_eq, not_true_eq_false, not_false_eq_true, Bool.false_eq_true, if_true, if_false, nI_nem, nI_m1, nI_m7, nI_m15, nI_m32, nI_m4, nI_m8, nI_m16, nI_m2] at hcq) <;> (try omega)
      · have ih := ih kk (by rw [show twt s (i + 1) = nup (twt s i) (s.2.1 i) (twt s i (s.2.1 i) + 1) from rfl, hup, if_neg (by omega)]; exact hkk)
        refine ⟨_, ⟨_, rfl, rfl⟩, _, ⟨_, rfl, rfl⟩, _, _, rfl, vp_in_nI (by omega) (by decide), ?_⟩
        try dsimp only
        repeat rw [nI_clamp (by omega)]
        rw [y1]
        refine ⟨_, _, rfl, vp_in_nI (by omega) (by decide), _, _, rfl, Nat.le_of_ble_eq_true rfl, vp_in_nI (by omega) (by decide), fun H26 e26 => ?_⟩
        try dsimp only at e26
        rw [nI_clamp (by omega), ht _ y2, nI_1] at e26
        subst e26
        rw [nI_1]
        exact ih
      · have ih := ih (kk + 1) (by rw [show twt s (i + 1) = nup (twt s i) (s.2.1 i) (twt s i (s.2.1 i) + 1) from rfl, hup, if_pos (by omega), hkk])
        refine ⟨_, ⟨_, rfl, rfl⟩, _, ⟨_, rfl, rfl⟩, _, _, rfl, vp_in_nI (by omega) (by decide), ?_⟩
        try dsimp only
        repeat rw [nI_clamp (by omega)]
        rw [y1]
        refine ⟨_, _, rfl, vp_in_nI (by omega) (by decide), _, _, rfl, Nat.le_of_ble_eq_true rfl, vp_in_nI (by omega) (by decide), fun H26 e26 => ?_⟩
        try dsimp only at e26
        rw [nI_clamp (by omega), ht _ y2, nI_1] at e26
        subst e26
        rw [nI_1, nI_1]
        exact ih
  exact h s.1 0 0 (x_fil tw 0 0 19) false (by omega) (nzs_0 19).symm hfil
end Wtold
section Wtold2
variable {l : Launch} {x : xX} {d : Nat} {s0 : va_E} {T R : wRow} {P : wRep} {k1 : Nat × Nat × Nat × Nat} {k2 k3 : wWC} {mL mD mK : Nat} {WL WD WK : wWC} {we : wWE} {row ts tn tw : wF} {pl pv fwL fwD : wF} {k6 : wFI} {hd : Nat × Nat} {u : wUN} {Z : xH} {s : tS}
theorem c_MC_weighTold (hs : tOK s ts tn) (hsm : tsm s) (hcq : s.1 ≤ 316) : xCr l x 1 0 0 mMC_weighTold [.ref 20] (hc s0 T R P (k1, k2, k3, (s.1, mL, mD, mK, WL, WD, WK, we, row, ts, tn, tw), (pl, pv, fwL, fwD), k6, hd) u Z) (fun o H' => o = none ∧ ∃ tw', isN tw' 19 (tw1 (twt s s.1)) ∧ H' = hc s0 T R P (k1, k2, k3, (s.1, mL, mD, mK, WL, WD, WK, we, row, ts, tn, tw'), (pl, pv, fwL, fwD), k6, hd) u Z) := by
  have e : ∀ tw', hV (fun i => ((hc s0 T R P (k1, k2, k3, (s.1, mL, mD, mK, WL, WD, WK, we, row, ts, tn, tw), (pl, pv, fwL, fwD), k6, hd) u Z)[i]?).getD s0) s.1 (nI mL) (nI mD) (nI mK) ts tw' (List.drop 43 (hc s0 T R P (k1, k2, k3, (s.1, mL, mD, mK, WL, WD, WK, we, row, ts, tn, tw), (pl, pv, fwL, fwD), k6, hd) u Z)) = hc s0 T R P (k1, k2, k3, (s.1, mL, mD, mK, WL, WD, WK, we, row, ts, tn, tw'), (pl, pv, fwL, fwD), k6, hd) u Z := fun _ => rfl
  have h := c_MC_wtold (l := l) (x := x) (C := fun i => ((hc s0 T R P (k1, k2, k3, (s.1, mL, mD, mK, WL, WD, WK, we, row, ts, tn, tw), (pl, pv, fwL, fwD), k6, hd) u Z)[i]?).getD s0) (x1 := nI mL) (x2 := nI mD) (x3 := nI mK) (tw := tw) (Z := List.drop 43 (hc s0 T R P (k1, k2, k3, (s.1, mL, mD, mK, WL, WD, WK, we, row, ts, tn, tw), (pl, pv, fwL, fwD), k6, hd) u Z)) hs hsm hcq
  rw [e] at h
  refine xCr.mo h ?_
  rintro o H' ⟨h1, tw', h2, rfl⟩
  exact ⟨h1, tw', h2, e tw'⟩
end Wtold2
