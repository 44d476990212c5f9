/-! the constructors, whole -/
def P10 (s0 : va_E) (a b : Value) : xH := [s0, aI 19 x_ord, .inr (0, [.ref 3, .ref 5, .ref 7, .ref 9, a, b]), cRO 4 0, aB 32768 (fun _ => 0), cRO 6 0, aB 65536 (fun _ => 0), cRE 8 0 (-1) 0 0, aI 256 (fun _ => 0), .inr (8, [.ref 10]), aI 256 stp]
def PKl (k2 k3 : wWC) : xH := [.inr (4, [.ref 3, .ref 7, .ref 9, .ref 47, .ref 50, .ref 12, .ref 16, .ref 20, .ref 43, .ref 44, .ref 45, .ref 46, .int 0, .int 0, .int 0, .int 0]), .inr (11, [.ref 14, .ref 15, .ref 13]), aI 17 k2.1, aI 288 k2.2.1, aI 288 k2.2.2, .inr (11, [.ref 18, .ref 19, .ref 17]), aI 17 k3.1, aI 32 k3.2.1, aI 32 k3.2.2, .inr (3, [.ref 21, .ref 25, .ref 29, .ref 33, .ref 39, .ref 40, .ref 41, .ref 42, .int 0, .int 0, .int 0, .int 0]), .inr (11, [.ref 23, .ref 24, .ref 22]), aI 17 (fun _ => 0), aI 286 (fun _ => 0), aI 286 (fun _ => 0), .inr (11, [.ref 27, .ref 28, .ref 26]), aI 17 (fun _ => 0), aI 30 (fun _ => 0), aI 30 (fun _ => 0), .inr (11, [.ref 31, .ref 32, .ref 30]), aI 17 (fun _ => 0), aI 19 (fun _ => 0), aI 19 (fun _ => 0), .inr (10, [.ref 34, .ref 35, .int 0, .ref 36, .ref 37, .ref 38]), aI 286 (fun _ => 0), aI 286 (fun _ => 0), aI 572 (fun _ => 0), aI 572 (fun _ => 0), aZ 8580 (fun _ => 0), aI 316 (fun _ => 0), aI 316 (fun _ => 0), aI 316 (fun _ => 0), aI 19 (fun _ => 0), aI 1024 (fun _ => 0), aI 1024 (fun _ => 0), aI 286 (fun _ => 0), aI 30 (fun _ => 0), .inr (2, [.int 0, .int 0, .ref 3, .ref 48, .ref 49, .int 0, .int 0]), aI 4096 (fun _ => 0), aI 32768 (fun _ => 0), .inr (1, [.ref 5, .int 0, .int 0])]
def UNl (c1 c2 : wRC) (f9 : wF) : xH := [.inr (9, [.ref 3, .ref 5, .ref 7, .ref 9, .ref 52, .ref 56, .ref 60, .ref 64, .ref 68, .ref 72, .int 0, .int 0, .int 0]), cRC 53 54 55 c1.1, aI 16 c1.2.1, aI 288 c1.2.2.1, aI 17 c1.2.2.2, cRC 57 58 59 c2.1, aI 16 c2.2.1, aI 288 c2.2.2.1, aI 17 c2.2.2.2, .inr (5, [.ref 61, .ref 62, .int 0, .ref 63]), aI 16 (fun _ => 0), aI 288 (fun _ => 0), aI 17 (fun _ => 0), .inr (5, [.ref 65, .ref 66, .int 0, .ref 67]), aI 16 (fun _ => 0), aI 288 (fun _ => 0), aI 17 (fun _ => 0), .inr (5, [.ref 69, .ref 70, .int 0, .ref 71]), aI 16 (fun _ => 0), aI 288 (fun _ => 0), aI 17 (fun _ => 0), aI 316 (fun _ => 0), aI 288 f9]
section Ctors
variable {l : Launch} {x : xX} {d : Nat} {s0 : va_E} {H : xH}
theorem c_RP_fixedLength {i : Nat} (hi : i < 288) : xCr l x d 0 0 mRP_fixedLength [.int (nI i)] H (fun o H' => o = some (.int (nI (flen i))) ∧ H' = H) := by
  unfold flen
  refine xCt.of (by decide) rfl ck_RP_fixedLength (Nat.le_of_ble_eq_true rfl) rfl ?_
  refine b_RP_fixedLength_0 ?_
  refine ⟨fun hb => ?_, fun hb => ?_⟩ <;> (try simp (disch := omega) only [nI_lit, nI_fold, nI_mul, nI_add, pk_sub, pk_div, nI_shrN, nI_clamp, nI_leI, nI_ltI, nI_eq, not_true_eq_false, not_false_eq_true, Bool.false_eq_true, if_true, if_false, nI_nem, nI_m1, nI_m7, nI_m15, nI_m32, nI_m4, nI_m8, nI_m16, nI_m2] at hb) <;> (try omega)
  case refine_2 =>
    rw [if_pos (by omega)]
    refine ⟨rfl, Nat.le_refl _, _, rfl, ⟨rfl, rfl⟩⟩
  rw [if_neg (by omega)]
  refine ⟨fun hc => ?_, fun hc => ?_⟩ <;> (try simp (disch := omega) only [nI_lit, nI_fold, nI_mul, nI_add, pk_sub, pk_div, nI_shrN, nI_clamp, nI_leI, nI_ltI, nI_eq, not_true_eq_false, not_false_eq_true, Bool.false_eq_true, if_true, if_false, nI_nem, nI_m1, nI_m7, nI_m15, nI_m32, nI_m4, nI_m8, nI_m16, nI_m2] at hc) <;> (try omega)
  case refine_2 =>
    rw [if_pos (by omega)]
    refine ⟨rfl, Nat.le_refl _, _, rfl, ⟨rfl, rfl⟩⟩
  rw [if_neg (by omega)]
  refine ⟨fun hd => ?_, fun hd => ?_⟩ <;> (try simp (disch := omega) only [nI_lit, nI_fold, nI_mul, nI_add, pk_sub, pk_div, nI_shrN, nI_clamp, nI_leI, nI_ltI, nI_eq, not_true_eq_false, not_false_eq_true, Bool.false_eq_true, if_true, if_false, nI_nem, nI_m1, nI_m7, nI_m15, nI_m32, nI_m4, nI_m8, nI_m16, nI_m2] at hd) <;> (try omega)
  · rw [if_neg (by omega)]
    refine ⟨rfl, Nat.le_refl _, _, rfl, ⟨rfl, rfl⟩⟩
  · rw [if_pos (by omega)]
    refine ⟨rfl, Nat.le_refl _, _, rfl, ⟨rfl, rfl⟩⟩
theorem c_PK_init : xCr l x 4 39 52200 mPK_init [.ref 11, .ref 3, .ref 5, .ref 7, .ref 9] (P10 s0 .null .null ++ [.inr (4, [.null, .null, .null, .null, .null, .null, .null, .null, .null, .null, .null, .null, .int 0, .int 0, .int 0, .int 0])]) (fun o H' => o = none ∧ ∃ k2 k3, PKfix k2 k3 ∧ H' = P10 s0 .null .null ++ PKl k2 k3) := by
  refine xCt.of (by decide) rfl ck_PK_init (Nat.le_of_ble_eq_true rfl) rfl ?_
  refine PK_lin (P := P10 s0 .null .null) rfl (by decide) ?_
  have h : ∀ (j i : Nat) (fl : wF) (cl : Bool), i + j = 288 → (∀ t, t < i → fl t = nI (flen t)) → xW l x 4 39 52200 mPK_init 12 (fun r H' => ∃ o, r = Sum.inl o ∧ o = none ∧ ∃ k2 k3, PKfix k2 k3 ∧ H' = P10 s0 .null .null ++ PKl k2 k3) cl 58 [some (.ref 11), some (.ref 3), some (.ref 5), some (.ref 7), some (.ref 9), some (.int (nI i))] [] (P10 s0 .null .null ++ PKl ((fun _ => 0), fl, (fun _ => 0)) ((fun _ => 0), (fun _ => 0), (fun _ => 0))) 39 52200 := by
    intro j
    induction j with
    | zero =>
      intro i fl cl hi hfl
      have : i = 288 := by omega
      subst this
      refine b_PK_init_58 ⟨fun _ => ?_, fun h => absurd (by decide) h⟩
      refine ⟨_, ⟨_, rfl, rfl⟩, _, ⟨_, rfl, rfl⟩, ?_⟩
      refine xs_callS rfl lk_4_78 (d' := 0) (c_AR_fill (N := 32) (f := fun _ => 0) (v := 5) rfl (by decide) (by decide)) (Nat.le_of_ble_eq_true rfl) rfl rfl (Nat.le_of_ble_eq_true rfl) (by omega) (by omega) ?_
      rintro _ H1 ⟨rfl, rfl⟩
      have hf5 : isN (x_fil (fun _ => 0) 5 0 32) 32 (fun _ => 5) := fun i hi => by unfold x_fil; rw [if_pos ⟨Nat.zero_le _, hi⟩]; rfl
      have e : ∀ f, List.set (P10 s0 .null .null ++ PKl ((fun _ => 0), fl, (fun _ => 0)) ((fun _ => 0), (fun _ => 0), (fun _ => 0))) 18 (aI 32 f) = P10 s0 .null .null ++ PKl ((fun _ => 0), fl, (fun _ => 0)) ((fun _ => 0), f, (fun _ => 0)) := fun _ => rfl
      rw [e]
      generalize x_fil (fun _ => 0) 5 0 32 = f5 at hf5
      refine b_PK_init_75 ⟨_, ⟨_, rfl, rfl⟩, ?_⟩
      refine xs_callV rfl lk_4_84 (d' := 1) (c_WC_makeWords (r := 12) (a1 := 14) (a2 := 15) (a3 := 13) (N := 288) (g := flen) (fw := fun _ => 0) (fn := fun _ => 0) (Nat.le_refl _) ⟨rfl, ⟨fl, rfl, hfl⟩, by decide, by decide, by decide, by decide, by decide, by decide, fun i _ => flen_le i⟩ rfl rfl) (Nat.le_of_ble_eq_true rfl) rfl rfl rfl rfl rfl (Nat.le_of_ble_eq_true rfl) (by omega) (by omega) ?_
      rintro _ H1 ⟨rfl, hfr, fw1, fn1, q1, q2, hfw1⟩
      have hH1 := fr_2 hfr q1 q2
      subst hH1
      clear hfr q1 q2
      refine b_PK_init_78 ⟨_, ⟨_, rfl, rfl⟩, ?_⟩
      refine xs_callV rfl lk_4_84 (d' := 1) (c_WC_makeWords (r := 16) (a1 := 18) (a2 := 19) (a3 := 17) (N := 32) (g := fun _ => 5) (fw := fun _ => 0) (fn := fun _ => 0) (Nat.le_refl _) ⟨rfl, ⟨f5, rfl, hf5⟩, by decide, by decide, by decide, by decide, by decide, by decide, fun i _ => (show 5 ≤ 15 by decide)⟩ rfl rfl) (Nat.le_of_ble_eq_true rfl) rfl rfl rfl rfl rfl (Nat.le_of_ble_eq_true rfl) (by omega) (by omega) ?_
      rintro _ H1 ⟨rfl, hfr, fw2, fn2, q1, q2, hfw2⟩
      have hH1 := fr_2 hfr q1 q2
      subst hH1
      refine b_PK_init_81 ?_
      exact ⟨rfl, Nat.le_refl _, _, rfl, rfl, (fn1, fl, fw1), (fn2, f5, fw2), ⟨hfl, hfw1, hf5, hfw2⟩, rfl⟩
    | succ j ih =>
      intro i fl cl hi hfl
      refine b_PK_init_58 ⟨fun h => absurd h (by rw [show (288 : Int32) = nI 288 from rfl, nI_leI (by decide) (by omega)]; omega), fun _ => ?_⟩
      refine ⟨_, ⟨_, rfl, rfl⟩, _, ⟨_, rfl, rfl⟩, ?_⟩
      refine xs_callSN rfl lk_4_74 (d' := 0) (c_RP_fixedLength (i := i) (by omega)) (Nat.le_of_ble_eq_true rfl) rfl rfl (Nat.le_of_ble_eq_true rfl) (by omega) (by omega) ?_
      rintro _ H1 ⟨rfl, rfl⟩
      refine b_PK_init_67 ⟨_, _, rfl, Nat.le_of_ble_eq_true rfl, vp_in_nI (by omega) (by decide), fun H3 e3 => ?_⟩
      rw [nI_clamp (by omega)] at e3
      have e : ∀ f, List.set (P10 s0 .null .null ++ PKl ((fun _ => 0), fl, (fun _ => 0)) ((fun _ => 0), (fun _ => 0), (fun _ => 0))) 14 (aI 288 f) = P10 s0 .null .null ++ PKl ((fun _ => 0), f, (fun _ => 0)) ((fun _ => 0), (fun _ => 0), (fun _ => 0)) := fun _ => rfl
      have e4 := e3.trans (e (upd fl i (nI (flen i))))
      subst e4
      rw [nI_1]
      refine ih (i + 1) (upd fl i (nI (flen i))) false (by omega) (fun t ht => ?_)
      unfold upd
      split
      · rename_i h; rw [h]
      · exact hfl t (by omega)
  exact h 288 0 (fun _ => 0) false rfl (fun t h => absurd h (Nat.not_lt_zero _))
theorem c_UN_init {k2 k3 : wWC} : xCr l x 4 22 2229 mUN_init [.ref 51, .ref 3, .ref 5, .ref 7, .ref 9] ((P10 s0 (.ref 11) .null ++ PKl k2 k3) ++ [.inr (9, [.null, .null, .null, .null, .null, .null, .null, .null, .null, .null, .int 0, .int 0, .int 0])]) (fun o H' => o = none ∧ ∃ c1 c2 f9, rcOK c1 flen 288 ∧ rcOK c2 (fun _ => 5) 32 ∧ H' = (P10 s0 (.ref 11) .null ++ PKl k2 k3) ++ UNl c1 c2 f9) := by
  refine xCt.of (by decide) rfl ck_UN_init (Nat.le_of_ble_eq_true rfl) rfl ?_
  refine UN_lin (P := P10 s0 (.ref 11) .null ++ PKl k2 k3) rfl (by decide) ?_
  have h : ∀ (j i : Nat) (fl : wF) (cl : Bool), i + j = 288 → (∀ t, t < i → fl t = nI (flen t)) → xW l x 4 22 2229 mUN_init 52 (fun r H' => ∃ o, r = Sum.inl o ∧ o = none ∧ ∃ c1 c2 f9, rcOK c1 flen 288 ∧ rcOK c2 (fun _ => 5) 32 ∧ H' = (P10 s0 (.ref 11) .null ++ PKl k2 k3) ++ UNl c1 c2 f9) cl 48 [some (.ref 51), some (.ref 3), some (.ref 5), some (.ref 7), some (.ref 9), some (.ref 73), some (.int (nI i))] [] ((P10 s0 (.ref 11) .null ++ PKl k2 k3) ++ UNl (0, (fun _ => 0), (fun _ => 0), (fun _ => 0)) (0, (fun _ => 0), (fun _ => 0), (fun _ => 0)) fl) 22 2229 := by
    intro j
    induction j with
    | zero =>
      intro i fl cl hi hfl
      have : i = 288 := by omega
      subst this
      refine b_UN_init_48 ⟨fun _ => ?_, fun h => absurd (by decide) h⟩
      refine ⟨_, ⟨_, rfl, rfl⟩, ?_⟩
      refine xs_callV rfl lk_9_53 (d' := 1) (c_RC_make (d := 1) (r := 52) (b1 := 53) (b2 := 54) (b3 := 55) (a := 73) (M := 288) (fl := fl) (cd := 0) (fc := fun _ => 0) (fs := fun _ => 0) (ft := fun _ => 0) (fm := 0) (n := 288) (g := flen) (Nat.le_refl _) (by unfold RCok; decide) (by decide) (by decide) (by decide) (fun i hi => by rw [Nat.zero_add]; exact hfl i hi) (fun i _ => flen_le i) rfl rfl rfl rfl rfl) (Nat.le_of_ble_eq_true rfl) rfl rfl rfl rfl rfl (Nat.le_of_ble_eq_true rfl) (by omega) (by omega) ?_
      rintro _ H1 ⟨rfl, h2, q0, ⟨fc, q1, q2⟩, ⟨fs, q3, q4⟩, ft, q5⟩
      have hH1 := fr_4 h2 q0 q1 q3 q5
      subst hH1
      clear h2 q0 q1 q3 q5
      refine b_UN_init_64 ?_
      refine xs_callS rfl lk_9_57 (d' := 0) (c_AR_fill (N := 288) (f := fl) (v := 5) rfl (by decide) (by decide)) (Nat.le_of_ble_eq_true rfl) rfl rfl (Nat.le_of_ble_eq_true rfl) (by omega) (by omega) ?_
      rintro _ H1 ⟨rfl, rfl⟩
      have hf5 : ∀ i, i < 32 → x_fil fl 5 0 288 (0 + i) = nI 5 := fun i hi => by unfold x_fil; rw [if_pos ⟨Nat.zero_le _, by omega⟩]; rfl
      generalize x_fil fl 5 0 288 = f5 at hf5
      refine b_UN_init_67 ⟨_, ⟨_, rfl, rfl⟩, ?_⟩
      refine xs_callV rfl lk_9_53 (d' := 1) (c_RC_make (d := 1) (r := 56) (b1 := 57) (b2 := 58) (b3 := 59) (a := 73) (M := 288) (fl := f5) (cd := 0) (fc := fun _ => 0) (fs := fun _ => 0) (ft := fun _ => 0) (fm := 0) (n := 32) (g := fun _ => 5) (Nat.le_refl _) (by unfold RCok; decide) (by decide) (by decide) (by decide) hf5 (fun i _ => (show 5 ≤ 15 by decide)) rfl rfl rfl rfl rfl) (Nat.le_of_ble_eq_true rfl) rfl rfl rfl rfl rfl (Nat.le_of_ble_eq_true rfl) (by omega) (by omega) ?_
      rintro _ H1 ⟨rfl, h2, q0, ⟨fc2, q1, q22⟩, ⟨fs2, q3, q42⟩, ft2, q5⟩
      have hH1 := fr_4 h2 q0 q1 q3 q5
      subst hH1
      refine b_UN_init_73 ?_
      exact ⟨rfl, Nat.le_refl _, _, rfl, rfl, (nI (288 - cnt flen 288 0), fc, fs, ft), (nI (32 - cnt (fun _ => 5) 32 0), fc2, fs2, ft2), f5, ⟨rfl, q2, q4⟩, ⟨rfl, q22, q42⟩, rfl⟩
    | succ j ih =>
      intro i fl cl hi hfl
      refine b_UN_init_48 ⟨fun h => absurd h (by rw [show (288 : Int32) = nI 288 from rfl, nI_leI (by decide) (by omega)]; omega), fun _ => ?_⟩
      refine xs_callSN rfl lk_9_49 (d' := 0) (c_RP_fixedLength (i := i) (by omega)) (Nat.le_of_ble_eq_true rfl) rfl rfl (Nat.le_of_ble_eq_true rfl) (by omega) (by omega) ?_
      rintro _ H1 ⟨rfl, rfl⟩
      refine b_UN_init_55 ⟨_, _, rfl, Nat.le_of_ble_eq_true rfl, vp_in_nI (by omega) (by decide), fun H3 e3 => ?_⟩
      rw [nI_clamp (by omega)] at e3
      have e : ∀ f, List.set ((P10 s0 (.ref 11) .null ++ PKl k2 k3) ++ UNl (0, (fun _ => 0), (fun _ => 0), (fun _ => 0)) (0, (fun _ => 0), (fun _ => 0), (fun _ => 0)) fl) 73 (aI 288 f) = (P10 s0 (.ref 11) .null ++ PKl k2 k3) ++ UNl (0, (fun _ => 0), (fun _ => 0), (fun _ => 0)) (0, (fun _ => 0), (fun _ => 0), (fun _ => 0)) f := fun _ => rfl
      have e4 := e3.trans (e (upd fl i (nI (flen i))))
      subst e4
      rw [nI_1]
      refine ih (i + 1) (upd fl i (nI (flen i))) false (by omega) (fun t ht => ?_)
      unfold upd
      split
      · rename_i h; rw [h]
      · exact hfl t (by omega)
  exact h 288 0 (fun _ => 0) false rfl (fun t h => absurd h (Nat.not_lt_zero _))
end Ctors
