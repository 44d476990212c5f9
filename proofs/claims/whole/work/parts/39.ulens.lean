theorem xCt.mono {l : Launch} {x : xX} {d mc ms : Nat} {μ : xM} {A : List Value} {H : xH} {Q Q' : xO → xH → Prop} (h : xCt l x d mc ms μ A H Q) (hq : ∀ o H', Q o H' → Q' o H') : xCt l x d mc ms μ A H Q' := by
  intro p e h1 h2 h3 s m args below h4 h5 h6 h7
  obtain ⟨n, o, a1, a2, a3, r, H', e1, hq1, hr⟩ := h p e h1 h2 h3 s m args below h4 h5 h6 h7
  exact ⟨n, o, a1, a2, a3, r, H', e1, hq _ _ hq1, hr⟩
theorem xCr.mo {l : Launch} {x : xX} {d mc ms : Nat} {μ : xM} {A : List Value} {H : xH} {Q Q' : Option Value → xH → Prop} (h : xCr l x d mc ms μ A H Q) (hq : ∀ o H', Q o H' → Q' o H') : xCr l x d mc ms μ A H Q' :=
  xCt.mono h (fun _ H' ⟨v, h1, h2⟩ => ⟨v, h1, hq v H' h2⟩)
theorem fr_4 {H H' : xH} {r b1 b2 b3 : Nat} {c0 c1 c2 c3 : va_E} (hf : fr (fun q => q ≠ r ∧ q ≠ b1 ∧ q ≠ b2 ∧ q ≠ b3) H H') (h0 : H'[r]? = some c0) (h1 : H'[b1]? = some c1) (h2 : H'[b2]? = some c2) (h3 : H'[b3]? = some c3) : H' = (((H.set r c0).set b1 c1).set b2 c2).set b3 c3 := by
  have l0 : r < H.length := by rw [← hf.1]; exact (List.getElem?_eq_some_iff.mp h0).1
  have l1 : b1 < H.length := by rw [← hf.1]; exact (List.getElem?_eq_some_iff.mp h1).1
  have l2 : b2 < H.length := by rw [← hf.1]; exact (List.getElem?_eq_some_iff.mp h2).1
  have l3 : b3 < H.length := by rw [← hf.1]; exact (List.getElem?_eq_some_iff.mp h3).1
  apply List.ext_getElem?
  intro i
  rw [List.getElem?_set, List.getElem?_set, List.getElem?_set, List.getElem?_set]
  simp only [List.length_set]
  by_cases e3 : b3 = i
  · rw [if_pos e3, if_pos l3, ← e3]; exact h3
  rw [if_neg e3]
  by_cases e2 : b2 = i
  · rw [if_pos e2, if_pos l2, ← e2]; exact h2
  rw [if_neg e2]
  by_cases e1 : b1 = i
  · rw [if_pos e1, if_pos l1, ← e1]; exact h1
  rw [if_neg e1]
  by_cases e0 : r = i
  · rw [if_pos e0, if_pos l0, ← e0]; exact h0
  rw [if_neg e0]
  exact hf.2 i ⟨fun h => e0 h.symm, fun h => e1 h.symm, fun h => e2 h.symm, fun h => e3 h.symm⟩
def ordN (i : Nat) : Nat := ([16, 17, 18, 0, 8, 7, 9, 6, 10, 5, 11, 4, 12, 3, 13, 2, 14, 1, 15] : List Nat).getD i 0
theorem ord_N : ∀ i, i < 19 → x_ord i = nI (ordN i) ∧ ordN i < 19 := by decide +kernel
/-- the lengths of the code of lengths, c of them told at a -/
def rdcl (t : Nat → Nat) (a : Nat) : Nat → Nat → Nat
  | 0 => fun _ => 0
  | i + 1 => nup (rdcl t a i) (ordN i) (rdn t (a + 3 * i) 3)
theorem rdcl_le (t : Nat → Nat) (a : Nat) : ∀ i j, rdcl t a i j ≤ 7 := by
  intro i
  induction i with
  | zero => intro j; exact Nat.zero_le _
  | succ i ih =>
    intro j
    unfold rdcl nup
    have := rdn_lt t (a + 3 * i) 3
    split
    · omega
    · exact ih j
noncomputable def zcol (t : Nat → Nat) (e a : Nat) : (Nat × Nat) ⊕ ((Nat → Nat) × Nat) := if e < a + 4 then .inl (1, e) else if e < a + 4 + 3 * (4 + rdn t a 4) then .inl (1, e) else if krs (rdcl t (a + 4) (4 + rdn t a 4)) 19 15 = 32768 then .inr (rdcl t (a + 4) (4 + rdn t a 4), a + 4 + 3 * (4 + rdn t a 4)) else .inl (5, a + 4 + 3 * (4 + rdn t a 4))
def filN (f : Nat → Nat) (v i j : Nat) : Nat → Nat := fun k => if i ≤ k ∧ k < j then v else f k
/-- the row of lengths -/
def zrl (t : Nat → Nat) (e : Nat) (g : Nat → Nat) (due : Nat) : Nat → Nat → (Nat → Nat) → Nat → (Nat × Nat) ⊕ ((Nat → Nat) × Nat)
  | 0, _, row, a => .inr (row, a)
  | m + 1, many, row, a => if many < due then
      match zs t e g 19 a with
      | .inl q => .inl q
      | .inr (y, b) => if y < 16 then zrl t e g due m (many + 1) (nup row many y) b
        else if y = 16 ∧ many = 0 then .inl (6, a)
        else if e < b + (if y = 16 then 2 else if y = 17 then 3 else 7) then .inl (1, e)
        else if due - many < rdn t b (if y = 16 then 2 else if y = 17 then 3 else 7) + (if y = 18 then 11 else 3) then .inl (7, a)
        else zrl t e g due m (many + (rdn t b (if y = 16 then 2 else if y = 17 then 3 else 7) + (if y = 18 then 11 else 3))) (filN row (if y = 16 then row (many - 1) else 0) many (many + (rdn t b (if y = 16 then 2 else if y = 17 then 3 else 7) + (if y = 18 then 11 else 3)))) (b + (if y = 16 then 2 else if y = 17 then 3 else 7))
    else .inr (row, a)
/-- a fault is told; all else is as it may be -/
def UF (s0 : va_E) (T : wRow) (P : wRep) (k : wPK) (e : Nat) (c1 c2 : wRC) (f9 : wF) (Z : xH) (f p : Nat) (H' : xH) : Prop := ∃ (R' : wRow) (a' mb' : Nat) (c3 c4 c5 : wRC) (fl : wF), H' = hc s0 T R' (nI f, nI p, P.2.2) k (a', e, mb', c1, c2, c3, c4, c5, fl, f9) Z
section ULens
variable {l : Launch} {x : xX} {d : Nat} {s0 : va_E} {T R : wRow} {P : wRep} {k : wPK} {a e mb : Nat} {c1 c2 c3 c4 c5 : wRC} {fl f9 : wF} {Z : xH}
theorem c_RC_make60 {g : Nat → Nat} {fm n : Nat} (hfm : fm + n ≤ 316) (hn : n ≤ 288) (hl : ∀ i, i < n → fl (fm + i) = nI (g i)) (hg : ∀ i, i < n → g i ≤ 15) : xCr l x 1 0 0 mRC_make [.ref 60, .ref 72, .int (nI fm), .int (nI n)] (hc s0 T R P k (a, e, mb, c1, c2, c3, c4, c5, fl, f9) Z) (fun o H' => o = none ∧ ∃ c, rcOK c g n ∧ H' = hc s0 T R P k (a, e, mb, c1, c2, c, c4, c5, fl, f9) Z) := by
  refine xCr.mo (c_RC_make (d := 1) (H := hc s0 T R P k (a, e, mb, c1, c2, c3, c4, c5, fl, f9) Z) (r := 60) (b1 := 61) (b2 := 62) (b3 := 63) (a := 72) (M := 316) (fl := fl) (cd := c3.1) (fc := c3.2.1) (fs := c3.2.2.1) (ft := c3.2.2.2) (Nat.le_refl _) (by unfold RCok; decide) hfm (by decide) hn hl hg rfl rfl rfl rfl rfl) ?_
  rintro o H' ⟨h1, h2, q0, ⟨fc, q1, q2⟩, ⟨fs, q3, q4⟩, ft, q5⟩
  exact ⟨h1, (nI (n - cnt g n 0), fc, fs, ft), ⟨rfl, q2, q4⟩, fr_4 h2 q0 q1 q3 q5⟩
theorem c_RC_make64 {g : Nat → Nat} {fm n : Nat} (hfm : fm + n ≤ 316) (hn : n ≤ 288) (hl : ∀ i, i < n → fl (fm + i) = nI (g i)) (hg : ∀ i, i < n → g i ≤ 15) : xCr l x 1 0 0 mRC_make [.ref 64, .ref 72, .int (nI fm), .int (nI n)] (hc s0 T R P k (a, e, mb, c1, c2, c3, c4, c5, fl, f9) Z) (fun o H' => o = none ∧ ∃ c, rcOK c g n ∧ H' = hc s0 T R P k (a, e, mb, c1, c2, c3, c, c5, fl, f9) Z) := by
  refine xCr.mo (c_RC_make (d := 1) (H := hc s0 T R P k (a, e, mb, c1, c2, c3, c4, c5, fl, f9) Z) (r := 64) (b1 := 65) (b2 := 66) (b3 := 67) (a := 72) (M := 316) (fl := fl) (cd := c4.1) (fc := c4.2.1) (fs := c4.2.2.1) (ft := c4.2.2.2) (Nat.le_refl _) (by unfold RCok; decide) hfm (by decide) hn hl hg rfl rfl rfl rfl rfl) ?_
  rintro o H' ⟨h1, h2, q0, ⟨fc, q1, q2⟩, ⟨fs, q3, q4⟩, ft, q5⟩
  exact ⟨h1, (nI (n - cnt g n 0), fc, fs, ft), ⟨rfl, q2, q4⟩, fr_4 h2 q0 q1 q3 q5⟩
theorem c_RC_make68 {g : Nat → Nat} {fm n : Nat} (hfm : fm + n ≤ 316) (hn : n ≤ 288) (hl : ∀ i, i < n → fl (fm + i) = nI (g i)) (hg : ∀ i, i < n → g i ≤ 15) : xCr l x 1 0 0 mRC_make [.ref 68, .ref 72, .int (nI fm), .int (nI n)] (hc s0 T R P k (a, e, mb, c1, c2, c3, c4, c5, fl, f9) Z) (fun o H' => o = none ∧ ∃ c, rcOK c g n ∧ H' = hc s0 T R P k (a, e, mb, c1, c2, c3, c4, c, fl, f9) Z) := by
  refine xCr.mo (c_RC_make (d := 1) (H := hc s0 T R P k (a, e, mb, c1, c2, c3, c4, c5, fl, f9) Z) (r := 68) (b1 := 69) (b2 := 70) (b3 := 71) (a := 72) (M := 316) (fl := fl) (cd := c5.1) (fc := c5.2.1) (fs := c5.2.2.1) (ft := c5.2.2.2) (Nat.le_refl _) (by unfold RCok; decide) hfm (by decide) hn hl hg rfl rfl rfl rfl rfl) ?_
  rintro o H' ⟨h1, h2, q0, ⟨fc, q1, q2⟩, ⟨fs, q3, q4⟩, ft, q5⟩
  exact ⟨h1, (nI (n - cnt g n 0), fc, fs, ft), ⟨rfl, q2, q4⟩, fr_4 h2 q0 q1 q3 q5⟩
theorem UN_col_loop {n0 : Nat} {Q : xO → xH → Prop} (hT : ∀ i, T.1 i < 256) (he : e ≤ 262144) {b m : Nat} (hm : m ≤ 15) (hF : e < b + 3 * (4 + m) → ∀ H', UF s0 T P k e c1 c2 f9 Z 1 e H' → Q (.inl (some (.int 0))) H')
    (K : b + 3 * (4 + m) ≤ e → ∀ (fl : wF) (cl : Bool), (∀ j, j < 19 → fl j = nI (rdcl T.1 b (4 + m) j)) → xW l x 2 0 0 mUN_readCodeOfLengths n0 Q cl 17 [some (.ref 51), some (.int (nI m)), some (.int (nI (4 + m))), none] [] (hc s0 T R P k (b + 3 * (4 + m), e, mb, c1, c2, c3, c4, c5, fl, f9) Z) 0 0) :
    ∀ (j i : Nat) (fl : wF) (cl : Bool), i + j = 4 + m → b + 3 * i ≤ e → (∀ j, j < 19 → fl j = nI (rdcl T.1 b i j)) → xW l x 2 0 0 mUN_readCodeOfLengths n0 Q cl 17 [some (.ref 51), some (.int (nI m)), some (.int (nI i)), none] [] (hc s0 T R P k (b + 3 * i, e, mb, c1, c2, c3, c4, c5, fl, f9) Z) 0 0 := by
  intro j
  induction j with
  | zero =>
    intro i fl cl hi hbe hfl
    have : i = 4 + m := by omega
    subst this
    exact K hbe fl cl hfl
  | succ j ih =>
    intro i fl cl hi hbe hfl
    have hr := rdn_lt T.1 (b + 3 * i) 3
    obtain ⟨o1, o2⟩ := ord_N i (by omega)
    refine b_UN_readCodeOfLengths_17 ?_
    refine ⟨fun hb => ?_, fun hb => ?_⟩ <;> (try simp (disch := omega) only [nI_lit, nI_fold, nI_mul, nI_add, pk_sub, pk_div, nI_shrN, nI_clamp, nI_leI, nI_ltI, nI_eq, not_true_eq_false, not_false_eq_true, Bool.false_eq_true, if_true, if_false, nI_nem, nI_m1, nI_m7, nI_m15, nI_m32, nI_m4, nI_m8, nI_m16, nI_m2] at hb) <;> (try omega)
    skip
    refine xs_callV rfl lk_9_111 (d' := 1) (c_UN_readNumber (n := 3) hT (by omega) hbe he) (Nat.le_of_ble_eq_true rfl) rfl rfl rfl rfl rfl (Nat.le_of_ble_eq_true rfl) (by omega) (by omega) ?_
    rintro _ H1 (⟨h1, rfl, rfl⟩ | ⟨h1, rfl, rfl⟩)
    · refine b_UN_readCodeOfLengths_25 ?_
      refine ⟨fun hd => ?_, fun hd => ?_⟩ <;> (try simp (disch := omega) only [nI_lit, nI_fold, nI_mul, nI_add, pk_sub, pk_div, nI_shrN, nI_clamp, nI_leI, nI_ltI, nI_eq, not_true_eq_false, not_false_eq_true, Bool.false_eq_true, if_true, if_false, nI_nem, nI_m1, nI_m7, nI_m15, nI_m32, nI_m4, nI_m8, nI_m16, nI_m2] at hd) <;> (try omega)
      refine ⟨_, ⟨_, rfl, rfl⟩, _, _, rfl, vp_in_nI (by omega) (by decide), _, _, rfl, Nat.le_of_ble_eq_true rfl, ?_, fun H6 e6 => ?_⟩
      · rw [nI_clamp (by omega), o1]; exact vp_in_nI (by omega) (by decide)
      rw [nI_clamp (by omega), o1, nI_clamp (by omega)] at e6
      subst e6
      rw [nI_1]
      refine xW.fgt 3 ?_
      refine ih (i + 1) (upd fl (ordN i) (nI (rdn T.1 (b + 3 * i) 3))) false (by omega) (by omega) (fun q hq => ?_)
      unfold upd rdcl nup
      split
      · rfl
      · exact hfl q hq
    · refine b_UN_readCodeOfLengths_25 ?_
      refine ⟨fun hd => ?_, fun hd => ?_⟩ <;> (try simp (disch := omega) only [nI_lit, nI_fold, nI_mul, nI_add, pk_sub, pk_div, nI_shrN, nI_clamp, nI_leI, nI_ltI, nI_eq, not_true_eq_false, not_false_eq_true, Bool.false_eq_true, if_true, if_false, nI_nem, nI_m1, nI_m7, nI_m15, nI_m32, nI_m4, nI_m8, nI_m16, nI_m2] at hd) <;> (try omega)
      exact ⟨rfl, rfl, Nat.le_refl _, hF (by omega) _ ⟨_, _, _, _, _, _, _, rfl⟩⟩
theorem c_UN_readCodeOfLengths (hT : ∀ i, T.1 i < 256) (ha : a ≤ e) (he : e ≤ 262144) : xCr l x 2 0 0 mUN_readCodeOfLengths [.ref 51] (hc s0 T R P k (a, e, mb, c1, c2, c3, c4, c5, fl, f9) Z) (fun o H' => (∃ f p, zcol T.1 e a = .inl (f, p) ∧ o = some (.int 0) ∧ UF s0 T P k e c1 c2 f9 Z f p H') ∨ ∃ g a' c fl', zcol T.1 e a = .inr (g, a') ∧ o = some (.int 1) ∧ rcOK c g 19 ∧ H' = hc s0 T R P k (a', e, mb, c1, c2, c, c4, c5, fl', f9) Z) := by
  have h4 := rdn_lt T.1 a 4
  refine xCt.of (by decide) rfl ck_UN_readCodeOfLengths (Nat.le_of_ble_eq_true rfl) rfl ?_
  refine b_UN_readCodeOfLengths_0 ?_
  refine xs_callV rfl lk_9_111 (d' := 1) (c_UN_readNumber (n := 4) hT (by omega) ha he) (Nat.le_of_ble_eq_true rfl) rfl rfl rfl rfl rfl (Nat.le_of_ble_eq_true rfl) (by omega) (by omega) ?_
  rintro _ H1 (⟨h1, rfl, rfl⟩ | ⟨h1, rfl, rfl⟩)
  · refine b_UN_readCodeOfLengths_3 ?_
    refine ⟨fun hb => ?_, fun hb => ?_⟩ <;> (try simp (disch := omega) only [nI_lit, nI_fold, nI_mul, nI_add, pk_sub, pk_div, nI_shrN, nI_clamp, nI_leI, nI_ltI, nI_eq, not_true_eq_false, not_false_eq_true, Bool.false_eq_true, if_true, if_false, nI_nem, nI_m1, nI_m7, nI_m15, nI_m32, nI_m4, nI_m8, nI_m16, nI_m2] at hb) <;> (try omega)
    refine ⟨_, ⟨_, rfl, rfl⟩, ?_⟩
    refine xs_callS rfl lk_9_195 (d' := 1) (c_AR_fill2 (N := 316) (f := fl) (v := 0) (a := 0) (b := 19) rfl (by decide) (by decide) (by decide) (by decide)) (Nat.le_of_ble_eq_true rfl) rfl rfl (Nat.le_of_ble_eq_true rfl) (by omega) (by omega) ?_
    rintro _ H1 ⟨rfl, rfl⟩
    refine b_UN_readCodeOfLengths_15 ?_
    refine UN_col_loop (R := R) (mb := mb) (c3 := c3) (c4 := c4) (c5 := c5) hT he (b := a + 4) (m := rdn T.1 a 4) (by omega) (fun hlt H' hH => ⟨_, rfl, Or.inl ⟨1, e, by unfold zcol; rw [if_neg (by omega), if_pos hlt], rfl, hH⟩⟩) (fun hge fl' cl hfl => ?_) (4 + rdn T.1 a 4) 0 (x_fil fl 0 0 19) false (by omega) (by omega) (fun j hj => ?_)
    · have hz : zcol T.1 e a = if krs (rdcl T.1 (a + 4) (4 + rdn T.1 a 4)) 19 15 = 32768 then .inr (rdcl T.1 (a + 4) (4 + rdn T.1 a 4), a + 4 + 3 * (4 + rdn T.1 a 4)) else .inl (5, a + 4 + 3 * (4 + rdn T.1 a 4)) := by unfold zcol; rw [if_neg (by omega), if_neg (by omega)]
      refine b_UN_readCodeOfLengths_17 ?_
      refine ⟨fun hd => ?_, fun hd => ?_⟩ <;> (try simp (disch := omega) only [nI_lit, nI_fold, nI_mul, nI_add, pk_sub, pk_div, nI_shrN, nI_clamp, nI_leI, nI_ltI, nI_eq, not_true_eq_false, not_false_eq_true, Bool.false_eq_true, if_true, if_false, nI_nem, nI_m1, nI_m7, nI_m15, nI_m32, nI_m4, nI_m8, nI_m16, nI_m2] at hd) <;> (try omega)
      refine ⟨_, ⟨_, rfl, rfl⟩, _, ⟨_, rfl, rfl⟩, ?_⟩
      refine xs_callV rfl lk_9_53 (d' := 1) (c_RC_make60 (fm := 0) (n := 19) (g := rdcl T.1 (a + 4) (4 + rdn T.1 a 4)) (by decide) (by decide) (fun i hi => by rw [Nat.zero_add]; exact hfl i hi) (fun i hi => Nat.le_trans (rdcl_le _ _ _ _) (by decide))) (Nat.le_of_ble_eq_true rfl) rfl rfl rfl rfl rfl (Nat.le_of_ble_eq_true rfl) (by omega) (by omega) ?_
      rintro _ H1 ⟨rfl, c, hc1, rfl⟩
      refine b_UN_readCodeOfLengths_47 ⟨_, ⟨_, rfl, rfl⟩, ?_⟩
      refine xs_callV rfl lk_9_189 (d' := 0) (c_RC_isFull (n := 19) (by decide) rfl rfl hc1.2.1) (Nat.le_of_ble_eq_true rfl) rfl rfl rfl rfl rfl (Nat.le_of_ble_eq_true rfl) (by omega) (by omega) ?_
      rintro _ H1 ⟨v, hv, rfl, rfl⟩
      rcases hv with ⟨rfl, hv⟩ | ⟨rfl, hv⟩
      · refine b_UN_readCodeOfLengths_50 ?_
        refine ⟨fun hf => ?_, fun hf => ?_⟩ <;> (try simp (disch := omega) only [nI_lit, nI_fold, nI_mul, nI_add, pk_sub, pk_div, nI_shrN, nI_clamp, nI_leI, nI_ltI, nI_eq, not_true_eq_false, not_false_eq_true, Bool.false_eq_true, if_true, if_false, nI_nem, nI_m1, nI_m7, nI_m15, nI_m32, nI_m4, nI_m8, nI_m16, nI_m2] at hf) <;> (try omega)
        refine ⟨rfl, rfl, Nat.le_refl _, _, rfl, Or.inr ⟨_, _, c, fl', hz.trans (if_pos hv), rfl, hc1, rfl⟩⟩
      · refine b_UN_readCodeOfLengths_50 ?_
        refine ⟨fun hf => ?_, fun hf => ?_⟩ <;> (try simp (disch := omega) only [nI_lit, nI_fold, nI_mul, nI_add, pk_sub, pk_div, nI_shrN, nI_clamp, nI_leI, nI_ltI, nI_eq, not_true_eq_false, not_false_eq_true, Bool.false_eq_true, if_true, if_false, nI_nem, nI_m1, nI_m7, nI_m15, nI_m32, nI_m4, nI_m8, nI_m16, nI_m2] at hf) <;> (try omega)
        refine ⟨_, ⟨_, rfl, rfl⟩, ?_⟩
        refine xs_callV rfl lk_9_98 (d' := 0) (c_UN_fail) (Nat.le_of_ble_eq_true rfl) rfl rfl rfl rfl rfl (Nat.le_of_ble_eq_true rfl) (by omega) (by omega) ?_
        rintro _ H1 ⟨rfl, rfl⟩
        refine b_UN_readCodeOfLengths_56 ?_
        refine ⟨fun hf => ?_, fun hf => ?_⟩ <;> (try simp (disch := omega) only [nI_lit, nI_fold, nI_mul, nI_add, pk_sub, pk_div, nI_shrN, nI_clamp, nI_leI, nI_ltI, nI_eq, not_true_eq_false, not_false_eq_true, Bool.false_eq_true, if_true, if_false, nI_nem, nI_m1, nI_m7, nI_m15, nI_m32, nI_m4, nI_m8, nI_m16, nI_m2] at hf) <;> (try omega)
        refine ⟨rfl, rfl, Nat.le_refl _, _, rfl, Or.inl ⟨5, _, hz.trans (if_neg hv), rfl, _, _, _, _, _, _, _, rfl⟩⟩
    · unfold x_fil rdcl
      rw [if_pos (by omega)]
      rfl
  · refine b_UN_readCodeOfLengths_3 ?_
    refine ⟨fun hb => ?_, fun hb => ?_⟩ <;> (try simp (disch := omega) only [nI_lit, nI_fold, nI_mul, nI_add, pk_sub, pk_div, nI_shrN, nI_clamp, nI_leI, nI_ltI, nI_eq, not_true_eq_false, not_false_eq_true, Bool.false_eq_true, if_true, if_false, nI_nem, nI_m1, nI_m7, nI_m15, nI_m32, nI_m4, nI_m8, nI_m16, nI_m2] at hb) <;> (try omega)
    refine ⟨rfl, rfl, Nat.le_refl _, _, rfl, Or.inl ⟨1, e, by unfold zcol; rw [if_pos (by omega)], rfl, _, _, _, _, _, _, _, rfl⟩⟩
end ULens
