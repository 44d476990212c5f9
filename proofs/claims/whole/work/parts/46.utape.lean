section UTape
variable {l : Launch} {x : xX} {d : Nat} {s0 : va_E} {T : wRow} {k : wPK} {e : Nat} {c1 c2 : wRC} {f9 : wF} {Z : xH}
/-- how an unpacking ends -/
def QU (s0 : va_E) (T : wRow) (k : wPK) (c1 c2 : wRC) (f9 : wF) (Z : xH) (z : zB) (H' : xH) : Prop := (∃ f p bl st td rb' u, z = .inl (f, p, bl, st, td) ∧ (∀ i, rb' i < 256) ∧ u.2.2.2.1 = c1 ∧ u.2.2.2.2.1 = c2 ∧ u.2.2.2.2.2.2.2.2.2 = f9 ∧ H' = hc s0 T (rb', 0) (nI f, nI p, bl, st, nF td) k u Z) ∨ ∃ s u, z = .inr s ∧ u.2.2.2.1 = c1 ∧ u.2.2.2.2.1 = c2 ∧ u.2.2.2.2.2.2.2.2.2 = f9 ∧ (∀ i, s.2.1 i < 256) ∧ s.2.2.1 ≤ 65536 ∧ H' = hc s0 T (s.2.1, s.2.2.1) (0, -1, s.2.2.2.1, s.2.2.2.2.1, nF s.2.2.2.2.2) k u Z
noncomputable def zfin (e : Nat) (z : zB) : zB := match z with
  | .inl q => .inl q
  | .inr s => if s.1 < e then .inl (11, s.1, s.2.2.2) else .inr s
theorem nI_ne {f : Nat} (h : 1 ≤ f) (h2 : f ≤ 14) : ¬ nI f = 0 := nI_ne0 (by omega) (by omega)
theorem UN_mem_loop {n0 : Nat} {Q : xO → xH → Prop} (hT : ∀ i, T.1 i < 256) (he : e = 8 * T.2) (hn : T.2 ≤ 32768) (hc1 : rcOK c1 flen 288) (hc2 : rcOK c2 (fun _ => 5) 32) {w : Nat} (hw : w ≤ 2) (z : zB) (hq : ∀ H', QU s0 T k c1 c2 f9 Z (zfin e z) H' → Q (.inl none) H') :
    ∀ (m i : Nat) (s : bS) (mb : Nat) (c3 c4 c5 : wRC) (fl : wF) (cl : Bool), i + m = 32768 → bOK e 0 s → s.1 % 8 = 0 → zmem T.1 e w m s = z → xW l x 5 0 0 mUN_unpackTape n0 Q cl 21 [some (.ref 51), some (.int (nI w)), some (.int 1), some (.int (nI i))] [] (hc s0 T (s.2.1, s.2.2.1) (0, -1, s.2.2.2.1, s.2.2.2.2.1, nF s.2.2.2.2.2) k (s.1, e, mb, c1, c2, c3, c4, c5, fl, f9) Z) 0 0 := by
  -- all is read
  have kE : ∀ (s : bS) (v3 mb : Nat) (c3 c4 c5 : wRC) (fl : wF) (cl : Bool), bOK e 0 s → z = .inr s → xW l x 5 0 0 mUN_unpackTape n0 Q cl 21 [some (.ref 51), some (.int (nI w)), some (.int 0), some (.int (nI v3))] [] (hc s0 T (s.2.1, s.2.2.1) (0, -1, s.2.2.2.1, s.2.2.2.2.1, nF s.2.2.2.2.2) k (s.1, e, mb, c1, c2, c3, c4, c5, fl, f9) Z) 0 0 := by
    intro s v3 mb c3 c4 c5 fl cl hs hz
    obtain ⟨h1, h2, h3, h4, h5⟩ := hs
    refine b_UN_unpackTape_21 ?_
    refine ⟨fun _ => ?_, fun hb => absurd rfl hb⟩
    refine ⟨_, ⟨_, rfl, rfl⟩, _, ⟨_, rfl, rfl⟩, ?_⟩
    refine ⟨fun hb => absurd rfl hb, fun _ => ?_⟩
    refine ⟨_, ⟨_, rfl, rfl⟩, _, ⟨_, rfl, rfl⟩, ?_⟩
    refine ⟨fun hd => ?_, fun hd => ?_⟩ <;> (try simp (disch := omega) only [nI_lit, nI_fold, nI_mul, nI_add, pk_sub, pk_div, nI_shrN, nI_clamp, nI_leI, nI_ltI, nI_eq, not_true_eq_false, not_false_eq_true, Bool.false_eq_true, if_true, if_false, nI_nem, nI_m1, nI_m7, nI_m15, nI_m32, nI_m4, nI_m8, nI_m16, nI_m2] at hd) <;> (try omega)
    · refine ⟨_, ⟨_, rfl, rfl⟩, _, ⟨_, rfl, rfl⟩, ?_⟩
      refine ⟨fun _ => ?_, fun hb => absurd rfl hb⟩
      exact ⟨rfl, Nat.le_refl _, hq _ (Or.inr ⟨s, _, by rw [hz]; unfold zfin; dsimp only; rw [if_neg (by omega)], rfl, rfl, rfl, h4, h2, rfl⟩)⟩
    · refine ⟨_, ⟨_, rfl, rfl⟩, ?_⟩
      refine xs_callV rfl lk_9_98 (d' := 0) (c_UN_fail (gs := (c1, c2, c3, c4, c5, fl, f9))) (Nat.le_of_ble_eq_true rfl) rfl rfl rfl rfl rfl (Nat.le_of_ble_eq_true rfl) (by omega) (by omega) ?_
      rintro _ H1 ⟨rfl, rfl⟩
      refine b_UN_unpackTape_70 ⟨_, ⟨_, rfl, rfl⟩, _, ⟨_, rfl, rfl⟩, ?_⟩
      refine ⟨fun hb => absurd hb (show ¬ (11 : Int32) = 0 by decide), fun _ => ?_⟩
      refine ⟨_, ⟨_, rfl, rfl⟩, _, rfl, Nat.le_of_ble_eq_true rfl, fun H5 e5 => ?_⟩
      try simp (disch := omega) only [nI_lit, nI_fold, nI_mul, nI_add, pk_sub, pk_div, nI_shrN, nI_clamp] at e5
      subst e5
      exact ⟨rfl, Nat.le_refl _, hq _ (Or.inl ⟨11, s.1, _, _, _, s.2.1, (s.1, e, mb, c1, c2, c3, c4, c5, fl, f9), by rw [hz]; unfold zfin; dsimp only; rw [if_pos (by omega)], h4, rfl, rfl, rfl, rfl⟩)⟩
  -- a fault was told
  have kF : ∀ (f p bl st : Nat) (td : Nat → Nat) (v3 : Nat) (cl : Bool) (H' : xH), UF s0 T (0, -1, bl, st, nF td) k e c1 c2 f9 Z f p H' → z = .inl (f, p, bl, st, td) → 1 ≤ f ∧ f ≤ 14 → xW l x 5 0 0 mUN_unpackTape n0 Q cl 21 [some (.ref 51), some (.int (nI w)), some (.int 0), some (.int (nI v3))] [] H' 0 0 := by
    rintro f p bl st td v3 cl H' ⟨R', a', mb', c3, c4, c5, fl, rfl⟩ hz hf
    refine b_UN_unpackTape_21 ?_
    refine ⟨fun _ => ?_, fun hb => absurd rfl hb⟩
    refine ⟨_, ⟨_, rfl, rfl⟩, _, ⟨_, rfl, rfl⟩, ?_⟩
    refine ⟨fun _ => ?_, fun hb => absurd hb (nI_ne hf.1 hf.2)⟩
    refine ⟨_, ⟨_, rfl, rfl⟩, _, ⟨_, rfl, rfl⟩, ?_⟩
    refine ⟨fun hb => absurd hb (nI_ne hf.1 hf.2), fun _ => ?_⟩
    refine ⟨_, ⟨_, rfl, rfl⟩, _, rfl, Nat.le_of_ble_eq_true rfl, fun H7 e7 => ?_⟩
    try simp (disch := omega) only [nI_lit, nI_fold, nI_mul, nI_add, pk_sub, pk_div, nI_shrN, nI_clamp] at e7
    subst e7
    refine ⟨rfl, Nat.le_refl _, hq _ (Or.inl ⟨f, p, bl, st, td, fun i => R'.1 i % 256, (a', e, mb', c1, c2, c3, c4, c5, fl, f9), by rw [hz]; rfl, fun i => Nat.mod_lt _ (by decide), rfl, rfl, rfl, ?_⟩)⟩
    have hm := bF_mod R'.1
    show hc s0 T (R'.1, 0) _ k _ Z = _
    unfold hc
    dsimp only
    rw [hm]
  intro m
  induction m with
  | zero =>
    intro i s mb c3 c4 c5 fl cl hi hs h8 hz
    obtain ⟨h1, h2, h3, h4, h5⟩ := hs
    refine b_UN_unpackTape_21 ?_
    refine ⟨fun hb => absurd hb (by decide), fun _ => ?_⟩
    refine ⟨fun hb => ?_, fun hb => ?_⟩ <;> (try simp (disch := omega) only [nI_lit, nI_fold, nI_mul, nI_add, pk_sub, pk_div, nI_shrN, nI_clamp, nI_leI, nI_ltI, nI_eq, not_true_eq_false, not_false_eq_true, Bool.false_eq_true, if_true, if_false, nI_nem, nI_m1, nI_m7, nI_m15, nI_m32, nI_m4, nI_m8, nI_m16, nI_m2] at hb) <;> (try omega)
    refine ⟨_, ⟨_, rfl, rfl⟩, _, ⟨_, rfl, rfl⟩, ?_⟩
    refine ⟨fun hb => absurd rfl hb, fun _ => ?_⟩
    refine ⟨_, ⟨_, rfl, rfl⟩, _, ⟨_, rfl, rfl⟩, ?_⟩
    refine ⟨fun hd => ?_, fun hd => ?_⟩ <;> (try simp (disch := omega) only [nI_lit, nI_fold, nI_mul, nI_add, pk_sub, pk_div, nI_shrN, nI_clamp, nI_leI, nI_ltI, nI_eq, not_true_eq_false, not_false_eq_true, Bool.false_eq_true, if_true, if_false, nI_nem, nI_m1, nI_m7, nI_m15, nI_m32, nI_m4, nI_m8, nI_m16, nI_m2] at hd) <;> (try omega)
    · refine ⟨_, ⟨_, rfl, rfl⟩, _, ⟨_, rfl, rfl⟩, ?_⟩
      refine ⟨fun _ => ?_, fun hb => absurd rfl hb⟩
      exact ⟨rfl, Nat.le_refl _, hq _ (Or.inr ⟨s, _, by rw [← hz]; unfold zfin zmem; dsimp only; rw [if_neg (by omega)], rfl, rfl, rfl, h4, h2, rfl⟩)⟩
    · refine ⟨_, ⟨_, rfl, rfl⟩, ?_⟩
      refine xs_callV rfl lk_9_98 (d' := 0) (c_UN_fail (gs := (c1, c2, c3, c4, c5, fl, f9))) (Nat.le_of_ble_eq_true rfl) rfl rfl rfl rfl rfl (Nat.le_of_ble_eq_true rfl) (by omega) (by omega) ?_
      rintro _ H1 ⟨rfl, rfl⟩
      refine b_UN_unpackTape_70 ⟨_, ⟨_, rfl, rfl⟩, _, ⟨_, rfl, rfl⟩, ?_⟩
      refine ⟨fun hb => absurd hb (show ¬ (11 : Int32) = 0 by decide), fun _ => ?_⟩
      refine ⟨_, ⟨_, rfl, rfl⟩, _, rfl, Nat.le_of_ble_eq_true rfl, fun H5 e5 => ?_⟩
      try simp (disch := omega) only [nI_lit, nI_fold, nI_mul, nI_add, pk_sub, pk_div, nI_shrN, nI_clamp] at e5
      subst e5
      exact ⟨rfl, Nat.le_refl _, hq _ (Or.inl ⟨11, s.1, _, _, _, s.2.1, (s.1, e, mb, c1, c2, c3, c4, c5, fl, f9), by rw [← hz]; unfold zfin zmem; dsimp only; rw [if_pos (by omega)], h4, rfl, rfl, rfl, rfl⟩)⟩
  | succ m ih =>
    intro i s mb c3 c4 c5 fl cl hi hs h8 hz
    obtain ⟨a, rb, rn, bl, st, td⟩ := s
    obtain ⟨h1, h2, h3, h4, h5⟩ := id hs
    dsimp only at h1 h2 h3 h4 h5 h8
    unfold zmem at hz
    dsimp only at hz
    refine b_UN_unpackTape_21 ?_
    refine ⟨fun hb => absurd hb (by decide), fun _ => ?_⟩
    refine ⟨fun hb => ?_, fun hb => ?_⟩ <;> (try simp (disch := omega) only [nI_lit, nI_fold, nI_mul, nI_add, pk_sub, pk_div, nI_shrN, nI_clamp, nI_leI, nI_ltI, nI_eq, not_true_eq_false, not_false_eq_true, Bool.false_eq_true, if_true, if_false, nI_nem, nI_m1, nI_m7, nI_m15, nI_m32, nI_m4, nI_m8, nI_m16, nI_m2] at hb) <;> (try omega)
    refine ⟨_, ⟨_, rfl, rfl⟩, _, ⟨_, rfl, rfl⟩, _, rfl, Nat.le_of_ble_eq_true rfl, fun H34 e34 => ?_⟩
    try simp (disch := omega) only [nI_lit, nI_fold, nI_mul, nI_add, pk_sub, pk_div, nI_shrN, nI_clamp] at e34
    subst e34
    refine xs_callV rfl lk_9_84 (d' := 4) (c_UN_readHead (mb := rn) (gs := (c1, c2, c3, c4, c5, fl, f9)) hw hT hn h8 h1 he) (Nat.le_of_ble_eq_true rfl) rfl rfl rfl rfl rfl (Nat.le_of_ble_eq_true rfl) (by omega) (by omega) ?_
    intro o H1 hA
    rcases hA.cases with ⟨f, p, a', q1, rfl, rfl⟩ | ⟨a1, q1, rfl, rfl⟩
    · rw [q1] at hz
      refine b_UN_unpackTape_34 ?_
      refine ⟨fun _ => ?_, fun hb => absurd rfl hb⟩
      rw [nI_1]
      exact kF f p bl st td (i + 1) false _ ⟨_, _, _, _, _, _, _, rfl⟩ hz.symm (fK_zhead _ q1)
    have q2 := zhead_le (by omega) h1 q1
    rw [q1] at hz
    dsimp only at hz
    have hb1 : bOK e rn (a1, rb, rn, bl, st, td) := ⟨by dsimp only; omega, by dsimp only; omega, by dsimp only; omega, fun i => by dsimp only; exact h4 i, by dsimp only; omega⟩
    refine b_UN_unpackTape_34 ?_
    refine ⟨fun hb => absurd hb (by decide), fun _ => ?_⟩
    refine xs_callV rfl lk_9_88 (d' := 4) (c_UN_readBlocks (s := (a1, rb, rn, bl, st, td)) hT he hn hc1 hc2 hb1) (Nat.le_of_ble_eq_true rfl) rfl rfl rfl rfl rfl (Nat.le_of_ble_eq_true rfl) (by omega) (by omega) ?_
    rintro _ H1 (⟨f, p, bl', st', td', q3, rfl, hU⟩ | ⟨s2, c3', c4', c5', fl', q3, rfl, rfl⟩)
    · rw [q3] at hz
      refine b_UN_unpackTape_37 ?_
      refine ⟨fun _ => ?_, fun hb => absurd rfl hb⟩
      rw [nI_1]
      exact kF f p bl' st' td' (i + 1) false _ hU hz.symm (fK_zblocks _ _ _ q3)
    obtain ⟨⟨g1, g2, g3, g4, g5⟩, g6⟩ := zblocks_ok hT _ _ hb1 q3
    dsimp only at g6
    rw [q3] at hz
    dsimp only at hz
    refine b_UN_unpackTape_37 ?_
    refine ⟨fun hb => absurd hb (by decide), fun _ => ?_⟩
    refine xs_callV rfl lk_9_92 (d' := 2) (c_UN_readTail (R := (s2.2.1, s2.2.2.1)) (mb := rn) (a := (s2.1 + 7) / 8 * 8) (gs := (c1, c2, c3', c4', c5', fl', f9)) hw hT g4 hn g2 g3 (by omega) (by omega) he) (Nat.le_of_ble_eq_true rfl) rfl rfl rfl rfl rfl (Nat.le_of_ble_eq_true rfl) (by omega) (by omega) ?_
    intro o H1 hA
    rcases hA.cases with ⟨f, p, a', q4, rfl, rfl⟩ | ⟨a4, q4, rfl, rfl⟩
    · rw [show ztail T.1 e w s2.2.1 s2.2.2.1 rn ((s2.1 + 7) / 8 * 8) = .inl (f, p) from q4] at hz
      refine b_UN_unpackTape_41 ?_
      refine ⟨fun _ => ?_, fun hb => absurd rfl hb⟩
      rw [nI_1]
      exact kF f p _ _ _ (i + 1) false _ ⟨_, _, _, _, _, _, _, rfl⟩ hz.symm (fK_ztail _ q4)
    have q5 := ztail_le (by omega) q4
    rw [show ztail T.1 e w s2.2.1 s2.2.2.1 rn ((s2.1 + 7) / 8 * 8) = .inr a4 from q4] at hz
    dsimp only at hz
    have hb2 : bOK e 0 (a4, s2.2) := ⟨by dsimp only; omega, by dsimp only; omega, by dsimp only; omega, fun i => by dsimp only; exact g4 i, by dsimp only; omega⟩
    refine b_UN_unpackTape_41 ?_
    refine ⟨fun hb => absurd hb (by decide), fun _ => ?_⟩
    refine ⟨fun hd => ?_, fun hd => ?_⟩ <;> (try simp (disch := omega) only [nI_lit, nI_fold, nI_mul, nI_add, pk_sub, pk_div, nI_shrN, nI_clamp, nI_leI, nI_ltI, nI_eq, not_true_eq_false, not_false_eq_true, Bool.false_eq_true, if_true, if_false, nI_nem, nI_m1, nI_m7, nI_m15, nI_m32, nI_m4, nI_m8, nI_m16, nI_m2] at hd) <;> (try omega)
    · rw [if_neg (by omega)] at hz
      rw [nI_1]
      exact kE (a4, s2.2) (i + 1) rn c3' c4' c5' fl' false hb2 hz.symm
    refine ⟨_, ⟨_, rfl, rfl⟩, _, ⟨_, rfl, rfl⟩, ?_⟩
    refine ⟨fun hf => ?_, fun hf => ?_⟩ <;> (try simp (disch := omega) only [nI_lit, nI_fold, nI_mul, nI_add, pk_sub, pk_div, nI_shrN, nI_clamp, nI_leI, nI_ltI, nI_eq, not_true_eq_false, not_false_eq_true, Bool.false_eq_true, if_true, if_false, nI_nem, nI_m1, nI_m7, nI_m15, nI_m32, nI_m4, nI_m8, nI_m16, nI_m2] at hf) <;> (try omega)
    · rw [if_neg (by omega)] at hz
      rw [nI_1]
      exact kE (a4, s2.2) (i + 1) rn c3' c4' c5' fl' false hb2 hz.symm
    · rw [if_pos (by omega)] at hz
      rw [nI_1]
      exact ih (i + 1) (a4, s2.2) rn c3' c4' c5' fl' false (by omega) hb2 (by dsimp only; omega) hz
theorem c_UN_unpackTape (hT : ∀ i, T.1 i < 256) (hn : T.2 ≤ 32768) {u : wUN} (hc1 : rcOK u.2.2.2.1 flen 288) (hc2 : rcOK u.2.2.2.2.1 (fun _ => 5) 32) {w : Nat} (hw : w ≤ 2) {R : wRow} (hR : ∀ i, R.1 i < 256) {fa pl : Int32} {bl st : Nat} {td : Nat → Nat} : xCr l x 5 0 0 mUN_unpackTape [.ref 51, .int (nI w)] (hc s0 T R (fa, pl, bl, st, nF td) k u Z) (fun o H' => o = none ∧ QU s0 T k u.2.2.2.1 u.2.2.2.2.1 u.2.2.2.2.2.2.2.2.2 Z (zun T.1 (8 * T.2) w R.1 td) H') := by
  obtain ⟨a, e, mb, c1, c2, c3, c4, c5, fl, f9⟩ := u
  dsimp only at hc1 hc2
  refine xCt.of (by decide) rfl ck_UN_unpackTape (Nat.le_of_ble_eq_true rfl) rfl ?_
  refine b_UN_unpackTape_0 ⟨_, ⟨_, rfl, rfl⟩, ?_⟩
  refine xs_callV rfl lk_9_63 (d' := 0) (c_RE_clear (tr := 8) (fa := fa) (pl := pl) (bl := nI bl) (st := nI st) rfl) (Nat.le_of_ble_eq_true rfl) rfl rfl rfl rfl rfl (Nat.le_of_ble_eq_true rfl) (by omega) (by omega) ?_
  rintro _ H1 ⟨rfl, rfl⟩
  refine b_UN_unpackTape_3 ⟨_, ⟨_, rfl, rfl⟩, _, rfl, Nat.le_of_ble_eq_true rfl, fun H3 e3 => ?_⟩
  try simp (disch := omega) only [nI_lit, nI_fold, nI_mul, nI_add, pk_sub, pk_div, nI_shrN, nI_clamp] at e3
  subst e3
  refine ⟨_, rfl, Nat.le_of_ble_eq_true rfl, fun H5 e5 => ?_⟩
  try simp (disch := omega) only [nI_lit, nI_fold, nI_mul, nI_add, pk_sub, pk_div, nI_shrN, nI_clamp] at e5
  subst e5
  refine ⟨_, ⟨_, rfl, rfl⟩, _, ⟨_, rfl, rfl⟩, _, rfl, Nat.le_of_ble_eq_true rfl, fun H9 e9 => ?_⟩
  try simp (disch := omega) only [nI_lit, nI_fold, nI_mul, nI_add, pk_sub, pk_div, nI_shrN, nI_clamp] at e9
  subst e9
  exact UN_mem_loop hT rfl hn hc1 hc2 hw _ (fun H' h => ⟨_, rfl, rfl, h⟩) 32768 0 (0, R.1, 0, 0, 0, td) mb c3 c4 c5 fl false (by omega) ⟨by dsimp only; omega, by dsimp only; omega, by dsimp only; omega, fun i => by dsimp only; exact hR i, by dsimp only; omega⟩ rfl rfl
end UTape
