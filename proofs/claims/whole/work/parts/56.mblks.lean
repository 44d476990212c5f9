/-! the model reads all blocks of a member -/
section MBlks
variable {l : Launch} {x : xX} {d : Nat} {C : Nat → va_E} {cd : Int32} {T : wRow} {pl : Int32} {mb : Nat} {B : wMB} {Z : xH} {e : Nat}
def QMB (C : Nat → va_E) (cd : Int32) (T : wRow) (pl : Int32) (mb : Nat) (B : wMB) (Z : xH) (z : zB) (H' : xH) : Prop := (∃ f p bl st td, z = .inl (f, p, bl, st, td) ∧ MF C cd T bl st (K4 td) B Z f p H') ∨ ∃ s rm A, z = .inr s ∧ agr s.2.2.1 rm s.2.1 ∧ (∀ i, rm i < 256) ∧ H' = hM C cd T (rm, s.2.2.1) (0, pl, s.2.2.2.1, s.2.2.2.2.1) (K4 s.2.2.2.2.2) s.1 mb A B Z
theorem c_MO_readBlocks_f {F P2 : Int32} {R : wRow} {bl st a : Nat} {K A : wK4} (hF : ¬ F = 0) : xCr l x 5 0 0 mMO_readBlocks [.ref 74] (hM C cd T R (F, P2, bl, st) K a mb A B Z) (fun o H' => o = none ∧ H' = hM C cd T R (F, P2, bl, st) K a mb A B Z) := by
  refine xCt.of (by decide) rfl ck_MO_readBlocks (Nat.le_of_ble_eq_true rfl) rfl ?_
  refine b_MO_readBlocks_0 ?_
  refine b_MO_readBlocks_2 ?_
  refine ⟨fun h => absurd h (by decide), fun _ => ?_⟩
  refine ⟨_, ⟨_, rfl, rfl⟩, ?_⟩
  refine ⟨fun _ => ?_, fun h => absurd h hF⟩
  refine ⟨rfl, Nat.le_refl _, _, rfl, ⟨rfl, rfl⟩⟩
theorem howN_5 : howN (fun _ => 5) 32 = 2 := by decide
theorem krs_flen : krs flen 288 15 = 32768 := by decide +kernel
theorem flen_le (i : Nat) : flen i ≤ 15 := by unfold flen; split; decide; split; decide; split <;> decide
theorem MO_blk_loop {n0 : Nat} {Q : xO → xH → Prop} (hT : ∀ i, T.1 i < 256) (hn : T.2 ≤ 32768) (he : e = 8 * T.2) (z : zB) (hK : fK z) (hq : ∀ H', QMB C cd T pl mb B Z z H' → Q (.inl none) H') :
    ∀ (m : Nat) (s : bS) (rm : Nat → Nat) (A : wK4) (cl : Bool), e - s.1 < 3 * m → bOK e mb s → agr s.2.2.1 rm s.2.1 → (∀ i, rm i < 256) → zblocks T.1 e mb m s = z → xW l x 5 0 0 mMO_readBlocks n0 Q cl 2 [some (.ref 74), some (.int (nI 1)), none, none, none, none, none] [] (hM C cd T (rm, s.2.2.1) (0, pl, s.2.2.2.1, s.2.2.2.2.1) (K4 s.2.2.2.2.2) s.1 mb A B Z) 0 0 := by
  -- behind a fault
  have f2 : ∀ (f p bl st : Nat) (td : Nat → Nat) (v1 : Int32) (R' : wRow) (a' mb' : Nat) (A' : wK4) (cl : Bool), z = .inl (f, p, bl, st, td) → xW l x 5 0 0 mMO_readBlocks n0 Q cl 2 [some (.ref 74), some (.int v1), none, none, none, none, none] [] (hM C cd T R' (nI f, nI p, bl, st) (K4 td) a' mb' A' B Z) 0 0 := by
    intro f p bl st td v1 R' a' mb' A' cl hz
    have hF := nI_ne (hK _ hz).1 (hK _ hz).2
    refine b_MO_readBlocks_2 ?_
    refine ⟨fun _ => ⟨rfl, Nat.le_refl _, hq _ (Or.inl ⟨f, p, bl, st, td, hz, _, _, _, _, rfl⟩)⟩, fun _ => ?_⟩
    refine ⟨_, ⟨_, rfl, rfl⟩, ?_⟩
    exact ⟨fun _ => ⟨rfl, Nat.le_refl _, hq _ (Or.inl ⟨f, p, bl, st, td, hz, _, _, _, _, rfl⟩)⟩, fun h => absurd h hF⟩
  have f74 : ∀ (f p bl st : Nat) (td : Nat → Nat) (v1 v2 v3 v4 v5 : Int32) (R' : wRow) (a' mb' : Nat) (A' : wK4) (cl : Bool), z = .inl (f, p, bl, st, td) → xW l x 5 0 0 mMO_readBlocks n0 Q cl 74 [some (.ref 74), some (.int v1), some (.int v2), some (.int v3), some (.int v4), some (.int v5), none] [] (hM C cd T R' (nI f, nI p, bl, st) (K4 td) a' mb' A' B Z) 0 0 := by
    intro f p bl st td v1 v2 v3 v4 v5 R' a' mb' A' cl hz
    have hF := nI_ne (hK _ hz).1 (hK _ hz).2
    refine b_MO_readBlocks_74 ⟨_, ⟨_, rfl, rfl⟩, ?_⟩
    refine ⟨fun _ => ?_, fun h => absurd h hF⟩
    refine b_MO_readBlocks_89 ?_
    refine xW.fgt 2 (xW.fgt 3 (xW.fgt 4 (xW.fgt 5 ?_)))
    exact f2 f p bl st td _ _ _ _ _ _ hz
  have f37 : ∀ (f p bl st : Nat) (td : Nat → Nat) (v1 v2 v3 v4 v5 : Int32) (R' : wRow) (a' mb' : Nat) (A' : wK4) (cl : Bool), z = .inl (f, p, bl, st, td) → xW l x 5 0 0 mMO_readBlocks n0 Q cl 37 [some (.ref 74), some (.int v1), some (.int v2), some (.int v3), some (.int v4), some (.int v5), none] [] (hM C cd T R' (nI f, nI p, bl, st) (K4 td) a' mb' A' B Z) 0 0 := by
    intro f p bl st td v1 v2 v3 v4 v5 R' a' mb' A' cl hz
    have hF := nI_ne (hK _ hz).1 (hK _ hz).2
    refine b_MO_readBlocks_37 ⟨_, ⟨_, rfl, rfl⟩, ?_⟩
    refine ⟨fun _ => ?_, fun h => absurd h hF⟩
    refine ⟨_, ⟨_, rfl, rfl⟩, ?_⟩
    refine ⟨fun _ => ?_, fun h => absurd h hF⟩
    exact f74 f p bl st td _ _ _ _ _ _ _ _ _ _ hz
  intro m
  induction m with
  | zero => intro s rm A cl h; omega
  | succ m ih =>
    intro s rm A cl hm hs hag hrm hz
    obtain ⟨a, rb, rn, bl, st, td⟩ := s
    obtain ⟨ct, od, ln, rw'⟩ := A
    obtain ⟨h1, h2, h3, h4, h5⟩ := id hs
    dsimp only at h1 h2 h3 h4 h5 hm hag
    unfold zblocks at hz
    dsimp only at hz
    have r1 := rdn_lt T.1 a 1
    have r2 := rdn_lt T.1 (a + 1) 2
    have hb1 : tbit T.1 a = rdn T.1 a 1 := by simp [rdn]
    -- behind a block
    have k74 : ∀ (v1 kd : Nat) (v4 : Int32) (s' : sS) (rm' : Nat → Nat) (A' : wK4) (cl : Bool), kd = rdn T.1 (a + 1) 2 → v1 = (if rdn T.1 a 1 = 1 then 0 else 1) → sOK e mb s' → a + 3 ≤ s'.1 → rn ≤ s'.2.2.1 → agr s'.2.2.1 rm' s'.2.1 → (∀ i, rm' i < 256) → (if rdn T.1 a 1 = 1 then Sum.inr (s'.1, s'.2.1, s'.2.2.1, bl + 1, s'.2.2.2, noteT td bl (rdn T.1 (a + 1) 2) a (s'.1 - a) (s'.2.2.1 - rn)) else zblocks T.1 e mb m (s'.1, s'.2.1, s'.2.2.1, bl + 1, s'.2.2.2, noteT td bl (rdn T.1 (a + 1) 2) a (s'.1 - a) (s'.2.2.1 - rn))) = z → xW l x 5 0 0 mMO_readBlocks n0 Q cl 74 [some (.ref 74), some (.int (nI v1)), some (.int (nI a)), some (.int (nI rn)), some (.int v4), some (.int (nI kd)), none] [] (hM C cd T (rm', s'.2.2.1) (0, pl, bl, s'.2.2.2) (K4 td) s'.1 mb A' B Z) 0 0 := by
      intro v1 kd v4 s' rm' A' cl hkd hv1 hs' ha' hrn' hag' hrm' hz'
      obtain ⟨g1, g2, g3, g4⟩ := hs'
      refine b_MO_readBlocks_74 ⟨_, ⟨_, rfl, rfl⟩, ?_⟩
      refine ⟨fun h => absurd rfl h, fun _ => ?_⟩
      refine ⟨_, ⟨_, rfl, rfl⟩, _, ⟨_, rfl, rfl⟩, ?_⟩
      try simp (disch := omega) only [nI_lit, nI_fold, nI_mul, nI_add, pk_sub, pk_div, nI_shrN, nI_clamp]
      refine xs_callV rfl lk_12_186 (d' := 0) (c_MO_note (td := td) (k := kd) (f := a) (b := s'.1 - a) (y := s'.2.2.1 - rn) (by omega)) (Nat.le_of_ble_eq_true rfl) rfl rfl rfl rfl rfl (Nat.le_of_ble_eq_true rfl) (by omega) (by omega) ?_
      rintro _ H1 ⟨rfl, rfl⟩
      rw [← hkd] at hz'
      have hb' : bOK e mb (s'.1, s'.2.1, s'.2.2.1, bl + 1, s'.2.2.2, noteT td bl kd a (s'.1 - a) (s'.2.2.1 - rn)) := ⟨by dsimp only; omega, by dsimp only; omega, by dsimp only; omega, fun i => by dsimp only; exact g4 i, by dsimp only; omega⟩
      refine b_MO_readBlocks_89 ?_
      refine xW.fgt 2 (xW.fgt 3 (xW.fgt 4 (xW.fgt 5 ?_)))
      by_cases hj : rdn T.1 a 1 = 1
      · rw [if_pos hj] at hz' hv1
        subst hv1
        refine b_MO_readBlocks_2 ?_
        refine ⟨fun _ => ⟨rfl, Nat.le_refl _, hq _ (Or.inr ⟨_, rm', A', hz'.symm, hag', hrm', rfl⟩)⟩, fun h => absurd rfl h⟩
      · rw [if_neg hj] at hz' hv1
        subst hv1
        exact ih _ rm' A' false (by dsimp only; omega) hb' hag' hrm' hz'
    have k25 : ∀ (v1 : Nat) (cl : Bool), v1 = (if rdn T.1 a 1 = 1 then 0 else 1) → a + 1 ≤ e → xW l x 5 0 0 mMO_readBlocks n0 Q cl 25 [some (.ref 74), some (.int (nI v1)), some (.int (nI a)), some (.int (nI rn)), some (.int (nI (a + 1))), none, none] [.int 2, .ref 74] (hM C cd T (rm, rn) (0, pl, bl, st) (K4 td) (a + 1) mb (ct, od, ln, rw') B Z) 0 0 := by
      intro v1 cl hv1 ha1
      refine xs_callV rfl lk_12_133 (d' := 2) (c_MO_number (n := 2) hT hn he (by decide) ha1) (Nat.le_of_ble_eq_true rfl) rfl rfl rfl rfl rfl (Nat.le_of_ble_eq_true rfl) (by omega) (by omega) ?_
      rintro _ H1 (⟨g2, rfl, rfl⟩ | ⟨g2, w, a', rfl, rfl⟩)
      case inr =>
        rw [if_pos (by omega)] at hz
        refine b_MO_readBlocks_26 ⟨_, ⟨_, rfl, rfl⟩, ?_⟩
        refine ⟨fun _ => ?_, fun h => absurd h (show ¬ (1 : Int32) = 0 by decide)⟩
        exact f37 1 e bl st td _ _ _ _ _ _ _ _ _ _ hz.symm
      rw [if_neg (by omega)] at hz
      have hs0 : sOK e mb (a + 3, rb, rn, st) := ⟨by dsimp only; omega, by dsimp only; omega, by dsimp only; omega, fun i => by dsimp only; exact h4 i⟩
      refine b_MO_readBlocks_26 ⟨_, ⟨_, rfl, rfl⟩, ?_⟩
      refine ⟨fun h => absurd rfl h, fun _ => ?_⟩
      refine ⟨fun hf => ?_, fun hf => ?_⟩ <;> (try simp (disch := omega) only [nI_lit, nI_fold, nI_mul, nI_add, pk_sub, pk_div, nI_shrN, nI_clamp, nI_leI, nI_ltI, nI_eq, not_true_eq_false, not_false_eq_true, Bool.false_eq_true, if_true, if_false, nI_nem, nI_m1, nI_m7, nI_m15, nI_m32, nI_m4, nI_m8, nI_m16, nI_m2] at hf) <;> (try omega)
      case refine_2 =>
        rw [if_pos (by omega)] at hz
        refine xs_callV rfl lk_12_121 (d' := 0) (c_MO_fail) (Nat.le_of_ble_eq_true rfl) rfl rfl rfl rfl rfl (Nat.le_of_ble_eq_true rfl) (by omega) (by omega) ?_
        rintro _ H1 ⟨rfl, rfl⟩
        exact f37 2 (a + 1) bl st td _ _ _ _ _ _ _ _ _ _ hz.symm
      rw [if_neg (by omega)] at hz
      refine b_MO_readBlocks_37 ⟨_, ⟨_, rfl, rfl⟩, ?_⟩
      refine ⟨fun h => absurd rfl h, fun _ => ?_⟩
      refine ⟨fun hg => ?_, fun hg => ?_⟩ <;> (try simp (disch := omega) only [nI_lit, nI_fold, nI_mul, nI_add, pk_sub, pk_div, nI_shrN, nI_clamp, nI_leI, nI_ltI, nI_eq, not_true_eq_false, not_false_eq_true, Bool.false_eq_true, if_true, if_false, nI_nem, nI_m1, nI_m7, nI_m15, nI_m32, nI_m4, nI_m8, nI_m16, nI_m2] at hg) <;> (try omega)
      case refine_2 =>
        -- plain
        have hbd : zbody T.1 e mb (rdn T.1 (a + 1) 2) (a + 3, rb, rn, st) = (match zplain T.1 e (a + 3) rb rn with
          | .inl (f, p) => .inl (f, p, st)
          | .inr (a', rb', rn') => .inr (a', rb', rn', st)) := by unfold zbody; rw [if_pos (by omega)]; rfl
        refine xs_callV rfl lk_12_174 (d' := 3) (c_MO_readPlain (a := a + 1 + 2) (rb := rb) hT hn he (by omega) (by omega) hag hrm) (Nat.le_of_ble_eq_true rfl) rfl rfl rfl rfl rfl (Nat.le_of_ble_eq_true rfl) (by omega) (by omega) ?_
        rw [show a + 1 + 2 = a + 3 by omega]
        rintro _ H1 ⟨rfl, ⟨f, p, q1, R', a', mb', A', rfl⟩ | ⟨a', rb', rn', rm', q1, hag', hrm', rfl⟩⟩
        · rw [q1] at hbd
          rw [hbd] at hz
          refine b_MO_readBlocks_44 ?_
          exact f74 f p bl st td _ _ _ _ _ _ _ _ _ _ hz.symm
        · rw [q1] at hbd
          have z1 := zbody_ok hT hs0 hbd
          have z2 := z1.2
          have z5 := zbody_mono hbd
          dsimp only at z2 z5
          rw [hbd] at hz
          refine b_MO_readBlocks_44 ?_
          exact k74 v1 _ _ (a', rb', rn', st) rm' _ _ rfl hv1 z1.1 (by dsimp only; omega) z5 hag' hrm' hz
      refine ⟨_, ⟨_, rfl, rfl⟩, ?_⟩
      refine ⟨fun h => absurd rfl h, fun _ => ?_⟩
      refine ⟨fun hj => ?_, fun hj => ?_⟩ <;> (try simp (disch := omega) only [nI_lit, nI_fold, nI_mul, nI_add, pk_sub, pk_div, nI_shrN, nI_clamp, nI_leI, nI_ltI, nI_eq, not_true_eq_false, not_false_eq_true, Bool.false_eq_true, if_true, if_false, nI_nem, nI_m1, nI_m7, nI_m15, nI_m32, nI_m4, nI_m8, nI_m16, nI_m2] at hj) <;> (try omega)
      case refine_2 =>
        -- the fixed code
        have hbd : zbody T.1 e mb (rdn T.1 (a + 1) 2) (a + 3, rb, rn, st) = zsyms T.1 e mb flen 288 (fun _ => 5) 32 262144 (a + 3, rb, rn, st) := by unfold zbody; rw [if_neg (by omega), if_pos (by omega)]
        refine xs_callV rfl lk_12_177 (d' := 0) (c_MO_plainLengths (ct := ct) (od := od) (ln := ln) (rw' := rw')) (Nat.le_of_ble_eq_true rfl) rfl rfl rfl rfl rfl (Nat.le_of_ble_eq_true rfl) (by omega) (by omega) ?_
        rintro _ H1 ⟨rfl, ln', hl1, hl2, hl3, rfl⟩
        refine b_MO_readBlocks_55 ?_
        refine xs_callV rfl lk_12_139 (d' := 0) (c_MO_prepare (n := 288) (tb := 0) (fm := 0) (g := flen) (ct := ct) (od := od) (ln := ln') (rw' := rw') (by decide) (by decide) (by decide) (fun i hi => by rw [Nat.zero_add]; exact hl1 i hi) (fun i _ => flen_le i)) (Nat.le_of_ble_eq_true rfl) rfl rfl rfl rfl rfl (Nat.le_of_ble_eq_true rfl) (by omega) (by omega) ?_
        rintro _ H1 ⟨rfl, ct1, od1, hp1, hc1, ho1, rfl⟩
        refine b_MO_readBlocks_60 ?_
        refine xs_callV rfl lk_12_139 (d' := 0) (c_MO_prepare (n := 32) (tb := 16) (fm := 400) (g := fun _ => 5) (ct := ct1) (od := od1) (ln := ln') (rw' := rw') (by decide) (by decide) (by decide) hl2 (fun i _ => (by decide))) (Nat.le_of_ble_eq_true rfl) rfl rfl rfl rfl rfl (Nat.le_of_ble_eq_true rfl) (by omega) (by omega) ?_
        rintro _ H1 ⟨rfl, ct2, od2, hp2, hc2, ho2, rfl⟩
        refine b_MO_readBlocks_66 ?_
        have hpL : prd ct2 od2 0 0 flen 288 := ⟨fun l hl => by rw [hc2 _ (by omega)]; exact hp1.1 l hl, fun i hi hg => by rw [ho2 _ (Or.inl (by have := plc_n hi hg; omega))]; exact hp1.2 i hi hg⟩
        refine xs_callV rfl lk_12_183 (d' := 4) (c_MO_readSymbols (s := (a + 1 + 2, rb, rn, st)) (gL := flen) (nL := 288) (gD := fun _ => 5) (nD := 32) (ct := ct2) (od := od2) (ln := ln') (rw' := rw') hT hn he (by decide) (by decide) hpL krs_flen hp2 (fun i _ => (by decide)) (by rw [howN_5]; decide) hs0 (by dsimp only; omega) hag hrm) (Nat.le_of_ble_eq_true rfl) rfl rfl rfl rfl rfl (Nat.le_of_ble_eq_true rfl) (by omega) (by omega) ?_
        rw [show a + 1 + 2 = a + 3 by omega]
        rintro _ H1 ⟨rfl, ⟨f, p, st', q1, R', a', mb', A', rfl⟩ | ⟨s', rm', q1, hag', hrm', rfl⟩⟩
        · rw [hbd, q1] at hz
          refine xW.fgt 6 ?_
          exact f74 f p bl st' td _ _ _ _ _ _ _ _ _ _ hz.symm
        · have z1 := zbody_ok hT hs0 (hbd.trans q1)
          have z2 := z1.2
          have z5 := zbody_mono (hbd.trans q1)
          dsimp only at z2 z5
          rw [hbd, q1] at hz
          refine xW.fgt 6 ?_
          exact k74 v1 _ _ s' rm' _ _ rfl hv1 z1.1 (by omega) z5 hag' hrm' hz
      -- made codes
      have hbd : zbody T.1 e mb (rdn T.1 (a + 1) 2) (a + 3, rb, rn, st) = (match zcodes T.1 e (a + 3) with
          | .inl (f, p) => .inl (f, p, st)
          | .inr (row, nL, nD, a') => zsyms T.1 e mb row nL (fun i => row (nL + i)) nD 262144 (a', rb, rn, st)) := by unfold zbody; rw [if_neg (by omega), if_neg (by omega)]; rfl
      refine xs_callV rfl lk_12_180 (d' := 4) (c_MO_readCodes (a := a + 1 + 2) (ct := ct) (od := od) (ln := ln) (rw' := rw') hT hn he (by omega)) (Nat.le_of_ble_eq_true rfl) rfl rfl rfl rfl rfl (Nat.le_of_ble_eq_true rfl) (by omega) (by omega) ?_
      rw [show a + 1 + 2 = a + 3 by omega]
      rintro _ H1 (⟨f, p, w, q1, rfl, R', a', mb', A', rfl⟩ | ⟨row, nL, nD, a', ct2, od2, ln2, rw2, q1, rfl, hL, hD, ha', hpL, hpD, hgD, hkr, hh3, rfl⟩)
      · have hF := nI_ne (fK_zcodes _ q1).1 (fK_zcodes _ q1).2
        rw [q1] at hbd
        rw [hbd] at hz
        refine b_MO_readBlocks_70 ?_
        refine xs_callV rfl lk_12_183 (d' := 4) (c_MO_readSymbols_f hF) (Nat.le_of_ble_eq_true rfl) rfl rfl rfl rfl rfl (Nat.le_of_ble_eq_true rfl) (by omega) (by omega) ?_
        rintro _ H1 ⟨rfl, rfl⟩
        refine xW.fgt 6 ?_
        exact f74 f p bl st td _ _ _ _ _ _ _ _ _ _ hz.symm
      rw [q1] at hbd
      dsimp only at hbd
      have q2 := zcodes_le q1
      have hs1 : sOK e mb (a', rb, rn, st) := ⟨by dsimp only; omega, by dsimp only; omega, by dsimp only; omega, fun i => by dsimp only; exact h4 i⟩
      refine b_MO_readBlocks_70 ?_
      refine xs_callV rfl lk_12_183 (d' := 4) (c_MO_readSymbols (s := (a', rb, rn, st)) (gL := row) (nL := nL) (gD := fun i => row (nL + i)) (nD := nD) (ct := ct2) (od := od2) (ln := ln2) (rw' := rw2) hT hn he (by omega) (by omega) hpL hkr hpD hgD hh3 hs1 (by dsimp only; omega) hag hrm) (Nat.le_of_ble_eq_true rfl) rfl rfl rfl rfl rfl (Nat.le_of_ble_eq_true rfl) (by omega) (by omega) ?_
      rintro _ H1 ⟨rfl, ⟨f, p, st', q3, R', a2, mb', A', rfl⟩ | ⟨s', rm', q3, hag', hrm', rfl⟩⟩
      · rw [hbd, q3] at hz
        refine xW.fgt 6 ?_
        exact f74 f p bl st' td _ _ _ _ _ _ _ _ _ _ hz.symm
      · have z1 := zbody_ok hT hs0 (hbd.trans q3)
        have z2 := z1.2
        have z5 := zbody_mono (hbd.trans q3)
        dsimp only at z2 z5
        rw [hbd, q3] at hz
        refine xW.fgt 6 ?_
        exact k74 v1 _ _ s' rm' _ _ rfl hv1 z1.1 (by omega) z5 hag' hrm' hz
    refine b_MO_readBlocks_2 ?_
    refine ⟨fun h => absurd h (by decide), fun _ => ?_⟩
    refine ⟨_, ⟨_, rfl, rfl⟩, ?_⟩
    refine ⟨fun h => absurd rfl h, fun _ => ?_⟩
    refine ⟨_, ⟨_, rfl, rfl⟩, _, ⟨_, rfl, rfl⟩, ?_⟩
    refine xs_callV rfl lk_12_125 (d' := 1) (c_MO_bit hT hn he h1) (Nat.le_of_ble_eq_true rfl) rfl rfl rfl rfl rfl (Nat.le_of_ble_eq_true rfl) (by omega) (by omega) ?_
    rintro _ H1 (⟨g1, rfl, rfl⟩ | ⟨g1, rfl, rfl⟩)
    case inr =>
      rw [if_pos (by omega)] at hz
      refine b_MO_readBlocks_15 ?_
      refine ⟨fun h => absurd rfl h, fun _ => ?_⟩
      refine ⟨_, ⟨_, rfl, rfl⟩, ?_⟩
      refine xs_callV rfl lk_12_133 (d' := 2) (c_MO_number_f (n := 2) (F := 1) (by decide)) (Nat.le_of_ble_eq_true rfl) rfl rfl rfl rfl rfl (Nat.le_of_ble_eq_true rfl) (by omega) (by omega) ?_
      rintro _ H1 ⟨rfl, rfl⟩
      refine b_MO_readBlocks_26 ⟨_, ⟨_, rfl, rfl⟩, ?_⟩
      refine ⟨fun _ => ?_, fun h => absurd h (show ¬ (1 : Int32) = 0 by decide)⟩
      exact f37 1 e bl st td _ _ _ _ _ _ _ _ _ _ hz.symm
    rw [hb1]
    refine b_MO_readBlocks_15 ?_
    refine ⟨fun hi => ?_, fun hi => ?_⟩ <;> (try simp (disch := omega) only [nI_lit, nI_fold, nI_mul, nI_add, pk_sub, pk_div, nI_shrN, nI_clamp, nI_leI, nI_ltI, nI_eq, not_true_eq_false, not_false_eq_true, Bool.false_eq_true, if_true, if_false, nI_nem, nI_m1, nI_m7, nI_m15, nI_m32, nI_m4, nI_m8, nI_m16, nI_m2] at hi) <;> (try omega)
    · refine ⟨_, ⟨_, rfl, rfl⟩, ?_⟩
      exact k25 0 _ (by rw [if_pos (by omega)]) (by omega)
    · refine ⟨_, ⟨_, rfl, rfl⟩, ?_⟩
      exact k25 1 _ (by rw [if_neg (by omega)]) (by omega)
theorem c_MO_readBlocks (hT : ∀ i, T.1 i < 256) (hn : T.2 ≤ 32768) (he : e = 8 * T.2) {s : bS} {rm : Nat → Nat} {A : wK4} (hs : bOK e mb s) (hag : agr s.2.2.1 rm s.2.1) (hrm : ∀ i, rm i < 256) : xCr l x 5 0 0 mMO_readBlocks [.ref 74] (hM C cd T (rm, s.2.2.1) (0, pl, s.2.2.2.1, s.2.2.2.2.1) (K4 s.2.2.2.2.2) s.1 mb A B Z) (fun o H' => o = none ∧ QMB C cd T pl mb B Z (zblocks T.1 e mb 262144 s) H') := by
  refine xCt.of (by decide) rfl ck_MO_readBlocks (Nat.le_of_ble_eq_true rfl) rfl ?_
  refine b_MO_readBlocks_0 ?_
  exact MO_blk_loop hT hn he _ (fK_zblocks _ _) (fun H' h => ⟨_, rfl, rfl, h⟩) 262144 s rm A true (by omega) hs hag hrm rfl
end MBlks
