/-! the model unpacks -/
theorem nI_sub {a b : Nat} (h : b ≤ a) : nI a - nI b = nI (a - b) := pk_sub h
theorem adS_congr {f g : Nat → Nat} : ∀ m i a b, (∀ j, i ≤ j → j < i + m → f j = g j) → adS f m i a b = adS g m i a b := by
  intro m
  induction m with
  | zero => intro i a b _; rfl
  | succ m ih =>
    intro i a b h
    show adS f m (i + 1) ((a + f i) % 65521) ((b + (a + f i) % 65521) % 65521) = adS g m (i + 1) ((a + g i) % 65521) ((b + (a + g i) % 65521) % 65521)
    rw [h i (by omega) (by omega)]
    exact ih _ _ _ (fun j h1 h2 => h j (by omega) (by omega))
theorem crS_congr {f g : Nat → Nat} : ∀ m i v, (∀ j, i ≤ j → j < i + m → f j = g j) → crS f m i v = crS g m i v := by
  intro m
  induction m with
  | zero => intro i v _; rfl
  | succ m ih =>
    intro i v h
    show crS f m (i + 1) (csn 8 (v ^^^ f i)) = crS g m (i + 1) (csn 8 (v ^^^ g i))
    rw [h i (by omega) (by omega)]
    exact ih _ _ (fun j h1 h2 => h j (by omega) (by omega))
theorem agr_adl {n : Nat} {f g : Nat → Nat} (h : agr n f g) (fm : Nat) : adl f fm n = adl g fm n := by
  unfold adl
  rw [adS_congr (n - fm) fm 1 0 (fun j h1 h2 => h j (by omega))]
theorem agr_crc {n : Nat} {f g : Nat → Nat} (h : agr n f g) (fm : Nat) : crc f fm n = crc g fm n := by
  unfold crc
  rw [crS_congr (n - fm) fm _ (fun j h1 h2 => h j (by omega))]
def bev (t : Nat → Nat) (b : Nat) : Nat → Nat
  | 0 => 0
  | i + 1 => 256 * bev t b i + t (b + i)
theorem bev_lt {t : Nat → Nat} (ht : ∀ i, t i < 256) (b : Nat) : ∀ i, bev t b i < 256 ^ i := by
  intro i
  induction i with
  | zero => exact (by decide : 0 < 1)
  | succ i ih => have h := ht (b + i); unfold bev; rw [Nat.pow_succ]; omega
theorem bev_four (t : Nat → Nat) (b : Nat) : bev t b 4 = fourv t b true := by
  show 256 * (256 * (256 * (256 * 0 + t (b + 0)) + t (b + 1)) + t (b + 2)) + t (b + 3) = ((t b * 256 + t (b + 1)) * 256 + t (b + 2)) * 256 + t (b + 3)
  rw [Nat.add_zero]
  omega
theorem lcmp {a b : Nat} (ha : a < 2 ^ 63) (hb : b < 2 ^ 63) : (lg_cmp (lN a) (lN b) = 0) ↔ a = b := by rw [lg_cmp_eq, pk_lEQ ha hb]
section MUnp
variable {l : Launch} {x : xX} {d : Nat} {C : Nat → va_E} {cd : Int32} {T : wRow} {pl : Int32} {B : wMB} {Z : xH} {e : Nat}
theorem c_MO_readShort (hT : ∀ i, T.1 i < 256) (hn : T.2 ≤ 32768) (he : e = 8 * T.2) {rb rm td : Nat → Nat} {A : wK4} (hrb : ∀ i, rb i < 256) (hrm : ∀ i, rm i < 256) (m : Nat) : xCr l x 6 0 0 mMO_readShort [.ref 74] (hM C cd T (rm, 0) (0, pl, 0, 0) (K4 td) 0 0 A B Z) (fun o H' => o = none ∧ QMB C cd T pl 0 B Z (zfin e (zmem T.1 e 1 (m + 1) (0, rb, 0, 0, 0, td))) H') := by
  have hK0 : fK (zmem T.1 e 1 (m + 1) (0, rb, 0, 0, 0, td)) := fK_zmem _ _
  have hK : fK (zfin e (zmem T.1 e 1 (m + 1) (0, rb, 0, 0, 0, td))) := by
    revert hK0
    generalize zmem T.1 e 1 (m + 1) (0, rb, 0, 0, 0, td) = y
    intro hK0
    cases y with
    | inl q => exact hK0
    | inr s => exact fK_i (fK_l (by decide) (by decide)) fK_r
  clear hK0
  generalize hz : zfin e (zmem T.1 e 1 (m + 1) (0, rb, 0, 0, 0, td)) = z at hK ⊢
  unfold zmem at hz
  dsimp only at hz
  rw [show zhead T.1 e 1 0 = zshort T.1 e 0 from rfl] at hz
  unfold zshort at hz
  have b0 := rdn8 T.1 0
  have b1 := rdn8 T.1 (0 + 8)
  refine xCt.of (by decide) rfl ck_MO_readShort (Nat.le_of_ble_eq_true rfl) rfl ?_
  generalize List.length (hM C cd T (rm, 0) (0, pl, 0, 0) (K4 td) 0 0 A B Z) = n0
  -- behind a fault
  have f85 : ∀ (f p bl st : Nat) (td : Nat → Nat) (v1 v2 v3 v6 : Int32) (v4 : Int64) (R' : wRow) (a' mb' : Nat) (A' : wK4) (cl : Bool), z = .inl (f, p, bl, st, td) → xW l x 6 0 0 mMO_readShort n0 (fun r H' => ∃ o, r = Sum.inl o ∧ o = none ∧ QMB C cd T pl 0 B Z z H') cl 85 [some (.ref 74), some (.int v1), some (.int v2), some (.int v3), some (.long v4), none, some (.int v6)] [] (hM C cd T R' (nI f, nI p, bl, st) (K4 td) a' mb' A' B Z) 0 0 := by
    intro f p bl st td v1 v2 v3 v6 v4 R' a' mb' A' cl hz
    have hF := nI_ne (hK _ hz).1 (hK _ hz).2
    refine b_MO_readShort_85 ?_
    refine xs_callV rfl lk_12_198 (d' := 1) (c_MO_wantEnd_f hF) (Nat.le_of_ble_eq_true rfl) rfl rfl rfl rfl rfl (Nat.le_of_ble_eq_true rfl) (by omega) (by omega) ?_
    rintro _ H1 ⟨rfl, rfl⟩
    refine b_MO_readShort_87 ?_
    refine ⟨rfl, Nat.le_refl _, _, rfl, ⟨rfl, Or.inl ⟨f, p, bl, st, td, hz, _, _, _, _, rfl⟩⟩⟩
  have f56 : ∀ (j i : Nat) (f p bl st : Nat) (td : Nat → Nat) (v1 v2 v3 : Int32) (v4 : Int64) (R' : wRow) (a' mb' : Nat) (A' : wK4) (cl : Bool), i + j = 4 → z = .inl (f, p, bl, st, td) → xW l x 6 0 0 mMO_readShort n0 (fun r H' => ∃ o, r = Sum.inl o ∧ o = none ∧ QMB C cd T pl 0 B Z z H') cl 56 [some (.ref 74), some (.int v1), some (.int v2), some (.int v3), some (.long v4), none, some (.int (nI i))] [] (hM C cd T R' (nI f, nI p, bl, st) (K4 td) a' mb' A' B Z) 0 0 := by
    intro j
    induction j with
    | zero =>
      intro i f p bl st td v1 v2 v3 v4 R' a' mb' A' cl hi hz
      have hF := nI_ne (hK _ hz).1 (hK _ hz).2
      refine b_MO_readShort_56 ?_
      refine ⟨fun hb => ?_, fun hb => ?_⟩ <;> (try simp (disch := omega) only [nI_lit, nI_fold, nI_mul, nI_add, pk_sub, pk_div, nI_shrN, nI_clamp, nI_leI, nI_ltI, nI_eq, not_true_eq_false, not_false_eq_true, Bool.false_eq_true, if_true, if_false, nI_nem, nI_m1, nI_m7, nI_m15, nI_m32, nI_m4, nI_m8, nI_m16, nI_m2] at hb) <;> (try omega)
      refine ⟨_, ⟨_, rfl, rfl⟩, ?_⟩
      refine ⟨fun _ => ?_, fun h => absurd h hF⟩
      exact f85 f p bl st td _ _ _ _ _ _ _ _ _ _ hz
    | succ j ih =>
      intro i f p bl st td v1 v2 v3 v4 R' a' mb' A' cl hi hz
      have hF := nI_ne (hK _ hz).1 (hK _ hz).2
      refine b_MO_readShort_56 ?_
      refine ⟨fun hb => ?_, fun hb => ?_⟩ <;> (try simp (disch := omega) only [nI_lit, nI_fold, nI_mul, nI_add, pk_sub, pk_div, nI_shrN, nI_clamp, nI_leI, nI_ltI, nI_eq, not_true_eq_false, not_false_eq_true, Bool.false_eq_true, if_true, if_false, nI_nem, nI_m1, nI_m7, nI_m15, nI_m32, nI_m4, nI_m8, nI_m16, nI_m2] at hb) <;> (try omega)
      refine xs_callV rfl lk_12_190 (d' := 3) (c_MO_wrapped_f hF) (Nat.le_of_ble_eq_true rfl) rfl rfl rfl rfl rfl (Nat.le_of_ble_eq_true rfl) (by omega) (by omega) ?_
      rintro _ H1 ⟨rfl, rfl⟩
      refine b_MO_readShort_64 ?_
      rw [nI_1]
      exact ih (i + 1) f p bl st td _ _ _ _ _ _ _ _ _ (by omega) hz
  have f47 : ∀ (f p bl st : Nat) (td : Nat → Nat) (v1 v2 : Int32) (R' : wRow) (a' mb' : Nat) (A' : wK4) (cl : Bool), z = .inl (f, p, bl, st, td) → xW l x 6 0 0 mMO_readShort n0 (fun r H' => ∃ o, r = Sum.inl o ∧ o = none ∧ QMB C cd T pl 0 B Z z H') cl 47 [some (.ref 74), some (.int v1), some (.int v2), none, none, none, none] [] (hM C cd T R' (nI f, nI p, bl, st) (K4 td) a' mb' A' B Z) 0 0 := by
    intro f p bl st td v1 v2 R' a' mb' A' cl hz
    refine b_MO_readShort_47 ?_
    refine xs_callV rfl lk_12_167 (d' := 0) (c_MO_toByte_f) (Nat.le_of_ble_eq_true rfl) rfl rfl rfl rfl rfl (Nat.le_of_ble_eq_true rfl) (by omega) (by omega) ?_
    rintro _ H1 ⟨rfl, a2, rfl⟩
    refine b_MO_readShort_49 ⟨_, ⟨_, rfl, rfl⟩, ?_⟩
    exact f56 4 0 f p bl st td _ _ _ _ _ _ _ _ _ (by omega) hz
  have f45 : ∀ (f p bl st : Nat) (td : Nat → Nat) (v1 v2 : Int32) (R' : wRow) (a' mb' : Nat) (A' : wK4) (cl : Bool), z = .inl (f, p, bl, st, td) → xW l x 6 0 0 mMO_readShort n0 (fun r H' => ∃ o, r = Sum.inl o ∧ o = none ∧ QMB C cd T pl 0 B Z z H') cl 45 [some (.ref 74), some (.int v1), some (.int v2), none, none, none, none] [] (hM C cd T R' (nI f, nI p, bl, st) (K4 td) a' mb' A' B Z) 0 0 := by
    intro f p bl st td v1 v2 R' a' mb' A' cl hz
    have hF := nI_ne (hK _ hz).1 (hK _ hz).2
    refine b_MO_readShort_45 ?_
    refine xs_callV rfl lk_12_193 (d' := 5) (c_MO_readBlocks_f hF) (Nat.le_of_ble_eq_true rfl) rfl rfl rfl rfl rfl (Nat.le_of_ble_eq_true rfl) (by omega) (by omega) ?_
    rintro _ H1 ⟨rfl, rfl⟩
    exact f47 f p bl st td _ _ _ _ _ _ _ hz
  have f20 : ∀ (f p bl st : Nat) (td : Nat → Nat) (v1 : Int32) (R' : wRow) (a' mb' : Nat) (A' : wK4) (cl : Bool), z = .inl (f, p, bl, st, td) → xW l x 6 0 0 mMO_readShort n0 (fun r H' => ∃ o, r = Sum.inl o ∧ o = none ∧ QMB C cd T pl 0 B Z z H') cl 20 [some (.ref 74), some (.int v1), none, none, none, none, none] [] (hM C cd T R' (nI f, nI p, bl, st) (K4 td) a' mb' A' B Z) 0 0 := by
    intro f p bl st td v1 R' a' mb' A' cl hz
    have hF := nI_ne (hK _ hz).1 (hK _ hz).2
    refine b_MO_readShort_20 ?_
    refine xs_callV rfl lk_12_190 (d' := 3) (c_MO_wrapped_f hF) (Nat.le_of_ble_eq_true rfl) rfl rfl rfl rfl rfl (Nat.le_of_ble_eq_true rfl) (by omega) (by omega) ?_
    rintro _ H1 ⟨rfl, rfl⟩
    refine b_MO_readShort_22 ⟨_, ⟨_, rfl, rfl⟩, ?_⟩
    refine ⟨fun _ => ?_, fun h => absurd h hF⟩
    exact f45 f p bl st td _ _ _ _ _ _ _ hz
  refine b_MO_readShort_0 ?_
  refine xs_callV rfl lk_12_190 (d' := 3) (c_MO_wrapped hT hn he (by omega)) (Nat.le_of_ble_eq_true rfl) rfl rfl rfl rfl rfl (Nat.le_of_ble_eq_true rfl) (by omega) (by omega) ?_
  rintro _ H1 (⟨g1, rfl, rfl⟩ | ⟨g1, w, a', rfl, rfl⟩)
  case inr =>
    rw [if_pos (by omega)] at hz
    refine b_MO_readShort_2 ⟨_, ⟨_, rfl, rfl⟩, ?_⟩
    refine ⟨fun _ => ?_, fun h => absurd h (show ¬ (1 : Int32) = 0 by decide)⟩
    exact f20 1 e 0 0 td _ _ _ _ _ _ hz.symm
  rw [if_neg (by omega)] at hz
  have k20 : ∀ cl, rdn T.1 0 8 % 16 = 8 → rdn T.1 0 8 / 16 ≤ 7 → xW l x 6 0 0 mMO_readShort n0 (fun r H' => ∃ o, r = Sum.inl o ∧ o = none ∧ QMB C cd T pl 0 B Z z H') cl 20 [some (.ref 74), some (.int (nI (rdn T.1 0 8))), none, none, none, none, none] [] (hM C cd T (rm, 0) (0, pl, 0, 0) (K4 td) (0 + 8) 0 A B Z) 0 0 := by
    intro cl c1 c2
    rw [if_neg (by omega)] at hz
    refine b_MO_readShort_20 ?_
    refine xs_callV rfl lk_12_190 (d' := 3) (c_MO_wrapped hT hn he (by omega)) (Nat.le_of_ble_eq_true rfl) rfl rfl rfl rfl rfl (Nat.le_of_ble_eq_true rfl) (by omega) (by omega) ?_
    rintro _ H1 (⟨g2, rfl, rfl⟩ | ⟨g2, w, a', rfl, rfl⟩)
    case inr =>
      rw [if_pos (by omega)] at hz
      refine b_MO_readShort_22 ⟨_, ⟨_, rfl, rfl⟩, ?_⟩
      refine ⟨fun _ => ?_, fun h => absurd h (show ¬ (1 : Int32) = 0 by decide)⟩
      exact f45 1 e 0 0 td _ _ _ _ _ _ _ hz.symm
    rw [if_neg (by omega)] at hz
    refine b_MO_readShort_22 ⟨_, ⟨_, rfl, rfl⟩, ?_⟩
    refine ⟨fun h => absurd rfl h, fun _ => ?_⟩
    refine ⟨fun hf => ?_, fun hf => ?_⟩ <;> (try simp (disch := omega) only [nI_lit, nI_fold, nI_mul, nI_add, pk_sub, pk_div, nI_shrN, nI_clamp, nI_leI, nI_ltI, nI_eq, not_true_eq_false, not_false_eq_true, Bool.false_eq_true, if_true, if_false, nI_nem, nI_m1, nI_m7, nI_m15, nI_m32, nI_m4, nI_m8, nI_m16, nI_m2] at hf) <;> (try omega)
    · rw [if_pos (by omega)] at hz
      refine xs_callV rfl lk_12_121 (d' := 0) (c_MO_fail) (Nat.le_of_ble_eq_true rfl) rfl rfl rfl rfl rfl (Nat.le_of_ble_eq_true rfl) (by omega) (by omega) ?_
      rintro _ H1 ⟨rfl, rfl⟩
      exact f45 12 8 0 0 td _ _ _ _ _ _ _ hz.symm
    refine ⟨fun hg => ?_, fun hg => ?_⟩ <;> (try simp (disch := omega) only [nI_lit, nI_fold, nI_mul, nI_add, pk_sub, pk_div, nI_shrN, nI_clamp, nI_leI, nI_ltI, nI_eq, not_true_eq_false, not_false_eq_true, Bool.false_eq_true, if_true, if_false, nI_nem, nI_m1, nI_m7, nI_m15, nI_m32, nI_m4, nI_m8, nI_m16, nI_m2] at hg) <;> (try omega)
    case refine_2 =>
      rw [if_pos (by omega)] at hz
      refine xs_callV rfl lk_12_121 (d' := 0) (c_MO_fail) (Nat.le_of_ble_eq_true rfl) rfl rfl rfl rfl rfl (Nat.le_of_ble_eq_true rfl) (by omega) (by omega) ?_
      rintro _ H1 ⟨rfl, rfl⟩
      exact f45 12 8 0 0 td _ _ _ _ _ _ _ hz.symm
    rw [if_neg (by omega)] at hz
    dsimp only at hz
    have hb1 : bOK e 0 (16, rb, 0, 0, 0, td) := ⟨by dsimp only; omega, by dsimp only; omega, by dsimp only; omega, fun i => by dsimp only; exact hrb i, by dsimp only; omega⟩
    refine b_MO_readShort_45 ?_
    refine xs_callV rfl lk_12_193 (d' := 5) (c_MO_readBlocks (s := (16, rb, 0, 0, 0, td)) hT hn he hb1 (fun i hi => absurd hi (by dsimp only; omega)) hrm) (Nat.le_of_ble_eq_true rfl) rfl rfl rfl rfl rfl (Nat.le_of_ble_eq_true rfl) (by omega) (by omega) ?_
    rintro _ H1 ⟨rfl, ⟨f, p, bl, st, td', q1, R', a', mb', A', rfl⟩ | ⟨s2, rm', A', q1, hag', hrm', rfl⟩⟩
    · rw [show (0 : Nat) + 16 = 16 from rfl, q1] at hz
      exact f47 f p bl st td' _ _ _ _ _ _ _ hz.symm
    obtain ⟨⟨g1, g2, g3, g4, g5⟩, g6⟩ := zblocks_ok hT _ _ hb1 q1
    rw [show (0 : Nat) + 16 = 16 from rfl, q1] at hz
    dsimp only at hz
    rw [show ∀ b n a, ztail T.1 e 1 b n 0 a = zfour T.1 e true 13 (adl b 0 n) a from fun _ _ _ => rfl, ← agr_adl hag' 0] at hz
    unfold zfour at hz
    have hA : ∃ a5, a5 = (s2.1 + 7) / 8 * 8 := ⟨_, rfl⟩
    obtain ⟨a5, ha5⟩ := hA
    rw [← ha5] at hz
    refine b_MO_readShort_47 ?_
    refine xs_callV rfl lk_12_167 (d' := 0) (c_MO_toByte (by omega)) (Nat.le_of_ble_eq_true rfl) rfl rfl rfl rfl rfl (Nat.le_of_ble_eq_true rfl) (by omega) (by omega) ?_
    rintro _ H1 ⟨rfl, rfl⟩
    rw [← ha5]
    refine b_MO_readShort_49 ⟨_, ⟨_, rfl, rfl⟩, ?_⟩
    have k56 : ∀ (j i : Nat) (v1 v2 : Int32) (cl : Bool), i + j = 4 → a5 + 8 * i ≤ e → xW l x 6 0 0 mMO_readShort n0 (fun r H' => ∃ o, r = Sum.inl o ∧ o = none ∧ QMB C cd T pl 0 B Z z H') cl 56 [some (.ref 74), some (.int v1), some (.int v2), some (.int (nI a5)), some (.long (lN (bev T.1 (a5 / 8) i))), none, some (.int (nI i))] [] (hM C cd T (rm', s2.2.2.1) (0, pl, s2.2.2.2.1, s2.2.2.2.2.1) (K4 s2.2.2.2.2.2) (a5 + 8 * i) 0 A' B Z) 0 0 := by
      intro j
      induction j with
      | zero =>
        intro i v1 v2 cl hi hae
        have : i = 4 := by omega
        subst this
        have hfv := fourv_lt hT (a5 / 8) true
        have had := adl_lt rm' 0 s2.2.2.1
        rw [if_neg (by omega)] at hz
        rw [bev_four]
        refine b_MO_readShort_56 ?_
        refine ⟨fun hb => ?_, fun hb => ?_⟩ <;> (try simp (disch := omega) only [nI_lit, nI_fold, nI_mul, nI_add, pk_sub, pk_div, nI_shrN, nI_clamp, nI_leI, nI_ltI, nI_eq, not_true_eq_false, not_false_eq_true, Bool.false_eq_true, if_true, if_false, nI_nem, nI_m1, nI_m7, nI_m15, nI_m32, nI_m4, nI_m8, nI_m16, nI_m2] at hb) <;> (try omega)
        refine ⟨_, ⟨_, rfl, rfl⟩, ?_⟩
        refine ⟨fun h => absurd rfl h, fun _ => ?_⟩
        refine ⟨_, ⟨_, rfl, rfl⟩, _, ⟨_, rfl, rfl⟩, ?_⟩
        refine xs_callS rfl lk_12_101 (d' := 0) (c_MO_sumA (fm := 0) (to := s2.2.2.1) (N := 65536) (t := rm') rfl hrm' (by omega) g2 (by decide)) (Nat.le_of_ble_eq_true rfl) rfl rfl (Nat.le_of_ble_eq_true rfl) (by omega) (by omega) ?_
        rintro _ H1 ⟨rfl, rfl⟩
        refine b_MO_readShort_79 ?_
        refine ⟨fun hc => ?_, fun hc => ?_⟩ <;> rw [lcmp (by omega) (by omega)] at hc
        · rw [if_pos (by omega)] at hz
          dsimp only at hz
          rw [if_neg (by omega)] at hz
          refine b_MO_readShort_85 ?_
          refine xs_callV rfl lk_12_198 (d' := 1) (c_MO_wantEnd hn he (by omega)) (Nat.le_of_ble_eq_true rfl) rfl rfl rfl rfl rfl (Nat.le_of_ble_eq_true rfl) (by omega) (by omega) ?_
          intro o H1 hA
          obtain ⟨rfl, hA⟩ := hA
          refine b_MO_readShort_87 ?_
          unfold zfin at hz
          dsimp only at hz
          by_cases hlt : a5 + 32 < e
          · rw [if_pos hlt] at hz
            rw [if_pos (by omega)] at hA
            obtain ⟨R', a', mb', A2, rfl⟩ := hA
            refine ⟨rfl, Nat.le_refl _, _, rfl, ⟨rfl, Or.inl ⟨11, a5 + 32, _, _, _, hz.symm, _, _, _, _, rfl⟩⟩⟩
          · rw [if_neg hlt] at hz
            rw [if_neg (by omega)] at hA
            have hA : H1 = _ := hA
            subst hA
            refine ⟨rfl, Nat.le_refl _, _, rfl, ⟨rfl, Or.inr ⟨_, rm', A', hz.symm, hag', hrm', rfl⟩⟩⟩
        · rw [if_neg (by omega)] at hz
          refine xs_callV rfl lk_12_121 (d' := 0) (c_MO_fail) (Nat.le_of_ble_eq_true rfl) rfl rfl rfl rfl rfl (Nat.le_of_ble_eq_true rfl) (by omega) (by omega) ?_
          rintro _ H1 ⟨rfl, rfl⟩
          exact f85 13 a5 _ _ _ _ _ _ _ _ _ _ _ _ _ hz.symm
      | succ j ih =>
        intro i v1 v2 cl hi hae
        have hbl := bev_lt hT (a5 / 8) i
        have hp : 256 ^ i ≤ 256 ^ 3 := Nat.pow_le_pow_right (by decide) (by omega)
        refine b_MO_readShort_56 ?_
        refine ⟨fun hb => ?_, fun hb => ?_⟩ <;> (try simp (disch := omega) only [nI_lit, nI_fold, nI_mul, nI_add, pk_sub, pk_div, nI_shrN, nI_clamp, nI_leI, nI_ltI, nI_eq, not_true_eq_false, not_false_eq_true, Bool.false_eq_true, if_true, if_false, nI_nem, nI_m1, nI_m7, nI_m15, nI_m32, nI_m4, nI_m8, nI_m16, nI_m2] at hb) <;> (try omega)
        refine xs_callV rfl lk_12_190 (d' := 3) (c_MO_wrapped hT hn he hae) (Nat.le_of_ble_eq_true rfl) rfl rfl rfl rfl rfl (Nat.le_of_ble_eq_true rfl) (by omega) (by omega) ?_
        rintro _ H1 (⟨g3, rfl, rfl⟩ | ⟨g3, w, a', rfl, rfl⟩)
        · have hb := hT (a5 / 8 + i)
          refine b_MO_readShort_64 ?_
          rw [rdn_al hT (by omega), show (a5 + 8 * i) / 8 = a5 / 8 + i by omega, nI_l (by omega), show (256 : Int64) = lN 256 from rfl, lN_mul, lN_add, nI_1, show a5 + 8 * i + 8 = a5 + 8 * (i + 1) by omega]
          exact ih (i + 1) _ _ false (by omega) (by omega)
        · rw [if_pos (by omega)] at hz
          refine b_MO_readShort_64 ?_
          rw [nI_1]
          exact f56 j (i + 1) 1 e _ _ _ _ _ _ _ _ _ _ _ _ (by omega) hz.symm
    exact k56 4 0 _ _ _ (by omega) (by omega)
  refine b_MO_readShort_2 ⟨_, ⟨_, rfl, rfl⟩, ?_⟩
  refine ⟨fun h => absurd rfl h, fun _ => ?_⟩
  refine ⟨fun hf => ?_, fun hf => ?_⟩ <;> (try simp (disch := omega) only [nI_lit, nI_fold, nI_mul, nI_add, pk_sub, pk_div, nI_shrN, nI_clamp, nI_leI, nI_ltI, nI_eq, not_true_eq_false, not_false_eq_true, Bool.false_eq_true, if_true, if_false, nI_nem, nI_m1, nI_m7, nI_m15, nI_m32, nI_m4, nI_m8, nI_m16, nI_m2] at hf) <;> (try omega)
  · rw [if_pos (by omega)] at hz
    refine xs_callV rfl lk_12_121 (d' := 0) (c_MO_fail) (Nat.le_of_ble_eq_true rfl) rfl rfl rfl rfl rfl (Nat.le_of_ble_eq_true rfl) (by omega) (by omega) ?_
    rintro _ H1 ⟨rfl, rfl⟩
    exact f20 12 0 0 0 td _ _ _ _ _ _ hz.symm
  refine ⟨fun hg => ?_, fun hg => ?_⟩ <;> (try simp (disch := omega) only [nI_lit, nI_fold, nI_mul, nI_add, pk_sub, pk_div, nI_shrN, nI_clamp, nI_leI, nI_ltI, nI_eq, not_true_eq_false, not_false_eq_true, Bool.false_eq_true, if_true, if_false, nI_nem, nI_m1, nI_m7, nI_m15, nI_m32, nI_m4, nI_m8, nI_m16, nI_m2] at hg) <;> (try omega)
  · exact k20 _ (by omega) (by omega)
  · rw [if_pos (by omega)] at hz
    refine xs_callV rfl lk_12_121 (d' := 0) (c_MO_fail) (Nat.le_of_ble_eq_true rfl) rfl rfl rfl rfl rfl (Nat.le_of_ble_eq_true rfl) (by omega) (by omega) ?_
    rintro _ H1 ⟨rfl, rfl⟩
    exact f20 12 0 0 0 td _ _ _ _ _ _ hz.symm
theorem MO_long_loop {n0 : Nat} {Q : xO → xH → Prop} (hT : ∀ i, T.1 i < 256) (hn : T.2 ≤ 32768) (he : e = 8 * T.2) (z : zB) (hK : fK z) (hq : ∀ mb H', QMB C cd T pl mb B Z (zfin e z) H' → Q (.inl none) H') :
    ∀ (m : Nat) (s : bS) (rm : Nat → Nat) (A : wK4) (mb : Nat) (cl : Bool), e - s.1 < 64 * m → bOK e 0 s → s.1 % 8 = 0 → agr s.2.2.1 rm s.2.1 → (∀ i, rm i < 256) → zmem T.1 e 2 m s = z → xW l x 6 0 0 mMO_readLong n0 Q cl 2 [some (.ref 74), some (.int (nI 1)), none, none, none] [] (hM C cd T (rm, s.2.2.1) (0, pl, s.2.2.2.1, s.2.2.2.2.1) (K4 s.2.2.2.2.2) s.1 mb A B Z) 0 0 := by
  -- behind a fault
  have f2 : ∀ (f p bl st : Nat) (td : Nat → Nat) (v1 : Int32) (R' : wRow) (a' mb' : Nat) (A' : wK4) (cl : Bool), z = .inl (f, p, bl, st, td) → xW l x 6 0 0 mMO_readLong n0 Q cl 2 [some (.ref 74), some (.int v1), none, none, none] [] (hM C cd T R' (nI f, nI p, bl, st) (K4 td) a' mb' A' B Z) 0 0 := by
    intro f p bl st td v1 R' a' mb' A' cl hz
    have hF := nI_ne (hK _ hz).1 (hK _ hz).2
    refine b_MO_readLong_2 ?_
    refine ⟨fun _ => ⟨rfl, Nat.le_refl _, hq 0 _ (Or.inl ⟨f, p, bl, st, td, by rw [hz]; rfl, _, _, _, _, rfl⟩)⟩, fun _ => ?_⟩
    refine ⟨_, ⟨_, rfl, rfl⟩, ?_⟩
    exact ⟨fun _ => ⟨rfl, Nat.le_refl _, hq 0 _ (Or.inl ⟨f, p, bl, st, td, by rw [hz]; rfl, _, _, _, _, rfl⟩)⟩, fun h => absurd h hF⟩
  have f65 : ∀ (f p bl st : Nat) (td : Nat → Nat) (v1 v2 : Int32) (v3 : Int64) (R' : wRow) (a' mb' : Nat) (A' : wK4) (cl : Bool), z = .inl (f, p, bl, st, td) → xW l x 6 0 0 mMO_readLong n0 Q cl 65 [some (.ref 74), some (.int v1), some (.int v2), some (.long v3), none] [] (hM C cd T R' (nI f, nI p, bl, st) (K4 td) a' mb' A' B Z) 0 0 := by
    intro f p bl st td v1 v2 v3 R' a' mb' A' cl hz
    refine b_MO_readLong_65 ⟨_, ⟨_, rfl, rfl⟩, _, ⟨_, rfl, rfl⟩, ?_⟩
    refine ⟨fun _ => ?_, fun _ => ?_⟩
    · refine xW.fgt 2 (xW.fgt 3 ?_)
      exact f2 f p bl st td _ _ _ _ _ _ hz
    · refine xW.fgt 2 (xW.fgt 3 ?_)
      exact f2 f p bl st td _ _ _ _ _ _ hz
  have f43 : ∀ (f p bl st : Nat) (td : Nat → Nat) (v1 v2 : Int32) (v3 : Int64) (R' : wRow) (a' mb' : Nat) (A' : wK4) (cl : Bool), z = .inl (f, p, bl, st, td) → xW l x 6 0 0 mMO_readLong n0 Q cl 43 [some (.ref 74), some (.int v1), some (.int v2), some (.long v3), none] [] (hM C cd T R' (nI f, nI p, bl, st) (K4 td) a' mb' A' B Z) 0 0 := by
    intro f p bl st td v1 v2 v3 R' a' mb' A' cl hz
    have hF := nI_ne (hK _ hz).1 (hK _ hz).2
    refine b_MO_readLong_43 ⟨_, ⟨_, rfl, rfl⟩, ?_⟩
    refine xs_callV rfl lk_12_215 (d' := 4) (c_MO_four_f hF) (Nat.le_of_ble_eq_true rfl) rfl rfl rfl rfl rfl (Nat.le_of_ble_eq_true rfl) (by omega) (by omega) ?_
    rintro _ H1 ⟨⟨v, rfl⟩, rfl⟩
    refine b_MO_readLong_48 ⟨_, ⟨_, rfl, rfl⟩, ?_⟩
    refine ⟨fun _ => ?_, fun h => absurd h hF⟩
    exact f65 f p bl st td _ _ _ _ _ _ _ _ hz
  have f18 : ∀ (f p bl st : Nat) (td : Nat → Nat) (v1 : Int32) (R' : wRow) (a' mb' : Nat) (A' : wK4) (cl : Bool), z = .inl (f, p, bl, st, td) → xW l x 6 0 0 mMO_readLong n0 Q cl 18 [some (.ref 74), some (.int v1), none, none, none] [] (hM C cd T R' (nI f, nI p, bl, st) (K4 td) a' mb' A' B Z) 0 0 := by
    intro f p bl st td v1 R' a' mb' A' cl hz
    have hF := nI_ne (hK _ hz).1 (hK _ hz).2
    refine b_MO_readLong_18 ?_
    refine xs_callV rfl lk_12_167 (d' := 0) (c_MO_toByte_f) (Nat.le_of_ble_eq_true rfl) rfl rfl rfl rfl rfl (Nat.le_of_ble_eq_true rfl) (by omega) (by omega) ?_
    rintro _ H1 ⟨rfl, a2, rfl⟩
    refine b_MO_readLong_20 ⟨_, ⟨_, rfl, rfl⟩, ?_⟩
    refine xs_callV rfl lk_12_215 (d' := 4) (c_MO_four_f hF) (Nat.le_of_ble_eq_true rfl) rfl rfl rfl rfl rfl (Nat.le_of_ble_eq_true rfl) (by omega) (by omega) ?_
    rintro _ H1 ⟨⟨v, rfl⟩, rfl⟩
    refine b_MO_readLong_25 ⟨_, ⟨_, rfl, rfl⟩, ?_⟩
    refine ⟨fun _ => ?_, fun h => absurd h hF⟩
    exact f43 f p bl st td _ _ _ _ _ _ _ _ hz
  intro m
  induction m with
  | zero => intro s rm A mb cl h; omega
  | succ m ih =>
    intro s rm A mb cl hm hs h8 hag hrm hz
    obtain ⟨a, rb, rn, bl, st, td⟩ := s
    obtain ⟨h1, h2, h3, h4, h5⟩ := id hs
    dsimp only at h1 h2 h3 h4 h5 hm hag h8
    unfold zmem at hz
    dsimp only at hz
    refine b_MO_readLong_2 ?_
    refine ⟨fun h => absurd h (by decide), fun _ => ?_⟩
    refine ⟨_, ⟨_, rfl, rfl⟩, ?_⟩
    refine ⟨fun h => absurd rfl h, fun _ => ?_⟩
    refine ⟨_, ⟨_, rfl, rfl⟩, _, rfl, Nat.le_of_ble_eq_true rfl, fun H4 e4 => ?_⟩
    try simp (disch := omega) only [nI_lit, nI_fold, nI_mul, nI_add, pk_sub, pk_div, nI_shrN, nI_clamp] at e4
    subst e4
    refine xs_callV rfl lk_12_212 (d' := 5) (c_MO_readHead (R := (rm, rn)) (mb := rn) hT hn he h8 h1) (Nat.le_of_ble_eq_true rfl) rfl rfl rfl rfl rfl (Nat.le_of_ble_eq_true rfl) (by omega) (by omega) ?_
    rintro _ H1 ⟨rfl, hA⟩
    rcases hA.cases with ⟨f, p, q1, R', a', mb', A', rfl⟩ | ⟨a1, q1, rfl⟩
    · rw [show zhead T.1 e 2 a = .inl (f, p) from q1] at hz
      have hF := nI_ne (hK _ hz.symm).1 (hK _ hz.symm).2
      refine b_MO_readLong_13 ⟨_, ⟨_, rfl, rfl⟩, ?_⟩
      refine ⟨fun _ => ?_, fun h => absurd h hF⟩
      exact f18 f p bl st td _ _ _ _ _ _ hz.symm
    have q1 : zhead T.1 e 2 a = .inr a1 := q1
    have q2 := zhead_le (by omega) h1 q1
    rw [q1] at hz
    dsimp only at hz
    have hb1 : bOK e rn (a1, rb, rn, bl, st, td) := ⟨by dsimp only; omega, by dsimp only; omega, by dsimp only; omega, fun i => by dsimp only; exact h4 i, by dsimp only; omega⟩
    refine b_MO_readLong_13 ⟨_, ⟨_, rfl, rfl⟩, ?_⟩
    refine ⟨fun h => absurd rfl h, fun _ => ?_⟩
    refine xs_callV rfl lk_12_193 (d' := 5) (c_MO_readBlocks (s := (a1, rb, rn, bl, st, td)) hT hn he hb1 hag hrm) (Nat.le_of_ble_eq_true rfl) rfl rfl rfl rfl rfl (Nat.le_of_ble_eq_true rfl) (by omega) (by omega) ?_
    rintro _ H1 ⟨rfl, ⟨f, p, bl', st', td', q3, R', a', mb', A', rfl⟩ | ⟨s2, rm', A', q3, hag', hrm', rfl⟩⟩
    · rw [q3] at hz
      exact f18 f p bl' st' td' _ _ _ _ _ _ hz.symm
    obtain ⟨⟨g1, g2, g3, g4, g5⟩, g6⟩ := zblocks_ok hT _ _ hb1 q3
    dsimp only at g6
    rw [q3] at hz
    dsimp only at hz
    have hA : ∃ a5, a5 = (s2.1 + 7) / 8 * 8 := ⟨_, rfl⟩
    obtain ⟨a5, ha5⟩ := hA
    rw [← ha5] at hz
    have ht : ztail T.1 e 2 s2.2.1 s2.2.2.1 rn a5 = zb (zfour T.1 e false 13 (crc rm' rn s2.2.2.1) a5) fun a => zfour T.1 e false 14 (s2.2.2.1 - rn) a := by rw [agr_crc hag' rn]; rfl
    have hfv := fourv_lt hT (a5 / 8) false
    have hfv2 := fourv_lt hT ((a5 + 32) / 8) false
    have hcr := crc_lt hrm' rn s2.2.2.1
    refine b_MO_readLong_18 ?_
    refine xs_callV rfl lk_12_167 (d' := 0) (c_MO_toByte (by omega)) (Nat.le_of_ble_eq_true rfl) rfl rfl rfl rfl rfl (Nat.le_of_ble_eq_true rfl) (by omega) (by omega) ?_
    rintro _ H1 ⟨rfl, rfl⟩
    rw [← ha5]
    refine b_MO_readLong_20 ⟨_, ⟨_, rfl, rfl⟩, ?_⟩
    refine xs_callV rfl lk_12_215 (d' := 4) (c_MO_four hT hn he (by omega) (by omega)) (Nat.le_of_ble_eq_true rfl) rfl rfl rfl rfl rfl (Nat.le_of_ble_eq_true rfl) (by omega) (by omega) ?_
    rintro _ H1 (⟨c1, rfl, rfl⟩ | ⟨c1, ⟨v, rfl⟩, a', rfl⟩)
    case inr =>
      rw [ht, show zfour T.1 e false 13 (crc rm' rn s2.2.2.1) a5 = .inl (1, e) from if_pos (by omega)] at hz
      refine b_MO_readLong_25 ⟨_, ⟨_, rfl, rfl⟩, ?_⟩
      refine ⟨fun _ => ?_, fun h => absurd h (show ¬ (1 : Int32) = 0 by decide)⟩
      exact f43 1 e _ _ _ _ _ _ _ _ _ _ _ hz.symm
    refine b_MO_readLong_25 ⟨_, ⟨_, rfl, rfl⟩, ?_⟩
    refine ⟨fun h => absurd rfl h, fun _ => ?_⟩
    refine ⟨_, ⟨_, rfl, rfl⟩, _, ⟨_, rfl, rfl⟩, _, ⟨_, rfl, rfl⟩, ?_⟩
    refine xs_callS rfl lk_12_105 (d' := 0) (c_MO_sumB (fm := rn) (to := s2.2.2.1) (N := 65536) (t := rm') rfl hrm' g3 g2 (by decide)) (Nat.le_of_ble_eq_true rfl) rfl rfl (Nat.le_of_ble_eq_true rfl) (by omega) (by omega) ?_
    rintro _ H1 ⟨rfl, rfl⟩
    refine b_MO_readLong_37 ?_
    refine ⟨fun hc => ?_, fun hc => ?_⟩ <;> rw [lcmp (by omega) (by omega)] at hc
    case refine_2 =>
      rw [ht, show zfour T.1 e false 13 (crc rm' rn s2.2.2.1) a5 = .inl (13, a5) by unfold zfour; rw [if_neg (by omega), if_neg (by omega)]] at hz
      refine xs_callV rfl lk_12_121 (d' := 0) (c_MO_fail) (Nat.le_of_ble_eq_true rfl) rfl rfl rfl rfl rfl (Nat.le_of_ble_eq_true rfl) (by omega) (by omega) ?_
      rintro _ H1 ⟨rfl, rfl⟩
      exact f43 13 a5 _ _ _ _ _ _ _ _ _ _ _ hz.symm
    have ht2 : ztail T.1 e 2 s2.2.1 s2.2.2.1 rn a5 = zfour T.1 e false 14 (s2.2.2.1 - rn) (a5 + 32) := by
      rw [ht, show zfour T.1 e false 13 (crc rm' rn s2.2.2.1) a5 = .inr (a5 + 32) by unfold zfour; rw [if_neg (by omega), if_pos (by omega)]]
      rfl
    rw [ht2] at hz
    unfold zfour at hz
    refine b_MO_readLong_43 ⟨_, ⟨_, rfl, rfl⟩, ?_⟩
    refine xs_callV rfl lk_12_215 (d' := 4) (c_MO_four hT hn he (by omega) (by omega)) (Nat.le_of_ble_eq_true rfl) rfl rfl rfl rfl rfl (Nat.le_of_ble_eq_true rfl) (by omega) (by omega) ?_
    rintro _ H1 (⟨c2, rfl, rfl⟩ | ⟨c2, ⟨v, rfl⟩, a', rfl⟩)
    case inr =>
      rw [if_pos (by omega)] at hz
      refine b_MO_readLong_48 ⟨_, ⟨_, rfl, rfl⟩, ?_⟩
      refine ⟨fun _ => ?_, fun h => absurd h (show ¬ (1 : Int32) = 0 by decide)⟩
      exact f65 1 e _ _ _ _ _ _ _ _ _ _ _ hz.symm
    rw [if_neg (by omega)] at hz
    refine b_MO_readLong_48 ⟨_, ⟨_, rfl, rfl⟩, ?_⟩
    refine ⟨fun h => absurd rfl h, fun _ => ?_⟩
    refine ⟨_, ⟨_, rfl, rfl⟩, _, ⟨_, rfl, rfl⟩, ?_⟩
    rw [nI_sub g3, nI_l (by omega)]
    refine ⟨fun hc => ?_, fun hc => ?_⟩ <;> rw [lcmp (by omega) (by omega)] at hc
    case refine_2 =>
      rw [if_neg (by omega)] at hz
      refine xs_callV rfl lk_12_121 (d' := 0) (c_MO_fail) (Nat.le_of_ble_eq_true rfl) rfl rfl rfl rfl rfl (Nat.le_of_ble_eq_true rfl) (by omega) (by omega) ?_
      rintro _ H1 ⟨rfl, rfl⟩
      exact f65 14 (a5 + 32) _ _ _ _ _ _ _ _ _ _ _ hz.symm
    rw [if_pos (by omega)] at hz
    dsimp only at hz
    have hb2 : bOK e 0 (a5 + 32 + 32, s2.2) := ⟨by dsimp only; omega, by dsimp only; omega, by dsimp only; omega, fun i => by dsimp only; exact g4 i, by dsimp only; omega⟩
    refine b_MO_readLong_65 ⟨_, ⟨_, rfl, rfl⟩, _, ⟨_, rfl, rfl⟩, ?_⟩
    refine ⟨fun hd => ?_, fun hd => ?_⟩ <;> (try simp (disch := omega) only [nI_lit, nI_fold, nI_mul, nI_add, pk_sub, pk_div, nI_shrN, nI_clamp, nI_leI, nI_ltI, nI_eq, not_true_eq_false, not_false_eq_true, Bool.false_eq_true, if_true, if_false, nI_nem, nI_m1, nI_m7, nI_m15, nI_m32, nI_m4, nI_m8, nI_m16, nI_m2] at hd) <;> (try omega)
    · rw [if_neg (by omega)] at hz
      refine xW.fgt 2 (xW.fgt 3 ?_)
      refine b_MO_readLong_2 ?_
      refine ⟨fun _ => ⟨rfl, Nat.le_refl _, hq rn _ (Or.inr ⟨(a5 + 32 + 32, s2.2), rm', A', by rw [← hz]; unfold zfin; dsimp only; rw [if_neg (by omega)], hag', hrm', rfl⟩)⟩, fun h => absurd rfl h⟩
    · rw [if_pos (by omega)] at hz
      refine xW.fgt 2 (xW.fgt 3 ?_)
      exact ih (a5 + 32 + 32, s2.2) rm' A' rn false (by dsimp only; omega) hb2 (by dsimp only; omega) hag' hrm' hz
theorem c_MO_readLong (hT : ∀ i, T.1 i < 256) (hn : T.2 ≤ 32768) (he : e = 8 * T.2) {rb rm td : Nat → Nat} {A : wK4} (hrb : ∀ i, rb i < 256) (hrm : ∀ i, rm i < 256) : xCr l x 6 0 0 mMO_readLong [.ref 74] (hM C cd T (rm, 0) (0, pl, 0, 0) (K4 td) 0 0 A B Z) (fun o H' => o = none ∧ ∃ mb, QMB C cd T pl mb B Z (zfin e (zmem T.1 e 2 32768 (0, rb, 0, 0, 0, td))) H') := by
  refine xCt.of (by decide) rfl ck_MO_readLong (Nat.le_of_ble_eq_true rfl) rfl ?_
  refine b_MO_readLong_0 ?_
  exact MO_long_loop hT hn he _ (fK_zmem _ _) (fun mb H' h => ⟨_, rfl, rfl, mb, h⟩) 32768 (0, rb, 0, 0, 0, td) rm A 0 true (by dsimp only; omega) ⟨by dsimp only; omega, by dsimp only; omega, by dsimp only; omega, fun i => by dsimp only; exact hrb i, by dsimp only; omega⟩ rfl (fun i hi => absurd hi (by dsimp only; omega)) hrm rfl
theorem c_MO_clear {R : wRow} {P : wRp} {K A : wK4} {a mb : Nat} : xCr l x d 0 0 mMO_clear [.ref 74] (hM C cd T R P K a mb A B Z) (fun o H' => o = none ∧ H' = hM C cd T (R.1, 0) (0, -1, 0, 0) K 0 0 A B Z) := by
  refine xCt.of (by decide) rfl ck_MO_clear (Nat.le_of_ble_eq_true rfl) rfl ?_
  refine b_MO_clear_0 ⟨_, rfl, Nat.le_of_ble_eq_true rfl, fun H2 e2 => ?_⟩
  try simp (disch := omega) only [nI_lit, nI_fold, nI_mul, nI_add, pk_sub, pk_div, nI_shrN, nI_clamp] at e2
  subst e2
  refine ⟨_, rfl, Nat.le_of_ble_eq_true rfl, fun H4 e4 => ?_⟩
  try simp (disch := omega) only [nI_lit, nI_fold, nI_mul, nI_add, pk_sub, pk_div, nI_shrN, nI_clamp] at e4
  subst e4
  refine ⟨_, rfl, Nat.le_of_ble_eq_true rfl, fun H6 e6 => ?_⟩
  try simp (disch := omega) only [nI_lit, nI_fold, nI_mul, nI_add, pk_sub, pk_div, nI_shrN, nI_clamp] at e6
  subst e6
  refine ⟨_, rfl, Nat.le_of_ble_eq_true rfl, fun H8 e8 => ?_⟩
  try simp (disch := omega) only [nI_lit, nI_fold, nI_mul, nI_add, pk_sub, pk_div, nI_shrN, nI_clamp] at e8
  subst e8
  refine ⟨_, rfl, Nat.le_of_ble_eq_true rfl, fun H10 e10 => ?_⟩
  try simp (disch := omega) only [nI_lit, nI_fold, nI_mul, nI_add, pk_sub, pk_div, nI_shrN, nI_clamp] at e10
  subst e10
  refine ⟨_, rfl, Nat.le_of_ble_eq_true rfl, fun H12 e12 => ?_⟩
  try simp (disch := omega) only [nI_lit, nI_fold, nI_mul, nI_add, pk_sub, pk_div, nI_shrN, nI_clamp] at e12
  subst e12
  refine ⟨_, rfl, Nat.le_of_ble_eq_true rfl, fun H14 e14 => ?_⟩
  try simp (disch := omega) only [nI_lit, nI_fold, nI_mul, nI_add, pk_sub, pk_div, nI_shrN, nI_clamp] at e14
  subst e14
  refine ⟨rfl, Nat.le_refl _, _, rfl, ⟨rfl, rfl⟩⟩
/-- how the model's unpacking ends -/
def QMU (C : Nat → va_E) (cd : Int32) (T : wRow) (B : wMB) (Z : xH) (z : zB) (o : Option Value) (H' : xH) : Prop := (∃ f p bl st td rm a mb A, z = .inl (f, p, bl, st, td) ∧ (∀ i, rm i < 256) ∧ o = some (.int (-1)) ∧ H' = hM C cd T (rm, 0) (nI f, nI p, bl, st) (K4 td) a mb A B Z) ∨ ∃ s rm a mb A, z = .inr s ∧ agr s.2.2.1 rm s.2.1 ∧ (∀ i, rm i < 256) ∧ o = some (.int (nI s.2.2.1)) ∧ H' = hM C cd T (rm, s.2.2.1) (0, -1, s.2.2.2.1, s.2.2.2.2.1) (K4 s.2.2.2.2.2) a mb A B Z
theorem zun_eq {t : Nat → Nat} {e w : Nat} {rb td : Nat → Nat} : zun t e w rb td = zfin e (zmem t e w 32768 (0, rb, 0, 0, 0, td)) := rfl
theorem c_MO_unpack (hT : ∀ i, T.1 i < 256) (hn : T.2 ≤ 32768) {w : Nat} (hw : w ≤ 2) {R : wRow} {P : wRp} {a mb : Nat} {A : wK4} {rb td : Nat → Nat} (hrb : ∀ i, rb i < 256) (hR : ∀ i, R.1 i < 256) : xCr l x 7 0 0 mMO_unpack [.ref 74, .int (nI w)] (hM C cd T R P (K4 td) a mb A B Z) (fun o H' => QMU C 0 T B Z (zun T.1 (8 * T.2) w rb td) o H') := by
  rw [zun_eq]
  have hA : ∃ e, e = 8 * T.2 := ⟨_, rfl⟩
  obtain ⟨e, he⟩ := hA
  rw [← he]
  have hK0 : fK (zmem T.1 e w 32768 (0, rb, 0, 0, 0, td)) := fK_zmem _ _
  have hK : fK (zfin e (zmem T.1 e w 32768 (0, rb, 0, 0, 0, td))) := by
    revert hK0
    generalize zmem T.1 e w 32768 (0, rb, 0, 0, 0, td) = y
    intro hK0
    cases y with
    | inl q => exact hK0
    | inr s => exact fK_i (fK_l (by decide) (by decide)) fK_r
  clear hK0
  generalize hz : zfin e (zmem T.1 e w 32768 (0, rb, 0, 0, 0, td)) = z at hK ⊢
  refine xCt.of (by decide) rfl ck_MO_unpack (Nat.le_of_ble_eq_true rfl) rfl ?_
  generalize List.length (hM C cd T R P (K4 td) a mb A B Z) = n0
  have k34 : ∀ (mb : Nat) (v1 : Int32) (H1 : xH) (cl : Bool), QMB C 0 T (-1) mb B Z z H1 → xW l x 7 0 0 mMO_unpack n0 (fun r H' => ∃ o, r = Sum.inl o ∧ QMU C 0 T B Z z o H') cl 34 [some (.ref 74), some (.int v1)] [] H1 0 0 := by
    rintro mb v1 H1 cl (⟨f, p, bl, st, td', q1, R', a', mb', A', rfl⟩ | ⟨s2, rm', A', q1, hag', hrm', rfl⟩)
    · have hF := hK _ q1
      dsimp only at hF
      refine b_MO_unpack_34 ⟨_, ⟨_, rfl, rfl⟩, ?_⟩
      refine ⟨fun hb => ?_, fun hb => ?_⟩ <;> (try simp (disch := omega) only [nI_lit, nI_fold, nI_mul, nI_add, pk_sub, pk_div, nI_shrN, nI_clamp, nI_leI, nI_ltI, nI_eq, not_true_eq_false, not_false_eq_true, Bool.false_eq_true, if_true, if_false, nI_nem, nI_m1, nI_m7, nI_m15, nI_m32, nI_m4, nI_m8, nI_m16, nI_m2] at hb) <;> (try omega)
      refine ⟨_, rfl, Nat.le_of_ble_eq_true rfl, fun H8 e8 => ?_⟩
      try simp (disch := omega) only [nI_lit, nI_fold, nI_mul, nI_add, pk_sub, pk_div, nI_shrN, nI_clamp] at e8
      subst e8
      refine ⟨_, ⟨_, rfl, rfl⟩, ?_⟩
      refine ⟨fun hd => ?_, fun hd => ?_⟩ <;> (try simp (disch := omega) only [nI_lit, nI_fold, nI_mul, nI_add, pk_sub, pk_div, nI_shrN, nI_clamp, nI_leI, nI_ltI, nI_eq, not_true_eq_false, not_false_eq_true, Bool.false_eq_true, if_true, if_false, nI_nem, nI_m1, nI_m7, nI_m15, nI_m32, nI_m4, nI_m8, nI_m16, nI_m2] at hd) <;> (try omega)
      have hmod := bF_mod R'.1
      refine ⟨rfl, Nat.le_refl _, _, rfl, Or.inl ⟨f, p, bl, st, td', fun i => R'.1 i % 256, a', mb', A', q1, fun i => Nat.mod_lt _ (by decide), rfl, ?_⟩⟩
      show hM C 0 T (R'.1, 0) (nI f, nI p, bl, st) (K4 td') a' mb' A' B Z = _
      unfold hM hq hm
      dsimp only
      rw [hmod]
    · refine b_MO_unpack_34 ⟨_, ⟨_, rfl, rfl⟩, ?_⟩
      refine ⟨fun hb => ?_, fun hb => ?_⟩ <;> (try simp (disch := omega) only [nI_lit, nI_fold, nI_mul, nI_add, pk_sub, pk_div, nI_shrN, nI_clamp, nI_leI, nI_ltI, nI_eq, not_true_eq_false, not_false_eq_true, Bool.false_eq_true, if_true, if_false, nI_nem, nI_m1, nI_m7, nI_m15, nI_m32, nI_m4, nI_m8, nI_m16, nI_m2] at hb) <;> (try omega)
      refine ⟨_, ⟨_, rfl, rfl⟩, _, rfl, Nat.le_of_ble_eq_true rfl, fun H4 e4 => ?_⟩
      try simp (disch := omega) only [nI_lit, nI_fold, nI_mul, nI_add, pk_sub, pk_div, nI_shrN, nI_clamp] at e4
      subst e4
      refine ⟨_, ⟨_, rfl, rfl⟩, ?_⟩
      refine ⟨fun hd => ?_, fun hd => ?_⟩ <;> (try simp (disch := omega) only [nI_lit, nI_fold, nI_mul, nI_add, pk_sub, pk_div, nI_shrN, nI_clamp, nI_leI, nI_ltI, nI_eq, not_true_eq_false, not_false_eq_true, Bool.false_eq_true, if_true, if_false, nI_nem, nI_m1, nI_m7, nI_m15, nI_m32, nI_m4, nI_m8, nI_m16, nI_m2] at hd) <;> (try omega)
      refine ⟨_, ⟨_, rfl, rfl⟩, ?_⟩
      exact ⟨rfl, Nat.le_refl _, _, rfl, Or.inr ⟨s2, rm', _, _, A', q1, hag', hrm', rfl, rfl⟩⟩
  refine b_MO_unpack_0 ?_
  refine ⟨fun hb => ?_, fun hb => ?_⟩ <;> (try simp (disch := omega) only [nI_lit, nI_fold, nI_mul, nI_add, pk_sub, pk_div, nI_shrN, nI_clamp, nI_leI, nI_ltI, nI_eq, not_true_eq_false, not_false_eq_true, Bool.false_eq_true, if_true, if_false, nI_nem, nI_m1, nI_m7, nI_m15, nI_m32, nI_m4, nI_m8, nI_m16, nI_m2] at hb) <;> (try omega)
  refine ⟨fun hd => ?_, fun hd => ?_⟩ <;> (try simp (disch := omega) only [nI_lit, nI_fold, nI_mul, nI_add, pk_sub, pk_div, nI_shrN, nI_clamp, nI_leI, nI_ltI, nI_eq, not_true_eq_false, not_false_eq_true, Bool.false_eq_true, if_true, if_false, nI_nem, nI_m1, nI_m7, nI_m15, nI_m32, nI_m4, nI_m8, nI_m16, nI_m2] at hd) <;> (try omega)
  refine ⟨_, rfl, Nat.le_of_ble_eq_true rfl, fun H5 e5 => ?_⟩
  try simp (disch := omega) only [nI_lit, nI_fold, nI_mul, nI_add, pk_sub, pk_div, nI_shrN, nI_clamp] at e5
  subst e5
  refine ⟨_, ⟨_, rfl, rfl⟩, ?_⟩
  refine ⟨fun _ => ?_, fun h => absurd (by decide) h⟩
  refine xs_callV rfl lk_12_219 (d' := 0) (c_MO_clear) (Nat.le_of_ble_eq_true rfl) rfl rfl rfl rfl rfl (Nat.le_of_ble_eq_true rfl) (by omega) (by omega) ?_
  rintro _ H1 ⟨rfl, rfl⟩
  refine b_MO_unpack_17 ?_
  refine ⟨fun hf => ?_, fun hf => ?_⟩ <;> (try simp (disch := omega) only [nI_lit, nI_fold, nI_mul, nI_add, pk_sub, pk_div, nI_shrN, nI_clamp, nI_leI, nI_ltI, nI_eq, not_true_eq_false, not_false_eq_true, Bool.false_eq_true, if_true, if_false, nI_nem, nI_m1, nI_m7, nI_m15, nI_m32, nI_m4, nI_m8, nI_m16, nI_m2] at hf) <;> (try omega)
  · refine ⟨fun hg => ?_, fun hg => ?_⟩ <;> (try simp (disch := omega) only [nI_lit, nI_fold, nI_mul, nI_add, pk_sub, pk_div, nI_shrN, nI_clamp, nI_leI, nI_ltI, nI_eq, not_true_eq_false, not_false_eq_true, Bool.false_eq_true, if_true, if_false, nI_nem, nI_m1, nI_m7, nI_m15, nI_m32, nI_m4, nI_m8, nI_m16, nI_m2] at hg) <;> (try omega)
    · have h2 : w = 2 := by omega
      subst h2
      refine xs_callV rfl lk_12_225 (d' := 6) (c_MO_readLong (rb := rb) hT hn he hrb hR) (Nat.le_of_ble_eq_true rfl) rfl rfl rfl rfl rfl (Nat.le_of_ble_eq_true rfl) (by omega) (by omega) ?_
      rintro _ H1 ⟨rfl, mb', hQ⟩
      rw [hz] at hQ
      exact k34 mb' _ _ _ hQ
    · have h2 : w = 1 := by omega
      subst h2
      refine xs_callV rfl lk_12_222 (d' := 6) (c_MO_readShort (rb := rb) hT hn he hrb hR 32767) (Nat.le_of_ble_eq_true rfl) rfl rfl rfl rfl rfl (Nat.le_of_ble_eq_true rfl) (by omega) (by omega) ?_
      rintro _ H1 ⟨rfl, hQ⟩
      refine b_MO_unpack_31 ?_
      rw [show zfin e (zmem T.1 e 1 (32767 + 1) (0, rb, 0, 0, 0, td)) = z from hz] at hQ
      exact k34 0 _ _ _ hQ
  have h2 : w = 0 := by omega
  subst h2
  have hz2 : zfin e (match zblocks T.1 e 0 262144 (0, rb, 0, 0, 0, td) with
      | .inl q => .inl q
      | .inr s2 => .inr ((s2.1 + 7) / 8 * 8, s2.2)) = z := by
    rw [← hz, show (32768 : Nat) = 32767 + 1 from rfl]
    unfold zmem
    dsimp only
    rw [show zhead T.1 e 0 0 = .inr 0 from rfl]
    dsimp only
    cases zblocks T.1 e 0 262144 (0, rb, 0, 0, 0, td) with
    | inl q => rfl
    | inr s2 =>
      dsimp only
      rw [show ztail T.1 e 0 s2.2.1 s2.2.2.1 0 ((s2.1 + 7) / 8 * 8) = .inr ((s2.1 + 7) / 8 * 8) from rfl]
      dsimp only
      rw [if_neg (by omega)]
  clear hz
  have hb1 : bOK e 0 (0, rb, 0, 0, 0, td) := ⟨by dsimp only; omega, by dsimp only; omega, by dsimp only; omega, fun i => by dsimp only; exact hrb i, by dsimp only; omega⟩
  refine xs_callV rfl lk_12_193 (d' := 5) (c_MO_readBlocks (s := (0, rb, 0, 0, 0, td)) hT hn he hb1 (fun i hi => absurd hi (by dsimp only; omega)) hR) (Nat.le_of_ble_eq_true rfl) rfl rfl rfl rfl rfl (Nat.le_of_ble_eq_true rfl) (by omega) (by omega) ?_
  rintro _ H1 ⟨rfl, ⟨f, p, bl, st, td', q1, R', a', mb', A', rfl⟩ | ⟨s2, rm', A', q1, hag', hrm', rfl⟩⟩
  · rw [q1] at hz2
    have hF := nI_ne (hK _ hz2.symm).1 (hK _ hz2.symm).2
    refine b_MO_unpack_21 ?_
    refine xs_callV rfl lk_12_167 (d' := 0) (c_MO_toByte_f) (Nat.le_of_ble_eq_true rfl) rfl rfl rfl rfl rfl (Nat.le_of_ble_eq_true rfl) (by omega) (by omega) ?_
    rintro _ H1 ⟨rfl, a2, rfl⟩
    refine b_MO_unpack_23 ?_
    refine xs_callV rfl lk_12_198 (d' := 1) (c_MO_wantEnd_f hF) (Nat.le_of_ble_eq_true rfl) rfl rfl rfl rfl rfl (Nat.le_of_ble_eq_true rfl) (by omega) (by omega) ?_
    rintro _ H1 ⟨rfl, rfl⟩
    refine b_MO_unpack_25 ?_
    exact k34 0 _ _ _ (Or.inl ⟨f, p, bl, st, td', hz2.symm, _, _, _, _, rfl⟩)
  obtain ⟨⟨g1, g2, g3, g4, g5⟩, g6⟩ := zblocks_ok hT _ _ hb1 q1
  rw [q1] at hz2
  unfold zfin at hz2
  dsimp only at hz2
  refine b_MO_unpack_21 ?_
  refine xs_callV rfl lk_12_167 (d' := 0) (c_MO_toByte (by omega)) (Nat.le_of_ble_eq_true rfl) rfl rfl rfl rfl rfl (Nat.le_of_ble_eq_true rfl) (by omega) (by omega) ?_
  rintro _ H1 ⟨rfl, rfl⟩
  refine b_MO_unpack_23 ?_
  refine xs_callV rfl lk_12_198 (d' := 1) (c_MO_wantEnd hn he (by omega)) (Nat.le_of_ble_eq_true rfl) rfl rfl rfl rfl rfl (Nat.le_of_ble_eq_true rfl) (by omega) (by omega) ?_
  rintro _ H1 ⟨rfl, hA⟩
  refine b_MO_unpack_25 ?_
  rcases hA.cases with ⟨f, p, q2, hF⟩ | ⟨a', q2, rfl⟩
  · split at q2
    · cases q2
      rw [if_pos (by assumption)] at hz2
      exact k34 0 _ _ _ (Or.inl ⟨_, _, _, _, _, hz2.symm, hF⟩)
    · cases q2
  · split at q2
    · cases q2
    · cases q2
      rw [if_neg (by assumption)] at hz2
      exact k34 0 _ _ _ (Or.inr ⟨_, rm', A', hz2.symm, hag', hrm', rfl⟩)
theorem c_MO_unpack_bad {v : Int32} (hv : v < 0 ∨ ¬ v ≤ 2) {R : wRow} {P : wRp} {K A : wK4} {a mb : Nat} : xCr l x 7 0 0 mMO_unpack [.ref 74, .int v] (hM C cd T R P K a mb A B Z) (fun o H' => o = some (.int 0) ∧ H' = hM C 1 T R P K a mb A B Z) := by
  refine xCt.of (by decide) rfl ck_MO_unpack (Nat.le_of_ble_eq_true rfl) rfl ?_
  refine b_MO_unpack_0 ?_
  refine ⟨fun hb => ?_, fun hb => ?_⟩
  · refine ⟨_, rfl, Nat.le_of_ble_eq_true rfl, fun H2 e2 => ?_⟩
    try simp (disch := omega) only [nI_lit, nI_fold, nI_mul, nI_add, pk_sub, pk_div, nI_shrN, nI_clamp] at e2
    subst e2
    refine ⟨_, ⟨_, rfl, rfl⟩, ?_⟩
    refine ⟨fun h => absurd h (by decide), fun _ => ?_⟩
    refine ⟨rfl, Nat.le_refl _, _, rfl, ⟨rfl, rfl⟩⟩
  · refine ⟨fun hd => ?_, fun hd => ?_⟩
    · rcases hv with hv | hv
      · exact absurd hv hb
      · exact absurd hd hv
    · refine ⟨_, rfl, Nat.le_of_ble_eq_true rfl, fun H8 e8 => ?_⟩
      try simp (disch := omega) only [nI_lit, nI_fold, nI_mul, nI_add, pk_sub, pk_div, nI_shrN, nI_clamp] at e8
      subst e8
      refine ⟨_, ⟨_, rfl, rfl⟩, ?_⟩
      refine ⟨fun h => absurd h (by decide), fun _ => ?_⟩
      refine ⟨rfl, Nat.le_refl _, _, rfl, ⟨rfl, rfl⟩⟩
end MUnp
