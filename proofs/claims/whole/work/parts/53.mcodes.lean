/-! the model reads codes -/
theorem ofs_all {g : Nat → Nat} : ∀ n, (∀ i, i < n → g i ≤ 15) → ofs g n 16 + cnt g n 0 = n := by
  intro n
  induction n with
  | zero => intro _; have := ofs_le g 0 16; have := cnt_le g 0 0; omega
  | succ n ih =>
    intro h
    have h1 := ih (fun i hi => h i (by omega))
    have h2 := h n (by omega)
    rw [ofs_n, cnt_s]
    split <;> split <;> omega
theorem krs_ge (g : Nat → Nat) (n : Nat) : ∀ l, l ≤ 15 → ofs g n (l + 1) ≤ krs g n l := by
  intro l
  induction l with
  | zero => intro _; exact Nat.le_refl _
  | succ l ih =>
    intro hl
    have h1 := ih (by omega)
    have h2 : 1 ≤ 2 ^ (15 - (l + 1)) := Nat.one_le_two_pow
    have h3 : cnt g n (l + 1) * 1 ≤ cnt g n (l + 1) * 2 ^ (15 - (l + 1)) := Nat.mul_le_mul_left _ h2
    rw [ofs_s g n (l + 1), if_neg (by omega)]
    unfold krs
    omega
theorem krs_ge1 (g : Nat → Nat) (n : Nat) : ∀ l, l ≤ 14 → cnt g n 1 * 16384 + ofs g n (l + 2) ≤ krs g n (l + 1) + cnt g n 1 := by
  intro l
  induction l with
  | zero =>
    intro _
    have h1 : krs g n 1 = 0 + cnt g n 1 * 2 ^ 14 := rfl
    have h2 : ofs g n 2 = ofs g n 1 + cnt g n 1 := by rw [ofs_s, if_neg (by decide)]
    have h3 : ofs g n 1 = 0 := rfl
    show cnt g n 1 * 16384 + ofs g n 2 ≤ krs g n 1 + cnt g n 1
    omega
  | succ l ih =>
    intro hl
    have h1 := ih (by omega)
    have h2 : 1 ≤ 2 ^ (15 - (l + 1 + 1)) := Nat.one_le_two_pow
    have h3 : cnt g n (l + 1 + 1) * 1 ≤ cnt g n (l + 1 + 1) * 2 ^ (15 - (l + 1 + 1)) := Nat.mul_le_mul_left _ h2
    have h4 : ofs g n (l + 1 + 2) = ofs g n (l + 2) + cnt g n (l + 2) := by rw [show l + 1 + 2 = (l + 2) + 1 by omega, ofs_s, if_neg (by omega)]
    have h5 : krs g n (l + 1 + 1) = krs g n (l + 1) + cnt g n (l + 1 + 1) * 2 ^ (15 - (l + 1 + 1)) := rfl
    rw [h4, h5]
    have h6 : l + 1 + 1 = l + 2 := rfl
    rw [h6] at h3 ⊢
    omega
theorem serves_how {g : Nat → Nat} {n : Nat} (hg : ∀ i, i < n → g i ≤ 15) : serves g n ↔ howN g n ≠ 3 := by
  have h1 := ofs_all n hg
  have h2 : ofs g n 16 ≤ krs g n 15 := krs_ge g n 15 (by decide)
  have h3 : krs g n 15 ≤ ofs g n 16 * 16384 := krs_ofs g n 15
  have h4 : cnt g n 1 * 16384 + ofs g n 16 ≤ krs g n 15 + cnt g n 1 := krs_ge1 g n 14 (by decide)
  unfold serves howN full
  constructor
  · rintro (h | ⟨h, h'⟩ | h)
    · split
      · decide
      · rw [if_pos (by omega)]; decide
    · split
      · decide
      · split
        · decide
        · rw [if_pos ⟨by omega, h'⟩]; decide
    · rw [if_pos h]; decide
  · intro h
    split at h
    · rename_i h'; exact Or.inr (Or.inr h')
    split at h
    · left; omega
    split at h
    · rename_i h'; exact Or.inr (Or.inl ⟨by omega, h'.2⟩)
    · exact absurd rfl h
/-- what 'how' says -/
theorem how_0 {g : Nat → Nat} {n : Nat} (h : howN g n = 0) : krs g n 15 = 0 := by
  unfold howN at h
  split at h
  · cases h
  split at h
  · assumption
  split at h
  · cases h
  · cases h
theorem how_1 {g : Nat → Nat} {n : Nat} (h : howN g n = 1) : krs g n 15 = 16384 ∧ cnt g n 1 = 1 := by
  unfold howN at h
  split at h
  · cases h
  split at h
  · cases h
  split at h
  · assumption
  · cases h
theorem how_2 {g : Nat → Nat} {n : Nat} (h : howN g n = 2) : krs g n 15 = 32768 := by
  unfold howN at h
  split at h
  · assumption
  split at h
  · cases h
  split at h
  · cases h
  · cases h
theorem how_le (g : Nat → Nat) (n : Nat) : howN g n ≤ 3 := by
  unfold howN
  split
  · decide
  split
  · decide
  split
  · decide
  · decide
def zdist (t : Nat → Nat) (e : Nat) (gD : Nat → Nat) (nD rn mb a : Nat) : zY := match zs t e gD nD a with
  | .inl q => .inl q
  | .inr (j, b) => if 30 ≤ j then .inl (8, a) else if e < b + dbts j then .inl (1, e) else if rn - mb < dbas j + rdn t b (dbts j) then .inl (9, a) else .inr (dbas j + rdn t b (dbts j), b + dbts j)
section MCodes
variable {l : Launch} {x : xX} {d : Nat} {C : Nat → va_E} {cd : Int32} {T R : wRow} {P : wRp} {pl : Int32} {bl st : Nat} {K : wK4} {a mb : Nat} {ct od ln rw' : wF} {B : wMB} {Z : xH} {e : Nat}
theorem c_MO_distance (hT : ∀ i, T.1 i < 256) (hn : T.2 ≤ 32768) (he : e = 8 * T.2) {gD : Nat → Nat} {nD : Nat} (hnD : nD ≤ 32) (hg : ∀ i, i < nD → gD i ≤ 15) (hp : prd ct od 400 16 gD nD) (hh3 : howN gD nD ≠ 3) (hR : R.2 ≤ 65536) (hmb : mb ≤ R.2) (ha : a ≤ e) : xCr l x 3 0 0 mMO_distance [.ref 74, .int (nI (howN gD nD))] (hM C cd T R (0, pl, bl, st) K a mb (ct, od, ln, rw') B Z) (fun o H' => (∃ f p v a', zdist T.1 e gD nD R.2 mb a = .inl (f, p) ∧ o = some (.int v) ∧ H' = hM C cd T R (nI f, nI p, bl, st) K a' mb (ct, od, ln, rw') B Z) ∨ ∃ dd a', zdist T.1 e gD nD R.2 mb a = .inr (dd, a') ∧ o = some (.int (nI dd)) ∧ H' = hM C cd T R (0, pl, bl, st) K a' mb (ct, od, ln, rw') B Z) := by
  have hhl := how_le gD nD
  have hK : ∀ z, zdist T.1 e gD nD R.2 mb a = z → fK z := by
    intro z hz
    rw [← hz]
    unfold zdist
    split
    · rename_i q hq
      have h := fK_zs q hq
      exact fK_l h.1 h.2
    · exact fK_i (fK_l (by decide) (by decide)) (fK_i (fK_l (by decide) (by decide)) (fK_i (fK_l (by decide) (by decide)) fK_r))
  generalize hz : zdist T.1 e gD nD R.2 mb a = z at hK
  have hK := hK z rfl
  unfold zdist at hz
  -- behind a fault
  have f44 : ∀ (f p : Nat) (v1 v2 v3 : Int32) (a' : Nat) (cl : Bool), z = .inl (f, p) → xW l x 3 0 0 mMO_distance (List.length (hM C cd T R (0, pl, bl, st) K a mb (ct, od, ln, rw') B Z)) (fun r H' => ∃ o, r = Sum.inl o ∧ ((∃ f p v a', z = .inl (f, p) ∧ o = some (.int v) ∧ H' = hM C cd T R (nI f, nI p, bl, st) K a' mb (ct, od, ln, rw') B Z) ∨ ∃ dd a', z = .inr (dd, a') ∧ o = some (.int (nI dd)) ∧ H' = hM C cd T R (0, pl, bl, st) K a' mb (ct, od, ln, rw') B Z)) cl 44 [some (.ref 74), some (.int v1), some (.int v2), some (.int v3), none] [] (hM C cd T R (nI f, nI p, bl, st) K a' mb (ct, od, ln, rw') B Z) 0 0 := by
    intro f p v1 v2 v3 a' cl hz
    have hf := hK _ hz
    refine b_MO_distance_44 ⟨_, ⟨_, rfl, rfl⟩, ?_⟩
    refine ⟨fun h => absurd h (nI_nle (by omega) (by omega)), fun _ => ?_⟩
    refine ⟨rfl, Nat.le_refl _, _, rfl, Or.inl ⟨f, p, _, _, hz, rfl, rfl⟩⟩
  -- the symbol j is read
  have k44 : ∀ (j b : Nat) (cl : Bool), b ≤ e → j < 30 → (if e < b + dbts j then Sum.inl (1, e) else if R.2 - mb < dbas j + rdn T.1 b (dbts j) then Sum.inl (9, a) else Sum.inr (dbas j + rdn T.1 b (dbts j), b + dbts j)) = z → xW l x 3 0 0 mMO_distance (List.length (hM C cd T R (0, pl, bl, st) K a mb (ct, od, ln, rw') B Z)) (fun r H' => ∃ o, r = Sum.inl o ∧ ((∃ f p v a', z = .inl (f, p) ∧ o = some (.int v) ∧ H' = hM C cd T R (nI f, nI p, bl, st) K a' mb (ct, od, ln, rw') B Z) ∨ ∃ dd a', z = .inr (dd, a') ∧ o = some (.int (nI dd)) ∧ H' = hM C cd T R (0, pl, bl, st) K a' mb (ct, od, ln, rw') B Z)) cl 44 [some (.ref 74), some (.int (nI (howN gD nD))), some (.int (nI a)), some (.int (nI j)), none] [] (hM C cd T R (0, pl, bl, st) K b mb (ct, od, ln, rw') B Z) 0 0 := by
    intro j b cl hbe hj hz
    obtain ⟨u1, u2, u3⟩ := dbts_le j hj
    have hrd := rdn_lt T.1 b (dbts j)
    have hp2 : 2 ^ dbts j ≤ 2 ^ 13 := Nat.pow_le_pow_right (by decide) u1
    refine b_MO_distance_44 ⟨_, ⟨_, rfl, rfl⟩, ?_⟩
    refine ⟨fun _ => ?_, fun h => absurd (show (0 : Int32) ≤ 0 by decide) h⟩
    refine xs_callS rfl lk_12_112 (d' := 0) (c_MO_leastDistance hj) (Nat.le_of_ble_eq_true rfl) rfl rfl (Nat.le_of_ble_eq_true rfl) (by omega) (by omega) ?_
    rintro _ H1 ⟨rfl, rfl⟩
    refine b_MO_distance_51 ?_
    refine xs_callS rfl lk_12_149 (d' := 0) (c_MO_distanceBits hj) (Nat.le_of_ble_eq_true rfl) rfl rfl (Nat.le_of_ble_eq_true rfl) (by omega) (by omega) ?_
    rintro _ H1 ⟨rfl, rfl⟩
    generalize dbts j = nd at *
    refine xs_callV rfl lk_12_133 (d' := 2) (c_MO_number (n := nd) hT hn he (by omega) hbe) (Nat.le_of_ble_eq_true rfl) rfl rfl rfl rfl rfl (Nat.le_of_ble_eq_true rfl) (by omega) (by omega) ?_
    rintro _ H1 (⟨g1, rfl, rfl⟩ | ⟨g1, w, a', rfl, rfl⟩)
    · rw [if_neg (by omega)] at hz
      refine b_MO_distance_55 ⟨_, ⟨_, rfl, rfl⟩, fun h => absurd rfl h, fun _ => ?_⟩
      rw [nI_add]
      refine ⟨_, ⟨_, rfl, rfl⟩, _, ⟨_, rfl, rfl⟩, ?_⟩
      refine ⟨fun hd => ?_, fun hd => ?_⟩ <;> (try simp (disch := omega) only [nI_lit, nI_fold, nI_mul, nI_add, pk_sub, pk_div, nI_shrN, nI_clamp, nI_leI, nI_ltI, nI_eq, not_true_eq_false, not_false_eq_true, Bool.false_eq_true, if_true, if_false, nI_nem, nI_m1, nI_m7, nI_m15, nI_m32, nI_m4, nI_m8, nI_m16, nI_m2] at hd) <;> (try omega)
      · rw [if_neg (by omega)] at hz
        refine b_MO_distance_71 ?_
        refine ⟨rfl, Nat.le_refl _, _, rfl, Or.inr ⟨_, _, hz.symm, rfl, rfl⟩⟩
      · rw [if_pos (by omega)] at hz
        refine xs_callV rfl lk_12_121 (d' := 0) (c_MO_fail) (Nat.le_of_ble_eq_true rfl) rfl rfl rfl rfl rfl (Nat.le_of_ble_eq_true rfl) (by omega) (by omega) ?_
        rintro _ H1 ⟨rfl, rfl⟩
        refine b_MO_distance_71 ?_
        refine ⟨rfl, Nat.le_refl _, _, rfl, Or.inl ⟨9, a, _, _, hz.symm, rfl, rfl⟩⟩
    · rw [if_pos (by omega)] at hz
      refine b_MO_distance_55 ⟨_, ⟨_, rfl, rfl⟩, fun _ => ?_, fun h => absurd h (show ¬ (1 : Int32) = 0 by decide)⟩
      refine b_MO_distance_71 ?_
      refine ⟨rfl, Nat.le_refl _, _, rfl, Or.inl ⟨1, e, _, _, hz.symm, rfl, rfl⟩⟩
  refine xCt.of (by decide) rfl ck_MO_distance (Nat.le_of_ble_eq_true rfl) rfl ?_
  refine b_MO_distance_0 ⟨_, ⟨_, rfl, rfl⟩, ?_⟩
  refine ⟨fun hb => ?_, fun hb => ?_⟩ <;> (try simp (disch := omega) only [nI_lit, nI_fold, nI_mul, nI_add, pk_sub, pk_div, nI_shrN, nI_clamp, nI_leI, nI_ltI, nI_eq, not_true_eq_false, not_false_eq_true, Bool.false_eq_true, if_true, if_false, nI_nem, nI_m1, nI_m7, nI_m15, nI_m32, nI_m4, nI_m8, nI_m16, nI_m2] at hb) <;> (try omega)
  case refine_2 =>
    have hful := how_2 hb
    refine xs_callV rfl lk_12_129 (d' := 2) (c_MO_symbol (fm := 400) (tb := 16) (n := nD) hT hn he (by omega) (by decide) (by omega) hp hful ha) (Nat.le_of_ble_eq_true rfl) rfl rfl rfl rfl rfl (Nat.le_of_ble_eq_true rfl) (by omega) (by omega) ?_
    intro o H1 hY
    rcases hY.cases with ⟨f, p, a', q1, rfl, rfl⟩ | ⟨j, b, q1, rfl, rfl⟩
    · rw [q1] at hz
      have hF := nI_ne (hK _ hz.symm).1 (hK _ hz.symm).2
      refine b_MO_distance_12 ⟨_, ⟨_, rfl, rfl⟩, ?_⟩
      refine ⟨fun _ => ?_, fun h => absurd h hF⟩
      exact f44 f p _ _ _ _ _ hz.symm
    have q2 := zs_le q1
    rw [q1] at hz
    dsimp only at hz
    refine b_MO_distance_12 ⟨_, ⟨_, rfl, rfl⟩, ?_⟩
    refine ⟨fun h => absurd rfl h, fun _ => ?_⟩
    refine ⟨fun hd => ?_, fun hd => ?_⟩ <;> (try simp (disch := omega) only [nI_lit, nI_fold, nI_mul, nI_add, pk_sub, pk_div, nI_shrN, nI_clamp, nI_leI, nI_ltI, nI_eq, not_true_eq_false, not_false_eq_true, Bool.false_eq_true, if_true, if_false, nI_nem, nI_m1, nI_m7, nI_m15, nI_m32, nI_m4, nI_m8, nI_m16, nI_m2] at hd) <;> (try omega)
    · rw [if_neg (by omega)] at hz
      exact k44 j b false q2.2.1 (by omega) hz
    · rw [if_pos (by omega)] at hz
      refine xs_callV rfl lk_12_121 (d' := 0) (c_MO_fail) (Nat.le_of_ble_eq_true rfl) rfl rfl rfl rfl rfl (Nat.le_of_ble_eq_true rfl) (by omega) (by omega) ?_
      rintro _ H1 ⟨rfl, rfl⟩
      exact f44 8 a _ _ _ _ _ hz.symm
  -- fewer than two symbols
  have h1 := ofs_all nD hg
  have h2 : ofs gD nD 16 ≤ krs gD nD 15 := krs_ge gD nD 15 (by decide)
  have h4 : cnt gD nD 1 * 16384 + ofs gD nD 16 ≤ krs gD nD 15 + cnt gD nD 1 := krs_ge1 gD nD 14 (by decide)
  have hone : nD - cnt gD nD 0 < 2 := by
    rcases Nat.lt_or_ge (howN gD nD) 1 with h | h
    · have := how_0 (show howN gD nD = 0 by omega); omega
    · have := how_1 (show howN gD nD = 1 by omega); omega
  have hzs : zs T.1 e gD nD a = syl T.1 e a gD nD 1 1 0 0 a := by unfold zs; rw [if_pos hone]
  rw [hzs] at hz
  unfold syl at hz
  have hof : ofs gD nD 1 = 0 := rfl
  refine xs_callV rfl lk_12_125 (d' := 1) (c_MO_bit hT hn he ha) (Nat.le_of_ble_eq_true rfl) rfl rfl rfl rfl rfl (Nat.le_of_ble_eq_true rfl) (by omega) (by omega) ?_
  rintro _ H1 (⟨g1, rfl, rfl⟩ | ⟨g1, rfl, rfl⟩)
  case inr =>
    rw [if_pos (by omega)] at hz
    refine b_MO_distance_16 ⟨_, ⟨_, rfl, rfl⟩, ?_⟩
    refine ⟨fun _ => ?_, fun h => absurd h (show ¬ (1 : Int32) = 0 by decide)⟩
    refine b_MO_distance_29 ⟨_, ⟨_, rfl, rfl⟩, _, _, rfl, (by (try simp (disch := omega) only [nI_lit, nI_fold, nI_mul, nI_add, pk_sub, pk_div, nI_shrN, nI_clamp]); (with_reducible refine vp_in_nI ?_ ?_) <;> omega), _, ⟨_, rfl, rfl⟩, ?_⟩
    refine ⟨fun _ => ?_, fun h => absurd h (show ¬ (1 : Int32) = 0 by decide)⟩
    refine xW.fgt 4 ?_
    exact f44 1 e _ _ _ _ _ hz.symm
  rw [if_neg (by omega), hof] at hz
  have hbt := tbit_lt T.1 a
  refine b_MO_distance_16 ⟨_, ⟨_, rfl, rfl⟩, ?_⟩
  refine ⟨fun h => absurd rfl h, fun _ => ?_⟩
  refine ⟨fun hd => ?_, fun hd => ?_⟩ <;> (try simp (disch := omega) only [nI_lit, nI_fold, nI_mul, nI_add, pk_sub, pk_div, nI_shrN, nI_clamp, nI_leI, nI_ltI, nI_eq, not_true_eq_false, not_false_eq_true, Bool.false_eq_true, if_true, if_false, nI_nem, nI_m1, nI_m7, nI_m15, nI_m32, nI_m4, nI_m8, nI_m16, nI_m2] at hd) <;> (try omega)
  · have hk0 := how_0 hd
    have : cnt gD nD 1 = 0 := by omega
    rw [this, if_neg (by omega)] at hz
    unfold syl at hz
    refine xs_callV rfl lk_12_121 (d' := 0) (c_MO_fail) (Nat.le_of_ble_eq_true rfl) rfl rfl rfl rfl rfl (Nat.le_of_ble_eq_true rfl) (by omega) (by omega) ?_
    rintro _ H1 ⟨rfl, rfl⟩
    refine b_MO_distance_29 ⟨_, ⟨_, rfl, rfl⟩, _, _, rfl, (by (try simp (disch := omega) only [nI_lit, nI_fold, nI_mul, nI_add, pk_sub, pk_div, nI_shrN, nI_clamp]); (with_reducible refine vp_in_nI ?_ ?_) <;> omega), _, ⟨_, rfl, rfl⟩, ?_⟩
    refine ⟨fun _ => ?_, fun h => absurd h (show ¬ (8 : Int32) = 0 by decide)⟩
    refine xW.fgt 4 ?_
    exact f44 8 a _ _ _ _ _ hz.symm
  obtain ⟨k1, k2⟩ := how_1 (show howN gD nD = 1 by omega)
  rw [k2] at hz
  refine ⟨fun hf => ?_, fun hf => ?_⟩ <;> (try simp (disch := omega) only [nI_lit, nI_fold, nI_mul, nI_add, pk_sub, pk_div, nI_shrN, nI_clamp, nI_leI, nI_ltI, nI_eq, not_true_eq_false, not_false_eq_true, Bool.false_eq_true, if_true, if_false, nI_nem, nI_m1, nI_m7, nI_m15, nI_m32, nI_m4, nI_m8, nI_m16, nI_m2] at hf) <;> (try omega)
  · rw [if_pos (by omega)] at hz
    obtain ⟨i, b1, b2, b3, b4⟩ := odf_lt (g := gD) (n := nD) (l := 1) (j := 0) (by decide) (by omega)
    rw [hof, Nat.zero_add] at b3 b4
    rw [show 0 + (2 * 0 + tbit T.1 a - 0) = 0 by omega, b4] at hz
    dsimp only at hz
    have e400 : od (400 : Int32).toNatClampNeg = nI i := by
      have := hp.2 i b1 b2
      rw [b3] at this
      exact this
    refine b_MO_distance_29 ⟨_, ⟨_, rfl, rfl⟩, _, _, rfl, vp_in_nI (n := 400) (by decide) (by decide), _, ⟨_, rfl, rfl⟩, fun h => absurd rfl h, fun _ => ?_⟩
    rw [show (ct, od, ln, rw').2.1 (400 : Int32).toNatClampNeg = nI i from e400]
    refine ⟨fun hg => ?_, fun hg => ?_⟩ <;> (try simp (disch := omega) only [nI_lit, nI_fold, nI_mul, nI_add, pk_sub, pk_div, nI_shrN, nI_clamp, nI_leI, nI_ltI, nI_eq, not_true_eq_false, not_false_eq_true, Bool.false_eq_true, if_true, if_false, nI_nem, nI_m1, nI_m7, nI_m15, nI_m32, nI_m4, nI_m8, nI_m16, nI_m2] at hg) <;> (try omega)
    · rw [if_neg (by omega)] at hz
      refine xW.fgt 4 ?_
      exact k44 i (a + 1) false (by omega) (by omega) hz
    · rw [if_pos (by omega)] at hz
      refine xs_callV rfl lk_12_121 (d' := 0) (c_MO_fail) (Nat.le_of_ble_eq_true rfl) rfl rfl rfl rfl rfl (Nat.le_of_ble_eq_true rfl) (by omega) (by omega) ?_
      rintro _ H1 ⟨rfl, rfl⟩
      refine xW.fgt 4 ?_
      exact f44 8 a _ _ _ _ _ hz.symm
  · rw [if_neg (by omega)] at hz
    unfold syl at hz
    refine xs_callV rfl lk_12_121 (d' := 0) (c_MO_fail) (Nat.le_of_ble_eq_true rfl) rfl rfl rfl rfl rfl (Nat.le_of_ble_eq_true rfl) (by omega) (by omega) ?_
    rintro _ H1 ⟨rfl, rfl⟩
    refine b_MO_distance_29 ⟨_, ⟨_, rfl, rfl⟩, _, _, rfl, (by (try simp (disch := omega) only [nI_lit, nI_fold, nI_mul, nI_add, pk_sub, pk_div, nI_shrN, nI_clamp]); (with_reducible refine vp_in_nI ?_ ?_) <;> omega), _, ⟨_, rfl, rfl⟩, ?_⟩
    refine ⟨fun _ => ?_, fun h => absurd h (show ¬ (8 : Int32) = 0 by decide)⟩
    refine xW.fgt 4 ?_
    exact f44 8 a _ _ _ _ _ hz.symm
end MCodes
