/-! the model reads blocks -/
def agr (n : Nat) (f g : Nat → Nat) : Prop := ∀ i, i < n → f i = g i
theorem agr.up {n v : Nat} {f g : Nat → Nat} (h : agr n f g) : agr (n + 1) (nup f n v) (nup g n v) := by
  intro i hi
  unfold nup
  split
  · rfl
  · exact h i (by omega)
theorem uN8_sb : ∀ c, c < 256 → uN8 (sb_b c) = c := by decide +kernel
theorem uN8_nI {y : Nat} (h : y < 256) : uN8 (nI y) = y := by unfold uN8; rw [pk_tn (by omega)]; omega
theorem zdist_str {t : Nat → Nat} {e mb : Nat} {gD : Nat → Nat} {nD y a0 : Nat} {s : sS} (hy : y < 286) : zstr t e mb gD nD y a0 s = if e < s.1 + lbts (y - 257) then .inl (1, e, s.2.2.2) else match zdist t e gD nD s.2.2.1 mb (s.1 + lbts (y - 257)) with
    | .inl (f, p) => .inl (f, p, s.2.2.2)
    | .inr (dd, b) => if 65536 - s.2.2.1 < lbas (y - 257) + rdn t s.1 (lbts (y - 257)) then .inl (10, a0, s.2.2.2) else .inr (b, repN s.2.1 s.2.2.1 dd (lbas (y - 257) + rdn t s.1 (lbts (y - 257))), s.2.2.1 + (lbas (y - 257) + rdn t s.1 (lbts (y - 257))), s.2.2.2 + 1) := by
  unfold zstr zdist
  rw [if_neg (by omega)]
  by_cases h1 : e < s.1 + lbts (y - 257)
  · rw [if_pos h1, if_pos h1]
  rw [if_neg h1, if_neg h1]
  cases zs t e gD nD (s.1 + lbts (y - 257)) with
  | inl q => rfl
  | inr q =>
    obtain ⟨j, b⟩ := q
    dsimp only
    by_cases h2 : 30 ≤ j
    · rw [if_pos h2, if_pos h2]
    rw [if_neg h2, if_neg h2]
    by_cases h3 : e < b + dbts j
    · rw [if_pos h3, if_pos h3]
    rw [if_neg h3, if_neg h3]
    by_cases h4 : s.2.2.1 - mb < dbas j + rdn t b (dbts j)
    · rw [if_pos h4, if_pos h4]
    rw [if_neg h4, if_neg h4]
theorem zdist_le {t : Nat → Nat} {e : Nat} {gD : Nat → Nat} {nD rn mb a dd b : Nat} (h : zdist t e gD nD rn mb a = .inr (dd, b)) : a < b ∧ b ≤ e ∧ 1 ≤ dd ∧ dd ≤ rn - mb := by
  unfold zdist at h
  split at h
  · cases h
  · rename_i j c hc
    have q := zs_le hc
    split at h
    · cases h
    split at h
    · cases h
    split at h
    · cases h
    · have u := dbts_le j (by omega)
      cases h
      omega
section MBlk
variable {l : Launch} {x : xX} {d : Nat} {C : Nat → va_E} {cd : Int32} {T : wRow} {pl : Int32} {bl st : Nat} {K : wK4} {a mb : Nat} {ct od ln rw' : wF} {B : wMB} {Z : xH} {e : Nat}
theorem c_MO_readPlain (hT : ∀ i, T.1 i < 256) (hn : T.2 ≤ 32768) (he : e = 8 * T.2) (ha : a ≤ e) {rb rm : Nat → Nat} {rn : Nat} (hrn : rn ≤ 65536) (hag : agr rn rm rb) (hrm : ∀ i, rm i < 256) : xCr l x 3 0 0 mMO_readPlain [.ref 74] (hM C cd T (rm, rn) (0, pl, bl, st) K a mb (ct, od, ln, rw') B Z) (fun o H' => o = none ∧ ((∃ f p, zplain T.1 e a rb rn = .inl (f, p) ∧ MF C cd T bl st K B Z f p H') ∨ ∃ a' rb' rn' rm', zplain T.1 e a rb rn = .inr (a', rb', rn') ∧ agr rn' rm' rb' ∧ (∀ i, rm' i < 256) ∧ H' = hM C cd T (rm', rn') (0, pl, bl, st) K a' mb (ct, od, ln, rw') B Z)) := by
  have hK : fK (zplain T.1 e a rb rn) := fK_zplain
  generalize hz : zplain T.1 e a rb rn = z at hK
  have hA : ∃ b, b = (a + 7) / 8 * 8 := ⟨_, rfl⟩
  obtain ⟨b, hb⟩ := hA
  have h16 := rdn16 T.1 b
  have h17 := rdn16 T.1 (b + 16)
  have hz2 : z = if e < b + 32 then .inl (1, e) else if rdn T.1 (b + 16) 16 ≠ 65535 - rdn T.1 b 16 then .inl (3, b + 16) else if 65536 - rn < rdn T.1 b 16 then .inl (10, b) else if e < b + 32 + 8 * rdn T.1 b 16 then .inl (1, e) else .inr (b + 32 + 8 * rdn T.1 b 16, cpyN T.1 rb ((b + 32) / 8) rn (rdn T.1 b 16), rn + rdn T.1 b 16) := by rw [hb, ← hz]; rfl
  clear hz
  refine xCt.of (by decide) rfl ck_MO_readPlain (Nat.le_of_ble_eq_true rfl) rfl ?_
  generalize List.length (hM C cd T (rm, rn) (0, pl, bl, st) K a mb (ct, od, ln, rw') B Z) = n0
  have f43 : ∀ (f p : Nat) (v1 v2 v3 v4 v5 : Int32) (R' : wRow) (a' : Nat) (cl : Bool), z = .inl (f, p) → xW l x 3 0 0 mMO_readPlain n0 (fun r H' => ∃ o, r = Sum.inl o ∧ o = none ∧ ((∃ f p, z = .inl (f, p) ∧ MF C cd T bl st K B Z f p H') ∨ ∃ a' rb' rn' rm', z = .inr (a', rb', rn') ∧ agr rn' rm' rb' ∧ (∀ i, rm' i < 256) ∧ H' = hM C cd T (rm', rn') (0, pl, bl, st) K a' mb (ct, od, ln, rw') B Z)) cl 43 [some (.ref 74), some (.int v1), some (.int v2), some (.int v3), some (.int v4), some (.int v5), none] [] (hM C cd T R' (nI f, nI p, bl, st) K a' mb (ct, od, ln, rw') B Z) 0 0 := by
    intro f p v1 v2 v3 v4 v5 R' a' cl hz
    have hF := nI_ne (hK _ hz).1 (hK _ hz).2
    refine b_MO_readPlain_43 ?_
    refine ⟨fun _ => ?_, fun _ => ?_⟩
    · refine ⟨rfl, Nat.le_refl _, _, rfl, ⟨rfl, Or.inl ⟨f, p, hz, _, _, _, _, rfl⟩⟩⟩
    refine ⟨_, ⟨_, rfl, rfl⟩, ?_⟩
    refine ⟨fun _ => ?_, fun h => absurd h hF⟩
    refine ⟨rfl, Nat.le_refl _, _, rfl, ⟨rfl, Or.inl ⟨f, p, hz, _, _, _, _, rfl⟩⟩⟩
  have f28 : ∀ (f p : Nat) (v1 v2 v3 v4 : Int32) (a' : Nat) (cl : Bool), z = .inl (f, p) → xW l x 3 0 0 mMO_readPlain n0 (fun r H' => ∃ o, r = Sum.inl o ∧ o = none ∧ ((∃ f p, z = .inl (f, p) ∧ MF C cd T bl st K B Z f p H') ∨ ∃ a' rb' rn' rm', z = .inr (a', rb', rn') ∧ agr rn' rm' rb' ∧ (∀ i, rm' i < 256) ∧ H' = hM C cd T (rm', rn') (0, pl, bl, st) K a' mb (ct, od, ln, rw') B Z)) cl 28 [some (.ref 74), some (.int v1), some (.int v2), some (.int v3), some (.int v4), none, none] [] (hM C cd T (rm, rn) (nI f, nI p, bl, st) K a' mb (ct, od, ln, rw') B Z) 0 0 := by
    intro f p v1 v2 v3 v4 a' cl hz
    have hF := nI_ne (hK _ hz).1 (hK _ hz).2
    refine b_MO_readPlain_28 ⟨_, ⟨_, rfl, rfl⟩, ?_⟩
    refine ⟨fun _ => ?_, fun h => absurd h hF⟩
    refine b_MO_readPlain_41 ?_
    exact f43 f p _ _ _ _ _ _ _ _ hz
  refine b_MO_readPlain_0 ?_
  refine xs_callV rfl lk_12_167 (d' := 0) (c_MO_toByte (by omega)) (Nat.le_of_ble_eq_true rfl) rfl rfl rfl rfl rfl (Nat.le_of_ble_eq_true rfl) (by omega) (by omega) ?_
  rintro _ H1 ⟨rfl, rfl⟩
  rw [← hb]
  refine b_MO_readPlain_2 ⟨_, ⟨_, rfl, rfl⟩, ?_⟩
  refine xs_callV rfl lk_12_133 (d' := 2) (c_MO_number (n := 16) hT hn he (by decide) (by omega)) (Nat.le_of_ble_eq_true rfl) rfl rfl rfl rfl rfl (Nat.le_of_ble_eq_true rfl) (by omega) (by omega) ?_
  rintro _ H1 (⟨g1, rfl, rfl⟩ | ⟨g1, w, a', rfl, rfl⟩)
  case inr =>
    rw [if_pos (by omega)] at hz2
    refine b_MO_readPlain_8 ⟨_, ⟨_, rfl, rfl⟩, ?_⟩
    refine xs_callV rfl lk_12_133 (d' := 2) (c_MO_number_f (n := 16) (F := 1) (by decide)) (Nat.le_of_ble_eq_true rfl) rfl rfl rfl rfl rfl (Nat.le_of_ble_eq_true rfl) (by omega) (by omega) ?_
    rintro _ H1 ⟨rfl, rfl⟩
    refine b_MO_readPlain_15 ⟨_, ⟨_, rfl, rfl⟩, ?_⟩
    refine ⟨fun _ => ?_, fun h => absurd h (show ¬ (1 : Int32) = 0 by decide)⟩
    exact f28 1 e _ _ _ _ _ _ hz2
  refine b_MO_readPlain_8 ⟨_, ⟨_, rfl, rfl⟩, ?_⟩
  refine xs_callV rfl lk_12_133 (d' := 2) (c_MO_number (n := 16) hT hn he (by decide) (by omega)) (Nat.le_of_ble_eq_true rfl) rfl rfl rfl rfl rfl (Nat.le_of_ble_eq_true rfl) (by omega) (by omega) ?_
  rintro _ H1 (⟨g2, rfl, rfl⟩ | ⟨g2, w, a', rfl, rfl⟩)
  case inr =>
    rw [if_pos (by omega)] at hz2
    refine b_MO_readPlain_15 ⟨_, ⟨_, rfl, rfl⟩, ?_⟩
    refine ⟨fun _ => ?_, fun h => absurd h (show ¬ (1 : Int32) = 0 by decide)⟩
    exact f28 1 e _ _ _ _ _ _ hz2
  rw [if_neg (by omega)] at hz2
  refine b_MO_readPlain_15 ⟨_, ⟨_, rfl, rfl⟩, ?_⟩
  refine ⟨fun h => absurd rfl h, fun _ => ?_⟩
  refine ⟨fun hf => ?_, fun hf => ?_⟩ <;> (try simp (disch := omega) only [nI_lit, nI_fold, nI_mul, nI_add, pk_sub, pk_div, nI_shrN, nI_clamp, nI_leI, nI_ltI, nI_eq, not_true_eq_false, not_false_eq_true, Bool.false_eq_true, if_true, if_false, nI_nem, nI_m1, nI_m7, nI_m15, nI_m32, nI_m4, nI_m8, nI_m16, nI_m2] at hf) <;> (try omega)
  case refine_2 =>
    rw [if_pos (by omega)] at hz2
    refine xs_callV rfl lk_12_121 (d' := 0) (c_MO_fail) (Nat.le_of_ble_eq_true rfl) rfl rfl rfl rfl rfl (Nat.le_of_ble_eq_true rfl) (by omega) (by omega) ?_
    rintro _ H1 ⟨rfl, rfl⟩
    exact f28 3 (b + 16) _ _ _ _ _ _ hz2
  rw [if_neg (by omega)] at hz2
  refine b_MO_readPlain_28 ⟨_, ⟨_, rfl, rfl⟩, ?_⟩
  refine ⟨fun h => absurd rfl h, fun _ => ?_⟩
  refine ⟨_, ⟨_, rfl, rfl⟩, ?_⟩
  refine ⟨fun hg => ?_, fun hg => ?_⟩ <;> (try simp (disch := omega) only [nI_lit, nI_fold, nI_mul, nI_add, pk_sub, pk_div, nI_shrN, nI_clamp, nI_leI, nI_ltI, nI_eq, not_true_eq_false, not_false_eq_true, Bool.false_eq_true, if_true, if_false, nI_nem, nI_m1, nI_m7, nI_m15, nI_m32, nI_m4, nI_m8, nI_m16, nI_m2] at hg) <;> (try omega)
  case refine_2 =>
    rw [if_pos (by omega)] at hz2
    refine xs_callV rfl lk_12_121 (d' := 0) (c_MO_fail) (Nat.le_of_ble_eq_true rfl) rfl rfl rfl rfl rfl (Nat.le_of_ble_eq_true rfl) (by omega) (by omega) ?_
    rintro _ H1 ⟨rfl, rfl⟩
    refine b_MO_readPlain_41 ?_
    exact f43 10 b _ _ _ _ _ _ _ _ hz2
  rw [if_neg (by omega)] at hz2
  have h18 : ∃ q, q = rdn T.1 b 16 := ⟨_, rfl⟩
  obtain ⟨q, hq⟩ := h18
  rw [← hq] at hz2 h16 hg ⊢
  refine b_MO_readPlain_41 ?_
  -- byte by byte
  have kloop : ∀ (j i : Nat) (rm : Nat → Nat) (cl : Bool), i + j = q → b + 32 + 8 * i ≤ e → agr (rn + i) rm (cpyN T.1 rb ((b + 32) / 8) rn q) → (∀ i, rm i < 256) → xW l x 3 0 0 mMO_readPlain n0 (fun r H' => ∃ o, r = Sum.inl o ∧ o = none ∧ ((∃ f p, z = .inl (f, p) ∧ MF C cd T bl st K B Z f p H') ∨ ∃ a' rb' rn' rm', z = .inr (a', rb', rn') ∧ agr rn' rm' rb' ∧ (∀ i, rm' i < 256) ∧ H' = hM C cd T (rm', rn') (0, pl, bl, st) K a' mb (ct, od, ln, rw') B Z)) cl 43 [some (.ref 74), some (.int (nI b)), some (.int (nI q)), some (.int (nI (b + 16))), some (.int (nI (rdn T.1 (b + 16) 16))), some (.int (nI i)), none] [] (hM C cd T (rm, rn + i) (0, pl, bl, st) K (b + 32 + 8 * i) mb (ct, od, ln, rw') B Z) 0 0 := by
    intro j
    induction j with
    | zero =>
      intro i rm cl hi hbe hag2 hrm2
      have : i = q := by omega
      subst this
      rw [if_neg (by omega)] at hz2
      refine b_MO_readPlain_43 ?_
      refine ⟨fun hd => ?_, fun hd => ?_⟩ <;> (try simp (disch := omega) only [nI_lit, nI_fold, nI_mul, nI_add, pk_sub, pk_div, nI_shrN, nI_clamp, nI_leI, nI_ltI, nI_eq, not_true_eq_false, not_false_eq_true, Bool.false_eq_true, if_true, if_false, nI_nem, nI_m1, nI_m7, nI_m15, nI_m32, nI_m4, nI_m8, nI_m16, nI_m2] at hd) <;> (try omega)
      refine ⟨rfl, Nat.le_refl _, _, rfl, ⟨rfl, Or.inr ⟨_, _, _, rm, hz2, hag2, hrm2, rfl⟩⟩⟩
    | succ j ih =>
      intro i rm cl hi hbe hag2 hrm2
      refine b_MO_readPlain_43 ?_
      refine ⟨fun hd => ?_, fun hd => ?_⟩ <;> (try simp (disch := omega) only [nI_lit, nI_fold, nI_mul, nI_add, pk_sub, pk_div, nI_shrN, nI_clamp, nI_leI, nI_ltI, nI_eq, not_true_eq_false, not_false_eq_true, Bool.false_eq_true, if_true, if_false, nI_nem, nI_m1, nI_m7, nI_m15, nI_m32, nI_m4, nI_m8, nI_m16, nI_m2] at hd) <;> (try omega)
      refine ⟨_, ⟨_, rfl, rfl⟩, ?_⟩
      refine ⟨fun h => absurd rfl h, fun _ => ?_⟩
      refine xs_callV rfl lk_12_133 (d' := 2) (c_MO_number (n := 8) hT hn he (by decide) hbe) (Nat.le_of_ble_eq_true rfl) rfl rfl rfl rfl rfl (Nat.le_of_ble_eq_true rfl) (by omega) (by omega) ?_
      rintro _ H1 (⟨g3, rfl, rfl⟩ | ⟨g3, w, a', rfl, rfl⟩)
      · have hbyte := rdn8 T.1 (b + 32 + 8 * i)
        refine b_MO_readPlain_52 ⟨_, ⟨_, rfl, rfl⟩, ?_⟩
        refine ⟨fun h => absurd rfl h, fun _ => ?_⟩
        refine xs_callV rfl lk_12_155 (d' := 0) (c_MO_put (R := (rm, rn + i)) (by omega)) (Nat.le_of_ble_eq_true rfl) rfl rfl rfl rfl rfl (Nat.le_of_ble_eq_true rfl) (by omega) (by omega) ?_
        rintro _ H1 ⟨rfl, rfl⟩
        refine b_MO_readPlain_59 ?_
        rw [nI_1, uN8_nI hbyte]
        refine xW.fgt 6 ?_
        rw [show b + 32 + 8 * i + 8 = b + 32 + 8 * (i + 1) by omega]
        refine ih (i + 1) (nup rm (rn + i) (rdn T.1 (b + 32 + 8 * i) 8)) false (by omega) (by omega) (fun k hk => ?_) (fun k => ?_)
        · unfold nup
          by_cases hk2 : k = rn + i
          · rw [if_pos hk2]
            unfold cpyN
            rw [if_pos (by omega), rdn_al hT (by omega)]
            exact congrArg T.1 (by omega)
          · rw [if_neg hk2]
            exact hag2 k (by omega)
        · unfold nup
          split
          · exact hbyte
          · exact hrm2 k
      · rw [if_pos (by omega)] at hz2
        refine b_MO_readPlain_52 ⟨_, ⟨_, rfl, rfl⟩, ?_⟩
        refine ⟨fun _ => ?_, fun h => absurd h (show ¬ (1 : Int32) = 0 by decide)⟩
        refine b_MO_readPlain_59 ?_
        refine xW.fgt 6 ?_
        exact f43 1 e _ _ _ _ _ _ _ _ hz2
  refine kloop q 0 rm false (by omega) (by omega) (fun k hk => ?_) hrm
  unfold cpyN
  rw [if_neg (by omega)]
  exact hag k hk
def QMS (C : Nat → va_E) (cd : Int32) (T : wRow) (pl : Int32) (bl : Nat) (K : wK4) (mb : Nat) (A : wK4) (B : wMB) (Z : xH) (z : zS) (H' : xH) : Prop := (∃ f p st, z = .inl (f, p, st) ∧ MF C cd T bl st K B Z f p H') ∨ ∃ s rm, z = .inr s ∧ agr s.2.2.1 rm s.2.1 ∧ (∀ i, rm i < 256) ∧ H' = hM C cd T (rm, s.2.2.1) (0, pl, bl, s.2.2.2) K s.1 mb A B Z
theorem repN_out {f : Nat → Nat} {n back : Nat} : ∀ j i, (i < n ∨ n + j ≤ i) → repN f n back j i = f i := by
  intro j
  induction j with
  | zero => intro i _; rfl
  | succ j ih => intro i hi; unfold repN nup; rw [if_neg (by omega)]; exact ih i (by omega)
theorem c_MO_readSymbols_f {v F : Int32} {R : wRow} {P2 : Int32} {A : wK4} (hF : ¬ F = 0) : xCr l x 4 0 0 mMO_readSymbols [.ref 74, .int v] (hM C cd T R (F, P2, bl, st) K a mb A B Z) (fun o H' => o = none ∧ H' = hM C cd T R (F, P2, bl, st) K a mb A B Z) := by
  refine xCt.of (by decide) rfl ck_MO_readSymbols (Nat.le_of_ble_eq_true rfl) rfl ?_
  refine b_MO_readSymbols_0 ?_
  refine b_MO_readSymbols_2 ?_
  refine ⟨fun h => absurd h (by decide), fun _ => ?_⟩
  refine ⟨_, ⟨_, rfl, rfl⟩, ?_⟩
  refine ⟨fun _ => ?_, fun h => absurd h hF⟩
  refine ⟨rfl, Nat.le_refl _, _, rfl, ⟨rfl, rfl⟩⟩
theorem MO_syms_loop {n0 : Nat} {Q : xO → xH → Prop} (hT : ∀ i, T.1 i < 256) (hn : T.2 ≤ 32768) (he : e = 8 * T.2) {gL gD : Nat → Nat} {nL nD : Nat} (hnL : nL ≤ 288) (hnD : nD ≤ 32) (hpL : prd ct od 0 0 gL nL) (hfL : krs gL nL 15 = 32768) (hpD : prd ct od 400 16 gD nD) (hgD : ∀ i, i < nD → gD i ≤ 15) (hh3 : howN gD nD ≠ 3) (z : zS) (hK : fK z) (hq : ∀ H', QMS C cd T pl bl K mb (ct, od, ln, rw') B Z z H' → Q (.inl none) H') :
    ∀ (m : Nat) (s : sS) (rm : Nat → Nat) (cl : Bool), e - s.1 < m → sOK e mb s → agr s.2.2.1 rm s.2.1 → (∀ i, rm i < 256) → zsyms T.1 e mb gL nL gD nD m s = z → xW l x 4 0 0 mMO_readSymbols n0 Q cl 2 [some (.ref 74), some (.int (nI (howN gD nD))), some (.int (nI 1)), none, none, none, none, none] [] (hM C cd T (rm, s.2.2.1) (0, pl, bl, s.2.2.2) K s.1 mb (ct, od, ln, rw') B Z) 0 0 := by
  have hhl := how_le gD nD
  -- behind a fault
  have f2 : ∀ (f p st : Nat) (v1 v2 : Int32) (R' : wRow) (a' : Nat) (cl : Bool), z = .inl (f, p, st) → xW l x 4 0 0 mMO_readSymbols n0 Q cl 2 [some (.ref 74), some (.int v1), some (.int v2), none, none, none, none, none] [] (hM C cd T R' (nI f, nI p, bl, st) K a' mb (ct, od, ln, rw') B Z) 0 0 := by
    intro f p st v1 v2 R' a' cl hz
    have hF := nI_ne (hK _ hz).1 (hK _ hz).2
    refine b_MO_readSymbols_2 ?_
    refine ⟨fun _ => ⟨rfl, Nat.le_refl _, hq _ (Or.inl ⟨f, p, st, hz, _, _, _, _, rfl⟩)⟩, fun _ => ?_⟩
    refine ⟨_, ⟨_, rfl, rfl⟩, ?_⟩
    exact ⟨fun _ => ⟨rfl, Nat.le_refl _, hq _ (Or.inl ⟨f, p, st, hz, _, _, _, _, rfl⟩)⟩, fun h => absurd h hF⟩
  have f91 : ∀ (f p st : Nat) (v1 v2 v3 v4 v5 v6 v7 : Int32) (R' : wRow) (a' : Nat) (cl : Bool), z = .inl (f, p, st) → xW l x 4 0 0 mMO_readSymbols n0 Q cl 91 [some (.ref 74), some (.int v1), some (.int v2), some (.int v3), some (.int v4), some (.int v5), some (.int v6), some (.int v7)] [] (hM C cd T R' (nI f, nI p, bl, st) K a' mb (ct, od, ln, rw') B Z) 0 0 := by
    intro f p st v1 v2 v3 v4 v5 v6 v7 R' a' cl hz
    have hF := nI_ne (hK _ hz).1 (hK _ hz).2
    refine b_MO_readSymbols_91 ?_
    refine ⟨fun _ => ?_, fun _ => ?_⟩
    · refine ⟨_, ⟨_, rfl, rfl⟩, ?_⟩
      refine ⟨fun _ => ?_, fun h => absurd h hF⟩
      refine ⟨_, ⟨_, rfl, rfl⟩, _, rfl, Nat.le_of_ble_eq_true rfl, fun H4 e4 => ?_⟩
      try simp (disch := omega) only [nI_lit, nI_fold, nI_mul, nI_add, pk_sub, pk_div, nI_shrN, nI_clamp] at e4
      subst e4
      refine xW.fgt 3 (xW.fgt 4 (xW.fgt 5 (xW.fgt 6 (xW.fgt 7 ?_))))
      exact f2 f p st _ _ _ _ _ hz
    · refine ⟨_, ⟨_, rfl, rfl⟩, ?_⟩
      refine ⟨fun _ => ?_, fun h => absurd h hF⟩
      refine ⟨_, ⟨_, rfl, rfl⟩, ?_⟩
      refine ⟨fun _ => ?_, fun h => absurd h hF⟩
      refine ⟨_, ⟨_, rfl, rfl⟩, _, rfl, Nat.le_of_ble_eq_true rfl, fun H12 e12 => ?_⟩
      try simp (disch := omega) only [nI_lit, nI_fold, nI_mul, nI_add, pk_sub, pk_div, nI_shrN, nI_clamp] at e12
      subst e12
      refine xW.fgt 3 (xW.fgt 4 (xW.fgt 5 (xW.fgt 6 (xW.fgt 7 ?_))))
      exact f2 f p st _ _ _ _ _ hz
  have f75 : ∀ (f p st : Nat) (v1 v2 v3 v4 v5 u0 : Int32) (R' : wRow) (a' : Nat) (cl : Bool), z = .inl (f, p, st) → xW l x 4 0 0 mMO_readSymbols n0 Q cl 75 [some (.ref 74), some (.int v1), some (.int v2), some (.int v3), some (.int v4), some (.int v5), none, none] [.int u0] (hM C cd T R' (nI f, nI p, bl, st) K a' mb (ct, od, ln, rw') B Z) 0 0 := by
    intro f p st v1 v2 v3 v4 v5 u0 R' a' cl hz
    have hF := nI_ne (hK _ hz).1 (hK _ hz).2
    refine b_MO_readSymbols_75 ⟨_, ⟨_, rfl, rfl⟩, ?_⟩
    refine ⟨fun _ => ?_, fun h => absurd h hF⟩
    refine b_MO_readSymbols_89 ?_
    exact f91 f p st _ _ _ _ _ _ _ _ _ _ hz
  intro m
  induction m with
  | zero => intro s rm cl h; omega
  | succ m ih =>
    intro s rm cl hm hs hag hrm hz
    obtain ⟨a, rb, rn, st⟩ := s
    obtain ⟨h1, h2, h3, h4⟩ := id hs
    dsimp only at h1 h2 h3 h4 hm hag
    unfold zsyms at hz
    dsimp only at hz
    refine b_MO_readSymbols_2 ?_
    refine ⟨fun h => absurd h (by decide), fun _ => ?_⟩
    refine ⟨_, ⟨_, rfl, rfl⟩, ?_⟩
    refine ⟨fun h => absurd rfl h, fun _ => ?_⟩
    refine ⟨_, ⟨_, rfl, rfl⟩, ?_⟩
    refine xs_callV rfl lk_12_129 (d' := 2) (c_MO_symbol (fm := 0) (tb := 0) (n := nL) hT hn he hnL (by decide) (by omega) hpL hfL h1) (Nat.le_of_ble_eq_true rfl) rfl rfl rfl rfl rfl (Nat.le_of_ble_eq_true rfl) (by omega) (by omega) ?_
    intro o H1 hY
    rcases hY.cases with ⟨f, p, a', q1, rfl, rfl⟩ | ⟨y, b, q1, rfl, rfl⟩
    · rw [q1] at hz
      have hF := nI_ne (hK _ hz.symm).1 (hK _ hz.symm).2
      refine b_MO_readSymbols_14 ⟨_, ⟨_, rfl, rfl⟩, ?_⟩
      refine ⟨fun _ => ?_, fun h => absurd h hF⟩
      refine b_MO_readSymbols_25 ?_
      refine ⟨fun h => absurd h (by decide), fun _ => ?_⟩
      refine ⟨_, ⟨_, rfl, rfl⟩, ?_⟩
      refine ⟨fun _ => ?_, fun h => absurd h hF⟩
      refine ⟨fun _ => ?_, fun h => absurd rfl h⟩
      refine ⟨fun _ => ?_, fun h => absurd rfl h⟩
      refine xW.fgt 3 (xW.fgt 4 ?_)
      exact f2 f p st _ _ _ _ _ hz.symm
    have q2 := zs_le q1
    rw [q1] at hz
    dsimp only at hz
    refine b_MO_readSymbols_14 ⟨_, ⟨_, rfl, rfl⟩, ?_⟩
    refine ⟨fun h => absurd rfl h, fun _ => ?_⟩
    refine ⟨fun hg => ?_, fun hg => ?_⟩ <;> (try simp (disch := omega) only [nI_lit, nI_fold, nI_mul, nI_add, pk_sub, pk_div, nI_shrN, nI_clamp, nI_leI, nI_ltI, nI_eq, not_true_eq_false, not_false_eq_true, Bool.false_eq_true, if_true, if_false, nI_nem, nI_m1, nI_m7, nI_m15, nI_m32, nI_m4, nI_m8, nI_m16, nI_m2] at hg) <;> (try omega)
    case refine_2 =>
      have hz2 : z = .inl (8, a, st) := by
        rw [← hz, if_neg (by omega), if_pos (by omega)]
        unfold zstr
        rw [if_pos (by omega)]
      refine xs_callV rfl lk_12_121 (d' := 0) (c_MO_fail) (Nat.le_of_ble_eq_true rfl) rfl rfl rfl rfl rfl (Nat.le_of_ble_eq_true rfl) (by omega) (by omega) ?_
      rintro _ H1 ⟨rfl, rfl⟩
      refine b_MO_readSymbols_25 ?_
      refine ⟨fun h => absurd h (by rw [show (256 : Int32) = nI 256 from rfl, nI_eq (by omega) (by omega)]; omega), fun _ => ?_⟩
      refine ⟨_, ⟨_, rfl, rfl⟩, ?_⟩
      refine ⟨fun _ => ?_, fun h => absurd h (show ¬ (8 : Int32) = 0 by decide)⟩
      refine ⟨fun _ => ?_, fun h => absurd rfl h⟩
      refine ⟨fun _ => ?_, fun h => absurd rfl h⟩
      refine xW.fgt 3 (xW.fgt 4 ?_)
      exact f2 8 a st _ _ _ _ _ hz2
    refine b_MO_readSymbols_25 ?_
    refine ⟨fun hh => ?_, fun hh => ?_⟩ <;> rw [show (256 : Int32) = nI 256 from rfl, nI_eq (by omega) (by omega)] at hh
    · rw [if_pos hh] at hz
      refine ⟨fun _ => ?_, fun h => absurd rfl h⟩
      refine ⟨fun _ => ?_, fun h => absurd rfl h⟩
      refine xW.fgt 3 (xW.fgt 4 ?_)
      refine b_MO_readSymbols_2 ?_
      refine ⟨fun _ => ⟨rfl, Nat.le_refl _, hq _ (Or.inr ⟨_, rm, hz.symm, hag, hrm, rfl⟩)⟩, fun h => absurd rfl h⟩
    rw [if_neg hh] at hz
    refine ⟨_, ⟨_, rfl, rfl⟩, ?_⟩
    refine ⟨fun h => absurd rfl h, fun _ => ?_⟩
    refine ⟨fun h => absurd h (show ¬ (1 : Int32) = 0 by decide), fun _ => ?_⟩
    refine ⟨fun hj => ?_, fun hj => ?_⟩ <;> (try simp (disch := omega) only [nI_lit, nI_fold, nI_mul, nI_add, pk_sub, pk_div, nI_shrN, nI_clamp, nI_leI, nI_ltI, nI_eq, not_true_eq_false, not_false_eq_true, Bool.false_eq_true, if_true, if_false, nI_nem, nI_m1, nI_m7, nI_m15, nI_m32, nI_m4, nI_m8, nI_m16, nI_m2] at hj) <;> (try omega)
    case refine_2 =>
      -- a byte
      rw [if_neg (by omega)] at hz
      refine ⟨_, ⟨_, rfl, rfl⟩, ?_⟩
      refine ⟨fun hi => ?_, fun hi => ?_⟩ <;> (try simp (disch := omega) only [nI_lit, nI_fold, nI_mul, nI_add, pk_sub, pk_div, nI_shrN, nI_clamp, nI_leI, nI_ltI, nI_eq, not_true_eq_false, not_false_eq_true, Bool.false_eq_true, if_true, if_false, nI_nem, nI_m1, nI_m7, nI_m15, nI_m32, nI_m4, nI_m8, nI_m16, nI_m2] at hi) <;> (try omega)
      · rw [if_neg hi] at hz
        refine xs_callV rfl lk_12_155 (d' := 0) (c_MO_put (R := (rm, rn)) (by omega)) (Nat.le_of_ble_eq_true rfl) rfl rfl rfl rfl rfl (Nat.le_of_ble_eq_true rfl) (by omega) (by omega) ?_
        rintro _ H1 ⟨rfl, rfl⟩
        refine b_MO_readSymbols_52 ?_
        rw [uN8_nI (by omega)]
        refine xW.fgt 3 (xW.fgt 4 ?_)
        exact ih (b, nup rb rn y, rn + 1, st) (nup rm rn y) false (by dsimp only; omega) ⟨by dsimp only; omega, by dsimp only; omega, by dsimp only; omega, fun i => by dsimp only [nup]; split; omega; exact h4 i⟩ hag.up (fun i => by dsimp only [nup]; split; omega; exact hrm i) hz
      · rw [if_pos hi] at hz
        refine xs_callV rfl lk_12_121 (d' := 0) (c_MO_fail) (Nat.le_of_ble_eq_true rfl) rfl rfl rfl rfl rfl (Nat.le_of_ble_eq_true rfl) (by omega) (by omega) ?_
        rintro _ H1 ⟨rfl, rfl⟩
        refine b_MO_readSymbols_48 ?_
        refine xW.fgt 3 (xW.fgt 4 ?_)
        exact f2 10 a st _ _ _ _ _ hz.symm
    -- a stretch
    rw [if_pos (by omega), zdist_str (by omega)] at hz
    dsimp only at hz
    refine ⟨fun h => absurd h (show ¬ (1 : Int32) = 0 by decide), fun _ => ?_⟩
    obtain ⟨t1, t2, t3⟩ := lbts_le (y - 257) (by omega)
    try simp (disch := omega) only [nI_lit, nI_fold, nI_mul, nI_add, pk_sub, pk_div, nI_shrN, nI_clamp]
    refine xs_callS rfl lk_12_108 (d' := 0) (c_MO_leastLength (i := y - 257) (by omega)) (Nat.le_of_ble_eq_true rfl) rfl rfl (Nat.le_of_ble_eq_true rfl) (by omega) (by omega) ?_
    rintro _ H1 ⟨rfl, rfl⟩
    refine b_MO_readSymbols_59 ?_
    try simp (disch := omega) only [nI_lit, nI_fold, nI_mul, nI_add, pk_sub, pk_div, nI_shrN, nI_clamp]
    refine xs_callS rfl lk_12_158 (d' := 0) (c_MO_lengthBits (i := y - 257) (by omega)) (Nat.le_of_ble_eq_true rfl) rfl rfl (Nat.le_of_ble_eq_true rfl) (by omega) (by omega) ?_
    rintro _ H1 ⟨rfl, rfl⟩
    have hrn := rdn_lt T.1 b (lbts (y - 257))
    have hp1 : 2 ^ lbts (y - 257) ≤ 2 ^ 5 := Nat.pow_le_pow_right (by decide) t1
    generalize lbts (y - 257) = nb at *
    refine xs_callV rfl lk_12_133 (d' := 2) (c_MO_number (n := nb) hT hn he (by omega) q2.2.1) (Nat.le_of_ble_eq_true rfl) rfl rfl rfl rfl rfl (Nat.le_of_ble_eq_true rfl) (by omega) (by omega) ?_
    rintro _ H1 (⟨g1, rfl, rfl⟩ | ⟨g1, w, a', rfl, rfl⟩)
    case inr =>
      rw [if_pos (by omega)] at hz
      refine b_MO_readSymbols_65 ⟨_, ⟨_, rfl, rfl⟩, ?_⟩
      refine ⟨fun h => absurd h (show ¬ (1 : Int32) ≤ 0 by decide), fun _ => ?_⟩
      exact f75 1 e st _ _ _ _ _ _ _ _ _ hz.symm
    rw [if_neg (by omega)] at hz
    refine b_MO_readSymbols_65 ?_
    rw [nI_add]
    have hlen : ∃ n, n = lbas (y - 257) + rdn T.1 b nb := ⟨_, rfl⟩
    obtain ⟨len, hlen⟩ := hlen
    rw [← hlen] at hz ⊢
    have hlen2 : len < 260 := by omega
    refine ⟨_, ⟨_, rfl, rfl⟩, fun _ => ?_, fun h => absurd (show (0 : Int32) ≤ 0 by decide) h⟩
    refine xs_callV rfl lk_12_161 (d' := 3) (c_MO_distance (R := (rm, rn)) (gD := gD) (nD := nD) hT hn he hnD hgD hpD hh3 h2 h3 g1) (Nat.le_of_ble_eq_true rfl) rfl rfl rfl rfl rfl (Nat.le_of_ble_eq_true rfl) (by omega) (by omega) ?_
    rintro o H1 (⟨f, p, v, a', q3, rfl, rfl⟩ | ⟨dd, c, q3, rfl, rfl⟩)
    · dsimp only at q3
      rw [q3] at hz
      exact f75 f p st _ _ _ _ _ _ _ _ _ hz.symm
    dsimp only at q3
    have q4 := zdist_le q3
    rw [q3] at hz
    dsimp only at hz
    refine b_MO_readSymbols_75 ⟨_, ⟨_, rfl, rfl⟩, ?_⟩
    refine ⟨fun h => absurd rfl h, fun _ => ?_⟩
    refine ⟨_, ⟨_, rfl, rfl⟩, ?_⟩
    refine ⟨fun hi => ?_, fun hi => ?_⟩ <;> (try simp (disch := omega) only [nI_lit, nI_fold, nI_mul, nI_add, pk_sub, pk_div, nI_shrN, nI_clamp, nI_leI, nI_ltI, nI_eq, not_true_eq_false, not_false_eq_true, Bool.false_eq_true, if_true, if_false, nI_nem, nI_m1, nI_m7, nI_m15, nI_m32, nI_m4, nI_m8, nI_m16, nI_m2] at hi) <;> (try omega)
    case refine_2 =>
      rw [if_pos (by omega)] at hz
      refine xs_callV rfl lk_12_121 (d' := 0) (c_MO_fail) (Nat.le_of_ble_eq_true rfl) rfl rfl rfl rfl rfl (Nat.le_of_ble_eq_true rfl) (by omega) (by omega) ?_
      rintro _ H1 ⟨rfl, rfl⟩
      refine b_MO_readSymbols_89 ?_
      exact f91 10 a st _ _ _ _ _ _ _ _ _ _ hz.symm
    rw [if_neg (by omega)] at hz
    refine b_MO_readSymbols_89 ?_
    have kcopy : ∀ (j i : Nat) (rm2 : Nat → Nat) (cl : Bool), i + j = len → agr (rn + i) rm2 (repN rb rn dd i) → (∀ i, rm2 i < 256) → xW l x 4 0 0 mMO_readSymbols n0 Q cl 91 [some (.ref 74), some (.int (nI (howN gD nD))), some (.int (nI 1)), some (.int (nI a)), some (.int (nI y)), some (.int (nI len)), some (.int (nI dd)), some (.int (nI i))] [] (hM C cd T (rm2, rn + i) (0, pl, bl, st) K c mb (ct, od, ln, rw') B Z) 0 0 := by
      intro j
      induction j with
      | zero =>
        intro i rm2 cl hi2 hag2 hrm2
        have : i = len := by omega
        subst this
        refine b_MO_readSymbols_91 ?_
        refine ⟨fun hk => ?_, fun hk => ?_⟩ <;> (try simp (disch := omega) only [nI_lit, nI_fold, nI_mul, nI_add, pk_sub, pk_div, nI_shrN, nI_clamp, nI_leI, nI_ltI, nI_eq, not_true_eq_false, not_false_eq_true, Bool.false_eq_true, if_true, if_false, nI_nem, nI_m1, nI_m7, nI_m15, nI_m32, nI_m4, nI_m8, nI_m16, nI_m2] at hk) <;> (try omega)
        refine ⟨_, ⟨_, rfl, rfl⟩, ?_⟩
        refine ⟨fun h => absurd rfl h, fun _ => ?_⟩
        refine ⟨_, ⟨_, rfl, rfl⟩, _, rfl, Nat.le_of_ble_eq_true rfl, fun H7 e7 => ?_⟩
        try simp (disch := omega) only [nI_lit, nI_fold, nI_mul, nI_add, pk_sub, pk_div, nI_shrN, nI_clamp] at e7
        subst e7
        refine xW.fgt 3 (xW.fgt 4 (xW.fgt 5 (xW.fgt 6 (xW.fgt 7 ?_))))
        exact ih (c, repN rb rn dd i, rn + i, st + 1) rm2 false (by dsimp only; omega) ⟨by dsimp only; omega, by dsimp only; omega, by dsimp only; omega, fun q => by dsimp only; exact repN_lt h4 _ _ _ _⟩ hag2 hrm2 hz
      | succ j ihc =>
        intro i rm2 cl hi2 hag2 hrm2
        refine b_MO_readSymbols_91 ?_
        refine ⟨fun hk => ?_, fun hk => ?_⟩ <;> (try simp (disch := omega) only [nI_lit, nI_fold, nI_mul, nI_add, pk_sub, pk_div, nI_shrN, nI_clamp, nI_leI, nI_ltI, nI_eq, not_true_eq_false, not_false_eq_true, Bool.false_eq_true, if_true, if_false, nI_nem, nI_m1, nI_m7, nI_m15, nI_m32, nI_m4, nI_m8, nI_m16, nI_m2] at hk) <;> (try omega)
        refine ⟨_, ⟨_, rfl, rfl⟩, ?_⟩
        refine ⟨fun h => absurd rfl h, fun _ => ?_⟩
        refine ⟨_, ⟨_, rfl, rfl⟩, _, ⟨_, rfl, rfl⟩, _, _, rfl, (by (try simp (disch := omega) only [nI_lit, nI_fold, nI_mul, nI_add, pk_sub, pk_div, nI_shrN, nI_clamp]); (with_reducible refine vp_in_nI ?_ ?_) <;> omega), ?_⟩
        try simp (disch := omega) only [nI_lit, nI_fold, nI_mul, nI_add, pk_sub, pk_div, nI_shrN, nI_clamp]
        refine xs_callV rfl lk_12_155 (d' := 0) (c_MO_put (R := (rm2, rn + i)) (by omega)) (Nat.le_of_ble_eq_true rfl) rfl rfl rfl rfl rfl (Nat.le_of_ble_eq_true rfl) (by omega) (by omega) ?_
        rintro _ H1 ⟨rfl, rfl⟩
        refine b_MO_readSymbols_106 ?_
        dsimp only
        rw [nI_1, show uN8 (bF rm2 (rn + i - dd)) = rm2 (rn + i - dd) from uN8_sb _ (hrm2 _), hag2 (rn + i - dd) (by omega)]
        refine ihc (i + 1) _ false (by omega) ?_ (fun q => ?_)
        · intro q hq
          show nup rm2 (rn + i) (repN rb rn dd i (rn + i - dd)) q = nup (repN rb rn dd i) (rn + i) (repN rb rn dd i (rn + i - dd)) q
          unfold nup
          split
          · rfl
          · exact hag2 q (by omega)
        · dsimp only [nup]
          split
          · exact repN_lt h4 _ _ _ _
          · exact hrm2 q
    exact kcopy len 0 rm false (by omega) hag hrm
theorem c_MO_readSymbols (hT : ∀ i, T.1 i < 256) (hn : T.2 ≤ 32768) (he : e = 8 * T.2) {gL gD : Nat → Nat} {nL nD : Nat} (hnL : nL ≤ 288) (hnD : nD ≤ 32) (hpL : prd ct od 0 0 gL nL) (hfL : krs gL nL 15 = 32768) (hpD : prd ct od 400 16 gD nD) (hgD : ∀ i, i < nD → gD i ≤ 15) (hh3 : howN gD nD ≠ 3) {s : sS} {rm : Nat → Nat} (hs : sOK e mb s) (hs3 : 3 ≤ s.1) (hag : agr s.2.2.1 rm s.2.1) (hrm : ∀ i, rm i < 256) : xCr l x 4 0 0 mMO_readSymbols [.ref 74, .int (nI (howN gD nD))] (hM C cd T (rm, s.2.2.1) (0, pl, bl, s.2.2.2) K s.1 mb (ct, od, ln, rw') B Z) (fun o H' => o = none ∧ QMS C cd T pl bl K mb (ct, od, ln, rw') B Z (zsyms T.1 e mb gL nL gD nD 262144 s) H') := by
  refine xCt.of (by decide) rfl ck_MO_readSymbols (Nat.le_of_ble_eq_true rfl) rfl ?_
  refine b_MO_readSymbols_0 ?_
  exact MO_syms_loop hT hn he hnL hnD hpL hfL hpD hgD hh3 _ (fK_zsyms _ _) (fun H' h => ⟨_, rfl, rfl, h⟩) 262144 s rm true (by omega) hs hag hrm rfl
end MBlk
