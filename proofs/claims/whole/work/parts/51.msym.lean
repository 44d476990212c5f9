/-! the model reads symbols -/
section MSym
variable {l : Launch} {x : xX} {d : Nat} {C : Nat → va_E} {cd : Int32} {T R : wRow} {P : wRp} {pl : Int32} {bl st : Nat} {K : wK4} {a mb : Nat} {ct od ln rw' : wF} {B : wMB} {Z : xH} {e : Nat} {fm n tb : Nat} {g : Nat → Nat}
def MY (C : Nat → va_E) (cd : Int32) (T R : wRow) (pl : Int32) (bl st : Nat) (K : wK4) (mb : Nat) (A : wK4) (B : wMB) (Z : xH) (z : zY) (o : Option Value) (H' : xH) : Prop := match z with
  | .inl (f, p) => o = some (.int 0) ∧ ∃ a', H' = hM C cd T R (nI f, nI p, bl, st) K a' mb A B Z
  | .inr (y, a') => o = some (.int (nI y)) ∧ H' = hM C cd T R (0, pl, bl, st) K a' mb A B Z
theorem MY.cases {A : wK4} {z : zY} {o : Option Value} {H' : xH} (h : MY C cd T R pl bl st K mb A B Z z o H') : (∃ f p a', z = .inl (f, p) ∧ o = some (.int 0) ∧ H' = hM C cd T R (nI f, nI p, bl, st) K a' mb A B Z) ∨ (∃ y a', z = .inr (y, a') ∧ o = some (.int (nI y)) ∧ H' = hM C cd T R (0, pl, bl, st) K a' mb A B Z) := by
  match z, h with
  | .inl (f, p), h => obtain ⟨h1, a', h2⟩ := h; exact Or.inl ⟨f, p, a', rfl, h1, h2⟩
  | .inr (y, a'), h => exact Or.inr ⟨y, a', rfl, h.1, h.2⟩
theorem MY.fl {A : wK4} {z : zY} {f p a' : Nat} (h : z = .inl (f, p)) : MY C cd T R pl bl st K mb A B Z z (some (.int 0)) (hM C cd T R (nI f, nI p, bl, st) K a' mb A B Z) := by subst h; exact ⟨rfl, _, rfl⟩
theorem MY.ok {A : wK4} {z : zY} {y a' : Nat} (h : z = .inr (y, a')) : MY C cd T R pl bl st K mb A B Z z (some (.int (nI y))) (hM C cd T R (0, pl, bl, st) K a' mb A B Z) := by subst h; exact ⟨rfl, rfl⟩
theorem MO_sym_loop {n0 : Nat} {Q : xO → xH → Prop} (hT : ∀ i, T.1 i < 256) (hn : T.2 ≤ 32768) (he : e = 8 * T.2) (hn2 : n ≤ 288) (htb : tb + 16 ≤ 48) (hfm : fm + n ≤ 600) (hp : prd ct od fm tb g n) (hfull : krs g n 15 = 32768) {a0 : Nat} (z : zY) (hq : ∀ o H', MY C cd T R pl bl st K mb (ct, od, ln, rw') B Z z o H' → Q (.inl o) H') :
    ∀ (m len w F a : Nat) (cl : Bool), len + m = 16 → 1 ≤ len → w < 2 ^ (len - 1) → F ≤ w → 2 * F * 2 ^ (15 - len) = krs g n (len - 1) → a ≤ e → syl T.1 e a0 g n m len w (2 * F) a = z → (m = 0 → False) → xW l x 2 0 0 mMO_symbol n0 Q cl 8 [some (.ref 74), some (.int (nI fm)), some (.int (nI tb)), some (.int (nI w)), some (.int (nI F)), some (.int (nI (ofs g n len))), some (.int (nI len))] [] (hM C cd T R (0, pl, bl, st) K a mb (ct, od, ln, rw') B Z) 0 0 := by
  intro m
  induction m with
  | zero => intro len w F a cl _ _ _ _ _ _ _ h; exact absurd rfl h
  | succ m ih =>
    intro len w F a cl hl hl1 hw hF hk hae hz _
    have hpw : 2 ^ (len - 1) ≤ 2 ^ 14 := Nat.pow_le_pow_right (by decide) (by omega)
    have hcl := cnt_le g n len
    have hol := ofs_le g n len
    have e1 : ct (nI tb + nI len).toNatClampNeg = nI (cnt g n len) := by rw [nI_add, nI_clamp (by omega)]; exact hp.1 len (by omega)
    have hib : vp_in (nI tb + nI len) 48 := by rw [nI_add]; exact vp_in_nI (by omega) (by decide)
    unfold syl at hz
    refine b_MO_symbol_8 ?_
    refine ⟨fun hb => ?_, fun hb => ?_⟩ <;> (try simp (disch := omega) only [nI_lit, nI_fold, nI_mul, nI_add, pk_sub, pk_div, nI_shrN, nI_clamp, nI_leI, nI_ltI, nI_eq, not_true_eq_false, not_false_eq_true, Bool.false_eq_true, if_true, if_false, nI_nem, nI_m1, nI_m7, nI_m15, nI_m32, nI_m4, nI_m8, nI_m16, nI_m2] at hb) <;> (try omega)
    refine ⟨_, ⟨_, rfl, rfl⟩, ?_⟩
    refine ⟨fun h => absurd rfl h, fun _ => ?_⟩
    refine xs_callV rfl lk_12_125 (d' := 1) (c_MO_bit hT hn he hae) (Nat.le_of_ble_eq_true rfl) rfl rfl rfl rfl rfl (Nat.le_of_ble_eq_true rfl) (by omega) (by omega) ?_
    rintro _ H1 (⟨h1, rfl, rfl⟩ | ⟨h1, rfl, rfl⟩)
    · rw [if_neg (by omega)] at hz
      have hbt := tbit_lt T.1 a
      refine b_MO_symbol_19 ⟨_, ⟨_, rfl, rfl⟩, _, _, rfl, hib, ?_⟩
      rw [show (ct, od, ln, rw').1 (nI tb + nI len).toNatClampNeg = nI (cnt g n len) from e1, show (2 : Int32) * nI w + nI (tbit T.1 a) = nI (2 * w + tbit T.1 a) by rw [show (2 : Int32) = nI 2 from rfl, nI_mul, nI_add], show (2 : Int32) * nI F = nI (2 * F) from nI_mul 2 F, pk_sub (by omega)]
      refine ⟨fun hd => ?_, fun hd => ?_⟩ <;> (try simp (disch := omega) only [nI_lit, nI_fold, nI_mul, nI_add, pk_sub, pk_div, nI_shrN, nI_clamp, nI_leI, nI_ltI, nI_eq, not_true_eq_false, not_false_eq_true, Bool.false_eq_true, if_true, if_false, nI_nem, nI_m1, nI_m7, nI_m15, nI_m32, nI_m4, nI_m8, nI_m16, nI_m2] at hd) <;> (try omega)
      · rw [if_neg (by omega)] at hz
        refine ⟨_, ⟨_, rfl, rfl⟩, _, _, rfl, hib, _, ⟨_, rfl, rfl⟩, _, _, rfl, hib, ?_⟩
        rw [show (ct, od, ln, rw').1 (nI tb + nI len).toNatClampNeg = nI (cnt g n len) from e1, nI_add, nI_add, nI_1, show ofs g n len + cnt g n len = ofs g n (len + 1) by rw [ofs_s, if_neg (by omega)]]
        have hpw2 : 2 ^ (len + 1 - 1) = 2 * 2 ^ (len - 1) := by rw [Nat.mul_comm, ← Nat.pow_succ]; congr 1; omega
        have hk0 : krs g n len = krs g n (len - 1) + cnt g n len * 2 ^ (15 - len) := by
          have : len = len - 1 + 1 := by omega
          rw [this]
          rfl
        by_cases hlast : len = 15
        · subst hlast
          simp only [Nat.sub_self, Nat.pow_zero, Nat.mul_one] at hk hk0
          have : 2 ^ (15 - 1) = 16384 := by decide
          omega
        · refine ih (len + 1) (2 * w + tbit T.1 a) (2 * F + cnt g n len) (a + 1) false (by omega) (by omega) (by omega) (by omega) ?_ (by omega) ?_ (by omega)
          · rw [Nat.add_sub_cancel, hk0, ← hk]
            have hpe : 2 ^ (15 - len) = 2 * 2 ^ (15 - (len + 1)) := by rw [Nat.mul_comm, ← Nat.pow_succ]; congr 1; omega
            rw [hpe]
            generalize 2 ^ (15 - (len + 1)) = X
            generalize cnt g n len = Y
            rw [show 2 * (2 * F + Y) * X = 2 * F * (2 * X) + Y * (2 * X) by
              rw [Nat.mul_add, Nat.add_mul]; ac_rfl]
          · rw [← hz]
      · obtain ⟨i, b1, b2, b3, b4⟩ := odf_lt (g := g) (n := n) hl1 (show 2 * w + tbit T.1 a - 2 * F < cnt g n len by omega)
        have hol2 := ofs_le g n (len + 1)
        rw [ofs_s, if_neg (by omega)] at hol2
        rw [if_pos (by omega)] at hz
        have hix : ((nI fm + nI (ofs g n len)) + nI (2 * w + tbit T.1 a)) - nI (2 * F) = nI (fm + (ofs g n len + (2 * w + tbit T.1 a - 2 * F))) := by
          rw [nI_add, nI_add, pk_sub (by omega), show fm + ofs g n len + (2 * w + tbit T.1 a) - 2 * F = fm + (ofs g n len + (2 * w + tbit T.1 a - 2 * F)) by omega]
        refine ⟨_, ⟨_, rfl, rfl⟩, fun _ => ?_, fun h => absurd (show (0 : Int32) ≤ 0 by decide) h⟩
        refine ⟨_, ⟨_, rfl, rfl⟩, _, _, rfl, ?_, ?_⟩
        · rw [hix]; exact vp_in_nI (by omega) (by decide)
        refine ⟨rfl, Nat.le_refl _, hq _ _ ?_⟩
        rw [hix, nI_clamp (by omega), ← b3, show (ct, od, ln, rw').2.1 (fm + plc g n i) = nI i from hp.2 i b1 b2]
        exact MY.ok (by rw [← hz, b4])
    · rw [if_pos (by omega)] at hz
      have hfin : Q (.inl (some (.int 0))) (hM C cd T R (1, nI e, bl, st) K a mb (ct, od, ln, rw') B Z) := hq _ _ (MY.fl hz.symm)
      refine b_MO_symbol_19 ⟨_, ⟨_, rfl, rfl⟩, _, _, rfl, hib, fun _ => ?_, fun _ => ?_⟩
      · refine ⟨_, ⟨_, rfl, rfl⟩, _, _, rfl, hib, _, ⟨_, rfl, rfl⟩, _, _, rfl, hib, ?_⟩
        refine b_MO_symbol_8 ?_
        refine ⟨fun _ => ⟨rfl, Nat.le_refl _, hfin⟩, fun _ => ?_⟩
        refine ⟨_, ⟨_, rfl, rfl⟩, fun _ => ⟨rfl, Nat.le_refl _, hfin⟩, fun h => absurd h (show ¬ (1 : Int32) = 0 by decide)⟩
      · refine ⟨_, ⟨_, rfl, rfl⟩, fun h => absurd h (show ¬ (1 : Int32) ≤ 0 by decide), fun _ => ⟨rfl, Nat.le_refl _, hfin⟩⟩
theorem c_MO_symbol (hT : ∀ i, T.1 i < 256) (hn : T.2 ≤ 32768) (he : e = 8 * T.2) (hn2 : n ≤ 288) (htb : tb + 16 ≤ 48) (hfm : fm + n ≤ 600) (hp : prd ct od fm tb g n) (hfull : krs g n 15 = 32768) (ha : a ≤ e) : xCr l x 2 0 0 mMO_symbol [.ref 74, .int (nI fm), .int (nI tb)] (hM C cd T R (0, pl, bl, st) K a mb (ct, od, ln, rw') B Z) (fun o H' => MY C cd T R pl bl st K mb (ct, od, ln, rw') B Z (zs T.1 e g n a) o H') := by
  refine xCt.of (by decide) rfl ck_MO_symbol (Nat.le_of_ble_eq_true rfl) rfl ?_
  refine b_MO_symbol_0 ?_
  rw [zs_full hfull]
  exact MO_sym_loop hT hn he hn2 htb hfm hp hfull _ (fun o H' h => ⟨_, rfl, h⟩) 15 1 0 0 a true (by decide) (by decide) (by decide) (by decide) rfl ha rfl (by decide)
theorem MO_plain1 {n0 : Nat} {Q : xO → xH → Prop} {ln0 : wF} (Kk : ∀ (ln : wF) (cl : Bool), (∀ i, i < 288 → ln i = nI (flen i)) → (∀ i, 288 ≤ i → ln i = ln0 i) → xW l x d 0 0 mMO_plainLengths n0 Q cl 29 [some (.ref 74), some (.int (nI 0))] [] (hM C cd T R P K a mb (ct, od, ln, rw') B Z) 0 0) : ∀ (j i : Nat) (ln : wF) (cl : Bool), i + j = 288 → (∀ q, q < i → ln q = nI (flen q)) → (∀ q, 288 ≤ q → ln q = ln0 q) → xW l x d 0 0 mMO_plainLengths n0 Q cl 2 [some (.ref 74), some (.int (nI i))] [] (hM C cd T R P K a mb (ct, od, ln, rw') B Z) 0 0 := by
  intro j
  induction j with
  | zero =>
    intro i ln cl hi h1 h2
    refine b_MO_plainLengths_2 ?_
    refine ⟨fun hb => ?_, fun hb => ?_⟩ <;> (try simp (disch := omega) only [nI_lit, nI_fold, nI_mul, nI_add, pk_sub, pk_div, nI_shrN, nI_clamp, nI_leI, nI_ltI, nI_eq, not_true_eq_false, not_false_eq_true, Bool.false_eq_true, if_true, if_false, nI_nem, nI_m1, nI_m7, nI_m15, nI_m32, nI_m4, nI_m8, nI_m16, nI_m2] at hb) <;> (try omega)
    exact Kk ln cl (fun q hq => h1 q (by omega)) h2
  | succ j ih =>
    intro i ln cl hi h1 h2
    have key : ∀ v, v = flen i → xW l x d 0 0 mMO_plainLengths n0 Q false 2 [some (.ref 74), some (.int (nI (i + 1)))] [] (hM C cd T R P K a mb (ct, od, upd ln i (nI v), rw') B Z) 0 0 := by
      intro v hv
      refine ih (i + 1) _ false (by omega) (fun q hq => ?_) (fun q hq => ?_)
      · unfold upd
        split
        · rename_i h; rw [hv, h]
        · exact h1 q (by omega)
      · unfold upd
        rw [if_neg (by omega)]
        exact h2 q hq
    refine b_MO_plainLengths_2 ?_
    refine ⟨fun hb => ?_, fun hb => ?_⟩ <;> (try simp (disch := omega) only [nI_lit, nI_fold, nI_mul, nI_add, pk_sub, pk_div, nI_shrN, nI_clamp, nI_leI, nI_ltI, nI_eq, not_true_eq_false, not_false_eq_true, Bool.false_eq_true, if_true, if_false, nI_nem, nI_m1, nI_m7, nI_m15, nI_m32, nI_m4, nI_m8, nI_m16, nI_m2] at hb) <;> (try omega)
    refine ⟨_, ⟨_, rfl, rfl⟩, ?_⟩
    refine ⟨fun hd => ?_, fun hd => ?_⟩ <;> (try simp (disch := omega) only [nI_lit, nI_fold, nI_mul, nI_add, pk_sub, pk_div, nI_shrN, nI_clamp, nI_leI, nI_ltI, nI_eq, not_true_eq_false, not_false_eq_true, Bool.false_eq_true, if_true, if_false, nI_nem, nI_m1, nI_m7, nI_m15, nI_m32, nI_m4, nI_m8, nI_m16, nI_m2] at hd) <;> (try omega)
    · refine ⟨fun hf => ?_, fun hf => ?_⟩ <;> (try simp (disch := omega) only [nI_lit, nI_fold, nI_mul, nI_add, pk_sub, pk_div, nI_shrN, nI_clamp, nI_leI, nI_ltI, nI_eq, not_true_eq_false, not_false_eq_true, Bool.false_eq_true, if_true, if_false, nI_nem, nI_m1, nI_m7, nI_m15, nI_m32, nI_m4, nI_m8, nI_m16, nI_m2] at hf) <;> (try omega)
      · refine ⟨fun hh => ?_, fun hh => ?_⟩ <;> (try simp (disch := omega) only [nI_lit, nI_fold, nI_mul, nI_add, pk_sub, pk_div, nI_shrN, nI_clamp, nI_leI, nI_ltI, nI_eq, not_true_eq_false, not_false_eq_true, Bool.false_eq_true, if_true, if_false, nI_nem, nI_m1, nI_m7, nI_m15, nI_m32, nI_m4, nI_m8, nI_m16, nI_m2] at hh) <;> (try omega)
        · refine ⟨_, _, rfl, Nat.le_of_ble_eq_true rfl, (by (try simp (disch := omega) only [nI_lit, nI_fold, nI_mul, nI_add, pk_sub, pk_div, nI_shrN, nI_clamp]); (with_reducible refine vp_in_nI ?_ ?_) <;> omega), fun H4 e4 => ?_⟩
          try simp (disch := omega) only [nI_lit, nI_fold, nI_mul, nI_add, pk_sub, pk_div, nI_shrN, nI_clamp] at e4
          subst e4
          rw [nI_1]
          exact key 8 (by unfold flen; rw [if_neg (by omega), if_neg (by omega), if_neg (by omega)])
        · refine ⟨_, _, rfl, Nat.le_of_ble_eq_true rfl, (by (try simp (disch := omega) only [nI_lit, nI_fold, nI_mul, nI_add, pk_sub, pk_div, nI_shrN, nI_clamp]); (with_reducible refine vp_in_nI ?_ ?_) <;> omega), fun H7 e7 => ?_⟩
          try simp (disch := omega) only [nI_lit, nI_fold, nI_mul, nI_add, pk_sub, pk_div, nI_shrN, nI_clamp] at e7
          subst e7
          rw [nI_1]
          exact key 7 (by unfold flen; rw [if_neg (by omega), if_neg (by omega), if_pos (by omega)])
      · refine ⟨_, _, rfl, Nat.le_of_ble_eq_true rfl, (by (try simp (disch := omega) only [nI_lit, nI_fold, nI_mul, nI_add, pk_sub, pk_div, nI_shrN, nI_clamp]); (with_reducible refine vp_in_nI ?_ ?_) <;> omega), fun H10 e10 => ?_⟩
        try simp (disch := omega) only [nI_lit, nI_fold, nI_mul, nI_add, pk_sub, pk_div, nI_shrN, nI_clamp] at e10
        subst e10
        rw [nI_1]
        exact key 9 (by unfold flen; rw [if_neg (by omega), if_pos (by omega)])
    · refine ⟨_, _, rfl, Nat.le_of_ble_eq_true rfl, (by (try simp (disch := omega) only [nI_lit, nI_fold, nI_mul, nI_add, pk_sub, pk_div, nI_shrN, nI_clamp]); (with_reducible refine vp_in_nI ?_ ?_) <;> omega), fun H13 e13 => ?_⟩
      try simp (disch := omega) only [nI_lit, nI_fold, nI_mul, nI_add, pk_sub, pk_div, nI_shrN, nI_clamp] at e13
      subst e13
      rw [nI_1]
      exact key 8 (by unfold flen; rw [if_pos (by omega)])
theorem MO_plain2 {n0 : Nat} {Q : xO → xH → Prop} {ln0 : wF} (hq : ∀ (ln : wF), (∀ i, i < 32 → ln (400 + i) = nI 5) → (∀ i, i < 400 ∨ 432 ≤ i → ln i = ln0 i) → Q (.inl none) (hM C cd T R P K a mb (ct, od, ln, rw') B Z)) : ∀ (j i : Nat) (ln : wF) (cl : Bool), i + j = 32 → (∀ q, q < i → ln (400 + q) = nI 5) → (∀ q, q < 400 ∨ 432 ≤ q → ln q = ln0 q) → xW l x d 0 0 mMO_plainLengths n0 Q cl 29 [some (.ref 74), some (.int (nI i))] [] (hM C cd T R P K a mb (ct, od, ln, rw') B Z) 0 0 := by
  intro j
  induction j with
  | zero =>
    intro i ln cl hi h1 h2
    refine b_MO_plainLengths_29 ?_
    refine ⟨fun hb => ?_, fun hb => ?_⟩ <;> (try simp (disch := omega) only [nI_lit, nI_fold, nI_mul, nI_add, pk_sub, pk_div, nI_shrN, nI_clamp, nI_leI, nI_ltI, nI_eq, not_true_eq_false, not_false_eq_true, Bool.false_eq_true, if_true, if_false, nI_nem, nI_m1, nI_m7, nI_m15, nI_m32, nI_m4, nI_m8, nI_m16, nI_m2] at hb) <;> (try omega)
    exact ⟨rfl, Nat.le_refl _, hq ln (fun q hq => h1 q (by omega)) h2⟩
  | succ j ih =>
    intro i ln cl hi h1 h2
    refine b_MO_plainLengths_29 ?_
    refine ⟨fun hb => ?_, fun hb => ?_⟩ <;> (try simp (disch := omega) only [nI_lit, nI_fold, nI_mul, nI_add, pk_sub, pk_div, nI_shrN, nI_clamp, nI_leI, nI_ltI, nI_eq, not_true_eq_false, not_false_eq_true, Bool.false_eq_true, if_true, if_false, nI_nem, nI_m1, nI_m7, nI_m15, nI_m32, nI_m4, nI_m8, nI_m16, nI_m2] at hb) <;> (try omega)
    refine ⟨_, ⟨_, rfl, rfl⟩, _, _, rfl, Nat.le_of_ble_eq_true rfl, (by (try simp (disch := omega) only [nI_lit, nI_fold, nI_mul, nI_add, pk_sub, pk_div, nI_shrN, nI_clamp]); (with_reducible refine vp_in_nI ?_ ?_) <;> omega), fun H4 e4 => ?_⟩
    try simp (disch := omega) only [nI_lit, nI_fold, nI_mul, nI_add, pk_sub, pk_div, nI_shrN, nI_clamp] at e4
    subst e4
    rw [nI_1]
    refine ih (i + 1) (upd ln (400 + i) (nI 5)) false (by omega) (fun q hq => ?_) (fun q hq => ?_)
    · unfold upd
      split
      · rfl
      · exact h1 q (by omega)
    · unfold upd
      rw [if_neg (by omega)]
      exact h2 q hq
theorem c_MO_plainLengths : xCr l x d 0 0 mMO_plainLengths [.ref 74] (hM C cd T R P K a mb (ct, od, ln, rw') B Z) (fun o H' => o = none ∧ ∃ ln', (∀ i, i < 288 → ln' i = nI (flen i)) ∧ (∀ i, i < 32 → ln' (400 + i) = nI 5) ∧ (∀ i, 432 ≤ i → ln' i = ln i) ∧ H' = hM C cd T R P K a mb (ct, od, ln', rw') B Z) := by
  refine xCt.of (by decide) rfl ck_MO_plainLengths (Nat.le_of_ble_eq_true rfl) rfl ?_
  refine b_MO_plainLengths_0 ?_
  refine MO_plain1 (ln0 := ln) (fun ln1 cl q1 q2 => ?_) 288 0 ln true (by omega) (fun q hq => absurd hq (Nat.not_lt_zero _)) (fun _ _ => rfl)
  exact MO_plain2 (ln0 := ln1) (fun ln2 q3 q4 => ⟨_, rfl, rfl, ln2, fun i hi => by rw [q4 i (by omega)]; exact q1 i hi, q3, fun i hi => by rw [q4 i (by omega)]; exact q2 i (by omega), rfl⟩) 32 0 ln1 cl (by omega) (fun q hq => absurd hq (Nat.not_lt_zero _)) (fun _ _ => rfl)
end MSym
