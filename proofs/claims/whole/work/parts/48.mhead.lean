/-! the model's heads -/
theorem i32_nI (v : Int32) : ∃ n, v = nI n := ⟨v.toBitVec.toNat, Int32.toBitVec_inj.mp (by show _ = BitVec.ofNat 32 _; simp)⟩
/-- a whole byte -/
theorem rdn_al {t : Nat → Nat} (ht : ∀ i, t i < 256) {a : Nat} (h8 : a % 8 = 0) : rdn t a 8 = t (a / 8) := by
  have hb : ∀ k, k < 8 → tbit t (a + k) = t (a / 8) / 2 ^ k % 2 := by
    intro k hk
    unfold tbit
    rw [show (a + k) / 8 = a / 8 by omega, show (a + k) % 8 = k by omega]
  have h := ht (a / 8)
  show 0 + tbit t (a + 0) * 2 ^ 0 + tbit t (a + 1) * 2 ^ 1 + tbit t (a + 2) * 2 ^ 2 + tbit t (a + 3) * 2 ^ 3 + tbit t (a + 4) * 2 ^ 4 + tbit t (a + 5) * 2 ^ 5 + tbit t (a + 6) * 2 ^ 6 + tbit t (a + 7) * 2 ^ 7 = t (a / 8)
  rw [hb 0 (by decide), hb 1 (by decide), hb 2 (by decide), hb 3 (by decide), hb 4 (by decide), hb 5 (by decide), hb 6 (by decide), hb 7 (by decide)]
  omega
def MF (C : Nat → va_E) (cd : Int32) (T : wRow) (bl st : Nat) (K : wK4) (B : wMB) (Z : xH) (f p : Nat) (H' : xH) : Prop := ∃ (R' : wRow) (a' mb' : Nat) (A' : wK4), H' = hM C cd T R' (nI f, nI p, bl, st) K a' mb' A' B Z
def MA (C : Nat → va_E) (cd : Int32) (T R : wRow) (pl : Int32) (bl st : Nat) (K : wK4) (mb : Nat) (A : wK4) (B : wMB) (Z : xH) (z : zR) (H' : xH) : Prop := match z with
  | .inl (f, p) => MF C cd T bl st K B Z f p H'
  | .inr a' => H' = hM C cd T R (0, pl, bl, st) K a' mb A B Z
def K4 (td : Nat → Nat) : wK4 := (fun b => nI (td (4 * b)), fun b => nI (td (4 * b + 1)), fun b => nI (td (4 * b + 2)), fun b => nI (td (4 * b + 3)))
section MHead
variable {l : Launch} {x : xX} {d : Nat} {C : Nat → va_E} {cd : Int32} {T R : wRow} {F pl : Int32} {bl st : Nat} {K : wK4} {a mb : Nat} {A : wK4} {B : wMB} {Z : xH} {e : Nat}
theorem MA.cases {z : zR} {H' : xH} (h : MA C cd T R pl bl st K mb A B Z z H') : (∃ f p, z = .inl (f, p) ∧ MF C cd T bl st K B Z f p H') ∨ (∃ a', z = .inr a' ∧ H' = hM C cd T R (0, pl, bl, st) K a' mb A B Z) := by
  match z, h with
  | .inl (f, p), h => exact Or.inl ⟨f, p, rfl, h⟩
  | .inr a', h => exact Or.inr ⟨a', rfl, h⟩
theorem MA.fl {z : zR} {f p : Nat} {R' : wRow} {a' mb' : Nat} {A' : wK4} (h : z = .inl (f, p)) : MA C cd T R pl bl st K mb A B Z z (hM C cd T R' (nI f, nI p, bl, st) K a' mb' A' B Z) := by subst h; exact ⟨_, _, _, _, rfl⟩
theorem MA.ok {z : zR} {a' : Nat} (h : z = .inr a') : MA C cd T R pl bl st K mb A B Z z (hM C cd T R (0, pl, bl, st) K a' mb A B Z) := by subst h; rfl
theorem c_MO_fail_f {f p : Int32} (hF : ¬ F = 0) : xCr l x d 0 0 mMO_fail [.ref 74, .int f, .int p] (hM C cd T R (F, pl, bl, st) K a mb A B Z) (fun o H' => o = none ∧ H' = hM C cd T R (F, pl, bl, st) K a mb A B Z) := by
  refine xCt.of (by decide) rfl ck_MO_fail (Nat.le_of_ble_eq_true rfl) rfl ?_
  refine b_MO_fail_0 ⟨_, ⟨_, rfl, rfl⟩, ?_⟩
  refine ⟨fun _ => ?_, fun h => absurd h hF⟩
  refine ⟨rfl, Nat.le_refl _, _, rfl, ⟨rfl, rfl⟩⟩
theorem c_MO_toByte_f {P : wRp} : xCr l x d 0 0 mMO_toByte [.ref 74] (hM C cd T R P K a mb A B Z) (fun o H' => o = none ∧ ∃ a', H' = hM C cd T R P K a' mb A B Z) := by
  refine xCt.of (by decide) rfl ck_MO_toByte (Nat.le_of_ble_eq_true rfl) rfl ?_
  refine b_MO_toByte_0 ⟨_, ⟨_, rfl, rfl⟩, _, rfl, Nat.le_of_ble_eq_true rfl, fun H3 e3 => ?_⟩
  obtain ⟨n, hn⟩ := i32_nI ((nI a + 7) / 8 * 8)
  rw [hn] at e3
  subst e3
  refine ⟨rfl, Nat.le_refl _, _, rfl, ⟨rfl, n, rfl⟩⟩
theorem c_MO_want_f {v : Int32} (hF : ¬ F = 0) : xCr l x 4 0 0 mMO_want [.ref 74, .int v] (hM C cd T R (F, pl, bl, st) K a mb A B Z) (fun o H' => o = none ∧ H' = hM C cd T R (F, pl, bl, st) K a mb A B Z) := by
  refine xCt.of (by decide) rfl ck_MO_want (Nat.le_of_ble_eq_true rfl) rfl ?_
  refine b_MO_want_0 ⟨_, ⟨_, rfl, rfl⟩, ?_⟩
  refine xs_callV rfl lk_12_190 (d' := 3) (c_MO_wrapped_f hF) (Nat.le_of_ble_eq_true rfl) rfl rfl rfl rfl rfl (Nat.le_of_ble_eq_true rfl) (by omega) (by omega) ?_
  rintro _ H1 ⟨rfl, rfl⟩
  refine b_MO_want_5 ⟨_, ⟨_, rfl, rfl⟩, ?_⟩
  refine ⟨fun _ => ?_, fun h => absurd h hF⟩
  refine b_MO_want_16 ?_
  refine ⟨rfl, Nat.le_refl _, _, rfl, ⟨rfl, rfl⟩⟩
theorem c_MO_want {v : Nat} (hv : v < 256) (hT : ∀ i, T.1 i < 256) (hn : T.2 ≤ 32768) (he : e = 8 * T.2) (ha : a ≤ e) : xCr l x 4 0 0 mMO_want [.ref 74, .int (nI v)] (hM C cd T R (0, pl, bl, st) K a mb A B Z) (fun o H' => o = none ∧ MA C cd T R pl bl st K mb A B Z (zbyte T.1 e v a) H') := by
  have h8 := rdn8 T.1 a
  unfold zbyte
  refine xCt.of (by decide) rfl ck_MO_want (Nat.le_of_ble_eq_true rfl) rfl ?_
  refine b_MO_want_0 ⟨_, ⟨_, rfl, rfl⟩, ?_⟩
  refine xs_callV rfl lk_12_190 (d' := 3) (c_MO_wrapped hT hn he ha) (Nat.le_of_ble_eq_true rfl) rfl rfl rfl rfl rfl (Nat.le_of_ble_eq_true rfl) (by omega) (by omega) ?_
  rintro _ H1 (⟨h1, rfl, rfl⟩ | ⟨h1, w, a', rfl, rfl⟩)
  · rw [if_neg (by omega)]
    refine b_MO_want_5 ⟨_, ⟨_, rfl, rfl⟩, ?_⟩
    refine ⟨fun h => absurd rfl h, fun _ => ?_⟩
    refine ⟨fun hb => ?_, fun hb => ?_⟩ <;> (try simp (disch := omega) only [nI_lit, nI_fold, nI_mul, nI_add, pk_sub, pk_div, nI_shrN, nI_clamp, nI_leI, nI_ltI, nI_eq, not_true_eq_false, not_false_eq_true, Bool.false_eq_true, if_true, if_false, nI_nem, nI_m1, nI_m7, nI_m15, nI_m32, nI_m4, nI_m8, nI_m16, nI_m2] at hb) <;> (try omega)
    · rw [if_pos hb]
      refine b_MO_want_16 ?_
      refine ⟨rfl, Nat.le_refl _, _, rfl, ⟨rfl, MA.ok rfl⟩⟩
    · rw [if_neg hb]
      refine xs_callV rfl lk_12_121 (d' := 0) (c_MO_fail) (Nat.le_of_ble_eq_true rfl) rfl rfl rfl rfl rfl (Nat.le_of_ble_eq_true rfl) (by omega) (by omega) ?_
      rintro _ H1 ⟨rfl, rfl⟩
      refine b_MO_want_16 ?_
      refine ⟨rfl, Nat.le_refl _, _, rfl, ⟨rfl, MA.fl rfl⟩⟩
  · rw [if_pos h1]
    refine b_MO_want_5 ⟨_, ⟨_, rfl, rfl⟩, ?_⟩
    refine ⟨fun _ => ?_, fun h => absurd h (show ¬ (1 : Int32) = 0 by decide)⟩
    refine b_MO_want_16 ?_
    refine ⟨rfl, Nat.le_refl _, _, rfl, ⟨rfl, MA.fl rfl⟩⟩
theorem c_MO_skip_f {v : Int32} (hF : ¬ F = 0) : xCr l x 4 0 0 mMO_skip [.ref 74, .int v] (hM C cd T R (F, pl, bl, st) K a mb A B Z) (fun o H' => o = none ∧ H' = hM C cd T R (F, pl, bl, st) K a mb A B Z) := by
  refine xCt.of (by decide) rfl ck_MO_skip (Nat.le_of_ble_eq_true rfl) rfl ?_
  refine b_MO_skip_0 ?_
  refine b_MO_skip_2 ?_
  refine ⟨fun _ => ?_, fun _ => ?_⟩
  · refine ⟨rfl, Nat.le_refl _, _, rfl, ⟨rfl, rfl⟩⟩
  refine ⟨_, ⟨_, rfl, rfl⟩, ?_⟩
  refine ⟨fun _ => ?_, fun h => absurd h hF⟩
  refine ⟨rfl, Nat.le_refl _, _, rfl, ⟨rfl, rfl⟩⟩
theorem MO_skip_loop {n0 : Nat} {Q : xO → xH → Prop} (hT : ∀ i, T.1 i < 256) (hn : T.2 ≤ 32768) (he : e = 8 * T.2) {n : Nat} (hn2 : n < 65536) (hq : ∀ H', MA C cd T R pl bl st K mb A B Z (zskip e n a) H' → Q (.inl none) H') : ∀ (j i : Nat) (cl : Bool), i + j = n → a + 8 * i ≤ e → xW l x 4 0 0 mMO_skip n0 Q cl 2 [some (.ref 74), some (.int (nI n)), some (.int (nI i)), none] [] (hM C cd T R (0, pl, bl, st) K (a + 8 * i) mb A B Z) 0 0 := by
  intro j
  induction j with
  | zero =>
    intro i cl hi hae
    have : i = n := by omega
    subst this
    refine b_MO_skip_2 ?_
    refine ⟨fun hb => ?_, fun hb => ?_⟩ <;> (try simp (disch := omega) only [nI_lit, nI_fold, nI_mul, nI_add, pk_sub, pk_div, nI_shrN, nI_clamp, nI_leI, nI_ltI, nI_eq, not_true_eq_false, not_false_eq_true, Bool.false_eq_true, if_true, if_false, nI_nem, nI_m1, nI_m7, nI_m15, nI_m32, nI_m4, nI_m8, nI_m16, nI_m2] at hb) <;> (try omega)
    exact ⟨rfl, Nat.le_refl _, hq _ (MA.ok (by unfold zskip; rw [if_neg (by omega)]))⟩
  | succ j ih =>
    intro i cl hi hae
    refine b_MO_skip_2 ?_
    refine ⟨fun hb => ?_, fun hb => ?_⟩ <;> (try simp (disch := omega) only [nI_lit, nI_fold, nI_mul, nI_add, pk_sub, pk_div, nI_shrN, nI_clamp, nI_leI, nI_ltI, nI_eq, not_true_eq_false, not_false_eq_true, Bool.false_eq_true, if_true, if_false, nI_nem, nI_m1, nI_m7, nI_m15, nI_m32, nI_m4, nI_m8, nI_m16, nI_m2] at hb) <;> (try omega)
    refine ⟨_, ⟨_, rfl, rfl⟩, ?_⟩
    refine ⟨fun h => absurd rfl h, fun _ => ?_⟩
    refine xs_callV rfl lk_12_190 (d' := 3) (c_MO_wrapped hT hn he hae) (Nat.le_of_ble_eq_true rfl) rfl rfl rfl rfl rfl (Nat.le_of_ble_eq_true rfl) (by omega) (by omega) ?_
    rintro _ H1 (⟨h1, rfl, rfl⟩ | ⟨h1, w, a', rfl, rfl⟩)
    · refine b_MO_skip_10 ?_
      rw [nI_1]
      refine xW.fgt 3 ?_
      rw [show a + 8 * i + 8 = a + 8 * (i + 1) by omega]
      exact ih (i + 1) false (by omega) (by omega)
    · refine b_MO_skip_10 ?_
      refine xW.fgt 3 ?_
      have hfin : ∀ H', H' = hM C cd T R (1, nI e, bl, st) K a' mb A B Z → Q (.inl none) H' := fun H' h => hq _ (by rw [h]; exact MA.fl (by unfold zskip; rw [if_pos (by omega)]))
      refine b_MO_skip_2 ?_
      refine ⟨fun _ => ⟨rfl, Nat.le_refl _, hfin _ rfl⟩, fun _ => ?_⟩
      refine ⟨_, ⟨_, rfl, rfl⟩, ?_⟩
      exact ⟨fun _ => ⟨rfl, Nat.le_refl _, hfin _ rfl⟩, fun h => absurd h (show ¬ (1 : Int32) = 0 by decide)⟩
theorem c_MO_skip (hT : ∀ i, T.1 i < 256) (hn : T.2 ≤ 32768) (he : e = 8 * T.2) {n : Nat} (hn2 : n < 65536) (ha : a ≤ e) : xCr l x 4 0 0 mMO_skip [.ref 74, .int (nI n)] (hM C cd T R (0, pl, bl, st) K a mb A B Z) (fun o H' => o = none ∧ MA C cd T R pl bl st K mb A B Z (zskip e n a) H') := by
  refine xCt.of (by decide) rfl ck_MO_skip (Nat.le_of_ble_eq_true rfl) rfl ?_
  refine b_MO_skip_0 ?_
  exact MO_skip_loop hT hn he hn2 (fun H' h => ⟨_, rfl, rfl, h⟩) n 0 true (by omega) ha
theorem c_MO_skipText_f (hF : ¬ F = 0) : xCr l x 4 0 0 mMO_skipText [.ref 74] (hM C cd T R (F, pl, bl, st) K a mb A B Z) (fun o H' => o = none ∧ H' = hM C cd T R (F, pl, bl, st) K a mb A B Z) := by
  refine xCt.of (by decide) rfl ck_MO_skipText (Nat.le_of_ble_eq_true rfl) rfl ?_
  refine b_MO_skipText_0 ?_
  refine b_MO_skipText_2 ?_
  refine ⟨fun _ => ?_, fun _ => ?_⟩
  · refine ⟨rfl, Nat.le_refl _, _, rfl, ⟨rfl, rfl⟩⟩
  refine ⟨_, ⟨_, rfl, rfl⟩, ?_⟩
  refine ⟨fun _ => ?_, fun h => absurd h hF⟩
  refine ⟨rfl, Nat.le_refl _, _, rfl, ⟨rfl, rfl⟩⟩
theorem MO_text_loop {n0 : Nat} {Q : xO → xH → Prop} (hT : ∀ i, T.1 i < 256) (hn : T.2 ≤ 32768) (he : e = 8 * T.2) (z : zR) (hq : ∀ H', MA C cd T R pl bl st K mb A B Z z H' → Q (.inl none) H') : ∀ (j i v : Nat) (cl : Bool), i + j = T.2 → 1 ≤ v → v < 256 → zzr T.1 e j i = z → xW l x 4 0 0 mMO_skipText n0 Q cl 2 [some (.ref 74), some (.int (nI v))] [] (hM C cd T R (0, pl, bl, st) K (8 * i) mb A B Z) 0 0 := by
  intro j
  induction j with
  | zero =>
    intro i v cl hi hv hv2 hz
    refine b_MO_skipText_2 ?_
    refine ⟨fun hb => ?_, fun hb => ?_⟩ <;> (try simp (disch := omega) only [nI_lit, nI_fold, nI_mul, nI_add, pk_sub, pk_div, nI_shrN, nI_clamp, nI_leI, nI_ltI, nI_eq, not_true_eq_false, not_false_eq_true, Bool.false_eq_true, if_true, if_false, nI_nem, nI_m1, nI_m7, nI_m15, nI_m32, nI_m4, nI_m8, nI_m16, nI_m2] at hb) <;> (try omega)
    refine ⟨_, ⟨_, rfl, rfl⟩, ?_⟩
    refine ⟨fun h => absurd rfl h, fun _ => ?_⟩
    refine xs_callV rfl lk_12_190 (d' := 3) (c_MO_wrapped hT hn he (by omega)) (Nat.le_of_ble_eq_true rfl) rfl rfl rfl rfl rfl (Nat.le_of_ble_eq_true rfl) (by omega) (by omega) ?_
    rintro _ H1 (⟨h1, rfl, rfl⟩ | ⟨h1, w, a', rfl, rfl⟩)
    · omega
    · refine b_MO_skipText_9 ?_
      refine b_MO_skipText_2 ?_
      refine ⟨fun _ => ⟨rfl, Nat.le_refl _, hq _ (MA.fl hz.symm)⟩, fun _ => ?_⟩
      refine ⟨_, ⟨_, rfl, rfl⟩, ?_⟩
      exact ⟨fun _ => ⟨rfl, Nat.le_refl _, hq _ (MA.fl hz.symm)⟩, fun h => absurd h (show ¬ (1 : Int32) = 0 by decide)⟩
  | succ j ih =>
    intro i v cl hi hv hv2 hz
    unfold zzr at hz
    refine b_MO_skipText_2 ?_
    refine ⟨fun hb => ?_, fun hb => ?_⟩ <;> (try simp (disch := omega) only [nI_lit, nI_fold, nI_mul, nI_add, pk_sub, pk_div, nI_shrN, nI_clamp, nI_leI, nI_ltI, nI_eq, not_true_eq_false, not_false_eq_true, Bool.false_eq_true, if_true, if_false, nI_nem, nI_m1, nI_m7, nI_m15, nI_m32, nI_m4, nI_m8, nI_m16, nI_m2] at hb) <;> (try omega)
    refine ⟨_, ⟨_, rfl, rfl⟩, ?_⟩
    refine ⟨fun h => absurd rfl h, fun _ => ?_⟩
    refine xs_callV rfl lk_12_190 (d' := 3) (c_MO_wrapped hT hn he (by omega)) (Nat.le_of_ble_eq_true rfl) rfl rfl rfl rfl rfl (Nat.le_of_ble_eq_true rfl) (by omega) (by omega) ?_
    rintro _ H1 (⟨h1, rfl, rfl⟩ | ⟨h1, w, a', rfl, rfl⟩)
    · rw [rdn_al hT (by omega), show 8 * i / 8 = i by omega]
      have ht := hT i
      rw [show 8 * i + 8 = 8 * (i + 1) by omega]
      refine b_MO_skipText_9 ?_
      by_cases h0 : T.1 i = 0
      · rw [if_pos h0] at hz
        rw [h0]
        refine b_MO_skipText_2 ?_
        refine ⟨fun _ => ⟨rfl, Nat.le_refl _, hq _ (MA.ok hz.symm)⟩, fun h => absurd rfl h⟩
      · rw [if_neg h0] at hz
        exact ih (i + 1) (T.1 i) false (by omega) (by omega) ht hz
    · omega
theorem c_MO_skipText (hT : ∀ i, T.1 i < 256) (hn : T.2 ≤ 32768) (he : e = 8 * T.2) (h8 : a % 8 = 0) (ha : a ≤ e) : xCr l x 4 0 0 mMO_skipText [.ref 74] (hM C cd T R (0, pl, bl, st) K a mb A B Z) (fun o H' => o = none ∧ MA C cd T R pl bl st K mb A B Z (zzr T.1 e (e / 8 - a / 8) (a / 8)) H') := by
  refine xCt.of (by decide) rfl ck_MO_skipText (Nat.le_of_ble_eq_true rfl) rfl ?_
  refine b_MO_skipText_0 ?_
  have h := MO_text_loop (l := l) (x := x) (C := C) (cd := cd) (R := R) (pl := pl) (bl := bl) (st := st) (K := K) (mb := mb) (A := A) (B := B) (Z := Z) (n0 := List.length (hM C cd T R (0, pl, bl, st) K a mb A B Z)) (Q := fun r H' => ∃ v, r = Sum.inl v ∧ v = none ∧ MA C cd T R pl bl st K mb A B Z (zzr T.1 e (e / 8 - a / 8) (a / 8)) H') hT hn he _ (fun H' h => ⟨_, rfl, rfl, h⟩) (e / 8 - a / 8) (a / 8) 1 true (by omega) (by decide) (by decide) rfl
  rw [show 8 * (a / 8) = a by omega] at h
  exact h
theorem c_MO_four_f (hF : ¬ F = 0) : xCr l x 4 0 0 mMO_four [.ref 74] (hM C cd T R (F, pl, bl, st) K a mb A B Z) (fun o H' => (∃ v, o = some (.long v)) ∧ H' = hM C cd T R (F, pl, bl, st) K a mb A B Z) := by
  refine xCt.of (by decide) rfl ck_MO_four (Nat.le_of_ble_eq_true rfl) rfl ?_
  refine b_MO_four_0 ?_
  have h : ∀ (j i : Nat) (v : Int64) (cl : Bool), i + j = 4 → xW l x 4 0 0 mMO_four (List.length (hM C cd T R (F, pl, bl, st) K a mb A B Z)) (fun r H' => ∃ o, r = Sum.inl o ∧ (∃ v, o = some (.long v)) ∧ H' = hM C cd T R (F, pl, bl, st) K a mb A B Z) cl 4 [some (.ref 74), some (.long v), none, some (.int (nI i))] [] (hM C cd T R (F, pl, bl, st) K a mb A B Z) 0 0 := by
    intro j
    induction j with
    | zero =>
      intro i v cl hi
      refine b_MO_four_4 ?_
      refine ⟨fun hb => ?_, fun hb => ?_⟩ <;> (try simp (disch := omega) only [nI_lit, nI_fold, nI_mul, nI_add, pk_sub, pk_div, nI_shrN, nI_clamp, nI_leI, nI_ltI, nI_eq, not_true_eq_false, not_false_eq_true, Bool.false_eq_true, if_true, if_false, nI_nem, nI_m1, nI_m7, nI_m15, nI_m32, nI_m4, nI_m8, nI_m16, nI_m2] at hb) <;> (try omega)
      refine ⟨rfl, Nat.le_refl _, _, rfl, ⟨⟨_, rfl⟩, rfl⟩⟩
    | succ j ih =>
      intro i v cl hi
      refine b_MO_four_4 ?_
      refine ⟨fun hb => ?_, fun hb => ?_⟩ <;> (try simp (disch := omega) only [nI_lit, nI_fold, nI_mul, nI_add, pk_sub, pk_div, nI_shrN, nI_clamp, nI_leI, nI_ltI, nI_eq, not_true_eq_false, not_false_eq_true, Bool.false_eq_true, if_true, if_false, nI_nem, nI_m1, nI_m7, nI_m15, nI_m32, nI_m4, nI_m8, nI_m16, nI_m2] at hb) <;> (try omega)
      refine xs_callV rfl lk_12_190 (d' := 3) (c_MO_wrapped_f hF) (Nat.le_of_ble_eq_true rfl) rfl rfl rfl rfl rfl (Nat.le_of_ble_eq_true rfl) (by omega) (by omega) ?_
      rintro _ H1 ⟨rfl, rfl⟩
      refine b_MO_four_10 ?_
      rw [nI_1]
      exact ih (i + 1) _ false (by omega)
  exact h 4 0 0 true rfl
theorem c_MO_four (hT : ∀ i, T.1 i < 256) (hn : T.2 ≤ 32768) (he : e = 8 * T.2) (h8 : a % 8 = 0) (ha : a ≤ e) : xCr l x 4 0 0 mMO_four [.ref 74] (hM C cd T R (0, pl, bl, st) K a mb A B Z) (fun o H' => (a + 32 ≤ e ∧ o = some (.long (lN (fourv T.1 (a / 8) false))) ∧ H' = hM C cd T R (0, pl, bl, st) K (a + 32) mb A B Z) ∨ (e < a + 32 ∧ (∃ v, o = some (.long v)) ∧ ∃ a', H' = hM C cd T R (1, nI e, bl, st) K a' mb A B Z)) := by
  refine xCt.of (by decide) rfl ck_MO_four (Nat.le_of_ble_eq_true rfl) rfl ?_
  refine b_MO_four_0 ?_
  have hf : ∀ (j i : Nat) (v : Int64) (a' : Nat) (cl : Bool), i + j = 4 → e < a + 32 → xW l x 4 0 0 mMO_four (List.length (hM C cd T R (0, pl, bl, st) K a mb A B Z)) (fun r H' => ∃ o, r = Sum.inl o ∧ ((a + 32 ≤ e ∧ o = some (.long (lN (fourv T.1 (a / 8) false))) ∧ H' = hM C cd T R (0, pl, bl, st) K (a + 32) mb A B Z) ∨ (e < a + 32 ∧ (∃ v, o = some (.long v)) ∧ ∃ a', H' = hM C cd T R (1, nI e, bl, st) K a' mb A B Z))) cl 4 [some (.ref 74), some (.long v), none, some (.int (nI i))] [] (hM C cd T R (1, nI e, bl, st) K a' mb A B Z) 0 0 := by
    intro j
    induction j with
    | zero =>
      intro i v a' cl hi hlt
      refine b_MO_four_4 ?_
      refine ⟨fun hb => ?_, fun hb => ?_⟩ <;> (try simp (disch := omega) only [nI_lit, nI_fold, nI_mul, nI_add, pk_sub, pk_div, nI_shrN, nI_clamp, nI_leI, nI_ltI, nI_eq, not_true_eq_false, not_false_eq_true, Bool.false_eq_true, if_true, if_false, nI_nem, nI_m1, nI_m7, nI_m15, nI_m32, nI_m4, nI_m8, nI_m16, nI_m2] at hb) <;> (try omega)
      refine ⟨rfl, Nat.le_refl _, _, rfl, Or.inr ⟨hlt, ⟨_, rfl⟩, _, rfl⟩⟩
    | succ j ih =>
      intro i v a' cl hi hlt
      refine b_MO_four_4 ?_
      refine ⟨fun hb => ?_, fun hb => ?_⟩ <;> (try simp (disch := omega) only [nI_lit, nI_fold, nI_mul, nI_add, pk_sub, pk_div, nI_shrN, nI_clamp, nI_leI, nI_ltI, nI_eq, not_true_eq_false, not_false_eq_true, Bool.false_eq_true, if_true, if_false, nI_nem, nI_m1, nI_m7, nI_m15, nI_m32, nI_m4, nI_m8, nI_m16, nI_m2] at hb) <;> (try omega)
      refine xs_callV rfl lk_12_190 (d' := 3) (c_MO_wrapped_f (F := 1) (by decide)) (Nat.le_of_ble_eq_true rfl) rfl rfl rfl rfl rfl (Nat.le_of_ble_eq_true rfl) (by omega) (by omega) ?_
      rintro _ H1 ⟨rfl, rfl⟩
      refine b_MO_four_10 ?_
      rw [nI_1]
      exact ih (i + 1) _ _ false (by omega) hlt
  have h : ∀ (j i : Nat) (cl : Bool), i + j = 4 → a + 8 * i ≤ e → xW l x 4 0 0 mMO_four (List.length (hM C cd T R (0, pl, bl, st) K a mb A B Z)) (fun r H' => ∃ o, r = Sum.inl o ∧ ((a + 32 ≤ e ∧ o = some (.long (lN (fourv T.1 (a / 8) false))) ∧ H' = hM C cd T R (0, pl, bl, st) K (a + 32) mb A B Z) ∨ (e < a + 32 ∧ (∃ v, o = some (.long v)) ∧ ∃ a', H' = hM C cd T R (1, nI e, bl, st) K a' mb A B Z))) cl 4 [some (.ref 74), some (.long (lN (orv T.1 (a / 8) false i))), none, some (.int (nI i))] [] (hM C cd T R (0, pl, bl, st) K (a + 8 * i) mb A B Z) 0 0 := by
    intro j
    induction j with
    | zero =>
      intro i cl hi hae
      have : i = 4 := by omega
      subst this
      refine b_MO_four_4 ?_
      refine ⟨fun hb => ?_, fun hb => ?_⟩ <;> (try simp (disch := omega) only [nI_lit, nI_fold, nI_mul, nI_add, pk_sub, pk_div, nI_shrN, nI_clamp, nI_leI, nI_ltI, nI_eq, not_true_eq_false, not_false_eq_true, Bool.false_eq_true, if_true, if_false, nI_nem, nI_m1, nI_m7, nI_m15, nI_m32, nI_m4, nI_m8, nI_m16, nI_m2] at hb) <;> (try omega)
      refine ⟨rfl, Nat.le_refl _, _, rfl, Or.inl ⟨hae, by rw [orv_four hT], rfl⟩⟩
    | succ j ih =>
      intro i cl hi hae
      have ho := orv_lt hT (a / 8) false i (by omega)
      refine b_MO_four_4 ?_
      refine ⟨fun hb => ?_, fun hb => ?_⟩ <;> (try simp (disch := omega) only [nI_lit, nI_fold, nI_mul, nI_add, pk_sub, pk_div, nI_shrN, nI_clamp, nI_leI, nI_ltI, nI_eq, not_true_eq_false, not_false_eq_true, Bool.false_eq_true, if_true, if_false, nI_nem, nI_m1, nI_m7, nI_m15, nI_m32, nI_m4, nI_m8, nI_m16, nI_m2] at hb) <;> (try omega)
      refine xs_callV rfl lk_12_190 (d' := 3) (c_MO_wrapped hT hn he hae) (Nat.le_of_ble_eq_true rfl) rfl rfl rfl rfl rfl (Nat.le_of_ble_eq_true rfl) (by omega) (by omega) ?_
      rintro _ H1 (⟨h1, rfl, rfl⟩ | ⟨h1, w, a', rfl, rfl⟩)
      · have hb := hT (a / 8 + i)
        have hp : T.1 (a / 8 + i) * 2 ^ (8 * i) < 2 ^ 64 := by
          have h1 : 2 ^ (8 * i) ≤ 2 ^ 24 := Nat.pow_le_pow_right (by decide) (by omega)
          exact Nat.lt_of_lt_of_le (Nat.mul_lt_mul_of_lt_of_le hb h1 (by decide)) (by decide)
        refine b_MO_four_10 ?_
        rw [rdn_al hT (by omega), show (a + 8 * i) / 8 = a / 8 + i by omega, nI_l (by omega), show (8 : Int32) * nI i = nI (8 * i) from nI_mul 8 i, wb_shl _ (by omega), wb_or (by omega) hp, nI_1, show a + 8 * i + 8 = a + 8 * (i + 1) by omega]
        exact ih (i + 1) false (by omega) (by omega)
      · refine b_MO_four_10 ?_
        rw [nI_1]
        exact hf j (i + 1) _ a' false (by omega) (by omega)
  exact h 4 0 true rfl ha
theorem K4_note {td : Nat → Nat} {k f b y : Nat} (h : bl < 64) : (upd (K4 td).1 bl (nI k), upd (K4 td).2.1 bl (nI f), upd (K4 td).2.2.1 bl (nI b), upd (K4 td).2.2.2 bl (nI y)) = K4 (noteT td bl k f b y) := by
  unfold noteT
  rw [if_pos h]
  unfold K4
  refine Prod.ext ?_ (Prod.ext ?_ (Prod.ext ?_ ?_)) <;> funext j <;> dsimp only [upd, nup] <;> by_cases hj : j = bl
  · subst hj; rw [if_pos rfl, if_neg (by omega), if_neg (by omega), if_neg (by omega), if_pos rfl]
  · rw [if_neg hj, if_neg (by omega), if_neg (by omega), if_neg (by omega), if_neg (by omega)]
  · subst hj; rw [if_pos rfl, if_neg (by omega), if_neg (by omega), if_pos rfl]
  · rw [if_neg hj, if_neg (by omega), if_neg (by omega), if_neg (by omega), if_neg (by omega)]
  · subst hj; rw [if_pos rfl, if_neg (by omega), if_pos rfl]
  · rw [if_neg hj, if_neg (by omega), if_neg (by omega), if_neg (by omega), if_neg (by omega)]
  · subst hj; rw [if_pos rfl, if_pos rfl]
  · rw [if_neg hj, if_neg (by omega), if_neg (by omega), if_neg (by omega), if_neg (by omega)]
theorem c_MO_note {td : Nat → Nat} {P1 P2 : Int32} {k f b y : Nat} (hbl : bl < 2 ^ 20) : xCr l x d 0 0 mMO_note [.ref 74, .int (nI k), .int (nI f), .int (nI b), .int (nI y)] (hM C cd T R (P1, P2, bl, st) (K4 td) a mb A B Z) (fun o H' => o = none ∧ H' = hM C cd T R (P1, P2, bl + 1, st) (K4 (noteT td bl k f b y)) a mb A B Z) := by
  refine xCt.of (by decide) rfl ck_MO_note (Nat.le_of_ble_eq_true rfl) rfl ?_
  refine b_MO_note_0 ⟨_, ⟨_, rfl, rfl⟩, ?_⟩
  refine ⟨fun hb => ?_, fun hb => ?_⟩ <;> (try simp (disch := omega) only [nI_lit, nI_fold, nI_mul, nI_add, pk_sub, pk_div, nI_shrN, nI_clamp, nI_leI, nI_ltI, nI_eq, not_true_eq_false, not_false_eq_true, Bool.false_eq_true, if_true, if_false, nI_nem, nI_m1, nI_m7, nI_m15, nI_m32, nI_m4, nI_m8, nI_m16, nI_m2] at hb) <;> (try omega)
  · refine ⟨_, ⟨_, rfl, rfl⟩, _, rfl, Nat.le_of_ble_eq_true rfl, fun H4 e4 => ?_⟩
    try simp (disch := omega) only [nI_lit, nI_fold, nI_mul, nI_add, pk_sub, pk_div, nI_shrN, nI_clamp] at e4
    subst e4
    refine ⟨rfl, Nat.le_refl _, _, rfl, ⟨rfl, by unfold noteT; rw [if_neg (by omega)]; rfl⟩⟩
  · refine ⟨_, ⟨_, rfl, rfl⟩, _, ⟨_, rfl, rfl⟩, _, _, rfl, Nat.le_of_ble_eq_true rfl, (by (try simp (disch := omega) only [nI_lit, nI_fold, nI_mul, nI_add, pk_sub, pk_div, nI_shrN, nI_clamp]); (with_reducible refine vp_in_nI ?_ ?_) <;> omega), fun H9 e9 => ?_⟩
    try simp (disch := omega) only [nI_lit, nI_fold, nI_mul, nI_add, pk_sub, pk_div, nI_shrN, nI_clamp] at e9
    subst e9
    refine ⟨_, ⟨_, rfl, rfl⟩, _, ⟨_, rfl, rfl⟩, _, _, rfl, Nat.le_of_ble_eq_true rfl, (by (try simp (disch := omega) only [nI_lit, nI_fold, nI_mul, nI_add, pk_sub, pk_div, nI_shrN, nI_clamp]); (with_reducible refine vp_in_nI ?_ ?_) <;> omega), fun H14 e14 => ?_⟩
    try simp (disch := omega) only [nI_lit, nI_fold, nI_mul, nI_add, pk_sub, pk_div, nI_shrN, nI_clamp] at e14
    subst e14
    refine ⟨_, ⟨_, rfl, rfl⟩, _, ⟨_, rfl, rfl⟩, _, _, rfl, Nat.le_of_ble_eq_true rfl, (by (try simp (disch := omega) only [nI_lit, nI_fold, nI_mul, nI_add, pk_sub, pk_div, nI_shrN, nI_clamp]); (with_reducible refine vp_in_nI ?_ ?_) <;> omega), fun H19 e19 => ?_⟩
    try simp (disch := omega) only [nI_lit, nI_fold, nI_mul, nI_add, pk_sub, pk_div, nI_shrN, nI_clamp] at e19
    subst e19
    refine ⟨_, ⟨_, rfl, rfl⟩, _, ⟨_, rfl, rfl⟩, _, _, rfl, Nat.le_of_ble_eq_true rfl, (by (try simp (disch := omega) only [nI_lit, nI_fold, nI_mul, nI_add, pk_sub, pk_div, nI_shrN, nI_clamp]); (with_reducible refine vp_in_nI ?_ ?_) <;> omega), fun H24 e24 => ?_⟩
    try simp (disch := omega) only [nI_lit, nI_fold, nI_mul, nI_add, pk_sub, pk_div, nI_shrN, nI_clamp] at e24
    subst e24
    refine ⟨_, ⟨_, rfl, rfl⟩, _, rfl, Nat.le_of_ble_eq_true rfl, fun H27 e27 => ?_⟩
    try simp (disch := omega) only [nI_lit, nI_fold, nI_mul, nI_add, pk_sub, pk_div, nI_shrN, nI_clamp] at e27
    subst e27
    refine ⟨rfl, Nat.le_refl _, _, rfl, rfl, ?_⟩
    rw [← K4_note (by omega)]
    rfl
theorem c_MO_put {P : wRp} {v : Int32} (hR : R.2 < 65536) : xCr l x d 0 0 mMO_put [.ref 74, .int v] (hM C cd T R P K a mb A B Z) (fun o H' => o = none ∧ H' = hM C cd T (nup R.1 R.2 (uN8 v), R.2 + 1) P K a mb A B Z) := by
  refine xCt.of (by decide) rfl ck_MO_put (Nat.le_of_ble_eq_true rfl) rfl ?_
  refine b_MO_put_0 ⟨_, ⟨_, rfl, rfl⟩, _, ⟨_, rfl, rfl⟩, _, _, rfl, vp_in_nI (by omega) (by decide), fun H5 e5 => ?_⟩
  rw [nI_clamp (by omega), pk_vb, ← vp_nar_byte, upd_b] at e5
  subst e5
  refine ⟨_, ⟨_, rfl, rfl⟩, _, rfl, Nat.le_of_ble_eq_true rfl, fun H8 e8 => ?_⟩
  rw [nI_1] at e8
  subst e8
  refine ⟨rfl, Nat.le_refl _, _, rfl, ⟨rfl, rfl⟩⟩
theorem c_MO_wantEnd_f (hF : ¬ F = 0) : xCr l x 1 0 0 mMO_wantEnd [.ref 74] (hM C cd T R (F, pl, bl, st) K a mb A B Z) (fun o H' => o = none ∧ H' = hM C cd T R (F, pl, bl, st) K a mb A B Z) := by
  refine xCt.of (by decide) rfl ck_MO_wantEnd (Nat.le_of_ble_eq_true rfl) rfl ?_
  refine b_MO_wantEnd_0 ⟨_, ⟨_, rfl, rfl⟩, ?_⟩
  refine ⟨fun _ => ?_, fun h => absurd h hF⟩
  refine b_MO_wantEnd_15 ?_
  refine ⟨rfl, Nat.le_refl _, _, rfl, ⟨rfl, rfl⟩⟩
theorem c_MO_wantEnd (hn : T.2 ≤ 32768) (he : e = 8 * T.2) (ha : a ≤ e) : xCr l x 1 0 0 mMO_wantEnd [.ref 74] (hM C cd T R (0, pl, bl, st) K a mb A B Z) (fun o H' => o = none ∧ MA C cd T R pl bl st K mb A B Z (if a < e then .inl (11, a) else .inr a) H') := by
  refine xCt.of (by decide) rfl ck_MO_wantEnd (Nat.le_of_ble_eq_true rfl) rfl ?_
  refine b_MO_wantEnd_0 ⟨_, ⟨_, rfl, rfl⟩, ?_⟩
  refine ⟨fun h => absurd rfl h, fun _ => ?_⟩
  refine ⟨_, ⟨_, rfl, rfl⟩, _, ⟨_, rfl, rfl⟩, ?_⟩
  refine ⟨fun hb => ?_, fun hb => ?_⟩ <;> (try simp (disch := omega) only [nI_lit, nI_fold, nI_mul, nI_add, pk_sub, pk_div, nI_shrN, nI_clamp, nI_leI, nI_ltI, nI_eq, not_true_eq_false, not_false_eq_true, Bool.false_eq_true, if_true, if_false, nI_nem, nI_m1, nI_m7, nI_m15, nI_m32, nI_m4, nI_m8, nI_m16, nI_m2] at hb) <;> (try omega)
  · refine b_MO_wantEnd_15 ?_
    refine ⟨rfl, Nat.le_refl _, _, rfl, ⟨rfl, MA.ok (if_neg (by omega))⟩⟩
  · refine ⟨_, ⟨_, rfl, rfl⟩, ?_⟩
    refine xs_callV rfl lk_12_121 (d' := 0) (c_MO_fail) (Nat.le_of_ble_eq_true rfl) rfl rfl rfl rfl rfl (Nat.le_of_ble_eq_true rfl) (by omega) (by omega) ?_
    rintro _ H1 ⟨rfl, rfl⟩
    refine b_MO_wantEnd_15 ?_
    refine ⟨rfl, Nat.le_refl _, _, rfl, ⟨rfl, MA.fl (if_pos (by omega))⟩⟩
end MHead
