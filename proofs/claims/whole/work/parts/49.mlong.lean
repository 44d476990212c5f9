/-! the model's sums and tables -/
theorem sb_l : ∀ c, c < 256 → (sb_b c).toInt64 &&& 255 = lN c := by decide +kernel
section MSums
variable {l : Launch} {x : xX} {d : Nat} {n0 : Nat} {Q : xO → xH → Prop} {H : xH} {r N fm to : Nat} {t : Nat → Nat}
theorem MO_A_loop (h2 : H[r]? = some (aB N (bF t))) (ht : ∀ i, t i < 256) (hto : to ≤ N) (hN : N < 2 ^ 31) {v : Nat} (hq : Q (.inl (some (.long (lN v)))) H) : ∀ (j i a b : Nat) (cl : Bool), i + j = to → a < 65521 → b < 65521 → 65536 * (adS t j i a b).2 + (adS t j i a b).1 = v → xW l x d 0 0 mMO_sumA n0 Q cl 6 [some (.ref r), some (.int (nI fm)), some (.int (nI to)), some (.long (lN a)), none, some (.long (lN b)), none, some (.int (nI i))] [] H 0 0 := by
  intro j
  induction j with
  | zero =>
    intro i a b cl hi ha hb hv
    have : i = to := by omega
    subst this
    refine b_MO_sumA_6 ?_
    refine ⟨fun hc => ?_, fun hc => ?_⟩ <;> (try simp (disch := omega) only [nI_lit, nI_fold, nI_mul, nI_add, pk_sub, pk_div, nI_shrN, nI_clamp, nI_leI, nI_ltI, nI_eq, not_true_eq_false, not_false_eq_true, Bool.false_eq_true, if_true, if_false, nI_nem, nI_m1, nI_m7, nI_m15, nI_m32, nI_m4, nI_m8, nI_m16, nI_m2] at hc) <;> (try omega)
    refine ⟨rfl, Nat.le_refl _, ?_⟩
    rw [show (65536 : Int64) = lN 65536 from rfl, lN_mul, lN_add, show 65536 * b + a = v from hv]
    exact hq
  | succ j ih =>
    intro i a b cl hi ha hb hv
    have h8 := ht i
    refine b_MO_sumA_6 ?_
    refine ⟨fun hc => ?_, fun hc => ?_⟩ <;> (try simp (disch := omega) only [nI_lit, nI_fold, nI_mul, nI_add, pk_sub, pk_div, nI_shrN, nI_clamp, nI_leI, nI_ltI, nI_eq, not_true_eq_false, not_false_eq_true, Bool.false_eq_true, if_true, if_false, nI_nem, nI_m1, nI_m7, nI_m15, nI_m32, nI_m4, nI_m8, nI_m16, nI_m2] at hc) <;> (try omega)
    refine ⟨_, _, h2, vp_in_nI (by omega) hN, ?_⟩
    rw [nI_clamp (by omega), show bF t i &&& 255 = nI (t i) from (sb_byte _ h8).1, nI_l (by omega), lN_add, show (65521 : Int64) = lN 65521 from rfl, pk_lRem (by omega) (by decide) (by decide), lN_add, pk_lRem (by omega) (by decide) (by decide), nI_1]
    exact ih (i + 1) _ _ cl (by omega) (Nat.mod_lt _ (by decide)) (Nat.mod_lt _ (by decide)) hv
theorem c_MO_sumA (h2 : H[r]? = some (aB N (bF t))) (ht : ∀ i, t i < 256) (hf : fm ≤ to) (hto : to ≤ N) (hN : N < 2 ^ 31) : xCr l x d 0 0 mMO_sumA [.ref r, .int (nI fm), .int (nI to)] H (fun o H' => o = some (.long (lN (adl t fm to))) ∧ H' = H) := by
  refine xCt.of (by decide) rfl ck_MO_sumA (Nat.le_of_ble_eq_true rfl) rfl ?_
  refine b_MO_sumA_0 ?_
  exact MO_A_loop h2 ht hto hN ⟨_, rfl, rfl, rfl⟩ (to - fm) fm 1 0 true (by omega) (by decide) (by decide) rfl
theorem MO_B_in : ∀ (k s v : Nat) (i : Nat) (cl : Bool), s + k = 8 → v < 2 ^ 32 → (∀ cl, xW l x d 0 0 mMO_sumB n0 Q cl 18 [some (.ref r), some (.int (nI fm)), some (.int (nI to)), some (.long (lN (csn k v))), none, some (.int (nI i)), some (.int (nI 8))] [] H 0 0) → xW l x d 0 0 mMO_sumB n0 Q cl 18 [some (.ref r), some (.int (nI fm)), some (.int (nI to)), some (.long (lN v)), none, some (.int (nI i)), some (.int (nI s))] [] H 0 0 := by
  intro k
  induction k with
  | zero =>
    intro s v i cl hs hv K
    have : s = 8 := by omega
    subst this
    exact K cl
  | succ k ih =>
    intro s v i cl hs hv K
    refine b_MO_sumB_18 ?_
    refine ⟨fun hb => ?_, fun hb => ?_⟩ <;> (try simp (disch := omega) only [nI_lit, nI_fold, nI_mul, nI_add, pk_sub, pk_div, nI_shrN, nI_clamp, nI_leI, nI_ltI, nI_eq, not_true_eq_false, not_false_eq_true, Bool.false_eq_true, if_true, if_false, nI_nem, nI_m1, nI_m7, nI_m15, nI_m32, nI_m4, nI_m8, nI_m16, nI_m2] at hb) <;> (try omega)
    have e1 : lN v - lN v / 2 * 2 = lN (v % 2) := pk_lRem (b := 2) (by omega) (by decide) (by decide)
    have e2 : lN v / 2 = lN (v / 2) := pk_lDiv (b := 2) (by omega) (by decide) (by decide)
    have e3 : (lg_cmp (lN v - lN v / 2 * 2) 1 = 0) ↔ v % 2 = 1 := by
      rw [e1, lg_cmp_eq, show (1 : Int64) = lN 1 from rfl, pk_lEQ (by omega) (by decide)]
    refine ⟨fun hd => ?_, fun hd => ?_⟩ <;> rw [e3] at hd
    · rw [e2, nI_1]
      have e : v / 2 = cs v := by unfold cs; rw [if_neg hd]
      rw [e]
      exact ih (s + 1) (cs v) i cl (by omega) (cs_lt hv) K
    · rw [e2, nI_1, show (3988292384 : Int64) = lN 3988292384 from rfl, lN_xorN]
      have e : (v / 2) ^^^ 3988292384 = cs v := by unfold cs; rw [if_pos hd]
      rw [e]
      exact ih (s + 1) (cs v) i cl (by omega) (cs_lt hv) K
theorem MO_B_loop (h2 : H[r]? = some (aB N (bF t))) (ht : ∀ i, t i < 256) (hto : to ≤ N) (hN : N < 2 ^ 31) {v : Nat} (hq : Q (.inl (some (.long (lN v)))) H) : ∀ (j i c : Nat) (cl : Bool), i + j = to → c < 2 ^ 32 → crS t j i c ^^^ 4294967295 = v → xW l x d 0 0 mMO_sumB n0 Q cl 4 [some (.ref r), some (.int (nI fm)), some (.int (nI to)), some (.long (lN c)), none, some (.int (nI i)), none] [] H 0 0 := by
  intro j
  induction j with
  | zero =>
    intro i c cl hi hc hv
    have : i = to := by omega
    subst this
    refine b_MO_sumB_4 ?_
    refine ⟨fun hb => ?_, fun hb => ?_⟩ <;> (try simp (disch := omega) only [nI_lit, nI_fold, nI_mul, nI_add, pk_sub, pk_div, nI_shrN, nI_clamp, nI_leI, nI_ltI, nI_eq, not_true_eq_false, not_false_eq_true, Bool.false_eq_true, if_true, if_false, nI_nem, nI_m1, nI_m7, nI_m15, nI_m32, nI_m4, nI_m8, nI_m16, nI_m2] at hb) <;> (try omega)
    refine ⟨rfl, Nat.le_refl _, ?_⟩
    rw [show (4294967295 : Int64) = lN 4294967295 from rfl, lN_xorN, show c ^^^ 4294967295 = v from hv]
    exact hq
  | succ j ih =>
    intro i c cl hi hc hv
    have h8 := ht i
    have hx : c ^^^ t i < 2 ^ 32 := Nat.xor_lt_two_pow hc (by omega)
    refine b_MO_sumB_4 ?_
    refine ⟨fun hb => ?_, fun hb => ?_⟩ <;> (try simp (disch := omega) only [nI_lit, nI_fold, nI_mul, nI_add, pk_sub, pk_div, nI_shrN, nI_clamp, nI_leI, nI_ltI, nI_eq, not_true_eq_false, not_false_eq_true, Bool.false_eq_true, if_true, if_false, nI_nem, nI_m1, nI_m7, nI_m15, nI_m32, nI_m4, nI_m8, nI_m16, nI_m2] at hb) <;> (try omega)
    refine ⟨_, _, h2, vp_in_nI (by omega) hN, ?_⟩
    rw [nI_clamp (by omega), show (bF t i).toInt64 &&& 255 = lN (t i) from sb_l _ h8, lN_xorN]
    refine MO_B_in 8 0 _ i cl rfl hx (fun cl => ?_)
    refine b_MO_sumB_18 ?_
    refine ⟨fun hd => ?_, fun hd => ?_⟩ <;> (try simp (disch := omega) only [nI_lit, nI_fold, nI_mul, nI_add, pk_sub, pk_div, nI_shrN, nI_clamp, nI_leI, nI_ltI, nI_eq, not_true_eq_false, not_false_eq_true, Bool.false_eq_true, if_true, if_false, nI_nem, nI_m1, nI_m7, nI_m15, nI_m32, nI_m4, nI_m8, nI_m16, nI_m2] at hd) <;> (try omega)
    rw [nI_1]
    refine xW.fgt 6 ?_
    exact ih (i + 1) _ cl (by omega) (csn_lt _ _ hx) hv
theorem c_MO_sumB (h2 : H[r]? = some (aB N (bF t))) (ht : ∀ i, t i < 256) (hf : fm ≤ to) (hto : to ≤ N) (hN : N < 2 ^ 31) : xCr l x d 0 0 mMO_sumB [.ref r, .int (nI fm), .int (nI to)] H (fun o H' => o = some (.long (lN (crc t fm to))) ∧ H' = H) := by
  refine xCt.of (by decide) rfl ck_MO_sumB (Nat.le_of_ble_eq_true rfl) rfl ?_
  refine b_MO_sumB_0 ?_
  exact MO_B_loop h2 ht hto hN ⟨_, rfl, rfl, rfl⟩ (to - fm) fm _ true (by omega) (by decide) rfl
theorem c_MO_lengthBits {i : Nat} (hi : i < 29) : xCr l x d 0 0 mMO_lengthBits [.int (nI i)] H (fun o H' => o = some (.int (nI (lbts i))) ∧ H' = H) := by
  refine xCt.of (by decide) rfl ck_MO_lengthBits (Nat.le_of_ble_eq_true rfl) rfl ?_
  refine b_MO_lengthBits_0 ?_
  refine ⟨fun hb => ?_, fun hb => ?_⟩ <;> (try simp (disch := omega) only [nI_lit, nI_fold, nI_mul, nI_add, pk_sub, pk_div, nI_shrN, nI_clamp, nI_leI, nI_ltI, nI_eq, not_true_eq_false, not_false_eq_true, Bool.false_eq_true, if_true, if_false, nI_nem, nI_m1, nI_m7, nI_m15, nI_m32, nI_m4, nI_m8, nI_m16, nI_m2] at hb) <;> (try omega)
  · refine ⟨rfl, Nat.le_refl _, _, rfl, ⟨by unfold lbts; rw [if_pos (by omega)]; rfl, rfl⟩⟩
  refine ⟨fun hd => ?_, fun hd => ?_⟩ <;> (try simp (disch := omega) only [nI_lit, nI_fold, nI_mul, nI_add, pk_sub, pk_div, nI_shrN, nI_clamp, nI_leI, nI_ltI, nI_eq, not_true_eq_false, not_false_eq_true, Bool.false_eq_true, if_true, if_false, nI_nem, nI_m1, nI_m7, nI_m15, nI_m32, nI_m4, nI_m8, nI_m16, nI_m2] at hd) <;> (try omega)
  · refine ⟨rfl, Nat.le_refl _, _, rfl, ⟨by simp (disch := omega) only [nI_lit, nI_fold, nI_mul, nI_add, pk_sub, pk_div, nI_shrN, nI_clamp]; unfold lbts; rw [if_neg (by omega)], rfl⟩⟩
  · refine ⟨rfl, Nat.le_refl _, _, rfl, ⟨by unfold lbts; rw [if_pos (by omega)]; rfl, rfl⟩⟩
theorem c_MO_distanceBits {j : Nat} (hj : j < 30) : xCr l x d 0 0 mMO_distanceBits [.int (nI j)] H (fun o H' => o = some (.int (nI (dbts j))) ∧ H' = H) := by
  refine xCt.of (by decide) rfl ck_MO_distanceBits (Nat.le_of_ble_eq_true rfl) rfl ?_
  refine b_MO_distanceBits_0 ?_
  refine ⟨fun hb => ?_, fun hb => ?_⟩ <;> (try simp (disch := omega) only [nI_lit, nI_fold, nI_mul, nI_add, pk_sub, pk_div, nI_shrN, nI_clamp, nI_leI, nI_ltI, nI_eq, not_true_eq_false, not_false_eq_true, Bool.false_eq_true, if_true, if_false, nI_nem, nI_m1, nI_m7, nI_m15, nI_m32, nI_m4, nI_m8, nI_m16, nI_m2] at hb) <;> (try omega)
  · refine ⟨rfl, Nat.le_refl _, _, rfl, ⟨by simp (disch := omega) only [nI_lit, nI_fold, nI_mul, nI_add, pk_sub, pk_div, nI_shrN, nI_clamp]; unfold dbts; rw [if_neg (by omega)], rfl⟩⟩
  · refine ⟨rfl, Nat.le_refl _, _, rfl, ⟨by unfold dbts; rw [if_pos (by omega)]; rfl, rfl⟩⟩
theorem c_MO_leastLength {i : Nat} (hi : i < 29) : xCr l x d 0 0 mMO_leastLength [.int (nI i)] H (fun o H' => o = some (.int (nI (lbas i))) ∧ H' = H) := by
  have key : ∀ i, i < 29 → 8 ≤ i → ¬ i = 28 → (((4 : Int32) + (nI i - nI i / 4 * 4)) * ((1 : Int32) <<< (((nI i / 4) - 1) &&& 31))) + 3 = nI (lbas i) := by decide +kernel
  refine xCt.of (by decide) rfl ck_MO_leastLength (Nat.le_of_ble_eq_true rfl) rfl ?_
  refine b_MO_leastLength_0 ?_
  refine ⟨fun hb => ?_, fun hb => ?_⟩ <;> (try simp (disch := omega) only [nI_lit, nI_fold, nI_mul, nI_add, pk_sub, pk_div, nI_shrN, nI_clamp, nI_leI, nI_ltI, nI_eq, not_true_eq_false, not_false_eq_true, Bool.false_eq_true, if_true, if_false, nI_nem, nI_m1, nI_m7, nI_m15, nI_m32, nI_m4, nI_m8, nI_m16, nI_m2] at hb) <;> (try omega)
  · refine ⟨fun hd => ?_, fun hd => ?_⟩ <;> (try simp (disch := omega) only [nI_lit, nI_fold, nI_mul, nI_add, pk_sub, pk_div, nI_shrN, nI_clamp, nI_leI, nI_ltI, nI_eq, not_true_eq_false, not_false_eq_true, Bool.false_eq_true, if_true, if_false, nI_nem, nI_m1, nI_m7, nI_m15, nI_m32, nI_m4, nI_m8, nI_m16, nI_m2] at hd) <;> (try omega)
    · refine ⟨rfl, Nat.le_refl _, _, rfl, ⟨by rw [key i hi hb hd], rfl⟩⟩
    · refine ⟨rfl, Nat.le_refl _, _, rfl, ⟨by unfold lbas; rw [if_neg (by omega), if_pos (by omega)]; rfl, rfl⟩⟩
  · refine ⟨rfl, Nat.le_refl _, _, rfl, ⟨by simp (disch := omega) only [nI_lit, nI_fold, nI_mul, nI_add, pk_sub, pk_div, nI_shrN, nI_clamp]; unfold lbas; rw [if_pos (by omega)], rfl⟩⟩
theorem c_MO_leastDistance {j : Nat} (hj : j < 30) : xCr l x d 0 0 mMO_leastDistance [.int (nI j)] H (fun o H' => o = some (.int (nI (dbas j))) ∧ H' = H) := by
  have key : ∀ i, i < 30 → 4 ≤ i → (((2 : Int32) + (nI i - nI i / 2 * 2)) * ((1 : Int32) <<< (((nI i / 2) - 1) &&& 31))) + 1 = nI (dbas i) := by decide +kernel
  refine xCt.of (by decide) rfl ck_MO_leastDistance (Nat.le_of_ble_eq_true rfl) rfl ?_
  refine b_MO_leastDistance_0 ?_
  refine ⟨fun hb => ?_, fun hb => ?_⟩ <;> (try simp (disch := omega) only [nI_lit, nI_fold, nI_mul, nI_add, pk_sub, pk_div, nI_shrN, nI_clamp, nI_leI, nI_ltI, nI_eq, not_true_eq_false, not_false_eq_true, Bool.false_eq_true, if_true, if_false, nI_nem, nI_m1, nI_m7, nI_m15, nI_m32, nI_m4, nI_m8, nI_m16, nI_m2] at hb) <;> (try omega)
  · refine ⟨rfl, Nat.le_refl _, _, rfl, ⟨by rw [key j hj hb], rfl⟩⟩
  · refine ⟨rfl, Nat.le_refl _, _, rfl, ⟨by simp (disch := omega) only [nI_lit, nI_fold, nI_mul, nI_add, pk_sub, pk_div, nI_shrN, nI_clamp]; unfold dbas; rw [if_pos (by omega)], rfl⟩⟩
theorem c_MO_orderOf {k : Nat} (hk : k < 19) : xCr l x d 0 0 mMO_orderOf [.int (nI k)] H (fun o H' => o = some (.int (nI (ordN k))) ∧ H' = H) := by
  have k1 : ∀ k, k < 19 → 3 ≤ k → ¬ k = 3 → ¬ (nI k - nI k / 2 * 2) = 0 → (7 : Int32) - ((nI k - 5) / 2) = nI (ordN k) := by decide +kernel
  have k2 : ∀ k, k < 19 → 3 ≤ k → ¬ k = 3 → (nI k - nI k / 2 * 2) = 0 → (8 : Int32) + ((nI k - 4) / 2) = nI (ordN k) := by decide +kernel
  have k3 : ∀ k, k < 3 → (16 : Int32) + nI k = nI (ordN k) := by decide +kernel
  refine xCt.of (by decide) rfl ck_MO_orderOf (Nat.le_of_ble_eq_true rfl) rfl ?_
  refine b_MO_orderOf_0 ?_
  refine ⟨fun hb => ?_, fun hb => ?_⟩ <;> (try simp (disch := omega) only [nI_lit, nI_fold, nI_mul, nI_add, pk_sub, pk_div, nI_shrN, nI_clamp, nI_leI, nI_ltI, nI_eq, not_true_eq_false, not_false_eq_true, Bool.false_eq_true, if_true, if_false, nI_nem, nI_m1, nI_m7, nI_m15, nI_m32, nI_m4, nI_m8, nI_m16, nI_m2] at hb) <;> (try omega)
  · refine ⟨fun hd => ?_, fun hd => ?_⟩ <;> (try simp (disch := omega) only [nI_lit, nI_fold, nI_mul, nI_add, pk_sub, pk_div, nI_shrN, nI_clamp, nI_leI, nI_ltI, nI_eq, not_true_eq_false, not_false_eq_true, Bool.false_eq_true, if_true, if_false, nI_nem, nI_m1, nI_m7, nI_m15, nI_m32, nI_m4, nI_m8, nI_m16, nI_m2] at hd) <;> (try omega)
    · refine ⟨fun hf => ?_, fun hf => ?_⟩
      · refine ⟨rfl, Nat.le_refl _, _, rfl, ⟨by rw [k1 k hk hb hd hf], rfl⟩⟩
      · refine ⟨rfl, Nat.le_refl _, _, rfl, ⟨by rw [k2 k hk hb hd hf], rfl⟩⟩
    · subst hd
      refine ⟨rfl, Nat.le_refl _, _, rfl, ⟨rfl, rfl⟩⟩
  · refine ⟨rfl, Nat.le_refl _, _, rfl, ⟨by rw [k3 k (by omega)], rfl⟩⟩
end MSums
section MLong
variable {l : Launch} {x : xX} {d : Nat} {C : Nat → va_E} {cd : Int32} {T R : wRow} {F pl : Int32} {bl st : Nat} {K : wK4} {a mb : Nat} {A : wK4} {B : wMB} {Z : xH} {e : Nat}
theorem c_MO_readHead (hT : ∀ i, T.1 i < 256) (hn : T.2 ≤ 32768) (he : e = 8 * T.2) (h8 : a % 8 = 0) (ha : a ≤ e) : xCr l x 5 0 0 mMO_readHead [.ref 74] (hM C cd T R (0, pl, bl, st) K a mb A B Z) (fun o H' => o = none ∧ MA C cd T R pl bl st K mb A B Z (zlong T.1 e a) H') := by
  -- behind a fault nothing happens
  have f54 : ∀ (z : zR) (f p : Nat) (v1 v2 v3 : Int32) (R' : wRow) (a' mb' : Nat) (A' : wK4) (cl : Bool), z = .inl (f, p) → fK z → xW l x 5 0 0 mMO_readHead (List.length (hM C cd T R (0, pl, bl, st) K a mb A B Z)) (fun r H' => ∃ o, r = Sum.inl o ∧ o = none ∧ MA C cd T R pl bl st K mb A B Z z H') cl 54 [some (.ref 74), some (.int v1), some (.int v2), some (.int v3), none] [] (hM C cd T R' (nI f, nI p, bl, st) K a' mb' A' B Z) 0 0 := by
    intro z f p v1 v2 v3 R' a' mb' A' cl hz hK
    have hF := nI_ne (hK _ hz).1 (hK _ hz).2
    refine b_MO_readHead_54 ?_
    refine ⟨fun _ => ?_, fun _ => ?_⟩
    · refine b_MO_readHead_84 ?_
      refine ⟨rfl, Nat.le_refl _, _, rfl, ⟨rfl, MA.fl hz⟩⟩
    refine ⟨_, ⟨_, rfl, rfl⟩, ?_⟩
    refine xs_callV rfl lk_12_133 (d' := 2) (c_MO_number_f (n := 16) hF) (Nat.le_of_ble_eq_true rfl) rfl rfl rfl rfl rfl (Nat.le_of_ble_eq_true rfl) (by omega) (by omega) ?_
    rintro _ H1 ⟨rfl, rfl⟩
    refine b_MO_readHead_64 ⟨_, ⟨_, rfl, rfl⟩, ?_⟩
    refine ⟨fun _ => ?_, fun h => absurd h hF⟩
    refine xW.fgt 4 ?_
    refine b_MO_readHead_84 ?_
    refine ⟨rfl, Nat.le_refl _, _, rfl, ⟨rfl, MA.fl hz⟩⟩
  have f48 : ∀ (z : zR) (f p : Nat) (v1 v2 v3 : Int32) (R' : wRow) (a' mb' : Nat) (A' : wK4) (cl : Bool), z = .inl (f, p) → fK z → xW l x 5 0 0 mMO_readHead (List.length (hM C cd T R (0, pl, bl, st) K a mb A B Z)) (fun r H' => ∃ o, r = Sum.inl o ∧ o = none ∧ MA C cd T R pl bl st K mb A B Z z H') cl 48 [some (.ref 74), some (.int v1), some (.int v2), some (.int v3), none] [] (hM C cd T R' (nI f, nI p, bl, st) K a' mb' A' B Z) 0 0 := by
    intro z f p v1 v2 v3 R' a' mb' A' cl hz hK
    have hF := nI_ne (hK _ hz).1 (hK _ hz).2
    refine b_MO_readHead_48 ?_
    refine ⟨fun _ => f54 z f p _ _ _ _ _ _ _ _ hz hK, fun _ => ?_⟩
    refine xs_callV rfl lk_12_207 (d' := 4) (c_MO_skipText_f hF) (Nat.le_of_ble_eq_true rfl) rfl rfl rfl rfl rfl (Nat.le_of_ble_eq_true rfl) (by omega) (by omega) ?_
    rintro _ H1 ⟨rfl, rfl⟩
    exact f54 z f p _ _ _ _ _ _ _ _ hz hK
  have f42 : ∀ (z : zR) (f p : Nat) (v1 v2 v3 : Int32) (R' : wRow) (a' mb' : Nat) (A' : wK4) (cl : Bool), z = .inl (f, p) → fK z → xW l x 5 0 0 mMO_readHead (List.length (hM C cd T R (0, pl, bl, st) K a mb A B Z)) (fun r H' => ∃ o, r = Sum.inl o ∧ o = none ∧ MA C cd T R pl bl st K mb A B Z z H') cl 42 [some (.ref 74), some (.int v1), some (.int v2), some (.int v3), none] [] (hM C cd T R' (nI f, nI p, bl, st) K a' mb' A' B Z) 0 0 := by
    intro z f p v1 v2 v3 R' a' mb' A' cl hz hK
    have hF := nI_ne (hK _ hz).1 (hK _ hz).2
    refine b_MO_readHead_42 ?_
    refine ⟨fun _ => f48 z f p _ _ _ _ _ _ _ _ hz hK, fun _ => ?_⟩
    refine xs_callV rfl lk_12_207 (d' := 4) (c_MO_skipText_f hF) (Nat.le_of_ble_eq_true rfl) rfl rfl rfl rfl rfl (Nat.le_of_ble_eq_true rfl) (by omega) (by omega) ?_
    rintro _ H1 ⟨rfl, rfl⟩
    exact f48 z f p _ _ _ _ _ _ _ _ hz hK
  have f33 : ∀ (z : zR) (f p : Nat) (v1 v2 v3 : Int32) (R' : wRow) (a' mb' : Nat) (A' : wK4) (cl : Bool), z = .inl (f, p) → fK z → xW l x 5 0 0 mMO_readHead (List.length (hM C cd T R (0, pl, bl, st) K a mb A B Z)) (fun r H' => ∃ o, r = Sum.inl o ∧ o = none ∧ MA C cd T R pl bl st K mb A B Z z H') cl 33 [some (.ref 74), some (.int v1), some (.int v2), some (.int v3), none] [] (hM C cd T R' (nI f, nI p, bl, st) K a' mb' A' B Z) 0 0 := by
    intro z f p v1 v2 v3 R' a' mb' A' cl hz hK
    have hF := nI_ne (hK _ hz).1 (hK _ hz).2
    refine b_MO_readHead_33 ?_
    refine ⟨fun _ => f42 z f p _ _ _ _ _ _ _ _ hz hK, fun _ => ?_⟩
    refine xs_callV rfl lk_12_133 (d' := 2) (c_MO_number_f (n := 16) hF) (Nat.le_of_ble_eq_true rfl) rfl rfl rfl rfl rfl (Nat.le_of_ble_eq_true rfl) (by omega) (by omega) ?_
    rintro _ H1 ⟨rfl, rfl⟩
    refine xs_callV rfl lk_12_204 (d' := 4) (c_MO_skip_f hF) (Nat.le_of_ble_eq_true rfl) rfl rfl rfl rfl rfl (Nat.le_of_ble_eq_true rfl) (by omega) (by omega) ?_
    rintro _ H1 ⟨rfl, rfl⟩
    exact f42 z f p _ _ _ _ _ _ _ _ hz hK
  have f30 : ∀ (z : zR) (f p : Nat) (v1 v2 v3 : Int32) (R' : wRow) (a' mb' : Nat) (A' : wK4) (cl : Bool), z = .inl (f, p) → fK z → xW l x 5 0 0 mMO_readHead (List.length (hM C cd T R (0, pl, bl, st) K a mb A B Z)) (fun r H' => ∃ o, r = Sum.inl o ∧ o = none ∧ MA C cd T R pl bl st K mb A B Z z H') cl 30 [some (.ref 74), some (.int v1), some (.int v2), some (.int v3), none] [] (hM C cd T R' (nI f, nI p, bl, st) K a' mb' A' B Z) 0 0 := by
    intro z f p v1 v2 v3 R' a' mb' A' cl hz hK
    have hF := nI_ne (hK _ hz).1 (hK _ hz).2
    refine b_MO_readHead_30 ?_
    refine xs_callV rfl lk_12_204 (d' := 4) (c_MO_skip_f hF) (Nat.le_of_ble_eq_true rfl) rfl rfl rfl rfl rfl (Nat.le_of_ble_eq_true rfl) (by omega) (by omega) ?_
    rintro _ H1 ⟨rfl, rfl⟩
    exact f33 z f p _ _ _ _ _ _ _ _ hz hK
  have f14 : ∀ (z : zR) (f p : Nat) (v1 : Int32) (R' : wRow) (a' mb' : Nat) (A' : wK4) (cl : Bool), z = .inl (f, p) → fK z → xW l x 5 0 0 mMO_readHead (List.length (hM C cd T R (0, pl, bl, st) K a mb A B Z)) (fun r H' => ∃ o, r = Sum.inl o ∧ o = none ∧ MA C cd T R pl bl st K mb A B Z z H') cl 14 [some (.ref 74), some (.int v1), none, none, none] [] (hM C cd T R' (nI f, nI p, bl, st) K a' mb' A' B Z) 0 0 := by
    intro z f p v1 R' a' mb' A' cl hz hK
    have hF := nI_ne (hK _ hz).1 (hK _ hz).2
    refine b_MO_readHead_14 ⟨_, ⟨_, rfl, rfl⟩, ?_⟩
    refine xs_callV rfl lk_12_190 (d' := 3) (c_MO_wrapped_f hF) (Nat.le_of_ble_eq_true rfl) rfl rfl rfl rfl rfl (Nat.le_of_ble_eq_true rfl) (by omega) (by omega) ?_
    rintro _ H1 ⟨rfl, rfl⟩
    refine b_MO_readHead_19 ⟨_, ⟨_, rfl, rfl⟩, ?_⟩
    refine ⟨fun _ => ?_, fun h => absurd h hF⟩
    exact f30 z f p _ _ _ _ _ _ _ _ hz hK
  have f11 : ∀ (z : zR) (f p : Nat) (v1 : Int32) (R' : wRow) (a' mb' : Nat) (A' : wK4) (cl : Bool), z = .inl (f, p) → fK z → xW l x 5 0 0 mMO_readHead (List.length (hM C cd T R (0, pl, bl, st) K a mb A B Z)) (fun r H' => ∃ o, r = Sum.inl o ∧ o = none ∧ MA C cd T R pl bl st K mb A B Z z H') cl 11 [some (.ref 74), some (.int v1), none, none, none] [] (hM C cd T R' (nI f, nI p, bl, st) K a' mb' A' B Z) 0 0 := by
    intro z f p v1 R' a' mb' A' cl hz hK
    have hF := nI_ne (hK _ hz).1 (hK _ hz).2
    refine b_MO_readHead_11 ?_
    refine xs_callV rfl lk_12_201 (d' := 4) (c_MO_want_f hF) (Nat.le_of_ble_eq_true rfl) rfl rfl rfl rfl rfl (Nat.le_of_ble_eq_true rfl) (by omega) (by omega) ?_
    rintro _ H1 ⟨rfl, rfl⟩
    exact f14 z f p _ _ _ _ _ _ hz hK
  have f8 : ∀ (z : zR) (f p : Nat) (v1 : Int32) (R' : wRow) (a' mb' : Nat) (A' : wK4) (cl : Bool), z = .inl (f, p) → fK z → xW l x 5 0 0 mMO_readHead (List.length (hM C cd T R (0, pl, bl, st) K a mb A B Z)) (fun r H' => ∃ o, r = Sum.inl o ∧ o = none ∧ MA C cd T R pl bl st K mb A B Z z H') cl 8 [some (.ref 74), some (.int v1), none, none, none] [] (hM C cd T R' (nI f, nI p, bl, st) K a' mb' A' B Z) 0 0 := by
    intro z f p v1 R' a' mb' A' cl hz hK
    have hF := nI_ne (hK _ hz).1 (hK _ hz).2
    refine b_MO_readHead_8 ?_
    refine xs_callV rfl lk_12_201 (d' := 4) (c_MO_want_f hF) (Nat.le_of_ble_eq_true rfl) rfl rfl rfl rfl rfl (Nat.le_of_ble_eq_true rfl) (by omega) (by omega) ?_
    rintro _ H1 ⟨rfl, rfl⟩
    exact f11 z f p _ _ _ _ _ _ hz hK
  -- all is well
  have k54 : ∀ (m c v2 : Nat) (z : zR) (cl : Bool), m < 256 → a ≤ c → c ≤ e → zlong4 T.1 e m (a / 8) c = z → xW l x 5 0 0 mMO_readHead (List.length (hM C cd T R (0, pl, bl, st) K a mb A B Z)) (fun r H' => ∃ o, r = Sum.inl o ∧ o = none ∧ MA C cd T R pl bl st K mb A B Z z H') cl 54 [some (.ref 74), some (.int (nI (a / 8))), some (.int (nI v2)), some (.int (nI m)), none] [] (hM C cd T R (0, pl, bl, st) K c mb A B Z) 0 0 := by
    intro m c v2 z cl hm hac hce hz
    unfold zlong4 at hz
    refine b_MO_readHead_54 ?_
    refine ⟨fun hb => ?_, fun hb => ?_⟩ <;> (try simp (disch := omega) only [nI_lit, nI_fold, nI_mul, nI_add, pk_sub, pk_div, nI_shrN, nI_clamp, nI_leI, nI_ltI, nI_eq, not_true_eq_false, not_false_eq_true, Bool.false_eq_true, if_true, if_false, nI_nem, nI_m1, nI_m7, nI_m15, nI_m32, nI_m4, nI_m8, nI_m16, nI_m2] at hb) <;> (try omega)
    · rw [if_neg (by omega)] at hz
      refine b_MO_readHead_84 ?_
      refine ⟨rfl, Nat.le_refl _, _, rfl, ⟨rfl, MA.ok hz.symm⟩⟩
    rw [if_pos (by omega)] at hz
    unfold zsum at hz
    have h16 := rdn16 T.1 c
    have hcr := crc_lt hT (a / 8) (c / 8)
    refine ⟨_, ⟨_, rfl, rfl⟩, ?_⟩
    refine xs_callV rfl lk_12_133 (d' := 2) (c_MO_number (n := 16) hT hn he (by decide) hce) (Nat.le_of_ble_eq_true rfl) rfl rfl rfl rfl rfl (Nat.le_of_ble_eq_true rfl) (by omega) (by omega) ?_
    rintro _ H1 (⟨h1, rfl, rfl⟩ | ⟨h1, w, a', rfl, rfl⟩)
    · rw [if_neg (by omega)] at hz
      refine b_MO_readHead_64 ⟨_, ⟨_, rfl, rfl⟩, ?_⟩
      refine ⟨fun h => absurd rfl h, fun _ => ?_⟩
      refine ⟨_, ⟨_, rfl, rfl⟩, ?_⟩
      try simp (disch := omega) only [nI_lit, nI_fold, nI_mul, nI_add, pk_sub, pk_div, nI_shrN, nI_clamp]
      refine xs_callS rfl lk_12_105 (d' := 0) (c_MO_sumB (N := 32768) (t := T.1) rfl hT (by omega) (by omega) (by decide)) (Nat.le_of_ble_eq_true rfl) rfl rfl (Nat.le_of_ble_eq_true rfl) (by omega) (by omega) ?_
      rintro _ H1 ⟨rfl, rfl⟩
      refine b_MO_readHead_76 ?_
      rw [show (65535 : Int64) = lN (2 ^ 16 - 1) from rfl, wb_mask (by omega) (by decide), lN_i]
      refine ⟨fun hd => ?_, fun hd => ?_⟩ <;> (try simp (disch := omega) only [nI_lit, nI_fold, nI_mul, nI_add, pk_sub, pk_div, nI_shrN, nI_clamp, nI_leI, nI_ltI, nI_eq, not_true_eq_false, not_false_eq_true, Bool.false_eq_true, if_true, if_false, nI_nem, nI_m1, nI_m7, nI_m15, nI_m32, nI_m4, nI_m8, nI_m16, nI_m2] at hd) <;> (try omega)
      · rw [if_pos (by omega)] at hz
        refine xW.fgt 4 ?_
        refine b_MO_readHead_84 ?_
        refine ⟨rfl, Nat.le_refl _, _, rfl, ⟨rfl, MA.ok hz.symm⟩⟩
      · rw [if_neg (by omega)] at hz
        refine xs_callV rfl lk_12_121 (d' := 0) (c_MO_fail) (Nat.le_of_ble_eq_true rfl) rfl rfl rfl rfl rfl (Nat.le_of_ble_eq_true rfl) (by omega) (by omega) ?_
        rintro _ H1 ⟨rfl, rfl⟩
        refine xW.fgt 4 ?_
        refine b_MO_readHead_84 ?_
        refine ⟨rfl, Nat.le_refl _, _, rfl, ⟨rfl, MA.fl hz.symm⟩⟩
    · rw [if_pos (by omega)] at hz
      refine b_MO_readHead_64 ⟨_, ⟨_, rfl, rfl⟩, ?_⟩
      refine ⟨fun _ => ?_, fun h => absurd h (show ¬ (1 : Int32) = 0 by decide)⟩
      refine xW.fgt 4 ?_
      refine b_MO_readHead_84 ?_
      refine ⟨rfl, Nat.le_refl _, _, rfl, ⟨rfl, MA.fl hz.symm⟩⟩
  have k48 : ∀ (m c v2 : Nat) (z : zR) (cl : Bool), m < 256 → a ≤ c → c ≤ e → c % 8 = 0 → zlong3 T.1 e m (a / 8) c = z → fK z → xW l x 5 0 0 mMO_readHead (List.length (hM C cd T R (0, pl, bl, st) K a mb A B Z)) (fun r H' => ∃ o, r = Sum.inl o ∧ o = none ∧ MA C cd T R pl bl st K mb A B Z z H') cl 48 [some (.ref 74), some (.int (nI (a / 8))), some (.int (nI v2)), some (.int (nI m)), none] [] (hM C cd T R (0, pl, bl, st) K c mb A B Z) 0 0 := by
    intro m c v2 z cl hm hac hce hc8 hz hK
    unfold zlong3 at hz
    refine b_MO_readHead_48 ?_
    refine ⟨fun hb => ?_, fun hb => ?_⟩ <;> (try simp (disch := omega) only [nI_lit, nI_fold, nI_mul, nI_add, pk_sub, pk_div, nI_shrN, nI_clamp, nI_leI, nI_ltI, nI_eq, not_true_eq_false, not_false_eq_true, Bool.false_eq_true, if_true, if_false, nI_nem, nI_m1, nI_m7, nI_m15, nI_m32, nI_m4, nI_m8, nI_m16, nI_m2] at hb) <;> (try omega)
    · rw [if_neg (by omega), zb_r] at hz
      exact k54 m c v2 z cl hm hac hce hz
    rw [if_pos (by omega)] at hz
    refine xs_callV rfl lk_12_207 (d' := 4) (c_MO_skipText hT hn he hc8 hce) (Nat.le_of_ble_eq_true rfl) rfl rfl rfl rfl rfl (Nat.le_of_ble_eq_true rfl) (by omega) (by omega) ?_
    rintro _ H1 ⟨rfl, hA⟩
    rcases hA.cases with ⟨f, p, q1, R', a', mb', A', rfl⟩ | ⟨a', q1, rfl⟩
    · rw [q1, zb_l] at hz
      exact f54 z f p _ _ _ _ _ _ _ _ hz.symm hK
    · have q2 := zzr_le _ _ q1
      rw [q1, zb_r] at hz
      exact k54 m a' v2 z false hm (by omega) (by omega) hz
  have k42 : ∀ (m c v2 : Nat) (z : zR) (cl : Bool), m < 256 → a ≤ c → c ≤ e → c % 8 = 0 → zlong2 T.1 e m (a / 8) c = z → fK z → xW l x 5 0 0 mMO_readHead (List.length (hM C cd T R (0, pl, bl, st) K a mb A B Z)) (fun r H' => ∃ o, r = Sum.inl o ∧ o = none ∧ MA C cd T R pl bl st K mb A B Z z H') cl 42 [some (.ref 74), some (.int (nI (a / 8))), some (.int (nI v2)), some (.int (nI m)), none] [] (hM C cd T R (0, pl, bl, st) K c mb A B Z) 0 0 := by
    intro m c v2 z cl hm hac hce hc8 hz hK
    unfold zlong2 at hz
    refine b_MO_readHead_42 ?_
    refine ⟨fun hb => ?_, fun hb => ?_⟩ <;> (try simp (disch := omega) only [nI_lit, nI_fold, nI_mul, nI_add, pk_sub, pk_div, nI_shrN, nI_clamp, nI_leI, nI_ltI, nI_eq, not_true_eq_false, not_false_eq_true, Bool.false_eq_true, if_true, if_false, nI_nem, nI_m1, nI_m7, nI_m15, nI_m32, nI_m4, nI_m8, nI_m16, nI_m2] at hb) <;> (try omega)
    · rw [if_neg (by omega), zb_r] at hz
      exact k48 m c v2 z cl hm hac hce hc8 hz hK
    rw [if_pos (by omega)] at hz
    refine xs_callV rfl lk_12_207 (d' := 4) (c_MO_skipText hT hn he hc8 hce) (Nat.le_of_ble_eq_true rfl) rfl rfl rfl rfl rfl (Nat.le_of_ble_eq_true rfl) (by omega) (by omega) ?_
    rintro _ H1 ⟨rfl, hA⟩
    rcases hA.cases with ⟨f, p, q1, R', a', mb', A', rfl⟩ | ⟨a', q1, rfl⟩
    · rw [q1, zb_l] at hz
      exact f48 z f p _ _ _ _ _ _ _ _ hz.symm hK
    · have q2 := zzr_le _ _ q1
      rw [q1, zb_r] at hz
      exact k48 m a' v2 z false hm (by omega) (by omega) q2.2.2 hz hK
  have hKz : fK (zlong T.1 e a) := fK_zlong
  generalize hz : zlong T.1 e a = z at hKz
  rw [← hz]
  rw [hz]
  unfold zlong at hz
  refine xCt.of (by decide) rfl ck_MO_readHead (Nat.le_of_ble_eq_true rfl) rfl ?_
  refine b_MO_readHead_0 ⟨_, ⟨_, rfl, rfl⟩, ?_⟩
  try simp (disch := omega) only [nI_lit, nI_fold, nI_mul, nI_add, pk_sub, pk_div, nI_shrN, nI_clamp]
  refine xs_callV rfl lk_12_201 (d' := 4) (c_MO_want (v := 31) (by decide) hT hn he ha) (Nat.le_of_ble_eq_true rfl) rfl rfl rfl rfl rfl (Nat.le_of_ble_eq_true rfl) (by omega) (by omega) ?_
  rintro _ H1 ⟨rfl, hA⟩
  rcases hA.cases with ⟨f, p, q1, R', a', mb', A', rfl⟩ | ⟨a1, q1, rfl⟩
  · rw [q1, zb_l] at hz
    exact f8 z f p _ _ _ _ _ _ hz.symm hKz
  have h1 := zbyte_le q1
  rw [q1, zb_r] at hz
  refine b_MO_readHead_8 ?_
  refine xs_callV rfl lk_12_201 (d' := 4) (c_MO_want (v := 139) (by decide) hT hn he (by omega)) (Nat.le_of_ble_eq_true rfl) rfl rfl rfl rfl rfl (Nat.le_of_ble_eq_true rfl) (by omega) (by omega) ?_
  rintro _ H1 ⟨rfl, hA⟩
  rcases hA.cases with ⟨f, p, q2, R', a', mb', A', rfl⟩ | ⟨a2, q2, rfl⟩
  · rw [q2, zb_l] at hz
    exact f11 z f p _ _ _ _ _ _ hz.symm hKz
  have h2 := zbyte_le q2
  rw [q2, zb_r] at hz
  refine b_MO_readHead_11 ?_
  refine xs_callV rfl lk_12_201 (d' := 4) (c_MO_want (v := 8) (by decide) hT hn he (by omega)) (Nat.le_of_ble_eq_true rfl) rfl rfl rfl rfl rfl (Nat.le_of_ble_eq_true rfl) (by omega) (by omega) ?_
  rintro _ H1 ⟨rfl, hA⟩
  rcases hA.cases with ⟨f, p, q3, R', a', mb', A', rfl⟩ | ⟨a3, q3, rfl⟩
  · rw [q3, zb_l] at hz
    exact f14 z f p _ _ _ _ _ _ hz.symm hKz
  have h3 := zbyte_le q3
  have hm := rdn8 T.1 a3
  rw [q3, zb_r] at hz
  unfold zlong0 at hz
  refine b_MO_readHead_14 ⟨_, ⟨_, rfl, rfl⟩, ?_⟩
  refine xs_callV rfl lk_12_190 (d' := 3) (c_MO_wrapped hT hn he (by omega)) (Nat.le_of_ble_eq_true rfl) rfl rfl rfl rfl rfl (Nat.le_of_ble_eq_true rfl) (by omega) (by omega) ?_
  rintro _ H1 (⟨g1, rfl, rfl⟩ | ⟨g1, w, a', rfl, rfl⟩)
  case inr =>
    rw [if_pos (by omega)] at hz
    refine b_MO_readHead_19 ⟨_, ⟨_, rfl, rfl⟩, ?_⟩
    refine ⟨fun _ => ?_, fun h => absurd h (show ¬ (1 : Int32) = 0 by decide)⟩
    exact f30 z 1 e _ _ _ _ _ _ _ _ hz.symm hKz
  rw [if_neg (by omega)] at hz
  generalize rdn T.1 a3 8 = m at *
  refine b_MO_readHead_19 ⟨_, ⟨_, rfl, rfl⟩, ?_⟩
  refine ⟨fun h => absurd rfl h, fun _ => ?_⟩
  refine ⟨fun hb => ?_, fun hb => ?_⟩ <;> (try simp (disch := omega) only [nI_lit, nI_fold, nI_mul, nI_add, pk_sub, pk_div, nI_shrN, nI_clamp, nI_leI, nI_ltI, nI_eq, not_true_eq_false, not_false_eq_true, Bool.false_eq_true, if_true, if_false, nI_nem, nI_m1, nI_m7, nI_m15, nI_m32, nI_m4, nI_m8, nI_m16, nI_m2] at hb) <;> (try omega)
  case refine_2 =>
    rw [if_pos (by omega)] at hz
    refine xs_callV rfl lk_12_121 (d' := 0) (c_MO_fail) (Nat.le_of_ble_eq_true rfl) rfl rfl rfl rfl rfl (Nat.le_of_ble_eq_true rfl) (by omega) (by omega) ?_
    rintro _ H1 ⟨rfl, rfl⟩
    exact f30 z 12 a3 _ _ _ _ _ _ _ _ hz.symm hKz
  rw [if_neg (by omega)] at hz
  refine b_MO_readHead_30 ?_
  refine xs_callV rfl lk_12_204 (d' := 4) (c_MO_skip (n := 6) hT hn he (by decide) (by omega)) (Nat.le_of_ble_eq_true rfl) rfl rfl rfl rfl rfl (Nat.le_of_ble_eq_true rfl) (by omega) (by omega) ?_
  rintro _ H1 ⟨rfl, hA⟩
  rcases hA.cases with ⟨f, p, q4, R', a', mb', A', rfl⟩ | ⟨a4, q4, rfl⟩
  · rw [q4, zb_l] at hz
    exact f33 z f p _ _ _ _ _ _ _ _ hz.symm hKz
  have h4 := zskip_le q4
  rw [q4, zb_r] at hz
  unfold zlong1 at hz
  refine b_MO_readHead_33 ?_
  refine ⟨fun hd => ?_, fun hd => ?_⟩ <;> (try simp (disch := omega) only [nI_lit, nI_fold, nI_mul, nI_add, pk_sub, pk_div, nI_shrN, nI_clamp, nI_leI, nI_ltI, nI_eq, not_true_eq_false, not_false_eq_true, Bool.false_eq_true, if_true, if_false, nI_nem, nI_m1, nI_m7, nI_m15, nI_m32, nI_m4, nI_m8, nI_m16, nI_m2] at hd) <;> (try omega)
  · rw [if_neg (by omega), zb_r] at hz
    exact k42 m a4 _ z _ hm (by omega) (by omega) (by omega) hz hKz
  rw [if_pos (by omega)] at hz
  have h16 := rdn16 T.1 a4
  refine xs_callV rfl lk_12_133 (d' := 2) (c_MO_number (n := 16) hT hn he (by decide) (by omega)) (Nat.le_of_ble_eq_true rfl) rfl rfl rfl rfl rfl (Nat.le_of_ble_eq_true rfl) (by omega) (by omega) ?_
  rintro _ H1 (⟨g2, rfl, rfl⟩ | ⟨g2, w, a', rfl, rfl⟩)
  case inr =>
    rw [if_pos (by omega), zb_l] at hz
    refine xs_callV rfl lk_12_204 (d' := 4) (c_MO_skip_f (F := 1) (by decide)) (Nat.le_of_ble_eq_true rfl) rfl rfl rfl rfl rfl (Nat.le_of_ble_eq_true rfl) (by omega) (by omega) ?_
    rintro _ H1 ⟨rfl, rfl⟩
    exact f42 z 1 e _ _ _ _ _ _ _ _ hz.symm hKz
  rw [if_neg (by omega)] at hz
  refine xs_callV rfl lk_12_204 (d' := 4) (c_MO_skip (n := rdn T.1 a4 16) hT hn he (by omega) (by omega)) (Nat.le_of_ble_eq_true rfl) rfl rfl rfl rfl rfl (Nat.le_of_ble_eq_true rfl) (by omega) (by omega) ?_
  rintro _ H1 ⟨rfl, hA⟩
  rcases hA.cases with ⟨f, p, q5, R', a', mb', A', rfl⟩ | ⟨a5, q5, rfl⟩
  · rw [q5, zb_l] at hz
    exact f42 z f p _ _ _ _ _ _ _ _ hz.symm hKz
  have h5 := zskip_le q5
  rw [q5, zb_r] at hz
  exact k42 m a5 _ z _ hm (by omega) (by omega) (by omega) hz hKz
end MLong
