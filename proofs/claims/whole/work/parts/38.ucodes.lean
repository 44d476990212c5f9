/-! codes as they are told -/
def krs (g : Nat → Nat) (n : Nat) : Nat → Nat
  | 0 => 0
  | l + 1 => krs g n l + cnt g n (l + 1) * 2 ^ (15 - (l + 1))
def full (g : Nat → Nat) (n : Nat) : Prop := krs g n 15 = 32768
def serves (g : Nat → Nat) (n : Nat) : Prop := n - cnt g n 0 = 0 ∨ (n - cnt g n 0 = 1 ∧ cnt g n 1 = 1) ∨ full g n
theorem krs_le (g : Nat → Nat) {n : Nat} (hn : n ≤ 288) : ∀ l, krs g n l ≤ l * 4718592 := by
  intro l
  induction l with
  | zero => exact Nat.le_refl _
  | succ l ih =>
    have h1 := cnt_le g n (l + 1)
    have h2 : 2 ^ (15 - (l + 1)) ≤ 2 ^ 14 := Nat.pow_le_pow_right (by decide) (by omega)
    have h3 : cnt g n (l + 1) * 2 ^ (15 - (l + 1)) ≤ 288 * 2 ^ 14 := Nat.mul_le_mul (by omega) h2
    unfold krs
    omega
section UCode1
variable {l : Launch} {x : xX} {d : Nat} {H : xH} {r b1 b2 b3 : Nat} {cd : Int32} {fc : wF} {g : Nat → Nat} {n : Nat}
theorem RC_full_loop {n0 : Nat} {Q : xO → xH → Prop} (hn : n ≤ 288) (h0 : H[r]? = some (cRC b1 b2 b3 cd)) (h1 : H[b1]? = some (aI 16 fc)) (hN : isN fc 16 (fun l => if l = 0 then 0 else cnt g n l)) (hq : ∀ v, (v = 1 ∧ full g n ∨ v = 0 ∧ ¬ full g n) → Q (.inl (some (.int (nI v)))) H) : ∀ (j i : Nat) (cl : Bool), i + j = 15 → xW l x d 0 0 mRC_isFull n0 Q cl 4 [some (.ref r), some (.int (nI (krs g n i))), some (.int (nI (i + 1)))] [] H 0 0 := by
  intro j
  induction j with
  | zero =>
    intro i cl hi
    have : i = 15 := by omega
    subst this
    have hk := krs_le g hn 15
    refine b_RC_isFull_4 ?_
    refine ⟨fun hb => ?_, fun hb => ?_⟩ <;> (try simp (disch := omega) only [nI_lit, nI_fold, nI_mul, nI_add, pk_sub, pk_div, nI_shrN, nI_clamp, nI_leI, nI_ltI, nI_eq, not_true_eq_false, not_false_eq_true, Bool.false_eq_true, if_true, if_false, nI_nem, nI_m1, nI_m7, nI_m15, nI_m32, nI_m4, nI_m8, nI_m16, nI_m2] at hb) <;> (try omega)
    refine ⟨fun hd => ?_, fun hd => ?_⟩ <;> (try simp (disch := omega) only [nI_lit, nI_fold, nI_mul, nI_add, pk_sub, pk_div, nI_shrN, nI_clamp, nI_leI, nI_ltI, nI_eq, not_true_eq_false, not_false_eq_true, Bool.false_eq_true, if_true, if_false, nI_nem, nI_m1, nI_m7, nI_m15, nI_m32, nI_m4, nI_m8, nI_m16, nI_m2] at hd) <;> (try omega)
    · exact ⟨rfl, rfl, Nat.le_refl _, hq 0 (Or.inr ⟨rfl, hd⟩)⟩
    · exact ⟨rfl, rfl, Nat.le_refl _, hq 1 (Or.inl ⟨rfl, hd⟩)⟩
  | succ j ih =>
    intro i cl hi
    have hk := krs_le g hn i
    have hcl := cnt_le g n (i + 1)
    have e1 : fc (nI (i + 1)).toNatClampNeg = nI (cnt g n (i + 1)) := by
      rw [nI_clamp (by omega), hN (i + 1) (by omega)]
      rfl
    have h2 : 2 ^ (15 - (i + 1)) ≤ 2 ^ 14 := Nat.pow_le_pow_right (by decide) (by omega)
    have h3 : cnt g n (i + 1) * 2 ^ (15 - (i + 1)) ≤ 288 * 2 ^ 14 := Nat.mul_le_mul (by omega) h2
    refine b_RC_isFull_4 ?_
    refine ⟨fun hb => ?_, fun hb => ?_⟩ <;> (try simp (disch := omega) only [nI_lit, nI_fold, nI_mul, nI_add, pk_sub, pk_div, nI_shrN, nI_clamp, nI_leI, nI_ltI, nI_eq, not_true_eq_false, not_false_eq_true, Bool.false_eq_true, if_true, if_false, nI_nem, nI_m1, nI_m7, nI_m15, nI_m32, nI_m4, nI_m8, nI_m16, nI_m2] at hb) <;> (try omega)
    refine ⟨_, ⟨_, h0, rfl⟩, _, _, h1, vp_in_nI (by omega) (by decide), ?_⟩
    rw [e1, show (15 : Int32) - nI (i + 1) = nI (15 - (i + 1)) from pk_sub (a := 15) (by omega), nI_shl (by omega) (by omega), nI_add, nI_1]
    exact ih (i + 1) cl (by omega)
theorem c_RC_isFull (hn : n ≤ 288) (h0 : H[r]? = some (cRC b1 b2 b3 cd)) (h1 : H[b1]? = some (aI 16 fc)) (hN : isN fc 16 (fun l => if l = 0 then 0 else cnt g n l)) : xCr l x d 0 0 mRC_isFull [.ref r] H (fun o H' => ∃ v, (v = 1 ∧ full g n ∨ v = 0 ∧ ¬ full g n) ∧ o = some (.int (nI v)) ∧ H' = H) := by
  refine xCt.of (by decide) rfl ck_RC_isFull (Nat.le_of_ble_eq_true rfl) rfl ?_
  refine b_RC_isFull_0 ?_
  exact RC_full_loop hn h0 h1 hN (fun v hv => ⟨_, rfl, v, hv, rfl, rfl⟩) 15 0 true rfl
theorem c_RC_servesDistances (hn : n ≤ 288) (hcd : cd = nI (n - cnt g n 0)) (h0 : H[r]? = some (cRC b1 b2 b3 cd)) (h1 : H[b1]? = some (aI 16 fc)) (hN : isN fc 16 (fun l => if l = 0 then 0 else cnt g n l)) : xCr l x 1 0 0 mRC_servesDistances [.ref r] H (fun o H' => ∃ v, (v = 1 ∧ serves g n ∨ v = 0 ∧ ¬ serves g n) ∧ o = some (.int (nI v)) ∧ H' = H) := by
  have hcl := cnt_le g n 1
  have hc0 := cnt_le g n 0
  have e1 : fc (1 : Int32).toNatClampNeg = nI (cnt g n 1) := hN 1 (by decide)
  have k14 : ∀ (cl : Bool), ¬ (n - cnt g n 0 = 0) → ¬ (n - cnt g n 0 = 1 ∧ cnt g n 1 = 1) → xW l x 1 0 0 mRC_servesDistances H.length (fun r H' => ∃ v, r = Sum.inl v ∧ ∃ w, (w = 1 ∧ serves g n ∨ w = 0 ∧ ¬ serves g n) ∧ v = some (.int (nI w)) ∧ H' = H) cl 14 [some (.ref r)] [.ref r] H 0 0 := by
    intro cl hx hy
    refine xs_callV rfl lk_5_32 (d' := 0) (c_RC_isFull hn h0 h1 hN) (Nat.le_of_ble_eq_true rfl) h0 rfl rfl rfl rfl (Nat.le_of_ble_eq_true rfl) (by omega) (by omega) ?_
    rintro _ H1 ⟨v, hv, rfl, rfl⟩
    rcases hv with ⟨rfl, hv⟩ | ⟨rfl, hv⟩
    · refine b_RC_servesDistances_15 ?_
      refine ⟨fun hb => ?_, fun hb => ?_⟩ <;> (try simp (disch := omega) only [nI_lit, nI_fold, nI_mul, nI_add, pk_sub, pk_div, nI_shrN, nI_clamp, nI_leI, nI_ltI, nI_eq, not_true_eq_false, not_false_eq_true, Bool.false_eq_true, if_true, if_false, nI_nem, nI_m1, nI_m7, nI_m15, nI_m32, nI_m4, nI_m8, nI_m16, nI_m2] at hb) <;> (try omega)
      refine ⟨rfl, rfl, Nat.le_refl _, _, rfl, ⟨1, Or.inl ⟨rfl, Or.inr (Or.inr hv)⟩, rfl, rfl⟩⟩
    · refine b_RC_servesDistances_15 ?_
      refine ⟨fun hb => ?_, fun hb => ?_⟩ <;> (try simp (disch := omega) only [nI_lit, nI_fold, nI_mul, nI_add, pk_sub, pk_div, nI_shrN, nI_clamp, nI_leI, nI_ltI, nI_eq, not_true_eq_false, not_false_eq_true, Bool.false_eq_true, if_true, if_false, nI_nem, nI_m1, nI_m7, nI_m15, nI_m32, nI_m4, nI_m8, nI_m16, nI_m2] at hb) <;> (try omega)
      refine ⟨rfl, rfl, Nat.le_refl _, _, rfl, ⟨0, Or.inr ⟨rfl, fun h => by rcases h with h | h | h; exact hx h; exact hy h; exact hv h⟩, rfl, rfl⟩⟩
  refine xCt.of (by decide) rfl ck_RC_servesDistances (Nat.le_of_ble_eq_true rfl) rfl ?_
  refine b_RC_servesDistances_0 ⟨_, ⟨_, h0, rfl⟩, ?_⟩
  rw [hcd]
  refine ⟨fun hb => ?_, fun hb => ?_⟩ <;> (try simp (disch := omega) only [nI_lit, nI_fold, nI_mul, nI_add, pk_sub, pk_div, nI_shrN, nI_clamp, nI_leI, nI_ltI, nI_eq, not_true_eq_false, not_false_eq_true, Bool.false_eq_true, if_true, if_false, nI_nem, nI_m1, nI_m7, nI_m15, nI_m32, nI_m4, nI_m8, nI_m16, nI_m2] at hb) <;> (try omega)
  · refine ⟨rfl, rfl, Nat.le_refl _, _, rfl, ⟨1, Or.inl ⟨rfl, Or.inl hb⟩, rfl, rfl⟩⟩
  refine ⟨_, ⟨_, h0, rfl⟩, ?_⟩
  rw [hcd]
  refine ⟨fun hd => ?_, fun hd => ?_⟩ <;> (try simp (disch := omega) only [nI_lit, nI_fold, nI_mul, nI_add, pk_sub, pk_div, nI_shrN, nI_clamp, nI_leI, nI_ltI, nI_eq, not_true_eq_false, not_false_eq_true, Bool.false_eq_true, if_true, if_false, nI_nem, nI_m1, nI_m7, nI_m15, nI_m32, nI_m4, nI_m8, nI_m16, nI_m2] at hd) <;> (try omega)
  · exact k14 true hb (fun h => hd h.1)
  refine ⟨_, ⟨_, h0, rfl⟩, _, _, h1, vp_in_nI (n := 1) (by decide) (by decide), ?_⟩
  rw [e1]
  refine ⟨fun hf => ?_, fun hf => ?_⟩ <;> (try simp (disch := omega) only [nI_lit, nI_fold, nI_mul, nI_add, pk_sub, pk_div, nI_shrN, nI_clamp, nI_leI, nI_ltI, nI_eq, not_true_eq_false, not_false_eq_true, Bool.false_eq_true, if_true, if_false, nI_nem, nI_m1, nI_m7, nI_m15, nI_m32, nI_m4, nI_m8, nI_m16, nI_m2] at hf) <;> (try omega)
  · refine ⟨rfl, rfl, Nat.le_refl _, _, rfl, ⟨1, Or.inl ⟨rfl, Or.inr (Or.inl ⟨hd, hf⟩)⟩, rfl, rfl⟩⟩
  · exact k14 true hb (fun h => hf h.2)
theorem c_AR_rangeCheck {N a b : Nat} (h1 : a ≤ b) (h2 : b ≤ N) (hN : N < 2 ^ 31) : xCr l x d 0 0 mAR_rangeCheck [.int (nI N), .int (nI a), .int (nI b)] H (fun o H' => o = none ∧ H' = H) := by
  refine xCt.of (by decide) rfl ck_AR_rangeCheck (Nat.le_of_ble_eq_true rfl) rfl ?_
  refine b_AR_rangeCheck_0 ?_
  refine ⟨fun hb => ?_, fun hb => ?_⟩ <;> (try simp (disch := omega) only [nI_lit, nI_fold, nI_mul, nI_add, pk_sub, pk_div, nI_shrN, nI_clamp, nI_leI, nI_ltI, nI_eq, not_true_eq_false, not_false_eq_true, Bool.false_eq_true, if_true, if_false, nI_nem, nI_m1, nI_m7, nI_m15, nI_m32, nI_m4, nI_m8, nI_m16, nI_m2] at hb) <;> (try omega)
  refine ⟨fun hb => ?_, fun hb => ?_⟩ <;> (try simp (disch := omega) only [nI_lit, nI_fold, nI_mul, nI_add, pk_sub, pk_div, nI_shrN, nI_clamp, nI_leI, nI_ltI, nI_eq, not_true_eq_false, not_false_eq_true, Bool.false_eq_true, if_true, if_false, nI_nem, nI_m1, nI_m7, nI_m15, nI_m32, nI_m4, nI_m8, nI_m16, nI_m2] at hb) <;> (try omega)
  refine ⟨fun hb => ?_, fun hb => ?_⟩ <;> (try simp (disch := omega) only [nI_lit, nI_fold, nI_mul, nI_add, pk_sub, pk_div, nI_shrN, nI_clamp, nI_leI, nI_ltI, nI_eq, not_true_eq_false, not_false_eq_true, Bool.false_eq_true, if_true, if_false, nI_nem, nI_m1, nI_m7, nI_m15, nI_m32, nI_m4, nI_m8, nI_m16, nI_m2] at hb) <;> (try omega)
  refine ⟨rfl, Nat.le_refl _, _, rfl, ⟨rfl, rfl⟩⟩
theorem AR_fill2_loop {n0 N b : Nat} {v : Int32} {Q : xO → xH → Prop} {a : Nat} (hN : N < 2 ^ 31) (hbN : b ≤ N) (h2 : 2 ≤ r) : ∀ (k i : Nat), i + k = b → ∀ (H : xH) (f : Nat → Int32) (cl : Bool), H[r]? = some (aI N f) → Q (.inl none) (H.set r (aI N (x_fil f v i b))) → xW l x d 0 0 mAR_fill2 n0 Q cl 7 [some (.ref r), some (.int (nI a)), some (.int (nI b)), some (.int v), some (.int (nI i))] [] H 0 0 := by
  intro k
  induction k with
  | zero =>
    intro i hi H f cl h hq
    have : i = b := by omega
    subst this
    rw [x_fil_0, x_sid h] at hq
    refine b_AR_fill2_7 ?_
    refine ⟨fun hb => ?_, fun hb => ?_⟩ <;> (try simp (disch := omega) only [nI_lit, nI_fold, nI_mul, nI_add, pk_sub, pk_div, nI_shrN, nI_clamp, nI_leI, nI_ltI, nI_eq, not_true_eq_false, not_false_eq_true, Bool.false_eq_true, if_true, if_false, nI_nem, nI_m1, nI_m7, nI_m15, nI_m32, nI_m4, nI_m8, nI_m16, nI_m2] at hb) <;> (try omega)
    exact ⟨rfl, Nat.le_refl _, hq⟩
  | succ k ih =>
    intro i hi H f cl h hq
    refine b_AR_fill2_7 ?_
    refine ⟨fun hb => ?_, fun hb => ?_⟩ <;> (try simp (disch := omega) only [nI_lit, nI_fold, nI_mul, nI_add, pk_sub, pk_div, nI_shrN, nI_clamp, nI_leI, nI_ltI, nI_eq, not_true_eq_false, not_false_eq_true, Bool.false_eq_true, if_true, if_false, nI_nem, nI_m1, nI_m7, nI_m15, nI_m32, nI_m4, nI_m8, nI_m16, nI_m2] at hb) <;> (try omega)
    refine ⟨N, f, h, h2, vp_in_nI (by omega) hN, fun H2 e => ?_⟩
    rw [nI_clamp (by omega)] at e
    rw [nI_1]
    refine ih (i + 1) (by omega) H2 (upd f i v) false (x_gs e h) ?_
    rw [e, List.set_set, x_fil_s (by omega)]
    exact hq
theorem c_AR_fill2 {N a b : Nat} {f : wF} {v : Int32} (h : H[r]? = some (aI N f)) (h2 : 2 ≤ r) (hab : a ≤ b) (hbN : b ≤ N) (hN : N < 2 ^ 31) : xCr l x 1 0 0 mAR_fill2 [.ref r, .int (nI a), .int (nI b), .int v] H (fun o H' => o = none ∧ H' = H.set r (aI N (x_fil f v a b))) := by
  refine xCt.of (by decide) rfl ck_AR_fill2 (Nat.le_of_ble_eq_true rfl) rfl ?_
  refine b_AR_fill2_0 ⟨_, _, h, Nat.le_of_ble_eq_true rfl, ?_⟩
  refine xs_callS rfl lk_17_13 (d' := 0) (c_AR_rangeCheck hab hbN hN) (Nat.le_of_ble_eq_true rfl) rfl rfl (Nat.le_of_ble_eq_true rfl) (by omega) (by omega) ?_
  rintro _ H1 ⟨rfl, rfl⟩
  refine b_AR_fill2_5 ?_
  exact AR_fill2_loop hN hbN h2 (b - a) a (by omega) _ f false h ⟨_, rfl, rfl, rfl⟩
end UCode1
