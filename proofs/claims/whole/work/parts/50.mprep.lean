/-! the model's codes -/
theorem ofs_c0 (g : Nat → Nat) (l : Nat) : ∀ n, ofs g n l + cnt g n 0 ≤ n := by
  intro n
  induction n with
  | zero =>
    have := ofs_le g 0 l
    have := cnt_le g 0 0
    omega
  | succ n ih =>
    rw [ofs_n, cnt_s]
    split <;> split <;> omega
theorem krs_ofs (g : Nat → Nat) (n : Nat) : ∀ l, krs g n l ≤ ofs g n (l + 1) * 16384 := by
  intro l
  induction l with
  | zero => exact Nat.zero_le _
  | succ l ih =>
    have h2 : 2 ^ (15 - (l + 1)) ≤ 2 ^ 14 := Nat.pow_le_pow_right (by decide) (by omega)
    have h3 : cnt g n (l + 1) * 2 ^ (15 - (l + 1)) ≤ cnt g n (l + 1) * 2 ^ 14 := Nat.mul_le_mul_left _ h2
    rw [ofs_s g n (l + 1), if_neg (by omega), Nat.add_mul]
    unfold krs
    omega
theorem full_two {g : Nat → Nat} {n : Nat} (h : krs g n 15 = 32768) : ¬ n - cnt g n 0 < 2 := by
  have h1 : krs g n 15 ≤ ofs g n 16 * 16384 := krs_ofs g n 15
  have h2 := ofs_c0 g 16 n
  omega
theorem zs_full {t : Nat → Nat} {e : Nat} {g : Nat → Nat} {n a : Nat} (h : krs g n 15 = 32768) : zs t e g n a = syl t e a g n 15 1 0 0 a := by
  unfold zs; rw [if_neg (full_two h)]
/-- how a code is: 0 none, 1 one bit, 2 full, 3 otherwise -/
def howN (g : Nat → Nat) (n : Nat) : Nat := if krs g n 15 = 32768 then 2 else if krs g n 15 = 0 then 0 else if krs g n 15 = 16384 ∧ cnt g n 1 = 1 then 1 else 3
/-- a code lies prepared: counts at tb, the order at fm -/
def prd (ct od : wF) (fm tb : Nat) (g : Nat → Nat) (n : Nat) : Prop := (∀ l, l < 16 → ct (tb + l) = nI (cnt g n l)) ∧ ∀ i, i < n → 1 ≤ g i → od (fm + plc g n i) = nI i
section MPrep
variable {l : Launch} {x : xX} {d : Nat} {C : Nat → va_E} {cd : Int32} {T R : wRow} {P : wRp} {pl : Int32} {bl st : Nat} {K : wK4} {a mb : Nat} {ct od ln rw' : wF} {B : wMB} {Z : xH} {e : Nat} {fm n tb : Nat} {g : Nat → Nat}
theorem MO_prep1 {n0 : Nat} {Q : xO → xH → Prop} (htb : tb + 16 ≤ 48) {ct0 : wF} (Kk : ∀ (ct : wF) (cl : Bool), (∀ i, i < 16 → ct (tb + i) = nI 0) → (∀ i, i < tb ∨ tb + 16 ≤ i → ct i = ct0 i) → xW l x d 0 0 mMO_prepare n0 Q cl 16 [some (.ref 74), some (.int (nI fm)), some (.int (nI n)), some (.int (nI tb)), some (.int (nI 0)), none, none] [] (hM C cd T R P K a mb (ct, od, ln, rw') B Z) 0 0) : ∀ (j i : Nat) (ct : wF) (cl : Bool), i + j = 16 → (∀ q, q < i → ct (tb + q) = nI 0) → (∀ i, i < tb ∨ tb + 16 ≤ i → ct i = ct0 i) → xW l x d 0 0 mMO_prepare n0 Q cl 2 [some (.ref 74), some (.int (nI fm)), some (.int (nI n)), some (.int (nI tb)), some (.int (nI i)), none, none] [] (hM C cd T R P K a mb (ct, od, ln, rw') B Z) 0 0 := by
  intro j
  induction j with
  | zero =>
    intro i ct cl hi h1 h2
    refine b_MO_prepare_2 ?_
    refine ⟨fun hb => ?_, fun hb => ?_⟩ <;> (try simp (disch := omega) only [nI_lit, nI_fold, nI_mul, nI_add, pk_sub, pk_div, nI_shrN, nI_clamp, nI_leI, nI_ltI, nI_eq, not_true_eq_false, not_false_eq_true, Bool.false_eq_true, if_true, if_false, nI_nem, nI_m1, nI_m7, nI_m15, nI_m32, nI_m4, nI_m8, nI_m16, nI_m2] at hb) <;> (try omega)
    exact Kk ct cl (fun q hq => h1 q (by omega)) h2
  | succ j ih =>
    intro i ct cl hi h1 h2
    refine b_MO_prepare_2 ?_
    refine ⟨fun hb => ?_, fun hb => ?_⟩ <;> (try simp (disch := omega) only [nI_lit, nI_fold, nI_mul, nI_add, pk_sub, pk_div, nI_shrN, nI_clamp, nI_leI, nI_ltI, nI_eq, not_true_eq_false, not_false_eq_true, Bool.false_eq_true, if_true, if_false, nI_nem, nI_m1, nI_m7, nI_m15, nI_m32, nI_m4, nI_m8, nI_m16, nI_m2] at hb) <;> (try omega)
    refine ⟨_, ⟨_, rfl, rfl⟩, _, _, rfl, Nat.le_of_ble_eq_true rfl, (by (try simp (disch := omega) only [nI_lit, nI_fold, nI_mul, nI_add, pk_sub, pk_div, nI_shrN, nI_clamp]); (with_reducible refine vp_in_nI ?_ ?_) <;> omega), fun H4 e4 => ?_⟩
    try simp (disch := omega) only [nI_lit, nI_fold, nI_mul, nI_add, pk_sub, pk_div, nI_shrN, nI_clamp] at e4
    subst e4
    rw [nI_1]
    refine ih (i + 1) (upd ct (tb + i) (nI 0)) false (by omega) (fun q hq => ?_) (fun q hq => ?_)
    · unfold upd
      split
      · rfl
      · exact h1 q (by omega)
    · unfold upd
      rw [if_neg (by omega)]
      exact h2 q hq
theorem MO_prep2 {n0 : Nat} {Q : xO → xH → Prop} (htb : tb + 16 ≤ 48) (hfm : fm + n ≤ 600) (hln : ∀ i, i < n → ln (fm + i) = nI (g i)) (hg : ∀ i, i < n → g i ≤ 15) {ct0 : wF} (Kk : ∀ (ct : wF) (cl : Bool), (∀ l, l < 16 → ct (tb + l) = nI (cnt g n l)) → (∀ i, i < tb ∨ tb + 16 ≤ i → ct i = ct0 i) → xW l x d 0 0 mMO_prepare n0 Q cl 40 [some (.ref 74), some (.int (nI fm)), some (.int (nI n)), some (.int (nI tb)), some (.int (nI fm)), some (.int (nI 1)), none] [] (hM C cd T R P K a mb (ct, od, ln, rw') B Z) 0 0) : ∀ (j i : Nat) (ct : wF) (cl : Bool), i + j = n → (∀ l, l < 16 → ct (tb + l) = nI (cnt g i l)) → (∀ i, i < tb ∨ tb + 16 ≤ i → ct i = ct0 i) → xW l x d 0 0 mMO_prepare n0 Q cl 16 [some (.ref 74), some (.int (nI fm)), some (.int (nI n)), some (.int (nI tb)), some (.int (nI i)), none, none] [] (hM C cd T R P K a mb (ct, od, ln, rw') B Z) 0 0 := by
  intro j
  induction j with
  | zero =>
    intro i ct cl hi h1 h2
    have : i = n := by omega
    subst this
    refine b_MO_prepare_16 ?_
    refine ⟨fun hb => ?_, fun hb => ?_⟩ <;> (try simp (disch := omega) only [nI_lit, nI_fold, nI_mul, nI_add, pk_sub, pk_div, nI_shrN, nI_clamp, nI_leI, nI_ltI, nI_eq, not_true_eq_false, not_false_eq_true, Bool.false_eq_true, if_true, if_false, nI_nem, nI_m1, nI_m7, nI_m15, nI_m32, nI_m4, nI_m8, nI_m16, nI_m2] at hb) <;> (try omega)
    exact Kk ct cl h1 h2
  | succ j ih =>
    intro i ct cl hi h1 h2
    have hgi := hg i (by omega)
    have e1 : ln (nI fm + nI i).toNatClampNeg = nI (g i) := by rw [nI_add, nI_clamp (by omega)]; exact hln i (by omega)
    refine b_MO_prepare_16 ?_
    refine ⟨fun hb => ?_, fun hb => ?_⟩ <;> (try simp (disch := omega) only [nI_lit, nI_fold, nI_mul, nI_add, pk_sub, pk_div, nI_shrN, nI_clamp, nI_leI, nI_ltI, nI_eq, not_true_eq_false, not_false_eq_true, Bool.false_eq_true, if_true, if_false, nI_nem, nI_m1, nI_m7, nI_m15, nI_m32, nI_m4, nI_m8, nI_m16, nI_m2] at hb) <;> (try omega)
    refine ⟨_, ⟨_, rfl, rfl⟩, _, ⟨_, rfl, rfl⟩, _, _, rfl, (by rw [nI_add]; exact vp_in_nI (by omega) (by decide)), _, _, rfl, ?_, _, _, rfl, Nat.le_of_ble_eq_true rfl, ?_, fun H9 e9 => ?_⟩
    · show vp_in (nI tb + ln (nI fm + nI i).toNatClampNeg) 48
      rw [e1, nI_add]; exact vp_in_nI (by omega) (by decide)
    · show vp_in (nI tb + ln (nI fm + nI i).toNatClampNeg) 48
      rw [e1, nI_add]; exact vp_in_nI (by omega) (by decide)
    dsimp only at e9
    rw [e1, nI_add, nI_clamp (by omega), h1 (g i) (by omega), nI_1] at e9
    subst e9
    rw [nI_1]
    refine ih (i + 1) (upd ct (tb + g i) (nI (cnt g i (g i) + 1))) false (by omega) (fun q hq => ?_) (fun q hq => ?_)
    · unfold upd
      by_cases hqg : q = g i
      · subst hqg
        rw [if_pos rfl, cnt_s, if_pos rfl]
      · rw [if_neg (by omega), h1 q hq, cnt_s, if_neg (fun h => hqg h.symm), Nat.add_zero]
    · unfold upd
      rw [if_neg (by omega)]
      exact h2 q hq
theorem MO_prep3i {n0 : Nat} {Q : xO → xH → Prop} (hfm : fm + n ≤ 600) (hln : ∀ i, i < n → ln (fm + i) = nI (g i)) (hg : ∀ i, i < n → g i ≤ 15) {od0 : wF} {len : Nat} (hl1 : 1 ≤ len) (hl2 : len ≤ 15) (Kk : ∀ (od : wF) (cl : Bool), (∀ i, i < n → 1 ≤ g i → g i ≤ len → od (fm + plc g n i) = nI i) → (∀ i, i < fm ∨ fm + n ≤ i → od i = od0 i) → xW l x d 0 0 mMO_prepare n0 Q cl 40 [some (.ref 74), some (.int (nI fm)), some (.int (nI n)), some (.int (nI tb)), some (.int (nI (fm + ofs g n (len + 1)))), some (.int (nI (len + 1))), none] [] (hM C cd T R P K a mb (ct, od, ln, rw') B Z) 0 0) : ∀ (j k : Nat) (od : wF) (cl : Bool), k + j = n → (∀ i, i < n → 1 ≤ g i → (g i < len ∨ g i = len ∧ i < k) → od (fm + plc g n i) = nI i) → (∀ i, i < fm ∨ fm + n ≤ i → od i = od0 i) → xW l x d 0 0 mMO_prepare n0 Q cl 45 [some (.ref 74), some (.int (nI fm)), some (.int (nI n)), some (.int (nI tb)), some (.int (nI (fm + ofs g n len + cnt g k len))), some (.int (nI len)), some (.int (nI k))] [] (hM C cd T R P K a mb (ct, od, ln, rw') B Z) 0 0 := by
  intro j
  induction j with
  | zero =>
    intro k od cl hk h1 h2
    have : k = n := by omega
    subst this
    refine b_MO_prepare_45 ?_
    refine ⟨fun hb => ?_, fun hb => ?_⟩ <;> (try simp (disch := omega) only [nI_lit, nI_fold, nI_mul, nI_add, pk_sub, pk_div, nI_shrN, nI_clamp, nI_leI, nI_ltI, nI_eq, not_true_eq_false, not_false_eq_true, Bool.false_eq_true, if_true, if_false, nI_nem, nI_m1, nI_m7, nI_m15, nI_m32, nI_m4, nI_m8, nI_m16, nI_m2] at hb) <;> (try omega)
    rw [nI_1]
    refine xW.fgt 6 ?_
    have := Kk od cl (fun i hi hgi hgl => h1 i hi hgi (by omega)) h2
    rw [ofs_s, if_neg (by omega), ← Nat.add_assoc] at this
    exact this
  | succ j ih =>
    intro k od cl hk h1 h2
    have hgk := hg k (by omega)
    have e1 : ln (nI fm + nI k).toNatClampNeg = nI (g k) := by rw [nI_add, nI_clamp (by omega)]; exact hln k (by omega)
    refine b_MO_prepare_45 ?_
    refine ⟨fun hb => ?_, fun hb => ?_⟩ <;> (try simp (disch := omega) only [nI_lit, nI_fold, nI_mul, nI_add, pk_sub, pk_div, nI_shrN, nI_clamp, nI_leI, nI_ltI, nI_eq, not_true_eq_false, not_false_eq_true, Bool.false_eq_true, if_true, if_false, nI_nem, nI_m1, nI_m7, nI_m15, nI_m32, nI_m4, nI_m8, nI_m16, nI_m2] at hb) <;> (try omega)
    refine ⟨_, ⟨_, rfl, rfl⟩, _, _, rfl, (by rw [nI_add]; exact vp_in_nI (by omega) (by decide)), ?_⟩
    rw [show (ct, od, ln, rw').2.2.1 (nI fm + nI k).toNatClampNeg = nI (g k) from e1]
    refine ⟨fun hd => ?_, fun hd => ?_⟩ <;> (try simp (disch := omega) only [nI_lit, nI_fold, nI_mul, nI_add, pk_sub, pk_div, nI_shrN, nI_clamp, nI_leI, nI_ltI, nI_eq, not_true_eq_false, not_false_eq_true, Bool.false_eq_true, if_true, if_false, nI_nem, nI_m1, nI_m7, nI_m15, nI_m32, nI_m4, nI_m8, nI_m16, nI_m2] at hd) <;> (try omega)
    · rw [nI_1]
      have := ih (k + 1) od cl (by omega) (fun i hi hgi h => h1 i hi hgi (by rcases h with h | h; exact Or.inl h; exact Or.inr ⟨h.1, by rcases Nat.lt_or_ge i k with hh | hh; exact hh; exact absurd (show g k = len by rw [show k = i by omega]; exact h.1) hd⟩)) h2
      rw [cnt_s, if_neg hd, Nat.add_zero] at this
      exact this
    · have hplc : plc g n k = ofs g n len + cnt g k len := by unfold plc; rw [hd]
      have hpl := plc_n (g := g) (n := n) (i := k) (by omega) (by omega)
      refine ⟨_, ⟨_, rfl, rfl⟩, _, _, rfl, Nat.le_of_ble_eq_true rfl, vp_in_nI (by omega) (by decide), fun H7 e7 => ?_⟩
      rw [nI_clamp (by omega)] at e7
      subst e7
      rw [nI_1, nI_1]
      have := ih (k + 1) (upd od (fm + ofs g n len + cnt g k len) (nI k)) false (by omega) (fun i hi hgi h => ?_) (fun i hi => ?_)
      · rw [cnt_s, if_pos hd, ← Nat.add_assoc] at this
        exact this
      · unfold upd
        by_cases hik : i = k
        · subst hik
          rw [if_pos (by omega)]
        · have hne : plc g n i ≠ plc g n k := by
            rcases Nat.lt_trichotomy i k with hh | hh | hh
            · exact plc_ne hh (by omega) (by omega) hgi
            · exact absurd hh hik
            · exact fun he => plc_ne hh hi hgi (by omega) he.symm
          rw [if_neg (by omega)]
          exact h1 i hi hgi (by omega)
      · unfold upd
        rw [if_neg (by omega)]
        exact h2 i hi
theorem MO_prep3 {n0 : Nat} {Q : xO → xH → Prop} (hn : n ≤ 288) (hfm : fm + n ≤ 600) (hln : ∀ i, i < n → ln (fm + i) = nI (g i)) (hg : ∀ i, i < n → g i ≤ 15) {od0 : wF} (Kk : ∀ (od : wF) (v4 : Nat) (cl : Bool), (∀ i, i < n → 1 ≤ g i → od (fm + plc g n i) = nI i) → (∀ i, i < fm ∨ fm + n ≤ i → od i = od0 i) → xW l x d 0 0 mMO_prepare n0 Q cl 70 [some (.ref 74), some (.int (nI fm)), some (.int (nI n)), some (.int (nI tb)), some (.int (nI v4)), some (.int (nI 0)), some (.int (nI 1))] [] (hM C cd T R P K a mb (ct, od, ln, rw') B Z) 0 0) : ∀ (j len : Nat) (od : wF) (cl : Bool), len + j = 15 → (∀ i, i < n → 1 ≤ g i → g i ≤ len → od (fm + plc g n i) = nI i) → (∀ i, i < fm ∨ fm + n ≤ i → od i = od0 i) → xW l x d 0 0 mMO_prepare n0 Q cl 40 [some (.ref 74), some (.int (nI fm)), some (.int (nI n)), some (.int (nI tb)), some (.int (nI (fm + ofs g n (len + 1)))), some (.int (nI (len + 1))), none] [] (hM C cd T R P K a mb (ct, od, ln, rw') B Z) 0 0 := by
  intro j
  induction j with
  | zero =>
    intro len od cl hl h1 h2
    have : len = 15 := by omega
    subst this
    refine b_MO_prepare_40 ?_
    refine ⟨fun hb => ?_, fun hb => ?_⟩ <;> (try simp (disch := omega) only [nI_lit, nI_fold, nI_mul, nI_add, pk_sub, pk_div, nI_shrN, nI_clamp, nI_leI, nI_ltI, nI_eq, not_true_eq_false, not_false_eq_true, Bool.false_eq_true, if_true, if_false, nI_nem, nI_m1, nI_m7, nI_m15, nI_m32, nI_m4, nI_m8, nI_m16, nI_m2] at hb) <;> (try omega)
    exact Kk od _ cl (fun i hi hgi => h1 i hi hgi (hg i hi)) h2
  | succ j ih =>
    intro len od cl hl h1 h2
    refine b_MO_prepare_40 ?_
    refine ⟨fun hb => ?_, fun hb => ?_⟩ <;> (try simp (disch := omega) only [nI_lit, nI_fold, nI_mul, nI_add, pk_sub, pk_div, nI_shrN, nI_clamp, nI_leI, nI_ltI, nI_eq, not_true_eq_false, not_false_eq_true, Bool.false_eq_true, if_true, if_false, nI_nem, nI_m1, nI_m7, nI_m15, nI_m32, nI_m4, nI_m8, nI_m16, nI_m2] at hb) <;> (try omega)
    exact MO_prep3i (len := len + 1) hfm hln hg (by omega) (by omega) (fun od cl q1 q2 => ih (len + 1) od cl (by omega) q1 q2) n 0 od cl (by omega) (fun i hi hgi h => h1 i hi hgi (by omega)) h2
theorem MO_prep4 {n0 : Nat} {Q : xO → xH → Prop} (hn : n ≤ 288) (htb : tb + 16 ≤ 48) (hct : ∀ l, l < 16 → ct (tb + l) = nI (cnt g n l)) {v4 : Nat} (hq : Q (.inl (some (.int (nI (howN g n))))) (hM C cd T R P K a mb (ct, od, ln, rw') B Z)) : ∀ (j i : Nat) (cl : Bool), i + j = 15 → xW l x d 0 0 mMO_prepare n0 Q cl 70 [some (.ref 74), some (.int (nI fm)), some (.int (nI n)), some (.int (nI tb)), some (.int (nI v4)), some (.int (nI (krs g n i))), some (.int (nI (i + 1)))] [] (hM C cd T R P K a mb (ct, od, ln, rw') B Z) 0 0 := by
  intro j
  induction j with
  | zero =>
    intro i cl hi
    have : i = 15 := by omega
    subst this
    have hk := krs_le g hn 15
    have hc1 := cnt_le g n 1
    unfold howN at hq
    refine b_MO_prepare_70 ?_
    refine ⟨fun hb => ?_, fun hb => ?_⟩ <;> (try simp (disch := omega) only [nI_lit, nI_fold, nI_mul, nI_add, pk_sub, pk_div, nI_shrN, nI_clamp, nI_leI, nI_ltI, nI_eq, not_true_eq_false, not_false_eq_true, Bool.false_eq_true, if_true, if_false, nI_nem, nI_m1, nI_m7, nI_m15, nI_m32, nI_m4, nI_m8, nI_m16, nI_m2] at hb) <;> (try omega)
    refine ⟨fun hd => ?_, fun hd => ?_⟩ <;> (try simp (disch := omega) only [nI_lit, nI_fold, nI_mul, nI_add, pk_sub, pk_div, nI_shrN, nI_clamp, nI_leI, nI_ltI, nI_eq, not_true_eq_false, not_false_eq_true, Bool.false_eq_true, if_true, if_false, nI_nem, nI_m1, nI_m7, nI_m15, nI_m32, nI_m4, nI_m8, nI_m16, nI_m2] at hd) <;> (try omega)
    · rw [if_neg hd] at hq
      refine ⟨fun hf => ?_, fun hf => ?_⟩ <;> (try simp (disch := omega) only [nI_lit, nI_fold, nI_mul, nI_add, pk_sub, pk_div, nI_shrN, nI_clamp, nI_leI, nI_ltI, nI_eq, not_true_eq_false, not_false_eq_true, Bool.false_eq_true, if_true, if_false, nI_nem, nI_m1, nI_m7, nI_m15, nI_m32, nI_m4, nI_m8, nI_m16, nI_m2] at hf) <;> (try omega)
      · rw [if_neg hf] at hq
        refine ⟨fun hh => ?_, fun hh => ?_⟩ <;> (try simp (disch := omega) only [nI_lit, nI_fold, nI_mul, nI_add, pk_sub, pk_div, nI_shrN, nI_clamp, nI_leI, nI_ltI, nI_eq, not_true_eq_false, not_false_eq_true, Bool.false_eq_true, if_true, if_false, nI_nem, nI_m1, nI_m7, nI_m15, nI_m32, nI_m4, nI_m8, nI_m16, nI_m2] at hh) <;> (try omega)
        · rw [if_neg (fun h => hh h.1)] at hq
          exact ⟨rfl, Nat.le_refl _, hq⟩
        · have e1 : ct (nI tb + 1).toNatClampNeg = nI (cnt g n 1) := by rw [nI_1, nI_clamp (by omega)]; exact hct 1 (by decide)
          refine ⟨_, ⟨_, rfl, rfl⟩, _, _, rfl, (by rw [nI_1]; exact vp_in_nI (by omega) (by decide)), ?_⟩
          rw [show (ct, od, ln, rw').1 (nI tb + 1).toNatClampNeg = nI (cnt g n 1) from e1]
          refine ⟨fun hj => ?_, fun hj => ?_⟩ <;> (try simp (disch := omega) only [nI_lit, nI_fold, nI_mul, nI_add, pk_sub, pk_div, nI_shrN, nI_clamp, nI_leI, nI_ltI, nI_eq, not_true_eq_false, not_false_eq_true, Bool.false_eq_true, if_true, if_false, nI_nem, nI_m1, nI_m7, nI_m15, nI_m32, nI_m4, nI_m8, nI_m16, nI_m2] at hj) <;> (try omega)
          · rw [if_neg (fun h => hj h.2)] at hq
            exact ⟨rfl, Nat.le_refl _, hq⟩
          · rw [if_pos ⟨hh, hj⟩] at hq
            exact ⟨rfl, Nat.le_refl _, hq⟩
      · rw [if_pos hf] at hq
        exact ⟨rfl, Nat.le_refl _, hq⟩
    · rw [if_pos hd] at hq
      exact ⟨rfl, Nat.le_refl _, hq⟩
  | succ j ih =>
    intro i cl hi
    have hk := krs_le g hn i
    have hcl := cnt_le g n (i + 1)
    have e1 : ct (nI tb + nI (i + 1)).toNatClampNeg = nI (cnt g n (i + 1)) := by rw [nI_add, nI_clamp (by omega)]; exact hct (i + 1) (by omega)
    have h2 : 2 ^ (15 - (i + 1)) ≤ 2 ^ 14 := Nat.pow_le_pow_right (by decide) (by omega)
    have h3 : cnt g n (i + 1) * 2 ^ (15 - (i + 1)) ≤ 288 * 2 ^ 14 := Nat.mul_le_mul (by omega) h2
    refine b_MO_prepare_70 ?_
    refine ⟨fun hb => ?_, fun hb => ?_⟩ <;> (try simp (disch := omega) only [nI_lit, nI_fold, nI_mul, nI_add, pk_sub, pk_div, nI_shrN, nI_clamp, nI_leI, nI_ltI, nI_eq, not_true_eq_false, not_false_eq_true, Bool.false_eq_true, if_true, if_false, nI_nem, nI_m1, nI_m7, nI_m15, nI_m32, nI_m4, nI_m8, nI_m16, nI_m2] at hb) <;> (try omega)
    refine ⟨_, ⟨_, rfl, rfl⟩, _, _, rfl, (by rw [nI_add]; exact vp_in_nI (by omega) (by decide)), ?_⟩
    rw [show (ct, od, ln, rw').1 (nI tb + nI (i + 1)).toNatClampNeg = nI (cnt g n (i + 1)) from e1, show (15 : Int32) - nI (i + 1) = nI (15 - (i + 1)) from pk_sub (a := 15) (by omega), nI_shl (by omega) (by omega), nI_add, nI_1]
    exact ih (i + 1) cl (by omega)
theorem c_MO_prepare (hn : n ≤ 288) (htb : tb + 16 ≤ 48) (hfm : fm + n ≤ 600) (hln : ∀ i, i < n → ln (fm + i) = nI (g i)) (hg : ∀ i, i < n → g i ≤ 15) : xCr l x d 0 0 mMO_prepare [.ref 74, .int (nI fm), .int (nI n), .int (nI tb)] (hM C cd T R P K a mb (ct, od, ln, rw') B Z) (fun o H' => o = some (.int (nI (howN g n))) ∧ ∃ ct' od', prd ct' od' fm tb g n ∧ (∀ i, i < tb ∨ tb + 16 ≤ i → ct' i = ct i) ∧ (∀ i, i < fm ∨ fm + n ≤ i → od' i = od i) ∧ H' = hM C cd T R P K a mb (ct', od', ln, rw') B Z) := by
  refine xCt.of (by decide) rfl ck_MO_prepare (Nat.le_of_ble_eq_true rfl) rfl ?_
  refine b_MO_prepare_0 ?_
  refine MO_prep1 htb (fun ct1 cl q1 q2 => ?_) 16 0 ct true (by omega) (fun q hq => absurd hq (Nat.not_lt_zero _)) (fun _ _ => rfl)
  refine MO_prep2 htb hfm hln hg (fun ct2 cl q3 q4 => ?_) n 0 ct1 cl (by omega) (fun q hq => q1 q hq) q2
  refine MO_prep3 hn hfm hln hg (fun od1 v4 cl q5 q6 => ?_) 15 0 od cl (by omega) (fun i hi h1 h2 => by omega) (fun _ _ => rfl)
  exact MO_prep4 hn htb q3 ⟨_, rfl, rfl, ct2, od1, ⟨q3, q5⟩, q4, q6, rfl⟩ 15 0 cl (by omega)
end MPrep
