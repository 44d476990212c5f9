/-! frames, rows of numbers -/
def fr (P : Nat → Prop) (H H' : xH) : Prop := H'.length = H.length ∧ ∀ q, P q → H'[q]? = H[q]?
theorem fr.rf {P : Nat → Prop} {H : xH} : fr P H H := ⟨rfl, fun _ _ => rfl⟩
theorem fr.tr {P : Nat → Prop} {H H' H'' : xH} (h : fr P H H') (h' : fr P H' H'') : fr P H H'' := ⟨h'.1.trans h.1, fun q hq => (h'.2 q hq).trans (h.2 q hq)⟩
theorem fr.st {P : Nat → Prop} {H H' H2 : xH} {r : Nat} {c : va_E} (h : fr P H H') (e : H2 = H'.set r c) (hr : ¬ P r) : fr P H H2 := by
  refine ⟨(x_gl e).trans h.1, fun q hq => ?_⟩
  have hne : r ≠ q := by rintro rfl; exact hr hq
  exact (x_gn e rfl hne).trans (h.2 q hq)
theorem fr.mo {P P' : Nat → Prop} {H H' : xH} (h : fr P H H') (hp : ∀ q, P' q → P q) : fr P' H H' := ⟨h.1, fun q hq => h.2 q (hp q hq)⟩
theorem fr.at {P : Nat → Prop} {H H' : xH} {q : Nat} {v : Option va_E} (h : fr P H H') (hq : P q) (hv : H[q]? = v) : H'[q]? = v := (h.2 q hq).trans hv
def isN (f : Nat → Int32) (N : Nat) (F : Nat → Nat) : Prop := ∀ i, i < N → f i = nI (F i)
theorem isN.up {f : Nat → Int32} {N k : Nat} {F F' : Nat → Nat} {v : Int32} (h : isN f N F) (hv : v = nI (F' k)) (hF : ∀ i, i < N → i ≠ k → F' i = F i) : isN (upd f k v) N F' := by
  intro i hi
  unfold upd
  by_cases hk : i = k
  · subst hk; rw [if_pos rfl]; exact hv
  · rw [if_neg hk, hF i hi hk]; exact h i hi
def cnt (g : Nat → Nat) : Nat → Nat → Nat
  | 0, _ => 0
  | n + 1, l => cnt g n l + (if g n = l then 1 else 0)
theorem cnt_le (g : Nat → Nat) (n l : Nat) : cnt g n l ≤ n := by
  induction n with
  | zero => exact Nat.le_refl _
  | succ n ih => unfold cnt; split <;> omega
/-- the first code of each length -/
def fstc (g : Nat → Nat) (N : Nat) : Nat → Nat
  | 0 => 0
  | l + 1 => 2 * (fstc g N l + (if l = 0 then 0 else cnt g N l))
theorem fstc_le (g : Nat → Nat) (N l : Nat) : fstc g N l + 2 * N ≤ N * 2 ^ (l + 1) := by
  induction l with
  | zero => simp [fstc]; omega
  | succ l ih =>
    have h1 : fstc g N (l + 1) ≤ 2 * (fstc g N l + N) := by
      have e : fstc g N (l + 1) = 2 * (fstc g N l + (if l = 0 then 0 else cnt g N l)) := rfl
      rw [e]
      have := cnt_le g N l
      split <;> omega
    have h2 : N * 2 ^ (l + 1 + 1) = 2 * (N * 2 ^ (l + 1)) := by rw [Nat.pow_succ]; ac_rfl
    rw [h2]
    omega
theorem fstc_lt {g : Nat → Nat} {N l : Nat} (hN : N ≤ 288) (hl : l ≤ 15) : fstc g N l + N < 2 ^ 26 := by
  have h1 := fstc_le g N l
  have h2 : 2 ^ (l + 1) ≤ 2 ^ 16 := Nat.pow_le_pow_right (by decide) (by omega)
  have h3 : N * 2 ^ (l + 1) ≤ 288 * 2 ^ 16 := Nat.mul_le_mul hN h2
  omega
def cde (g : Nat → Nat) (N i : Nat) : Nat := fstc g N (g i) + cnt g i (g i)
/-- the low n bits of w, turned round -/
def rev (w : Nat) : Nat → Nat
  | 0 => 0
  | n + 1 => 2 * rev w n + w / 2 ^ n % 2
theorem rev_lt (w n : Nat) : rev w n < 2 ^ n := by
  induction n with
  | zero => simp [rev]
  | succ n ih => unfold rev; rw [Nat.pow_succ]; omega
theorem sh_mod : ∀ k, k < 32 → ((nI k &&& 31).toBitVec.smod 32).toNat = k := by decide +kernel
theorem nI_shr {w k : Nat} (hw : w < 2 ^ 31) (hk : k < 32) : nI w >>> (nI k &&& 31) = nI (w / 2 ^ k) := pk_shrN hw _ k (sh_mod k hk)
theorem nI_shl {w k : Nat} (hk : k < 32) (hw : w * 2 ^ k < 2 ^ 32) : nI w <<< (nI k &&& 31) = nI (w * 2 ^ k) := pk_shlN _ k (sh_mod k hk) hw
theorem nI_mul (a b : Nat) : nI a * nI b = nI (a * b) := pk_mul a b
section Words
variable {l : Launch} {x : xX} {d mc ms n0 uc us : Nat} {Q : xO → xH → Prop} {r a1 a2 a3 N : Nat} {H : xH} {g : Nat → Nat}
theorem WC_turn_loop {w n : Nat} (hw : w < 2 ^ 31) (hn : n ≤ 16) (huc : uc = mc) (hus : us ≤ ms) (hq : Q (.inl (some (.int (nI (rev w n))))) H) : ∀ (k i : Nat) (cl : Bool), i + k = n → xW l x d mc ms mWC_turnedRound n0 Q cl 4 [some (.int (nI w)), some (.int (nI n)), some (.int (nI (rev w i))), some (.int (nI i))] [] H uc us := by
  intro k
  induction k with
  | zero =>
    intro i cl hi
    have : i = n := by omega
    subst this
    exact b_WC_turnedRound_4 ⟨fun _ => ⟨huc, hus, hq⟩, fun hb => absurd (nI_le (Nat.le_refl _) (by omega)) hb⟩
  | succ k ih =>
    intro i cl hi
    refine b_WC_turnedRound_4 ⟨fun hb => absurd hb (nI_ge (by omega) (by omega)), fun _ => ?_⟩
    have hlt : w / 2 ^ i ≤ w := Nat.div_le_self _ _
    rw [nI_shr hw (by omega), nI_and1 (by omega), show (2 : Int32) = nI 2 from rfl, nI_mul, nI_add, nI_1]
    exact ih (i + 1) cl (by omega)
theorem c_WC_turn {w n : Nat} (hw : w < 2 ^ 31) (hn : n ≤ 16) : xCr l x d 0 0 mWC_turnedRound [.int (nI w), .int (nI n)] H (fun o H' => o = some (.int (nI (rev w n))) ∧ H' = H) := by
  refine xCt.of (by decide) rfl ck_WC_turnedRound (Nat.le_of_ble_eq_true rfl) rfl (b_WC_turnedRound_0 ?_)
  exact WC_turn_loop hw hn rfl (Nat.le_refl _) ⟨_, rfl, rfl, rfl⟩ n 0 true (by omega)
/-- a code for writing lies in the heap: its object, its lengths g -/
def WCat (H : xH) (r a1 a2 a3 N : Nat) (g : Nat → Nat) : Prop := H[r]? = some (.inr (11, [.ref a1, .ref a2, .ref a3])) ∧ (∃ fl, H[a1]? = some (aI N fl) ∧ isN fl N g) ∧ a1 ≠ a2 ∧ a1 ≠ a3 ∧ a2 ≠ a3 ∧ 2 ≤ a2 ∧ 2 ≤ a3 ∧ N ≤ 288 ∧ ∀ i, i < N → g i ≤ 15
theorem WCat.to {H H' : xH} (h : WCat H r a1 a2 a3 N g) (h1 : H'[r]? = H[r]?) (h2 : H'[a1]? = H[a1]?) : WCat H' r a1 a2 a3 N g := by
  obtain ⟨w1, w2, w3⟩ := h
  exact ⟨h1.trans w1, by rw [h2]; exact w2, w3⟩
theorem WCat.ne {H : xH} (h : WCat H r a1 a2 a3 N g) {q n : Nat} {f : Nat → Int32} (hq : H[q]? = some (aI n f)) : q ≠ r := by
  rintro rfl
  rw [h.1] at hq
  cases hq
theorem WC_p1 (P : Nat → Prop) (h2 : ¬ P a2) (h3 : ¬ P a3) (H0 : xH) (K : ∀ (H : xH) (fw fn : Nat → Int32), WCat H r a1 a2 a3 N g → fr P H0 H → H[a2]? = some (aI N fw) → H[a3]? = some (aI 17 fn) → isN fn 17 (fun l => if 2 ≤ l then cnt g N (l - 1) else 0) → xW l x d mc ms mWC_makeWords n0 Q false 33 [some (.ref r), some (.int 1)] [] H uc us) :
    ∀ (k i : Nat) (H : xH) (fw fn : Nat → Int32), i + k = N → WCat H r a1 a2 a3 N g → fr P H0 H → H[a2]? = some (aI N fw) → H[a3]? = some (aI 17 fn) → isN fn 17 (fun l => if 2 ≤ l then cnt g i (l - 1) else 0) → xW l x d mc ms mWC_makeWords n0 Q false 6 [some (.ref r), some (.int (nI i))] [] H uc us := by
  intro k
  induction k with
  | zero =>
    intro i H fw fn hi hW hf hw hn hN
    have : i = N := by omega
    subst this
    obtain ⟨w1, ⟨fl, w2, w3⟩, w4, w5, w6, w7, w8, w9, w10⟩ := id hW
    exact b_WC_makeWords_6 ⟨a1, ⟨_, w1, rfl⟩, 0, _, w2, by decide, fun _ => K H fw fn hW hf hw hn hN, fun hb => absurd (nI_le (Nat.le_refl _) (by omega)) hb⟩
  | succ k ih =>
    intro i H fw fn hi hW hf hw hn hN
    obtain ⟨w1, ⟨fl, w2, w3⟩, w4, w5, w6, w7, w8, w9, w10⟩ := id hW
    have hgi := w10 i (by omega)
    have e1 : fl (nI i).toNatClampNeg = nI (g i) := by rw [nI_clamp (by omega)]; exact w3 i (by omega)
    refine b_WC_makeWords_6 ⟨a1, ⟨_, w1, rfl⟩, 0, _, w2, by decide, fun hb => absurd hb (nI_ge (by omega) (by omega)), fun _ => ⟨a1, ⟨_, w1, rfl⟩, N, fl, w2, vp_in_nI (by omega) (by omega), fun hb => ?_, fun hb => ?_⟩⟩
    · rw [nI_1]
      rw [e1] at hb
      have hg0 : g i = 0 := by
        rcases Nat.eq_zero_or_pos (g i) with h | h
        · exact h
        · exact absurd hb (nI_nle h (by omega))
      refine ih (i + 1) H fw fn (by omega) hW hf hw hn (fun l hl => ?_)
      rw [hN l hl]
      by_cases h2 : 2 ≤ l
      · simp only [if_pos h2, cnt]
        rw [if_neg (by omega), Nat.add_zero]
      · simp only [if_neg h2]
    · rw [e1] at hb
      have hg0 : 0 < g i := by
        rcases Nat.eq_zero_or_pos (g i) with h | h
        · exact absurd (by rw [h]; exact nI_le (a := 0) (b := 0) (Nat.le_refl _) (by decide)) hb
        · exact h
      refine ⟨a3, ⟨_, w1, rfl⟩, a1, ⟨_, w1, rfl⟩, N, fl, w2, vp_in_nI (by omega) (by omega), ?_⟩
      rw [e1, nI_1]
      refine ⟨17, fn, hn, vp_in_nI (by omega) (by decide), 17, fn, hn, w8, vp_in_nI (by omega) (by decide), fun H15 e => ?_⟩
      rw [nI_clamp (by omega)] at e
      rw [nI_1]
      refine ih (i + 1) H15 fw (upd fn (g i + 1) (fn (g i + 1) + 1)) (by omega) (hW.to (x_gn e rfl (hW.ne hn)) (x_gn e rfl (Ne.symm w5))) (hf.st e h3) (x_gn e hw (Ne.symm w6)) (x_gs e hn) ?_
      refine hN.up ?_ (fun l hl hne => ?_)
      · rw [hN (g i + 1) (by omega), nI_1]
        simp only [if_pos (show 2 ≤ g i + 1 by omega), Nat.add_sub_cancel, cnt, if_true]
      · by_cases h2 : 2 ≤ l
        · simp only [if_pos h2, cnt]
          rw [if_neg (by omega), Nat.add_zero]
        · simp only [if_neg h2]
theorem WC_p2 (P : Nat → Prop) (h2 : ¬ P a2) (h3 : ¬ P a3) (H0 : xH) (K : ∀ (H : xH) (fw fn : Nat → Int32), WCat H r a1 a2 a3 N g → fr P H0 H → H[a2]? = some (aI N fw) → H[a3]? = some (aI 17 fn) → isN fn 16 (fun l => fstc g N l) → xW l x d mc ms mWC_makeWords n0 Q false 57 [some (.ref r), some (.int 0)] [] H uc us) :
    ∀ (k i : Nat) (H : xH) (fw fn : Nat → Int32), i + k = 16 → 1 ≤ i → WCat H r a1 a2 a3 N g → fr P H0 H → H[a2]? = some (aI N fw) → H[a3]? = some (aI 17 fn) → isN fn 17 (fun l => if l < i then fstc g N l else if 2 ≤ l then cnt g N (l - 1) else 0) → xW l x d mc ms mWC_makeWords n0 Q false 33 [some (.ref r), some (.int (nI i))] [] H uc us := by
  intro k
  induction k with
  | zero =>
    intro i H fw fn hi hi1 hW hf hw hn hN
    have : i = 16 := by omega
    subst this
    refine b_WC_makeWords_33 ⟨fun _ => K H fw fn hW hf hw hn (fun l hl => ?_), fun hb => absurd (nI_lt (a := 15) (b := 16) (by decide) (by decide)) hb⟩
    rw [hN l (by omega)]
    simp only [if_pos hl]
  | succ k ih =>
    intro i H fw fn hi hi1 hW hf hw hn hN
    obtain ⟨w1, ⟨fl, w2, w3⟩, w4, w5, w6, w7, w8, w9, w10⟩ := id hW
    have hc := cnt_le g N (i - 1)
    have hF := fstc_lt (g := g) (N := N) (l := i - 1) w9 (by omega)
    refine b_WC_makeWords_33 ⟨fun hb => absurd hb (nI_nlt (a := 15) (b := i) (by omega) (by decide)), fun _ => ?_⟩
    have e1 : nI i - 1 = nI (i - 1) := pk_sub (a := i) (b := 1) hi1
    rw [e1]
    refine ⟨a3, ⟨_, w1, rfl⟩, a3, ⟨_, w1, rfl⟩, 17, fn, hn, vp_in_nI (by omega) (by decide), a3, ⟨_, w1, rfl⟩, 17, fn, hn, vp_in_nI (by omega) (by decide), 17, fn, hn, w8, vp_in_nI (by omega) (by decide), fun H10 e => ?_⟩
    rw [nI_clamp (by omega), nI_clamp (by omega)] at e
    rw [nI_1]
    refine ih (i + 1) H10 fw _ (by omega) (by omega) (hW.to (x_gn e rfl (hW.ne hn)) (x_gn e rfl (Ne.symm w5))) (hf.st e h3) (x_gn e hw (Ne.symm w6)) (x_gs e hn) ?_
    refine hN.up ?_ (fun l hl hne => ?_)
    · rw [hN (i - 1) (by omega), hN i (by omega), show (2 : Int32) = nI 2 from rfl]
      simp only [if_pos (show i - 1 < i by omega), if_neg (Nat.lt_irrefl i), if_pos (Nat.lt_succ_self i)]
      rw [nI_add, nI_mul]
      congr 1
      obtain ⟨j, rfl⟩ : ∃ j, i = j + 1 := ⟨i - 1, by omega⟩
      have e2 : fstc g N (j + 1) = 2 * (fstc g N j + (if j = 0 then 0 else cnt g N j)) := rfl
      rw [e2, Nat.add_sub_cancel]
      by_cases hj : j = 0
      · rw [if_pos hj, if_neg (by omega)]
      · rw [if_neg hj, if_pos (by omega)]
    · by_cases h5 : l < i
      · simp only [if_pos h5, if_pos (Nat.lt_succ_of_lt h5)]
      · simp only [if_neg h5, if_neg (show ¬ l < i + 1 by omega)]
theorem WC_p3 (P : Nat → Prop) (h2 : ¬ P a2) (h3 : ¬ P a3) (H0 : xH) (hd : 1 ≤ d) (huc : uc = mc) (hus : us ≤ ms) (hq : ∀ (H : xH) (fw fn : Nat → Int32), fr P H0 H → H[a2]? = some (aI N fw) → H[a3]? = some (aI 17 fn) → isN fw N (fun i => rev (cde g N i) (g i)) → Q (.inl none) H) :
    ∀ (k i : Nat) (H : xH) (fw fn : Nat → Int32), i + k = N → WCat H r a1 a2 a3 N g → fr P H0 H → H[a2]? = some (aI N fw) → H[a3]? = some (aI 17 fn) → isN fn 16 (fun l => fstc g N l + cnt g i l) → isN fw i (fun i => rev (cde g N i) (g i)) → xW l x d mc ms mWC_makeWords n0 Q false 57 [some (.ref r), some (.int (nI i))] [] H uc us := by
  intro k
  induction k with
  | zero =>
    intro i H fw fn hi hW hf hw hn hN hNw
    have : i = N := by omega
    subst this
    obtain ⟨w1, ⟨fl, w2, w3⟩, w4, w5, w6, w7, w8, w9, w10⟩ := id hW
    exact b_WC_makeWords_57 ⟨a1, ⟨_, w1, rfl⟩, 0, _, w2, by decide, fun _ => ⟨huc, hus, hq H fw fn hf hw hn hNw⟩, fun hb => absurd (nI_le (Nat.le_refl _) (by omega)) hb⟩
  | succ k ih =>
    intro i H fw fn hi hW hf hw hn hN hNw
    obtain ⟨w1, ⟨fl, w2, w3⟩, w4, w5, w6, w7, w8, w9, w10⟩ := id hW
    have hgi := w10 i (by omega)
    have hc := cnt_le g i (g i)
    have hF := fstc_lt (g := g) (N := N) (l := g i) w9 hgi
    have e1 : fl (nI i).toNatClampNeg = nI (g i) := by rw [nI_clamp (by omega)]; exact w3 i (by omega)
    have e2 : fn (nI (g i)).toNatClampNeg = nI (cde g N i) := by rw [nI_clamp (by omega)]; exact hN (g i) (by omega)
    have hcd : cde g N i < 2 ^ 31 := by unfold cde; omega
    refine b_WC_makeWords_57 ⟨a1, ⟨_, w1, rfl⟩, 0, _, w2, by decide, fun hb => absurd hb (nI_ge (by omega) (by omega)), fun _ => ⟨a2, ⟨_, w1, rfl⟩, a3, ⟨_, w1, rfl⟩, a1, ⟨_, w1, rfl⟩, N, fl, w2, vp_in_nI (by omega) (by omega), 17, fn, hn, ?_, a1, ⟨_, w1, rfl⟩, N, fl, w2, vp_in_nI (by omega) (by omega), ?_⟩⟩
    · rw [e1]; exact vp_in_nI (by omega) (by decide)
    rw [e1, e2]
    refine xs_callS rfl lk_11_27 (d' := 0) (c_WC_turn hcd (by omega)) hd rfl rfl (Nat.le_of_ble_eq_true rfl) (by omega) (by omega) ?_
    rintro _ _ ⟨rfl, rfl⟩
    refine b_WC_makeWords_77 ⟨N, fw, hw, w7, vp_in_nI (by omega) (by omega), fun H3 e => ?_⟩
    rw [nI_clamp (by omega)] at e
    have g1 := x_gn e w1 (hW.ne hw)
    have g2 := x_gn e w2 (Ne.symm w4)
    have g3 := x_gn e hn w6
    refine ⟨a3, ⟨_, g1, rfl⟩, a1, ⟨_, g1, rfl⟩, N, fl, g2, vp_in_nI (by omega) (by omega), 17, fn, g3, ?_, 17, fn, g3, w8, ?_, fun H12 e' => ?_⟩
    · rw [e1]; exact vp_in_nI (by omega) (by decide)
    · rw [e1]; exact vp_in_nI (by omega) (by decide)
    rw [e1, e2, nI_clamp (by omega), nI_1] at e'
    rw [nI_1]
    have hW3 : WCat H3 r a1 a2 a3 N g := hW.to (x_gn e rfl (hW.ne hw)) (x_gn e rfl (Ne.symm w4))
    refine ih (i + 1) H12 (upd fw i (nI (rev (cde g N i) (g i)))) (upd fn (g i) (nI (cde g N i + 1))) (by omega) (hW3.to (x_gn e' rfl (hW3.ne g3)) (x_gn e' rfl (Ne.symm w5))) ((hf.st e h2).st e' h3) (x_gn e' (x_gs e hw) (Ne.symm w6)) (x_gs e' g3) ?_ ?_
    · refine hN.up ?_ (fun l hl hne => ?_)
      · simp only [cnt, if_true, cde]
        rw [Nat.add_assoc]
      · simp only [cnt]
        rw [if_neg (Ne.symm hne), Nat.add_zero]
    · intro j hj
      unfold upd
      by_cases hji : j = i
      · subst hji; rw [if_pos rfl]
      · rw [if_neg hji]; exact hNw j (by omega)
theorem c_WC_makeWords {fw fn : Nat → Int32} (hd : 1 ≤ d) (hW : WCat H r a1 a2 a3 N g) (hw : H[a2]? = some (aI N fw)) (hn : H[a3]? = some (aI 17 fn)) : xCr l x d 0 0 mWC_makeWords [.ref r] H (fun o H' => o = none ∧ fr (fun q => q ≠ a2 ∧ q ≠ a3) H H' ∧ ∃ fw fn, H'[a2]? = some (aI N fw) ∧ H'[a3]? = some (aI 17 fn) ∧ isN fw N (fun i => rev (cde g N i) (g i))) := by
  obtain ⟨w1, ⟨fl, w2, w3⟩, w4, w5, w6, w7, w8, w9, w10⟩ := id hW
  refine xCt.of (by decide) rfl ck_WC_makeWords (Nat.le_of_ble_eq_true rfl) rfl (b_WC_makeWords_0 ⟨a3, ⟨_, w1, rfl⟩, ?_⟩)
  refine xs_callS rfl lk_11_21 (d' := 0) (c_AR_fill hn w8 (by decide)) hd rfl rfl (Nat.le_of_ble_eq_true rfl) (by omega) (by omega) ?_
  rintro _ H1 ⟨rfl, e⟩
  refine b_WC_makeWords_4 ?_
  refine WC_p1 (fun q => q ≠ a2 ∧ q ≠ a3) (fun h => h.1 rfl) (fun h => h.2 rfl) H (fun H fw fn hW hf hw hn hN => ?_) N 0 H1 fw _ (by omega) (hW.to (x_gn e rfl (hW.ne hn)) (x_gn e rfl (Ne.symm w5))) (fr.rf.st e (fun h => h.2 rfl)) (x_gn e hw (Ne.symm w6)) (x_gs e hn) (fun l hl => ?_)
  · refine WC_p2 (fun q => q ≠ a2 ∧ q ≠ a3) (fun h => h.1 rfl) (fun h => h.2 rfl) _ (fun H fw fn hW hf hw hn hN => ?_) 15 1 H fw fn rfl (Nat.le_refl _) hW hf hw hn (fun l hl => ?_)
    · refine WC_p3 (fun q => q ≠ a2 ∧ q ≠ a3) (fun h => h.1 rfl) (fun h => h.2 rfl) _ hd rfl (Nat.le_refl _) (fun H fw fn hf hw hn hN => ⟨_, rfl, rfl, hf, fw, fn, hw, hn, hN⟩) N 0 H fw fn (by omega) hW hf hw hn (fun l hl => ?_) (fun j hj => absurd hj (Nat.not_lt_zero j))
      exact hN l hl
    · rw [hN l hl]
      by_cases h : l < 1
      · have : l = 0 := by omega
        subst this
        rfl
      · simp only [if_neg h]
  · simp only [x_fil, if_pos (show 0 ≤ l ∧ l < 17 from ⟨Nat.zero_le _, hl⟩), cnt]
    split <;> rfl
end Words
