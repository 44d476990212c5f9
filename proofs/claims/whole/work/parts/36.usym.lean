/-! reading symbols -/
def odg (g : Nat → Nat) (n p : Nat) : Nat → Nat
  | 0 => 0
  | k + 1 => if 1 ≤ g k ∧ plc g n k = p then k else odg g n p k
/-- the symbol at a place of the order of codes -/
def odf (g : Nat → Nat) (n p : Nat) : Nat := odg g n p n
theorem odg_at {g : Nat → Nat} {n i : Nat} (hg : 1 ≤ g i) : ∀ k, k ≤ n → i < k → odg g n (plc g n i) k = i := by
  intro k
  induction k with
  | zero => intro _ h; omega
  | succ k ih =>
    intro hk hi
    unfold odg
    split
    · rename_i h
      rcases Nat.lt_trichotomy i k with h1 | h1 | h1
      · exact absurd h.2.symm (plc_ne h1 (by omega) h.1 hg)
      · exact h1.symm
      · omega
    · rename_i h
      by_cases h1 : i = k
      · subst h1; exact absurd ⟨hg, rfl⟩ h
      · exact ih (by omega) (by omega)
theorem odf_at {g : Nat → Nat} {n i : Nat} (hg : 1 ≤ g i) (hi : i < n) : odf g n (plc g n i) = i := odg_at hg n (Nat.le_refl _) hi
theorem cnt_ex {g : Nat → Nat} {l j : Nat} : ∀ n, j < cnt g n l → ∃ i, i < n ∧ g i = l ∧ cnt g i l = j := by
  intro n
  induction n with
  | zero => intro h; exact absurd h (Nat.not_lt_zero _)
  | succ n ih =>
    intro h
    rw [cnt_s] at h
    by_cases h1 : j < cnt g n l
    · obtain ⟨i, a1, a2, a3⟩ := ih h1
      exact ⟨i, by omega, a2, a3⟩
    · by_cases h2 : g n = l
      · rw [if_pos h2] at h
        exact ⟨n, by omega, h2, by omega⟩
      · rw [if_neg h2] at h
        omega
theorem odf_lt {g : Nat → Nat} {n l j : Nat} (hl : 1 ≤ l) (hj : j < cnt g n l) : ∃ i, i < n ∧ 1 ≤ g i ∧ plc g n i = ofs g n l + j ∧ odf g n (ofs g n l + j) = i := by
  obtain ⟨i, a1, a2, a3⟩ := cnt_ex n hj
  have e : plc g n i = ofs g n l + j := by unfold plc; rw [a2, a3]
  exact ⟨i, a1, by omega, e, by rw [← e]; exact odf_at (by omega) a1⟩
abbrev zY : Type := (Nat × Nat) ⊕ (Nat × Nat)
def syl (t : Nat → Nat) (e a0 : Nat) (g : Nat → Nat) (n : Nat) : Nat → Nat → Nat → Nat → Nat → zY
  | 0, _, _, _, _ => .inl (8, a0)
  | m + 1, l, w, f, a => if e ≤ a then .inl (1, e) else if 2 * w + tbit t a - f < cnt g n l then .inr (odf g n (ofs g n l + (2 * w + tbit t a - f)), a + 1) else syl t e a0 g n m (l + 1) (2 * w + tbit t a) (2 * (f + cnt g n l)) (a + 1)
/-- a symbol by the code of the lengths g of n symbols -/
def zs (t : Nat → Nat) (e : Nat) (g : Nat → Nat) (n a : Nat) : zY := syl t e a g n (if n - cnt g n 0 < 2 then 1 else 15) 1 0 0 a
theorem syl_le {t : Nat → Nat} {e a0 : Nat} {g : Nat → Nat} {n y b : Nat} : ∀ m l w f a, 1 ≤ l → syl t e a0 g n m l w f a = .inr (y, b) → a < b ∧ b ≤ e ∧ y < n := by
  intro m
  induction m with
  | zero => intro l w f a _ h; cases h
  | succ m ih =>
    intro l w f a hl h
    unfold syl at h
    split at h
    · cases h
    · split at h
      · rename_i h1 h2
        cases h
        obtain ⟨i, b1, b2, b3, b4⟩ := odf_lt hl h2
        exact ⟨by omega, by omega, by rw [b4]; exact b1⟩
      · have := ih _ _ _ _ (by omega) h
        omega
theorem zs_le {t : Nat → Nat} {e : Nat} {g : Nat → Nat} {n a y b : Nat} (h : zs t e g n a = .inr (y, b)) : a < b ∧ b ≤ e ∧ y < n := syl_le _ _ _ _ _ (by decide) h
def rcOK (c : wRC) (g : Nat → Nat) (n : Nat) : Prop := c.1 = nI (n - cnt g n 0) ∧ isN c.2.1 16 (fun l => if l = 0 then 0 else cnt g n l) ∧ ∀ i, i < n → 1 ≤ g i → c.2.2.1 (plc g n i) = nI i
def UY (s0 : va_E) (T R : wRow) (P : wRep) (k : wPK) (e mb : Nat) (gs : wRC × wRC × wRC × wRC × wRC × wF × wF) (Z : xH) (z : zY) (o : Option Value) (H' : xH) : Prop := match z with
  | .inl (f, p) => o = some (.int (-1)) ∧ ∃ a', H' = hc s0 T R (nI f, nI p, P.2.2) k (a', e, mb, gs) Z
  | .inr (y, a') => o = some (.int (nI y)) ∧ H' = hc s0 T R P k (a', e, mb, gs) Z
def ztail (t : Nat → Nat) (e w : Nat) (rb : Nat → Nat) (rn mb a : Nat) : zR := if w = 0 then .inr a else if w = 1 then zfour t e true 13 (adl rb 0 rn) a else zb (zfour t e false 13 (crc rb mb rn) a) fun a => zfour t e false 14 (rn - mb) a
theorem zfour_le {t : Nat → Nat} {e f due a b : Nat} {hf : Bool} (h : zfour t e hf f due a = .inr b) : b = a + 32 ∧ b ≤ e := by
  unfold zfour at h
  split at h
  · cases h
  · split at h
    · cases h; exact ⟨rfl, by omega⟩
    · cases h
theorem bit_at {t : Nat → Nat} (ht : ∀ i, t i < 256) {a : Nat} (ha : a < 2 ^ 31) : ((bF t (nI a >>> ((3 : Int32) &&& 31)).toNatClampNeg) >>> ((nI a &&& 7) &&& 31)) &&& 1 = nI (tbit t a) := by
  rw [show nI a >>> ((3 : Int32) &&& 31) = nI (a / 8) from nI_sh3 (by omega), nI_clamp (by omega), show nI a &&& 7 = nI (a % 8) from nI_m7 (by omega)]
  exact sb_bit _ (ht _) _ (by omega)
section USym
variable {l : Launch} {x : xX} {d : Nat} {s0 : va_E} {T R : wRow} {P : wRep} {k : wPK} {a e mb : Nat} {gs : wRC × wRC × wRC × wRC × wRC × wF × wF} {Z : xH}
theorem UY.cases {z : zY} {o : Option Value} {H' : xH} (h : UY s0 T R P k e mb gs Z z o H') : (∃ f p a', z = .inl (f, p) ∧ o = some (.int (-1)) ∧ H' = hc s0 T R (nI f, nI p, P.2.2) k (a', e, mb, gs) Z) ∨ (∃ y a', z = .inr (y, a') ∧ o = some (.int (nI y)) ∧ H' = hc s0 T R P k (a', e, mb, gs) Z) := by
  match z, h with
  | .inl (f, p), h => obtain ⟨h1, a', h2⟩ := h; exact Or.inl ⟨f, p, a', rfl, h1, h2⟩
  | .inr (y, a'), h => exact Or.inr ⟨y, a', rfl, h.1, h.2⟩
theorem UY.fl {z : zY} {f p a' : Nat} (h : z = .inl (f, p)) : UY s0 T R P k e mb gs Z z (some (.int (-1))) (hc s0 T R (nI f, nI p, P.2.2) k (a', e, mb, gs) Z) := by subst h; exact ⟨rfl, _, rfl⟩
theorem UY.ok {z : zY} {y a' : Nat} (h : z = .inr (y, a')) : UY s0 T R P k e mb gs Z z (some (.int (nI y))) (hc s0 T R P k (a', e, mb, gs) Z) := by subst h; exact ⟨rfl, rfl⟩
theorem UN_sym_loop {n0 : Nat} {Q : xO → xH → Prop} (hT : ∀ i, T.1 i < 256) (he : e ≤ 8 * T.2) (hn : T.2 ≤ 32768) {r b1 b2 b3 : Nat} {c : wRC} {g : Nat → Nat} {n a0 : Nat} (hn2 : n ≤ 288) (ha0 : a0 ≤ 262144)
    (h0 : ∀ a, (hc s0 T R P k (a, e, mb, gs) Z)[r]? = some (cRC b1 b2 b3 c.1)) (h1 : ∀ a, (hc s0 T R P k (a, e, mb, gs) Z)[b1]? = some (aI 16 c.2.1)) (h2 : ∀ a, (hc s0 T R P k (a, e, mb, gs) Z)[b2]? = some (aI 288 c.2.2.1)) (hok : rcOK c g n) (z : zY) (hq : ∀ o H', UY s0 T R P k e mb gs Z z o H' → Q (.inl o) H') :
    ∀ (m len : Nat) (w f a M : Nat) (cl : Bool), len + m = M + 1 → M ≤ 15 → 1 ≤ len → w < 2 ^ (len - 1) → f ≤ 2 * w → a ≤ e → syl T.1 e a0 g n m len w f a = z → xW l x 1 0 0 mUN_readSymbol n0 Q cl 19 [some (.ref 51), some (.ref r), some (.int (nI a0)), some (.int (nI w)), some (.int (nI f)), some (.int (nI (ofs g n len))), some (.int (nI M)), some (.int (nI len)), none] [] (hc s0 T R P k (a, e, mb, gs) Z) 0 0 := by
  intro m
  induction m with
  | zero =>
    intro len w f a M cl hl hM hl1 hw hf hae hz
    refine b_UN_readSymbol_19 ?_
    refine ⟨fun hb => ?_, fun hb => ?_⟩ <;> (try simp (disch := omega) only [nI_lit, nI_fold, nI_mul, nI_add, pk_sub, pk_div, nI_shrN, nI_clamp, nI_leI, nI_ltI, nI_eq, not_true_eq_false, not_false_eq_true, Bool.false_eq_true, if_true, if_false, nI_nem, nI_m1, nI_m7, nI_m15, nI_m32, nI_m4, nI_m8, nI_m16, nI_m2] at hb) <;> (try omega)
    skip
    refine xs_callV rfl lk_9_98 (d' := 0) (c_UN_fail) (Nat.le_of_ble_eq_true rfl) rfl rfl rfl rfl rfl (Nat.le_of_ble_eq_true rfl) (by omega) (by omega) ?_
    rintro _ H1 ⟨rfl, rfl⟩
    refine b_UN_readSymbol_96 ?_
    exact ⟨rfl, Nat.le_refl _, hq _ _ (UY.fl hz.symm)⟩
  | succ m ih =>
    intro len w f a M cl hl hM hl1 hw hf hae hz
    have hp : 2 ^ (len - 1) ≤ 2 ^ 14 := Nat.pow_le_pow_right (by decide) (by omega)
    refine b_UN_readSymbol_19 ?_
    refine ⟨fun hb => ?_, fun hb => ?_⟩ <;> (try simp (disch := omega) only [nI_lit, nI_fold, nI_mul, nI_add, pk_sub, pk_div, nI_shrN, nI_clamp, nI_leI, nI_ltI, nI_eq, not_true_eq_false, not_false_eq_true, Bool.false_eq_true, if_true, if_false, nI_nem, nI_m1, nI_m7, nI_m15, nI_m32, nI_m4, nI_m8, nI_m16, nI_m2] at hb) <;> (try omega)
    refine ⟨_, ⟨_, rfl, rfl⟩, _, ⟨_, rfl, rfl⟩, ?_⟩
    refine ⟨fun ha => ?_, fun ha => ?_⟩ <;> (try simp (disch := omega) only [nI_lit, nI_fold, nI_mul, nI_add, pk_sub, pk_div, nI_shrN, nI_clamp, nI_leI, nI_ltI, nI_eq, not_true_eq_false, not_false_eq_true, Bool.false_eq_true, if_true, if_false, nI_nem, nI_m1, nI_m7, nI_m15, nI_m32, nI_m4, nI_m8, nI_m16, nI_m2] at ha) <;> (try omega)
    · have hbt := tbit_lt T.1 a
      have hcn : (c.2.1 (nI len).toNatClampNeg) = nI (cnt g n len) := by
        rw [nI_clamp (by omega), hok.2.1 len (by omega)]
        show nI (if len = 0 then 0 else cnt g n len) = _
        rw [if_neg (by omega)]
      have hcl := cnt_le g n len
      have ho := ofs_s g n len
      rw [if_neg (by omega)] at ho
      have hol := ofs_le g n len
      have hol2 := ofs_le g n (len + 1)
      refine ⟨_, ⟨_, rfl, rfl⟩, _, ⟨_, rfl, rfl⟩, _, ⟨_, rfl, rfl⟩, _, _, rfl, ?_, _, ⟨_, rfl, rfl⟩, _, ⟨_, rfl, rfl⟩, _, rfl, Nat.le_of_ble_eq_true rfl, fun H11 e11 => ?_⟩
      · rw [show nI a >>> ((3 : Int32) &&& 31) = nI (a / 8) from nI_sh3 (by omega)]
        exact vp_in_nI (by omega) (by decide)
      obtain rfl : H11 = hc s0 T R P k (a + 1, e, mb, gs) Z := e11.trans (by rw [nI_1]; rfl)
      refine ⟨_, ⟨_, h0 _, rfl⟩, _, _, h1 _, vp_in_nI (by omega) (by decide), ?_⟩
      rw [hcn, show ((bF T.1 (nI (a, e, mb, gs).1 >>> ((3 : Int32) &&& 31)).toNatClampNeg) >>> ((nI (a, e, mb, gs).1 &&& 7) &&& 31)) &&& 1 = nI (tbit T.1 a) from bit_at hT (by omega), show (2 : Int32) = nI 2 from rfl, nI_mul, nI_add, pk_sub (by omega)]
      refine ⟨fun hd => ?_, fun hd => ?_⟩ <;> (try simp (disch := omega) only [nI_lit, nI_fold, nI_mul, nI_add, pk_sub, pk_div, nI_shrN, nI_clamp, nI_leI, nI_ltI, nI_eq, not_true_eq_false, not_false_eq_true, Bool.false_eq_true, if_true, if_false, nI_nem, nI_m1, nI_m7, nI_m15, nI_m32, nI_m4, nI_m8, nI_m16, nI_m2] at hd) <;> (try omega)
      · try simp (disch := omega) only [nI_lit, nI_fold, nI_mul, nI_add, pk_sub, pk_div, nI_shrN, nI_clamp]
        refine xW.fgt 8 ?_
        rw [← ho]
        refine ih (len + 1) (2 * w + tbit T.1 a) (2 * (f + cnt g n len)) (a + 1) M false (by omega) hM (by omega) ?_ (by omega) (by omega) ?_
        · rw [Nat.add_sub_cancel]
          have : 2 ^ len = 2 * 2 ^ (len - 1) := by rw [Nat.mul_comm, ← Nat.pow_succ]; congr 1; omega
          omega
        · rw [← hz, syl, if_neg (by omega), if_neg (by omega)]
      · obtain ⟨i, b1', b2', b3', b4'⟩ := odf_lt (g := g) (n := n) hl1 (show 2 * w + tbit T.1 a - f < cnt g n len by omega)
        have hix : (nI (ofs g n len) + nI (2 * w + tbit T.1 a)) - nI f = nI (ofs g n len + (2 * w + tbit T.1 a - f)) := by
          rw [nI_add, pk_sub (by omega), show ofs g n len + (2 * w + tbit T.1 a) - f = ofs g n len + (2 * w + tbit T.1 a - f) by omega]
        refine ⟨_, ⟨_, h0 _, rfl⟩, _, _, h2 _, ?_, ?_⟩
        · rw [hix]; exact vp_in_nI (by omega) (by decide)
        refine ⟨rfl, Nat.le_refl _, hq _ _ ?_⟩
        rw [hix, nI_clamp (by omega), ← b3', hok.2.2 i b1' b2']
        exact UY.ok (by rw [← hz, syl, if_neg (by omega), if_pos (by omega), b4'])
    · refine ⟨_, ⟨_, rfl, rfl⟩, ?_⟩
      refine xs_callV rfl lk_9_98 (d' := 0) (c_UN_fail) (Nat.le_of_ble_eq_true rfl) rfl rfl rfl rfl rfl (Nat.le_of_ble_eq_true rfl) (by omega) (by omega) ?_
      rintro _ H1 ⟨rfl, rfl⟩
      refine b_UN_readSymbol_32 ?_
      exact ⟨rfl, Nat.le_refl _, hq _ _ (UY.fl (by rw [← hz, syl, if_pos (by omega)]))⟩
theorem c_UN_readSymbol (hT : ∀ i, T.1 i < 256) (he : e ≤ 8 * T.2) (hn : T.2 ≤ 32768) {r b1 b2 b3 : Nat} {c : wRC} {g : Nat → Nat} {n : Nat} (hn2 : n ≤ 288) (ha : a ≤ e)
    (h0 : ∀ a, (hc s0 T R P k (a, e, mb, gs) Z)[r]? = some (cRC b1 b2 b3 c.1)) (h1 : ∀ a, (hc s0 T R P k (a, e, mb, gs) Z)[b1]? = some (aI 16 c.2.1)) (h2 : ∀ a, (hc s0 T R P k (a, e, mb, gs) Z)[b2]? = some (aI 288 c.2.2.1)) (hok : rcOK c g n) : xCr l x 1 0 0 mUN_readSymbol [.ref 51, .ref r] (hc s0 T R P k (a, e, mb, gs) Z) (fun o H' => UY s0 T R P k e mb gs Z (zs T.1 e g n a) o H') := by
  have hc0 := cnt_le g n 0
  refine xCt.of (by decide) rfl ck_UN_readSymbol (Nat.le_of_ble_eq_true rfl) rfl ?_
  refine b_UN_readSymbol_0 ⟨_, ⟨_, rfl, rfl⟩, _, ⟨_, h0 _, rfl⟩, ?_⟩
  rw [hok.1]
  refine ⟨fun hb => ?_, fun hb => ?_⟩ <;> (try simp (disch := omega) only [nI_lit, nI_fold, nI_mul, nI_add, pk_sub, pk_div, nI_shrN, nI_clamp, nI_leI, nI_ltI, nI_eq, not_true_eq_false, not_false_eq_true, Bool.false_eq_true, if_true, if_false, nI_nem, nI_m1, nI_m7, nI_m15, nI_m32, nI_m4, nI_m8, nI_m16, nI_m2] at hb) <;> (try omega)
  · refine UN_sym_loop hT he hn hn2 (by omega) h0 h1 h2 hok _ (fun o H' h => ⟨_, rfl, h⟩) 15 1 0 0 a 15 true (by decide) (by decide) (by decide) (by decide) (by decide) ha ?_
    unfold zs; rw [if_neg (by omega)]
  · refine UN_sym_loop hT he hn hn2 (by omega) h0 h1 h2 hok _ (fun o H' h => ⟨_, rfl, h⟩) 1 1 0 0 a 1 true (by decide) (by decide) (by decide) (by decide) (by decide) ha ?_
    unfold zs; rw [if_pos (by omega)]
theorem c_UN_readHead {w : Nat} (hw : w ≤ 2) (hT : ∀ i, T.1 i < 256) (hn : T.2 ≤ 32768) (h8 : a % 8 = 0) (ha : a ≤ e) (he : e = 8 * T.2) : xCr l x 4 0 0 mUN_readHead [.ref 51, .int (nI w)] (hc s0 T R P k (a, e, mb, gs) Z) (fun o H' => UA s0 T R P k e mb gs Z (zhead T.1 e w a) o H') := by
  refine xCt.of (by decide) rfl ck_UN_readHead (Nat.le_of_ble_eq_true rfl) rfl ?_
  refine b_UN_readHead_0 ?_
  refine ⟨fun hb => ?_, fun hb => ?_⟩ <;> (try simp (disch := omega) only [nI_lit, nI_fold, nI_mul, nI_add, pk_sub, pk_div, nI_shrN, nI_clamp, nI_leI, nI_ltI, nI_eq, not_true_eq_false, not_false_eq_true, Bool.false_eq_true, if_true, if_false, nI_nem, nI_m1, nI_m7, nI_m15, nI_m32, nI_m4, nI_m8, nI_m16, nI_m2] at hb) <;> (try omega)
  · skip
    refine ⟨fun hd => ?_, fun hd => ?_⟩ <;> (try simp (disch := omega) only [nI_lit, nI_fold, nI_mul, nI_add, pk_sub, pk_div, nI_shrN, nI_clamp, nI_leI, nI_ltI, nI_eq, not_true_eq_false, not_false_eq_true, Bool.false_eq_true, if_true, if_false, nI_nem, nI_m1, nI_m7, nI_m15, nI_m32, nI_m4, nI_m8, nI_m16, nI_m2] at hd) <;> (try omega)
    · skip
      refine xs_callV rfl lk_9_108 (d' := 3) (c_UN_readLongHead hT hn h8 ha he) (Nat.le_of_ble_eq_true rfl) rfl rfl rfl rfl rfl (Nat.le_of_ble_eq_true rfl) (by omega) (by omega) ?_
      intro o H1 h1
      rcases h1.cases with ⟨f, p, a', h2, rfl, rfl⟩ | ⟨a', h2, rfl, rfl⟩
      · refine b_UN_readHead_12 ?_
        refine ⟨rfl, rfl, Nat.le_refl _, _, rfl, UA.fl (by unfold zhead; rw [if_neg hb, if_neg hd, h2])⟩
      · refine b_UN_readHead_12 ?_
        refine ⟨rfl, rfl, Nat.le_refl _, _, rfl, UA.ok (by unfold zhead; rw [if_neg hb, if_neg hd, h2])⟩
    · skip
      refine xs_callV rfl lk_9_105 (d' := 2) (c_UN_readShortHead hT ha (by omega)) (Nat.le_of_ble_eq_true rfl) rfl rfl rfl rfl rfl (Nat.le_of_ble_eq_true rfl) (by omega) (by omega) ?_
      intro o H1 h1
      rcases h1.cases with ⟨f, p, a', h2, rfl, rfl⟩ | ⟨a', h2, rfl, rfl⟩
      · refine b_UN_readHead_9 ?_
        refine b_UN_readHead_12 ?_
        refine ⟨rfl, rfl, Nat.le_refl _, _, rfl, UA.fl (by unfold zhead; rw [if_neg hb, if_pos hd, h2])⟩
      · refine b_UN_readHead_9 ?_
        refine b_UN_readHead_12 ?_
        refine ⟨rfl, rfl, Nat.le_refl _, _, rfl, UA.ok (by unfold zhead; rw [if_neg hb, if_pos hd, h2])⟩
  · refine ⟨rfl, rfl, Nat.le_refl _, _, rfl, UA.ok (by unfold zhead; rw [if_pos hb])⟩
theorem c_UN_readTail {w : Nat} (hw : w ≤ 2) (hT : ∀ i, T.1 i < 256) (hR : ∀ i, R.1 i < 256) (hn : T.2 ≤ 32768) (hRn : R.2 ≤ 65536) (hmb : mb ≤ R.2) (h8 : a % 8 = 0) (ha : a ≤ e) (he : e = 8 * T.2) : xCr l x 2 0 0 mUN_readTail [.ref 51, .int (nI w)] (hc s0 T R P k (a, e, mb, gs) Z) (fun o H' => UA s0 T R P k e mb gs Z (ztail T.1 e w R.1 R.2 mb a) o H') := by
  refine xCt.of (by decide) rfl ck_UN_readTail (Nat.le_of_ble_eq_true rfl) rfl ?_
  refine b_UN_readTail_0 ?_
  refine ⟨fun hb => ?_, fun hb => ?_⟩ <;> (try simp (disch := omega) only [nI_lit, nI_fold, nI_mul, nI_add, pk_sub, pk_div, nI_shrN, nI_clamp, nI_leI, nI_ltI, nI_eq, not_true_eq_false, not_false_eq_true, Bool.false_eq_true, if_true, if_false, nI_nem, nI_m1, nI_m7, nI_m15, nI_m32, nI_m4, nI_m8, nI_m16, nI_m2] at hb) <;> (try omega)
  · skip
    refine ⟨fun hd => ?_, fun hd => ?_⟩ <;> (try simp (disch := omega) only [nI_lit, nI_fold, nI_mul, nI_add, pk_sub, pk_div, nI_shrN, nI_clamp, nI_leI, nI_ltI, nI_eq, not_true_eq_false, not_false_eq_true, Bool.false_eq_true, if_true, if_false, nI_nem, nI_m1, nI_m7, nI_m15, nI_m32, nI_m4, nI_m8, nI_m16, nI_m2] at hd) <;> (try omega)
    · refine ⟨_, ⟨_, rfl, rfl⟩, _, ⟨_, rfl, rfl⟩, _, ⟨_, rfl, rfl⟩, _, ⟨_, rfl, rfl⟩, _, ⟨_, rfl, rfl⟩, ?_⟩
      refine xs_callV rfl lk_9_126 (d' := 1) (c_SU_sumB (ra := 6) (N := 65536) (t := R.1) rfl rfl rfl rfl hR hmb hRn (by decide)) (Nat.le_of_ble_eq_true rfl) rfl rfl rfl rfl rfl (Nat.le_of_ble_eq_true rfl) (by omega) (by omega) ?_
      rintro _ H1 ⟨rfl, rfl⟩
      refine b_UN_readTail_32 ?_
      refine xs_callV rfl lk_9_137 (d' := 1) (c_UN_readFourThatAre hT hn h8 ha he false (f := 13) (by decide) (crc_lt hR _ _)) (Nat.le_of_ble_eq_true rfl) rfl rfl rfl rfl rfl (Nat.le_of_ble_eq_true rfl) (by omega) (by omega) ?_
      intro o H1 h1
      have hz : ztail T.1 e w R.1 R.2 mb a = zb (zfour T.1 e false 13 (crc R.1 mb R.2) a) fun a => zfour T.1 e false 14 (R.2 - mb) a := by unfold ztail; rw [if_neg hb, if_neg hd]
      rw [hz]
      rcases h1.cases with ⟨f, p, a', h2, rfl, rfl⟩ | ⟨a', h2, rfl, rfl⟩
      · rw [h2]
        refine b_UN_readTail_35 ?_
        refine ⟨fun hf => ?_, fun hf => ?_⟩ <;> (try simp (disch := omega) only [nI_lit, nI_fold, nI_mul, nI_add, pk_sub, pk_div, nI_shrN, nI_clamp, nI_leI, nI_ltI, nI_eq, not_true_eq_false, not_false_eq_true, Bool.false_eq_true, if_true, if_false, nI_nem, nI_m1, nI_m7, nI_m15, nI_m32, nI_m4, nI_m8, nI_m16, nI_m2] at hf) <;> (try omega)
        refine ⟨rfl, rfl, Nat.le_refl _, _, rfl, UA.fl rfl⟩
      have h3 := zfour_le h2
      rw [h2, zb_r]
      refine b_UN_readTail_35 ?_
      refine ⟨fun hf => ?_, fun hf => ?_⟩ <;> (try simp (disch := omega) only [nI_lit, nI_fold, nI_mul, nI_add, pk_sub, pk_div, nI_shrN, nI_clamp, nI_leI, nI_ltI, nI_eq, not_true_eq_false, not_false_eq_true, Bool.false_eq_true, if_true, if_false, nI_nem, nI_m1, nI_m7, nI_m15, nI_m32, nI_m4, nI_m8, nI_m16, nI_m2] at hf) <;> (try omega)
      refine ⟨_, ⟨_, rfl, rfl⟩, _, ⟨_, rfl, rfl⟩, _, ⟨_, rfl, rfl⟩, ?_⟩
      rw [show nI R.2 - nI (a', e, mb, gs).2.2.1 = nI (R.2 - mb) from pk_sub hmb, nI_l (by omega)]
      refine xs_callV rfl lk_9_137 (d' := 1) (c_UN_readFourThatAre hT hn (by omega) (by omega) he false (f := 14) (by decide) (by omega)) (Nat.le_of_ble_eq_true rfl) rfl rfl rfl rfl rfl (Nat.le_of_ble_eq_true rfl) (by omega) (by omega) ?_
      intro o H1 h1
      rcases h1.cases with ⟨f, p, a2, h2, rfl, rfl⟩ | ⟨a2, h2, rfl, rfl⟩
      · rw [h2]
        refine b_UN_readTail_47 ?_
        refine ⟨fun hf => ?_, fun hf => ?_⟩ <;> (try simp (disch := omega) only [nI_lit, nI_fold, nI_mul, nI_add, pk_sub, pk_div, nI_shrN, nI_clamp, nI_leI, nI_ltI, nI_eq, not_true_eq_false, not_false_eq_true, Bool.false_eq_true, if_true, if_false, nI_nem, nI_m1, nI_m7, nI_m15, nI_m32, nI_m4, nI_m8, nI_m16, nI_m2] at hf) <;> (try omega)
        refine ⟨rfl, rfl, Nat.le_refl _, _, rfl, UA.fl rfl⟩
      · rw [h2]
        refine b_UN_readTail_47 ?_
        refine ⟨fun hf => ?_, fun hf => ?_⟩ <;> (try simp (disch := omega) only [nI_lit, nI_fold, nI_mul, nI_add, pk_sub, pk_div, nI_shrN, nI_clamp, nI_leI, nI_ltI, nI_eq, not_true_eq_false, not_false_eq_true, Bool.false_eq_true, if_true, if_false, nI_nem, nI_m1, nI_m7, nI_m15, nI_m32, nI_m4, nI_m8, nI_m16, nI_m2] at hf) <;> (try omega)
        refine ⟨rfl, rfl, Nat.le_refl _, _, rfl, UA.ok rfl⟩
    · refine ⟨_, ⟨_, rfl, rfl⟩, _, ⟨_, rfl, rfl⟩, _, ⟨_, rfl, rfl⟩, _, ⟨_, rfl, rfl⟩, ?_⟩
      refine xs_callV rfl lk_9_134 (d' := 1) (c_SU_sumA (ra := 6) (N := 65536) (t := R.1) (fm := 0) rfl rfl hR (by omega) hRn (by decide)) (Nat.le_of_ble_eq_true rfl) rfl rfl rfl rfl rfl (Nat.le_of_ble_eq_true rfl) (by omega) (by omega) ?_
      rintro _ H1 ⟨rfl, rfl⟩
      refine b_UN_readTail_17 ?_
      refine xs_callV rfl lk_9_137 (d' := 1) (c_UN_readFourThatAre hT hn h8 ha he true (f := 13) (by decide) (adl_lt _ _ _)) (Nat.le_of_ble_eq_true rfl) rfl rfl rfl rfl rfl (Nat.le_of_ble_eq_true rfl) (by omega) (by omega) ?_
      intro o H1 h1
      have hz : ztail T.1 e w R.1 R.2 mb a = zfour T.1 e true 13 (adl R.1 0 R.2) a := by unfold ztail; rw [if_neg hb, if_pos hd]
      rw [hz]
      rcases h1.cases with ⟨f, p, a', h2, rfl, rfl⟩ | ⟨a', h2, rfl, rfl⟩
      · rw [h2]
        refine b_UN_readTail_20 ?_
        refine ⟨rfl, rfl, Nat.le_refl _, _, rfl, UA.fl rfl⟩
      · rw [h2]
        refine b_UN_readTail_20 ?_
        refine ⟨rfl, rfl, Nat.le_refl _, _, rfl, UA.ok rfl⟩
  · refine ⟨rfl, rfl, Nat.le_refl _, _, rfl, UA.ok (by unfold ztail; rw [if_pos hb])⟩
end USym
