/-! the class takes pieces -/
section Take
variable {l : Launch} {x : xX} {d : Nat} {s0 : va_E} {T R : wRow} {fa pp0 : Int32} {bl st : Nat} {td : wF} {c b p0 p : Nat} {k2 k3 : wWC} {k4 : wMC} {pl pv fwL fwD : wF} {k6 : wFI} {hd : Nat × Nat} {u : wUN} {Z : xH}
theorem c_PK_takeByte (hT : ∀ i, T.1 i < 256) (hp : p < 32768) (hcq : c < 1024) {w : Nat → Nat} (hw : isN fwL 286 w) (hwb : ∀ i, w i < 2 ^ 20) : xCr l x 1 0 0 mPK_takeByte [.ref 11] (hc s0 T R (fa, pp0, bl, st, td) ((c, b, p0, p), k2, k3, k4, (pl, pv, fwL, fwD), k6, hd) u Z) (fun o H' => o = none ∧ H' = hc s0 T R (fa, pp0, bl, st, td) ((c, b, p0, p + 1), k2, k3, k4, (upd pl c (nI 0), upd pv c (nI (T.1 p)), upd fwL (T.1 p) (nI (w (T.1 p) + 1)), fwD), k6, hd) u Z) := by
  have ht := hT p
  have hwv := hwb (T.1 p)
  refine xCt.of (by decide) rfl ck_PK_takeByte (Nat.le_of_ble_eq_true rfl) rfl ?_
  refine b_PK_takeByte_0 ⟨_, ⟨_, rfl, rfl⟩, _, ⟨_, rfl, rfl⟩, ?_⟩
  refine xs_callV rfl lk_4_170 (d' := 0) (c_RO_byteAt (r := 3) (a := 4) (N := 32768) (t := T.1) (n := p) rfl rfl hT hp (by decide)) (Nat.le_of_ble_eq_true rfl) rfl rfl rfl rfl rfl (Nat.le_of_ble_eq_true rfl) (by omega) (by omega) ?_
  rintro _ H1 ⟨rfl, rfl⟩
  generalize T.1 p = v at ht hwv ⊢
  refine b_PK_takeByte_5 ⟨_, ⟨_, rfl, rfl⟩, _, ⟨_, rfl, rfl⟩, _, _, rfl, Nat.le_of_ble_eq_true rfl, vp_in_nI (by omega) (by decide), fun H5 e5 => ?_⟩
  try dsimp only at e5
  rw [nI_clamp (by omega)] at e5
  subst e5
  refine ⟨_, ⟨_, rfl, rfl⟩, _, ⟨_, rfl, rfl⟩, _, _, rfl, Nat.le_of_ble_eq_true rfl, vp_in_nI (by omega) (by decide), fun H10 e10 => ?_⟩
  try dsimp only at e10
  rw [nI_clamp (by omega)] at e10
  subst e10
  refine ⟨_, ⟨_, rfl, rfl⟩, _, _, rfl, vp_in_nI (by omega) (by decide), _, _, rfl, Nat.le_of_ble_eq_true rfl, vp_in_nI (by omega) (by decide), fun H16 e16 => ?_⟩
  try dsimp only at e16
  rw [nI_clamp (by omega), hw _ (by omega), nI_1] at e16
  subst e16
  refine ⟨_, ⟨_, rfl, rfl⟩, _, rfl, Nat.le_of_ble_eq_true rfl, fun H19 e19 => ?_⟩
  rw [nI_1] at e19
  subst e19
  refine ⟨rfl, Nat.le_refl _, _, rfl, ⟨rfl, rfl⟩⟩
theorem c_PK_takeStretch {n dd : Nat} (h3 : 3 ≤ n) (h258 : n ≤ 258) (hd1 : 1 ≤ dd) (hd2 : dd ≤ 4096) (hp : p ≤ 32768) (hcq : c < 1024) (hb : b < 2 ^ 20) (hst : st < 2 ^ 20) {w w2 : Nat → Nat} (hw : isN fwL 286 w) (hwb : ∀ i, w i < 2 ^ 20) (hw2 : isN fwD 30 w2) (hwb2 : ∀ i, w2 i < 2 ^ 20) : xCr l x 2 0 0 mPK_takeStretch [.ref 11, .int (nI n), .int (nI dd)] (hc s0 T R (fa, pp0, bl, st, td) ((c, b, p0, p), k2, k3, k4, (pl, pv, fwL, fwD), k6, hd) u Z) (fun o H' => o = none ∧ H' = hc s0 T R (fa, pp0, bl, st + 1, td) ((c, b + (lbts (lsN n) + dbts (dsN dd)), p0, p + n), k2, k3, k4, (upd pl c (nI n), upd pv c (nI dd), upd fwL (257 + lsN n) (nI (w (257 + lsN n) + 1)), upd fwD (dsN dd) (nI (w2 (dsN dd) + 1))), k6, hd) u Z) := by
  have q1 := (lsN_all (len := n) (by omega) h3).1
  have q2 := (dsN_all (dd - 1) (by omega)).1
  rw [show dd - 1 + 1 = dd by omega] at q2
  have w1 := hwb (257 + lsN n)
  have w3 := hwb2 (dsN dd)
  have l1 := (lbts_le (lsN n) q1).1
  have l2 := (dbts_le (dsN dd) q2).1
  refine xCt.of (by decide) rfl ck_PK_takeStretch (Nat.le_of_ble_eq_true rfl) rfl ?_
  refine b_PK_takeStretch_0 ?_
  refine xs_callSN rfl lk_4_173 (d' := 1) (c_RP_lengthSymbol h3 h258) (Nat.le_of_ble_eq_true rfl) rfl rfl (Nat.le_of_ble_eq_true rfl) (by omega) (by omega) ?_
  rintro _ H1 ⟨rfl, rfl⟩
  refine b_PK_takeStretch_2 ?_
  refine xs_callSN rfl lk_4_176 (d' := 1) (c_RP_distanceSymbol hd1 (by omega)) (Nat.le_of_ble_eq_true rfl) rfl rfl (Nat.le_of_ble_eq_true rfl) (by omega) (by omega) ?_
  rintro _ H1 ⟨rfl, rfl⟩
  refine b_PK_takeStretch_5 ⟨_, ⟨_, rfl, rfl⟩, _, ⟨_, rfl, rfl⟩, _, _, rfl, Nat.le_of_ble_eq_true rfl, vp_in_nI (by omega) (by decide), fun H5 e5 => ?_⟩
  try dsimp only at e5
  rw [nI_clamp (by omega)] at e5
  subst e5
  refine ⟨_, ⟨_, rfl, rfl⟩, _, ⟨_, rfl, rfl⟩, _, _, rfl, Nat.le_of_ble_eq_true rfl, vp_in_nI (by omega) (by decide), fun H10 e10 => ?_⟩
  try dsimp only at e10
  rw [nI_clamp (by omega)] at e10
  subst e10
  rw [show (257 : Int32) + nI (lsN n) = nI (257 + lsN n) from nI_add 257 _]
  refine ⟨_, ⟨_, rfl, rfl⟩, _, _, rfl, vp_in_nI (by omega) (by decide), _, _, rfl, Nat.le_of_ble_eq_true rfl, vp_in_nI (by omega) (by decide), fun H16 e16 => ?_⟩
  try dsimp only at e16
  rw [nI_clamp (by omega), hw _ (by omega), nI_1] at e16
  subst e16
  refine ⟨_, ⟨_, rfl, rfl⟩, _, _, rfl, vp_in_nI (by omega) (by decide), _, _, rfl, Nat.le_of_ble_eq_true rfl, vp_in_nI (by omega) (by decide), fun H22 e22 => ?_⟩
  try dsimp only at e22
  rw [nI_clamp (by omega), hw2 _ (by omega), nI_1] at e22
  subst e22
  refine ⟨_, ⟨_, rfl, rfl⟩, ?_⟩
  refine xs_callSN rfl lk_4_179 (d' := 0) (c_RP_lengthBits q1) (Nat.le_of_ble_eq_true rfl) rfl rfl (Nat.le_of_ble_eq_true rfl) (by omega) (by omega) ?_
  rintro _ H1 ⟨rfl, rfl⟩
  refine b_PK_takeStretch_41 ?_
  refine xs_callSN rfl lk_4_182 (d' := 0) (c_RP_distanceBits q2) (Nat.le_of_ble_eq_true rfl) rfl rfl (Nat.le_of_ble_eq_true rfl) (by omega) (by omega) ?_
  rintro _ H1 ⟨rfl, rfl⟩
  refine b_PK_takeStretch_43 ⟨_, rfl, Nat.le_of_ble_eq_true rfl, fun H2 e2 => ?_⟩
  rw [nI_add, nI_add] at e2
  subst e2
  refine ⟨_, ⟨_, rfl, rfl⟩, _, rfl, Nat.le_of_ble_eq_true rfl, fun H5 e5 => ?_⟩
  rw [nI_add] at e5
  subst e5
  refine ⟨_, ⟨_, rfl, rfl⟩, _, ⟨_, rfl, rfl⟩, _, rfl, Nat.le_of_ble_eq_true rfl, fun H9 e9 => ?_⟩
  rw [nI_1] at e9
  subst e9
  refine ⟨rfl, Nat.le_refl _, _, rfl, ⟨rfl, rfl⟩⟩
/-- the arrays hold the first c pieces of the block from p0 -/
def PKa (t : Nat → Nat) (n p0 c : Nat) (k : wF × wF × wF × wF) : Prop := (∀ i, i < c → k.1 i = nI (if isS t n (pp t n p0 i) then pcL t n (pp t n p0 i) else 0) ∧ k.2.1 i = nI (pcV t n (pp t n p0 i))) ∧ isN k.2.2.1 286 (wLt t n p0 c) ∧ isN k.2.2.2 30 (wDt t n p0 c)
theorem bnm_le (t : Nat → Nat) (n p0 : Nat) : ∀ c, bnm t n p0 c ≤ 18 * c := by
  intro c
  induction c with
  | zero => exact Nat.le_refl _
  | succ c ih =>
    unfold bnm
    split
    · rename_i h
      have a := pc_s h
      have q1 := (lsN_all (len := pcL t n (pp t n p0 c)) (by omega) a.2.2.1).1
      have q2 := (dsN_all (pcV t n (pp t n p0 c) - 1) (by omega)).1
      rw [show pcV t n (pp t n p0 c) - 1 + 1 = pcV t n (pp t n p0 c) by omega] at q2
      have l1 := (lbts_le _ q1).1
      have l2 := (dbts_le _ q2).1
      omega
    · omega
theorem PKa.byte {t : Nat → Nat} {n p0 c : Nat} {k : wF × wF × wF × wF} (h : PKa t n p0 c k) (hs : isS t n (pp t n p0 c) = false) : PKa t n p0 (c + 1) (upd k.1 c (nI 0), upd k.2.1 c (nI (t (pp t n p0 c))), upd k.2.2.1 (t (pp t n p0 c)) (nI (wLt t n p0 c (t (pp t n p0 c)) + 1)), k.2.2.2) := by
  obtain ⟨h1, h2, h3⟩ := h
  refine ⟨fun i hi => ?_, fun i hi => ?_, fun i hi => ?_⟩
  · dsimp only
    unfold upd
    by_cases e : i = c
    · subst e
      rw [if_pos rfl, if_pos rfl, hs, (pc_b hs).2]
      exact ⟨rfl, rfl⟩
    · rw [if_neg e, if_neg e]
      exact h1 i (by omega)
  · dsimp only
    show upd k.2.2.1 _ _ i = nI (nup (wLt t n p0 c) (psy t n (pp t n p0 c)) (wLt t n p0 c (psy t n (pp t n p0 c)) + 1) i)
    rw [show psy t n (pp t n p0 c) = t (pp t n p0 c) by unfold psy; rw [hs]; rfl]
    unfold upd nup
    split
    · rfl
    · exact h2 i hi
  · dsimp only
    rw [h3 i hi]
    show nI (wDt t n p0 c i) = nI ((if isS t n (pp t n p0 c) then _ else wDt t n p0 c) i)
    rw [hs]
    rfl
theorem PKa.str {t : Nat → Nat} {n p0 c : Nat} {k : wF × wF × wF × wF} (h : PKa t n p0 c k) (hs : isS t n (pp t n p0 c) = true) : PKa t n p0 (c + 1) (upd k.1 c (nI (pcL t n (pp t n p0 c))), upd k.2.1 c (nI (pcV t n (pp t n p0 c))), upd k.2.2.1 (257 + lsN (pcL t n (pp t n p0 c))) (nI (wLt t n p0 c (257 + lsN (pcL t n (pp t n p0 c))) + 1)), upd k.2.2.2 (dsN (pcV t n (pp t n p0 c))) (nI (wDt t n p0 c (dsN (pcV t n (pp t n p0 c))) + 1))) := by
  obtain ⟨h1, h2, h3⟩ := h
  refine ⟨fun i hi => ?_, fun i hi => ?_, fun i hi => ?_⟩
  · dsimp only
    unfold upd
    by_cases e : i = c
    · subst e
      rw [if_pos rfl, if_pos rfl, if_pos hs]
      exact ⟨rfl, rfl⟩
    · rw [if_neg e, if_neg e]
      exact h1 i (by omega)
  · dsimp only
    show upd k.2.2.1 _ _ i = nI (nup (wLt t n p0 c) (psy t n (pp t n p0 c)) (wLt t n p0 c (psy t n (pp t n p0 c)) + 1) i)
    rw [show psy t n (pp t n p0 c) = 257 + lsN (pcL t n (pp t n p0 c)) by unfold psy; rw [if_pos hs]]
    unfold upd nup
    split
    · rfl
    · exact h2 i hi
  · dsimp only
    rw [show wDt t n p0 (c + 1) = nup (wDt t n p0 c) (dsN (pcV t n (pp t n p0 c))) (wDt t n p0 c (dsN (pcV t n (pp t n p0 c))) + 1) from if_pos hs]
    unfold upd nup
    split
    · rfl
    · exact h3 i hi
theorem FIb.mo {t : Nat → Nat} {n p p' : Nat} {f : wFI} (h : FIb t n f p) (hp : p ≤ p') : FIb t n f p' := by
  obtain ⟨h1, h2, h3⟩ := h
  refine ⟨h1, by omega, ?_⟩
  rcases h3 with h3 | ⟨q, a, b, e, g⟩
  · exact Or.inl h3
  · exact Or.inr ⟨q, a, by omega, e, g⟩
theorem c_PK_takePiece (hT : ∀ i, T.1 i < 256) (hn : T.2 ≤ 32768) {p0 c : Nat} (hcq : c < 1024) (hp : pp T.1 T.2 p0 c < T.2) {k5 : wF × wF × wF × wF} (hk : PKa T.1 T.2 p0 c k5) (hf : FIb T.1 T.2 k6 (pp T.1 T.2 p0 c)) (hst : st + scn T.1 T.2 p0 c < 2 ^ 20) : xCr l x 3 0 0 mPK_takePiece [.ref 11] (hc s0 T R (fa, pp0, bl, st + scn T.1 T.2 p0 c, td) ((c, bnm T.1 T.2 p0 c, p0, pp T.1 T.2 p0 c), k2, k3, k4, k5, k6, hd) u Z) (fun o H' => o = none ∧ ∃ k5' k6', PKa T.1 T.2 p0 (c + 1) k5' ∧ FIb T.1 T.2 k6' (pp T.1 T.2 p0 (c + 1)) ∧ H' = hc s0 T R (fa, pp0, bl, st + scn T.1 T.2 p0 (c + 1), td) ((c, bnm T.1 T.2 p0 (c + 1), p0, pp T.1 T.2 p0 (c + 1)), k2, k3, k4, k5', k6', hd) u Z) := by
  have hpc := pc_ok (t := T.1) hp
  have hbn := bnm_le T.1 T.2 p0 c
  have hpn : pp T.1 T.2 p0 (c + 1) = pp T.1 T.2 p0 c + pcL T.1 T.2 (pp T.1 T.2 p0 c) := rfl
  have hbs : ∀ i, wLt T.1 T.2 p0 c i < 2 ^ 20 := fun i => by have := wLt_le T.1 T.2 p0 c i; omega
  have hds : ∀ i, wDt T.1 T.2 p0 c i < 2 ^ 20 := fun i => by have := wDt_le T.1 T.2 p0 c i; omega
  obtain ⟨pl, pv, fwL, fwD⟩ := k5
  refine xCt.of (by decide) rfl ck_PK_takePiece (Nat.le_of_ble_eq_true rfl) rfl ?_
  generalize List.length (hc s0 T R (fa, pp0, bl, st + scn T.1 T.2 p0 c, td) ((c, bnm T.1 T.2 p0 c, p0, pp T.1 T.2 p0 c), k2, k3, k4, (pl, pv, fwL, fwD), k6, hd) u Z) = n0
  refine b_PK_takePiece_0 ⟨_, ⟨_, rfl, rfl⟩, _, ⟨_, rfl, rfl⟩, ?_⟩
  refine xs_callV rfl lk_4_155 (d' := 2) (c_FI_find hT hn (f := k6) (p := pp T.1 T.2 p0 c) (by omega) hf) (Nat.le_of_ble_eq_true rfl) rfl rfl rfl rfl rfl (Nat.le_of_ble_eq_true rfl) (by omega) (by omega) ?_
  rintro _ H1 ⟨rfl, f1, hf1, hen1, ⟨r1, r2⟩, rfl⟩
  -- a byte
  have kB : ∀ (f2 : wFI) (v1 v2 : Int32) (cl : Bool), isS T.1 T.2 (pp T.1 T.2 p0 c) = false → FIb T.1 T.2 f2 (pp T.1 T.2 p0 c + 1) → xW l x 3 0 0 mPK_takePiece n0 (fun r H' => ∃ o, r = Sum.inl o ∧ o = none ∧ ∃ k5' k6', PKa T.1 T.2 p0 (c + 1) k5' ∧ FIb T.1 T.2 k6' (pp T.1 T.2 p0 (c + 1)) ∧ H' = hc s0 T R (fa, pp0, bl, st + scn T.1 T.2 p0 (c + 1), td) ((c, bnm T.1 T.2 p0 (c + 1), p0, pp T.1 T.2 p0 (c + 1)), k2, k3, k4, k5', k6', hd) u Z) cl 40 [some (.ref 11), some (.int v1), some (.int v2)] [.ref 11] (hc s0 T R (fa, pp0, bl, st + scn T.1 T.2 p0 c, td) ((c, bnm T.1 T.2 p0 c, p0, pp T.1 T.2 p0 c), k2, k3, k4, (pl, pv, fwL, fwD), f2, hd) u Z) 0 0 := by
    intro f2 v1 v2 cl hs hf2
    have hk2 := hk.byte hs
    rw [(pc_b hs).1] at hpn
    refine xs_callV rfl lk_4_167 (d' := 1) (c_PK_takeByte hT (by omega) hcq hk.2.1 hbs) (Nat.le_of_ble_eq_true rfl) rfl rfl rfl rfl rfl (Nat.le_of_ble_eq_true rfl) (by omega) (by omega) ?_
    rintro _ H1 ⟨rfl, rfl⟩
    refine b_PK_takePiece_41 ?_
    refine ⟨rfl, Nat.le_refl _, _, rfl, rfl, _, f2, hk2, by rw [hpn]; exact hf2, ?_⟩
    rw [hpn, show scn T.1 T.2 p0 (c + 1) = scn T.1 T.2 p0 c by show (if isS T.1 T.2 (pp T.1 T.2 p0 c) then _ else scn T.1 T.2 p0 c) = _; rw [hs]; rfl, show bnm T.1 T.2 p0 (c + 1) = bnm T.1 T.2 p0 c by show (if isS T.1 T.2 (pp T.1 T.2 p0 c) then _ else bnm T.1 T.2 p0 c) = _; rw [hs]; rfl]
  -- a stretch
  have kS : ∀ (f2 : wFI) (v1 v2 : Int32) (cl : Bool), isS T.1 T.2 (pp T.1 T.2 p0 c) = true → FIb T.1 T.2 f2 (pp T.1 T.2 p0 c + 1) → xW l x 3 0 0 mPK_takePiece n0 (fun r H' => ∃ o, r = Sum.inl o ∧ o = none ∧ ∃ k5' k6', PKa T.1 T.2 p0 (c + 1) k5' ∧ FIb T.1 T.2 k6' (pp T.1 T.2 p0 (c + 1)) ∧ H' = hc s0 T R (fa, pp0, bl, st + scn T.1 T.2 p0 (c + 1), td) ((c, bnm T.1 T.2 p0 (c + 1), p0, pp T.1 T.2 p0 (c + 1)), k2, k3, k4, k5', k6', hd) u Z) cl 37 [some (.ref 11), some (.int v1), some (.int v2)] [.int (nI (stO T.1 T.2 (pp T.1 T.2 p0 c)).2), .int (nI (stO T.1 T.2 (pp T.1 T.2 p0 c)).1), .ref 11] (hc s0 T R (fa, pp0, bl, st + scn T.1 T.2 p0 c, td) ((c, bnm T.1 T.2 p0 c, p0, pp T.1 T.2 p0 c), k2, k3, k4, (pl, pv, fwL, fwD), f2, hd) u Z) 0 0 := by
    intro f2 v1 v2 cl hs hf2
    have hk2 := hk.str hs
    obtain ⟨s1, s2, s3, s4, s5, s6⟩ := pc_s hs
    rw [← s1, ← s2]
    refine xs_callV rfl lk_4_164 (d' := 2) (c_PK_takeStretch s3 s4 s5 s6 (by omega) hcq (by omega) hst hk.2.1 hbs hk.2.2 hds) (Nat.le_of_ble_eq_true rfl) rfl rfl rfl rfl rfl (Nat.le_of_ble_eq_true rfl) (by omega) (by omega) ?_
    rintro _ H1 ⟨rfl, rfl⟩
    refine b_PK_takePiece_38 ?_
    refine b_PK_takePiece_41 ?_
    refine ⟨rfl, Nat.le_refl _, _, rfl, rfl, _, f2, hk2, by rw [hpn]; exact hf2.mo (by omega), ?_⟩
    rw [hpn, show scn T.1 T.2 p0 (c + 1) = scn T.1 T.2 p0 c + 1 from if_pos hs, show bnm T.1 T.2 p0 (c + 1) = bnm T.1 T.2 p0 c + (lbts (lsN (pcL T.1 T.2 (pp T.1 T.2 p0 c))) + dbts (dsN (pcV T.1 T.2 (pp T.1 T.2 p0 c)))) from if_pos hs]
    rfl
  have hSO : ∀ b, isS T.1 T.2 (pp T.1 T.2 p0 c) = b ↔ (decide (0 < (stO T.1 T.2 (pp T.1 T.2 p0 c)).1) && decide ((stO T.1 T.2 (pp T.1 T.2 p0 c + 1)).1 ≤ (stO T.1 T.2 (pp T.1 T.2 p0 c)).1)) = b := fun b => Iff.rfl
  generalize hq : stO T.1 T.2 (pp T.1 T.2 p0 c) = sq at *
  have hsq : sq.1 ≤ 258 := by
    by_cases h0 : 0 < sq.1
    · have := stO_ok (t := T.1) (n := T.2) (p := pp T.1 T.2 p0 c) (by rw [hq]; exact h0)
      rw [hq] at this
      omega
    · omega
  have hsn : (stO T.1 T.2 (pp T.1 T.2 p0 c + 1)).1 ≤ 258 := by
    by_cases h0 : 0 < (stO T.1 T.2 (pp T.1 T.2 p0 c + 1)).1
    · have := stO_ok h0
      omega
    · omega
  obtain ⟨g1, g2, g3, g4, g5, g6⟩ := f1
  dsimp only at r1 r2
  subst r1
  refine b_PK_takePiece_5 ⟨_, ⟨_, rfl, rfl⟩, _, ⟨_, rfl, rfl⟩, _, ⟨_, rfl, rfl⟩, _, ⟨_, rfl, rfl⟩, ?_⟩
  refine ⟨fun hb => ?_, fun hb => ?_⟩ <;> (try simp (disch := omega) only [nI_lit, nI_fold, nI_mul, nI_add, pk_sub, pk_div, nI_shrN, nI_clamp, nI_leI, nI_ltI, nI_eq, not_true_eq_false, not_false_eq_true, Bool.false_eq_true, if_true, if_false, nI_nem, nI_m1, nI_m7, nI_m15, nI_m32, nI_m4, nI_m8, nI_m16, nI_m2] at hb) <;> (try omega)
  · refine ⟨fun hd => ?_, fun hd => ?_⟩ <;> (try simp (disch := omega) only [nI_lit, nI_fold, nI_mul, nI_add, pk_sub, pk_div, nI_shrN, nI_clamp, nI_leI, nI_ltI, nI_eq, not_true_eq_false, not_false_eq_true, Bool.false_eq_true, if_true, if_false, nI_nem, nI_m1, nI_m7, nI_m15, nI_m32, nI_m4, nI_m8, nI_m16, nI_m2] at hd) <;> (try omega)
    refine kB _ _ _ _ ((hSO false).mpr (by simp; omega)) (hf1.mo (by omega))
  have r2 := r2 (by omega)
  subst r2
  refine ⟨fun hd => ?_, fun hd => ?_⟩ <;> (try simp (disch := omega) only [nI_lit, nI_fold, nI_mul, nI_add, pk_sub, pk_div, nI_shrN, nI_clamp, nI_leI, nI_ltI, nI_eq, not_true_eq_false, not_false_eq_true, Bool.false_eq_true, if_true, if_false, nI_nem, nI_m1, nI_m7, nI_m15, nI_m32, nI_m4, nI_m8, nI_m16, nI_m2] at hd) <;> (try omega)
  · refine ⟨fun he => ?_, fun he => ?_⟩ <;> (try simp (disch := omega) only [nI_lit, nI_fold, nI_mul, nI_add, pk_sub, pk_div, nI_shrN, nI_clamp, nI_leI, nI_ltI, nI_eq, not_true_eq_false, not_false_eq_true, Bool.false_eq_true, if_true, if_false, nI_nem, nI_m1, nI_m7, nI_m15, nI_m32, nI_m4, nI_m8, nI_m16, nI_m2] at he) <;> (try omega)
    exact kS _ _ _ _ ((hSO true).mpr (by simp; omega)) (hf1.mo (by omega))
  refine ⟨_, ⟨_, rfl, rfl⟩, _, ⟨_, rfl, rfl⟩, ?_⟩
  rw [nI_1]
  refine xs_callV rfl lk_4_155 (d' := 2) (c_FI_find hT hn (p := pp T.1 T.2 p0 c + 1) (by omega) (hf1.mo (by omega))) (Nat.le_of_ble_eq_true rfl) rfl rfl rfl rfl rfl (Nat.le_of_ble_eq_true rfl) (by omega) (by omega) ?_
  rintro _ H1 ⟨rfl, f2, hf2, hen2, ⟨r3, r4⟩, rfl⟩
  obtain ⟨j1, j2, j3, j4, j5, j6⟩ := f2
  dsimp only at r3 r4
  subst r3
  refine b_PK_takePiece_25 ⟨_, ⟨_, rfl, rfl⟩, _, ⟨_, rfl, rfl⟩, ?_⟩
  refine ⟨fun he => ?_, fun he => ?_⟩ <;> (try simp (disch := omega) only [nI_lit, nI_fold, nI_mul, nI_add, pk_sub, pk_div, nI_shrN, nI_clamp, nI_leI, nI_ltI, nI_eq, not_true_eq_false, not_false_eq_true, Bool.false_eq_true, if_true, if_false, nI_nem, nI_m1, nI_m7, nI_m15, nI_m32, nI_m4, nI_m8, nI_m16, nI_m2] at he) <;> (try omega)
  · refine ⟨fun hg => ?_, fun hg => ?_⟩ <;> (try simp (disch := omega) only [nI_lit, nI_fold, nI_mul, nI_add, pk_sub, pk_div, nI_shrN, nI_clamp, nI_leI, nI_ltI, nI_eq, not_true_eq_false, not_false_eq_true, Bool.false_eq_true, if_true, if_false, nI_nem, nI_m1, nI_m7, nI_m15, nI_m32, nI_m4, nI_m8, nI_m16, nI_m2] at hg) <;> (try omega)
    exact kS _ _ _ _ ((hSO true).mpr (by simp; omega)) hf2
  · refine ⟨fun _ => ?_, fun h => absurd (by decide) h⟩
    exact kB _ _ _ _ ((hSO false).mpr (by simp; omega)) hf2
theorem c_PK_takePieces (hT : ∀ i, T.1 i < 256) (hn : T.2 ≤ 32768) {a : Nat} (ha : a ≤ T.2) (hf : FIb T.1 T.2 k6 a) (hst : st ≤ a) : xCr l x 4 0 0 mPK_takePieces [.ref 11] (hc s0 T R (fa, pp0, bl, st, td) ((c, b, p0, a), k2, k3, k4, (pl, pv, fwL, fwD), k6, hd) u Z) (fun o H' => o = none ∧ ∃ k5' k6', PKa T.1 T.2 a (npc T.1 T.2 a) k5' ∧ FIb T.1 T.2 k6' (pend T.1 T.2 a) ∧ H' = hc s0 T R (fa, pp0, bl, st + scn T.1 T.2 a (npc T.1 T.2 a), td) ((npc T.1 T.2 a, bnm T.1 T.2 a (npc T.1 T.2 a), a, pend T.1 T.2 a), k2, k3, k4, k5', k6', hd) u Z) := by
  obtain ⟨o1, o2, o3⟩ := npc_ok T.1 T.2 a
  have hpp := pp_le (t := T.1) (n := T.2) (p0 := a) ha
  have hscn : ∀ c, scn T.1 T.2 a c ≤ c := by
    intro c
    induction c with
    | zero => exact Nat.le_refl _
    | succ c ih => unfold scn; split <;> omega
  refine xCt.of (by decide) rfl ck_PK_takePieces (Nat.le_of_ble_eq_true rfl) rfl ?_
  generalize List.length (hc s0 T R (fa, pp0, bl, st, td) ((c, b, p0, a), k2, k3, k4, (pl, pv, fwL, fwD), k6, hd) u Z) = n0
  refine b_PK_takePieces_0 ⟨_, ⟨_, rfl, rfl⟩, _, rfl, Nat.le_of_ble_eq_true rfl, fun H3 e3 => ?_⟩
  try simp (disch := omega) only [nI_lit, nI_fold, nI_mul, nI_add, pk_sub, pk_div, nI_shrN, nI_clamp] at e3
  subst e3
  refine ⟨_, rfl, Nat.le_of_ble_eq_true rfl, fun H5 e5 => ?_⟩
  try simp (disch := omega) only [nI_lit, nI_fold, nI_mul, nI_add, pk_sub, pk_div, nI_shrN, nI_clamp] at e5
  subst e5
  refine ⟨_, rfl, Nat.le_of_ble_eq_true rfl, fun H7 e7 => ?_⟩
  try simp (disch := omega) only [nI_lit, nI_fold, nI_mul, nI_add, pk_sub, pk_div, nI_shrN, nI_clamp] at e7
  subst e7
  refine ⟨_, ⟨_, rfl, rfl⟩, ?_⟩
  refine xs_callS rfl lk_4_78 (d' := 0) (c_AR_fill (N := 286) (f := fwL) rfl (by decide) (by decide)) (Nat.le_of_ble_eq_true rfl) rfl rfl (Nat.le_of_ble_eq_true rfl) (by omega) (by omega) ?_
  rintro _ H1 ⟨rfl, rfl⟩
  refine b_PK_takePieces_14 ⟨_, ⟨_, rfl, rfl⟩, ?_⟩
  refine xs_callS rfl lk_4_78 (d' := 0) (c_AR_fill (N := 30) (f := fwD) rfl (by decide) (by decide)) (Nat.le_of_ble_eq_true rfl) rfl rfl (Nat.le_of_ble_eq_true rfl) (by omega) (by omega) ?_
  rintro _ H1 ⟨rfl, rfl⟩
  refine b_PK_takePieces_18 ⟨_, ⟨_, rfl, rfl⟩, _, _, rfl, Nat.le_of_ble_eq_true rfl, (by (try simp (disch := omega) only [nI_lit, nI_fold, nI_mul, nI_add, pk_sub, pk_div, nI_shrN, nI_clamp]); (with_reducible refine vp_in_nI ?_ ?_) <;> omega), fun H4 e4 => ?_⟩
  try simp (disch := omega) only [nI_lit, nI_fold, nI_mul, nI_add, pk_sub, pk_div, nI_shrN, nI_clamp] at e4
  subst e4
  have hk0 : PKa T.1 T.2 a 0 (pl, pv, upd (x_fil fwL 0 0 286) 256 (nI 1), x_fil fwD 0 0 30) := by
    refine ⟨fun i hi => absurd hi (Nat.not_lt_zero _), fun i hi => ?_, fun i hi => ?_⟩
    · show upd (x_fil fwL 0 0 286) 256 (nI 1) i = nI (nup (fun _ => 0) 256 1 i)
      unfold upd nup
      split
      · rfl
      · unfold x_fil
        rw [if_pos ⟨Nat.zero_le _, hi⟩]
        rfl
    · show x_fil fwD 0 0 30 i = nI 0
      unfold x_fil
      rw [if_pos ⟨Nat.zero_le _, hi⟩]
      rfl
  have h : ∀ (j c : Nat) (k5 : wF × wF × wF × wF) (k6 : wFI) (cl : Bool), c + j = npc T.1 T.2 a → PKa T.1 T.2 a c k5 → FIb T.1 T.2 k6 (pp T.1 T.2 a c) → xW l x 4 0 0 mPK_takePieces n0 (fun r H' => ∃ o, r = Sum.inl o ∧ o = none ∧ ∃ k5' k6', PKa T.1 T.2 a (npc T.1 T.2 a) k5' ∧ FIb T.1 T.2 k6' (pend T.1 T.2 a) ∧ H' = hc s0 T R (fa, pp0, bl, st + scn T.1 T.2 a (npc T.1 T.2 a), td) ((npc T.1 T.2 a, bnm T.1 T.2 a (npc T.1 T.2 a), a, pend T.1 T.2 a), k2, k3, k4, k5', k6', hd) u Z) cl 23 [some (.ref 11)] [] (hc s0 T R (fa, pp0, bl, st + scn T.1 T.2 a c, td) ((c, bnm T.1 T.2 a c, a, pp T.1 T.2 a c), k2, k3, k4, k5, k6, hd) u Z) 0 0 := by
    intro j
    induction j with
    | zero =>
      intro c k5 k6 cl hj hk hf
      have : c = npc T.1 T.2 a := by omega
      subst this
      have hpe := hpp _ (Nat.le_refl _)
      refine b_PK_takePieces_23 ⟨_, ⟨_, rfl, rfl⟩, ?_⟩
      refine ⟨fun hb => ?_, fun hb => ?_⟩ <;> (try simp (disch := omega) only [nI_lit, nI_fold, nI_mul, nI_add, pk_sub, pk_div, nI_shrN, nI_clamp, nI_leI, nI_ltI, nI_eq, not_true_eq_false, not_false_eq_true, Bool.false_eq_true, if_true, if_false, nI_nem, nI_m1, nI_m7, nI_m15, nI_m32, nI_m4, nI_m8, nI_m16, nI_m2] at hb) <;> (try omega)
      · refine ⟨rfl, Nat.le_refl _, _, rfl, ⟨rfl, k5, k6, hk, hf, rfl⟩⟩
      refine ⟨_, ⟨_, rfl, rfl⟩, _, ⟨_, rfl, rfl⟩, _, ⟨_, rfl, rfl⟩, ?_⟩
      have := o3 (by omega)
      refine ⟨fun hd => ?_, fun hd => ?_⟩ <;> (try simp (disch := omega) only [nI_lit, nI_fold, nI_mul, nI_add, pk_sub, pk_div, nI_shrN, nI_clamp, nI_leI, nI_ltI, nI_eq, not_true_eq_false, not_false_eq_true, Bool.false_eq_true, if_true, if_false, nI_nem, nI_m1, nI_m7, nI_m15, nI_m32, nI_m4, nI_m8, nI_m16, nI_m2] at hd) <;> (try omega)
      refine ⟨rfl, Nat.le_refl _, _, rfl, ⟨rfl, k5, k6, hk, hf, rfl⟩⟩
    | succ j ih =>
      intro c k5 k6 cl hj hk hf
      have h1 := o2 c (by omega)
      have h2 := hscn c
      have hpe := hpp c (by omega)
      refine b_PK_takePieces_23 ⟨_, ⟨_, rfl, rfl⟩, ?_⟩
      refine ⟨fun hb => ?_, fun hb => ?_⟩ <;> (try simp (disch := omega) only [nI_lit, nI_fold, nI_mul, nI_add, pk_sub, pk_div, nI_shrN, nI_clamp, nI_leI, nI_ltI, nI_eq, not_true_eq_false, not_false_eq_true, Bool.false_eq_true, if_true, if_false, nI_nem, nI_m1, nI_m7, nI_m15, nI_m32, nI_m4, nI_m8, nI_m16, nI_m2] at hb) <;> (try omega)
      refine ⟨_, ⟨_, rfl, rfl⟩, _, ⟨_, rfl, rfl⟩, _, ⟨_, rfl, rfl⟩, ?_⟩
      refine ⟨fun hd => ?_, fun hd => ?_⟩ <;> (try simp (disch := omega) only [nI_lit, nI_fold, nI_mul, nI_add, pk_sub, pk_div, nI_shrN, nI_clamp, nI_leI, nI_ltI, nI_eq, not_true_eq_false, not_false_eq_true, Bool.false_eq_true, if_true, if_false, nI_nem, nI_m1, nI_m7, nI_m15, nI_m32, nI_m4, nI_m8, nI_m16, nI_m2] at hd) <;> (try omega)
      refine xs_callV rfl lk_4_152 (d' := 3) (c_PK_takePiece hT hn (by omega) h1 hk hf (by omega)) (Nat.le_of_ble_eq_true rfl) rfl rfl rfl rfl rfl (Nat.le_of_ble_eq_true rfl) (by omega) (by omega) ?_
      rintro _ H1 ⟨rfl, k5', k6', hk', hf', rfl⟩
      refine b_PK_takePieces_35 ⟨_, ⟨_, rfl, rfl⟩, _, rfl, Nat.le_of_ble_eq_true rfl, fun H3 e3 => ?_⟩
      try simp (disch := omega) only [nI_lit, nI_fold, nI_mul, nI_add, pk_sub, pk_div, nI_shrN, nI_clamp] at e3
      subst e3
      exact ih (c + 1) k5' k6' false (by omega) hk' hf'
  exact h (npc T.1 T.2 a) 0 _ k6 false (by omega) hk0 hf
end Take
