/-! the model's pieces -/
def MPa (t : Nat → Nat) (n p0 c : Nat) (pl pv : wF) : Prop := ∀ i, i < c → pl i = nI (pcL t n (pp t n p0 i)) ∧ pv i = nI (pcV t n (pp t n p0 i))
theorem pc_1 {t : Nat → Nat} (ht : ∀ i, t i < 256) {n p : Nat} : (pcL t n p = 1 ↔ isS t n p = false) ∧ pcL t n p ≤ 258 ∧ pcV t n p ≤ 4096 := by
  cases h : isS t n p with
  | false => have h1 := pc_b h; have h2 := ht p; exact ⟨⟨fun _ => rfl, fun _ => h1.1⟩, by omega, by omega⟩
  | true => have := pc_s h; exact ⟨⟨fun h => by omega, fun h => by cases h⟩, by omega, by omega⟩
def WTok (t : Nat → Nat) (n p0 c : Nat) (wt : Nat → Int64) : Prop := (∀ i, i < 286 → wt i = lN (wLt t n p0 c i)) ∧ (∀ j, j < 30 → wt (400 + j) = lN (wDt t n p0 c j)) ∧ ∀ k, k < 19 → wt (500 + k) = lN 0
section MPieces
variable {l : Launch} {x : xX} {d : Nat} {C : Nat → va_E} {cd : Int32} {T R : wRow} {P : wRp} {K : wK4} {a mb : Nat} {ct od ln rw' : wF} {Z : xH} {pl pv : wF} {pc : Nat} {wt : Nat → Int64} {cds : wF} {th : Nat → Int64} {is tc bw td tn : wF} {tcn lu du ku : Nat}
theorem c_MO_weigh (hT : ∀ i, T.1 i < 256) {p0 : Nat} (hpc : pc = npc T.1 T.2 p0) (hP : MPa T.1 T.2 p0 pc pl pv) : xCr l x 2 0 0 mMO_weigh [.ref 74] (hM C cd T R P K a mb (ct, od, ln, rw') (pl, pv, pc, wt, cds, th, is, tc, bw, td, tn, tcn, lu, du, ku) Z) (fun o H' => o = none ∧ ∃ wt', WTok T.1 T.2 p0 pc wt' ∧ H' = hM C cd T R P K a mb (ct, od, ln, rw') (pl, pv, pc, wt', cds, th, is, tc, bw, td, tn, tcn, lu, du, ku) Z) := by
  have hnp := (npc_ok T.1 T.2 p0).1
  rw [← hpc] at hnp
  refine xCt.of (by decide) rfl ck_MO_weigh (Nat.le_of_ble_eq_true rfl) rfl ?_
  generalize List.length (hM C cd T R P K a mb (ct, od, ln, rw') (pl, pv, pc, wt, cds, th, is, tc, bw, td, tn, tcn, lu, du, ku) Z) = n0
  refine b_MO_weigh_0 ?_
  have h19 : ∀ (j c : Nat) (wt : Nat → Int64) (cl : Bool), c + j = pc → WTok T.1 T.2 p0 c wt → xW l x 2 0 0 mMO_weigh n0 (fun r H' => ∃ o, r = Sum.inl o ∧ o = none ∧ ∃ wt', WTok T.1 T.2 p0 pc wt' ∧ H' = hM C cd T R P K a mb (ct, od, ln, rw') (pl, pv, pc, wt', cds, th, is, tc, bw, td, tn, tcn, lu, du, ku) Z) cl 19 [some (.ref 74), some (.int (nI c))] [] (hM C cd T R P K a mb (ct, od, ln, rw') (pl, pv, pc, wt, cds, th, is, tc, bw, td, tn, tcn, lu, du, ku) Z) 0 0 := by
    intro j
    induction j with
    | zero =>
      intro c wt cl hc hw
      have : c = pc := by omega
      subst this
      refine b_MO_weigh_19 ⟨_, ⟨_, rfl, rfl⟩, ?_⟩
      refine ⟨fun hb => ?_, fun hb => ?_⟩ <;> (try simp (disch := omega) only [nI_lit, nI_fold, nI_mul, nI_add, pk_sub, pk_div, nI_shrN, nI_clamp, nI_leI, nI_ltI, nI_eq, not_true_eq_false, not_false_eq_true, Bool.false_eq_true, if_true, if_false, nI_nem, nI_m1, nI_m7, nI_m15, nI_m32, nI_m4, nI_m8, nI_m16, nI_m2] at hb) <;> (try omega)
      refine ⟨rfl, Nat.le_refl _, _, rfl, ⟨rfl, wt, hw, rfl⟩⟩
    | succ j ih =>
      intro c wt cl hc hw
      obtain ⟨y1, y2⟩ := hP c (by omega)
      obtain ⟨q1, q2, q3⟩ := pc_1 hT (n := T.2) (p := pp T.1 T.2 p0 c)
      have hps := (psy_lt hT (n := T.2) (p := pp T.1 T.2 p0 c)).1
      have hLs : wLt T.1 T.2 p0 (c + 1) = nup (wLt T.1 T.2 p0 c) (psy T.1 T.2 (pp T.1 T.2 p0 c)) (wLt T.1 T.2 p0 c (psy T.1 T.2 (pp T.1 T.2 p0 c)) + 1) := rfl
      have hle := wLt_le T.1 T.2 p0 c (psy T.1 T.2 (pp T.1 T.2 p0 c))
      refine b_MO_weigh_19 ⟨_, ⟨_, rfl, rfl⟩, ?_⟩
      refine ⟨fun hb => ?_, fun hb => ?_⟩ <;> (try simp (disch := omega) only [nI_lit, nI_fold, nI_mul, nI_add, pk_sub, pk_div, nI_shrN, nI_clamp, nI_leI, nI_ltI, nI_eq, not_true_eq_false, not_false_eq_true, Bool.false_eq_true, if_true, if_false, nI_nem, nI_m1, nI_m7, nI_m15, nI_m32, nI_m4, nI_m8, nI_m16, nI_m2] at hb) <;> (try omega)
      refine ⟨_, ⟨_, rfl, rfl⟩, _, _, rfl, vp_in_nI (by omega) (by decide), ?_⟩
      try dsimp only
      repeat rw [nI_clamp (by omega)]
      rw [y1]
      cases hS : isS T.1 T.2 (pp T.1 T.2 p0 c) with
      | false =>
        have hL1 := q1.mpr hS
        have hv := (pc_b hS).2
        have hsy : psy T.1 T.2 (pp T.1 T.2 p0 c) = T.1 (pp T.1 T.2 p0 c) := by unfold psy; rw [hS]; rfl
        have hD : wDt T.1 T.2 p0 (c + 1) = wDt T.1 T.2 p0 c := by show (if isS T.1 T.2 (pp T.1 T.2 p0 c) then _ else wDt T.1 T.2 p0 c) = _; rw [hS]; rfl
        rw [hsy] at hLs hle hps
        rw [hL1]
        refine ⟨fun h => absurd rfl h, fun _ => ?_⟩
        refine ⟨_, ⟨_, rfl, rfl⟩, _, ⟨_, rfl, rfl⟩, _, _, rfl, vp_in_nI (by omega) (by decide), ?_⟩
        try dsimp only
        repeat rw [nI_clamp (by omega)]
        rw [y2, hv]
        refine ⟨_, _, rfl, vp_in_nI (by omega) (by decide), _, _, rfl, vp_in_nI (by omega) (by decide), fun H17 e17 => ?_⟩
        try dsimp only at e17
        rw [nI_clamp (by omega), hw.1 _ hps, lN_1] at e17
        subst e17
        rw [nI_1]
        refine ih (c + 1) (vp_updL wt (T.1 (pp T.1 T.2 p0 c)) (lN (wLt T.1 T.2 p0 c (T.1 (pp T.1 T.2 p0 c)) + 1))) false (by omega) ⟨fun i hi => ?_, fun i hi => ?_, fun i hi => ?_⟩
        · rw [hLs]
          unfold vp_updL nup
          split
          · rfl
          · exact hw.1 i hi
        · rw [hD]
          unfold vp_updL
          rw [if_neg (by omega)]
          exact hw.2.1 i hi
        · unfold vp_updL
          rw [if_neg (by omega)]
          exact hw.2.2 i hi
      | true =>
        obtain ⟨z1, z2, z3, z4, z5, z6⟩ := pc_s hS
        have hsy : psy T.1 T.2 (pp T.1 T.2 p0 c) = 257 + lsN (pcL T.1 T.2 (pp T.1 T.2 p0 c)) := by unfold psy; rw [if_pos hS]
        have hD : wDt T.1 T.2 p0 (c + 1) = nup (wDt T.1 T.2 p0 c) (dsN (pcV T.1 T.2 (pp T.1 T.2 p0 c))) (wDt T.1 T.2 p0 c (dsN (pcV T.1 T.2 (pp T.1 T.2 p0 c))) + 1) := if_pos hS
        have hDe := wDt_le T.1 T.2 p0 c (dsN (pcV T.1 T.2 (pp T.1 T.2 p0 c)))
        have d1 := (dsN_all (pcV T.1 T.2 (pp T.1 T.2 p0 c) - 1) (by omega)).1
        rw [show pcV T.1 T.2 (pp T.1 T.2 p0 c) - 1 + 1 = pcV T.1 T.2 (pp T.1 T.2 p0 c) by omega] at d1
        rw [hsy] at hLs hle hps
        generalize pcL T.1 T.2 (pp T.1 T.2 p0 c) = len at *
        generalize pcV T.1 T.2 (pp T.1 T.2 p0 c) = dis at *
        refine ⟨fun _ => ?_, fun h => absurd h (by rw [show (1 : Int32) = nI 1 from rfl, nI_eq (by omega) (by decide)]; omega)⟩
        refine ⟨_, ⟨_, rfl, rfl⟩, _, ⟨_, rfl, rfl⟩, _, _, rfl, vp_in_nI (by omega) (by decide), ?_⟩
        try dsimp only
        repeat rw [nI_clamp (by omega)]
        try rw [y1]
        refine xs_callS rfl lk_12_245 (d' := 1) (c_MO_lengthSymbol z3 z4) (Nat.le_of_ble_eq_true rfl) rfl rfl (Nat.le_of_ble_eq_true rfl) (by omega) (by omega) ?_
        rintro _ H1 ⟨rfl, rfl⟩
        refine b_MO_weigh_49 ?_
        rw [show (257 : Int32) + nI (lsN len) = nI (257 + lsN len) from nI_add 257 _]
        refine ⟨_, _, rfl, vp_in_nI (by omega) (by decide), _, _, rfl, vp_in_nI (by omega) (by decide), fun H5 e5 => ?_⟩
        try dsimp only at e5
        rw [nI_clamp (by omega), hw.1 _ hps, lN_1] at e5
        subst e5
        refine ⟨_, ⟨_, rfl, rfl⟩, _, ⟨_, rfl, rfl⟩, _, _, rfl, vp_in_nI (by omega) (by decide), ?_⟩
        try dsimp only
        repeat rw [nI_clamp (by omega)]
        rw [y2]
        refine xs_callS rfl lk_12_248 (d' := 1) (c_MO_distanceSymbol z5 z6) (Nat.le_of_ble_eq_true rfl) rfl rfl (Nat.le_of_ble_eq_true rfl) (by omega) (by omega) ?_
        rintro _ H1 ⟨rfl, rfl⟩
        refine b_MO_weigh_63 ?_
        rw [show (400 : Int32) + nI (dsN dis) = nI (400 + dsN dis) from nI_add 400 _]
        refine ⟨_, _, rfl, vp_in_nI (by omega) (by decide), _, _, rfl, vp_in_nI (by omega) (by decide), fun H5 e5 => ?_⟩
        try dsimp only at e5
        rw [nI_clamp (by omega), show vp_updL wt (257 + lsN len) (lN (wLt T.1 T.2 p0 c (257 + lsN len) + 1)) (400 + dsN dis) = lN (wDt T.1 T.2 p0 c (dsN dis)) by unfold vp_updL; rw [if_neg (by omega)]; exact hw.2.1 _ d1, lN_1] at e5
        subst e5
        rw [nI_1]
        refine ih (c + 1) (vp_updL (vp_updL wt (257 + lsN len) (lN (wLt T.1 T.2 p0 c (257 + lsN len) + 1))) (400 + dsN dis) (lN (wDt T.1 T.2 p0 c (dsN dis) + 1))) false (by omega) ⟨fun i hi => ?_, fun i hi => ?_, fun i hi => ?_⟩
        · rw [hLs]
          unfold vp_updL nup
          rw [if_neg (by omega)]
          split
          · rfl
          · exact hw.1 i hi
        · rw [hD]
          unfold vp_updL nup
          by_cases e : i = dsN dis
          · rw [if_pos (by omega), if_pos e]
          · rw [if_neg (by omega), if_neg (by omega), if_neg e]
            exact hw.2.1 i hi
        · unfold vp_updL
          rw [if_neg (by omega), if_neg (by omega)]
          exact hw.2.2 i hi
  have h2 : ∀ (j i : Nat) (wt : Nat → Int64) (cl : Bool), i + j = 600 → (∀ t, t < i → wt t = lN 0) → xW l x 2 0 0 mMO_weigh n0 (fun r H' => ∃ o, r = Sum.inl o ∧ o = none ∧ ∃ wt', WTok T.1 T.2 p0 pc wt' ∧ H' = hM C cd T R P K a mb (ct, od, ln, rw') (pl, pv, pc, wt', cds, th, is, tc, bw, td, tn, tcn, lu, du, ku) Z) cl 2 [some (.ref 74), some (.int (nI i))] [] (hM C cd T R P K a mb (ct, od, ln, rw') (pl, pv, pc, wt, cds, th, is, tc, bw, td, tn, tcn, lu, du, ku) Z) 0 0 := by
    intro j
    induction j with
    | zero =>
      intro i wt cl hi hw
      have : i = 600 := by omega
      subst this
      refine b_MO_weigh_2 ⟨fun _ => ?_, fun h => absurd (by decide) h⟩
      refine ⟨_, ⟨_, rfl, rfl⟩, _, _, rfl, vp_in_nI (n := 256) (by decide) (by decide), fun H4 e4 => ?_⟩
      rw [show (256 : Int32).toNatClampNeg = 256 from rfl] at e4
      subst e4
      refine h19 pc 0 (vp_updL wt 256 1) false (by omega) ⟨fun i hi => ?_, fun i hi => ?_, fun i hi => ?_⟩
      · show vp_updL wt 256 1 i = lN (nup (fun _ => 0) 256 1 i)
        unfold vp_updL nup
        split
        · rfl
        · exact hw i (by omega)
      · show vp_updL wt 256 1 (400 + i) = lN 0
        unfold vp_updL
        rw [if_neg (by omega)]
        exact hw _ (by omega)
      · unfold vp_updL
        rw [if_neg (by omega)]
        exact hw _ (by omega)
    | succ j ih =>
      intro i wt cl hi hw
      refine b_MO_weigh_2 ?_
      refine ⟨fun hb => ?_, fun hb => ?_⟩ <;> (try simp (disch := omega) only [nI_lit, nI_fold, nI_mul, nI_add, pk_sub, pk_div, nI_shrN, nI_clamp, nI_leI, nI_ltI, nI_eq, not_true_eq_false, not_false_eq_true, Bool.false_eq_true, if_true, if_false, nI_nem, nI_m1, nI_m7, nI_m15, nI_m32, nI_m4, nI_m8, nI_m16, nI_m2] at hb) <;> (try omega)
      refine ⟨_, ⟨_, rfl, rfl⟩, _, _, rfl, vp_in_nI (by omega) (by decide), fun H8 e8 => ?_⟩
      try dsimp only at e8
      rw [nI_clamp (by omega)] at e8
      subst e8
      rw [nI_1]
      refine ih (i + 1) (vp_updL wt i 0) false (by omega) (fun t ht => ?_)
      unfold vp_updL
      split
      · rfl
      · exact hw t (by omega)
  exact h2 600 0 wt true (by omega) (fun t h => absurd h (Nat.not_lt_zero _))
theorem pbs_le {t : Nat → Nat} {n p0 : Nat} {gL gD : Nat → Nat} (hL : ∀ i, gL i ≤ 15) (hD : ∀ i, gD i ≤ 15) : ∀ c, pbs t n p0 gL gD c ≤ 48 * c := by
  intro c
  induction c with
  | zero => exact Nat.le_refl _
  | succ c ih =>
    have hb : pbt t n (pp t n p0 c) gL gD ≤ 48 := by
      unfold pbt
      split
      · rename_i h
        have a := pc_s h
        have q1 := (lsN_all (len := pcL t n (pp t n p0 c)) (by omega) a.2.2.1).1
        have q2 := (dsN_all (pcV t n (pp t n p0 c) - 1) (by omega)).1
        rw [show pcV t n (pp t n p0 c) - 1 + 1 = pcV t n (pp t n p0 c) by omega] at q2
        have l1 := (lbts_le _ q1).1
        have l2 := (dbts_le _ q2).1
        have a1 := hL (257 + lsN (pcL t n (pp t n p0 c)))
        have a2 := hD (dsN (pcV t n (pp t n p0 c)))
        omega
      · have := hL (t (pp t n p0 c))
        omega
    show pbs t n p0 gL gD c + _ ≤ _
    omega
theorem c_MO_pieceBits (hT : ∀ i, T.1 i < 256) {p0 : Nat} (hpc : pc = npc T.1 T.2 p0) (hP : MPa T.1 T.2 p0 pc pl pv) {gL gD : Nat → Nat} (hL : ∀ i, i < 286 → ln i = nI (gL i)) (hD : ∀ j, j < 30 → ln (400 + j) = nI (gD j)) (hgL : ∀ i, gL i ≤ 15) (hgD : ∀ i, gD i ≤ 15) : xCr l x 2 0 0 mMO_pieceBits [.ref 74] (hM C cd T R P K a mb (ct, od, ln, rw') (pl, pv, pc, wt, cds, th, is, tc, bw, td, tn, tcn, lu, du, ku) Z) (fun o H' => o = some (.int (nI (gL 256 + pbs T.1 T.2 p0 gL gD pc))) ∧ H' = hM C cd T R P K a mb (ct, od, ln, rw') (pl, pv, pc, wt, cds, th, is, tc, bw, td, tn, tcn, lu, du, ku) Z) := by
  have hnp := (npc_ok T.1 T.2 p0).1
  rw [← hpc] at hnp
  refine xCt.of (by decide) rfl ck_MO_pieceBits (Nat.le_of_ble_eq_true rfl) rfl ?_
  generalize List.length (hM C cd T R P K a mb (ct, od, ln, rw') (pl, pv, pc, wt, cds, th, is, tc, bw, td, tn, tcn, lu, du, ku) Z) = n0
  refine b_MO_pieceBits_0 ⟨_, ⟨_, rfl, rfl⟩, _, _, rfl, vp_in_nI (n := 256) (by decide) (by decide), ?_⟩
  try dsimp only
  rw [show (256 : Int32).toNatClampNeg = 256 from rfl, hL 256 (by decide)]
  have h7 : ∀ (j c : Nat) (L3 L4 : Option Value) (cl : Bool), c + j = pc → xW l x 2 0 0 mMO_pieceBits n0 (fun r H' => ∃ o, r = Sum.inl o ∧ o = some (.int (nI (gL 256 + pbs T.1 T.2 p0 gL gD pc))) ∧ H' = hM C cd T R P K a mb (ct, od, ln, rw') (pl, pv, pc, wt, cds, th, is, tc, bw, td, tn, tcn, lu, du, ku) Z) cl 7 [some (.ref 74), some (.int (nI (gL 256 + pbs T.1 T.2 p0 gL gD c))), some (.int (nI c)), L3, L4] [] (hM C cd T R P K a mb (ct, od, ln, rw') (pl, pv, pc, wt, cds, th, is, tc, bw, td, tn, tcn, lu, du, ku) Z) 0 0 := by
    intro j
    induction j with
    | zero =>
      intro c L3 L4 cl hc
      have : c = pc := by omega
      subst this
      refine xW.fgt 3 (xW.fgt 4 ?_)
      refine b_MO_pieceBits_7 ⟨_, ⟨_, rfl, rfl⟩, ?_⟩
      refine ⟨fun hb => ?_, fun hb => ?_⟩ <;> (try simp (disch := omega) only [nI_lit, nI_fold, nI_mul, nI_add, pk_sub, pk_div, nI_shrN, nI_clamp, nI_leI, nI_ltI, nI_eq, not_true_eq_false, not_false_eq_true, Bool.false_eq_true, if_true, if_false, nI_nem, nI_m1, nI_m7, nI_m15, nI_m32, nI_m4, nI_m8, nI_m16, nI_m2] at hb) <;> (try omega)
      refine ⟨rfl, Nat.le_refl _, _, rfl, ⟨rfl, rfl⟩⟩
    | succ j ih =>
      intro c L3 L4 cl hc
      obtain ⟨y1, y2⟩ := hP c (by omega)
      obtain ⟨q1, q2, q3⟩ := pc_1 hT (n := T.2) (p := pp T.1 T.2 p0 c)
      have ht := hT (pp T.1 T.2 p0 c)
      have ih := ih (c + 1)
      rw [show pbs T.1 T.2 p0 gL gD (c + 1) = pbs T.1 T.2 p0 gL gD c + pbt T.1 T.2 (pp T.1 T.2 p0 c) gL gD from rfl] at ih
      refine xW.fgt 3 (xW.fgt 4 ?_)
      refine b_MO_pieceBits_7 ⟨_, ⟨_, rfl, rfl⟩, ?_⟩
      refine ⟨fun hb => ?_, fun hb => ?_⟩ <;> (try simp (disch := omega) only [nI_lit, nI_fold, nI_mul, nI_add, pk_sub, pk_div, nI_shrN, nI_clamp, nI_leI, nI_ltI, nI_eq, not_true_eq_false, not_false_eq_true, Bool.false_eq_true, if_true, if_false, nI_nem, nI_m1, nI_m7, nI_m15, nI_m32, nI_m4, nI_m8, nI_m16, nI_m2] at hb) <;> (try omega)
      refine ⟨_, ⟨_, rfl, rfl⟩, _, _, rfl, vp_in_nI (by omega) (by decide), ?_⟩
      try dsimp only
      repeat rw [nI_clamp (by omega)]
      rw [y1]
      cases hS : isS T.1 T.2 (pp T.1 T.2 p0 c) with
      | false =>
        have hL1 := q1.mpr hS
        have hv := (pc_b hS).2
        rw [show pbt T.1 T.2 (pp T.1 T.2 p0 c) gL gD = gL (T.1 (pp T.1 T.2 p0 c)) by unfold pbt; rw [hS]; rfl] at ih
        rw [hL1]
        refine ⟨fun h => absurd rfl h, fun _ => ?_⟩
        refine ⟨_, ⟨_, rfl, rfl⟩, _, ⟨_, rfl, rfl⟩, _, _, rfl, vp_in_nI (by omega) (by decide), ?_⟩
        try dsimp only
        repeat rw [nI_clamp (by omega)]
        rw [y2, hv]
        refine ⟨_, _, rfl, vp_in_nI (by omega) (by decide), ?_⟩
        try dsimp only
        repeat rw [nI_clamp (by omega)]
        rw [hL _ (by omega), nI_add, nI_1, Nat.add_assoc]
        exact ih _ _ _ (by omega)
      | true =>
        obtain ⟨z1, z2, z3, z4, z5, z6⟩ := pc_s hS
        rw [show pbt T.1 T.2 (pp T.1 T.2 p0 c) gL gD = gL (257 + lsN (pcL T.1 T.2 (pp T.1 T.2 p0 c))) + lbts (lsN (pcL T.1 T.2 (pp T.1 T.2 p0 c))) + gD (dsN (pcV T.1 T.2 (pp T.1 T.2 p0 c))) + dbts (dsN (pcV T.1 T.2 (pp T.1 T.2 p0 c))) from if_pos hS] at ih
        have d1 := (dsN_all (pcV T.1 T.2 (pp T.1 T.2 p0 c) - 1) (by omega)).1
        rw [show pcV T.1 T.2 (pp T.1 T.2 p0 c) - 1 + 1 = pcV T.1 T.2 (pp T.1 T.2 p0 c) by omega] at d1
        have i1 := (lsN_all (len := pcL T.1 T.2 (pp T.1 T.2 p0 c)) (by omega) z3).1
        generalize pcL T.1 T.2 (pp T.1 T.2 p0 c) = len at *
        generalize pcV T.1 T.2 (pp T.1 T.2 p0 c) = dis at *
        refine ⟨fun _ => ?_, fun h => absurd h (by rw [show (1 : Int32) = nI 1 from rfl, nI_eq (by omega) (by decide)]; omega)⟩
        refine ⟨_, ⟨_, rfl, rfl⟩, _, _, rfl, vp_in_nI (by omega) (by decide), ?_⟩
        try dsimp only
        repeat rw [nI_clamp (by omega)]
        try rw [y1]
        refine xs_callS rfl lk_12_245 (d' := 1) (c_MO_lengthSymbol z3 z4) (Nat.le_of_ble_eq_true rfl) rfl rfl (Nat.le_of_ble_eq_true rfl) (by omega) (by omega) ?_
        rintro _ H1 ⟨rfl, rfl⟩
        refine b_MO_pieceBits_33 ⟨_, ⟨_, rfl, rfl⟩, _, _, rfl, vp_in_nI (by omega) (by decide), ?_⟩
        try dsimp only
        repeat rw [nI_clamp (by omega)]
        rw [y2]
        refine xs_callS rfl lk_12_248 (d' := 1) (c_MO_distanceSymbol z5 z6) (Nat.le_of_ble_eq_true rfl) rfl rfl (Nat.le_of_ble_eq_true rfl) (by omega) (by omega) ?_
        rintro _ H1 ⟨rfl, rfl⟩
        refine b_MO_pieceBits_39 ?_
        rw [show (257 : Int32) + nI (lsN len) = nI (257 + lsN len) from nI_add 257 _]
        refine ⟨_, ⟨_, rfl, rfl⟩, _, _, rfl, vp_in_nI (by omega) (by decide), ?_⟩
        try dsimp only
        repeat rw [nI_clamp (by omega)]
        rw [hL _ (by omega)]
        refine xs_callS rfl lk_12_158 (d' := 0) (c_MO_lengthBits i1) (Nat.le_of_ble_eq_true rfl) rfl rfl (Nat.le_of_ble_eq_true rfl) (by omega) (by omega) ?_
        rintro _ H1 ⟨rfl, rfl⟩
        refine b_MO_pieceBits_49 ?_
        rw [show (400 : Int32) + nI (dsN dis) = nI (400 + dsN dis) from nI_add 400 _]
        refine ⟨_, ⟨_, rfl, rfl⟩, _, _, rfl, vp_in_nI (by omega) (by decide), ?_⟩
        try dsimp only
        repeat rw [nI_clamp (by omega)]
        rw [hD _ d1, nI_add, nI_add]
        refine xs_callS rfl lk_12_149 (d' := 0) (c_MO_distanceBits d1) (Nat.le_of_ble_eq_true rfl) rfl rfl (Nat.le_of_ble_eq_true rfl) (by omega) (by omega) ?_
        rintro _ H1 ⟨rfl, rfl⟩
        refine b_MO_pieceBits_59 ?_
        rw [nI_add, nI_add, nI_1, Nat.add_assoc (gL 256)]
        exact ih _ _ _ (by omega)
  exact h7 pc 0 none none true (by omega)
theorem c_MO_makeCodes {g : Nat → Nat} {fm n : Nat} (hfm : fm + n ≤ 600) (hn : n ≤ 288) (hln : ∀ k, k < n → ln (fm + k) = nI (g k)) (hg : ∀ k, g k ≤ 15) : xCr l x d 0 0 mMO_makeCodes [.ref 74, .int (nI fm), .int (nI n)] (hM C cd T R P K a mb (ct, od, ln, rw') (pl, pv, pc, wt, cds, th, is, tc, bw, td, tn, tcn, lu, du, ku) Z) (fun o H' => o = none ∧ ∃ cds', (∀ k, k < n → 1 ≤ g k → cds' (fm + k) = nI (cde g n k)) ∧ (∀ i, i < fm ∨ fm + n ≤ i → cds' i = cds i) ∧ H' = hM C cd T R P K a mb (ct, od, ln, rw') (pl, pv, pc, wt, cds', th, is, tc, bw, td, tn, tcn, lu, du, ku) Z) := by
  refine xCt.of (by decide) rfl ck_MO_makeCodes (Nat.le_of_ble_eq_true rfl) rfl ?_
  generalize List.length (hM C cd T R P K a mb (ct, od, ln, rw') (pl, pv, pc, wt, cds, th, is, tc, bw, td, tn, tcn, lu, du, ku) Z) = n0
  refine b_MO_makeCodes_0 ?_
  have h : ∀ (j ll nx : Nat) (cds' : wF) (L5 : Option Value) (cl : Bool), ll + j = 16 → 1 ≤ ll → 2 * nx = fstc g n ll → (∀ k, k < n → 1 ≤ g k → g k < ll → cds' (fm + k) = nI (cde g n k)) → (∀ i, i < fm ∨ fm + n ≤ i → cds' i = cds i) → xW l x d 0 0 mMO_makeCodes n0 (fun r H' => ∃ o, r = Sum.inl o ∧ o = none ∧ ∃ cds', (∀ k, k < n → 1 ≤ g k → cds' (fm + k) = nI (cde g n k)) ∧ (∀ i, i < fm ∨ fm + n ≤ i → cds' i = cds i) ∧ H' = hM C cd T R P K a mb (ct, od, ln, rw') (pl, pv, pc, wt, cds', th, is, tc, bw, td, tn, tcn, lu, du, ku) Z) cl 4 [some (.ref 74), some (.int (nI fm)), some (.int (nI n)), some (.int (nI nx)), some (.int (nI ll)), L5] [] (hM C cd T R P K a mb (ct, od, ln, rw') (pl, pv, pc, wt, cds', th, is, tc, bw, td, tn, tcn, lu, du, ku) Z) 0 0 := by
    intro j
    induction j with
    | zero =>
      intro ll nx cds' L5 cl hl h1 hnx hc hf
      have : ll = 16 := by omega
      subst this
      refine xW.fgt 5 ?_
      refine b_MO_makeCodes_4 ?_
      refine ⟨fun hb => ?_, fun hb => ?_⟩ <;> (try simp (disch := omega) only [nI_lit, nI_fold, nI_mul, nI_add, pk_sub, pk_div, nI_shrN, nI_clamp, nI_leI, nI_ltI, nI_eq, not_true_eq_false, not_false_eq_true, Bool.false_eq_true, if_true, if_false, nI_nem, nI_m1, nI_m7, nI_m15, nI_m32, nI_m4, nI_m8, nI_m16, nI_m2] at hb) <;> (try omega)
      refine ⟨rfl, Nat.le_refl _, _, rfl, ⟨rfl, cds', fun k hk h1 => hc k hk h1 (by have := hg k; omega), hf, rfl⟩⟩
    | succ j ih =>
      intro ll nx cds' L5 cl hl h1 hnx hc hf
      have hlt := fstc_lt (g := g) (N := n) (l := ll) hn (by omega)
      have hns : fstc g n (ll + 1) = 2 * (fstc g n ll + cnt g n ll) := by
        show 2 * (fstc g n ll + (if ll = 0 then 0 else cnt g n ll)) = _
        rw [if_neg (by omega)]
      refine xW.fgt 5 ?_
      refine b_MO_makeCodes_4 ?_
      refine ⟨fun hb => ?_, fun hb => ?_⟩ <;> (try simp (disch := omega) only [nI_lit, nI_fold, nI_mul, nI_add, pk_sub, pk_div, nI_shrN, nI_clamp, nI_leI, nI_ltI, nI_eq, not_true_eq_false, not_false_eq_true, Bool.false_eq_true, if_true, if_false, nI_nem, nI_m1, nI_m7, nI_m15, nI_m32, nI_m4, nI_m8, nI_m16, nI_m2] at hb) <;> (try omega)
      rw [show (2 : Int32) * nI nx = nI (2 * nx) from nI_mul 2 nx, hnx]
      have h13 : ∀ (j k : Nat) (cds' : wF) (cl : Bool), k + j = n → (∀ q, q < n → 1 ≤ g q → (g q < ll ∨ (g q = ll ∧ q < k)) → cds' (fm + q) = nI (cde g n q)) → (∀ i, i < fm ∨ fm + n ≤ i → cds' i = cds i) → xW l x d 0 0 mMO_makeCodes n0 (fun r H' => ∃ o, r = Sum.inl o ∧ o = none ∧ ∃ cds', (∀ k, k < n → 1 ≤ g k → cds' (fm + k) = nI (cde g n k)) ∧ (∀ i, i < fm ∨ fm + n ≤ i → cds' i = cds i) ∧ H' = hM C cd T R P K a mb (ct, od, ln, rw') (pl, pv, pc, wt, cds', th, is, tc, bw, td, tn, tcn, lu, du, ku) Z) cl 13 [some (.ref 74), some (.int (nI fm)), some (.int (nI n)), some (.int (nI (fstc g n ll + cnt g k ll))), some (.int (nI ll)), some (.int (nI k))] [] (hM C cd T R P K a mb (ct, od, ln, rw') (pl, pv, pc, wt, cds', th, is, tc, bw, td, tn, tcn, lu, du, ku) Z) 0 0 := by
        intro j
        induction j with
        | zero =>
          intro k cds' cl hk hc hf
          have : k = n := by omega
          subst this
          refine b_MO_makeCodes_13 ?_
          refine ⟨fun hb => ?_, fun hb => ?_⟩ <;> (try simp (disch := omega) only [nI_lit, nI_fold, nI_mul, nI_add, pk_sub, pk_div, nI_shrN, nI_clamp, nI_leI, nI_ltI, nI_eq, not_true_eq_false, not_false_eq_true, Bool.false_eq_true, if_true, if_false, nI_nem, nI_m1, nI_m7, nI_m15, nI_m32, nI_m4, nI_m8, nI_m16, nI_m2] at hb) <;> (try omega)
          rw [nI_1]
          refine ih (ll + 1) _ cds' _ cl (by omega) (by omega) hns.symm (fun q hq h1 h2 => hc q hq h1 (by omega)) hf
        | succ j ihj =>
          intro k cds' cl hk hc hf
          have hck := cnt_le g k ll
          have hgk := hg k
          have hcs := cnt_s g k ll
          have ihj := ihj (k + 1)
          rw [hcs] at ihj
          refine b_MO_makeCodes_13 ?_
          refine ⟨fun hb => ?_, fun hb => ?_⟩ <;> (try simp (disch := omega) only [nI_lit, nI_fold, nI_mul, nI_add, pk_sub, pk_div, nI_shrN, nI_clamp, nI_leI, nI_ltI, nI_eq, not_true_eq_false, not_false_eq_true, Bool.false_eq_true, if_true, if_false, nI_nem, nI_m1, nI_m7, nI_m15, nI_m32, nI_m4, nI_m8, nI_m16, nI_m2] at hb) <;> (try omega)
          rw [nI_add]
          refine ⟨_, ⟨_, rfl, rfl⟩, _, _, rfl, vp_in_nI (by omega) (by decide), ?_⟩
          try dsimp only
          repeat rw [nI_clamp (by omega)]
          rw [hln k (by omega)]
          refine ⟨fun he => ?_, fun he => ?_⟩ <;> (try simp (disch := omega) only [nI_lit, nI_fold, nI_mul, nI_add, pk_sub, pk_div, nI_shrN, nI_clamp, nI_leI, nI_ltI, nI_eq, not_true_eq_false, not_false_eq_true, Bool.false_eq_true, if_true, if_false, nI_nem, nI_m1, nI_m7, nI_m15, nI_m32, nI_m4, nI_m8, nI_m16, nI_m2] at he) <;> (try omega)
          · rw [if_neg he, Nat.add_zero] at ihj
            rw [nI_1]
            exact ihj cds' cl (by omega) (fun q hq h1 h2 => hc q hq h1 (by
              rcases h2 with h2 | ⟨h2, h3⟩
              · exact Or.inl h2
              · refine Or.inr ⟨h2, ?_⟩
                by_cases e : q = k
                · rw [e] at h2; exact absurd h2 he
                · omega)) hf
          · rw [if_pos he] at ihj
            refine ⟨_, ⟨_, rfl, rfl⟩, _, _, rfl, Nat.le_of_ble_eq_true rfl, vp_in_nI (by omega) (by decide), fun H7 e7 => ?_⟩
            try dsimp only at e7
            try rw [nI_clamp (by omega)] at e7
            subst e7
            rw [nI_1, nI_1, Nat.add_assoc]
            refine ihj (upd cds' (fm + k) (nI (fstc g n ll + cnt g k ll))) false (by omega) (fun q hq h1 h2 => ?_) (fun i hi => ?_)
            · unfold upd
              by_cases e : q = k
              · rw [if_pos (by omega), e]
                unfold cde
                rw [he]
              · rw [if_neg (by omega)]
                exact hc q hq h1 (by omega)
            · unfold upd
              rw [if_neg (by omega)]
              exact hf i hi
      have := h13 n 0 cds' cl (by omega) (fun q hq h1 h2 => hc q hq h1 (by omega)) hf
      rw [show fstc g n ll + cnt g 0 ll = fstc g n ll from rfl] at this
      exact this
  exact h 15 1 0 cds none true (by omega) (by decide) rfl (fun k _ h1 h2 => by omega) (fun _ _ => rfl)
end MPieces
