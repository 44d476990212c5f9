/-! the model's lengths by weights, whole -/
section MByw
variable {l : Launch} {x : xX} {d : Nat} {C : Nat → va_E} {cd : Int32} {T R : wRow} {P : wRp} {K : wK4} {a mb : Nat} {ct od ln rw' : wF} {Z : xH} {pl pv : wF} {pc : Nat} {wt : Nat → Int64} {cds : wF} {th : Nat → Int64} {is tc bw td tn : wF} {tcn lu du ku : Nat}
theorem c_MO_isBefore {H : xH} {a b i j : Nat} (ha : a < 2 ^ 31) (hb : b < 2 ^ 31) (hij : j ≤ i) (hi : i < 2 ^ 31) : xCr l x d 0 0 mMO_isBefore [.long (lN a), .int (nI i), .long (lN b), .int (nI j)] H (fun o H' => o = some (.int (if a < b then 1 else 0)) ∧ H' = H) := by
  refine xCt.of (by decide) rfl ck_MO_isBefore (Nat.le_of_ble_eq_true rfl) rfl ?_
  refine b_MO_isBefore_0 ?_
  refine ⟨fun h => ?_, fun h => ?_⟩ <;> rw [lg_cmp_lt, lN_lt ha hb] at h
  · rw [if_pos h]
    refine ⟨rfl, rfl, Nat.le_refl _, _, rfl, ⟨rfl, rfl⟩⟩
  rw [if_neg h]
  refine ⟨fun _ => ?_, fun _ => ?_⟩
  · refine ⟨rfl, rfl, Nat.le_refl _, _, rfl, ⟨rfl, rfl⟩⟩
  refine ⟨fun _ => ?_, fun h2 => ?_⟩
  · refine ⟨rfl, rfl, Nat.le_refl _, _, rfl, ⟨rfl, rfl⟩⟩
  · rw [nI_leI (by omega) (by omega)] at h2
    exact absurd hij h2
theorem c_MO_byWeights {g : Nat → Nat} {fm n m : Nat} (hfm : fm + n ≤ 600) (hn : n ≤ 286) (hn2 : n < 2 ^ (m - 1)) (hm : 1 ≤ m) (hm2 : m ≤ 15) (hwt : ∀ i, i < n → wt (fm + i) = lN (g i) ∧ g i ≤ 1025) : xCr l x 2 0 0 mMO_byWeights [.ref 74, .int (nI fm), .int (nI n), .int (nI m)] (hM C cd T R P K a mb (ct, od, ln, rw') (pl, pv, pc, wt, cds, th, is, tc, bw, td, tn, tcn, lu, du, ku) Z) (fun o H' => o = none ∧ ∃ ln' th' is' tc' bw', (∀ i, i < n → ln' (fm + i) = nI (lbw g n m i)) ∧ (∀ i, i < fm ∨ fm + n ≤ i → ln' i = ln i) ∧ H' = hM C cd T R P K a mb (ct, od, ln', rw') (pl, pv, pc, wt, cds, th', is', tc', bw', td, tn, tcn, lu, du, ku) Z) := by
  have hlb : lbw g n m = if (srt g n).1 = 1 then nup (fun _ => 0) ((srt g n).2 0) 1 else if (srt g n).1 < 2 then fun _ => 0 else lnA (fun j => g ((srt g n).2 j)) (srt g n).2 (srt g n).1 m (2 * (srt g n).1 - 2) (fun _ => 0) := rfl
  obtain ⟨o1, o2, o3⟩ := srt_ok g n
  generalize lbw g n m = F at hlb ⊢
  refine xCt.of (by decide) rfl ck_MO_byWeights (Nat.le_of_ble_eq_true rfl) rfl ?_
  generalize List.length (hM C cd T R P K a mb (ct, od, ln, rw') (pl, pv, pc, wt, cds, th, is, tc, bw, td, tn, tcn, lu, du, ku) Z) = n0
  refine b_MO_byWeights_0 ?_
  -- the lengths are counted
  have hcnt : ∀ (th' : Nat → Int64) (is' tc' bw' : wF), 2 ≤ (srt g n).1 → (∀ j, j < (srt g n).1 → bw' j = nI ((srt g n).2 j)) → (∀ r, r < m → ∀ i, i < (rws (fun j => g ((srt g n).2 j)) (srt g n).1 (r + 1)).1 → is' (600 * (r + 1) + i) = if alo (fun j => g ((srt g n).2 j)) (srt g n).1 r i then 1 else 0) → ∀ (r tk : Nat) (L : Nat → Nat) (ln' : wF) (L7 L8 : Option Value) (cl : Bool), r ≤ m → tk ≤ (rws (fun j => g ((srt g n).2 j)) (srt g n).1 r).1 → (∀ i, i < n → ln' (fm + i) = nI (L i)) → (∀ i, i < fm ∨ fm + n ≤ i → ln' i = ln i) → (∀ i, L i + r ≤ m) → lnA (fun j => g ((srt g n).2 j)) (srt g n).2 (srt g n).1 r tk L = F → xW l x 2 0 0 mMO_byWeights n0 (fun r H' => ∃ o, r = Sum.inl o ∧ o = none ∧ ∃ ln' th' is' tc' bw', (∀ i, i < n → ln' (fm + i) = nI (F i)) ∧ (∀ i, i < fm ∨ fm + n ≤ i → ln' i = ln i) ∧ H' = hM C cd T R P K a mb (ct, od, ln', rw') (pl, pv, pc, wt, cds, th', is', tc', bw', td, tn, tcn, lu, du, ku) Z) cl 103 [some (.ref 74), some (.int (nI fm)), some (.int (nI n)), some (.int (nI m)), some (.int (nI (srt g n).1)), some (.int (nI tk)), some (.int (nI r)), L7, L8] [] (hM C cd T R P K a mb (ct, od, ln', rw') (pl, pv, pc, wt, cds, th', is', tc', bw', td, tn, tcn, lu, du, ku) Z) 0 0 := by
    intro th' is' tc' bw' h2m hbw his
    generalize hSW : (fun j => g ((srt g n).2 j)) = SW at *
    generalize hS : (srt g n).2 = S at *
    generalize hM' : (srt g n).1 = many at *
    intro r
    induction r with
    | zero =>
      intro tk L ln' L7 L8 cl hrm htk hL hfr hLb hz
      have hz : L = F := hz
      subst hz
      refine xW.fgt 7 (xW.fgt 8 ?_)
      refine b_MO_byWeights_103 ?_
      refine ⟨fun _ => ?_, fun h => absurd (by decide) h⟩
      refine ⟨rfl, Nat.le_refl _, _, rfl, ⟨rfl, ln', th', is', tc', bw', hL, hfr, rfl⟩⟩
    | succ r ih =>
      intro tk L ln' L7 L8 cl hrm htk hL hfr hLb hz
      have hsz := rws_sz SW many (r + 1)
      have hto := tkn_ok SW many r tk htk
      refine xW.fgt 7 (xW.fgt 8 ?_)
      refine b_MO_byWeights_103 ?_
      refine ⟨fun hb => absurd hb (nI_nle (by omega) (by omega)), fun _ => ?_⟩
      -- the increments
      have k131 : ∀ (j i : Nat) (ln' : wF) (cl : Bool), i + j = (mgr SW many r tk).1 → (∀ t, t < n → ln' (fm + t) = nI (incs S L i t)) → (∀ i, i < fm ∨ fm + n ≤ i → ln' i = ln i) → xW l x 2 0 0 mMO_byWeights n0 (fun r H' => ∃ o, r = Sum.inl o ∧ o = none ∧ ∃ ln' th' is' tc' bw', (∀ i, i < n → ln' (fm + i) = nI (F i)) ∧ (∀ i, i < fm ∨ fm + n ≤ i → ln' i = ln i) ∧ H' = hM C cd T R P K a mb (ct, od, ln', rw') (pl, pv, pc, wt, cds, th', is', tc', bw', td, tn, tcn, lu, du, ku) Z) cl 131 [some (.ref 74), some (.int (nI fm)), some (.int (nI n)), some (.int (nI m)), some (.int (nI many)), some (.int (nI tk)), some (.int (nI (r + 1))), some (.int (nI (mgr SW many r tk).1)), some (.int (nI i))] [] (hM C cd T R P K a mb (ct, od, ln', rw') (pl, pv, pc, wt, cds, th', is', tc', bw', td, tn, tcn, lu, du, ku) Z) 0 0 := by
        intro j
        induction j with
        | zero =>
          intro i ln' cl hi hL2 hfr2
          have hi : i = (mgr SW many r tk).1 := by omega
          rw [hi] at hL2
          refine b_MO_byWeights_131 ?_
          refine ⟨fun hb => ?_, fun hb => ?_⟩ <;> (try simp (disch := omega) only [nI_lit, nI_fold, nI_mul, nI_add, pk_sub, pk_div, nI_shrN, nI_clamp, nI_leI, nI_ltI, nI_eq, not_true_eq_false, not_false_eq_true, Bool.false_eq_true, if_true, if_false, nI_nem, nI_m1, nI_m7, nI_m15, nI_m32, nI_m4, nI_m8, nI_m16, nI_m2] at hb) <;> (try omega)
          rw [nI_sub hto.2.1, show (2 : Int32) * nI (tk - (mgr SW many r tk).1) = nI (2 * (tk - (mgr SW many r tk).1)) from nI_mul 2 _, mI_d, nI_pred]
          refine ih _ (incs S L (mgr SW many r tk).1) ln' _ _ _ (by omega) hto.2.2 hL2 hfr2 (fun t => ?_) hz
          have := (incs_le (L := L) (fun i j h1 h2 => (o3 i j h1 h2).1) t (mgr SW many r tk).1 hto.1).1
          have := hLb t
          omega
        | succ j ihj =>
          intro i ln' cl hi hL2 hfr2
          have y1 := hbw i (by omega)
          have y2 := (o2 i (by omega)).1
          have hLv := (incs_le (L := L) (fun i j h1 h2 => (o3 i j h1 h2).1) (S i) i (by omega)).1
          have hLv2 := hLb (S i)
          refine b_MO_byWeights_131 ?_
          refine ⟨fun hb => ?_, fun hb => ?_⟩ <;> (try simp (disch := omega) only [nI_lit, nI_fold, nI_mul, nI_add, pk_sub, pk_div, nI_shrN, nI_clamp, nI_leI, nI_ltI, nI_eq, not_true_eq_false, not_false_eq_true, Bool.false_eq_true, if_true, if_false, nI_nem, nI_m1, nI_m7, nI_m15, nI_m32, nI_m4, nI_m8, nI_m16, nI_m2] at hb) <;> (try omega)
          refine ⟨_, ⟨_, rfl, rfl⟩, _, ⟨_, rfl, rfl⟩, _, _, rfl, vp_in_nI (by omega) (by decide), ?_⟩
          try dsimp only
          rw [nI_clamp (by omega), y1, nI_add]
          refine ⟨_, _, rfl, vp_in_nI (by omega) (by decide), _, _, rfl, Nat.le_of_ble_eq_true rfl, vp_in_nI (by omega) (by decide), fun H9 e9 => ?_⟩
          try dsimp only at e9
          rw [nI_clamp (by omega), hL2 _ y2, nI_1] at e9
          subst e9
          rw [nI_1]
          refine ihj (i + 1) (upd ln' (fm + S i) (nI (incs S L i (S i) + 1))) false (by omega) (fun t ht => ?_) (fun t ht => ?_)
          · show upd ln' (fm + S i) _ (fm + t) = nI (nup (incs S L i) (S i) (incs S L i (S i) + 1) t)
            unfold upd nup
            by_cases h3 : t = S i
            · rw [if_pos (by omega), if_pos h3]
            · rw [if_neg (by omega), if_neg h3]
              exact hL2 t ht
          · unfold upd
            rw [if_neg (by omega)]
            exact hfr2 t ht
      have k109 : ∀ (j i : Nat) (cl : Bool), i + j = tk → xW l x 2 0 0 mMO_byWeights n0 (fun r H' => ∃ o, r = Sum.inl o ∧ o = none ∧ ∃ ln' th' is' tc' bw', (∀ i, i < n → ln' (fm + i) = nI (F i)) ∧ (∀ i, i < fm ∨ fm + n ≤ i → ln' i = ln i) ∧ H' = hM C cd T R P K a mb (ct, od, ln', rw') (pl, pv, pc, wt, cds, th', is', tc', bw', td, tn, tcn, lu, du, ku) Z) cl 109 [some (.ref 74), some (.int (nI fm)), some (.int (nI n)), some (.int (nI m)), some (.int (nI many)), some (.int (nI tk)), some (.int (nI (r + 1))), some (.int (nI (mgr SW many r i).1)), some (.int (nI i))] [] (hM C cd T R P K a mb (ct, od, ln', rw') (pl, pv, pc, wt, cds, th', is', tc', bw', td, tn, tcn, lu, du, ku) Z) 0 0 := by
        intro j
        induction j with
        | zero =>
          intro i cl hi
          have : i = tk := by omega
          subst this
          refine b_MO_byWeights_109 ?_
          refine ⟨fun hb => ?_, fun hb => ?_⟩ <;> (try simp (disch := omega) only [nI_lit, nI_fold, nI_mul, nI_add, pk_sub, pk_div, nI_shrN, nI_clamp, nI_leI, nI_ltI, nI_eq, not_true_eq_false, not_false_eq_true, Bool.false_eq_true, if_true, if_false, nI_nem, nI_m1, nI_m7, nI_m15, nI_m32, nI_m4, nI_m8, nI_m16, nI_m2] at hb) <;> (try omega)
          exact k131 (mgr SW many r i).1 0 ln' _ (by omega) hL hfr
        | succ j ihj =>
          intro i cl hi
          have hti := tkn_ok SW many r i (by omega)
          have hmg := mgr_s SW many r i
          have hali := his r (by omega) i (by omega)
          have ihj := ihj (i + 1)
          generalize mgr SW many r (i + 1) = s1 at hmg ihj
          refine b_MO_byWeights_109 ?_
          refine ⟨fun hb => ?_, fun hb => ?_⟩ <;> (try simp (disch := omega) only [nI_lit, nI_fold, nI_mul, nI_add, pk_sub, pk_div, nI_shrN, nI_clamp, nI_leI, nI_ltI, nI_eq, not_true_eq_false, not_false_eq_true, Bool.false_eq_true, if_true, if_false, nI_nem, nI_m1, nI_m7, nI_m15, nI_m32, nI_m4, nI_m8, nI_m16, nI_m2] at hb) <;> (try omega)
          rw [show (600 : Int32) * nI (r + 1) + nI i = nI (600 * (r + 1) + i) by rw [show (600 : Int32) * nI (r + 1) = nI (600 * (r + 1)) from nI_mul 600 _, nI_add]]
          refine ⟨_, ⟨_, rfl, rfl⟩, _, _, rfl, vp_in_nI (by omega) (by decide), ?_⟩
          try dsimp only
          rw [nI_clamp (by omega), hali]
          cases hb2 : alo SW many r i with
          | false =>
            rw [hb2] at hmg
            have hmg : s1 = ((mgr SW many r i).1, (mgr SW many r i).2 + 1) := hmg
            refine ⟨fun _ => ?_, fun h => absurd rfl h⟩
            rw [nI_1]
            have := ihj cl (by omega)
            rw [hmg] at this
            exact this
          | true =>
            rw [hb2] at hmg
            have hmg : s1 = ((mgr SW many r i).1 + 1, (mgr SW many r i).2) := hmg
            refine ⟨fun h => absurd h (by decide), fun _ => ?_⟩
            rw [nI_1, nI_1]
            have := ihj cl (by omega)
            rw [hmg] at this
            exact this
      exact k109 tk 0 _ (by omega)
  -- the symbols are sorted
  have h4 : ∀ (j k : Nat) (ln' bw : wF) (L6 : Option Value) (cl : Bool), k + j = n → (∀ i, i < k → ln' (fm + i) = 0) → (∀ i, i < fm ∨ fm + n ≤ i → ln' i = ln i) → (∀ j, j < (srt g k).1 → bw j = nI ((srt g k).2 j)) → xW l x 2 0 0 mMO_byWeights n0 (fun r H' => ∃ o, r = Sum.inl o ∧ o = none ∧ ∃ ln' th' is' tc' bw', (∀ i, i < n → ln' (fm + i) = nI (F i)) ∧ (∀ i, i < fm ∨ fm + n ≤ i → ln' i = ln i) ∧ H' = hM C cd T R P K a mb (ct, od, ln', rw') (pl, pv, pc, wt, cds, th', is', tc', bw', td, tn, tcn, lu, du, ku) Z) cl 4 [some (.ref 74), some (.int (nI fm)), some (.int (nI n)), some (.int (nI m)), some (.int (nI (srt g k).1)), some (.int (nI k)), L6, none, none] [] (hM C cd T R P K a mb (ct, od, ln', rw') (pl, pv, pc, wt, cds, th, is, tc, bw, td, tn, tcn, lu, du, ku) Z) 0 0 := by
    intro j
    induction j with
    | zero =>
      intro k ln' bw L6 cl hk hL hfr hs
      have : k = n := by omega
      subst this
      refine xW.fgt 6 ?_
      refine b_MO_byWeights_4 ?_
      refine ⟨fun hb => ?_, fun hb => ?_⟩ <;> (try simp (disch := omega) only [nI_lit, nI_fold, nI_mul, nI_add, pk_sub, pk_div, nI_shrN, nI_clamp, nI_leI, nI_ltI, nI_eq, not_true_eq_false, not_false_eq_true, Bool.false_eq_true, if_true, if_false, nI_nem, nI_m1, nI_m7, nI_m15, nI_m32, nI_m4, nI_m8, nI_m16, nI_m2] at hb) <;> (try omega)
      refine ⟨fun hc => ?_, fun hc => ?_⟩ <;> (try simp (disch := omega) only [nI_lit, nI_fold, nI_mul, nI_add, pk_sub, pk_div, nI_shrN, nI_clamp, nI_leI, nI_ltI, nI_eq, not_true_eq_false, not_false_eq_true, Bool.false_eq_true, if_true, if_false, nI_nem, nI_m1, nI_m7, nI_m15, nI_m32, nI_m4, nI_m8, nI_m16, nI_m2] at hc) <;> (try omega)
      case refine_2 =>
        rw [if_pos hc] at hlb
        have y1 := hs 0 (by omega)
        have y2 := (o2 0 (by omega)).1
        refine ⟨_, ⟨_, rfl, rfl⟩, _, ⟨_, rfl, rfl⟩, _, _, rfl, vp_in_nI (n := 0) (by decide) (by decide), ?_⟩
        dsimp only
        rw [show (0 : Int32).toNatClampNeg = 0 from rfl, y1, nI_add]
        refine ⟨_, _, rfl, Nat.le_of_ble_eq_true rfl, vp_in_nI (by omega) (by decide), fun H7 e7 => ?_⟩
        try dsimp only at e7
        rw [nI_clamp (by omega)] at e7
        subst e7
        refine ⟨fun hd => ?_, fun hd => ?_⟩ <;> (try simp (disch := omega) only [nI_lit, nI_fold, nI_mul, nI_add, pk_sub, pk_div, nI_shrN, nI_clamp, nI_leI, nI_ltI, nI_eq, not_true_eq_false, not_false_eq_true, Bool.false_eq_true, if_true, if_false, nI_nem, nI_m1, nI_m7, nI_m15, nI_m32, nI_m4, nI_m8, nI_m16, nI_m2] at hd) <;> (try omega)
        refine ⟨rfl, Nat.le_refl _, _, rfl, rfl, upd ln' (fm + (srt g k).2 0) 1, th, is, tc, bw, fun i hi => ?_, fun i hi => ?_, rfl⟩
        · rw [hlb]
          unfold upd nup
          by_cases h3 : i = (srt g k).2 0
          · rw [if_pos (by omega), if_pos h3]; rfl
          · rw [if_neg (by omega), if_neg h3]
            exact hL i hi
        · unfold upd
          rw [if_neg (by omega)]
          exact hfr i hi
      rw [if_neg hc] at hlb
      refine ⟨fun hd => ?_, fun hd => ?_⟩ <;> (try simp (disch := omega) only [nI_lit, nI_fold, nI_mul, nI_add, pk_sub, pk_div, nI_shrN, nI_clamp, nI_leI, nI_ltI, nI_eq, not_true_eq_false, not_false_eq_true, Bool.false_eq_true, if_true, if_false, nI_nem, nI_m1, nI_m7, nI_m15, nI_m32, nI_m4, nI_m8, nI_m16, nI_m2] at hd) <;> (try omega)
      case refine_2 =>
        rw [if_pos (by omega)] at hlb
        subst hlb
        refine ⟨rfl, Nat.le_refl _, _, rfl, ⟨rfl, ln', th, is, tc, bw, hL, hfr, rfl⟩⟩
      rw [if_neg (by omega)] at hlb
      refine xs_callV rfl lk_12_238 (d' := 1) (c_MO_layRows (SW := fun j => g ((srt g k).2 j)) (SY := (srt g k).2) (n := k) hfm hm2 (by omega) (by omega) (fun j hj => ⟨hs j hj, (o2 j hj).1, (hwt _ (o2 j hj).1).1, (hwt _ (o2 j hj).1).2⟩)) (Nat.le_of_ble_eq_true rfl) rfl rfl rfl rfl rfl (Nat.le_of_ble_eq_true rfl) (by omega) (by omega) ?_
      rintro _ H1 ⟨rfl, th', is', tc', his, rfl⟩
      refine b_MO_byWeights_95 ?_
      rw [show (2 : Int32) * nI (srt g k).1 - 2 = nI (2 * (srt g k).1 - 2) by rw [show (2 : Int32) * nI (srt g k).1 = nI (2 * (srt g k).1) from nI_mul 2 _, show (2 : Int32) = nI 2 from rfl, nI_sub (by omega)]]
      exact hcnt th' is' tc' bw (by omega) hs his m _ (fun _ => 0) ln' _ _ _ (Nat.le_refl _) (tkn_0 (by omega) hn2 hm _) hL hfr (fun i => by omega) hlb.symm
    | succ j ih =>
      intro k ln' bw L6 cl hk hL hfr hs
      obtain ⟨w1, w2⟩ := hwt k (by omega)
      have hmk := (srt_ok g k).1
      have hbd := (srt_ok g k).2.1
      have hss : srt g (k + 1) = if 0 < g k then ((srt g k).1 + 1, ins (srt g k).2 (ps g (srt g k).2 (g k) (srt g k).1) k) else srt g k := rfl
      have hL2 : ∀ i, i < k + 1 → upd ln' (fm + k) 0 (fm + i) = 0 := by
        intro i hi
        unfold upd
        by_cases h3 : i = k
        · rw [if_pos (by omega)]
        · rw [if_neg (by omega)]
          exact hL i (by omega)
      have hfr2 : ∀ i, i < fm ∨ fm + n ≤ i → upd ln' (fm + k) 0 i = ln i := by
        intro i hi
        unfold upd
        rw [if_neg (by omega)]
        exact hfr i hi
      refine xW.fgt 6 ?_
      refine b_MO_byWeights_4 ?_
      refine ⟨fun hb => ?_, fun hb => ?_⟩ <;> (try simp (disch := omega) only [nI_lit, nI_fold, nI_mul, nI_add, pk_sub, pk_div, nI_shrN, nI_clamp, nI_leI, nI_ltI, nI_eq, not_true_eq_false, not_false_eq_true, Bool.false_eq_true, if_true, if_false, nI_nem, nI_m1, nI_m7, nI_m15, nI_m32, nI_m4, nI_m8, nI_m16, nI_m2] at hb) <;> (try omega)
      rw [nI_add]
      refine ⟨_, ⟨_, rfl, rfl⟩, _, _, rfl, Nat.le_of_ble_eq_true rfl, vp_in_nI (by omega) (by decide), fun H11 e11 => ?_⟩
      try dsimp only at e11
      rw [nI_clamp (by omega)] at e11
      subst e11
      refine ⟨_, ⟨_, rfl, rfl⟩, _, _, rfl, vp_in_nI (by omega) (by decide), ?_⟩
      try dsimp only
      rw [nI_clamp (by omega), w1]
      refine ⟨fun hc => ?_, fun hc => ?_⟩ <;> rw [lg_cmp_le, show (0 : Int64) = lN 0 from rfl, lN_le (by omega) (by decide)] at hc
      · rw [if_neg (by omega)] at hss
        rw [nI_1]
        have := ih (k + 1) _ bw none false (by omega) hL2 hfr2
        rw [hss] at this
        exact this hs
      rw [if_pos (by omega)] at hss
      generalize hS : (srt g k).2 = S at *
      generalize hM' : (srt g k).1 = many at *
      generalize hpos : ps g S (g k) many = pos at hss
      have ih := ih (k + 1)
      rw [hss] at ih
      dsimp only at ih
      have fin : ∀ (p : Nat) (bw' : wF) (L6 : Option Value), p = pos → p ≤ many → (∀ i, i < p → bw' i = nI (S i)) → (∀ i, p ≤ i → i < many → bw' (i + 1) = nI (S i)) → xW l x 2 0 0 mMO_byWeights n0 (fun r H' => ∃ o, r = Sum.inl o ∧ o = none ∧ ∃ ln' th' is' tc' bw', (∀ i, i < n → ln' (fm + i) = nI (F i)) ∧ (∀ i, i < fm ∨ fm + n ≤ i → ln' i = ln i) ∧ H' = hM C cd T R P K a mb (ct, od, ln', rw') (pl, pv, pc, wt, cds, th', is', tc', bw', td, tn, tcn, lu, du, ku) Z) false 4 [some (.ref 74), some (.int (nI fm)), some (.int (nI n)), some (.int (nI m)), some (.int (nI (many + 1))), some (.int (nI (k + 1))), L6, none, none] [] (hM C cd T R P K a mb (ct, od, upd ln' (fm + k) 0, rw') (pl, pv, pc, wt, cds, th, is, tc, upd bw' p (nI k), td, tn, tcn, lu, du, ku) Z) 0 0 := by
        intro p bw' L6 hp hpm h1 h2
        subst hp
        refine ih _ _ L6 false (by omega) hL2 hfr2 (fun i hi => ?_)
        unfold upd ins
        by_cases a : i = p
        · rw [if_pos a, if_neg (by omega), if_pos a]
        · rw [if_neg a]
          by_cases b : i < p
          · rw [if_pos b]
            exact h1 i b
          · rw [if_neg b, if_neg a]
            have := h2 (i - 1) (by omega) (by omega)
            rw [show i - 1 + 1 = i by omega] at this
            exact this
      have h25 : ∀ (p : Nat) (bw' : wF) (cl : Bool), p ≤ many → ps g S (g k) p = pos → (∀ i, i < p → bw' i = nI (S i)) → (∀ i, p ≤ i → i < many → bw' (i + 1) = nI (S i)) → xW l x 2 0 0 mMO_byWeights n0 (fun r H' => ∃ o, r = Sum.inl o ∧ o = none ∧ ∃ ln' th' is' tc' bw', (∀ i, i < n → ln' (fm + i) = nI (F i)) ∧ (∀ i, i < fm ∨ fm + n ≤ i → ln' i = ln i) ∧ H' = hM C cd T R P K a mb (ct, od, ln', rw') (pl, pv, pc, wt, cds, th', is', tc', bw', td, tn, tcn, lu, du, ku) Z) cl 25 [some (.ref 74), some (.int (nI fm)), some (.int (nI n)), some (.int (nI m)), some (.int (nI many)), some (.int (nI k)), some (.int (nI p)), none, none] [] (hM C cd T R P K a mb (ct, od, upd ln' (fm + k) 0, rw') (pl, pv, pc, wt, cds, th, is, tc, bw', td, tn, tcn, lu, du, ku) Z) 0 0 := by
        intro p
        induction p with
        | zero =>
          intro bw' cl hpm hps h1 h2
          refine b_MO_byWeights_25 ⟨fun _ => ?_, fun hb => absurd (by decide) hb⟩
          refine ⟨_, ⟨_, rfl, rfl⟩, _, _, rfl, Nat.le_of_ble_eq_true rfl, (by (try simp (disch := omega) only [nI_lit, nI_fold, nI_mul, nI_add, pk_sub, pk_div, nI_shrN, nI_clamp]); (with_reducible refine vp_in_nI ?_ ?_) <;> omega), fun H4 e4 => ?_⟩
          try simp (disch := omega) only [nI_lit, nI_fold, nI_mul, nI_add, pk_sub, pk_div, nI_shrN, nI_clamp] at e4
          subst e4
          rw [nI_1, nI_1]
          exact fin 0 bw' _ hps (by omega) h1 h2
        | succ p ihp =>
          intro bw' cl hpm hps h1 h2
          have hSp := (hbd p (by omega)).1
          obtain ⟨z1, z2⟩ := hwt (S p) (by omega)
          have hbp := h1 p (by omega)
          refine b_MO_byWeights_25 ⟨fun hb => absurd hb (nI_nle (by omega) (by omega)), fun _ => ?_⟩
          rw [nI_pred, nI_add]
          refine ⟨_, ⟨_, rfl, rfl⟩, _, _, rfl, vp_in_nI (by omega) (by decide), _, ⟨_, rfl, rfl⟩, _, ⟨_, rfl, rfl⟩, _, _, rfl, vp_in_nI (by omega) (by decide), ?_⟩
          try dsimp only
          rw [nI_clamp (by omega), nI_clamp (by omega), hbp, nI_add]
          refine ⟨_, _, rfl, vp_in_nI (by omega) (by decide), _, ⟨_, rfl, rfl⟩, _, _, rfl, vp_in_nI (by omega) (by decide), ?_⟩
          try dsimp only
          rw [nI_clamp (by omega), hbp, z1, w1]
          refine xs_callS rfl lk_12_234 (d' := 0) (c_MO_isBefore (a := g k) (b := g (S p)) (i := k) (j := S p) (by omega) (by omega) (by omega) (by omega)) (Nat.le_of_ble_eq_true rfl) rfl rfl (Nat.le_of_ble_eq_true rfl) (by omega) (by omega) ?_
          rintro _ H1 ⟨rfl, rfl⟩
          unfold ps at hps
          by_cases hlt : g k < g (S p)
          · rw [if_pos hlt] at hps ⊢
            refine b_MO_byWeights_52 ⟨fun h => absurd h (by decide), fun _ => ?_⟩
            rw [nI_pred, show nI (p + 1) + (-1) = nI p from (mI_d _).trans (nI_pred p)]
            refine ⟨_, ⟨_, rfl, rfl⟩, _, ⟨_, rfl, rfl⟩, _, _, rfl, (by (try simp (disch := omega) only [nI_lit, nI_fold, nI_mul, nI_add, pk_sub, pk_div, nI_shrN, nI_clamp]); (with_reducible refine vp_in_nI ?_ ?_) <;> omega), _, _, rfl, Nat.le_of_ble_eq_true rfl, (by (try simp (disch := omega) only [nI_lit, nI_fold, nI_mul, nI_add, pk_sub, pk_div, nI_shrN, nI_clamp]); (with_reducible refine vp_in_nI ?_ ?_) <;> omega), fun H11 e11 => ?_⟩
            try simp (disch := omega) only [nI_lit, nI_fold, nI_mul, nI_add, pk_sub, pk_div, nI_shrN, nI_clamp] at e11
            subst e11
            refine ihp (upd bw' (p + 1) (bw' p)) false (by omega) hps (fun i hi => ?_) (fun i h3 h4 => ?_)
            · unfold upd
              rw [if_neg (by omega)]
              exact h1 i (by omega)
            · unfold upd
              by_cases a : i = p
              · rw [if_pos (by omega), a]
                exact hbp
              · rw [if_neg (by omega)]
                exact h2 i (by omega) h4
          · rw [if_neg hlt] at hps ⊢
            refine b_MO_byWeights_52 ⟨fun _ => ?_, fun h => absurd rfl h⟩
            refine ⟨_, ⟨_, rfl, rfl⟩, _, _, rfl, Nat.le_of_ble_eq_true rfl, (by (try simp (disch := omega) only [nI_lit, nI_fold, nI_mul, nI_add, pk_sub, pk_div, nI_shrN, nI_clamp]); (with_reducible refine vp_in_nI ?_ ?_) <;> omega), fun H4 e4 => ?_⟩
            try simp (disch := omega) only [nI_lit, nI_fold, nI_mul, nI_add, pk_sub, pk_div, nI_shrN, nI_clamp] at e4
            subst e4
            rw [nI_1, nI_1]
            exact fin (p + 1) bw' _ hps (by omega) h1 h2
      exact h25 many bw false (Nat.le_refl _) hpos hs (fun i h1 h2 => by omega)
  exact h4 n 0 ln bw none true (by omega) (fun i h => absurd h (Nat.not_lt_zero _)) (fun _ _ => rfl) (fun j hj => absurd hj (Nat.not_lt_zero _))
end MByw
