/-! the model tells a row -/
theorem trl_s (v f left : Nat) (s : tS) : trl v (f + 1) left s = if left < 3 then rpt v left s else if v ≠ 0 then trl v f (left - mn left 6) (tel s 16 (mn left 6 - 3)) else if left < 11 then tel s 17 (left - 3) else trl v f (left - mn left 138) (tel s 18 (mn left 138 - 11)) := rfl
section MTell
variable {l : Launch} {x : xX} {d : Nat} {C : Nat → va_E} {cd : Int32} {T R : wRow} {P : wRp} {K : wK4} {a mb : Nat} {ct od ln rw' : wF} {Z : xH} {pl pv : wF} {pc : Nat} {wt : Nat → Int64} {cds : wF} {th : Nat → Int64} {is tc bw td tn : wF} {lu du ku : Nat} {s : tS}
theorem c_MO_tell {y m : Nat} (hs : tOK s td tn) (hc : s.1 < 316) : xCr l x d 0 0 mMO_tell [.ref 74, .int (nI y), .int (nI m)] (hM C cd T R P K a mb (ct, od, ln, rw') (pl, pv, pc, wt, cds, th, is, tc, bw, td, tn, s.1, lu, du, ku) Z) (fun o H' => o = none ∧ ∃ ts' tn', tOK (tel s y m) ts' tn' ∧ H' = hM C cd T R P K a mb (ct, od, ln, rw') (pl, pv, pc, wt, cds, th, is, tc, bw, ts', tn', (tel s y m).1, lu, du, ku) Z) := by
  refine xCt.of (by decide) rfl ck_MO_tell (Nat.le_of_ble_eq_true rfl) rfl ?_
  refine b_MO_tell_0 ⟨_, ⟨_, rfl, rfl⟩, _, ⟨_, rfl, rfl⟩, _, _, rfl, Nat.le_of_ble_eq_true rfl, (by (try simp (disch := omega) only [nI_lit, nI_fold, nI_mul, nI_add, pk_sub, pk_div, nI_shrN, nI_clamp]); (with_reducible refine vp_in_nI ?_ ?_) <;> omega), fun H5 e5 => ?_⟩
  try simp (disch := omega) only [nI_lit, nI_fold, nI_mul, nI_add, pk_sub, pk_div, nI_shrN, nI_clamp] at e5
  subst e5
  refine ⟨_, ⟨_, rfl, rfl⟩, _, ⟨_, rfl, rfl⟩, _, _, rfl, Nat.le_of_ble_eq_true rfl, (by (try simp (disch := omega) only [nI_lit, nI_fold, nI_mul, nI_add, pk_sub, pk_div, nI_shrN, nI_clamp]); (with_reducible refine vp_in_nI ?_ ?_) <;> omega), fun H10 e10 => ?_⟩
  try simp (disch := omega) only [nI_lit, nI_fold, nI_mul, nI_add, pk_sub, pk_div, nI_shrN, nI_clamp] at e10
  subst e10
  refine ⟨_, ⟨_, rfl, rfl⟩, _, rfl, Nat.le_of_ble_eq_true rfl, fun H13 e13 => ?_⟩
  try simp (disch := omega) only [nI_lit, nI_fold, nI_mul, nI_add, pk_sub, pk_div, nI_shrN, nI_clamp] at e13
  subst e13
  refine ⟨rfl, Nat.le_refl _, _, rfl, ⟨rfl, _, _, hs.tel, rfl⟩⟩
theorem c_MO_run {g : Nat → Nat} {n k tcn : Nat} (hn : n ≤ 316) (hk : k < n) (hg : ∀ i, i < n → rw' i = nI (g i) ∧ g i < 16) : xCr l x d 0 0 mMO_run [.ref 74, .int (nI k), .int (nI n)] (hM C cd T R P K a mb (ct, od, ln, rw') (pl, pv, pc, wt, cds, th, is, tc, bw, td, tn, tcn, lu, du, ku) Z) (fun o H' => o = some (.int (nI (run g n k))) ∧ H' = hM C cd T R P K a mb (ct, od, ln, rw') (pl, pv, pc, wt, cds, th, is, tc, bw, td, tn, tcn, lu, du, ku) Z) := by
  refine xCt.of (by decide) rfl ck_MO_run (Nat.le_of_ble_eq_true rfl) rfl ?_
  generalize List.length (hM C cd T R P K a mb (ct, od, ln, rw') (pl, pv, pc, wt, cds, th, is, tc, bw, td, tn, tcn, lu, du, ku) Z) = n0
  refine b_MO_run_0 ?_
  unfold run
  generalize hv : rl g k (n - k) 0 = v
  have h : ∀ (f m : Nat) (cl : Bool), k + m + f = n → rl g k f m = v → xW l x d 0 0 mMO_run n0 (fun r H' => ∃ o, r = Sum.inl o ∧ o = some (.int (nI v)) ∧ H' = hM C cd T R P K a mb (ct, od, ln, rw') (pl, pv, pc, wt, cds, th, is, tc, bw, td, tn, tcn, lu, du, ku) Z) cl 2 [some (.ref 74), some (.int (nI k)), some (.int (nI n)), some (.int (nI m))] [] (hM C cd T R P K a mb (ct, od, ln, rw') (pl, pv, pc, wt, cds, th, is, tc, bw, td, tn, tcn, lu, du, ku) Z) 0 0 := by
    intro f
    induction f with
    | zero =>
      intro m cl hm hz
      have hz : m = v := hz
      subst hz
      refine b_MO_run_2 ?_
      refine ⟨fun hb => ?_, fun hb => ?_⟩ <;> (try simp (disch := omega) only [nI_lit, nI_fold, nI_mul, nI_add, pk_sub, pk_div, nI_shrN, nI_clamp, nI_leI, nI_ltI, nI_eq, not_true_eq_false, not_false_eq_true, Bool.false_eq_true, if_true, if_false, nI_nem, nI_m1, nI_m7, nI_m15, nI_m32, nI_m4, nI_m8, nI_m16, nI_m2] at hb) <;> (try omega)
      refine ⟨rfl, Nat.le_refl _, _, rfl, ⟨rfl, rfl⟩⟩
    | succ f ih =>
      intro m cl hm hz
      unfold rl at hz
      have g1 := hg (k + m) (by omega)
      have g2 := hg k hk
      refine b_MO_run_2 ?_
      refine ⟨fun hb => ?_, fun hb => ?_⟩ <;> (try simp (disch := omega) only [nI_lit, nI_fold, nI_mul, nI_add, pk_sub, pk_div, nI_shrN, nI_clamp, nI_leI, nI_ltI, nI_eq, not_true_eq_false, not_false_eq_true, Bool.false_eq_true, if_true, if_false, nI_nem, nI_m1, nI_m7, nI_m15, nI_m32, nI_m4, nI_m8, nI_m16, nI_m2] at hb) <;> (try omega)
      rw [nI_add]
      refine ⟨_, ⟨_, rfl, rfl⟩, _, _, rfl, vp_in_nI (by omega) (by decide), _, ⟨_, rfl, rfl⟩, _, _, rfl, vp_in_nI (by omega) (by decide), ?_⟩
      try dsimp only
      repeat rw [nI_clamp (by omega)]
      refine ⟨fun he => ?_, fun he => ?_⟩ <;> rw [g1.1, g2.1, nI_eq (by omega) (by omega)] at he
      · rw [if_neg he] at hz
        subst hz
        refine ⟨rfl, Nat.le_refl _, _, rfl, ⟨rfl, rfl⟩⟩
      · rw [if_pos he] at hz
        rw [nI_1]
        exact ih (m + 1) cl (by omega) hz
  exact h (n - k) 0 true (by omega) hv
theorem c_MO_tellRow {g : Nat → Nat} {n tcn : Nat} (hn : n ≤ 316) (hg : ∀ i, i < n → rw' i = nI (g i) ∧ g i < 16) : xCr l x 1 0 0 mMO_tellRow [.ref 74, .int (nI n)] (hM C cd T R P K a mb (ct, od, ln, rw') (pl, pv, pc, wt, cds, th, is, tc, bw, td, tn, tcn, lu, du, ku) Z) (fun o H' => o = none ∧ ∃ ts' tn', tOK (told g n) ts' tn' ∧ H' = hM C cd T R P K a mb (ct, od, ln, rw') (pl, pv, pc, wt, cds, th, is, tc, bw, ts', tn', (told g n).1, lu, du, ku) Z) := by
  refine xCt.of (by decide) rfl ck_MO_tellRow (Nat.le_of_ble_eq_true rfl) rfl ?_
  generalize List.length (hM C cd T R P K a mb (ct, od, ln, rw') (pl, pv, pc, wt, cds, th, is, tc, bw, td, tn, tcn, lu, du, ku) Z) = n0
  generalize hF : told g n = F
  refine b_MO_tellRow_0 ⟨_, rfl, Nat.le_of_ble_eq_true rfl, fun H2 e2 => ?_⟩
  try simp (disch := omega) only [nI_lit, nI_fold, nI_mul, nI_add, pk_sub, pk_div, nI_shrN, nI_clamp] at e2
  subst e2
  have h : ∀ (j k : Nat) (s : tS) (ts tn : wF) (L3 L4 L5 : Option Value) (cl : Bool), k + j = n → tOK s ts tn → tsm s → s.1 ≤ k → trow g n (n - k) k s = F → xW l x 1 0 0 mMO_tellRow n0 (fun r H' => ∃ o, r = Sum.inl o ∧ o = none ∧ ∃ ts' tn', tOK F ts' tn' ∧ H' = hM C cd T R P K a mb (ct, od, ln, rw') (pl, pv, pc, wt, cds, th, is, tc, bw, ts', tn', F.1, lu, du, ku) Z) cl 5 [some (.ref 74), some (.int (nI n)), some (.int (nI k)), L3, L4, L5, none] [] (hM C cd T R P K a mb (ct, od, ln, rw') (pl, pv, pc, wt, cds, th, is, tc, bw, ts, tn, s.1, lu, du, ku) Z) 0 0 := by
    intro j
    induction j using Nat.strongRecOn with
    | _ j ih =>
    intro k s ts tn L3 L4 L5 cl hj hs hsm hsk hz
    refine xW.fgt 3 (xW.fgt 4 (xW.fgt 5 ?_))
    by_cases hkn : k < n
    case neg =>
      have : k = n := by omega
      subst this
      rw [Nat.sub_self] at hz
      have hz : s = F := hz
      subst hz
      refine b_MO_tellRow_5 ?_
      refine ⟨fun hb => ?_, fun hb => ?_⟩ <;> (try simp (disch := omega) only [nI_lit, nI_fold, nI_mul, nI_add, pk_sub, pk_div, nI_shrN, nI_clamp, nI_leI, nI_ltI, nI_eq, not_true_eq_false, not_false_eq_true, Bool.false_eq_true, if_true, if_false, nI_nem, nI_m1, nI_m7, nI_m15, nI_m32, nI_m4, nI_m8, nI_m16, nI_m2] at hb) <;> (try omega)
      refine ⟨rfl, Nat.le_refl _, _, rfl, ⟨rfl, ts, tn, hs, rfl⟩⟩
    have r := run_ok (g := g) hkn
    have gk := hg k hkn
    obtain ⟨f, hf⟩ : ∃ f, n - k = f + 1 := ⟨n - k - 1, by omega⟩
    rw [hf] at hz
    unfold trow at hz
    rw [if_pos hkn, trow_f g n f (n - (k + run g n k)) _ _ (by omega) (by omega)] at hz
    -- in the midst of zeros
    have kz : ∀ (m : Nat) (s' : tS), g k = 0 → 1 ≤ m → m ≤ run g n k → trow g n (n - (k + run g n k)) (k + run g n k) (trl 0 (run g n k - m) (run g n k - m) s') = F → trow g n (n - (k + m)) (k + m) s' = F := by
      intro m s' h0 h1 h2 h3
      by_cases hm : m = run g n k
      · rw [hm, Nat.sub_self] at h3
        rw [hm]
        exact h3
      · have rr := run_rest hkn (show m < run g n k by omega)
        have gm := run_eq (g := g) (n := n) (k := k) (i := m) (by omega)
        obtain ⟨f2, hf2⟩ : ∃ f, n - (k + m) = f + 1 := ⟨n - (k + m) - 1, by omega⟩
        rw [hf2]
        unfold trow
        rw [if_pos (by omega), rr, gm, h0]
        unfold trun
        rw [if_pos rfl, show k + m + (run g n k - m) = k + run g n k by omega, trow_f g n f2 (n - (k + run g n k)) _ _ (by omega) (by omega)]
        exact h3
    refine b_MO_tellRow_5 ?_
    refine ⟨fun hb => ?_, fun hb => ?_⟩ <;> (try simp (disch := omega) only [nI_lit, nI_fold, nI_mul, nI_add, pk_sub, pk_div, nI_shrN, nI_clamp, nI_leI, nI_ltI, nI_eq, not_true_eq_false, not_false_eq_true, Bool.false_eq_true, if_true, if_false, nI_nem, nI_m1, nI_m7, nI_m15, nI_m32, nI_m4, nI_m8, nI_m16, nI_m2] at hb) <;> (try omega)
    refine xs_callV rfl lk_12_254 (d' := 0) (c_MO_run hn hkn hg) (Nat.le_of_ble_eq_true rfl) rfl rfl rfl rfl rfl (Nat.le_of_ble_eq_true rfl) (by omega) (by omega) ?_
    rintro _ H1 ⟨rfl, rfl⟩
    -- one by itself is told, and then those that are left of its run
    have k57 : ∀ (cl : Bool), (g k = 0 → run g n k ≤ 2) → xW l x 1 0 0 mMO_tellRow n0 (fun r H' => ∃ o, r = Sum.inl o ∧ o = none ∧ ∃ ts' tn', tOK F ts' tn' ∧ H' = hM C cd T R P K a mb (ct, od, ln, rw') (pl, pv, pc, wt, cds, th, is, tc, bw, ts', tn', F.1, lu, du, ku) Z) cl 57 [some (.ref 74), some (.int (nI n)), some (.int (nI k)), some (.int (nI (run g n k))), none, none, none] [.int 0, .int (nI (g k)), .ref 74] (hM C cd T R P K a mb (ct, od, ln, rw') (pl, pv, pc, wt, cds, th, is, tc, bw, ts, tn, s.1, lu, du, ku) Z) 0 0 := by
      intro cl hsm2
      refine xs_callV rfl lk_12_257 (d' := 0) (c_MO_tell (s := s) (y := g k) (m := 0) hs (by omega)) (Nat.le_of_ble_eq_true rfl) rfl rfl rfl rfl rfl (Nat.le_of_ble_eq_true rfl) (by omega) (by omega) ?_
      rintro _ H1 ⟨rfl, ts', tn', hs', rfl⟩
      have hsm' : tsm (tel s (g k) 0) := tel_sm hsm ⟨by omega, by decide, fun _ => rfl, fun _ => by decide, fun _ => by decide⟩
      have h1 : (tel s (g k) 0).1 = s.1 + 1 := rfl
      refine b_MO_tellRow_58 ⟨_, ⟨_, rfl, rfl⟩, _, _, rfl, vp_in_nI (by omega) (by decide), ?_⟩
      try dsimp only
      repeat rw [nI_clamp (by omega)]
      rw [gk.1]
      refine ⟨fun hc => ?_, fun hc => ?_⟩ <;> (try simp (disch := omega) only [nI_lit, nI_fold, nI_mul, nI_add, pk_sub, pk_div, nI_shrN, nI_clamp, nI_leI, nI_ltI, nI_eq, not_true_eq_false, not_false_eq_true, Bool.false_eq_true, if_true, if_false, nI_nem, nI_m1, nI_m7, nI_m15, nI_m32, nI_m4, nI_m8, nI_m16, nI_m2] at hc) <;> (try omega)
      case refine_2 =>
        -- a zero
        refine ⟨_, ⟨_, rfl, rfl⟩, _, _, rfl, vp_in_nI (by omega) (by decide), ?_⟩
        try dsimp only
        repeat rw [nI_clamp (by omega)]
        rw [gk.1, nI_1]
        have hrun := hsm2 hc
        refine b_MO_tellRow_75 ⟨fun _ => ?_, fun h => absurd (by decide) h⟩
        refine b_MO_tellRow_100 ⟨fun _ => ?_, fun h => absurd (by decide) h⟩
        refine ih (j - 1) (by omega) (k + 1) _ ts' tn' _ _ _ _ (by omega) hs' hsm' (by omega) (kz 1 _ hc (by decide) r.1 ?_)
        rw [← hz]
        unfold trun
        rw [if_pos hc]
        congr 1
        rw [hc]
        generalize run g n k = q at hrun r
        have hq : q = 1 ∨ q = 2 := by omega
        rcases hq with rfl | rfl
        · rfl
        · rfl
      refine ⟨_, ⟨_, rfl, rfl⟩, _, _, rfl, vp_in_nI (by omega) (by decide), ?_⟩
      try dsimp only
      repeat rw [nI_clamp (by omega)]
      rw [gk.1, nI_1, show nI (run g n k) - 1 = nI (run g n k - 1) by rw [show (1 : Int32) = nI 1 from rfl, nI_sub (by omega)]]
      rw [show trun (g k) (run g n k) s = trl (g k) (run g n k) (run g n k - 1) (tel s (g k) 0) from if_neg hc] at hz
      generalize hkr : k + run g n k = ke at hz r
      -- the rest of the run
      have k100 : ∀ (m q : Nat) (s : tS) (ts tn : wF) (v3 : Int32) (cl : Bool), q + m = ke → k < q → m < 400 → tOK s ts tn → tsm s → s.1 ≤ q → trow g n (n - ke) ke (rpt (g k) m s) = F → xW l x 1 0 0 mMO_tellRow n0 (fun r H' => ∃ o, r = Sum.inl o ∧ o = none ∧ ∃ ts' tn', tOK F ts' tn' ∧ H' = hM C cd T R P K a mb (ct, od, ln, rw') (pl, pv, pc, wt, cds, th, is, tc, bw, ts', tn', F.1, lu, du, ku) Z) cl 100 [some (.ref 74), some (.int (nI n)), some (.int (nI q)), some (.int v3), some (.int (nI m)), some (.int (nI (g k))), none] [] (hM C cd T R P K a mb (ct, od, ln, rw') (pl, pv, pc, wt, cds, th, is, tc, bw, ts, tn, s.1, lu, du, ku) Z) 0 0 := by
        intro m
        induction m with
        | zero =>
          intro q s ts tn v3 cl hq hkq hm hs hsm hsq hz
          have : q = ke := by omega
          subst this
          refine b_MO_tellRow_100 ?_
          refine ⟨fun hb => ?_, fun hb => ?_⟩ <;> (try simp (disch := omega) only [nI_lit, nI_fold, nI_mul, nI_add, pk_sub, pk_div, nI_shrN, nI_clamp, nI_leI, nI_ltI, nI_eq, not_true_eq_false, not_false_eq_true, Bool.false_eq_true, if_true, if_false, nI_nem, nI_m1, nI_m7, nI_m15, nI_m32, nI_m4, nI_m8, nI_m16, nI_m2] at hb) <;> (try omega)
          exact ih (n - q) (by omega) q s ts tn _ _ _ _ (by omega) hs hsm hsq hz
        | succ m ihm =>
          intro q s ts tn v3 cl hq hkq hm hs hsm hsq hz
          refine b_MO_tellRow_100 ?_
          refine ⟨fun hb => ?_, fun hb => ?_⟩ <;> (try simp (disch := omega) only [nI_lit, nI_fold, nI_mul, nI_add, pk_sub, pk_div, nI_shrN, nI_clamp, nI_leI, nI_ltI, nI_eq, not_true_eq_false, not_false_eq_true, Bool.false_eq_true, if_true, if_false, nI_nem, nI_m1, nI_m7, nI_m15, nI_m32, nI_m4, nI_m8, nI_m16, nI_m2] at hb) <;> (try omega)
          refine xs_callV rfl lk_12_257 (d' := 0) (c_MO_tell (s := s) (y := g k) (m := 0) hs (by omega)) (Nat.le_of_ble_eq_true rfl) rfl rfl rfl rfl rfl (Nat.le_of_ble_eq_true rfl) (by omega) (by omega) ?_
          rintro _ H1 ⟨rfl, ts', tn', hs', rfl⟩
          refine b_MO_tellRow_106 ?_
          rw [nI_1, mI_d, nI_pred]
          exact ihm (q + 1) (tel s (g k) 0) ts' tn' _ false (by omega) (by omega) (by omega) hs' (tel_sm hsm ⟨by omega, by decide, fun _ => rfl, fun _ => by decide, fun _ => by decide⟩) (by show s.1 + 1 ≤ _; omega) hz
      have k75 : ∀ (f m q : Nat) (s : tS) (ts tn : wF) (v3 : Int32) (L6 : Option Value) (cl : Bool), m ≤ f → q + m = ke → k < q → m < 400 → tOK s ts tn → tsm s → s.1 ≤ q → trow g n (n - ke) ke (trl (g k) f m s) = F → xW l x 1 0 0 mMO_tellRow n0 (fun r H' => ∃ o, r = Sum.inl o ∧ o = none ∧ ∃ ts' tn', tOK F ts' tn' ∧ H' = hM C cd T R P K a mb (ct, od, ln, rw') (pl, pv, pc, wt, cds, th, is, tc, bw, ts', tn', F.1, lu, du, ku) Z) cl 75 [some (.ref 74), some (.int (nI n)), some (.int (nI q)), some (.int v3), some (.int (nI m)), some (.int (nI (g k))), L6] [] (hM C cd T R P K a mb (ct, od, ln, rw') (pl, pv, pc, wt, cds, th, is, tc, bw, ts, tn, s.1, lu, du, ku) Z) 0 0 := by
        intro f
        induction f with
        | zero =>
          intro m q s ts tn v3 L6 cl hf hq hkq hm hs hsm hsq hz
          refine xW.fgt 6 ?_
          refine b_MO_tellRow_75 ?_
          refine ⟨fun hb => ?_, fun hb => ?_⟩ <;> (try simp (disch := omega) only [nI_lit, nI_fold, nI_mul, nI_add, pk_sub, pk_div, nI_shrN, nI_clamp, nI_leI, nI_ltI, nI_eq, not_true_eq_false, not_false_eq_true, Bool.false_eq_true, if_true, if_false, nI_nem, nI_m1, nI_m7, nI_m15, nI_m32, nI_m4, nI_m8, nI_m16, nI_m2] at hb) <;> (try omega)
          exact k100 m q s ts tn _ _ hq hkq hm hs hsm hsq hz
        | succ f ihf =>
          intro m q s ts tn v3 L6 cl hf hq hkq hm hs hsm hsq hz
          unfold trl at hz
          refine xW.fgt 6 ?_
          refine b_MO_tellRow_75 ?_
          refine ⟨fun hb => ?_, fun hb => ?_⟩ <;> (try simp (disch := omega) only [nI_lit, nI_fold, nI_mul, nI_add, pk_sub, pk_div, nI_shrN, nI_clamp, nI_leI, nI_ltI, nI_eq, not_true_eq_false, not_false_eq_true, Bool.false_eq_true, if_true, if_false, nI_nem, nI_m1, nI_m7, nI_m15, nI_m32, nI_m4, nI_m8, nI_m16, nI_m2] at hb) <;> (try omega)
          · rw [if_pos (by omega)] at hz
            exact k100 m q s ts tn _ _ hq hkq hm hs hsm hsq hz
          rw [if_neg (by omega), if_pos hc] at hz
          have kt : ∀ (cl : Bool), xW l x 1 0 0 mMO_tellRow n0 (fun r H' => ∃ o, r = Sum.inl o ∧ o = none ∧ ∃ ts' tn', tOK F ts' tn' ∧ H' = hM C cd T R P K a mb (ct, od, ln, rw') (pl, pv, pc, wt, cds, th, is, tc, bw, ts', tn', F.1, lu, du, ku) Z) cl 90 [some (.ref 74), some (.int (nI n)), some (.int (nI q)), some (.int v3), some (.int (nI m)), some (.int (nI (g k))), some (.int (nI (mn m 6)))] [.int (nI (mn m 6 - 3)), .int 16, .ref 74] (hM C cd T R P K a mb (ct, od, ln, rw') (pl, pv, pc, wt, cds, th, is, tc, bw, ts, tn, s.1, lu, du, ku) Z) 0 0 := by
            intro cl
            have hmb : 3 ≤ mn m 6 ∧ mn m 6 ≤ 6 ∧ mn m 6 ≤ m := by unfold mn; split <;> omega
            generalize mn m 6 = y at hmb hz ⊢
            refine xs_callV rfl lk_12_257 (d' := 0) (c_MO_tell (s := s) (y := 16) (m := y - 3) hs (by omega)) (Nat.le_of_ble_eq_true rfl) rfl rfl rfl rfl rfl (Nat.le_of_ble_eq_true rfl) (by omega) (by omega) ?_
            rintro _ H1 ⟨rfl, ts', tn', hs', rfl⟩
            refine b_MO_tellRow_91 ?_
            rw [nI_add, nI_sub (by omega)]
            exact ihf (m - y) (q + y) _ ts' tn' _ _ false (by omega) (by omega) (by omega) (by omega) hs' (tel_sm hsm ⟨by decide, by omega, fun h => by omega, fun _ => by omega, fun h => by omega⟩) (by show s.1 + 1 ≤ _; omega) hz
          refine ⟨fun hd => ?_, fun hd => ?_⟩ <;> (try simp (disch := omega) only [nI_lit, nI_fold, nI_mul, nI_add, pk_sub, pk_div, nI_shrN, nI_clamp, nI_leI, nI_ltI, nI_eq, not_true_eq_false, not_false_eq_true, Bool.false_eq_true, if_true, if_false, nI_nem, nI_m1, nI_m7, nI_m15, nI_m32, nI_m4, nI_m8, nI_m16, nI_m2] at hd) <;> (try omega)
          · rw [show mn m 6 = m from if_pos hd] at kt
            rw [show nI m - 3 = nI (m - 3) by rw [show (3 : Int32) = nI 3 from rfl, nI_sub (by omega)]]
            exact kt _
          · rw [show mn m 6 = 6 from if_neg hd] at kt
            exact kt _
      exact k75 (run g n k) (run g n k - 1) (k + 1) _ ts' tn' _ _ _ (by omega) (by omega) (by omega) (by omega) hs' hsm' (by omega) hz
    refine b_MO_tellRow_12 ⟨_, ⟨_, rfl, rfl⟩, _, _, rfl, vp_in_nI (by omega) (by decide), ?_⟩
    try dsimp only
    repeat rw [nI_clamp (by omega)]
    rw [gk.1]
    refine ⟨fun hc => ?_, fun hc => ?_⟩ <;> (try simp (disch := omega) only [nI_lit, nI_fold, nI_mul, nI_add, pk_sub, pk_div, nI_shrN, nI_clamp, nI_leI, nI_ltI, nI_eq, not_true_eq_false, not_false_eq_true, Bool.false_eq_true, if_true, if_false, nI_nem, nI_m1, nI_m7, nI_m15, nI_m32, nI_m4, nI_m8, nI_m16, nI_m2] at hc) <;> (try omega)
    · refine ⟨_, ⟨_, rfl, rfl⟩, _, _, rfl, vp_in_nI (by omega) (by decide), ?_⟩
      try dsimp only
      repeat rw [nI_clamp (by omega)]
      rw [gk.1]
      exact k57 _ (fun h => absurd h hc)
    refine ⟨fun hd => ?_, fun hd => ?_⟩ <;> (try simp (disch := omega) only [nI_lit, nI_fold, nI_mul, nI_add, pk_sub, pk_div, nI_shrN, nI_clamp, nI_leI, nI_ltI, nI_eq, not_true_eq_false, not_false_eq_true, Bool.false_eq_true, if_true, if_false, nI_nem, nI_m1, nI_m7, nI_m15, nI_m32, nI_m4, nI_m8, nI_m16, nI_m2] at hd) <;> (try omega)
    · refine ⟨_, ⟨_, rfl, rfl⟩, _, _, rfl, vp_in_nI (by omega) (by decide), ?_⟩
      try dsimp only
      repeat rw [nI_clamp (by omega)]
      rw [gk.1]
      exact k57 _ (fun _ => by omega)
    -- many zeros
    rw [show trun (g k) (run g n k) s = trl 0 (run g n k) (run g n k) s from if_pos hc] at hz
    have kt : ∀ (m y w : Nat) (L4 : Option Value) (cl : Bool), 3 ≤ m → m ≤ run g n k → y < 19 ∧ w < 128 ∧ (y < 16 → w = 0) ∧ (y = 16 → w < 4) ∧ (y = 17 → w < 8) → trow g n (n - (k + run g n k)) (k + run g n k) (trl 0 (run g n k - m) (run g n k - m) (tel s y w)) = F → xW l x 1 0 0 mMO_tellRow n0 (fun r H' => ∃ o, r = Sum.inl o ∧ o = none ∧ ∃ ts' tn', tOK F ts' tn' ∧ H' = hM C cd T R P K a mb (ct, od, ln, rw') (pl, pv, pc, wt, cds, th, is, tc, bw, ts', tn', F.1, lu, du, ku) Z) cl 45 [some (.ref 74), some (.int (nI n)), some (.int (nI k)), some (.int (nI (run g n k))), some (.int (nI m)), none, none] [.int (nI w), .int (nI y), .ref 74] (hM C cd T R P K a mb (ct, od, ln, rw') (pl, pv, pc, wt, cds, th, is, tc, bw, ts, tn, s.1, lu, du, ku) Z) 0 0 := by
      intro m y w L4 cl h1 h2 hyw hz2
      refine xs_callV rfl lk_12_257 (d' := 0) (c_MO_tell (s := s) (y := y) (m := w) hs (by omega)) (Nat.le_of_ble_eq_true rfl) rfl rfl rfl rfl rfl (Nat.le_of_ble_eq_true rfl) (by omega) (by omega) ?_
      rintro _ H1 ⟨rfl, ts', tn', hs', rfl⟩
      refine b_MO_tellRow_46 ?_
      rw [nI_add]
      exact ih (j - m) (by omega) (k + m) _ ts' tn' _ _ _ false (by omega) hs' (tel_sm hsm hyw) (by show s.1 + 1 ≤ _; omega) (kz m _ hc (by omega) h2 hz2)
    obtain ⟨f3, hf3⟩ : ∃ f, run g n k = f + 1 := ⟨run g n k - 1, by omega⟩
    have hz3 : trl 0 (run g n k) (run g n k) s = if run g n k < 11 then tel s 17 (run g n k - 3) else trl 0 f3 (run g n k - mn (run g n k) 138) (tel s 18 (mn (run g n k) 138 - 11)) := by
      have e0 : trl 0 (run g n k) (run g n k) s = trl 0 (f3 + 1) (run g n k) s := by rw [← hf3]
      rw [e0, trl_s, if_neg (by omega), if_neg (by decide)]
    rw [hz3] at hz
    refine ⟨fun he => ?_, fun he => ?_⟩ <;> (try simp (disch := omega) only [nI_lit, nI_fold, nI_mul, nI_add, pk_sub, pk_div, nI_shrN, nI_clamp, nI_leI, nI_ltI, nI_eq, not_true_eq_false, not_false_eq_true, Bool.false_eq_true, if_true, if_false, nI_nem, nI_m1, nI_m7, nI_m15, nI_m32, nI_m4, nI_m8, nI_m16, nI_m2] at he) <;> (try omega)
    · have hmn : mn (run g n k) 138 = run g n k := if_pos he
      rw [hmn] at hz
      refine ⟨fun hg2 => ?_, fun hg2 => ?_⟩ <;> (try simp (disch := omega) only [nI_lit, nI_fold, nI_mul, nI_add, pk_sub, pk_div, nI_shrN, nI_clamp, nI_leI, nI_ltI, nI_eq, not_true_eq_false, not_false_eq_true, Bool.false_eq_true, if_true, if_false, nI_nem, nI_m1, nI_m7, nI_m15, nI_m32, nI_m4, nI_m8, nI_m16, nI_m2] at hg2) <;> (try omega)
      · refine ⟨fun hh => ?_, fun hh => ?_⟩ <;> (try simp (disch := omega) only [nI_lit, nI_fold, nI_mul, nI_add, pk_sub, pk_div, nI_shrN, nI_clamp, nI_leI, nI_ltI, nI_eq, not_true_eq_false, not_false_eq_true, Bool.false_eq_true, if_true, if_false, nI_nem, nI_m1, nI_m7, nI_m15, nI_m32, nI_m4, nI_m8, nI_m16, nI_m2] at hh) <;> (try omega)
        rw [if_pos (by omega)] at hz
        rw [show nI (run g n k) - 3 = nI (run g n k - 3) by rw [show (3 : Int32) = nI 3 from rfl, nI_sub (by omega)]]
        refine kt (run g n k) 17 (run g n k - 3) none _ (by omega) (Nat.le_refl _) ⟨by decide, by omega, fun h => by omega, fun h => by omega, fun _ => by omega⟩ ?_
        rw [Nat.sub_self]
        exact hz
      · refine ⟨fun hh => ?_, fun hh => ?_⟩ <;> (try simp (disch := omega) only [nI_lit, nI_fold, nI_mul, nI_add, pk_sub, pk_div, nI_shrN, nI_clamp, nI_leI, nI_ltI, nI_eq, not_true_eq_false, not_false_eq_true, Bool.false_eq_true, if_true, if_false, nI_nem, nI_m1, nI_m7, nI_m15, nI_m32, nI_m4, nI_m8, nI_m16, nI_m2] at hh) <;> (try omega)
        rw [if_neg (by omega)] at hz
        rw [show nI (run g n k) - 11 = nI (run g n k - 11) by rw [show (11 : Int32) = nI 11 from rfl, nI_sub (by omega)]]
        refine kt (run g n k) 18 (run g n k - 11) none _ (by omega) (Nat.le_refl _) ⟨by decide, by omega, fun h => by omega, fun h => by omega, fun h => by omega⟩ ?_
        rw [← trl_f 0 f3 _ _ _ (by omega) (by omega)]
        exact hz
    · have hmn : mn (run g n k) 138 = 138 := if_neg he
      rw [hmn, if_neg (by omega)] at hz
      refine ⟨fun h => absurd h (by decide), fun _ => ?_⟩
      refine ⟨fun h => absurd h (by decide), fun _ => ?_⟩
      refine kt 138 18 127 none _ (by decide) (by omega) ⟨by decide, by decide, fun h => by omega, fun h => by omega, fun h => by omega⟩ ?_
      rw [← trl_f 0 f3 _ _ _ (by omega) (by omega)]
      exact hz
  exact h n 0 (0, fun _ => 0, fun _ => 0) td tn none none none false (by omega) (fun i hi => absurd hi (Nat.not_lt_zero _)) (fun i hi => absurd hi (Nat.not_lt_zero _)) (Nat.le_refl _) hF
end MTell
