/-! the model's lengths by weights -/
section MWeigh
variable {l : Launch} {x : xX} {d : Nat} {C : Nat → va_E} {cd : Int32} {T R : wRow} {P : wRp} {K : wK4} {a mb : Nat} {ct od ln rw' : wF} {Z : xH} {pl pv : wF} {pc : Nat} {wt : Nat → Int64} {cds : wF} {th : Nat → Int64} {is tc bw td tn : wF} {tcn lu du ku : Nat}
theorem MO_lay_row {n0 : Nat} {Q : xO → xH → Prop} {SW SY RW : Nat → Nat} {fm many m r pairs n : Nat} (hfm : fm + n ≤ 600) (hm : m ≤ 15) (hr1 : 1 ≤ r) (hr : r ≤ m) (hmn : many ≤ 286) (hp : pairs ≤ many) (hbw : ∀ j, j < many → bw j = nI (SY j) ∧ SY j < n ∧ wt (fm + SY j) = lN (SW j) ∧ SW j < 2 ^ 28) (hRW : ∀ j, j < 2 * pairs → th (600 * (r - 1) + j) = lN (RW j) ∧ RW j < 2 ^ 28)
    (K7 : ∀ (th' : Nat → Int64) (is' tc' : wF), (∀ i, i < many + pairs → th' (600 * r + i) = lN (mgv SW many RW pairs i)) → (∀ i, i < many + pairs → is' (600 * r + i) = if tkw SW many RW pairs (mg SW many RW pairs i) then 1 else 0) → (∀ i, i < 600 * r → is' i = is i) → tc' = upd tc r (nI (many + pairs)) → ∀ L5 L6 L7 L8 L9 L11, xW l x 1 0 0 mMO_layRows n0 Q false 7 [some (.ref 74), some (.int (nI fm)), some (.int (nI many)), some (.int (nI m)), some (.int (nI (r + 1))), L5, L6, L7, L8, L9, none, L11] [] (hM C cd T R P K a mb (ct, od, ln, rw') (pl, pv, pc, wt, cds, th', is', tc', bw, td, tn, tcn, lu, du, ku) Z) 0 0) :
    ∀ (j i : Nat) (th' : Nat → Int64) (is' : wF) (L9 L11 : Option Value) (cl : Bool), i + j = many + pairs → (∀ t, t < i → th' (600 * r + t) = lN (mgv SW many RW pairs t)) → (∀ t, t < i → is' (600 * r + t) = if tkw SW many RW pairs (mg SW many RW pairs t) then 1 else 0) → (∀ t, t < 600 * r → th' t = th t ∧ is' t = is t) → xW l x 1 0 0 mMO_layRows n0 Q cl 25 [some (.ref 74), some (.int (nI fm)), some (.int (nI many)), some (.int (nI m)), some (.int (nI r)), some (.int (nI pairs)), some (.int (nI (mg SW many RW pairs i).1)), some (.int (nI (mg SW many RW pairs i).2)), some (.int (nI i)), L9, none, L11] [] (hM C cd T R P K a mb (ct, od, ln, rw') (pl, pv, pc, wt, cds, th', is', tc, bw, td, tn, tcn, lu, du, ku) Z) 0 0 := by
  intro j
  induction j with
  | zero =>
    intro i th' is' L9 L11 cl hi h1 h2 h3
    have : i = many + pairs := by omega
    subst this
    have hs := mg_sum SW many RW pairs (many + pairs)
    have ho := mg_ok SW many RW pairs (many + pairs) (Nat.le_refl _)
    refine xW.fgt 9 (xW.fgt 11 ?_)
    refine b_MO_layRows_25 ?_
    refine ⟨fun hb => ?_, fun hb => ?_⟩ <;> (try simp (disch := omega) only [nI_lit, nI_fold, nI_mul, nI_add, pk_sub, pk_div, nI_shrN, nI_clamp, nI_leI, nI_ltI, nI_eq, not_true_eq_false, not_false_eq_true, Bool.false_eq_true, if_true, if_false, nI_nem, nI_m1, nI_m7, nI_m15, nI_m32, nI_m4, nI_m8, nI_m16, nI_m2] at hb) <;> (try omega)
    refine ⟨fun hc => ?_, fun hc => ?_⟩ <;> (try simp (disch := omega) only [nI_lit, nI_fold, nI_mul, nI_add, pk_sub, pk_div, nI_shrN, nI_clamp, nI_leI, nI_ltI, nI_eq, not_true_eq_false, not_false_eq_true, Bool.false_eq_true, if_true, if_false, nI_nem, nI_m1, nI_m7, nI_m15, nI_m32, nI_m4, nI_m8, nI_m16, nI_m2] at hc) <;> (try omega)
    refine ⟨_, ⟨_, rfl, rfl⟩, _, _, rfl, Nat.le_of_ble_eq_true rfl, vp_in_nI (by omega) (by decide), fun H10 e10 => ?_⟩
    try dsimp only at e10
    rw [nI_clamp (by omega)] at e10
    subst e10
    rw [nI_1]
    exact K7 th' is' _ h1 h2 (fun t ht => (h3 t ht).2) rfl _ _ _ _ _ _
  | succ j ih =>
    intro i th' is' L9 L11 cl hi h1 h2 h3
    have hs := mg_sum SW many RW pairs i
    have ho := mg_ok SW many RW pairs i (by omega)
    have ho1 := mg_ok SW many RW pairs (i + 1) (by omega)
    have hmg : mg SW many RW pairs (i + 1) = if tkw SW many RW pairs (mg SW many RW pairs i) then ((mg SW many RW pairs i).1 + 1, (mg SW many RW pairs i).2) else ((mg SW many RW pairs i).1, (mg SW many RW pairs i).2 + 1) := rfl
    have hmv : mgv SW many RW pairs i = if tkw SW many RW pairs (mg SW many RW pairs i) then SW (mg SW many RW pairs i).1 else RW (2 * (mg SW many RW pairs i).2) + RW (2 * (mg SW many RW pairs i).2 + 1) := rfl
    have htk : tkw SW many RW pairs (mg SW many RW pairs i) = (decide (pairs ≤ (mg SW many RW pairs i).2) || (decide ((mg SW many RW pairs i).1 < many) && decide (SW (mg SW many RW pairs i).1 ≤ RW (2 * (mg SW many RW pairs i).2) + RW (2 * (mg SW many RW pairs i).2 + 1)))) := rfl
    have ih := ih (i + 1)
    generalize mg SW many RW pairs (i + 1) = s1 at hmg ih ho1
    -- what is taken is written
    have k106 : ∀ (b : Bool) (v9 v : Int64) (cl : Bool), tkw SW many RW pairs (mg SW many RW pairs i) = b → v = lN (mgv SW many RW pairs i) → xW l x 1 0 0 mMO_layRows n0 Q cl 106 [some (.ref 74), some (.int (nI fm)), some (.int (nI many)), some (.int (nI m)), some (.int (nI r)), some (.int (nI pairs)), some (.int (nI (mg SW many RW pairs i).1)), some (.int (nI (mg SW many RW pairs i).2)), some (.int (nI i)), some (.long v9), none, some (.int (if b then 1 else 0))] [.long v, .int ((600 : Int32) * nI r + nI i), .ref 89] (hM C cd T R P K a mb (ct, od, ln, rw') (pl, pv, pc, wt, cds, th', is', tc, bw, td, tn, tcn, lu, du, ku) Z) 0 0 := by
      intro b v9 v cl hb hv
      have hal : ∀ t, t < i + 1 → upd is' (600 * r + i) (if b then 1 else 0) (600 * r + t) = if tkw SW many RW pairs (mg SW many RW pairs t) then 1 else 0 := by
        intro t ht
        unfold upd
        by_cases a : t = i
        · rw [if_pos (by omega), a, hb]
        · rw [if_neg (by omega)]
          exact h2 t (by omega)
      have hth : ∀ t, t < i + 1 → vp_updL th' (600 * r + i) v (600 * r + t) = lN (mgv SW many RW pairs t) := by
        intro t ht
        unfold vp_updL
        by_cases a : t = i
        · rw [if_pos (by omega), a, hv]
        · rw [if_neg (by omega)]
          exact h1 t (by omega)
      have hfr : ∀ t, t < 600 * r → vp_updL th' (600 * r + i) v t = th t ∧ upd is' (600 * r + i) (if b then 1 else 0) t = is t := by
        intro t ht
        unfold vp_updL upd
        rw [if_neg (by omega), if_neg (by omega)]
        exact h3 t ht
      rw [hb] at hmg
      rw [show (600 : Int32) * nI r + nI i = nI (600 * r + i) by rw [show (600 : Int32) * nI r = nI (600 * r) from nI_mul 600 r, nI_add]]
      refine b_MO_layRows_106 ⟨_, _, rfl, vp_in_nI (by omega) (by decide), fun H3 e3 => ?_⟩
      try dsimp only at e3
      rw [nI_clamp (by omega)] at e3
      subst e3
      refine ⟨_, ⟨_, rfl, rfl⟩, _, _, rfl, ?_, fun H7 e7 => ?_⟩
      · simp (disch := omega) only [nI_lit, nI_fold, nI_mul, nI_add, pk_sub, pk_div, nI_shrN, nI_clamp]
        exact vp_in_nI (by omega) (by decide)
      try dsimp only at e7
      rw [show (600 : Int32) * nI r + nI i = nI (600 * r + i) by rw [show (600 : Int32) * nI r = nI (600 * r) from nI_mul 600 r, nI_add], nI_clamp (by omega), show vp_nar .boolean (if b then (1 : Int32) else 0) = if b then 1 else 0 by cases b <;> rfl] at e7
      subst e7
      cases b with
      | false =>
        have hmg : s1 = ((mg SW many RW pairs i).1, (mg SW many RW pairs i).2 + 1) := hmg
        refine ⟨fun _ => ?_, fun h => absurd rfl h⟩
        refine b_MO_layRows_123 ⟨fun _ => ?_, fun h => absurd rfl h⟩
        refine b_MO_layRows_131 ?_
        rw [nI_1, nI_1]
        have := ih _ _ (some (.long v9)) (some (.int 0)) false (by omega) hth hal hfr
        rw [hmg] at this
        exact this
      | true =>
        have hmg : s1 = ((mg SW many RW pairs i).1 + 1, (mg SW many RW pairs i).2) := hmg
        refine ⟨fun h => absurd h (by decide), fun _ => ?_⟩
        refine b_MO_layRows_123 ⟨fun h => absurd h (by decide), fun _ => ?_⟩
        refine b_MO_layRows_131 ?_
        rw [nI_1, nI_1]
        have := ih _ _ (some (.long v9)) (some (.int 1)) false (by omega) hth hal hfr
        rw [hmg] at this
        exact this
    -- which is taken
    have k63 : ∀ (v : Int64) (cl : Bool), (¬ pairs ≤ (mg SW many RW pairs i).2 → v = lN (RW (2 * (mg SW many RW pairs i).2) + RW (2 * (mg SW many RW pairs i).2 + 1)) ∧ RW (2 * (mg SW many RW pairs i).2) + RW (2 * (mg SW many RW pairs i).2 + 1) < 2 ^ 30) → xW l x 1 0 0 mMO_layRows n0 Q cl 63 [some (.ref 74), some (.int (nI fm)), some (.int (nI many)), some (.int (nI m)), some (.int (nI r)), some (.int (nI pairs)), some (.int (nI (mg SW many RW pairs i).1)), some (.int (nI (mg SW many RW pairs i).2)), some (.int (nI i)), none, none, none] [.long v] (hM C cd T R P K a mb (ct, od, ln, rw') (pl, pv, pc, wt, cds, th', is', tc, bw, td, tn, tcn, lu, du, ku) Z) 0 0 := by
      intro v cl hv
      have k82 : ∀ cl, tkw SW many RW pairs (mg SW many RW pairs i) = true → xW l x 1 0 0 mMO_layRows n0 Q cl 82 [some (.ref 74), some (.int (nI fm)), some (.int (nI many)), some (.int (nI m)), some (.int (nI r)), some (.int (nI pairs)), some (.int (nI (mg SW many RW pairs i).1)), some (.int (nI (mg SW many RW pairs i).2)), some (.int (nI i)), some (.long v), none, none] [] (hM C cd T R P K a mb (ct, od, ln, rw') (pl, pv, pc, wt, cds, th', is', tc, bw, td, tn, tcn, lu, du, ku) Z) 0 0 := by
        intro cl hb
        rw [hb] at hmg hmv
        have hmg : s1 = ((mg SW many RW pairs i).1 + 1, (mg SW many RW pairs i).2) := hmg
        have hmv : mgv SW many RW pairs i = SW (mg SW many RW pairs i).1 := hmv
        rw [hmg] at ho1
        dsimp only at ho1
        obtain ⟨b1, b2, b3, b4⟩ := hbw (mg SW many RW pairs i).1 (by omega)
        refine b_MO_layRows_82 ?_
        refine b_MO_layRows_85 ⟨_, ⟨_, rfl, rfl⟩, fun h => absurd h (by decide), fun _ => ?_⟩
        refine ⟨_, ⟨_, rfl, rfl⟩, _, ⟨_, rfl, rfl⟩, _, _, rfl, vp_in_nI (by omega) (by decide), ?_⟩
        try dsimp only
        rw [nI_clamp (by omega), b1, nI_add]
        refine ⟨_, _, rfl, vp_in_nI (by omega) (by decide), ?_⟩
        try dsimp only
        rw [nI_clamp (by omega), b3]
        exact k106 true v _ _ hb (by rw [hmv])
      have k84 : ∀ cl, tkw SW many RW pairs (mg SW many RW pairs i) = false → ¬ pairs ≤ (mg SW many RW pairs i).2 → xW l x 1 0 0 mMO_layRows n0 Q cl 84 [some (.ref 74), some (.int (nI fm)), some (.int (nI many)), some (.int (nI m)), some (.int (nI r)), some (.int (nI pairs)), some (.int (nI (mg SW many RW pairs i).1)), some (.int (nI (mg SW many RW pairs i).2)), some (.int (nI i)), some (.long v), none, none] [] (hM C cd T R P K a mb (ct, od, ln, rw') (pl, pv, pc, wt, cds, th', is', tc, bw, td, tn, tcn, lu, du, ku) Z) 0 0 := by
        intro cl hb hlt
        rw [hb] at hmv
        have hmv : mgv SW many RW pairs i = RW (2 * (mg SW many RW pairs i).2) + RW (2 * (mg SW many RW pairs i).2 + 1) := hmv
        refine b_MO_layRows_84 ?_
        refine b_MO_layRows_85 ⟨_, ⟨_, rfl, rfl⟩, fun _ => ?_, fun h => absurd rfl h⟩
        exact k106 false v v _ hb (by rw [hmv]; exact (hv hlt).1)
      refine b_MO_layRows_63 ?_
      refine ⟨fun hb => ?_, fun hb => ?_⟩ <;> (try simp (disch := omega) only [nI_lit, nI_fold, nI_mul, nI_add, pk_sub, pk_div, nI_shrN, nI_clamp, nI_leI, nI_ltI, nI_eq, not_true_eq_false, not_false_eq_true, Bool.false_eq_true, if_true, if_false, nI_nem, nI_m1, nI_m7, nI_m15, nI_m32, nI_m4, nI_m8, nI_m16, nI_m2] at hb) <;> (try omega)
      · exact k82 _ (by rw [htk]; simp; omega)
      refine ⟨fun hc => ?_, fun hc => ?_⟩ <;> (try simp (disch := omega) only [nI_lit, nI_fold, nI_mul, nI_add, pk_sub, pk_div, nI_shrN, nI_clamp, nI_leI, nI_ltI, nI_eq, not_true_eq_false, not_false_eq_true, Bool.false_eq_true, if_true, if_false, nI_nem, nI_m1, nI_m7, nI_m15, nI_m32, nI_m4, nI_m8, nI_m16, nI_m2] at hc) <;> (try omega)
      · exact k84 _ (by rw [htk]; simp; omega) (by omega)
      obtain ⟨b1, b2, b3, b4⟩ := hbw (mg SW many RW pairs i).1 (by omega)
      have hv2 := hv (by omega)
      refine ⟨_, ⟨_, rfl, rfl⟩, _, ⟨_, rfl, rfl⟩, _, _, rfl, vp_in_nI (by omega) (by decide), ?_⟩
      try dsimp only
      rw [nI_clamp (by omega), b1, nI_add]
      refine ⟨_, _, rfl, vp_in_nI (by omega) (by decide), ?_⟩
      try dsimp only
      rw [nI_clamp (by omega), b3, hv2.1]
      refine ⟨fun hd => ?_, fun hd => ?_⟩ <;> rw [lg_cmp_gt, lN_lt (by omega) (by omega)] at hd
      · rw [← hv2.1]
        exact k84 _ (by rw [htk]; simp; omega) (by omega)
      · rw [← hv2.1]
        exact k82 _ (by rw [htk]; simp; omega)
    have kpair : ¬ pairs ≤ (mg SW many RW pairs i).2 → th' (600 * (r - 1) + 2 * (mg SW many RW pairs i).2) + th' (600 * (r - 1) + 2 * (mg SW many RW pairs i).2 + 1) = lN (RW (2 * (mg SW many RW pairs i).2) + RW (2 * (mg SW many RW pairs i).2 + 1)) ∧ RW (2 * (mg SW many RW pairs i).2) + RW (2 * (mg SW many RW pairs i).2 + 1) < 2 ^ 30 := by
      intro hlt
      have a1 := hRW (2 * (mg SW many RW pairs i).2) (by omega)
      have a2 := hRW (2 * (mg SW many RW pairs i).2 + 1) (by omega)
      rw [(h3 (600 * (r - 1) + 2 * (mg SW many RW pairs i).2) (by omega)).1, (h3 (600 * (r - 1) + 2 * (mg SW many RW pairs i).2 + 1) (by omega)).1, a1.1, Nat.add_assoc (600 * (r - 1)), a2.1, lN_add]
      exact ⟨rfl, by omega⟩
    have e1 : (600 : Int32) * (nI r - 1) + (2 : Int32) * nI (mg SW many RW pairs i).2 = nI (600 * (r - 1) + 2 * (mg SW many RW pairs i).2) := by
      rw [show (1 : Int32) = nI 1 from rfl, nI_sub hr1, show (600 : Int32) * nI (r - 1) = nI (600 * (r - 1)) from nI_mul 600 _, show (2 : Int32) * nI (mg SW many RW pairs i).2 = nI (2 * (mg SW many RW pairs i).2) from nI_mul 2 _, nI_add]
    refine xW.fgt 9 (xW.fgt 11 ?_)
    refine b_MO_layRows_25 ?_
    refine ⟨fun hb => ?_, fun hb => ?_⟩ <;> (try simp (disch := omega) only [nI_lit, nI_fold, nI_mul, nI_add, pk_sub, pk_div, nI_shrN, nI_clamp, nI_leI, nI_ltI, nI_eq, not_true_eq_false, not_false_eq_true, Bool.false_eq_true, if_true, if_false, nI_nem, nI_m1, nI_m7, nI_m15, nI_m32, nI_m4, nI_m8, nI_m16, nI_m2] at hb) <;> (try omega)
    · refine ⟨fun hc => ?_, fun hc => ?_⟩ <;> (try simp (disch := omega) only [nI_lit, nI_fold, nI_mul, nI_add, pk_sub, pk_div, nI_shrN, nI_clamp, nI_leI, nI_ltI, nI_eq, not_true_eq_false, not_false_eq_true, Bool.false_eq_true, if_true, if_false, nI_nem, nI_m1, nI_m7, nI_m15, nI_m32, nI_m4, nI_m8, nI_m16, nI_m2] at hc) <;> (try omega)
      · exact k63 0 _ (fun h => absurd (by omega) h)
      · rw [e1, nI_1]
        refine ⟨_, ⟨_, rfl, rfl⟩, _, _, rfl, vp_in_nI (by omega) (by decide), _, ⟨_, rfl, rfl⟩, _, _, rfl, vp_in_nI (by omega) (by decide), ?_⟩
        try dsimp only
        rw [nI_clamp (by omega), nI_clamp (by omega)]
        exact k63 _ _ kpair
    · refine ⟨fun hc => ?_, fun hc => ?_⟩ <;> (try simp (disch := omega) only [nI_lit, nI_fold, nI_mul, nI_add, pk_sub, pk_div, nI_shrN, nI_clamp, nI_leI, nI_ltI, nI_eq, not_true_eq_false, not_false_eq_true, Bool.false_eq_true, if_true, if_false, nI_nem, nI_m1, nI_m7, nI_m15, nI_m32, nI_m4, nI_m8, nI_m16, nI_m2] at hc) <;> (try omega)
      refine ⟨fun hd => ?_, fun hd => ?_⟩ <;> (try simp (disch := omega) only [nI_lit, nI_fold, nI_mul, nI_add, pk_sub, pk_div, nI_shrN, nI_clamp, nI_leI, nI_ltI, nI_eq, not_true_eq_false, not_false_eq_true, Bool.false_eq_true, if_true, if_false, nI_nem, nI_m1, nI_m7, nI_m15, nI_m32, nI_m4, nI_m8, nI_m16, nI_m2] at hd) <;> (try omega)
      rw [e1, nI_1]
      refine ⟨_, ⟨_, rfl, rfl⟩, _, _, rfl, vp_in_nI (by omega) (by decide), _, ⟨_, rfl, rfl⟩, _, _, rfl, vp_in_nI (by omega) (by decide), ?_⟩
      try dsimp only
      rw [nI_clamp (by omega), nI_clamp (by omega)]
      exact k63 _ _ kpair
theorem c_MO_layRows {SW SY : Nat → Nat} {fm many m n : Nat} (hfm : fm + n ≤ 600) (hm : m ≤ 15) (hmn : many ≤ 286) (h2 : 2 ≤ many) (hbw : ∀ j, j < many → bw j = nI (SY j) ∧ SY j < n ∧ wt (fm + SY j) = lN (SW j) ∧ SW j ≤ 1025) : xCr l x 1 0 0 mMO_layRows [.ref 74, .int (nI fm), .int (nI many), .int (nI m)] (hM C cd T R P K a mb (ct, od, ln, rw') (pl, pv, pc, wt, cds, th, is, tc, bw, td, tn, tcn, lu, du, ku) Z) (fun o H' => o = none ∧ ∃ th' is' tc', (∀ r, r < m → ∀ i, i < (rws SW many (r + 1)).1 → is' (600 * (r + 1) + i) = if alo SW many r i then 1 else 0) ∧ H' = hM C cd T R P K a mb (ct, od, ln, rw') (pl, pv, pc, wt, cds, th', is', tc', bw, td, tn, tcn, lu, du, ku) Z) := by
  have hrb := rws_bd (sw := SW) (many := many) (M := 1025) (fun j hj => (hbw j hj).2.2.2)
  refine xCt.of (by decide) rfl ck_MO_layRows (Nat.le_of_ble_eq_true rfl) rfl ?_
  generalize List.length (hM C cd T R P K a mb (ct, od, ln, rw') (pl, pv, pc, wt, cds, th, is, tc, bw, td, tn, tcn, lu, du, ku) Z) = n0
  refine b_MO_layRows_0 ⟨_, ⟨_, rfl, rfl⟩, _, _, rfl, Nat.le_of_ble_eq_true rfl, (by (try simp (disch := omega) only [nI_lit, nI_fold, nI_mul, nI_add, pk_sub, pk_div, nI_shrN, nI_clamp]); (with_reducible refine vp_in_nI ?_ ?_) <;> omega), fun H4 e4 => ?_⟩
  try simp (disch := omega) only [nI_lit, nI_fold, nI_mul, nI_add, pk_sub, pk_div, nI_shrN, nI_clamp] at e4
  subst e4
  have h : ∀ (j r : Nat) (th : Nat → Int64) (is tc : wF) (L5 L6 L7 L8 L9 L11 : Option Value) (cl : Bool), r + j = m → tc r = nI (rws SW many r).1 → (∀ i, i < (rws SW many r).1 → th (600 * r + i) = lN ((rws SW many r).2 i)) → (∀ q, q < r → ∀ i, i < (rws SW many (q + 1)).1 → is (600 * (q + 1) + i) = if alo SW many q i then 1 else 0) → xW l x 1 0 0 mMO_layRows n0 (fun r H' => ∃ o, r = Sum.inl o ∧ o = none ∧ ∃ th' is' tc', (∀ r, r < m → ∀ i, i < (rws SW many (r + 1)).1 → is' (600 * (r + 1) + i) = if alo SW many r i then 1 else 0) ∧ H' = hM C cd T R P K a mb (ct, od, ln, rw') (pl, pv, pc, wt, cds, th', is', tc', bw, td, tn, tcn, lu, du, ku) Z) cl 7 [some (.ref 74), some (.int (nI fm)), some (.int (nI many)), some (.int (nI m)), some (.int (nI (r + 1))), L5, L6, L7, L8, L9, none, L11] [] (hM C cd T R P K a mb (ct, od, ln, rw') (pl, pv, pc, wt, cds, th, is, tc, bw, td, tn, tcn, lu, du, ku) Z) 0 0 := by
    intro j
    induction j with
    | zero =>
      intro r th is tc L5 L6 L7 L8 L9 L11 cl hr htc hth his
      have : r = m := by omega
      subst this
      refine xW.fgt 5 (xW.fgt 6 (xW.fgt 7 (xW.fgt 8 (xW.fgt 9 (xW.fgt 11 ?_)))))
      refine b_MO_layRows_7 ?_
      refine ⟨fun hb => ?_, fun hb => ?_⟩ <;> (try simp (disch := omega) only [nI_lit, nI_fold, nI_mul, nI_add, pk_sub, pk_div, nI_shrN, nI_clamp, nI_leI, nI_ltI, nI_eq, not_true_eq_false, not_false_eq_true, Bool.false_eq_true, if_true, if_false, nI_nem, nI_m1, nI_m7, nI_m15, nI_m32, nI_m4, nI_m8, nI_m16, nI_m2] at hb) <;> (try omega)
      refine ⟨rfl, Nat.le_refl _, _, rfl, ⟨rfl, th, is, tc, his, rfl⟩⟩
    | succ j ih =>
      intro r th is tc L5 L6 L7 L8 L9 L11 cl hr htc hth his
      have hsz := rws_sz SW many r
      have hp28 : 1025 * 2 ^ r < 2 ^ 28 := by
        have : 2 ^ r ≤ 2 ^ 14 := Nat.pow_le_pow_right (by decide) (by omega)
        omega
      refine xW.fgt 5 (xW.fgt 6 (xW.fgt 7 (xW.fgt 8 (xW.fgt 9 (xW.fgt 11 ?_)))))
      refine b_MO_layRows_7 ?_
      refine ⟨fun hb => ?_, fun hb => ?_⟩ <;> (try simp (disch := omega) only [nI_lit, nI_fold, nI_mul, nI_add, pk_sub, pk_div, nI_shrN, nI_clamp, nI_leI, nI_ltI, nI_eq, not_true_eq_false, not_false_eq_true, Bool.false_eq_true, if_true, if_false, nI_nem, nI_m1, nI_m7, nI_m15, nI_m32, nI_m4, nI_m8, nI_m16, nI_m2] at hb) <;> (try omega)
      rw [nI_pred]
      refine ⟨_, ⟨_, rfl, rfl⟩, _, _, rfl, vp_in_nI (by omega) (by decide), ?_⟩
      try dsimp only
      rw [nI_clamp (by omega), htc, show nI (rws SW many r).1 / 2 = nI ((rws SW many r).1 / 2) by rw [show (2 : Int32) = nI 2 from rfl]; simp (disch := omega) only [nI_lit, nI_fold, nI_mul, nI_add, pk_sub, pk_div, nI_shrN, nI_clamp]]
      refine MO_lay_row (SW := SW) (SY := SY) (RW := (rws SW many r).2) (n := n) hfm hm (by omega) (by omega) hmn (by omega) (fun j hj => ⟨(hbw j hj).1, (hbw j hj).2.1, (hbw j hj).2.2.1, by have := (hbw j hj).2.2.2; omega⟩) (fun j hj => ⟨by rw [show r + 1 - 1 = r by omega]; exact hth j (by omega), by have := hrb r j (by omega); omega⟩) ?_ (many + (rws SW many r).1 / 2) 0 th is none none _ (by omega) (fun t h => absurd h (Nat.not_lt_zero _)) (fun t h => absurd h (Nat.not_lt_zero _)) (fun t _ => ⟨rfl, rfl⟩)
      intro th' is' tc' g1 g2 g3 g4 L5 L6 L7 L8 L9 L11
      refine ih (r + 1) th' is' tc' L5 L6 L7 L8 L9 L11 false (by omega) (by rw [g4]; unfold upd; rw [if_pos rfl]; rfl) g1 (fun q hq i hi => ?_)
      by_cases hqr : q = r
      · subst hqr
        exact g2 i hi
      · have hszq := rws_sz SW many (q + 1)
        rw [g3 _ (by omega)]
        exact his q (by omega) i hi
  exact h m 0 th is (upd tc 0 (nI 0)) _ _ _ _ _ _ _ (by omega) (if_pos rfl) (fun i hi => absurd hi (Nat.not_lt_zero _)) (fun q hq => absurd hq (Nat.not_lt_zero _))
end MWeigh
