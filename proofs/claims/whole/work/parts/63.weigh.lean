/-! the class's weigher -/
def hE (C : Nat → va_E) (w : wWE) (Z : xH) : xH := C 0 :: C 1 :: C 2 :: C 3 :: C 4 :: C 5 :: C 6 :: C 7 :: C 8 :: C 9 :: C 10 :: C 11 :: C 12 :: C 13 :: C 14 :: C 15 :: C 16 :: C 17 :: C 18 :: C 19 :: C 20 :: C 21 :: C 22 :: C 23 :: C 24 :: C 25 :: C 26 :: C 27 :: C 28 :: C 29 :: C 30 :: C 31 :: C 32 :: .inr (10, [.ref 34, .ref 35, .int (nI w.1), .ref w.2.1, .ref w.2.2.1, .ref 38]) :: aI 286 w.2.2.2.1 :: aI 286 w.2.2.2.2.1 :: aI 572 w.2.2.2.2.2.1 :: aI 572 w.2.2.2.2.2.2.1 :: aZ 8580 w.2.2.2.2.2.2.2 :: Z
def uC (C : Nat → va_E) (r : Nat) (c : va_E) : Nat → va_E := fun i => if i = r then c else C i
theorem hE_get {C : Nat → va_E} {w : wWE} {Z : xH} : ∀ r, r < 33 → (hE C w Z)[r]? = some (C r)
  | 0, _ => rfl
  | 1, _ => rfl
  | 2, _ => rfl
  | 3, _ => rfl
  | 4, _ => rfl
  | 5, _ => rfl
  | 6, _ => rfl
  | 7, _ => rfl
  | 8, _ => rfl
  | 9, _ => rfl
  | 10, _ => rfl
  | 11, _ => rfl
  | 12, _ => rfl
  | 13, _ => rfl
  | 14, _ => rfl
  | 15, _ => rfl
  | 16, _ => rfl
  | 17, _ => rfl
  | 18, _ => rfl
  | 19, _ => rfl
  | 20, _ => rfl
  | 21, _ => rfl
  | 22, _ => rfl
  | 23, _ => rfl
  | 24, _ => rfl
  | 25, _ => rfl
  | 26, _ => rfl
  | 27, _ => rfl
  | 28, _ => rfl
  | 29, _ => rfl
  | 30, _ => rfl
  | 31, _ => rfl
  | 32, _ => rfl
  | r + 33, h => absurd h (by omega)
theorem hE_set {C : Nat → va_E} {w : wWE} {Z : xH} {c : va_E} : ∀ r, r < 33 → (hE C w Z).set r c = hE (uC C r c) w Z
  | 0, _ => rfl
  | 1, _ => rfl
  | 2, _ => rfl
  | 3, _ => rfl
  | 4, _ => rfl
  | 5, _ => rfl
  | 6, _ => rfl
  | 7, _ => rfl
  | 8, _ => rfl
  | 9, _ => rfl
  | 10, _ => rfl
  | 11, _ => rfl
  | 12, _ => rfl
  | 13, _ => rfl
  | 14, _ => rfl
  | 15, _ => rfl
  | 16, _ => rfl
  | 17, _ => rfl
  | 18, _ => rfl
  | 19, _ => rfl
  | 20, _ => rfl
  | 21, _ => rfl
  | 22, _ => rfl
  | 23, _ => rfl
  | 24, _ => rfl
  | 25, _ => rfl
  | 26, _ => rfl
  | 27, _ => rfl
  | 28, _ => rfl
  | 29, _ => rfl
  | 30, _ => rfl
  | 31, _ => rfl
  | 32, _ => rfl
  | r + 33, h => absurd h (by omega)
theorem uC_eq {C : Nat → va_E} {r : Nat} {c : va_E} : uC C r c r = c := if_pos rfl
theorem uC_2 {C : Nat → va_E} {r : Nat} {c c' : va_E} : uC (uC C r c) r c' = uC C r c' := by funext i; unfold uC; split <;> rfl
theorem uC_id {C : Nat → va_E} {r : Nat} : uC C r (C r) = C := by funext i; unfold uC; split; rename_i h; rw [h]; rfl

section Weigh
variable {l : Launch} {x : xX} {d : Nat} {C : Nat → va_E} {Z : xH}
theorem c_WE_sort {g : Nat → Nat} {n r1 : Nat} {fw : wF} (hn : n ≤ 286) (hw : ∀ w, (hE C w Z)[r1]? = some (aI n fw)) (hfw : isN fw n g) (hg : ∀ i, i < n → g i < 2 ^ 20) {m0 ra rb : Nat} {sy sw r6 r7 al : wF} : xCr l x d 0 0 mWE_sortSymbols [.ref 33, .ref r1] (hE C (m0, ra, rb, sy, sw, r6, r7, al) Z) (fun o H' => o = none ∧ ∃ sy sw, (∀ j, j < (srt g n).1 → sy j = nI ((srt g n).2 j) ∧ sw j = nI (g ((srt g n).2 j))) ∧ H' = hE C ((srt g n).1, ra, rb, sy, sw, r6, r7, al) Z) := by
  refine xCt.of (by decide) rfl ck_WE_sortSymbols (Nat.le_of_ble_eq_true rfl) rfl ?_
  generalize List.length (hE C (m0, ra, rb, sy, sw, r6, r7, al) Z) = n0
  refine b_WE_sortSymbols_0 ⟨_, rfl, Nat.le_of_ble_eq_true rfl, fun H2 e2 => ?_⟩
  try simp (disch := omega) only [nI_lit, nI_fold, nI_mul, nI_add, pk_sub, pk_div, nI_shrN, nI_clamp] at e2
  subst e2
  have h5 : ∀ (j k : Nat) (sy sw : wF) (cl : Bool), k + j = n → (∀ j, j < (srt g k).1 → sy j = nI ((srt g k).2 j) ∧ sw j = nI (g ((srt g k).2 j))) → xW l x d 0 0 mWE_sortSymbols n0 (fun r H' => ∃ o, r = Sum.inl o ∧ o = none ∧ ∃ sy sw, (∀ j, j < (srt g n).1 → sy j = nI ((srt g n).2 j) ∧ sw j = nI (g ((srt g n).2 j))) ∧ H' = hE C ((srt g n).1, ra, rb, sy, sw, r6, r7, al) Z) cl 5 [some (.ref 33), some (.ref r1), some (.int (nI k)), none, none] [] (hE C ((srt g k).1, ra, rb, sy, sw, r6, r7, al) Z) 0 0 := by
    intro j
    induction j with
    | zero =>
      intro k sy sw cl hk hs
      have : k = n := by omega
      subst this
      refine b_WE_sortSymbols_5 ⟨_, _, hw _, Nat.le_of_ble_eq_true rfl, ?_⟩
      refine ⟨fun hb => ?_, fun hb => ?_⟩ <;> (try simp (disch := omega) only [nI_lit, nI_fold, nI_mul, nI_add, pk_sub, pk_div, nI_shrN, nI_clamp, nI_leI, nI_ltI, nI_eq, not_true_eq_false, not_false_eq_true, Bool.false_eq_true, if_true, if_false, nI_nem, nI_m1, nI_m7, nI_m15, nI_m32, nI_m4, nI_m8, nI_m16, nI_m2] at hb) <;> (try omega)
      refine ⟨rfl, Nat.le_refl _, _, rfl, ⟨rfl, sy, sw, hs, rfl⟩⟩
    | succ j ih =>
      intro k sy sw cl hk hs
      have hgk := hg k (by omega)
      have hmk := (srt_ok g k).1
      have hbd := (srt_ok g k).2.1
      have hss : srt g (k + 1) = if 0 < g k then ((srt g k).1 + 1, ins (srt g k).2 (ps g (srt g k).2 (g k) (srt g k).1) k) else srt g k := rfl
      refine b_WE_sortSymbols_5 ⟨_, _, hw _, Nat.le_of_ble_eq_true rfl, ?_⟩
      refine ⟨fun hb => ?_, fun hb => ?_⟩ <;> (try simp (disch := omega) only [nI_lit, nI_fold, nI_mul, nI_add, pk_sub, pk_div, nI_shrN, nI_clamp, nI_leI, nI_ltI, nI_eq, not_true_eq_false, not_false_eq_true, Bool.false_eq_true, if_true, if_false, nI_nem, nI_m1, nI_m7, nI_m15, nI_m32, nI_m4, nI_m8, nI_m16, nI_m2] at hb) <;> (try omega)
      refine ⟨_, _, hw _, vp_in_nI (by omega) (by omega), ?_⟩
      rw [nI_clamp (by omega), hfw k (by omega)]
      refine ⟨fun hc => ?_, fun hc => ?_⟩ <;> (try simp (disch := omega) only [nI_lit, nI_fold, nI_mul, nI_add, pk_sub, pk_div, nI_shrN, nI_clamp, nI_leI, nI_ltI, nI_eq, not_true_eq_false, not_false_eq_true, Bool.false_eq_true, if_true, if_false, nI_nem, nI_m1, nI_m7, nI_m15, nI_m32, nI_m4, nI_m8, nI_m16, nI_m2] at hc) <;> (try omega)
      · rw [if_neg (by omega)] at hss
        refine xW.fgt 3 ?_
        rw [nI_1]
        have := ih (k + 1) sy sw cl (by omega)
        rw [hss] at this
        exact this hs
      rw [if_pos (by omega)] at hss
      refine ⟨_, ⟨_, rfl, rfl⟩, ?_⟩
      generalize hS : (srt g k).2 = S at *
      generalize hM : (srt g k).1 = many at *
      generalize hpos : ps g S (g k) many = pos at hss
      have ih := ih (k + 1)
      rw [hss] at ih
      dsimp only at ih
      have fin : ∀ (p : Nat) (sy' sw' : wF), p = pos → p ≤ many → (∀ i, i < p → sy' i = nI (S i) ∧ sw' i = nI (g (S i))) → (∀ i, p ≤ i → i < many → sy' (i + 1) = nI (S i) ∧ sw' (i + 1) = nI (g (S i))) → xW l x d 0 0 mWE_sortSymbols n0 (fun r H' => ∃ o, r = Sum.inl o ∧ o = none ∧ ∃ sy sw, (∀ j, j < (srt g n).1 → sy j = nI ((srt g n).2 j) ∧ sw j = nI (g ((srt g n).2 j))) ∧ H' = hE C ((srt g n).1, ra, rb, sy, sw, r6, r7, al) Z) false 5 [some (.ref 33), some (.ref r1), some (.int (nI (k + 1))), none, none] [] (hE C (many + 1, ra, rb, upd sy' p (nI k), upd sw' p (nI (g k)), r6, r7, al) Z) 0 0 := by
        intro p sy' sw' hp hpm h1 h2
        subst hp
        refine ih _ _ false (by omega) (fun i hi => ?_)
        by_cases a : i = p
        · subst a
          rw [show ins S i k i = k by unfold ins; rw [if_neg (Nat.lt_irrefl _), if_pos rfl]]
          exact ⟨if_pos rfl, if_pos rfl⟩
        · have hu : ∀ (f : wF) (v : Int32), upd f p v i = f i := fun f v => if_neg a
          rw [hu, hu]
          by_cases b : i < p
          · rw [show ins S p k i = S i from if_pos b]
            exact h1 i b
          · rw [show ins S p k i = S (i - 1) by unfold ins; rw [if_neg b, if_neg a]]
            have := h2 (i - 1) (by omega) (by omega)
            rw [show i - 1 + 1 = i by omega] at this
            exact this
      have h18 : ∀ (p : Nat) (sy' sw' : wF) (cl : Bool), p ≤ many → ps g S (g k) p = pos → (∀ i, i < p → sy' i = nI (S i) ∧ sw' i = nI (g (S i))) → (∀ i, p ≤ i → i < many → sy' (i + 1) = nI (S i) ∧ sw' (i + 1) = nI (g (S i))) → xW l x d 0 0 mWE_sortSymbols n0 (fun r H' => ∃ o, r = Sum.inl o ∧ o = none ∧ ∃ sy sw, (∀ j, j < (srt g n).1 → sy j = nI ((srt g n).2 j) ∧ sw j = nI (g ((srt g n).2 j))) ∧ H' = hE C ((srt g n).1, ra, rb, sy, sw, r6, r7, al) Z) cl 18 [some (.ref 33), some (.ref r1), some (.int (nI k)), some (.int (nI (g k))), some (.int (nI p))] [] (hE C (many, ra, rb, sy', sw', r6, r7, al) Z) 0 0 := by
        intro p
        induction p with
        | zero =>
          intro sy' sw' cl hpm hps h1 h2
          refine b_WE_sortSymbols_18 ⟨fun _ => ?_, fun hb => absurd (by decide) hb⟩
          refine ⟨_, ⟨_, rfl, rfl⟩, _, _, rfl, Nat.le_of_ble_eq_true rfl, (by (try simp (disch := omega) only [nI_lit, nI_fold, nI_mul, nI_add, pk_sub, pk_div, nI_shrN, nI_clamp]); (with_reducible refine vp_in_nI ?_ ?_) <;> omega), fun H4 e4 => ?_⟩
          try simp (disch := omega) only [nI_lit, nI_fold, nI_mul, nI_add, pk_sub, pk_div, nI_shrN, nI_clamp] at e4
          subst e4
          refine ⟨_, ⟨_, rfl, rfl⟩, _, _, rfl, Nat.le_of_ble_eq_true rfl, (by (try simp (disch := omega) only [nI_lit, nI_fold, nI_mul, nI_add, pk_sub, pk_div, nI_shrN, nI_clamp]); (with_reducible refine vp_in_nI ?_ ?_) <;> omega), fun H8 e8 => ?_⟩
          try simp (disch := omega) only [nI_lit, nI_fold, nI_mul, nI_add, pk_sub, pk_div, nI_shrN, nI_clamp] at e8
          subst e8
          refine ⟨_, ⟨_, rfl, rfl⟩, _, rfl, Nat.le_of_ble_eq_true rfl, fun H11 e11 => ?_⟩
          try simp (disch := omega) only [nI_lit, nI_fold, nI_mul, nI_add, pk_sub, pk_div, nI_shrN, nI_clamp] at e11
          subst e11
          refine xW.fgt 3 (xW.fgt 4 ?_)
          rw [nI_1]
          exact fin 0 sy' sw' hps (by omega) h1 h2
        | succ p ihp =>
          intro sy' sw' cl hpm hps h1 h2
          have hgp := hg (S p) (by have := (hbd p (by omega)).1; omega)
          refine b_WE_sortSymbols_18 ⟨fun hb => absurd hb (nI_nle (by omega) (by omega)), fun _ => ?_⟩
          rw [nI_pred]
          refine ⟨_, ⟨_, rfl, rfl⟩, _, _, rfl, vp_in_nI (by omega) (by decide), ?_⟩
          dsimp only
          rw [nI_clamp (by omega), show sw' p = nI (g (S p)) from (h1 p (by omega)).2]
          unfold ps at hps
          refine ⟨fun hb => ?_, fun hb => ?_⟩ <;> rw [nI_leI (by omega) (by omega)] at hb
          · rw [if_neg (by omega)] at hps
            refine ⟨_, ⟨_, rfl, rfl⟩, _, _, rfl, Nat.le_of_ble_eq_true rfl, (by (try simp (disch := omega) only [nI_lit, nI_fold, nI_mul, nI_add, pk_sub, pk_div, nI_shrN, nI_clamp]); (with_reducible refine vp_in_nI ?_ ?_) <;> omega), fun H18 e18 => ?_⟩
            try simp (disch := omega) only [nI_lit, nI_fold, nI_mul, nI_add, pk_sub, pk_div, nI_shrN, nI_clamp] at e18
            subst e18
            refine ⟨_, ⟨_, rfl, rfl⟩, _, _, rfl, Nat.le_of_ble_eq_true rfl, (by (try simp (disch := omega) only [nI_lit, nI_fold, nI_mul, nI_add, pk_sub, pk_div, nI_shrN, nI_clamp]); (with_reducible refine vp_in_nI ?_ ?_) <;> omega), fun H22 e22 => ?_⟩
            try simp (disch := omega) only [nI_lit, nI_fold, nI_mul, nI_add, pk_sub, pk_div, nI_shrN, nI_clamp] at e22
            subst e22
            refine ⟨_, ⟨_, rfl, rfl⟩, _, rfl, Nat.le_of_ble_eq_true rfl, fun H25 e25 => ?_⟩
            try simp (disch := omega) only [nI_lit, nI_fold, nI_mul, nI_add, pk_sub, pk_div, nI_shrN, nI_clamp] at e25
            subst e25
            refine xW.fgt 3 (xW.fgt 4 ?_)
            rw [nI_1]
            exact fin (p + 1) sy' sw' hps (by omega) h1 h2
          · rw [if_pos (by omega)] at hps
            rw [show nI (p + 1) + (-1) = nI p from (mI_d _).trans (nI_pred p)]
            refine ⟨_, ⟨_, rfl, rfl⟩, _, ⟨_, rfl, rfl⟩, _, _, rfl, (by (try simp (disch := omega) only [nI_lit, nI_fold, nI_mul, nI_add, pk_sub, pk_div, nI_shrN, nI_clamp]); (with_reducible refine vp_in_nI ?_ ?_) <;> omega), _, _, rfl, Nat.le_of_ble_eq_true rfl, (by (try simp (disch := omega) only [nI_lit, nI_fold, nI_mul, nI_add, pk_sub, pk_div, nI_shrN, nI_clamp]); (with_reducible refine vp_in_nI ?_ ?_) <;> omega), fun H32 e32 => ?_⟩
            try simp (disch := omega) only [nI_lit, nI_fold, nI_mul, nI_add, pk_sub, pk_div, nI_shrN, nI_clamp] at e32
            subst e32
            refine ⟨_, ⟨_, rfl, rfl⟩, _, ⟨_, rfl, rfl⟩, _, _, rfl, (by (try simp (disch := omega) only [nI_lit, nI_fold, nI_mul, nI_add, pk_sub, pk_div, nI_shrN, nI_clamp]); (with_reducible refine vp_in_nI ?_ ?_) <;> omega), _, _, rfl, Nat.le_of_ble_eq_true rfl, (by (try simp (disch := omega) only [nI_lit, nI_fold, nI_mul, nI_add, pk_sub, pk_div, nI_shrN, nI_clamp]); (with_reducible refine vp_in_nI ?_ ?_) <;> omega), fun H39 e39 => ?_⟩
            try simp (disch := omega) only [nI_lit, nI_fold, nI_mul, nI_add, pk_sub, pk_div, nI_shrN, nI_clamp] at e39
            subst e39
            refine ihp (upd sy' (p + 1) (sy' p)) (upd sw' (p + 1) (sw' p)) false (by omega) hps (fun i hi => ?_) (fun i h3 h4 => ?_)
            · unfold upd
              rw [if_neg (by omega), if_neg (by omega)]
              exact h1 i (by omega)
            · unfold upd
              by_cases a : i = p
              · rw [if_pos (by omega), if_pos (by omega), a]
                exact h1 p (by omega)
              · rw [if_neg (by omega), if_neg (by omega)]
                exact h2 i (by omega) h4
      exact h18 many sy sw cl (Nat.le_refl _) hpos hs (fun i h1 h2 => by omega)
  exact h5 n 0 sy sw false (by omega) (fun j hj => absurd hj (Nat.not_lt_zero _))

theorem c_WE_makeRowA {SW RW : Nat → Nat} {many pairs k : Nat} {sy sw r6 r7 al : wF} (hk : k < 15) (hm : many ≤ 286) (hp : pairs ≤ many) (hsw : ∀ j, j < many → sw j = nI (SW j) ∧ SW j < 2 ^ 28) (hrw : ∀ j, j < 2 * pairs → r6 j = nI (RW j) ∧ RW j < 2 ^ 28) : xCr l x d 0 0 mWE_makeRow [.ref 33, .int (nI k), .int (nI pairs)] (hE C (many, 36, 37, sy, sw, r6, r7, al) Z) (fun o H' => o = some (.int (nI (many + pairs))) ∧ ∃ nw al', (∀ i, i < many + pairs → nw i = nI (mgv SW many RW pairs i)) ∧ (∀ i, i < many + pairs → al' (k * 572 + i) = if tkw SW many RW pairs (mg SW many RW pairs i) then 1 else 0) ∧ (∀ i, i < k * 572 → al' i = al i) ∧ H' = hE C (many, 37, 36, sy, sw, r6, nw, al') Z) := by
  refine xCt.of (by decide) rfl ck_WE_makeRow (Nat.le_of_ble_eq_true rfl) rfl ?_
  generalize List.length (hE C (many, 36, 37, sy, sw, r6, r7, al) Z) = n0
  refine b_WE_makeRow_0 ⟨_, ⟨_, rfl, rfl⟩, ?_⟩
  try simp (disch := omega) only [nI_lit, nI_fold, nI_mul, nI_add, pk_sub, pk_div, nI_shrN, nI_clamp]
  have h : ∀ (j i : Nat) (nw al' : wF) (cl : Bool), i + j = many + pairs → (∀ t, t < i → nw t = nI (mgv SW many RW pairs t)) → (∀ t, t < i → al' (k * 572 + t) = if tkw SW many RW pairs (mg SW many RW pairs t) then 1 else 0) → (∀ t, t < k * 572 → al' t = al t) → xW l x d 0 0 mWE_makeRow n0 (fun r H' => ∃ o, r = Sum.inl o ∧ o = some (.int (nI (many + pairs))) ∧ ∃ nw al', (∀ i, i < many + pairs → nw i = nI (mgv SW many RW pairs i)) ∧ (∀ i, i < many + pairs → al' (k * 572 + i) = if tkw SW many RW pairs (mg SW many RW pairs i) then 1 else 0) ∧ (∀ i, i < k * 572 → al' i = al i) ∧ H' = hE C (many, 37, 36, sy, sw, r6, nw, al') Z) cl 11 [some (.ref 33), some (.int (nI k)), some (.int (nI pairs)), some (.int (nI (many + pairs))), some (.int (nI (mg SW many RW pairs i).1)), some (.int (nI (mg SW many RW pairs i).2)), some (.int (nI i)), none, none] [] (hE C (many, 36, 37, sy, sw, r6, nw, al') Z) 0 0 := by
    intro j
    induction j with
    | zero =>
      intro i nw al' cl hi h1 h2 h3
      have : i = many + pairs := by omega
      subst this
      refine b_WE_makeRow_11 ?_
      refine ⟨fun hb => ?_, fun hb => ?_⟩ <;> (try simp (disch := omega) only [nI_lit, nI_fold, nI_mul, nI_add, pk_sub, pk_div, nI_shrN, nI_clamp, nI_leI, nI_ltI, nI_eq, not_true_eq_false, not_false_eq_true, Bool.false_eq_true, if_true, if_false, nI_nem, nI_m1, nI_m7, nI_m15, nI_m32, nI_m4, nI_m8, nI_m16, nI_m2] at hb) <;> (try omega)
      refine ⟨_, ⟨_, rfl, rfl⟩, _, ⟨_, rfl, rfl⟩, _, rfl, Nat.le_of_ble_eq_true rfl, fun H4 e4 => ?_⟩
      try simp (disch := omega) only [nI_lit, nI_fold, nI_mul, nI_add, pk_sub, pk_div, nI_shrN, nI_clamp] at e4
      subst e4
      refine ⟨_, rfl, Nat.le_of_ble_eq_true rfl, fun H6 e6 => ?_⟩
      try simp (disch := omega) only [nI_lit, nI_fold, nI_mul, nI_add, pk_sub, pk_div, nI_shrN, nI_clamp] at e6
      subst e6
      refine ⟨rfl, Nat.le_refl _, _, rfl, ⟨rfl, nw, al', h1, h2, h3, rfl⟩⟩
    | succ j ih =>
      intro i nw al' cl hi h1 h2 h3
      have hs := mg_sum SW many RW pairs i
      have ho := mg_ok SW many RW pairs i (by omega)
      have ho1 := mg_ok SW many RW pairs (i + 1) (by omega)
      have hmg : mg SW many RW pairs (i + 1) = if tkw SW many RW pairs (mg SW many RW pairs i) then ((mg SW many RW pairs i).1 + 1, (mg SW many RW pairs i).2) else ((mg SW many RW pairs i).1, (mg SW many RW pairs i).2 + 1) := rfl
      have hmv : mgv SW many RW pairs i = if tkw SW many RW pairs (mg SW many RW pairs i) then SW (mg SW many RW pairs i).1 else RW (2 * (mg SW many RW pairs i).2) + RW (2 * (mg SW many RW pairs i).2 + 1) := rfl
      have htk : tkw SW many RW pairs (mg SW many RW pairs i) = (decide (pairs ≤ (mg SW many RW pairs i).2) || (decide ((mg SW many RW pairs i).1 < many) && decide (SW (mg SW many RW pairs i).1 ≤ RW (2 * (mg SW many RW pairs i).2) + RW (2 * (mg SW many RW pairs i).2 + 1)))) := rfl
      have ih := ih (i + 1)
      generalize mg SW many RW pairs (i + 1) = s1 at hmg ih ho1
      -- what is taken is written
      have k51 : ∀ (b : Bool) (v7 : Int32) (cl : Bool), tkw SW many RW pairs (mg SW many RW pairs i) = b → (b = false → v7 = nI (RW (2 * (mg SW many RW pairs i).2) + RW (2 * (mg SW many RW pairs i).2 + 1))) → xW l x d 0 0 mWE_makeRow n0 (fun r H' => ∃ o, r = Sum.inl o ∧ o = some (.int (nI (many + pairs))) ∧ ∃ nw al', (∀ i, i < many + pairs → nw i = nI (mgv SW many RW pairs i)) ∧ (∀ i, i < many + pairs → al' (k * 572 + i) = if tkw SW many RW pairs (mg SW many RW pairs i) then 1 else 0) ∧ (∀ i, i < k * 572 → al' i = al i) ∧ H' = hE C (many, 37, 36, sy, sw, r6, nw, al') Z) cl 51 [some (.ref 33), some (.int (nI k)), some (.int (nI pairs)), some (.int (nI (many + pairs))), some (.int (nI (mg SW many RW pairs i).1)), some (.int (nI (mg SW many RW pairs i).2)), some (.int (nI i)), some (.int v7), none] [.int (if b then 1 else 0)] (hE C (many, 36, 37, sy, sw, r6, nw, al') Z) 0 0 := by
        intro b v7 cl hb hv
        have hal : ∀ t, t < i + 1 → upd al' (k * 572 + i) (if b then 1 else 0) (k * 572 + t) = if tkw SW many RW pairs (mg SW many RW pairs t) then 1 else 0 := by
          intro t ht
          unfold upd
          by_cases a : t = i
          · rw [if_pos (by omega), a, hb]
          · rw [if_neg (by omega)]
            exact h2 t (by omega)
        have hal2 : ∀ t, t < k * 572 → upd al' (k * 572 + i) (if b then 1 else 0) t = al t := by
          intro t ht
          unfold upd
          rw [if_neg (by omega)]
          exact h3 t ht
        have hnw : ∀ v, v = nI (mgv SW many RW pairs i) → ∀ t, t < i + 1 → upd nw i v t = nI (mgv SW many RW pairs t) := by
          intro v hv t ht
          unfold upd
          by_cases a : t = i
          · rw [if_pos a, a, hv]
          · rw [if_neg a]
            exact h1 t (by omega)
        rw [hb] at hmg hmv
        refine b_WE_makeRow_51 ⟨_, ⟨_, rfl, rfl⟩, _, _, rfl, ?_, fun H4 e4 => ?_⟩
        · simp (disch := omega) only [nI_lit, nI_fold, nI_mul, nI_add, pk_sub, pk_div, nI_shrN, nI_clamp]
          exact vp_in_nI (by omega) (by decide)
        rw [show nI k * 572 + nI i = nI (k * 572 + i) by rw [show nI k * 572 = nI (k * 572) from nI_mul k 572, nI_add], nI_clamp (by omega), show vp_nar .boolean (if b then (1 : Int32) else 0) = if b then 1 else 0 by cases b <;> rfl] at e4
        subst e4
        cases b with
        | false =>
          have hmg : s1 = ((mg SW many RW pairs i).1, (mg SW many RW pairs i).2 + 1) := hmg
          have hmv : mgv SW many RW pairs i = RW (2 * (mg SW many RW pairs i).2) + RW (2 * (mg SW many RW pairs i).2 + 1) := hmv
          refine ⟨fun _ => ?_, fun h => absurd rfl h⟩
          refine ⟨_, ⟨_, rfl, rfl⟩, _, _, rfl, Nat.le_of_ble_eq_true rfl, (by (try simp (disch := omega) only [nI_lit, nI_fold, nI_mul, nI_add, pk_sub, pk_div, nI_shrN, nI_clamp]); (with_reducible refine vp_in_nI ?_ ?_) <;> omega), fun H8 e8 => ?_⟩
          try simp (disch := omega) only [nI_lit, nI_fold, nI_mul, nI_add, pk_sub, pk_div, nI_shrN, nI_clamp] at e8
          subst e8
          refine b_WE_makeRow_79 ?_
          rw [nI_1, nI_1]
          refine xW.fgt 7 (xW.fgt 8 ?_)
          have := ih (upd nw i v7) _ false (by omega) (hnw v7 (by rw [hmv]; exact hv rfl)) hal hal2
          rw [hmg] at this
          exact this
        | true =>
          have hmg : s1 = ((mg SW many RW pairs i).1 + 1, (mg SW many RW pairs i).2) := hmg
          have hmv : mgv SW many RW pairs i = SW (mg SW many RW pairs i).1 := hmv
          rw [hmg] at ho1
          dsimp only at ho1
          refine ⟨fun h => absurd h (by decide), fun _ => ?_⟩
          refine ⟨_, ⟨_, rfl, rfl⟩, _, ⟨_, rfl, rfl⟩, _, _, rfl, (by (try simp (disch := omega) only [nI_lit, nI_fold, nI_mul, nI_add, pk_sub, pk_div, nI_shrN, nI_clamp]); (with_reducible refine vp_in_nI ?_ ?_) <;> omega), _, _, rfl, Nat.le_of_ble_eq_true rfl, (by (try simp (disch := omega) only [nI_lit, nI_fold, nI_mul, nI_add, pk_sub, pk_div, nI_shrN, nI_clamp]); (with_reducible refine vp_in_nI ?_ ?_) <;> omega), fun H15 e15 => ?_⟩
          try simp (disch := omega) only [nI_lit, nI_fold, nI_mul, nI_add, pk_sub, pk_div, nI_shrN, nI_clamp] at e15
          subst e15
          refine b_WE_makeRow_79 ?_
          rw [nI_1, nI_1]
          refine xW.fgt 7 (xW.fgt 8 ?_)
          have := ih (upd nw i (sw (mg SW many RW pairs i).1)) _ false (by omega) (hnw _ (by rw [hmv]; exact (hsw _ (by omega)).1)) hal hal2
          rw [hmg] at this
          exact this
      refine b_WE_makeRow_11 ?_
      refine ⟨fun hb => ?_, fun hb => ?_⟩ <;> (try simp (disch := omega) only [nI_lit, nI_fold, nI_mul, nI_add, pk_sub, pk_div, nI_shrN, nI_clamp, nI_leI, nI_ltI, nI_eq, not_true_eq_false, not_false_eq_true, Bool.false_eq_true, if_true, if_false, nI_nem, nI_m1, nI_m7, nI_m15, nI_m32, nI_m4, nI_m8, nI_m16, nI_m2] at hb) <;> (try omega)
      refine ⟨fun hc => ?_, fun hc => ?_⟩ <;> (try simp (disch := omega) only [nI_lit, nI_fold, nI_mul, nI_add, pk_sub, pk_div, nI_shrN, nI_clamp, nI_leI, nI_ltI, nI_eq, not_true_eq_false, not_false_eq_true, Bool.false_eq_true, if_true, if_false, nI_nem, nI_m1, nI_m7, nI_m15, nI_m32, nI_m4, nI_m8, nI_m16, nI_m2] at hc) <;> (try omega)
      · refine ⟨fun hd => ?_, fun hd => ?_⟩ <;> (try simp (disch := omega) only [nI_lit, nI_fold, nI_mul, nI_add, pk_sub, pk_div, nI_shrN, nI_clamp, nI_leI, nI_ltI, nI_eq, not_true_eq_false, not_false_eq_true, Bool.false_eq_true, if_true, if_false, nI_nem, nI_m1, nI_m7, nI_m15, nI_m32, nI_m4, nI_m8, nI_m16, nI_m2] at hd) <;> (try omega)
        exact k51 true 0 cl (by rw [htk]; simp [hd]) (fun h => absurd h (by decide))
      · have a1 := hrw (2 * (mg SW many RW pairs i).2) (by omega)
        have a2 := hrw (2 * (mg SW many RW pairs i).2 + 1) (by omega)
        refine ⟨_, ⟨_, rfl, rfl⟩, _, _, rfl, (by (try simp (disch := omega) only [nI_lit, nI_fold, nI_mul, nI_add, pk_sub, pk_div, nI_shrN, nI_clamp]); (with_reducible refine vp_in_nI ?_ ?_) <;> omega), _, ⟨_, rfl, rfl⟩, _, _, rfl, (by (try simp (disch := omega) only [nI_lit, nI_fold, nI_mul, nI_add, pk_sub, pk_div, nI_shrN, nI_clamp]); (with_reducible refine vp_in_nI ?_ ?_) <;> omega), ?_⟩
        dsimp only
        rw [show (2 : Int32) * nI (mg SW many RW pairs i).2 = nI (2 * (mg SW many RW pairs i).2) from nI_mul 2 _, nI_1, nI_clamp (by omega), nI_clamp (by omega), a1.1, a2.1, nI_add]
        refine ⟨fun hd => ?_, fun hd => ?_⟩ <;> (try simp (disch := omega) only [nI_lit, nI_fold, nI_mul, nI_add, pk_sub, pk_div, nI_shrN, nI_clamp, nI_leI, nI_ltI, nI_eq, not_true_eq_false, not_false_eq_true, Bool.false_eq_true, if_true, if_false, nI_nem, nI_m1, nI_m7, nI_m15, nI_m32, nI_m4, nI_m8, nI_m16, nI_m2] at hd) <;> (try omega)
        refine ⟨_, ⟨_, rfl, rfl⟩, ?_⟩
        refine ⟨fun he => ?_, fun he => ?_⟩ <;> (try simp (disch := omega) only [nI_lit, nI_fold, nI_mul, nI_add, pk_sub, pk_div, nI_shrN, nI_clamp, nI_leI, nI_ltI, nI_eq, not_true_eq_false, not_false_eq_true, Bool.false_eq_true, if_true, if_false, nI_nem, nI_m1, nI_m7, nI_m15, nI_m32, nI_m4, nI_m8, nI_m16, nI_m2] at he) <;> (try omega)
        · exact k51 false _ cl (by rw [htk]; simp; omega) (fun _ => rfl)
        have a3 := hsw (mg SW many RW pairs i).1 (by omega)
        refine ⟨_, ⟨_, rfl, rfl⟩, _, _, rfl, (by (try simp (disch := omega) only [nI_lit, nI_fold, nI_mul, nI_add, pk_sub, pk_div, nI_shrN, nI_clamp]); (with_reducible refine vp_in_nI ?_ ?_) <;> omega), ?_⟩
        dsimp only
        rw [nI_clamp (by omega), a3.1]
        refine ⟨fun hf => ?_, fun hf => ?_⟩ <;> rw [nI_ltI (by omega) (by omega)] at hf
        · exact k51 false _ cl (by rw [htk]; simp; omega) (fun _ => rfl)
        · exact k51 true _ cl (by rw [htk]; simp; omega) (fun h => absurd h (by decide))
  exact h (many + pairs) 0 r7 al true (by omega) (fun t h => absurd h (Nat.not_lt_zero _)) (fun t h => absurd h (Nat.not_lt_zero _)) (fun _ _ => rfl)

theorem c_WE_makeRowB {SW RW : Nat → Nat} {many pairs k : Nat} {sy sw r6 r7 al : wF} (hk : k < 15) (hm : many ≤ 286) (hp : pairs ≤ many) (hsw : ∀ j, j < many → sw j = nI (SW j) ∧ SW j < 2 ^ 28) (hrw : ∀ j, j < 2 * pairs → r7 j = nI (RW j) ∧ RW j < 2 ^ 28) : xCr l x d 0 0 mWE_makeRow [.ref 33, .int (nI k), .int (nI pairs)] (hE C (many, 37, 36, sy, sw, r6, r7, al) Z) (fun o H' => o = some (.int (nI (many + pairs))) ∧ ∃ nw al', (∀ i, i < many + pairs → nw i = nI (mgv SW many RW pairs i)) ∧ (∀ i, i < many + pairs → al' (k * 572 + i) = if tkw SW many RW pairs (mg SW many RW pairs i) then 1 else 0) ∧ (∀ i, i < k * 572 → al' i = al i) ∧ H' = hE C (many, 36, 37, sy, sw, nw, r7, al') Z) := by
  refine xCt.of (by decide) rfl ck_WE_makeRow (Nat.le_of_ble_eq_true rfl) rfl ?_
  generalize List.length (hE C (many, 37, 36, sy, sw, r6, r7, al) Z) = n0
  refine b_WE_makeRow_0 ⟨_, ⟨_, rfl, rfl⟩, ?_⟩
  try simp (disch := omega) only [nI_lit, nI_fold, nI_mul, nI_add, pk_sub, pk_div, nI_shrN, nI_clamp]
  have h : ∀ (j i : Nat) (nw al' : wF) (cl : Bool), i + j = many + pairs → (∀ t, t < i → nw t = nI (mgv SW many RW pairs t)) → (∀ t, t < i → al' (k * 572 + t) = if tkw SW many RW pairs (mg SW many RW pairs t) then 1 else 0) → (∀ t, t < k * 572 → al' t = al t) → xW l x d 0 0 mWE_makeRow n0 (fun r H' => ∃ o, r = Sum.inl o ∧ o = some (.int (nI (many + pairs))) ∧ ∃ nw al', (∀ i, i < many + pairs → nw i = nI (mgv SW many RW pairs i)) ∧ (∀ i, i < many + pairs → al' (k * 572 + i) = if tkw SW many RW pairs (mg SW many RW pairs i) then 1 else 0) ∧ (∀ i, i < k * 572 → al' i = al i) ∧ H' = hE C (many, 36, 37, sy, sw, nw, r7, al') Z) cl 11 [some (.ref 33), some (.int (nI k)), some (.int (nI pairs)), some (.int (nI (many + pairs))), some (.int (nI (mg SW many RW pairs i).1)), some (.int (nI (mg SW many RW pairs i).2)), some (.int (nI i)), none, none] [] (hE C (many, 37, 36, sy, sw, nw, r7, al') Z) 0 0 := by
    intro j
    induction j with
    | zero =>
      intro i nw al' cl hi h1 h2 h3
      have : i = many + pairs := by omega
      subst this
      refine b_WE_makeRow_11 ?_
      refine ⟨fun hb => ?_, fun hb => ?_⟩ <;> (try simp (disch := omega) only [nI_lit, nI_fold, nI_mul, nI_add, pk_sub, pk_div, nI_shrN, nI_clamp, nI_leI, nI_ltI, nI_eq, not_true_eq_false, not_false_eq_true, Bool.false_eq_true, if_true, if_false, nI_nem, nI_m1, nI_m7, nI_m15, nI_m32, nI_m4, nI_m8, nI_m16, nI_m2] at hb) <;> (try omega)
      refine ⟨_, ⟨_, rfl, rfl⟩, _, ⟨_, rfl, rfl⟩, _, rfl, Nat.le_of_ble_eq_true rfl, fun H4 e4 => ?_⟩
      try simp (disch := omega) only [nI_lit, nI_fold, nI_mul, nI_add, pk_sub, pk_div, nI_shrN, nI_clamp] at e4
      subst e4
      refine ⟨_, rfl, Nat.le_of_ble_eq_true rfl, fun H6 e6 => ?_⟩
      try simp (disch := omega) only [nI_lit, nI_fold, nI_mul, nI_add, pk_sub, pk_div, nI_shrN, nI_clamp] at e6
      subst e6
      refine ⟨rfl, Nat.le_refl _, _, rfl, ⟨rfl, nw, al', h1, h2, h3, rfl⟩⟩
    | succ j ih =>
      intro i nw al' cl hi h1 h2 h3
      have hs := mg_sum SW many RW pairs i
      have ho := mg_ok SW many RW pairs i (by omega)
      have ho1 := mg_ok SW many RW pairs (i + 1) (by omega)
      have hmg : mg SW many RW pairs (i + 1) = if tkw SW many RW pairs (mg SW many RW pairs i) then ((mg SW many RW pairs i).1 + 1, (mg SW many RW pairs i).2) else ((mg SW many RW pairs i).1, (mg SW many RW pairs i).2 + 1) := rfl
      have hmv : mgv SW many RW pairs i = if tkw SW many RW pairs (mg SW many RW pairs i) then SW (mg SW many RW pairs i).1 else RW (2 * (mg SW many RW pairs i).2) + RW (2 * (mg SW many RW pairs i).2 + 1) := rfl
      have htk : tkw SW many RW pairs (mg SW many RW pairs i) = (decide (pairs ≤ (mg SW many RW pairs i).2) || (decide ((mg SW many RW pairs i).1 < many) && decide (SW (mg SW many RW pairs i).1 ≤ RW (2 * (mg SW many RW pairs i).2) + RW (2 * (mg SW many RW pairs i).2 + 1)))) := rfl
      have ih := ih (i + 1)
      generalize mg SW many RW pairs (i + 1) = s1 at hmg ih ho1
      -- what is taken is written
      have k51 : ∀ (b : Bool) (v7 : Int32) (cl : Bool), tkw SW many RW pairs (mg SW many RW pairs i) = b → (b = false → v7 = nI (RW (2 * (mg SW many RW pairs i).2) + RW (2 * (mg SW many RW pairs i).2 + 1))) → xW l x d 0 0 mWE_makeRow n0 (fun r H' => ∃ o, r = Sum.inl o ∧ o = some (.int (nI (many + pairs))) ∧ ∃ nw al', (∀ i, i < many + pairs → nw i = nI (mgv SW many RW pairs i)) ∧ (∀ i, i < many + pairs → al' (k * 572 + i) = if tkw SW many RW pairs (mg SW many RW pairs i) then 1 else 0) ∧ (∀ i, i < k * 572 → al' i = al i) ∧ H' = hE C (many, 36, 37, sy, sw, nw, r7, al') Z) cl 51 [some (.ref 33), some (.int (nI k)), some (.int (nI pairs)), some (.int (nI (many + pairs))), some (.int (nI (mg SW many RW pairs i).1)), some (.int (nI (mg SW many RW pairs i).2)), some (.int (nI i)), some (.int v7), none] [.int (if b then 1 else 0)] (hE C (many, 37, 36, sy, sw, nw, r7, al') Z) 0 0 := by
        intro b v7 cl hb hv
        have hal : ∀ t, t < i + 1 → upd al' (k * 572 + i) (if b then 1 else 0) (k * 572 + t) = if tkw SW many RW pairs (mg SW many RW pairs t) then 1 else 0 := by
          intro t ht
          unfold upd
          by_cases a : t = i
          · rw [if_pos (by omega), a, hb]
          · rw [if_neg (by omega)]
            exact h2 t (by omega)
        have hal2 : ∀ t, t < k * 572 → upd al' (k * 572 + i) (if b then 1 else 0) t = al t := by
          intro t ht
          unfold upd
          rw [if_neg (by omega)]
          exact h3 t ht
        have hnw : ∀ v, v = nI (mgv SW many RW pairs i) → ∀ t, t < i + 1 → upd nw i v t = nI (mgv SW many RW pairs t) := by
          intro v hv t ht
          unfold upd
          by_cases a : t = i
          · rw [if_pos a, a, hv]
          · rw [if_neg a]
            exact h1 t (by omega)
        rw [hb] at hmg hmv
        refine b_WE_makeRow_51 ⟨_, ⟨_, rfl, rfl⟩, _, _, rfl, ?_, fun H4 e4 => ?_⟩
        · simp (disch := omega) only [nI_lit, nI_fold, nI_mul, nI_add, pk_sub, pk_div, nI_shrN, nI_clamp]
          exact vp_in_nI (by omega) (by decide)
        rw [show nI k * 572 + nI i = nI (k * 572 + i) by rw [show nI k * 572 = nI (k * 572) from nI_mul k 572, nI_add], nI_clamp (by omega), show vp_nar .boolean (if b then (1 : Int32) else 0) = if b then 1 else 0 by cases b <;> rfl] at e4
        subst e4
        cases b with
        | false =>
          have hmg : s1 = ((mg SW many RW pairs i).1, (mg SW many RW pairs i).2 + 1) := hmg
          have hmv : mgv SW many RW pairs i = RW (2 * (mg SW many RW pairs i).2) + RW (2 * (mg SW many RW pairs i).2 + 1) := hmv
          refine ⟨fun _ => ?_, fun h => absurd rfl h⟩
          refine ⟨_, ⟨_, rfl, rfl⟩, _, _, rfl, Nat.le_of_ble_eq_true rfl, (by (try simp (disch := omega) only [nI_lit, nI_fold, nI_mul, nI_add, pk_sub, pk_div, nI_shrN, nI_clamp]); (with_reducible refine vp_in_nI ?_ ?_) <;> omega), fun H8 e8 => ?_⟩
          try simp (disch := omega) only [nI_lit, nI_fold, nI_mul, nI_add, pk_sub, pk_div, nI_shrN, nI_clamp] at e8
          subst e8
          refine b_WE_makeRow_79 ?_
          rw [nI_1, nI_1]
          refine xW.fgt 7 (xW.fgt 8 ?_)
          have := ih (upd nw i v7) _ false (by omega) (hnw v7 (by rw [hmv]; exact hv rfl)) hal hal2
          rw [hmg] at this
          exact this
        | true =>
          have hmg : s1 = ((mg SW many RW pairs i).1 + 1, (mg SW many RW pairs i).2) := hmg
          have hmv : mgv SW many RW pairs i = SW (mg SW many RW pairs i).1 := hmv
          rw [hmg] at ho1
          dsimp only at ho1
          refine ⟨fun h => absurd h (by decide), fun _ => ?_⟩
          refine ⟨_, ⟨_, rfl, rfl⟩, _, ⟨_, rfl, rfl⟩, _, _, rfl, (by (try simp (disch := omega) only [nI_lit, nI_fold, nI_mul, nI_add, pk_sub, pk_div, nI_shrN, nI_clamp]); (with_reducible refine vp_in_nI ?_ ?_) <;> omega), _, _, rfl, Nat.le_of_ble_eq_true rfl, (by (try simp (disch := omega) only [nI_lit, nI_fold, nI_mul, nI_add, pk_sub, pk_div, nI_shrN, nI_clamp]); (with_reducible refine vp_in_nI ?_ ?_) <;> omega), fun H15 e15 => ?_⟩
          try simp (disch := omega) only [nI_lit, nI_fold, nI_mul, nI_add, pk_sub, pk_div, nI_shrN, nI_clamp] at e15
          subst e15
          refine b_WE_makeRow_79 ?_
          rw [nI_1, nI_1]
          refine xW.fgt 7 (xW.fgt 8 ?_)
          have := ih (upd nw i (sw (mg SW many RW pairs i).1)) _ false (by omega) (hnw _ (by rw [hmv]; exact (hsw _ (by omega)).1)) hal hal2
          rw [hmg] at this
          exact this
      refine b_WE_makeRow_11 ?_
      refine ⟨fun hb => ?_, fun hb => ?_⟩ <;> (try simp (disch := omega) only [nI_lit, nI_fold, nI_mul, nI_add, pk_sub, pk_div, nI_shrN, nI_clamp, nI_leI, nI_ltI, nI_eq, not_true_eq_false, not_false_eq_true, Bool.false_eq_true, if_true, if_false, nI_nem, nI_m1, nI_m7, nI_m15, nI_m32, nI_m4, nI_m8, nI_m16, nI_m2] at hb) <;> (try omega)
      refine ⟨fun hc => ?_, fun hc => ?_⟩ <;> (try simp (disch := omega) only [nI_lit, nI_fold, nI_mul, nI_add, pk_sub, pk_div, nI_shrN, nI_clamp, nI_leI, nI_ltI, nI_eq, not_true_eq_false, not_false_eq_true, Bool.false_eq_true, if_true, if_false, nI_nem, nI_m1, nI_m7, nI_m15, nI_m32, nI_m4, nI_m8, nI_m16, nI_m2] at hc) <;> (try omega)
      · refine ⟨fun hd => ?_, fun hd => ?_⟩ <;> (try simp (disch := omega) only [nI_lit, nI_fold, nI_mul, nI_add, pk_sub, pk_div, nI_shrN, nI_clamp, nI_leI, nI_ltI, nI_eq, not_true_eq_false, not_false_eq_true, Bool.false_eq_true, if_true, if_false, nI_nem, nI_m1, nI_m7, nI_m15, nI_m32, nI_m4, nI_m8, nI_m16, nI_m2] at hd) <;> (try omega)
        exact k51 true 0 cl (by rw [htk]; simp [hd]) (fun h => absurd h (by decide))
      · have a1 := hrw (2 * (mg SW many RW pairs i).2) (by omega)
        have a2 := hrw (2 * (mg SW many RW pairs i).2 + 1) (by omega)
        refine ⟨_, ⟨_, rfl, rfl⟩, _, _, rfl, (by (try simp (disch := omega) only [nI_lit, nI_fold, nI_mul, nI_add, pk_sub, pk_div, nI_shrN, nI_clamp]); (with_reducible refine vp_in_nI ?_ ?_) <;> omega), _, ⟨_, rfl, rfl⟩, _, _, rfl, (by (try simp (disch := omega) only [nI_lit, nI_fold, nI_mul, nI_add, pk_sub, pk_div, nI_shrN, nI_clamp]); (with_reducible refine vp_in_nI ?_ ?_) <;> omega), ?_⟩
        dsimp only
        rw [show (2 : Int32) * nI (mg SW many RW pairs i).2 = nI (2 * (mg SW many RW pairs i).2) from nI_mul 2 _, nI_1, nI_clamp (by omega), nI_clamp (by omega), a1.1, a2.1, nI_add]
        refine ⟨fun hd => ?_, fun hd => ?_⟩ <;> (try simp (disch := omega) only [nI_lit, nI_fold, nI_mul, nI_add, pk_sub, pk_div, nI_shrN, nI_clamp, nI_leI, nI_ltI, nI_eq, not_true_eq_false, not_false_eq_true, Bool.false_eq_true, if_true, if_false, nI_nem, nI_m1, nI_m7, nI_m15, nI_m32, nI_m4, nI_m8, nI_m16, nI_m2] at hd) <;> (try omega)
        refine ⟨_, ⟨_, rfl, rfl⟩, ?_⟩
        refine ⟨fun he => ?_, fun he => ?_⟩ <;> (try simp (disch := omega) only [nI_lit, nI_fold, nI_mul, nI_add, pk_sub, pk_div, nI_shrN, nI_clamp, nI_leI, nI_ltI, nI_eq, not_true_eq_false, not_false_eq_true, Bool.false_eq_true, if_true, if_false, nI_nem, nI_m1, nI_m7, nI_m15, nI_m32, nI_m4, nI_m8, nI_m16, nI_m2] at he) <;> (try omega)
        · exact k51 false _ cl (by rw [htk]; simp; omega) (fun _ => rfl)
        have a3 := hsw (mg SW many RW pairs i).1 (by omega)
        refine ⟨_, ⟨_, rfl, rfl⟩, _, _, rfl, (by (try simp (disch := omega) only [nI_lit, nI_fold, nI_mul, nI_add, pk_sub, pk_div, nI_shrN, nI_clamp]); (with_reducible refine vp_in_nI ?_ ?_) <;> omega), ?_⟩
        dsimp only
        rw [nI_clamp (by omega), a3.1]
        refine ⟨fun hf => ?_, fun hf => ?_⟩ <;> rw [nI_ltI (by omega) (by omega)] at hf
        · exact k51 false _ cl (by rw [htk]; simp; omega) (fun _ => rfl)
        · exact k51 true _ cl (by rw [htk]; simp; omega) (fun h => absurd h (by decide))
  exact h (many + pairs) 0 r6 al true (by omega) (fun t h => absurd h (Nat.not_lt_zero _)) (fun t h => absurd h (Nat.not_lt_zero _)) (fun _ _ => rfl)

theorem c_WE_count {SW SY : Nat → Nat} {many m N r3 ra rb : Nat} {sy sw r6 r7 al fl : wF} (hm : m ≤ 15) (hN : N ≤ 286) (h2m : 2 ≤ many) (hmN : many ≤ N) (hr : r3 < 33) (hr2 : 2 ≤ r3) (hC : C r3 = aI N fl) (hfl : isN fl N (fun _ => 0)) (hsy : ∀ j, j < many → sy j = nI (SY j) ∧ SY j < N) (hinj : ∀ i j, i < j → j < many → SY i ≠ SY j) (htk : 2 * many - 2 ≤ (rws SW many m).1) (hal : ∀ r, r < m → ∀ i, i < (rws SW many (r + 1)).1 → al (r * 572 + i) = if alo SW many r i then 1 else 0) : xCr l x d 0 0 mWE_countSymbols [.ref 33, .int (nI m), .ref r3] (hE C (many, ra, rb, sy, sw, r6, r7, al) Z) (fun o H' => o = none ∧ ∃ fl', isN fl' N (lnA SW SY many m (2 * many - 2) (fun _ => 0)) ∧ H' = hE (uC C r3 (aI N fl')) (many, ra, rb, sy, sw, r6, r7, al) Z) := by
  refine xCt.of (by decide) rfl ck_WE_countSymbols (Nat.le_of_ble_eq_true rfl) rfl ?_
  generalize List.length (hE C (many, ra, rb, sy, sw, r6, r7, al) Z) = n0
  refine b_WE_countSymbols_0 ⟨_, ⟨_, rfl, rfl⟩, ?_⟩
  rw [show (2 : Int32) * nI many - 2 = nI (2 * many - 2) by rw [show (2 : Int32) * nI many = nI (2 * many) from nI_mul 2 many, show (2 : Int32) = nI 2 from rfl, nI_sub (by omega)]]
  generalize hF : lnA SW SY many m (2 * many - 2) (fun _ => 0) = F
  have h : ∀ (r tk : Nat) (L : Nat → Nat) (fl : wF) (cl : Bool), r ≤ m → tk ≤ (rws SW many r).1 → isN fl N L → (∀ i, L i + r ≤ m) → lnA SW SY many r tk L = F → xW l x d 0 0 mWE_countSymbols n0 (fun r H' => ∃ o, r = Sum.inl o ∧ o = none ∧ ∃ fl', isN fl' N F ∧ H' = hE (uC C r3 (aI N fl')) (many, ra, rb, sy, sw, r6, r7, al) Z) cl 11 [some (.ref 33), some (.int (nI m)), some (.ref r3), some (.int (nI tk)), some (.int (nI r - 1)), none, none] [] (hE (uC C r3 (aI N fl)) (many, ra, rb, sy, sw, r6, r7, al) Z) 0 0 := by
    intro r
    induction r with
    | zero =>
      intro tk L fl cl hrm htk hL hLb hz
      refine b_WE_countSymbols_11 ?_
      refine ⟨fun _ => ?_, fun h => absurd (by decide) h⟩
      have hz : L = F := hz
      subst hz
      refine ⟨rfl, Nat.le_refl _, _, rfl, ⟨rfl, fl, hL, rfl⟩⟩
    | succ r ih =>
      intro tk L fl cl hrm htk hL hLb hz
      have hsz := rws_sz SW many (r + 1)
      have hto := tkn_ok SW many r tk htk
      rw [nI_pred]
      refine b_WE_countSymbols_11 ?_
      refine ⟨fun hb => ?_, fun hb => ?_⟩ <;> (try simp (disch := omega) only [nI_lit, nI_fold, nI_mul, nI_add, pk_sub, pk_div, nI_shrN, nI_clamp, nI_leI, nI_ltI, nI_eq, not_true_eq_false, not_false_eq_true, Bool.false_eq_true, if_true, if_false, nI_nem, nI_m1, nI_m7, nI_m15, nI_m32, nI_m4, nI_m8, nI_m16, nI_m2] at hb) <;> (try omega)
      have h17 : ∀ (j i : Nat) (fl : wF) (cl : Bool), i + j = tk → isN fl N (incs SY L (mgr SW many r i).1) → xW l x d 0 0 mWE_countSymbols n0 (fun r H' => ∃ o, r = Sum.inl o ∧ o = none ∧ ∃ fl', isN fl' N F ∧ H' = hE (uC C r3 (aI N fl')) (many, ra, rb, sy, sw, r6, r7, al) Z) cl 17 [some (.ref 33), some (.int (nI m)), some (.ref r3), some (.int (nI tk)), some (.int (nI r)), some (.int (nI (mgr SW many r i).1)), some (.int (nI i))] [] (hE (uC C r3 (aI N fl)) (many, ra, rb, sy, sw, r6, r7, al) Z) 0 0 := by
        intro j
        induction j with
        | zero =>
          intro i fl cl hi hL2
          have : i = tk := by omega
          subst this
          refine b_WE_countSymbols_17 ?_
          refine ⟨fun hb => ?_, fun hb => ?_⟩ <;> (try simp (disch := omega) only [nI_lit, nI_fold, nI_mul, nI_add, pk_sub, pk_div, nI_shrN, nI_clamp, nI_leI, nI_ltI, nI_eq, not_true_eq_false, not_false_eq_true, Bool.false_eq_true, if_true, if_false, nI_nem, nI_m1, nI_m7, nI_m15, nI_m32, nI_m4, nI_m8, nI_m16, nI_m2] at hb) <;> (try omega)
          rw [nI_sub hto.2.1, show (2 : Int32) * nI (i - (mgr SW many r i).1) = nI (2 * (i - (mgr SW many r i).1)) from nI_mul 2 _, mI_d]
          refine xW.fgt 5 (xW.fgt 6 ?_)
          refine ih _ (incs SY L (mgr SW many r i).1) fl cl (by omega) hto.2.2 hL2 (fun t => ?_) hz
          have := (incs_le (L := L) hinj t (mgr SW many r i).1 hto.1).1
          have := hLb t
          omega
        | succ j ihj =>
          intro i fl cl hi hL2
          have hti := tkn_ok SW many r i (by omega)
          have hti1 := tkn_ok SW many r (i + 1) (by omega)
          have hmg := mgr_s SW many r i
          have hali := hal r (by omega) i (by omega)
          have ihj := ihj (i + 1)
          generalize mgr SW many r (i + 1) = s1 at hmg ihj hti1
          generalize hs0 : mgr SW many r i = s0 at *
          refine b_WE_countSymbols_17 ?_
          refine ⟨fun hb => ?_, fun hb => ?_⟩ <;> (try simp (disch := omega) only [nI_lit, nI_fold, nI_mul, nI_add, pk_sub, pk_div, nI_shrN, nI_clamp, nI_leI, nI_ltI, nI_eq, not_true_eq_false, not_false_eq_true, Bool.false_eq_true, if_true, if_false, nI_nem, nI_m1, nI_m7, nI_m15, nI_m32, nI_m4, nI_m8, nI_m16, nI_m2] at hb) <;> (try omega)
          refine ⟨_, ⟨_, rfl, rfl⟩, _, _, rfl, ?_, ?_⟩
          · rw [show (572 : Int32) = nI 572 from rfl, nI_mul, nI_add]
            exact vp_in_nI (by omega) (by decide)
          rw [show (572 : Int32) = nI 572 from rfl, nI_mul, nI_add, nI_clamp (by omega)]
          dsimp only
          rw [hali]
          cases hb2 : alo SW many r i with
          | false =>
            rw [hb2] at hmg
            have hmg : s1 = (s0.1, s0.2 + 1) := hmg
            refine ⟨fun _ => ?_, fun h => absurd rfl h⟩
            rw [nI_1]
            have := ihj fl cl (by omega)
            rw [hmg] at this
            exact this hL2
          | true =>
            rw [hb2] at hmg
            have hmg : s1 = (s0.1 + 1, s0.2) := hmg
            rw [hmg] at hti1
            dsimp only at hti1
            obtain ⟨y1, y2⟩ := hsy s0.1 (by omega)
            have hLv := (incs_le (L := L) hinj (SY s0.1) s0.1 hti.1).1
            have hLv2 := hLb (SY s0.1)
            refine ⟨fun h => absurd h (by decide), fun _ => ?_⟩
            refine ⟨_, ⟨_, rfl, rfl⟩, _, _, rfl, vp_in_nI (by omega) (by decide), ?_⟩
            dsimp only
            rw [nI_clamp (by omega), y1]
            refine ⟨_, _, (hE_get r3 hr).trans (congrArg some uC_eq), vp_in_nI (by omega) (by omega), _, _, (hE_get r3 hr).trans (congrArg some uC_eq), hr2, vp_in_nI (by omega) (by omega), fun H11 e11 => ?_⟩
            rw [hE_set r3 hr, uC_2, nI_clamp (by omega), hL2 _ y2, nI_1] at e11
            subst e11
            rw [nI_1, nI_1]
            have := ihj (upd fl (SY s0.1) (nI (incs SY L s0.1 (SY s0.1) + 1))) false (by omega)
            rw [hmg] at this
            refine this (fun t ht => ?_)
            show upd fl (SY s0.1) _ t = nI (nup (incs SY L s0.1) (SY s0.1) (incs SY L s0.1 (SY s0.1) + 1) t)
            unfold upd nup
            split
            · rfl
            · exact hL2 t ht
      exact h17 tk 0 fl _ (by omega) hL
  have := h m (2 * many - 2) (fun _ => 0) fl true (Nat.le_refl _) htk hfl (fun i => by omega) hF
  rw [← hC, uC_id] at this
  exact this
def WEok (w : wWE) : Prop := (w.2.1 = 36 ∧ w.2.2.1 = 37) ∨ (w.2.1 = 37 ∧ w.2.2.1 = 36)
theorem c_WE_makeLengths {g : Nat → Nat} {n r1 r3 m : Nat} {fw fl : wF} {w : wWE} (hw0 : WEok w) (hn : n ≤ 286) (hn2 : n < 2 ^ (m - 1)) (hm : 1 ≤ m) (hm2 : m ≤ 15) (hr : r3 < 33) (hr2 : 2 ≤ r3) (hC : C r3 = aI n fl) (hw : ∀ (c : va_E) (w : wWE), (hE (uC C r3 c) w Z)[r1]? = some (aI n fw)) (hfw : isN fw n g) (hg : ∀ i, i < n → g i ≤ 1025) : xCr l x 1 0 0 mWE_makeLengths [.ref 33, .ref r1, .int (nI m), .ref r3] (hE C w Z) (fun o H' => o = none ∧ ∃ fl' w', isN fl' n (lbw g n m) ∧ WEok w' ∧ H' = hE (uC C r3 (aI n fl')) w' Z) := by
  obtain ⟨m0, ra, rb, sy, sw, r6, r7, al⟩ := w
  have hlb : lbw g n m = if (srt g n).1 = 1 then nup (fun _ => 0) ((srt g n).2 0) 1 else if (srt g n).1 < 2 then fun _ => 0 else lnA (fun j => g ((srt g n).2 j)) (srt g n).2 (srt g n).1 m (2 * (srt g n).1 - 2) (fun _ => 0) := rfl
  obtain ⟨o1, o2, o3⟩ := srt_ok g n
  refine xCt.of (by decide) rfl ck_WE_makeLengths (Nat.le_of_ble_eq_true rfl) rfl ?_
  generalize List.length (hE C (m0, ra, rb, sy, sw, r6, r7, al) Z) = n0
  refine b_WE_makeLengths_0 ?_
  refine xs_callV rfl lk_10_28 (d' := 0) (c_WE_sort hn (fun w => by have := hw (C r3) w; rw [uC_id] at this; exact this) hfw (fun i hi => by have := hg i hi; omega)) (Nat.le_of_ble_eq_true rfl) rfl rfl rfl rfl rfl (Nat.le_of_ble_eq_true rfl) (by omega) (by omega) ?_
  rintro _ H1 ⟨rfl, sy, sw, hs, rfl⟩
  refine b_WE_makeLengths_3 ?_
  refine xs_callS rfl lk_10_32 (d' := 0) (c_AR_fill (N := n) (f := fl) (by rw [hE_get r3 hr, hC]) hr2 (by omega)) (Nat.le_of_ble_eq_true rfl) rfl rfl (Nat.le_of_ble_eq_true rfl) (by omega) (by omega) ?_
  rintro _ H1 ⟨rfl, rfl⟩
  rw [hE_set r3 hr]
  have hfil : isN (x_fil fl 0 0 n) n (fun _ => 0) := fun i hi => by unfold x_fil; rw [if_pos ⟨Nat.zero_le _, hi⟩]; rfl
  generalize x_fil fl 0 0 n = fl0 at hfil
  generalize hM : (srt g n).1 = many at *
  generalize hS : (srt g n).2 = S at *
  refine b_WE_makeLengths_6 ⟨_, ⟨_, rfl, rfl⟩, ?_⟩
  refine ⟨fun hb => ?_, fun hb => ?_⟩ <;> (try simp (disch := omega) only [nI_lit, nI_fold, nI_mul, nI_add, pk_sub, pk_div, nI_shrN, nI_clamp, nI_leI, nI_ltI, nI_eq, not_true_eq_false, not_false_eq_true, Bool.false_eq_true, if_true, if_false, nI_nem, nI_m1, nI_m7, nI_m15, nI_m32, nI_m4, nI_m8, nI_m16, nI_m2] at hb) <;> (try omega)
  case refine_2 =>
    rw [if_pos hb] at hlb
    obtain ⟨y1, y2⟩ := hs 0 (by omega)
    have y3 := (o2 0 (by omega)).1
    refine ⟨_, ⟨_, rfl, rfl⟩, _, _, rfl, vp_in_nI (n := 0) (by decide) (by decide), ?_⟩
    dsimp only
    rw [show (0 : Int32).toNatClampNeg = 0 from rfl, y1]
    refine ⟨_, _, (hE_get r3 hr).trans (congrArg some uC_eq), hr2, vp_in_nI (by omega) (by omega), fun H8 e8 => ?_⟩
    rw [hE_set r3 hr, uC_2, nI_clamp (by omega)] at e8
    subst e8
    refine ⟨_, ⟨_, rfl, rfl⟩, ?_⟩
    refine ⟨fun hc => ?_, fun hc => ?_⟩ <;> (try simp (disch := omega) only [nI_lit, nI_fold, nI_mul, nI_add, pk_sub, pk_div, nI_shrN, nI_clamp, nI_leI, nI_ltI, nI_eq, not_true_eq_false, not_false_eq_true, Bool.false_eq_true, if_true, if_false, nI_nem, nI_m1, nI_m7, nI_m15, nI_m32, nI_m4, nI_m8, nI_m16, nI_m2] at hc) <;> (try omega)
    refine ⟨rfl, Nat.le_refl _, _, rfl, rfl, _, (many, ra, rb, sy, sw, r6, r7, al), fun i hi => ?_, hw0, rfl⟩
    rw [hlb]
    unfold upd nup
    split
    · rfl
    · exact hfil i hi
  rw [if_neg hb] at hlb
  refine ⟨_, ⟨_, rfl, rfl⟩, ?_⟩
  refine ⟨fun hc => ?_, fun hc => ?_⟩ <;> (try simp (disch := omega) only [nI_lit, nI_fold, nI_mul, nI_add, pk_sub, pk_div, nI_shrN, nI_clamp, nI_leI, nI_ltI, nI_eq, not_true_eq_false, not_false_eq_true, Bool.false_eq_true, if_true, if_false, nI_nem, nI_m1, nI_m7, nI_m15, nI_m32, nI_m4, nI_m8, nI_m16, nI_m2] at hc) <;> (try omega)
  case refine_2 =>
    rw [if_pos (by omega)] at hlb
    refine ⟨rfl, Nat.le_refl _, _, rfl, rfl, fl0, (many, ra, rb, sy, sw, r6, r7, al), ?_, hw0, rfl⟩
    rw [hlb]
    exact hfil
  rw [if_neg (by omega)] at hlb
  generalize hSW : (fun j => g (S j)) = SW at *
  have hsw : ∀ j, j < many → sw j = nI (SW j) ∧ SW j ≤ 1025 := fun j hj => by
    rw [← hSW]
    exact ⟨(hs j hj).2, hg _ (o2 j hj).1⟩
  have hrb := rws_bd (sw := SW) (many := many) (M := 1025) (fun j hj => (hsw j hj).2)
  have htk : 2 * many - 2 ≤ (rws SW many m).1 := by
    have := tkn_0 (g := g) (n := n) (m := m) (by omega) hn2 hm SW
    rw [hM] at this
    exact this
  have h26 : ∀ (j k ra rb : Nat) (r6 r7 al : wF) (cl : Bool), k + j = m → ((ra = 36 ∧ rb = 37 ∧ ∀ i, i < (rws SW many k).1 → r6 i = nI ((rws SW many k).2 i)) ∨ (ra = 37 ∧ rb = 36 ∧ ∀ i, i < (rws SW many k).1 → r7 i = nI ((rws SW many k).2 i))) → (∀ r, r < k → ∀ i, i < (rws SW many (r + 1)).1 → al (r * 572 + i) = if alo SW many r i then 1 else 0) → xW l x 1 0 0 mWE_makeLengths n0 (fun r H' => ∃ o, r = Sum.inl o ∧ o = none ∧ ∃ fl' w', isN fl' n (lbw g n m) ∧ WEok w' ∧ H' = hE (uC C r3 (aI n fl')) w' Z) cl 26 [some (.ref 33), some (.ref r1), some (.int (nI m)), some (.ref r3), some (.int (nI (rws SW many k).1)), some (.int (nI k))] [] (hE (uC C r3 (aI n fl0)) (many, ra, rb, sy, sw, r6, r7, al) Z) 0 0 := by
    intro j
    induction j with
    | zero =>
      intro k ra rb r6 r7 al cl hk hrow hal
      have : k = m := by omega
      subst this
      refine b_WE_makeLengths_26 ?_
      refine ⟨fun hb => ?_, fun hb => ?_⟩ <;> (try simp (disch := omega) only [nI_lit, nI_fold, nI_mul, nI_add, pk_sub, pk_div, nI_shrN, nI_clamp, nI_leI, nI_ltI, nI_eq, not_true_eq_false, not_false_eq_true, Bool.false_eq_true, if_true, if_false, nI_nem, nI_m1, nI_m7, nI_m15, nI_m32, nI_m4, nI_m8, nI_m16, nI_m2] at hb) <;> (try omega)
      refine xs_callV rfl lk_10_46 (d' := 0) (c_WE_count (SW := SW) (SY := S) (C := uC C r3 (aI n fl0)) (N := n) (fl := fl0) hm2 hn (by omega) o1 hr hr2 uC_eq hfil (fun j hj => ⟨(hs j hj).1, (o2 j hj).1⟩) (fun i j h1 h2 => (o3 i j h1 h2).1) htk hal) (Nat.le_of_ble_eq_true rfl) rfl rfl rfl rfl rfl (Nat.le_of_ble_eq_true rfl) (by omega) (by omega) ?_
      rintro _ H1 ⟨rfl, fl', hfl', rfl⟩
      refine b_WE_makeLengths_42 ?_
      refine ⟨rfl, Nat.le_refl _, _, rfl, rfl, fl', _, ?_, ?_, by rw [uC_2]⟩
      · rw [hlb]; exact hfl'
      · rcases hrow with ⟨h1, h2, _⟩ | ⟨h1, h2, _⟩
        · exact Or.inl ⟨h1, h2⟩
        · exact Or.inr ⟨h1, h2⟩
    | succ j ih =>
      intro k ra rb r6 r7 al cl hk hrow hal
      have hsz := rws_sz SW many k
      have hsz1 : (rws SW many (k + 1)).1 = many + (rws SW many k).1 / 2 := rfl
      have hp28 : 1025 * 2 ^ k < 2 ^ 28 := by
        have : 2 ^ k ≤ 2 ^ 14 := Nat.pow_le_pow_right (by decide) (by omega)
        omega
      have hnew : ∀ (al' : wF), (∀ i, i < many + (rws SW many k).1 / 2 → al' (k * 572 + i) = if tkw SW many (rws SW many k).2 ((rws SW many k).1 / 2) (mg SW many (rws SW many k).2 ((rws SW many k).1 / 2) i) then 1 else 0) → (∀ i, i < k * 572 → al' i = al i) → ∀ r, r < k + 1 → ∀ i, i < (rws SW many (r + 1)).1 → al' (r * 572 + i) = if alo SW many r i then 1 else 0 := by
        intro al' g1 g2 r hr i hi
        have hszr := rws_sz SW many (r + 1)
        by_cases hrk : r = k
        · subst hrk
          exact g1 i hi
        · rw [g2 _ (by have : (r + 1) * 572 ≤ k * 572 := Nat.mul_le_mul_right _ (by omega); omega)]
          exact hal r (by omega) i hi
      refine b_WE_makeLengths_26 ?_
      refine ⟨fun hb => ?_, fun hb => ?_⟩ <;> (try simp (disch := omega) only [nI_lit, nI_fold, nI_mul, nI_add, pk_sub, pk_div, nI_shrN, nI_clamp, nI_leI, nI_ltI, nI_eq, not_true_eq_false, not_false_eq_true, Bool.false_eq_true, if_true, if_false, nI_nem, nI_m1, nI_m7, nI_m15, nI_m32, nI_m4, nI_m8, nI_m16, nI_m2] at hb) <;> (try omega)
      rw [show nI (rws SW many k).1 / 2 = nI ((rws SW many k).1 / 2) by rw [show (2 : Int32) = nI 2 from rfl]; simp (disch := omega) only [nI_lit, nI_fold, nI_mul, nI_add, pk_sub, pk_div, nI_shrN, nI_clamp]]
      rcases hrow with ⟨rfl, rfl, hrow⟩ | ⟨rfl, rfl, hrow⟩
      · refine xs_callV rfl lk_10_42 (d' := 0) (c_WE_makeRowA (SW := SW) (RW := (rws SW many k).2) (by omega) (by omega) (by omega) (fun j hj => ⟨(hsw j hj).1, by have := (hsw j hj).2; omega⟩) (fun j hj => ⟨hrow j (by omega), by have := hrb k j (by omega); omega⟩)) (Nat.le_of_ble_eq_true rfl) rfl rfl rfl rfl rfl (Nat.le_of_ble_eq_true rfl) (by omega) (by omega) ?_
        rintro _ H1 ⟨rfl, nw, al', g1, g2, g3, rfl⟩
        refine b_WE_makeLengths_35 ?_
        rw [nI_1]
        exact ih (k + 1) 37 36 r6 nw al' false (by omega) (Or.inr ⟨rfl, rfl, g1⟩) (hnew al' g2 g3)
      · refine xs_callV rfl lk_10_42 (d' := 0) (c_WE_makeRowB (SW := SW) (RW := (rws SW many k).2) (by omega) (by omega) (by omega) (fun j hj => ⟨(hsw j hj).1, by have := (hsw j hj).2; omega⟩) (fun j hj => ⟨hrow j (by omega), by have := hrb k j (by omega); omega⟩)) (Nat.le_of_ble_eq_true rfl) rfl rfl rfl rfl rfl (Nat.le_of_ble_eq_true rfl) (by omega) (by omega) ?_
        rintro _ H1 ⟨rfl, nw, al', g1, g2, g3, rfl⟩
        refine b_WE_makeLengths_35 ?_
        rw [nI_1]
        exact ih (k + 1) 36 37 nw r7 al' false (by omega) (Or.inl ⟨rfl, rfl, g1⟩) (hnew al' g2 g3)
  refine h26 m 0 ra rb r6 r7 al _ (by omega) ?_ (fun r h => absurd h (Nat.not_lt_zero _))
  rcases hw0 with ⟨h1, h2⟩ | ⟨h1, h2⟩
  · exact Or.inl ⟨h1, h2, fun i hi => absurd hi (Nat.not_lt_zero _)⟩
  · exact Or.inr ⟨h1, h2, fun i hi => absurd hi (Nat.not_lt_zero _)⟩
end Weigh
