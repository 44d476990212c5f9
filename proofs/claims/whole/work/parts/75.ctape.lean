/-! the class packs the tape -/
def wtS (T : wRow) (w : Nat) (s : Nat × Nat) : Nat × Nat := if w = 1 then bfour s (adl T.1 0 T.2) true 4 else if w = 2 then bfour (bfour s (crc T.1 0 T.2) false 4) T.2 false 4 else s
def pkB (T : wRow) (w : Nat) (td : Nat → Nat) : pS := wbs T.1 T.2 32769 (whd w, 0, 0, 0, td)
def pkS (T : wRow) (w : Nat) (td : Nat → Nat) : Nat × Nat := wtS T w ((pkB T w td).1.1, ((pkB T w td).1.2 + 7) / 8 * 8)
theorem wtS_2 (T : wRow) {w : Nat} (s : Nat × Nat) : (wtS T w s).2 = s.2 + (if w = 1 then 32 else if w = 2 then 64 else 0) := by
  unfold wtS
  split
  · rw [bfour_2]
  split
  · rw [bfour_2, bfour_2]
  · rfl
theorem whd_2 (w : Nat) : (whd w).2 ≤ 80 ∧ (whd w).2 % 8 = 0 := by
  unfold whd
  split
  · exact ⟨by decide, by decide⟩
  split
  · exact ⟨by decide, by decide⟩
  · exact ⟨by decide, by decide⟩
theorem whd_0 {w : Nat} : (whd w).1 < 2 ^ (whd w).2 := by
  unfold whd
  split
  · decide
  split
  · decide
  · decide
/-- what holds between blocks -/
def pOK (n : Nat) (e : pS) : Prop := e.2.1 ≤ n ∧ 1024 * e.2.2.1 ≤ e.2.1 ∧ e.2.2.2.1 ≤ e.2.1 ∧ e.1.2 ≤ 80 + 8 * e.2.1 + 42 * e.2.2.1
def nxt (t : Nat → Nat) (n : Nat) (e : pS) : pS := (wbk t n e.2.1 e.1, pend t n e.2.1, e.2.2.1 + 1, e.2.2.2.1 + scn t n e.2.1 (npc t n e.2.1), noteT e.2.2.2.2 e.2.2.1 (knd t n e.2.1 e.1.2) e.1.2 ((wbk t n e.2.1 e.1).2 - e.1.2) (pend t n e.2.1 - e.2.1))
theorem wbs_s (t : Nat → Nat) (n f : Nat) (e : pS) : wbs t n (f + 1) e = if pend t n e.2.1 < n then wbs t n f (nxt t n e) else nxt t n e := rfl
theorem scn_le (t : Nat → Nat) (n p0 : Nat) : ∀ c, scn t n p0 c ≤ c := by
  intro c
  induction c with
  | zero => exact Nat.le_refl _
  | succ c ih => unfold scn; split <;> omega
theorem pOK_room {t : Nat → Nat} {n : Nat} {e : pS} (hn : n ≤ 32768) (h : pOK n e) : e.1.2 + plB e.1.2 (pend t n e.2.1 - e.2.1) ≤ 80 + 8 * pend t n e.2.1 + 42 * (e.2.2.1 + 1) ∧ e.2.2.1 ≤ 32 := by
  obtain ⟨h1, h2, h3, h4⟩ := h
  have := pend_ok (t := t) h1
  have hpl : plB e.1.2 (pend t n e.2.1 - e.2.1) = (e.1.2 + 3 + 7) / 8 * 8 - e.1.2 + 32 + 8 * (pend t n e.2.1 - e.2.1) := rfl
  omega
theorem pOK_nxt {t : Nat → Nat} {n : Nat} {e : pS} (hn : n ≤ 32768) (h : pOK n e) : (nxt t n e).1.2 ≤ 80 + 8 * n + 42 * 33 ∧ (pend t n e.2.1 < n → pOK n (nxt t n e)) := by
  have hr := pOK_room (t := t) hn h
  obtain ⟨h1, h2, h3, h4⟩ := id h
  have hp := pend_ok (t := t) h1
  have hb := wbk_2 t n e.2.1 e.1
  have hs := scn_le t n e.2.1 (npc t n e.2.1)
  have hpp := pp_le (t := t) h1 (npc t n e.2.1) (Nat.le_refl _)
  refine ⟨?_, fun hlt => ⟨?_, ?_, ?_, ?_⟩⟩
  · show (wbk t n e.2.1 e.1).2 ≤ _
    omega
  · exact hp.2.1
  · show 1024 * (e.2.2.1 + 1) ≤ pend t n e.2.1
    have := hp.2.2.1 hlt
    omega
  · show e.2.2.2.1 + scn t n e.2.1 (npc t n e.2.1) ≤ pp t n e.2.1 (npc t n e.2.1)
    omega
  · show (wbk t n e.2.1 e.1).2 ≤ 80 + 8 * pend t n e.2.1 + 42 * (e.2.2.1 + 1)
    omega
theorem wbs_bd {t : Nat → Nat} {n : Nat} (hn : n ≤ 32768) : ∀ f e, n - e.2.1 < f → pOK n e → (wbs t n f e).1.2 ≤ 80 + 8 * n + 42 * 33 := by
  intro f
  induction f with
  | zero => intro e h; omega
  | succ f ih =>
    intro e hf h
    have hq := pOK_nxt (t := t) hn h
    have hp := pend_ok (t := t) h.1
    rw [wbs_s]
    split
    · rename_i hlt
      have := hp.2.2.1 hlt
      exact ih _ (by show n - pend t n e.2.1 < f; omega) (hq.2 hlt)
    · exact hq.1
theorem pOK_0 (n w : Nat) (td : Nat → Nat) : pOK n (whd w, 0, 0, 0, td) := ⟨Nat.zero_le _, Nat.le_refl _, Nat.le_refl _, by have := (whd_2 w).1; dsimp only; omega⟩
theorem pkB_bd {T : wRow} (hn : T.2 ≤ 32768) (w : Nat) (td : Nat → Nat) : (pkB T w td).1.2 ≤ 80 + 8 * T.2 + 42 * 33 := wbs_bd hn 32769 _ (by dsimp only; omega) (pOK_0 T.2 w td)
section CTape
variable {l : Launch} {x : xX} {d : Nat} {s0 : va_E} {T : wRow} {P : wRep} {k1 : Nat × Nat × Nat × Nat} {k2 k3 : wWC} {k4 : wMC} {k5 : wF × wF × wF × wF} {k6 : wFI} {u : wUN} {Z : xH} {s : Nat × Nat} {rb : Nat → Nat}
theorem c_PK_writeHead {w : Nat} (hw : w ≤ 2) (hs : cbs (0, 0) rb) : xCr l x 2 0 0 mPK_writeHead [.ref 11, .int (nI w)] (hW s0 T rb P (k1, k2, k3, k4, k5, k6) u Z (0, 0)) (fun o H' => o = none ∧ ∃ rb', cbs (whd w) rb' ∧ H' = hW s0 T rb' P (k1, k2, k3, k4, k5, k6) u Z (whd w)) := by
  refine xCt.of (by decide) rfl ck_PK_writeHead (Nat.le_of_ble_eq_true rfl) rfl ?_
  generalize List.length (hW s0 T rb P (k1, k2, k3, k4, k5, k6) u Z (0, 0)) = n0
  unfold whd
  refine b_PK_writeHead_0 ?_
  refine ⟨fun hb => ?_, fun hb => ?_⟩ <;> (try simp (disch := omega) only [nI_lit, nI_fold, nI_mul, nI_add, pk_sub, pk_div, nI_shrN, nI_clamp, nI_leI, nI_ltI, nI_eq, not_true_eq_false, not_false_eq_true, Bool.false_eq_true, if_true, if_false, nI_nem, nI_m1, nI_m7, nI_m15, nI_m32, nI_m4, nI_m8, nI_m16, nI_m2] at hb) <;> (try omega)
  case refine_2 =>
    subst hb
    rw [if_pos rfl]
    refine ⟨_, ⟨_, rfl, rfl⟩, ?_⟩
    refine xs_callV rfl lk_4_129 (d' := 1) (c_BW_writeNumber (q := (k1, k2, k3, k4, k5, k6)) (s := (0, 0)) (v := 120) (k := 8) (by decide) (by decide) hs (by decide)) (Nat.le_of_ble_eq_true rfl) rfl rfl rfl rfl rfl (Nat.le_of_ble_eq_true rfl) (by omega) (by omega) ?_
    rintro _ H1 ⟨rfl, rb1, hs1, rfl⟩
    refine b_PK_writeHead_8 ⟨_, ⟨_, rfl, rfl⟩, ?_⟩
    refine xs_callV rfl lk_4_129 (d' := 1) (c_BW_writeNumber (q := (k1, k2, k3, k4, k5, k6)) (v := 156) (k := 8) (by decide) (by decide) hs1 (by decide)) (Nat.le_of_ble_eq_true rfl) rfl rfl rfl rfl rfl (Nat.le_of_ble_eq_true rfl) (by omega) (by omega) ?_
    rintro _ H1 ⟨rfl, rb2, hs2, rfl⟩
    refine b_PK_writeHead_13 ⟨fun _ => ?_, fun h => absurd h (by decide)⟩
    refine b_PK_writeHead_48 ?_
    refine ⟨rfl, Nat.le_refl _, _, rfl, ⟨rfl, rb2, hs2, rfl⟩⟩
  rw [if_neg hb]
  refine b_PK_writeHead_13 ?_
  refine ⟨fun hcq => ?_, fun hcq => ?_⟩ <;> (try simp (disch := omega) only [nI_lit, nI_fold, nI_mul, nI_add, pk_sub, pk_div, nI_shrN, nI_clamp, nI_leI, nI_ltI, nI_eq, not_true_eq_false, not_false_eq_true, Bool.false_eq_true, if_true, if_false, nI_nem, nI_m1, nI_m7, nI_m15, nI_m32, nI_m4, nI_m8, nI_m16, nI_m2] at hcq) <;> (try omega)
  · rw [if_neg hcq]
    refine b_PK_writeHead_48 ?_
    refine ⟨rfl, Nat.le_refl _, _, rfl, ⟨rfl, rb, hs, rfl⟩⟩
  subst hcq
  rw [if_pos rfl]
  refine ⟨_, ⟨_, rfl, rfl⟩, ?_⟩
  refine xs_callV rfl lk_4_129 (d' := 1) (c_BW_writeNumber (q := (k1, k2, k3, k4, k5, k6)) (s := (0, 0)) (v := 31) (k := 8) (by decide) (by decide) hs (by decide)) (Nat.le_of_ble_eq_true rfl) rfl rfl rfl rfl rfl (Nat.le_of_ble_eq_true rfl) (by omega) (by omega) ?_
  rintro _ H1 ⟨rfl, rb1, hs1, rfl⟩
  refine b_PK_writeHead_21 ⟨_, ⟨_, rfl, rfl⟩, ?_⟩
  refine xs_callV rfl lk_4_129 (d' := 1) (c_BW_writeNumber (q := (k1, k2, k3, k4, k5, k6)) (v := 139) (k := 8) (by decide) (by decide) hs1 (by decide)) (Nat.le_of_ble_eq_true rfl) rfl rfl rfl rfl rfl (Nat.le_of_ble_eq_true rfl) (by omega) (by omega) ?_
  rintro _ H1 ⟨rfl, rb2, hs2, rfl⟩
  refine b_PK_writeHead_26 ⟨_, ⟨_, rfl, rfl⟩, ?_⟩
  refine xs_callV rfl lk_4_129 (d' := 1) (c_BW_writeNumber (q := (k1, k2, k3, k4, k5, k6)) (v := 8) (k := 8) (by decide) (by decide) hs2 (by decide)) (Nat.le_of_ble_eq_true rfl) rfl rfl rfl rfl rfl (Nat.le_of_ble_eq_true rfl) (by omega) (by omega) ?_
  rintro _ H1 ⟨rfl, rb3, hs3, rfl⟩
  refine b_PK_writeHead_31 ?_
  have kz : ∀ (i : Nat) (s : Nat × Nat) (rb : Nat → Nat) (cl : Bool), i < 6 → s.2 ≤ 1000 → cbs s rb → (∀ rb', cbs (bput s 0 8) rb' → xW l x 2 0 0 mPK_writeHead n0 (fun r H' => ∃ o, r = Sum.inl o ∧ o = none ∧ ∃ rb', cbs (bput (bput (bput (bput (bput (bput (bput (bput (bput (bput (0, 0) 31 8) 139 8) 8 8) 0 8) 0 8) 0 8) 0 8) 0 8) 0 8) 255 8) rb' ∧ H' = hW s0 T rb' P (k1, k2, k3, k4, k5, k6) u Z (bput (bput (bput (bput (bput (bput (bput (bput (bput (bput (0, 0) 31 8) 139 8) 8 8) 0 8) 0 8) 0 8) 0 8) 0 8) 0 8) 255 8)) false 33 [some (.ref 11), some (.int (nI 2)), some (.int (nI (i + 1)))] [] (hW s0 T rb' P (k1, k2, k3, k4, k5, k6) u Z (bput s 0 8)) 0 0) → xW l x 2 0 0 mPK_writeHead n0 (fun r H' => ∃ o, r = Sum.inl o ∧ o = none ∧ ∃ rb', cbs (bput (bput (bput (bput (bput (bput (bput (bput (bput (bput (0, 0) 31 8) 139 8) 8 8) 0 8) 0 8) 0 8) 0 8) 0 8) 0 8) 255 8) rb' ∧ H' = hW s0 T rb' P (k1, k2, k3, k4, k5, k6) u Z (bput (bput (bput (bput (bput (bput (bput (bput (bput (bput (0, 0) 31 8) 139 8) 8 8) 0 8) 0 8) 0 8) 0 8) 0 8) 0 8) 255 8)) cl 33 [some (.ref 11), some (.int (nI 2)), some (.int (nI i))] [] (hW s0 T rb P (k1, k2, k3, k4, k5, k6) u Z (s)) 0 0 := by
    intro i s rb cl hi h2 hs K
    refine b_PK_writeHead_33 ?_
    refine ⟨fun hb => ?_, fun hb => ?_⟩ <;> (try simp (disch := omega) only [nI_lit, nI_fold, nI_mul, nI_add, pk_sub, pk_div, nI_shrN, nI_clamp, nI_leI, nI_ltI, nI_eq, not_true_eq_false, not_false_eq_true, Bool.false_eq_true, if_true, if_false, nI_nem, nI_m1, nI_m7, nI_m15, nI_m32, nI_m4, nI_m8, nI_m16, nI_m2] at hb) <;> (try omega)
    refine ⟨_, ⟨_, rfl, rfl⟩, ?_⟩
    refine xs_callV rfl lk_4_129 (d' := 1) (c_BW_writeNumber (q := (k1, k2, k3, k4, k5, k6)) (s := s) (rb := rb) (v := 0) (k := 8) (by decide) (by decide) hs (by omega)) (Nat.le_of_ble_eq_true rfl) rfl rfl rfl rfl rfl (Nat.le_of_ble_eq_true rfl) (by omega) (by omega) ?_
    rintro _ H1 ⟨rfl, rb', hs', rfl⟩
    refine b_PK_writeHead_41 ?_
    rw [nI_1]
    exact K rb' hs'
  refine kz 0 _ rb3 _ (by decide) (by decide) hs3 fun rb4 hs4 => ?_
  refine kz 1 _ rb4 _ (by decide) (by decide) hs4 fun rb5 hs5 => ?_
  refine kz 2 _ rb5 _ (by decide) (by decide) hs5 fun rb6 hs6 => ?_
  refine kz 3 _ rb6 _ (by decide) (by decide) hs6 fun rb7 hs7 => ?_
  refine kz 4 _ rb7 _ (by decide) (by decide) hs7 fun rb8 hs8 => ?_
  refine kz 5 _ rb8 _ (by decide) (by decide) hs8 fun rb9 hs9 => ?_
  refine b_PK_writeHead_33 ⟨fun _ => ?_, fun h => absurd (by decide) h⟩
  refine ⟨_, ⟨_, rfl, rfl⟩, ?_⟩
  refine xs_callV rfl lk_4_129 (d' := 1) (c_BW_writeNumber (q := (k1, k2, k3, k4, k5, k6)) (v := 255) (k := 8) (by decide) (by decide) hs9 (by decide)) (Nat.le_of_ble_eq_true rfl) rfl rfl rfl rfl rfl (Nat.le_of_ble_eq_true rfl) (by omega) (by omega) ?_
  rintro _ H1 ⟨rfl, rb10, hs10, rfl⟩
  refine xW.fgt 2 ?_
  refine b_PK_writeHead_48 ?_
  refine ⟨rfl, Nat.le_refl _, _, rfl, ⟨rfl, rb10, hs10, rfl⟩⟩
theorem c_PK_writeTail (hT : ∀ i, T.1 i < 256) (hn : T.2 ≤ 32768) {w : Nat} (hw : w ≤ 2) (hs : cbs s rb) (hroom : s.2 + 64 ≤ 524288) : xCr l x 3 0 0 mPK_writeTail [.ref 11, .int (nI w)] (hW s0 T rb P (k1, k2, k3, k4, k5, k6) u Z (s)) (fun o H' => o = none ∧ ∃ rb', cbs (wtS T w s) rb' ∧ H' = hW s0 T rb' P (k1, k2, k3, k4, k5, k6) u Z (wtS T w s)) := by
  refine xCt.of (by decide) rfl ck_PK_writeTail (Nat.le_of_ble_eq_true rfl) rfl ?_
  unfold wtS
  refine b_PK_writeTail_0 ?_
  refine ⟨fun hb => ?_, fun hb => ?_⟩ <;> (try simp (disch := omega) only [nI_lit, nI_fold, nI_mul, nI_add, pk_sub, pk_div, nI_shrN, nI_clamp, nI_leI, nI_ltI, nI_eq, not_true_eq_false, not_false_eq_true, Bool.false_eq_true, if_true, if_false, nI_nem, nI_m1, nI_m7, nI_m15, nI_m32, nI_m4, nI_m8, nI_m16, nI_m2] at hb) <;> (try omega)
  case refine_2 =>
    subst hb
    rw [if_pos rfl]
    refine ⟨_, ⟨_, rfl, rfl⟩, _, ⟨_, rfl, rfl⟩, _, ⟨_, rfl, rfl⟩, _, ⟨_, rfl, rfl⟩, _, ⟨_, rfl, rfl⟩, ?_⟩
    refine xs_callV rfl lk_4_133 (d' := 1) (c_SU_sumA (r := 3) (ra := 4) (N := 32768) (t := T.1) (fm := 0) (to := T.2) rfl rfl hT (by omega) hn (by decide)) (Nat.le_of_ble_eq_true rfl) rfl rfl rfl rfl rfl (Nat.le_of_ble_eq_true rfl) (by omega) (by omega) ?_
    rintro _ H1 ⟨rfl, rfl⟩
    refine b_PK_writeTail_14 ?_
    refine xs_callV rfl lk_4_139 (d' := 2) (c_BW_writeFour (q := (k1, k2, k3, k4, k5, k6)) (w := adl T.1 0 T.2) (adl_lt _ _ _) true hs (by omega)) (Nat.le_of_ble_eq_true rfl) rfl rfl rfl rfl rfl (Nat.le_of_ble_eq_true rfl) (by omega) (by omega) ?_
    rintro _ H1 ⟨rfl, rb1, hs1, rfl⟩
    refine b_PK_writeTail_16 ⟨fun _ => ?_, fun h => absurd h (by decide)⟩
    refine b_PK_writeTail_40 ?_
    refine ⟨rfl, Nat.le_refl _, _, rfl, ⟨rfl, rb1, hs1, rfl⟩⟩
  rw [if_neg hb]
  refine b_PK_writeTail_16 ?_
  refine ⟨fun hcq => ?_, fun hcq => ?_⟩ <;> (try simp (disch := omega) only [nI_lit, nI_fold, nI_mul, nI_add, pk_sub, pk_div, nI_shrN, nI_clamp, nI_leI, nI_ltI, nI_eq, not_true_eq_false, not_false_eq_true, Bool.false_eq_true, if_true, if_false, nI_nem, nI_m1, nI_m7, nI_m15, nI_m32, nI_m4, nI_m8, nI_m16, nI_m2] at hcq) <;> (try omega)
  · rw [if_neg hcq]
    refine b_PK_writeTail_40 ?_
    refine ⟨rfl, Nat.le_refl _, _, rfl, ⟨rfl, rb, hs, rfl⟩⟩
  subst hcq
  rw [if_pos rfl]
  refine ⟨_, ⟨_, rfl, rfl⟩, _, ⟨_, rfl, rfl⟩, _, ⟨_, rfl, rfl⟩, _, ⟨_, rfl, rfl⟩, _, ⟨_, rfl, rfl⟩, ?_⟩
  refine xs_callV rfl lk_4_143 (d' := 1) (c_SU_sumB (r := 3) (ra := 4) (N := 32768) (t := T.1) (fm := 0) (to := T.2) rfl rfl rfl rfl hT (by omega) hn (by decide)) (Nat.le_of_ble_eq_true rfl) rfl rfl rfl rfl rfl (Nat.le_of_ble_eq_true rfl) (by omega) (by omega) ?_
  rintro _ H1 ⟨rfl, rfl⟩
  refine b_PK_writeTail_30 ?_
  refine xs_callV rfl lk_4_139 (d' := 2) (c_BW_writeFour (q := (k1, k2, k3, k4, k5, k6)) (w := crc T.1 0 T.2) (crc_lt hT _ _) false hs (by omega)) (Nat.le_of_ble_eq_true rfl) rfl rfl rfl rfl rfl (Nat.le_of_ble_eq_true rfl) (by omega) (by omega) ?_
  rintro _ H1 ⟨rfl, rb1, hs1, rfl⟩
  refine b_PK_writeTail_32 ⟨_, ⟨_, rfl, rfl⟩, _, ⟨_, rfl, rfl⟩, _, ⟨_, rfl, rfl⟩, ?_⟩
  rw [nI_l (by omega)]
  have h2 := bfour_2 s (crc T.1 0 T.2) false 4
  refine xs_callV rfl lk_4_139 (d' := 2) (c_BW_writeFour (q := (k1, k2, k3, k4, k5, k6)) (w := T.2) (by omega) false hs1 (by omega)) (Nat.le_of_ble_eq_true rfl) rfl rfl rfl rfl rfl (Nat.le_of_ble_eq_true rfl) (by omega) (by omega) ?_
  rintro _ H1 ⟨rfl, rb2, hs2, rfl⟩
  refine b_PK_writeTail_40 ?_
  refine ⟨rfl, Nat.le_refl _, _, rfl, ⟨rfl, rb2, hs2, rfl⟩⟩
/-- the packer between calls -/
def PKst (k : wPK) : Prop := PKfix k.2.1 k.2.2.1 ∧ WEok k.2.2.2.1.2.2.2.2.2.2.2.1
theorem c_PK_packTape (hT : ∀ i, T.1 i < 256) (hn : T.2 ≤ 32768) {w : Nat} (hw : w ≤ 2) {R : wRow} (hR : ∀ i, R.1 i < 256) {fa pl : Int32} {bl st : Nat} {td : Nat → Nat} {k : wPK} (hk : PKst k) : xCr l x 5 0 0 mPK_packTape [.ref 11, .int (nI w)] (hc s0 T R (fa, pl, bl, st, nF td) k u Z) (fun o H' => o = none ∧ ∃ rb k', PKst k' ∧ cbs (pkS T w td) rb ∧ H' = hc s0 T (rb, (pkS T w td).2 / 8) (0, -1, (pkB T w td).2.2.1, (pkB T w td).2.2.2.1, nF (pkB T w td).2.2.2.2) k' u Z) := by
  obtain ⟨k1, k2, k3, k4, ⟨pl5, pv5, fwL, fwD⟩, k6, hd⟩ := k
  obtain ⟨hfx, hwe⟩ := hk
  dsimp only at hfx hwe
  have hbd := pkB_bd hn w td
  refine xCt.of (by decide) rfl ck_PK_packTape (Nat.le_of_ble_eq_true rfl) rfl ?_
  generalize List.length (hc s0 T R (fa, pl, bl, st, nF td) (k1, k2, k3, k4, (pl5, pv5, fwL, fwD), k6, hd) u Z) = n0
  refine b_PK_packTape_0 ⟨_, ⟨_, rfl, rfl⟩, ?_⟩
  refine xs_callV rfl lk_4_87 (d' := 0) (c_RE_clear (tr := 8) (fa := fa) (pl := pl) (bl := nI bl) (st := nI st) rfl) (Nat.le_of_ble_eq_true rfl) rfl rfl rfl rfl rfl (Nat.le_of_ble_eq_true rfl) (by omega) (by omega) ?_
  rintro _ H1 ⟨rfl, rfl⟩
  refine b_PK_packTape_3 ⟨_, ⟨_, rfl, rfl⟩, ?_⟩
  refine xs_callV rfl lk_4_92 (d' := 0) (c_BW_restart (q := (k1, k2, k3, k4, (pl5, pv5, fwL, fwD), k6)) (R := R) (P := (0, -1, 0, 0, nF td)) (hd := hd)) (Nat.le_of_ble_eq_true rfl) rfl rfl rfl rfl rfl (Nat.le_of_ble_eq_true rfl) (by omega) (by omega) ?_
  rintro _ H1 ⟨rfl, rfl⟩
  refine b_PK_packTape_6 ⟨_, ⟨_, rfl, rfl⟩, ?_⟩
  refine xs_callV rfl lk_4_95 (d' := 1) (c_FI_restart (T := T) (R := (R.1, 0)) (P := (0, -1, 0, 0, nF td)) (k1 := k1) (k2 := k2) (k3 := k3) (k4 := k4) (k5 := (pl5, pv5, fwL, fwD)) (f := k6)) (Nat.le_of_ble_eq_true rfl) rfl rfl rfl rfl rfl (Nat.le_of_ble_eq_true rfl) (by omega) (by omega) ?_
  rintro _ H1 ⟨rfl, lat, hfi, rfl⟩
  refine b_PK_packTape_9 ?_
  have hs0 : cbs (0, 0) R.1 := ⟨by decide, fun i hi => absurd hi (by dsimp only; omega), hR⟩
  refine xs_callV rfl lk_4_96 (d' := 2) (c_PK_writeHead (P := (0, -1, 0, 0, nF td)) (k1 := k1) (k2 := k2) (k3 := k3) (k4 := k4) (k5 := (pl5, pv5, fwL, fwD)) (k6 := (k6.1, k6.2.1, 0, -1, lat, k6.2.2.2.2.2)) hw hs0) (Nat.le_of_ble_eq_true rfl) rfl rfl rfl rfl rfl (Nat.le_of_ble_eq_true rfl) (by omega) (by omega) ?_
  rintro _ H1 ⟨rfl, rb1, hs1, rfl⟩
  refine b_PK_packTape_12 ⟨_, rfl, Nat.le_of_ble_eq_true rfl, fun H2 e2 => ?_⟩
  try simp (disch := omega) only [nI_lit, nI_fold, nI_mul, nI_add, pk_sub, pk_div, nI_shrN, nI_clamp] at e2
  subst e2
  -- behind the blocks
  have k53 : ∀ (e : pS) (rb : Nat → Nat) (k1 : Nat × Nat × Nat × Nat) (k4 : wMC) (k5 : wF × wF × wF × wF) (k6 : wFI) (v2 v3 : Int32) (cl : Bool), e = pkB T w td → cbs e.1 rb → WEok k4.2.2.2.2.2.2.2.1 → xW l x 5 0 0 mPK_packTape n0 (fun r H' => ∃ o, r = Sum.inl o ∧ o = none ∧ ∃ rb k', PKst k' ∧ cbs (pkS T w td) rb ∧ H' = hc s0 T (rb, (pkS T w td).2 / 8) (0, -1, (pkB T w td).2.2.1, (pkB T w td).2.2.2.1, nF (pkB T w td).2.2.2.2) k' u Z) cl 53 [some (.ref 11), some (.int (nI w)), some (.int v2), some (.int v3)] [.ref 50] (hW s0 T rb (0, -1, e.2.2.1, e.2.2.2.1, nF e.2.2.2.2) (k1, k2, k3, k4, k5, k6) u Z e.1) 0 0 := by
    intro e rb k1 k4 k5 k6 v2 v3 cl he hs hwe
    subst he
    refine xs_callV rfl lk_4_123 (d' := 2) (c_BW_fillByte (q := (k1, k2, k3, k4, k5, k6)) hs (by omega)) (Nat.le_of_ble_eq_true rfl) rfl rfl rfl rfl rfl (Nat.le_of_ble_eq_true rfl) (by omega) (by omega) ?_
    rintro _ H1 ⟨rfl, rb2, hs2, rfl⟩
    refine b_PK_packTape_54 ?_
    refine xs_callV rfl lk_4_126 (d' := 3) (c_PK_writeTail (P := (0, -1, (pkB T w td).2.2.1, (pkB T w td).2.2.2.1, nF (pkB T w td).2.2.2.2)) (k1 := k1) (k2 := k2) (k3 := k3) (k4 := k4) (k5 := k5) (k6 := k6) (s := ((pkB T w td).1.1, ((pkB T w td).1.2 + 7) / 8 * 8)) hT hn hw hs2 (by dsimp only; omega)) (Nat.le_of_ble_eq_true rfl) rfl rfl rfl rfl rfl (Nat.le_of_ble_eq_true rfl) (by omega) (by omega) ?_
    rintro _ H1 ⟨rfl, rb3, hs3, rfl⟩
    refine b_PK_packTape_57 ?_
    refine ⟨rfl, Nat.le_refl _, _, rfl, ⟨rfl, rb3, _, ⟨hfx, hwe⟩, hs3, rfl⟩⟩
  have h : ∀ (f i : Nat) (e : pS) (rb : Nat → Nat) (c b p0 : Nat) (k4 : wMC) (k5 : wF × wF × wF × wF) (k6 : wFI) (cl : Bool), i + f = 32769 → T.2 - e.2.1 < f → pOK T.2 e → cbs e.1 rb → WEok k4.2.2.2.2.2.2.2.1 → FIb T.1 T.2 k6 e.2.1 → wbs T.1 T.2 f e = pkB T w td → xW l x 5 0 0 mPK_packTape n0 (fun r H' => ∃ o, r = Sum.inl o ∧ o = none ∧ ∃ rb k', PKst k' ∧ cbs (pkS T w td) rb ∧ H' = hc s0 T (rb, (pkS T w td).2 / 8) (0, -1, (pkB T w td).2.2.1, (pkB T w td).2.2.2.1, nF (pkB T w td).2.2.2.2) k' u Z) cl 19 [some (.ref 11), some (.int (nI w)), some (.int 0), some (.int (nI i))] [] (hW s0 T rb (0, -1, e.2.2.1, e.2.2.2.1, nF e.2.2.2.2) ((c, b, p0, e.2.1), k2, k3, k4, k5, k6) u Z e.1) 0 0 := by
    intro f
    induction f with
    | zero => intro i e rb c b p0 k4 k5 k6 cl _ h; omega
    | succ f ih =>
      intro i e rb c b p0 k4 k5 k6 cl hi hlt hok hs hwe hfi hz
      obtain ⟨hr1, hr2⟩ := pOK_room (t := T.1) hn hok
      obtain ⟨o1, o2, o3, o4⟩ := id hok
      have hpe := pend_ok (t := T.1) o1
      have hnx := (pOK_nxt (t := T.1) hn hok).2
      rw [wbs_s] at hz
      obtain ⟨s, p, nb, st, td'⟩ := e
      obtain ⟨pl5, pv5, fwL, fwD⟩ := k5
      dsimp only at o1 o2 o3 o4 hr1 hr2 hpe hlt hs hfi hz hnx
      refine b_PK_packTape_19 ⟨fun h => absurd rfl h, fun _ => ?_⟩
      refine ⟨fun hb => ?_, fun hb => ?_⟩ <;> (try simp (disch := omega) only [nI_lit, nI_fold, nI_mul, nI_add, pk_sub, pk_div, nI_shrN, nI_clamp, nI_leI, nI_ltI, nI_eq, not_true_eq_false, not_false_eq_true, Bool.false_eq_true, if_true, if_false, nI_nem, nI_m1, nI_m7, nI_m15, nI_m32, nI_m4, nI_m8, nI_m16, nI_m2] at hb) <;> (try omega)
      refine xs_callV rfl lk_4_104 (d' := 4) (c_PK_takePieces (T := T) (a := p) (st := st) (bl := nb) (k4 := k4) (k6 := k6) (pl := pl5) (pv := pv5) (fwL := fwL) (fwD := fwD) hT hn o1 hfi o3) (Nat.le_of_ble_eq_true rfl) rfl rfl rfl rfl rfl (Nat.le_of_ble_eq_true rfl) (by omega) (by omega) ?_
      rintro _ H1 ⟨rfl, k5', k6', hk5, hfi', rfl⟩
      -- the block is written
      have k36 : ∀ (k4 : wMC) (cl : Bool), WEok k4.2.2.2.2.2.2.2.1 → (1 ≤ npc T.1 T.2 p → MCok T.1 T.2 p k4) → xW l x 5 0 0 mPK_packTape n0 (fun r H' => ∃ o, r = Sum.inl o ∧ o = none ∧ ∃ rb k', PKst k' ∧ cbs (pkS T w td) rb ∧ H' = hc s0 T (rb, (pkS T w td).2 / 8) (0, -1, (pkB T w td).2.2.1, (pkB T w td).2.2.2.1, nF (pkB T w td).2.2.2.2) k' u Z) cl 36 [some (.ref 11), some (.int (nI w)), some (.int 0), some (.int (nI i))] [] (hW s0 T rb (0, -1, nb, st + scn T.1 T.2 p (npc T.1 T.2 p), nF td') ((npc T.1 T.2 p, bnm T.1 T.2 p (npc T.1 T.2 p), p, pend T.1 T.2 p), k2, k3, k4, k5', k6') u Z s) 0 0 := by
        intro k4 cl hwe hm
        have hcall : ∀ (cl : Bool), xW l x 5 0 0 mPK_packTape n0 (fun r H' => ∃ o, r = Sum.inl o ∧ o = none ∧ ∃ rb k', PKst k' ∧ cbs (pkS T w td) rb ∧ H' = hc s0 T (rb, (pkS T w td).2 / 8) (0, -1, (pkB T w td).2.2.1, (pkB T w td).2.2.2.1, nF (pkB T w td).2.2.2.2) k' u Z) cl 48 [some (.ref 11), some (.int (nI w)), some (.int (if pend T.1 T.2 p < T.2 then 0 else 1)), some (.int (nI i))] [.int (if pend T.1 T.2 p < T.2 then 0 else 1), .ref 11] (hW s0 T rb (0, -1, nb, st + scn T.1 T.2 p (npc T.1 T.2 p), nF td') ((npc T.1 T.2 p, bnm T.1 T.2 p (npc T.1 T.2 p), p, pend T.1 T.2 p), k2, k3, k4, k5', k6') u Z s) 0 0 := by
          intro cl
          refine xs_callV rfl lk_4_119 (d' := 4) (c_PK_writeBlock (k4 := k4) (k5 := k5') (k6 := k6') (s := s) (rb := rb) (p0 := p) (bl := nb) (st := st + scn T.1 T.2 p (npc T.1 T.2 p)) (td := td') hT hn o1 hfx hm hwe hk5 hs (by omega) (by omega)) (Nat.le_of_ble_eq_true rfl) rfl rfl rfl rfl rfl (Nat.le_of_ble_eq_true rfl) (by omega) (by omega) ?_
          rintro _ H1 ⟨rfl, rb', k4', hwe', hs', rfl⟩
          refine b_PK_packTape_49 ?_
          rw [nI_1]
          by_cases hl : pend T.1 T.2 p < T.2
          · rw [if_pos hl] at hz ⊢
            have := hpe.2.2.1 hl
            exact ih (i + 1) (nxt T.1 T.2 (s, p, nb, st, td')) rb' _ _ _ k4' k5' k6' false (by omega) (by show T.2 - pend T.1 T.2 p < f; omega) (hnx hl) hs' hwe' hfi' hz
          · rw [if_neg hl] at hz ⊢
            refine b_PK_packTape_19 ⟨fun _ => ?_, fun h => absurd h (by decide)⟩
            refine ⟨_, ⟨_, rfl, rfl⟩, ?_⟩
            exact k53 (nxt T.1 T.2 (s, p, nb, st, td')) rb' _ k4' k5' k6' _ _ _ hz hs' hwe'
        refine b_PK_packTape_36 ⟨_, ⟨_, rfl, rfl⟩, _, ⟨_, rfl, rfl⟩, _, ⟨_, rfl, rfl⟩, ?_⟩
        refine ⟨fun hb => ?_, fun hb => ?_⟩ <;> rw [nI_ltI (a := pend T.1 T.2 p) (b := T.2) (by omega) (by omega)] at hb
        · rw [if_pos hb] at hcall
          exact hcall _
        · rw [if_neg hb] at hcall
          exact hcall _
      have hnpc := (npc_ok T.1 T.2 p).1
      refine b_PK_packTape_26 ⟨_, ⟨_, rfl, rfl⟩, ?_⟩
      refine ⟨fun hcq => ?_, fun hcq => ?_⟩ <;> (try simp (disch := omega) only [nI_lit, nI_fold, nI_mul, nI_add, pk_sub, pk_div, nI_shrN, nI_clamp, nI_leI, nI_ltI, nI_eq, not_true_eq_false, not_false_eq_true, Bool.false_eq_true, if_true, if_false, nI_nem, nI_m1, nI_m7, nI_m15, nI_m32, nI_m4, nI_m8, nI_m16, nI_m2] at hcq) <;> (try omega)
      · exact k36 k4 _ hwe (fun h => by omega)
      · obtain ⟨pl6, pv6, fwL6, fwD6⟩ := k5'
        obtain ⟨tc, mL, mD, mK, WL, WD, WK, we, row, ts, tn, tw⟩ := k4
        refine ⟨_, ⟨_, rfl, rfl⟩, _, ⟨_, rfl, rfl⟩, _, ⟨_, rfl, rfl⟩, ?_⟩
        refine xs_callV rfl lk_4_110 (d' := 3) (c_MC_make (p0 := p) (we := we) hT (by omega) hwe hk5.2.1 hk5.2.2) (Nat.le_of_ble_eq_true rfl) rfl rfl rfl rfl rfl (Nat.le_of_ble_eq_true rfl) (by omega) (by omega) ?_
        rintro _ H1 ⟨rfl, k4', hmc, hwe', rfl⟩
        exact k36 k4' _ hwe' (fun _ => hmc)
  exact h 32769 0 (whd w, 0, 0, 0, td) rb1 _ _ _ k4 _ _ false (by omega) (by dsimp only; omega) (pOK_0 T.2 w td) hs1 hwe ⟨hfi, Nat.le_refl _, Or.inl rfl⟩ rfl
end CTape
