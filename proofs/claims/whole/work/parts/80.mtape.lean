/-! the model packs the tape -/
section MTape
variable {l : Launch} {x : xX} {d : Nat} {C : Nat → va_E} {cd : Int32} {T : wRow} {rm : Nat → Nat} {rn : Nat} {mb : Nat} {Z : xH} {s : Nat × Nat}
theorem stO_end {t : Nat → Nat} {n p : Nat} (h : n ≤ p + 2) : (stO t n p).1 = 0 := by
  by_cases h0 : 0 < (stO t n p).1
  · have := stO_ok h0; omega
  · omega
theorem c_MO_putBlocks (hT : ∀ i, T.1 i < 256) (hn : T.2 ≤ 32768) {A : wK4} {B : wMB} {s0 : Nat × Nat} (hs : mbs s0 rm) (hs0 : s0.2 ≤ 80) {P1 P2 : Int32} {td : Nat → Nat} : xCr l x 5 0 0 mMO_putBlocks [.ref 74] (hM C cd T (rm, rn) (P1, P2, 0, 0) (K4 td) s0.2 mb A B Z) (fun o H' => o = none ∧ ∃ rm' A' B', mbs ((wbs T.1 T.2 32769 (s0, 0, 0, 0, td)).1.1, ((wbs T.1 T.2 32769 (s0, 0, 0, 0, td)).1.2 + 7) / 8 * 8) rm' ∧ H' = hM C cd T (rm', rn) (P1, P2, (wbs T.1 T.2 32769 (s0, 0, 0, 0, td)).2.2.1, (wbs T.1 T.2 32769 (s0, 0, 0, 0, td)).2.2.2.1) (K4 (wbs T.1 T.2 32769 (s0, 0, 0, 0, td)).2.2.2.2) (((wbs T.1 T.2 32769 (s0, 0, 0, 0, td)).1.2 + 7) / 8 * 8) mb A' B' Z) := by
  have hok0 : pOK T.2 (s0, 0, 0, 0, td) := ⟨Nat.zero_le _, Nat.le_refl _, Nat.le_refl _, by dsimp only; omega⟩
  have hbd := wbs_bd (t := T.1) hn 32769 (s0, 0, 0, 0, td) (by dsimp only; omega) hok0
  generalize hE : wbs T.1 T.2 32769 (s0, 0, 0, 0, td) = E at hbd ⊢
  refine xCt.of (by decide) rfl ck_MO_putBlocks (Nat.le_of_ble_eq_true rfl) rfl ?_
  generalize List.length (hM C cd T (rm, rn) (P1, P2, 0, 0) (K4 td) s0.2 mb A B Z) = n0
  refine b_MO_putBlocks_0 ?_
  have h : ∀ (f : Nat) (e : pS) (rm : Nat → Nat) (A : wK4) (B : wMB) (L3 : Option Value) (cl : Bool), T.2 - e.2.1 < f → pOK T.2 e → mbs e.1 rm → wbs T.1 T.2 f e = E → xW l x 5 0 0 mMO_putBlocks n0 (fun r H' => ∃ o, r = Sum.inl o ∧ o = none ∧ ∃ rm' A' B', mbs (E.1.1, (E.1.2 + 7) / 8 * 8) rm' ∧ H' = hM C cd T (rm', rn) (P1, P2, E.2.2.1, E.2.2.2.1) (K4 E.2.2.2.2) ((E.1.2 + 7) / 8 * 8) mb A' B' Z) cl 4 [some (.ref 74), some (.int (nI e.2.1)), some (.int 1), L3, none, none, none] [] (hM C cd T (rm, rn) (P1, P2, e.2.2.1, e.2.2.2.1) (K4 e.2.2.2.2) e.1.2 mb A B Z) 0 0 := by
    intro f
    induction f with
    | zero => intro e rm A B L3 cl h; omega
    | succ f ih =>
      intro e rm A B L3 cl hlt hok hs hz
      obtain ⟨hr1, hr2⟩ := pOK_room (t := T.1) hn hok
      obtain ⟨o1, o2, o3, o4⟩ := id hok
      have hpe := pend_ok (t := T.1) o1
      have hnx := (pOK_nxt (t := T.1) hn hok).2
      have hpp := pp_le (t := T.1) (n := T.2) o1
      rw [wbs_s] at hz
      obtain ⟨s, p, nb, st, td'⟩ := e
      obtain ⟨pl, pv, pc, wt, cds, th, is, tc, bw, tdd, tnn, tcn, lu, du, ku⟩ := B
      dsimp only at o1 o2 o3 o4 hr1 hr2 hpe hlt hs hz hnx hpp
      obtain ⟨np1, np2, np3⟩ := npc_ok T.1 T.2 p
      have hsc := scn_le T.1 T.2 p
      refine xW.fgt 3 ?_
      refine b_MO_putBlocks_4 ⟨fun h => absurd h (by decide), fun _ => ?_⟩
      refine ⟨_, rfl, Nat.le_of_ble_eq_true rfl, fun H2 e2 => ?_⟩
      subst e2
      -- the block is put
      have k125 : ∀ (pl pv : wF) (L4 L5 L6 : Option Value) (cl : Bool), MPa T.1 T.2 p (npc T.1 T.2 p) pl pv → xW l x 5 0 0 mMO_putBlocks n0 (fun r H' => ∃ o, r = Sum.inl o ∧ o = none ∧ ∃ rm' A' B', mbs (E.1.1, (E.1.2 + 7) / 8 * 8) rm' ∧ H' = hM C cd T (rm', rn) (P1, P2, E.2.2.1, E.2.2.2.1) (K4 E.2.2.2.2) ((E.1.2 + 7) / 8 * 8) mb A' B' Z) cl 125 [some (.ref 74), some (.int (nI (pend T.1 T.2 p))), some (.int (if pend T.1 T.2 p < T.2 then 1 else 0)), some (.int (nI p)), none, none, none] [.int (if pend T.1 T.2 p < T.2 then 0 else 1), .int (nI (pend T.1 T.2 p) - nI p), .int (nI p), .ref 74] (hM C cd T (rm, rn) (P1, P2, nb, st + scn T.1 T.2 p (npc T.1 T.2 p)) (K4 td') s.2 mb A (pl, pv, npc T.1 T.2 p, wt, cds, th, is, tc, bw, tdd, tnn, tcn, lu, du, ku) Z) 0 0 := by
        intro pl pv L4 L5 L6 cl hP
        rw [nI_sub hpe.1]
        refine xs_callV rfl lk_12_315 (d' := 4) (c_MO_putBlock (s := s) (rm := rm) (p0 := p) (bl := nb) (st := st + scn T.1 T.2 p (npc T.1 T.2 p)) (td := td') (B := (pl, pv, npc T.1 T.2 p, wt, cds, th, is, tc, bw, tdd, tnn, tcn, lu, du, ku)) hT hn o1 ⟨rfl, hP⟩ hs (by omega) (by omega)) (Nat.le_of_ble_eq_true rfl) rfl rfl rfl rfl rfl (Nat.le_of_ble_eq_true rfl) (by omega) (by omega) ?_
        rintro _ H1 ⟨rfl, rm', A', B', hs', rfl⟩
        refine b_MO_putBlocks_126 ?_
        by_cases hl : pend T.1 T.2 p < T.2
        · rw [if_pos hl] at hz ⊢
          have := hpe.2.2.1 hl
          exact ih (nxt T.1 T.2 (s, p, nb, st, td')) rm' A' B' _ _ (by show T.2 - pend T.1 T.2 p < f; omega) (hnx hl) hs' hz
        · rw [if_neg hl] at hz ⊢
          have hs2 : mbs E.1 rm' := by rw [← hz]; exact hs'
          refine xW.fgt 3 ?_
          refine b_MO_putBlocks_4 ⟨fun _ => ?_, fun h => absurd rfl h⟩
          have hcall := c_MO_pad (l := l) (x := x) (C := C) (cd := cd) (T := T) (rm := rm') (rn := rn) (P := (P1, P2, E.2.2.1, E.2.2.2.1)) (K := K4 E.2.2.2.2) (mb := mb) (A := A') (B := B') (Z := Z) hs2 (by omega)
          subst hz
          refine xs_callV rfl lk_12_297 (d' := 1) (hcall) (Nat.le_of_ble_eq_true rfl) rfl rfl rfl rfl rfl (Nat.le_of_ble_eq_true rfl) (by omega) (by omega) ?_
          rintro _ H1 ⟨rfl, rm3, hs3, rfl⟩
          refine b_MO_putBlocks_129 ?_
          refine ⟨rfl, Nat.le_refl _, _, rfl, ⟨rfl, rm3, A', B', hs3, rfl⟩⟩
      -- pieces
      have k11 : ∀ (j c : Nat) (pl pv : wF) (L4 L5 L6 : Option Value) (cl : Bool), c + j = npc T.1 T.2 p → MPa T.1 T.2 p c pl pv → xW l x 5 0 0 mMO_putBlocks n0 (fun r H' => ∃ o, r = Sum.inl o ∧ o = none ∧ ∃ rm' A' B', mbs (E.1.1, (E.1.2 + 7) / 8 * 8) rm' ∧ H' = hM C cd T (rm', rn) (P1, P2, E.2.2.1, E.2.2.2.1) (K4 E.2.2.2.2) ((E.1.2 + 7) / 8 * 8) mb A' B' Z) cl 11 [some (.ref 74), some (.int (nI (pp T.1 T.2 p c))), some (.int 1), some (.int (nI p)), L4, L5, L6] [] (hM C cd T (rm, rn) (P1, P2, nb, st + scn T.1 T.2 p c) (K4 td') s.2 mb A (pl, pv, c, wt, cds, th, is, tc, bw, tdd, tnn, tcn, lu, du, ku) Z) 0 0 := by
        intro j
        induction j with
        | zero =>
          intro c pl pv L4 L5 L6 cl hc hP
          have : c = npc T.1 T.2 p := by omega
          subst this
          have hk := k125 pl pv L4 L5 L6 cl hP
          have hpeq : pp T.1 T.2 p (npc T.1 T.2 p) = pend T.1 T.2 p := rfl
          rw [hpeq]
          refine xW.fgt 4 (xW.fgt 5 (xW.fgt 6 ?_))
          refine b_MO_putBlocks_11 ⟨_, ⟨_, rfl, rfl⟩, ?_⟩
          refine ⟨fun hb => ?_, fun hb => ?_⟩ <;> rw [nI_leI (a := T.2) (b := pend T.1 T.2 p) (by omega) (by omega)] at hb
          · rw [if_neg (by omega), if_neg (by omega)] at hk
            refine ⟨_, ⟨_, rfl, rfl⟩, ?_⟩
            refine ⟨fun _ => ?_, fun hd => absurd ((nI_leI (a := T.2) (b := pend T.1 T.2 p) (by omega) (by omega)).mpr hb) hd⟩
            exact ⟨fun h => absurd rfl h, fun _ => hk⟩
          · rw [if_pos (by omega), if_pos (by omega)] at hk
            refine ⟨_, ⟨_, rfl, rfl⟩, ?_⟩
            refine ⟨fun hd => ?_, fun hd => ?_⟩ <;> rw [show (1024 : Int32) = nI 1024 from rfl, nI_leI (a := 1024) (b := npc T.1 T.2 p) (by omega) (by omega)] at hd
            · refine ⟨_, ⟨_, rfl, rfl⟩, ?_⟩
              refine ⟨fun hd => absurd ((nI_leI (a := T.2) (b := pend T.1 T.2 p) (by omega) (by omega)).mp hd) hb, fun _ => ?_⟩
              exact ⟨fun _ => hk, fun h => absurd h (by decide)⟩
            · have := np3 (by omega)
              rw [hpeq] at this
              exact absurd this hb
        | succ j ihj =>
          intro c pl pv L4 L5 L6 cl hc hP
          have h1 := np2 c (by omega)
          have h2 := hsc c
          have hcb := hpp c (by omega)
          obtain ⟨q1, q2, q3⟩ := pc_1 hT (n := T.2) (p := pp T.1 T.2 p c)
          have hpn : pp T.1 T.2 p (c + 1) = pp T.1 T.2 p c + pcL T.1 T.2 (pp T.1 T.2 p c) := rfl
          have hsn : scn T.1 T.2 p (c + 1) = if isS T.1 T.2 (pp T.1 T.2 p c) then scn T.1 T.2 p c + 1 else scn T.1 T.2 p c := rfl
          have ihj := ihj (c + 1)
          rw [hpn] at ihj
          generalize scn T.1 T.2 p (c + 1) = sc1 at hsn ihj
          have hS : isS T.1 T.2 (pp T.1 T.2 p c) = (decide (0 < (stO T.1 T.2 (pp T.1 T.2 p c)).1) && decide ((stO T.1 T.2 (pp T.1 T.2 p c + 1)).1 ≤ (stO T.1 T.2 (pp T.1 T.2 p c)).1)) := rfl
          have hLt : pcL T.1 T.2 (pp T.1 T.2 p c) = if isS T.1 T.2 (pp T.1 T.2 p c) then (stO T.1 T.2 (pp T.1 T.2 p c)).1 else 1 := rfl
          have hVt : pcV T.1 T.2 (pp T.1 T.2 p c) = if isS T.1 T.2 (pp T.1 T.2 p c) then (stO T.1 T.2 (pp T.1 T.2 p c)).2 else T.1 (pp T.1 T.2 p c) := rfl
          have hnz : (stO T.1 T.2 (pp T.1 T.2 p c)).1 = 0 → stO T.1 T.2 (pp T.1 T.2 p c) = (0, 0) := by
            intro h0
            unfold stO at h0 ⊢
            split
            · rename_i h; rw [if_pos h] at h0; omega
            · rfl
          have hb1 : 0 < (stO T.1 T.2 (pp T.1 T.2 p c)).1 → (stO T.1 T.2 (pp T.1 T.2 p c)).1 ≤ 258 ∧ (stO T.1 T.2 (pp T.1 T.2 p c)).2 ≤ 4096 := fun h => by have := stO_ok h; omega
          have hb2 : (stO T.1 T.2 (pp T.1 T.2 p c + 1)).1 ≤ 258 ∧ (stO T.1 T.2 (pp T.1 T.2 p c + 1)).2 ≤ 4096 := by
            by_cases h : 0 < (stO T.1 T.2 (pp T.1 T.2 p c + 1)).1
            · have := stO_ok h; omega
            · unfold stO at h ⊢
              split
              · rename_i h3; rw [if_pos h3] at h; omega
              · decide
          have hend : T.2 ≤ pp T.1 T.2 p c + 1 → (stO T.1 T.2 (pp T.1 T.2 p c + 1)).1 = 0 := fun h => stO_end (by omega)
          have ht := hT (pp T.1 T.2 p c)
          generalize isS T.1 T.2 (pp T.1 T.2 p c) = b at *
          have hLo : pcL T.1 T.2 (pp T.1 T.2 p c) ≤ 258 := q2
          have hcallB := c_MO_stretchOf (l := l) (x := x) (C := C) (cd := cd) (T := T) (R := (rm, rn)) (P := (P1, P2, nb, st + scn T.1 T.2 p c)) (K := K4 td') (a := s.2) (mb := mb) (A := A) (B := (pl, pv, c, wt, cds, th, is, tc, bw, tdd, tnn, tcn, lu, du, ku)) (Z := Z) hT hn (p := pp T.1 T.2 p c + 1) (by omega)
          have hcallA := c_MO_stretchOf (l := l) (x := x) (C := C) (cd := cd) (T := T) (R := (rm, rn)) (P := (P1, P2, nb, st + scn T.1 T.2 p c)) (K := K4 td') (a := s.2) (mb := mb) (A := A) (B := (pl, pv, c, wt, cds, th, is, tc, bw, tdd, tnn, tcn, lu, du, ku)) (Z := Z) hT hn (p := pp T.1 T.2 p c) (by omega)
          generalize stO T.1 T.2 (pp T.1 T.2 p c + 1) = s2 at *
          generalize stO T.1 T.2 (pp T.1 T.2 p c) = s1 at *
          -- the piece is noted
          have k51 : ∀ (v5 : Int32) (cl : Bool), xW l x 5 0 0 mMO_putBlocks n0 (fun r H' => ∃ o, r = Sum.inl o ∧ o = none ∧ ∃ rm' A' B', mbs (E.1.1, (E.1.2 + 7) / 8 * 8) rm' ∧ H' = hM C cd T (rm', rn) (P1, P2, E.2.2.1, E.2.2.2.1) (K4 E.2.2.2.2) ((E.1.2 + 7) / 8 * 8) mb A' B' Z) cl 51 [some (.ref 74), some (.int (nI (pp T.1 T.2 p c))), some (.int 1), some (.int (nI p)), some (.int (nI (65536 * s1.1 + s1.2))), some (.int v5), none] [.int (if b then 1 else 0)] (hM C cd T (rm, rn) (P1, P2, nb, st + scn T.1 T.2 p c) (K4 td') s.2 mb A (pl, pv, c, wt, cds, th, is, tc, bw, tdd, tnn, tcn, lu, du, ku) Z) 0 0 := by
            intro v5 cl
            have hP2 : MPa T.1 T.2 p (c + 1) (upd pl c (nI (pcL T.1 T.2 (pp T.1 T.2 p c)))) (upd pv c (nI (pcV T.1 T.2 (pp T.1 T.2 p c)))) := by
              intro i hi
              unfold upd
              by_cases e : i = c
              · rw [if_pos e, if_pos e, e]; exact ⟨rfl, rfl⟩
              · rw [if_neg e, if_neg e]; exact hP i (by omega)
            have ihk := ihj _ _ (some (.int (nI (65536 * s1.1 + s1.2)))) (some (.int v5)) (some (.int (if b then 1 else 0))) false (by omega) hP2
            generalize hgL : pcL T.1 T.2 (pp T.1 T.2 p c) = len at *
            generalize hgV : pcV T.1 T.2 (pp T.1 T.2 p c) = dis at *
            cases b with
            | false =>
              rw [if_neg (by decide)] at hLt hVt hsn
              refine b_MO_putBlocks_51 ⟨_, ⟨_, rfl, rfl⟩, _, ⟨_, rfl, rfl⟩, fun _ => ?_, fun h => absurd rfl h⟩
              refine b_MO_putBlocks_63 ⟨_, _, rfl, Nat.le_of_ble_eq_true rfl, vp_in_nI (n := c) (by omega) (by decide), fun H3 e3 => ?_⟩
              try dsimp only at e3
              rw [nI_clamp (by omega), show (1 : Int32) = nI len by rw [hLt]; rfl] at e3
              subst e3
              refine ⟨_, ⟨_, rfl, rfl⟩, _, ⟨_, rfl, rfl⟩, fun _ => ?_, fun h => absurd rfl h⟩
              refine ⟨_, ⟨_, rfl, rfl⟩, _, _, rfl, vp_in_nI (by omega) (by decide), ?_⟩
              try dsimp only
              repeat rw [nI_clamp (by omega)]
              rw [show bF T.1 (pp T.1 T.2 p c) &&& 255 = nI (T.1 (pp T.1 T.2 p c)) from (sb_byte _ ht).1, ← hVt]
              refine b_MO_putBlocks_80 ⟨_, _, rfl, Nat.le_of_ble_eq_true rfl, vp_in_nI (n := c) (by omega) (by decide), fun H3 e3 => ?_⟩
              try dsimp only at e3
              rw [nI_clamp (by omega)] at e3
              subst e3
              refine ⟨_, ⟨_, rfl, rfl⟩, _, ⟨_, rfl, rfl⟩, _, _, rfl, vp_in_nI (n := c) (by omega) (by decide), ?_⟩
              try dsimp only
              repeat rw [nI_clamp (by omega)]
              rw [show upd pl c (nI len) c = nI len from if_pos rfl, nI_add]
              refine ⟨_, ⟨_, rfl, rfl⟩, _, rfl, Nat.le_of_ble_eq_true rfl, fun H10 e10 => ?_⟩
              rw [nI_1] at e10
              subst e10
              refine ⟨fun _ => ?_, fun h => absurd rfl h⟩
              refine ⟨_, ⟨_, rfl, rfl⟩, ?_⟩
              refine b_MO_putBlocks_105 ⟨_, rfl, Nat.le_of_ble_eq_true rfl, fun H2 e2 => ?_⟩
              subst e2
              subst hsn
              exact ihk
            | true =>
              have h0 : 0 < s1.1 := by
                have hS : true = _ := hS
                have := hS.symm
                rw [Bool.and_eq_true, decide_eq_true_eq] at this
                exact this.1
              have hb3 := hb1 h0
              rw [if_pos rfl] at hLt hVt hsn
              refine b_MO_putBlocks_51 ⟨_, ⟨_, rfl, rfl⟩, _, ⟨_, rfl, rfl⟩, fun h => absurd h (by decide), fun _ => ?_⟩
              rw [show nI (65536 * s1.1 + s1.2) / 65536 = nI len by rw [show nI (65536 * s1.1 + s1.2) / 65536 = nI ((65536 * s1.1 + s1.2) / 65536) from pk_div (d := 65536) (by omega) (by decide) (by decide), hLt]; exact congrArg nI (by omega)]
              refine b_MO_putBlocks_63 ⟨_, _, rfl, Nat.le_of_ble_eq_true rfl, vp_in_nI (n := c) (by omega) (by decide), fun H3 e3 => ?_⟩
              try dsimp only at e3
              rw [nI_clamp (by omega)] at e3
              subst e3
              refine ⟨_, ⟨_, rfl, rfl⟩, _, ⟨_, rfl, rfl⟩, fun h => absurd h (by decide), fun _ => ?_⟩
              rw [show nI (65536 * s1.1 + s1.2) - nI (65536 * s1.1 + s1.2) / 65536 * 65536 = nI dis by rw [show nI (65536 * s1.1 + s1.2) / 65536 = nI ((65536 * s1.1 + s1.2) / 65536) from pk_div (d := 65536) (by omega) (by decide) (by decide), show nI ((65536 * s1.1 + s1.2) / 65536) * 65536 = nI ((65536 * s1.1 + s1.2) / 65536 * 65536) from nI_mul _ 65536, nI_sub (by omega), hVt]; exact congrArg nI (by omega)]
              refine b_MO_putBlocks_80 ⟨_, _, rfl, Nat.le_of_ble_eq_true rfl, vp_in_nI (n := c) (by omega) (by decide), fun H3 e3 => ?_⟩
              try dsimp only at e3
              rw [nI_clamp (by omega)] at e3
              subst e3
              refine ⟨_, ⟨_, rfl, rfl⟩, _, ⟨_, rfl, rfl⟩, _, _, rfl, vp_in_nI (n := c) (by omega) (by decide), ?_⟩
              try dsimp only
              repeat rw [nI_clamp (by omega)]
              rw [show upd pl c (nI len) c = nI len from if_pos rfl, nI_add]
              refine ⟨_, ⟨_, rfl, rfl⟩, _, rfl, Nat.le_of_ble_eq_true rfl, fun H10 e10 => ?_⟩
              rw [nI_1] at e10
              subst e10
              refine ⟨fun h => absurd h (by decide), fun _ => ?_⟩
              refine ⟨_, ⟨_, rfl, rfl⟩, ?_⟩
              refine b_MO_putBlocks_105 ⟨_, rfl, Nat.le_of_ble_eq_true rfl, fun H2 e2 => ?_⟩
              rw [nI_1] at e2
              subst e2
              subst hsn
              exact ihk
          have k51b : ∀ (bb : Bool) (v5 : Int32) (cl : Bool), bb = b → xW l x 5 0 0 mMO_putBlocks n0 (fun r H' => ∃ o, r = Sum.inl o ∧ o = none ∧ ∃ rm' A' B', mbs (E.1.1, (E.1.2 + 7) / 8 * 8) rm' ∧ H' = hM C cd T (rm', rn) (P1, P2, E.2.2.1, E.2.2.2.1) (K4 E.2.2.2.2) ((E.1.2 + 7) / 8 * 8) mb A' B' Z) cl 51 [some (.ref 74), some (.int (nI (pp T.1 T.2 p c))), some (.int 1), some (.int (nI p)), some (.int (nI (65536 * s1.1 + s1.2))), some (.int v5), none] [.int (if bb then 1 else 0)] (hM C cd T (rm, rn) (P1, P2, nb, st + scn T.1 T.2 p c) (K4 td') s.2 mb A (pl, pv, c, wt, cds, th, is, tc, bw, tdd, tnn, tcn, lu, du, ku) Z) 0 0 := by
            intro bb v5 cl h
            subst h
            exact k51 v5 cl
          have hs1b : s1.1 ≤ 258 ∧ s1.2 ≤ 4096 := by
            by_cases h : 0 < s1.1
            · exact hb1 h
            · rw [hnz (by omega)]; decide
          have hs1z : s1.1 = 0 ↔ 65536 * s1.1 + s1.2 = 0 := by
            constructor
            · intro h; rw [hnz h]; rfl
            · intro h; omega
          refine xW.fgt 4 (xW.fgt 5 (xW.fgt 6 ?_))
          refine b_MO_putBlocks_11 ⟨_, ⟨_, rfl, rfl⟩, ?_⟩
          refine ⟨fun hb => absurd ((nI_leI (a := T.2) (b := pp T.1 T.2 p c) (by omega) (by omega)).mp hb) (by omega), fun _ => ?_⟩
          refine ⟨_, ⟨_, rfl, rfl⟩, ?_⟩
          refine ⟨fun hb => absurd ((nI_leI (a := 1024) (b := c) (by omega) (by omega)).mp hb) (by omega), fun _ => ?_⟩
          refine xs_callV rfl lk_12_312 (d' := 1) (hcallA) (Nat.le_of_ble_eq_true rfl) rfl rfl rfl rfl rfl (Nat.le_of_ble_eq_true rfl) (by omega) (by omega) ?_
          rintro _ H1 ⟨rfl, rfl⟩
          refine b_MO_putBlocks_22 ?_
          refine ⟨fun hb => ?_, fun hb => ?_⟩
          · refine ⟨fun _ => ?_, fun h => absurd hb h⟩
            rw [show (0 : Int32) = nI 0 from rfl, nI_leI (by omega) (by decide)] at hb
            exact k51b false 0 _ (by rw [hS]; simp; omega)
          have hb' := hb
          rw [show (0 : Int32) = nI 0 from rfl, nI_leI (by omega) (by decide)] at hb'
          refine ⟨_, ⟨_, rfl, rfl⟩, ?_⟩
          rw [nI_1]
          refine ⟨fun hd => ?_, fun hd => ?_⟩ <;> rw [nI_leI (a := T.2) (b := pp T.1 T.2 p c + 1) (by omega) (by omega)] at hd
          · refine ⟨fun h => absurd h hb, fun _ => ?_⟩
            refine ⟨fun h => ?_, fun _ => ?_⟩
            · exfalso
              rw [show nI (65536 * s1.1 + s1.2) / 65536 = nI ((65536 * s1.1 + s1.2) / 65536) from pk_div (d := 65536) (by omega) (by decide) (by decide), show (0 : Int32) / 65536 = nI 0 from rfl, nI_ltI (by omega) (by decide)] at h
              omega
            · exact k51b true 0 _ (by have := hend hd; rw [hS]; simp; omega)
          · refine xs_callV rfl lk_12_312 (d' := 1) (hcallB) (Nat.le_of_ble_eq_true rfl) rfl rfl rfl rfl rfl (Nat.le_of_ble_eq_true rfl) (by omega) (by omega) ?_
            rintro _ H1 ⟨rfl, rfl⟩
            refine b_MO_putBlocks_36 ?_
            refine ⟨fun h => absurd h hb, fun _ => ?_⟩
            rw [show nI (65536 * s1.1 + s1.2) / 65536 = nI ((65536 * s1.1 + s1.2) / 65536) from pk_div (d := 65536) (by omega) (by decide) (by decide), show nI (65536 * s2.1 + s2.2) / 65536 = nI ((65536 * s2.1 + s2.2) / 65536) from pk_div (d := 65536) (by omega) (by decide) (by decide)]
            refine ⟨fun h => ?_, fun h => ?_⟩ <;> rw [nI_ltI (by omega) (by omega)] at h
            · exact k51b false _ _ (by rw [hS]; simp; omega)
            · exact k51b true _ _ (by rw [hS]; simp; omega)
      exact k11 (npc T.1 T.2 p) 0 pl pv none none none false (by omega) (fun i hi => absurd hi (Nat.not_lt_zero _))
  exact h 32769 (s0, 0, 0, 0, td) rm A B none true (by dsimp only; omega) hok0 hs hE
end MTape
