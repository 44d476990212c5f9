/-! the class's larger calls, and its throws -/
theorem upd_b8 {t : Nat → Nat} {k : Nat} {v : Int32} : upd (bF t) k (vp_nar .byte (v.toInt8.toInt32)) = bF (nup t k (uN8 v)) := by rw [pk_vb, ← vp_nar_byte, upd_b]
theorem uN8_xor (x y : Int32) : uN8 (x ^^^ y) = uN8 x ^^^ uN8 y := by
  unfold uN8
  rw [Int32.toBitVec_xor, BitVec.toNat_xor]
  exact Nat.xor_mod_two_pow (n := 8)
theorem xor8 {c b : Nat} (hc : c < 256) (hb : b < 256) : c ^^^ b < 256 := Nat.xor_lt_two_pow (n := 8) hc hb
/-- a call throws -/
abbrev xCx (l : Launch) (x : xX) (μ : xM) (A : List Value) (H : xH) (ci : Nat) : Prop := xCt l x 6 1 6 μ A H (fun o H' => ∃ a, o = .inr a ∧ (a = H.length ∧ H' = H ++ [.inr (ci, [])]))
section CThrow
variable {l : Launch} {x : xX} {d : Nat} {s0 : va_E} {T R : wRow} {P : wRep} {k : wPK} {u : wUN} {Z : xH}
theorem t_RP_feed (hf : l.flags = flags0) {a b c d e : Int32} (h : ¬ nI T.2 ≤ 32748) : xCx l x mRP_feed [.ref 2, .int a, .int b, .int c, .int d, .int e] (hc s0 T R P k u Z) 13 := by
  refine xCt.of (by decide) rfl ck_RP_feed (Nat.le_of_ble_eq_true rfl) rfl ?_
  refine b_RP_feed_0 ⟨_, ⟨_, rfl, rfl⟩, _, ⟨_, rfl, rfl⟩, fun h1 => absurd h1 h, fun _ => ?_⟩
  exact xs_throw hf rfl rfl rfl rfl nc_0_57 rfl rfl ta_IS (by decide) (by decide) (by decide) rfl ⟨_, rfl, rfl, rfl⟩
theorem t_RP_end (hf : l.flags = flags0) {v : Int32} (h : v < 0 ∨ ¬ v ≤ nI T.2) : xCx l x mRP_end [.ref 2, .int v] (hc s0 T R P k u Z) 14 := by
  refine xCt.of (by decide) rfl ck_RP_end (Nat.le_of_ble_eq_true rfl) rfl ?_
  refine b_RP_end_0 ⟨fun _ => ?_, fun h1 => ⟨_, ⟨_, rfl, rfl⟩, _, ⟨_, rfl, rfl⟩, fun h2 => absurd h (by rintro (h | h); exact h1 h; exact h h2), fun _ => ?_⟩⟩
  · exact xs_throw hf rfl rfl rfl rfl nc_0_63 rfl rfl ta_IA (by decide) (by decide) (by decide) rfl ⟨_, rfl, rfl, rfl⟩
  · exact xs_throw hf rfl rfl rfl rfl nc_0_63 rfl rfl ta_IA (by decide) (by decide) (by decide) rfl ⟨_, rfl, rfl, rfl⟩
theorem t_RP_again1 (hf : l.flags = flags0) {v w : Int32} (h : w < 0 ∨ v < 1 ∨ ¬ v ≤ nI T.2) : xCx l x mRP_again [.ref 2, .int v, .int w] (hc s0 T R P k u Z) 14 := by
  refine xCt.of (by decide) rfl ck_RP_again (Nat.le_of_ble_eq_true rfl) rfl ?_
  refine b_RP_again_0 ⟨fun _ => ?_, fun h1 => ⟨fun _ => ?_, fun h2 => ⟨_, ⟨_, rfl, rfl⟩, _, ⟨_, rfl, rfl⟩, fun h3 => absurd h (by rintro (h | h | h); exact h1 h; exact h2 h; exact h h3), fun _ => ?_⟩⟩⟩
  · exact xs_throw hf rfl rfl rfl rfl nc_0_63 rfl rfl ta_IA (by decide) (by decide) (by decide) rfl ⟨_, rfl, rfl, rfl⟩
  · exact xs_throw hf rfl rfl rfl rfl nc_0_63 rfl rfl ta_IA (by decide) (by decide) (by decide) rfl ⟨_, rfl, rfl, rfl⟩
  · exact xs_throw hf rfl rfl rfl rfl nc_0_63 rfl rfl ta_IA (by decide) (by decide) (by decide) rfl ⟨_, rfl, rfl, rfl⟩
theorem t_RP_again2 (hf : l.flags = flags0) {v w : Int32} (h1 : ¬ w < 0) (h2 : ¬ v < 1) (h3 : v ≤ nI T.2) (h4 : ¬ w ≤ (32768 : Int32) - nI T.2) : xCx l x mRP_again [.ref 2, .int v, .int w] (hc s0 T R P k u Z) 13 := by
  refine xCt.of (by decide) rfl ck_RP_again (Nat.le_of_ble_eq_true rfl) rfl ?_
  refine b_RP_again_0 ⟨fun h => absurd h h1, fun _ => ⟨fun h => absurd h h2, fun _ => ⟨_, ⟨_, rfl, rfl⟩, _, ⟨_, rfl, rfl⟩, fun _ => ?_, fun h => absurd h3 h⟩⟩⟩
  refine ⟨_, ⟨_, rfl, rfl⟩, _, ⟨_, rfl, rfl⟩, fun h => absurd h h4, fun _ => ?_⟩
  exact xs_throw hf rfl rfl rfl rfl nc_0_57 rfl rfl ta_IS (by decide) (by decide) (by decide) rfl ⟨_, rfl, rfl, rfl⟩
theorem t_RP_change1 (hf : l.flags = flags0) {v w : Int32} (h : v < 0 ∨ ¬ v < nI T.2) : xCx l x mRP_change [.ref 2, .int v, .int w] (hc s0 T R P k u Z) 15 := by
  refine xCt.of (by decide) rfl ck_RP_change (Nat.le_of_ble_eq_true rfl) rfl ?_
  refine b_RP_change_0 ⟨fun _ => ?_, fun h1 => ⟨_, ⟨_, rfl, rfl⟩, _, ⟨_, rfl, rfl⟩, fun h2 => absurd h (by rintro (h | h); exact h1 h; exact h h2), fun _ => ?_⟩⟩
  · exact xs_throw hf rfl rfl rfl rfl nc_0_70 rfl rfl ta_IO (by decide) (by decide) (by decide) rfl ⟨_, rfl, rfl, rfl⟩
  · exact xs_throw hf rfl rfl rfl rfl nc_0_70 rfl rfl ta_IO (by decide) (by decide) (by decide) rfl ⟨_, rfl, rfl, rfl⟩
theorem t_RP_change2 (hf : l.flags = flags0) {v w : Int32} (h1 : ¬ v < 0) (h2 : v < nI T.2) (h : w < 0 ∨ ¬ w ≤ 255) : xCx l x mRP_change [.ref 2, .int v, .int w] (hc s0 T R P k u Z) 14 := by
  refine xCt.of (by decide) rfl ck_RP_change (Nat.le_of_ble_eq_true rfl) rfl ?_
  refine b_RP_change_0 ⟨fun h => absurd h h1, fun _ => ⟨_, ⟨_, rfl, rfl⟩, _, ⟨_, rfl, rfl⟩, fun _ => ⟨fun _ => ?_, fun h3 => ⟨fun h4 => absurd h (by rintro (h | h); exact h3 h; exact h h4), fun _ => ?_⟩⟩, fun h => absurd h2 h⟩⟩
  · exact xs_throw hf rfl rfl rfl rfl nc_0_63 rfl rfl ta_IA (by decide) (by decide) (by decide) rfl ⟨_, rfl, rfl, rfl⟩
  · exact xs_throw hf rfl rfl rfl rfl nc_0_63 rfl rfl ta_IA (by decide) (by decide) (by decide) rfl ⟨_, rfl, rfl, rfl⟩
theorem t_RP_pack (hf : l.flags = flags0) {v : Int32} (h : v < 0 ∨ ¬ v ≤ 2) : xCx l x mRP_pack [.ref 2, .int v] (hc s0 T R P k u Z) 14 := by
  refine xCt.of (by decide) rfl ck_RP_pack (Nat.le_of_ble_eq_true rfl) rfl ?_
  refine b_RP_pack_0 ⟨fun _ => ?_, fun h1 => ⟨fun h2 => absurd h (by rintro (h | h); exact h1 h; exact h h2), fun _ => ?_⟩⟩
  · exact xs_throw hf rfl rfl rfl rfl nc_0_63 rfl rfl ta_IA (by decide) (by decide) (by decide) rfl ⟨_, rfl, rfl, rfl⟩
  · exact xs_throw hf rfl rfl rfl rfl nc_0_63 rfl rfl ta_IA (by decide) (by decide) (by decide) rfl ⟨_, rfl, rfl, rfl⟩
theorem t_RP_unpack (hf : l.flags = flags0) {v : Int32} (h : v < 0 ∨ ¬ v ≤ 2) : xCx l x mRP_unpack [.ref 2, .int v] (hc s0 T R P k u Z) 14 := by
  refine xCt.of (by decide) rfl ck_RP_unpack (Nat.le_of_ble_eq_true rfl) rfl ?_
  refine b_RP_unpack_0 ⟨fun _ => ?_, fun h1 => ⟨fun h2 => absurd h (by rintro (h | h); exact h1 h; exact h h2), fun _ => ?_⟩⟩
  · exact xs_throw hf rfl rfl rfl rfl nc_0_63 rfl rfl ta_IA (by decide) (by decide) (by decide) rfl ⟨_, rfl, rfl, rfl⟩
  · exact xs_throw hf rfl rfl rfl rfl nc_0_63 rfl rfl ta_IA (by decide) (by decide) (by decide) rfl ⟨_, rfl, rfl, rfl⟩
theorem t_RP_out (hf : l.flags = flags0) {v : Int32} (h : v < 0 ∨ ¬ v < nI R.2) : xCx l x mRP_out [.ref 2, .int v] (hc s0 T R P k u Z) 15 := by
  refine xCt.of (by decide) rfl ck_RP_out (Nat.le_of_ble_eq_true rfl) rfl ?_
  refine b_RP_out_0 ⟨fun _ => ?_, fun h1 => ⟨_, ⟨_, rfl, rfl⟩, _, ⟨_, rfl, rfl⟩, fun h2 => absurd h (by rintro (h | h); exact h1 h; exact h h2), fun _ => ?_⟩⟩
  · exact xs_throw hf rfl rfl rfl rfl nc_0_70 rfl rfl ta_IO (by decide) (by decide) (by decide) rfl ⟨_, rfl, rfl, rfl⟩
  · exact xs_throw hf rfl rfl rfl rfl nc_0_70 rfl rfl ta_IO (by decide) (by decide) (by decide) rfl ⟨_, rfl, rfl, rfl⟩
theorem t_RP_turn (hf : l.flags = flags0) (h : ¬ nI R.2 ≤ 32768) : xCx l x mRP_turn [.ref 2] (hc s0 T R P k u Z) 13 := by
  refine xCt.of (by decide) rfl ck_RP_turn (Nat.le_of_ble_eq_true rfl) rfl ?_
  refine b_RP_turn_0 ⟨_, ⟨_, rfl, rfl⟩, _, ⟨_, rfl, rfl⟩, fun h1 => absurd h1 h, fun _ => ?_⟩
  exact xs_throw hf rfl rfl rfl rfl nc_0_57 rfl rfl ta_IS (by decide) (by decide) (by decide) rfl ⟨_, rfl, rfl, rfl⟩
theorem t_RP_sum (hf : l.flags = flags0) {v : Int32} (h : v < 0 ∨ ¬ v ≤ 1) : xCx l x mRP_sum [.ref 2, .int v] (hc s0 T R P k u Z) 14 := by
  refine xCt.of (by decide) rfl ck_RP_sum (Nat.le_of_ble_eq_true rfl) rfl ?_
  refine b_RP_sum_0 ⟨fun _ => ?_, fun h1 => ⟨fun h2 => absurd h (by rintro (h | h); exact h1 h; exact h h2), fun _ => ?_⟩⟩
  · exact xs_throw hf rfl rfl rfl rfl nc_0_63 rfl rfl ta_IA (by decide) (by decide) (by decide) rfl ⟨_, rfl, rfl, rfl⟩
  · exact xs_throw hf rfl rfl rfl rfl nc_0_63 rfl rfl ta_IA (by decide) (by decide) (by decide) rfl ⟨_, rfl, rfl, rfl⟩
theorem t_RP_block1 (hf : l.flags = flags0) {v w : Int32} (h : v < 0 ∨ nI P.2.2.1 ≤ v ∨ ¬ v < 64) : xCx l x mRP_block [.ref 2, .int v, .int w] (hc s0 T R P k u Z) 15 := by
  refine xCt.of (by decide) rfl ck_RP_block (Nat.le_of_ble_eq_true rfl) rfl ?_
  refine b_RP_block_0 ⟨fun _ => ?_, fun h1 => ⟨_, ⟨_, rfl, rfl⟩, _, ⟨_, rfl, rfl⟩, fun _ => ?_, fun h2 => ⟨fun h3 => absurd h (by rintro (h | h | h); exact h1 h; exact h2 h; exact h h3), fun _ => ?_⟩⟩⟩
  · exact xs_throw hf rfl rfl rfl rfl nc_0_70 rfl rfl ta_IO (by decide) (by decide) (by decide) rfl ⟨_, rfl, rfl, rfl⟩
  · exact xs_throw hf rfl rfl rfl rfl nc_0_70 rfl rfl ta_IO (by decide) (by decide) (by decide) rfl ⟨_, rfl, rfl, rfl⟩
  · exact xs_throw hf rfl rfl rfl rfl nc_0_70 rfl rfl ta_IO (by decide) (by decide) (by decide) rfl ⟨_, rfl, rfl, rfl⟩
theorem t_RP_block2 (hf : l.flags = flags0) {v w : Int32} (h1 : ¬ v < 0) (h2 : ¬ nI P.2.2.1 ≤ v) (h3 : v < 64) (h : w < 0 ∨ ¬ w < 4) : xCx l x mRP_block [.ref 2, .int v, .int w] (hc s0 T R P k u Z) 14 := by
  refine xCt.of (by decide) rfl ck_RP_block (Nat.le_of_ble_eq_true rfl) rfl ?_
  refine b_RP_block_0 ⟨fun h => absurd h h1, fun _ => ⟨_, ⟨_, rfl, rfl⟩, _, ⟨_, rfl, rfl⟩, fun h => absurd h h2, fun _ => ⟨fun _ => ?_, fun h => absurd h3 h⟩⟩⟩
  refine ⟨fun _ => ?_, fun h4 => ⟨fun h5 => absurd h (by rintro (h | h); exact h4 h; exact h h5), fun _ => ?_⟩⟩
  · exact xs_throw hf rfl rfl rfl rfl nc_0_63 rfl rfl ta_IA (by decide) (by decide) (by decide) rfl ⟨_, rfl, rfl, rfl⟩
  · exact xs_throw hf rfl rfl rfl rfl nc_0_63 rfl rfl ta_IA (by decide) (by decide) (by decide) rfl ⟨_, rfl, rfl, rfl⟩
theorem c_RP_again {b m : Nat} (hb : 1 ≤ b) (hb2 : b ≤ T.2) (hm : T.2 + m ≤ 32768) : xCr l x 1 0 0 mRP_again [.ref 2, .int (nI b), .int (nI m)] (hc s0 T R P k u Z) (fun o H' => o = some (.int (nI (T.2 + m))) ∧ H' = hc s0 (repN T.1 T.2 b m, T.2 + m) R P k u Z) := by
  refine xCt.of (by decide) rfl ck_RP_again (Nat.le_of_ble_eq_true rfl) rfl ?_
  refine b_RP_again_0 ⟨fun h => absurd h (nI_pos (by omega)), fun _ => ⟨fun h => absurd ((nI_ltI (a := b) (b := 1) (by omega) (by decide)).mp h) (by omega), fun _ => ⟨_, ⟨_, rfl, rfl⟩, _, ⟨_, rfl, rfl⟩, fun _ => ?_, fun h => absurd ((nI_leI (by omega) (by omega)).mpr hb2) h⟩⟩⟩
  refine ⟨_, ⟨_, rfl, rfl⟩, _, ⟨_, rfl, rfl⟩, fun _ => ?_, fun h => absurd (by rw [show (32768 : Int32) - nI T.2 = nI (32768 - T.2) from pk_sub (a := 32768) (by omega), nI_leI (by omega) (by omega)]; omega) h⟩
  refine ⟨_, ⟨_, rfl, rfl⟩, ?_⟩
  refine xs_callV rfl lk_0_66 (d' := 0) (c_RO_repeat (r := 3) (ra := 4) (n := T.2) (N := 32768) (f := T.1) (back := b) (times := m) (by decide) hb hb2 hm rfl rfl) (Nat.le_of_ble_eq_true rfl) rfl rfl rfl rfl rfl (Nat.le_of_ble_eq_true rfl) (by omega) (by omega) ?_
  rintro _ H1 ⟨rfl, rfl⟩
  refine b_RP_again_30 ⟨_, ⟨_, rfl, rfl⟩, _, ⟨_, rfl, rfl⟩, ?_⟩
  refine ⟨rfl, Nat.le_refl _, _, rfl, ⟨rfl, rfl⟩⟩
theorem c_RP_change (hT : ∀ i, T.1 i < 256) {i b : Nat} (hi : i < T.2) (hn : T.2 ≤ 32768) (hb : b < 256) : xCr l x 1 0 0 mRP_change [.ref 2, .int (nI i), .int (nI b)] (hc s0 T R P k u Z) (fun o H' => o = some (.int (nI (T.1 i ^^^ b))) ∧ H' = hc s0 (nup T.1 i (T.1 i ^^^ b), T.2) R P k u Z) := by
  refine xCt.of (by decide) rfl ck_RP_change (Nat.le_of_ble_eq_true rfl) rfl ?_
  refine b_RP_change_0 ⟨fun h => absurd h (nI_pos (by omega)), fun _ => ⟨_, ⟨_, rfl, rfl⟩, _, ⟨_, rfl, rfl⟩, fun _ => ?_, fun h => absurd ((nI_ltI (by omega) (by omega)).mpr hi) h⟩⟩
  refine ⟨fun h => absurd h (nI_pos (by omega)), fun _ => ⟨fun _ => ?_, fun h => absurd ((nI_leI (a := b) (b := 255) (by omega) (by decide)).mpr (by omega)) h⟩⟩
  refine ⟨_, ⟨_, rfl, rfl⟩, _, ⟨_, rfl, rfl⟩, _, ⟨_, rfl, rfl⟩, _, ⟨_, rfl, rfl⟩, _, _, rfl, vp_in_nI (n := i) (by omega) (by decide), _, _, rfl, vp_in_nI (n := i) (by omega) (by decide), fun H11 e11 => ?_⟩
  rw [nI_clamp (by omega), upd_b8, uN8_xor, uN8_sb _ (hT _), uN8_nI hb] at e11
  have e12 : H11 = hc s0 (nup T.1 i (T.1 i ^^^ b), T.2) R P k u Z := e11
  subst e12
  refine ⟨_, ⟨_, rfl, rfl⟩, ?_⟩
  refine xs_callV rfl lk_0_77 (d' := 0) (c_RO_byteAt (r := 3) (a := 4) (N := 32768) (t := nup T.1 i (T.1 i ^^^ b)) (n := i) rfl rfl (fun j => by unfold nup; split; exact xor8 (hT _) hb; exact hT j) (by omega) (by decide)) (Nat.le_of_ble_eq_true rfl) rfl rfl rfl rfl rfl (Nat.le_of_ble_eq_true rfl) (by omega) (by omega) ?_
  rintro _ H1 ⟨rfl, rfl⟩
  refine b_RP_change_37 ?_
  refine ⟨rfl, Nat.le_refl _, _, rfl, ⟨by unfold nup; rw [if_pos rfl], rfl⟩⟩
theorem c_RP_pack (hT : ∀ i, T.1 i < 256) (hn : T.2 ≤ 32768) {w : Nat} (hw : w ≤ 2) (hR : ∀ i, R.1 i < 256) {fa pl : Int32} {bl st : Nat} {td : Nat → Nat} (hk : PKst k) : xCr l x 6 0 0 mRP_pack [.ref 2, .int (nI w)] (hc s0 T R (fa, pl, bl, st, nF td) k u Z) (fun o H' => o = some (.int (nI ((pkS T w td).2 / 8))) ∧ ∃ rb k', PKst k' ∧ cbs (pkS T w td) rb ∧ H' = hc s0 T (rb, (pkS T w td).2 / 8) (0, -1, (pkB T w td).2.2.1, (pkB T w td).2.2.2.1, nF (pkB T w td).2.2.2.2) k' u Z) := by
  refine xCt.of (by decide) rfl ck_RP_pack (Nat.le_of_ble_eq_true rfl) rfl ?_
  refine b_RP_pack_0 ⟨fun h => absurd h (nI_pos (by omega)), fun _ => ⟨fun _ => ?_, fun h => absurd ((nI_leI (a := w) (b := 2) (by omega) (by decide)).mpr hw) h⟩⟩
  refine ⟨_, ⟨_, rfl, rfl⟩, ?_⟩
  refine xs_callV rfl lk_0_81 (d' := 5) (c_PK_packTape (T := T) (td := td) hT hn hw hR hk) (Nat.le_of_ble_eq_true rfl) rfl rfl rfl rfl rfl (Nat.le_of_ble_eq_true rfl) (by omega) (by omega) ?_
  rintro _ H1 ⟨rfl, rb, k', hk', hcb, rfl⟩
  refine b_RP_pack_13 ⟨_, ⟨_, rfl, rfl⟩, _, ⟨_, rfl, rfl⟩, ?_⟩
  refine ⟨rfl, Nat.le_refl _, _, rfl, ⟨rfl, rb, k', hk', hcb, rfl⟩⟩
end CThrow
