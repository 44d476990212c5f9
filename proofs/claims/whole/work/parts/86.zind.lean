/-! unpacking does not look at what lay in the result before -/
theorem repN_agr {f g : Nat → Nat} {n back : Nat} (h : agr n f g) (hb : 1 ≤ back) (hn : back ≤ n) : ∀ j, agr (n + j) (repN f n back j) (repN g n back j) := by
  intro j
  induction j with
  | zero => exact h
  | succ j ih =>
    unfold repN
    rw [ih (n + j - back) (by omega)]
    exact ih.up
theorem cpyN_agr {t f g : Nat → Nat} {sp n m : Nat} (h : agr n f g) : agr (n + m) (cpyN t f sp n m) (cpyN t g sp n m) := by
  intro i hi
  unfold cpyN
  by_cases h1 : n ≤ i ∧ i < n + m
  · rw [if_pos h1, if_pos h1]
  · rw [if_neg h1, if_neg h1]; exact h i (by omega)
def smS (z z' : zS) : Prop := (∃ q, z = .inl q ∧ z' = .inl q) ∨ ∃ a f g n st, z = .inr (a, f, n, st) ∧ z' = .inr (a, g, n, st) ∧ agr n f g
theorem smS.l (q : Nat × Nat × Nat) : smS (.inl q) (.inl q) := Or.inl ⟨q, rfl, rfl⟩
theorem smS.i {c : Prop} [Decidable c] {a b a' b' : zS} (h1 : smS a a') (h2 : ¬ c → smS b b') : smS (if c then a else b) (if c then a' else b') := by
  by_cases h : c
  · rw [if_pos h, if_pos h]; exact h1
  · rw [if_neg h, if_neg h]; exact h2 h
theorem zstr_sm {t : Nat → Nat} {e mb : Nat} {gD : Nat → Nat} {nD y a0 a n st : Nat} {f g : Nat → Nat} (h : agr n f g) : smS (zstr t e mb gD nD y a0 (a, f, n, st)) (zstr t e mb gD nD y a0 (a, g, n, st)) := by
  unfold zstr
  dsimp only
  refine smS.i (smS.l _) fun _ => smS.i (smS.l _) fun _ => ?_
  generalize zs t e gD nD (a + lbts (y - 257)) = z
  rcases z with ⟨p, q⟩ | ⟨j, b⟩
  · exact smS.l _
  dsimp only
  refine smS.i (smS.l _) fun hj => smS.i (smS.l _) fun _ => smS.i (smS.l _) fun hd => smS.i (smS.l _) fun _ => ?_
  have hp : 1 ≤ dbas j := by unfold dbas; split <;> omega
  exact Or.inr ⟨_, _, _, _, _, rfl, rfl, repN_agr h (by omega) (by omega) _⟩
theorem zsyms_sm {t : Nat → Nat} {e mb : Nat} {gL gD : Nat → Nat} {nL nD : Nat} : ∀ m a f g n st, agr n f g → smS (zsyms t e mb gL nL gD nD m (a, f, n, st)) (zsyms t e mb gL nL gD nD m (a, g, n, st)) := by
  intro m
  induction m with
  | zero => intro a f g n st h; exact smS.l _
  | succ m ih =>
    intro a f g n st h
    unfold zsyms
    dsimp only
    generalize zs t e gL nL a = z
    rcases z with ⟨p, q⟩ | ⟨y, b⟩
    · exact smS.l _
    dsimp only
    refine smS.i (Or.inr ⟨_, _, _, _, _, rfl, rfl, h⟩) fun _ => ?_
    refine smS.i ?_ fun _ => smS.i (smS.l _) fun _ => ih _ _ _ _ _ h.up
    rcases zstr_sm (t := t) (e := e) (mb := mb) (gD := gD) (nD := nD) (y := y) (a0 := a) (a := b) (st := st) h with ⟨q, e1, e2⟩ | ⟨a', f', g', n', st', e1, e2, h'⟩
    · rw [e1, e2]; exact smS.l _
    · rw [e1, e2]; exact ih _ _ _ _ _ h'
theorem zbody_sm {t : Nat → Nat} {e mb kd a n st : Nat} {f g : Nat → Nat} (h : agr n f g) : smS (zbody t e mb kd (a, f, n, st)) (zbody t e mb kd (a, g, n, st)) := by
  unfold zbody
  dsimp only
  refine smS.i ?_ fun _ => smS.i (zsyms_sm _ _ _ _ _ _ h) fun _ => ?_
  · unfold zplain
    by_cases h1 : e < (a + 7) / 8 * 8 + 32
    · rw [if_pos h1, if_pos h1]; exact smS.l _
    rw [if_neg h1, if_neg h1]
    by_cases h2 : rdn t ((a + 7) / 8 * 8 + 16) 16 ≠ 65535 - rdn t ((a + 7) / 8 * 8) 16
    · rw [if_pos h2, if_pos h2]; exact smS.l _
    rw [if_neg h2, if_neg h2]
    by_cases h3 : 65536 - n < rdn t ((a + 7) / 8 * 8) 16
    · rw [if_pos h3, if_pos h3]; exact smS.l _
    rw [if_neg h3, if_neg h3]
    by_cases h4 : e < (a + 7) / 8 * 8 + 32 + 8 * rdn t ((a + 7) / 8 * 8) 16
    · rw [if_pos h4, if_pos h4]; exact smS.l _
    rw [if_neg h4, if_neg h4]
    exact Or.inr ⟨_, _, _, _, _, rfl, rfl, cpyN_agr h⟩
  · generalize zcodes t e a = z
    rcases z with ⟨p, q⟩ | ⟨row, nL, nD, a'⟩
    · exact smS.l _
    exact zsyms_sm _ _ _ _ _ _ h
def smB (z z' : zB) : Prop := (∃ q, z = .inl q ∧ z' = .inl q) ∨ ∃ a f g n r, z = .inr (a, f, n, r) ∧ z' = .inr (a, g, n, r) ∧ agr n f g
theorem smB.l (q : Nat × Nat × Nat × Nat × (Nat → Nat)) : smB (.inl q) (.inl q) := Or.inl ⟨q, rfl, rfl⟩
theorem smB.i {c : Prop} [Decidable c] {a b a' b' : zB} (h1 : smB a a') (h2 : ¬ c → smB b b') : smB (if c then a else b) (if c then a' else b') := by
  by_cases h : c
  · rw [if_pos h, if_pos h]; exact h1
  · rw [if_neg h, if_neg h]; exact h2 h
theorem zblocks_sm {t : Nat → Nat} {e mb : Nat} : ∀ m a f g n r, agr n f g → smB (zblocks t e mb m (a, f, n, r)) (zblocks t e mb m (a, g, n, r)) := by
  intro m
  induction m with
  | zero => intro a f g n r h; exact Or.inr ⟨_, _, _, _, _, rfl, rfl, h⟩
  | succ m ih =>
    intro a f g n r h
    unfold zblocks
    dsimp only
    refine smB.i (smB.l _) fun _ => smB.i (smB.l _) fun _ => ?_
    rcases zbody_sm (t := t) (e := e) (mb := mb) (kd := rdn t (a + 1) 2) (a := a + 3) (st := r.2.1) h with ⟨q, e1, e2⟩ | ⟨a', f', g', n', st', e1, e2, h'⟩
    · rw [e1, e2]; exact smB.l _
    · rw [e1, e2]; exact smB.i (Or.inr ⟨_, _, _, _, _, rfl, rfl, h'⟩) fun _ => ih _ _ _ _ _ h'
theorem zmem_sm {t : Nat → Nat} {e w : Nat} : ∀ m a f g n r, agr n f g → smB (zmem t e w m (a, f, n, r)) (zmem t e w m (a, g, n, r)) := by
  intro m
  induction m with
  | zero => intro a f g n r h; exact Or.inr ⟨_, _, _, _, _, rfl, rfl, h⟩
  | succ m ih =>
    intro a f g n r h
    unfold zmem
    dsimp only
    generalize zhead t e w a = z
    rcases z with ⟨p, q⟩ | a1
    · exact smB.l _
    dsimp only
    rcases zblocks_sm (t := t) (e := e) (mb := n) 262144 a1 f g n r h with ⟨q, e1, e2⟩ | ⟨a', f', g', n', r', e1, e2, h'⟩
    · rw [e1, e2]; exact smB.l _
    rw [e1, e2]
    dsimp only
    have et : ztail t e w f' n' n ((a' + 7) / 8 * 8) = ztail t e w g' n' n ((a' + 7) / 8 * 8) := by unfold ztail; rw [agr_adl h', agr_crc h']
    rw [et]
    generalize ztail t e w g' n' n ((a' + 7) / 8 * 8) = z
    rcases z with ⟨p, q⟩ | a4
    · exact smB.l _
    exact smB.i (ih _ _ _ _ _ h') fun _ => Or.inr ⟨_, _, _, _, _, rfl, rfl, h'⟩
theorem zun_sm {t : Nat → Nat} {e w : Nat} {td f g : Nat → Nat} : smB (zun t e w f td) (zun t e w g td) := by
  unfold zun
  rcases zmem_sm (t := t) (e := e) (w := w) 32768 0 f g 0 (0, 0, td) (fun i hi => absurd hi (Nat.not_lt_zero i)) with ⟨q, e1, e2⟩ | ⟨a', f', g', n', r', e1, e2, h'⟩
  · rw [e1, e2]; exact smB.l _
  rw [e1, e2]
  exact smB.i (smB.l _) fun _ => Or.inr ⟨_, _, _, _, _, rfl, rfl, h'⟩
theorem fK_zun {t : Nat → Nat} {e w : Nat} {rb td : Nat → Nat} : fK (zun t e w rb td) := by
  unfold zun
  have h := fK_zmem (t := t) (e := e) (w := w) 32768 (0, rb, 0, 0, 0, td)
  generalize zmem t e w 32768 (0, rb, 0, 0, 0, td) = z at h
  rcases z with q | s
  · exact fun q' hq => by cases hq; exact h _ rfl
  · exact fK_i (fK_l (by decide) (by decide)) fK_r
/-- how many blocks, at most -/
def bK (e : Nat) (z : zB) : Prop := match z with
  | .inl q => q.2.2.1 ≤ e
  | .inr s => s.2.2.2.1 ≤ e ∧ s.2.2.1 ≤ 65536 ∧ ∀ i, s.2.1 i < 256
theorem zblocks_bl {t : Nat → Nat} (ht : ∀ i, t i < 256) {e mb : Nat} {q : Nat × Nat × Nat × Nat × (Nat → Nat)} : ∀ m s, bOK e mb s → zblocks t e mb m s = .inl q → q.2.2.1 ≤ e := by
  intro m
  induction m with
  | zero => intro s hs h; cases h
  | succ m ih =>
    intro s hs h
    have hs' := hs
    obtain ⟨h1, h2, h3, h4, h5⟩ := hs
    unfold zblocks at h
    split at h
    · cases h; exact Nat.le_trans h5 h1
    rename_i he
    split at h
    · cases h; exact Nat.le_trans h5 h1
    split at h
    · cases h; exact Nat.le_trans h5 h1
    rename_i a' rb' rn' st' hz
    split at h
    · cases h
    have := zbody_ok ht (s := (s.1 + 3, s.2.1, s.2.2.1, s.2.2.2.2.1)) ⟨by dsimp only; omega, h2, h3, h4⟩ hz
    obtain ⟨⟨g1, g2, g3, g4⟩, g5⟩ := this
    dsimp only at g1 g2 g3 g4 g5
    exact ih _ ⟨g1, g2, g3, g4, by dsimp only; omega⟩ h
theorem zmem_bl {t : Nat → Nat} (ht : ∀ i, t i < 256) {e w : Nat} (he : e % 8 = 0) : ∀ m s, bOK e 0 s → bK e (zmem t e w m s) := by
  intro m
  induction m with
  | zero => intro s hs; exact ⟨Nat.le_trans hs.2.2.2.2 hs.1, hs.2.1, hs.2.2.2.1⟩
  | succ m ih =>
    intro s hs
    unfold zmem
    obtain ⟨h1, h2, h3, h4, h5⟩ := hs
    cases hz : zhead t e w s.1 with
    | inl q => exact Nat.le_trans h5 h1
    | inr a1 =>
      have hh := zhead_le he h1 hz
      have hbk : bOK e s.2.2.1 (a1, s.2) := ⟨hh.2, h2, Nat.le_refl _, h4, Nat.le_trans h5 hh.1⟩
      dsimp only
      cases hb : zblocks t e s.2.2.1 262144 (a1, s.2) with
      | inl q => exact zblocks_bl ht _ _ hbk hb
      | inr s2 =>
        obtain ⟨⟨g1, g2, g3, g4, g5⟩, g6⟩ := zblocks_ok ht _ _ hbk hb
        dsimp only
        cases hy : ztail t e w s2.2.1 s2.2.2.1 s.2.2.1 ((s2.1 + 7) / 8 * 8) with
        | inl q => exact Nat.le_trans g5 g1
        | inr a4 =>
          have ht4 := ztail_le (by omega) hy
          dsimp only
          split
          · exact ih _ ⟨ht4.2.1, g2, Nat.zero_le _, g4, by dsimp only; omega⟩
          · exact ⟨Nat.le_trans g5 g1, g2, g4⟩
theorem zun_bl {t : Nat → Nat} (ht : ∀ i, t i < 256) {e w : Nat} (he : e % 8 = 0) {rb td : Nat → Nat} (hr : ∀ i, rb i < 256) : bK e (zun t e w rb td) := by
  unfold zun
  have h := zmem_bl ht (e := e) (w := w) he 32768 (0, rb, 0, 0, 0, td) ⟨Nat.zero_le _, Nat.zero_le _, Nat.zero_le _, hr, Nat.zero_le _⟩
  generalize zmem t e w 32768 (0, rb, 0, 0, 0, td) = z at h
  rcases z with q | s
  · exact h
  · dsimp only
    split
    · exact h.1
    · exact h
section CUnp
variable {l : Launch} {x : xX} {d : Nat} {s0 : va_E} {T R : wRow} {k : wPK} {u : wUN} {Z : xH}
theorem c_RP_unpack (hT : ∀ i, T.1 i < 256) (hn : T.2 ≤ 32768) (hc1 : rcOK u.2.2.2.1 flen 288) (hc2 : rcOK u.2.2.2.2.1 (fun _ => 5) 32) {w : Nat} (hw : w ≤ 2) (hR : ∀ i, R.1 i < 256) {fa pl : Int32} {bl st : Nat} {td : Nat → Nat} : xCr l x 6 0 0 mRP_unpack [.ref 2, .int (nI w)] (hc s0 T R (fa, pl, bl, st, nF td) k u Z) (fun o H' => (∃ f p bl st td' rb' u', zun T.1 (8 * T.2) w R.1 td = .inl (f, p, bl, st, td') ∧ (∀ i, rb' i < 256) ∧ u'.2.2.2.1 = u.2.2.2.1 ∧ u'.2.2.2.2.1 = u.2.2.2.2.1 ∧ o = some (.int (-1)) ∧ H' = hc s0 T (rb', 0) (nI f, nI p, bl, st, nF td') k u' Z) ∨ ∃ s u', zun T.1 (8 * T.2) w R.1 td = .inr s ∧ u'.2.2.2.1 = u.2.2.2.1 ∧ u'.2.2.2.2.1 = u.2.2.2.2.1 ∧ (∀ i, s.2.1 i < 256) ∧ s.2.2.1 ≤ 65536 ∧ o = some (.int (nI s.2.2.1)) ∧ H' = hc s0 T (s.2.1, s.2.2.1) (0, -1, s.2.2.2.1, s.2.2.2.2.1, nF s.2.2.2.2.2) k u' Z) := by
  have hK := fK_zun (t := T.1) (e := 8 * T.2) (w := w) (rb := R.1) (td := td)
  refine xCt.of (by decide) rfl ck_RP_unpack (Nat.le_of_ble_eq_true rfl) rfl ?_
  refine b_RP_unpack_0 ⟨fun h => absurd h (nI_pos (by omega)), fun _ => ⟨fun _ => ?_, fun h => absurd ((nI_leI (a := w) (b := 2) (by omega) (by decide)).mpr hw) h⟩⟩
  refine ⟨_, ⟨_, rfl, rfl⟩, ?_⟩
  refine xs_callV rfl lk_0_84 (d' := 5) (c_UN_unpackTape (T := T) (td := td) hT hn hc1 hc2 hw hR) (Nat.le_of_ble_eq_true rfl) rfl rfl rfl rfl rfl (Nat.le_of_ble_eq_true rfl) (by omega) (by omega) ?_
  rintro _ H1 ⟨rfl, (⟨f, p, bl, st, td', rb', u', hz, h1, h2, h3, h4, rfl⟩ | ⟨s, u', hz, h2, h3, h4, h5, h6, rfl⟩)⟩
  · have hF := hK _ hz
    refine b_RP_unpack_13 ⟨_, ⟨_, rfl, rfl⟩, _, ⟨_, rfl, rfl⟩, fun _ => ?_, fun h => absurd h (nI_ne hF.1 hF.2)⟩
    refine ⟨rfl, Nat.le_refl _, _, rfl, Or.inl ⟨f, p, bl, st, td', rb', u', hz, h1, h2, h3, rfl, rfl⟩⟩
  · refine b_RP_unpack_13 ⟨_, ⟨_, rfl, rfl⟩, _, ⟨_, rfl, rfl⟩, fun h => absurd rfl h, fun _ => ⟨_, ⟨_, rfl, rfl⟩, _, ⟨_, rfl, rfl⟩, ?_⟩⟩
    refine ⟨rfl, Nat.le_refl _, _, rfl, Or.inr ⟨s, u', hz, h2, h3, h5, h6, rfl, rfl⟩⟩
end CUnp
