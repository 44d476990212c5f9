/-! blocks and members: at, bytes, how many, blocks, stretches, told -/
abbrev bS : Type := Nat × (Nat → Nat) × Nat × Nat × Nat × (Nat → Nat)
abbrev zB : Type := (Nat × Nat × Nat × Nat × (Nat → Nat)) ⊕ bS
def flen (i : Nat) : Nat := if i < 144 then 8 else if i < 256 then 9 else if i < 280 then 7 else 8
noncomputable def zbody (t : Nat → Nat) (e mb kd : Nat) (s : sS) : zS :=
  if kd = 0 then (match zplain t e s.1 s.2.1 s.2.2.1 with
    | .inl (f, p) => .inl (f, p, s.2.2.2)
    | .inr (a', rb', rn') => .inr (a', rb', rn', s.2.2.2))
  else if kd = 1 then zsyms t e mb flen 288 (fun _ => 5) 32 262144 s
  else (match zcodes t e s.1 with
    | .inl (f, p) => .inl (f, p, s.2.2.2)
    | .inr (row, nL, nD, a') => zsyms t e mb row nL (fun i => row (nL + i)) nD 262144 (a', s.2))
noncomputable def zblocks (t : Nat → Nat) (e mb : Nat) : Nat → bS → zB
  | 0, s => .inr s
  | m + 1, s => if e < s.1 + 3 then .inl (1, e, s.2.2.2) else if rdn t (s.1 + 1) 2 = 3 then .inl (2, s.1 + 1, s.2.2.2) else
    match zbody t e mb (rdn t (s.1 + 1) 2) (s.1 + 3, s.2.1, s.2.2.1, s.2.2.2.2.1) with
    | .inl (f, p, st') => .inl (f, p, s.2.2.2.1, st', s.2.2.2.2.2)
    | .inr (a', rb', rn', st') => if rdn t s.1 1 = 1 then .inr (a', rb', rn', s.2.2.2.1 + 1, st', noteT s.2.2.2.2.2 s.2.2.2.1 (rdn t (s.1 + 1) 2) s.1 (a' - s.1) (rn' - s.2.2.1))
      else zblocks t e mb m (a', rb', rn', s.2.2.2.1 + 1, st', noteT s.2.2.2.2.2 s.2.2.2.1 (rdn t (s.1 + 1) 2) s.1 (a' - s.1) (rn' - s.2.2.1))
noncomputable def zmem (t : Nat → Nat) (e w : Nat) : Nat → bS → zB
  | 0, s => .inr s
  | m + 1, s => match zhead t e w s.1 with
    | .inl (f, p) => .inl (f, p, s.2.2.2)
    | .inr a1 => match zblocks t e s.2.2.1 262144 (a1, s.2) with
      | .inl q => .inl q
      | .inr s2 => match ztail t e w s2.2.1 s2.2.2.1 s.2.2.1 ((s2.1 + 7) / 8 * 8) with
        | .inl (f, p) => .inl (f, p, s2.2.2.2)
        | .inr a4 => if w = 2 ∧ a4 < e then zmem t e w m (a4, s2.2) else .inr (a4, s2.2)
noncomputable def zun (t : Nat → Nat) (e w : Nat) (rb td : Nat → Nat) : zB := match zmem t e w 32768 (0, rb, 0, 0, 0, td) with
  | .inl q => .inl q
  | .inr s => if s.1 < e then .inl (11, s.1, s.2.2.2) else .inr s
def bOK (e mb : Nat) (s : bS) : Prop := s.1 ≤ e ∧ s.2.2.1 ≤ 65536 ∧ mb ≤ s.2.2.1 ∧ (∀ i, s.2.1 i < 256) ∧ s.2.2.2.1 ≤ s.1
theorem zcol_le {t : Nat → Nat} {e a b : Nat} {g : Nat → Nat} (h : zcol t e a = .inr (g, b)) : a ≤ b ∧ b ≤ e := by
  unfold zcol at h
  split at h
  · cases h
  split at h
  · cases h
  split at h
  · cases h; exact ⟨by omega, by omega⟩
  · cases h
theorem zrl_le {t : Nat → Nat} {e : Nat} {g : Nat → Nat} {due b : Nat} {row' : Nat → Nat} : ∀ m many row a, a ≤ e → zrl t e g due m many row a = .inr (row', b) → a ≤ b ∧ b ≤ e := by
  intro m
  induction m with
  | zero => intro many row a ha h; cases h; exact ⟨Nat.le_refl _, ha⟩
  | succ m ih =>
    intro many row a ha h
    unfold zrl at h
    split at h
    · split at h
      · cases h
      · rename_i y b2 hy
        have hle := zs_le hy
        split at h
        · have := ih _ _ _ (by omega) h; omega
        split at h
        · cases h
        generalize (if y = 16 then 2 else if y = 17 then 3 else 7) = nb at h
        generalize (if y = 18 then 11 else 3) = nc at h
        split at h
        · cases h
        split at h
        · cases h
        · have := ih _ _ _ (by omega) h; omega
    · cases h; exact ⟨Nat.le_refl _, ha⟩
theorem zcodes_le {t : Nat → Nat} {e a nL nD b : Nat} {row : Nat → Nat} (h : zcodes t e a = .inr (row, nL, nD, b)) : a ≤ b ∧ b ≤ e ∧ nL ≤ 286 ∧ nD ≤ 30 := by
  unfold zcodes at h
  split at h
  · cases h
  split at h
  · cases h
  split at h
  · cases h
  split at h
  · cases h
  split at h
  · cases h
  · rename_i g b1 h1
    have q1 := zcol_le h1
    split at h
    · cases h
    · rename_i row2 b2 h2
      have q2 := zrl_le _ _ _ _ q1.2 h2
      split at h
      · cases h; exact ⟨by omega, by omega, by omega, by omega⟩
      · cases h
theorem zplain_ok {t : Nat → Nat} (ht : ∀ i, t i < 256) {e a : Nat} {rb : Nat → Nat} {rn a' : Nat} {rb' : Nat → Nat} {rn' : Nat} (hrb : ∀ i, rb i < 256) (hrn : rn ≤ 65536) (h : zplain t e a rb rn = .inr (a', rb', rn')) : a < a' ∧ a' ≤ e ∧ rn ≤ rn' ∧ rn' ≤ 65536 ∧ (∀ i, rb' i < 256) := by
  unfold zplain at h
  split at h
  · cases h
  split at h
  · cases h
  split at h
  · cases h
  split at h
  · cases h
  · cases h
    exact ⟨by omega, by omega, by omega, by omega, fun i => by unfold cpyN; split; exact ht _; exact hrb _⟩
theorem zstr_mono {t : Nat → Nat} {e mb : Nat} {gD : Nat → Nat} {nD y a0 : Nat} {s s' : sS} (h : zstr t e mb gD nD y a0 s = .inr s') : s.2.2.1 ≤ s'.2.2.1 := by
  unfold zstr at h
  split at h
  · cases h
  split at h
  · cases h
  split at h
  · cases h
  split at h
  · cases h
  split at h
  · cases h
  split at h
  · cases h
  split at h
  · cases h
  · cases h
    exact Nat.le_add_right _ _
theorem zsyms_mono {t : Nat → Nat} {e mb : Nat} {gL gD : Nat → Nat} {nL nD : Nat} {s' : sS} : ∀ m s, zsyms t e mb gL nL gD nD m s = .inr s' → s.2.2.1 ≤ s'.2.2.1 := by
  intro m
  induction m with
  | zero => intro s h; cases h
  | succ m ih =>
    intro s h
    unfold zsyms at h
    split at h
    · cases h
    split at h
    · cases h; exact Nat.le_refl _
    split at h
    · split at h
      · cases h
      · rename_i s2 hz
        have q1 := zstr_mono hz
        have q2 := ih _ h
        dsimp only at q1
        omega
    · split at h
      · cases h
      · have q2 := ih _ h
        dsimp only at q2
        omega
theorem zbody_mono {t : Nat → Nat} {e mb kd : Nat} {s s' : sS} (h : zbody t e mb kd s = .inr s') : s.2.2.1 ≤ s'.2.2.1 := by
  unfold zbody at h
  split at h
  · split at h
    · cases h
    · rename_i a' rb' rn' hp
      cases h
      unfold zplain at hp
      split at hp
      · cases hp
      split at hp
      · cases hp
      split at hp
      · cases hp
      split at hp
      · cases hp
      · cases hp; exact Nat.le_add_right _ _
  split at h
  · exact zsyms_mono _ _ h
  · split at h
    · cases h
    · have q2 := zsyms_mono _ _ h
      dsimp only at q2
      exact q2
theorem zbody_ok {t : Nat → Nat} (ht : ∀ i, t i < 256) {e mb kd : Nat} {s s' : sS} (hs : sOK e mb s) (h : zbody t e mb kd s = .inr s') : sOK e mb s' ∧ s.1 < s'.1 := by
  unfold zbody at h
  split at h
  · split at h
    · cases h
    · rename_i a' rb' rn' hp
      cases h
      obtain ⟨h1, h2, h3, h4⟩ := hs
      obtain ⟨q1, q2, q3, q4, q5⟩ := zplain_ok ht h4 h2 hp
      exact ⟨⟨by dsimp only; omega, by dsimp only; omega, by dsimp only; omega, fun i => by dsimp only; exact q5 i⟩, by dsimp only; omega⟩
  split at h
  · exact zsyms_ok _ _ hs h
  · split at h
    · cases h
    · rename_i row nL nD a' hc
      obtain ⟨h1, h2, h3, h4⟩ := hs
      have q := zcodes_le hc
      have q2 := zsyms_ok _ (a', s.2) ⟨by dsimp only; omega, by dsimp only; omega, by dsimp only; omega, fun i => by dsimp only; exact h4 i⟩ h
      have q3 := q2.2
      dsimp only at q3
      exact ⟨q2.1, by omega⟩
theorem sb_mod (c : Nat) : sb_b (c % 256) = sb_b c := by
  have h1 : sb_b c = vp_nar .byte (nI c) := by rw [vp_nar_byte]; rfl
  rw [h1, nar_b]
  congr 1
  unfold uN8 nI
  show c % 256 = (BitVec.ofNat 32 c).toNat % 256
  rw [BitVec.toNat_ofNat]
  omega
theorem bF_mod (t : Nat → Nat) : bF t = bF (fun i => t i % 256) := by
  funext i
  simp only [bF]
  rw [sb_mod]
section UAll
variable {l : Launch} {x : xX} {d : Nat} {s0 : va_E} {T : wRow} {fa pl : Int32} {k : wPK} {e mb : Nat} {c1 c2 c3 c4 c5 : wRC} {fl f9 : wF} {Z : xH}
def QB (s0 : va_E) (T : wRow) (fa pl : Int32) (k : wPK) (e mb : Nat) (c1 c2 : wRC) (f9 : wF) (Z : xH) (z : zB) (o : Option Value) (H' : xH) : Prop := (∃ f p bl st td, z = .inl (f, p, bl, st, td) ∧ o = some (.int 0) ∧ UF s0 T (fa, pl, bl, st, nF td) k e c1 c2 f9 Z f p H') ∨ ∃ s c3 c4 c5 fl, z = .inr s ∧ o = some (.int 1) ∧ H' = hc s0 T (s.2.1, s.2.2.1) (fa, pl, s.2.2.2.1, s.2.2.2.2.1, nF s.2.2.2.2.2) k ((s.1 + 7) / 8 * 8, e, mb, c1, c2, c3, c4, c5, fl, f9) Z
theorem UN_blk_loop {n0 : Nat} {Q : xO → xH → Prop} (hT : ∀ i, T.1 i < 256) (he : e = 8 * T.2) (hn : T.2 ≤ 32768) (hc1 : rcOK c1 flen 288) (hc2 : rcOK c2 (fun _ => 5) 32) (z : zB) (hq : ∀ o H', QB s0 T fa pl k e mb c1 c2 f9 Z z o H' → Q (.inl o) H') :
    ∀ (m i : Nat) (s : bS) (c3 c4 c5 : wRC) (fl : wF) (cl : Bool), i + m = 262144 → bOK e mb s → zblocks T.1 e mb m s = z → xW l x 4 0 0 mUN_readBlocks n0 Q cl 4 [some (.ref 51), some (.int (nI 0)), some (.int (nI i)), none, none, none, none, none] [] (hc s0 T (s.2.1, s.2.2.1) (fa, pl, s.2.2.2.1, s.2.2.2.2.1, nF s.2.2.2.2.2) k (s.1, e, mb, c1, c2, c3, c4, c5, fl, f9) Z) 0 0 := by
  -- the end
  have kE : ∀ (s : bS) (c3 c4 c5 : wRC) (fl : wF) (cl : Bool) (v1 v2 : Int32), bOK e mb s → z = .inr s → xW l x 4 0 0 mUN_readBlocks n0 Q cl 102 [some (.ref 51), some (.int v1), some (.int v2), none, none, none, none, none] [.ref 51] (hc s0 T (s.2.1, s.2.2.1) (fa, pl, s.2.2.2.1, s.2.2.2.2.1, nF s.2.2.2.2.2) k (s.1, e, mb, c1, c2, c3, c4, c5, fl, f9) Z) 0 0 := by
    intro s c3 c4 c5 fl cl v1 v2 hs hz
    have h1 := hs.1
    refine xs_callV rfl lk_9_172 (d' := 0) (c_UN_goToNextByte (gs := (c1, c2, c3, c4, c5, fl, f9)) (by omega)) (Nat.le_of_ble_eq_true rfl) rfl rfl rfl rfl rfl (Nat.le_of_ble_eq_true rfl) (by omega) (by omega) ?_
    rintro _ H1 ⟨rfl, rfl⟩
    refine b_UN_readBlocks_103 ?_
    exact ⟨rfl, rfl, Nat.le_refl _, hq _ _ (Or.inr ⟨s, c3, c4, c5, fl, hz, rfl, rfl⟩)⟩
  intro m
  induction m with
  | zero =>
    intro i s c3 c4 c5 fl cl hi hs hz
    refine b_UN_readBlocks_4 ?_
    refine ⟨fun hb => ?_, fun hb => ?_⟩ <;> (try simp (disch := omega) only [nI_lit, nI_fold, nI_mul, nI_add, pk_sub, pk_div, nI_shrN, nI_clamp, nI_leI, nI_ltI, nI_eq, not_true_eq_false, not_false_eq_true, Bool.false_eq_true, if_true, if_false, nI_nem, nI_m1, nI_m7, nI_m15, nI_m32, nI_m4, nI_m8, nI_m16, nI_m2] at hb) <;> (try omega)
    refine ⟨fun hb => ?_, fun hb => ?_⟩ <;> (try simp (disch := omega) only [nI_lit, nI_fold, nI_mul, nI_add, pk_sub, pk_div, nI_shrN, nI_clamp, nI_leI, nI_ltI, nI_eq, not_true_eq_false, not_false_eq_true, Bool.false_eq_true, if_true, if_false, nI_nem, nI_m1, nI_m7, nI_m15, nI_m32, nI_m4, nI_m8, nI_m16, nI_m2] at hb) <;> (try omega)
    exact kE s c3 c4 c5 fl cl _ _ hs hz.symm
  | succ m ih =>
    intro i s c3 c4 c5 fl cl hi hs hz
    obtain ⟨a, rb, rn, bl, st, td⟩ := s
    obtain ⟨h1, h2, h3, h4, h5⟩ := id hs
    dsimp only at h1 h2 h3 h4 h5
    unfold zblocks at hz
    dsimp only at hz
    have r1 := rdn_lt T.1 a 1
    have r2 := rdn_lt T.1 (a + 1) 2
    -- behind a block
    have k92 : ∀ (kd mk v7 : Nat) (s' : sS) (c3 c4 c5 : wRC) (fl : wF) (cl : Bool), kd = rdn T.1 (a + 1) 2 → mk = rdn T.1 a 1 → sOK e mb s' → a < s'.1 → rn ≤ s'.2.2.1 → (if rdn T.1 a 1 = 1 then Sum.inr (s'.1, s'.2.1, s'.2.2.1, bl + 1, s'.2.2.2, noteT td bl (rdn T.1 (a + 1) 2) a (s'.1 - a) (s'.2.2.1 - rn)) else zblocks T.1 e mb m (s'.1, s'.2.1, s'.2.2.1, bl + 1, s'.2.2.2, noteT td bl (rdn T.1 (a + 1) 2) a (s'.1 - a) (s'.2.2.1 - rn))) = z → xW l x 4 0 0 mUN_readBlocks n0 Q cl 91 [some (.ref 51), some (.int (nI 0)), some (.int (nI i)), some (.int (nI a)), some (.int (nI rn)), some (.int (nI mk)), some (.int (nI kd)), some (.int (nI v7))] [.int (nI (s'.2.2.1 - rn)), .int (nI (s'.1 - a)), .int (nI a), .int (nI kd), .ref 7] (hc s0 T (s'.2.1, s'.2.2.1) (fa, pl, bl, s'.2.2.2, nF td) k (s'.1, e, mb, c1, c2, c3, c4, c5, fl, f9) Z) 0 0 := by
      intro kd mk v7 s' c3 c4 c5 fl cl hkd hmk hs' ha' hrn' hz'
      obtain ⟨g1, g2, g3, g4⟩ := hs'
      refine xs_callV rfl lk_9_168 (d' := 0) (c_RE_addBlock (td := td) (a := kd) (b := a) (c := s'.1 - a) (d' := s'.2.2.1 - rn) (by omega)) (Nat.le_of_ble_eq_true rfl) rfl rfl rfl rfl rfl (Nat.le_of_ble_eq_true rfl) (by omega) (by omega) ?_
      rintro _ H1 ⟨rfl, rfl⟩
      rw [← hkd, ← hmk] at hz'
      have hb' : bOK e mb (s'.1, s'.2.1, s'.2.2.1, bl + 1, s'.2.2.2, noteT td bl kd a (s'.1 - a) (s'.2.2.1 - rn)) := ⟨by dsimp only; omega, by dsimp only; omega, by dsimp only; omega, fun i => by dsimp only; exact g4 i, by dsimp only; omega⟩
      refine b_UN_readBlocks_92 ?_
      refine ⟨fun hj => ?_, fun hj => ?_⟩ <;> (try simp (disch := omega) only [nI_lit, nI_fold, nI_mul, nI_add, pk_sub, pk_div, nI_shrN, nI_clamp, nI_leI, nI_ltI, nI_eq, not_true_eq_false, not_false_eq_true, Bool.false_eq_true, if_true, if_false, nI_nem, nI_m1, nI_m7, nI_m15, nI_m32, nI_m4, nI_m8, nI_m16, nI_m2] at hj) <;> (try omega)
      · rw [if_neg (by omega)] at hz'
        rw [nI_1]
        refine xW.fgt 3 (xW.fgt 4 (xW.fgt 5 (xW.fgt 6 (xW.fgt 7 ?_))))
        exact ih (i + 1) _ c3 c4 c5 fl false (by omega) hb' hz'
      · rw [if_pos (by omega)] at hz'
        refine xW.fgt 3 (xW.fgt 4 (xW.fgt 5 (xW.fgt 6 (xW.fgt 7 ?_))))
        refine b_UN_readBlocks_4 ?_
        refine ⟨fun hl => ?_, fun hl => ?_⟩ <;> (try simp (disch := omega) only [nI_lit, nI_fold, nI_mul, nI_add, pk_sub, pk_div, nI_shrN, nI_clamp, nI_leI, nI_ltI, nI_eq, not_true_eq_false, not_false_eq_true, Bool.false_eq_true, if_true, if_false, nI_nem, nI_m1, nI_m7, nI_m15, nI_m32, nI_m4, nI_m8, nI_m16, nI_m2] at hl) <;> (try omega)
        exact kE _ c3 c4 c5 fl false _ _ hb' hz'.symm
    refine b_UN_readBlocks_4 ?_
    refine ⟨fun hb => ?_, fun hb => ?_⟩ <;> (try simp (disch := omega) only [nI_lit, nI_fold, nI_mul, nI_add, pk_sub, pk_div, nI_shrN, nI_clamp, nI_leI, nI_ltI, nI_eq, not_true_eq_false, not_false_eq_true, Bool.false_eq_true, if_true, if_false, nI_nem, nI_m1, nI_m7, nI_m15, nI_m32, nI_m4, nI_m8, nI_m16, nI_m2] at hb) <;> (try omega)
    refine ⟨fun hb => ?_, fun hb => ?_⟩ <;> (try simp (disch := omega) only [nI_lit, nI_fold, nI_mul, nI_add, pk_sub, pk_div, nI_shrN, nI_clamp, nI_leI, nI_ltI, nI_eq, not_true_eq_false, not_false_eq_true, Bool.false_eq_true, if_true, if_false, nI_nem, nI_m1, nI_m7, nI_m15, nI_m32, nI_m4, nI_m8, nI_m16, nI_m2] at hb) <;> (try omega)
    refine ⟨_, ⟨_, rfl, rfl⟩, _, ⟨_, rfl, rfl⟩, _, ⟨_, rfl, rfl⟩, ?_⟩
    refine xs_callV rfl lk_9_111 (d' := 1) (c_UN_readNumber (gs := (c1, c2, c3, c4, c5, fl, f9)) (n := 1) hT (by omega) h1 (by omega)) (Nat.le_of_ble_eq_true rfl) rfl rfl rfl rfl rfl (Nat.le_of_ble_eq_true rfl) (by omega) (by omega) ?_
    rintro _ H1 (⟨g1, rfl, rfl⟩ | ⟨g1, rfl, rfl⟩)
    case inr =>
      rw [if_pos (by omega)] at hz
      refine b_UN_readBlocks_19 ?_
      refine ⟨fun hf => ?_, fun hf => ?_⟩ <;> (try simp (disch := omega) only [nI_lit, nI_fold, nI_mul, nI_add, pk_sub, pk_div, nI_shrN, nI_clamp, nI_leI, nI_ltI, nI_eq, not_true_eq_false, not_false_eq_true, Bool.false_eq_true, if_true, if_false, nI_nem, nI_m1, nI_m7, nI_m15, nI_m32, nI_m4, nI_m8, nI_m16, nI_m2] at hf) <;> (try omega)
      refine b_UN_readBlocks_28 ?_
      refine ⟨fun hf => ?_, fun hf => ?_⟩ <;> (try simp (disch := omega) only [nI_lit, nI_fold, nI_mul, nI_add, pk_sub, pk_div, nI_shrN, nI_clamp, nI_leI, nI_ltI, nI_eq, not_true_eq_false, not_false_eq_true, Bool.false_eq_true, if_true, if_false, nI_nem, nI_m1, nI_m7, nI_m15, nI_m32, nI_m4, nI_m8, nI_m16, nI_m2] at hf) <;> (try omega)
      exact ⟨rfl, rfl, Nat.le_refl _, hq _ _ (Or.inl ⟨1, e, _, _, _, hz.symm, rfl, _, _, _, _, _, _, _, rfl⟩)⟩
    refine b_UN_readBlocks_19 ?_
    refine ⟨fun hf => ?_, fun hf => ?_⟩ <;> (try simp (disch := omega) only [nI_lit, nI_fold, nI_mul, nI_add, pk_sub, pk_div, nI_shrN, nI_clamp, nI_leI, nI_ltI, nI_eq, not_true_eq_false, not_false_eq_true, Bool.false_eq_true, if_true, if_false, nI_nem, nI_m1, nI_m7, nI_m15, nI_m32, nI_m4, nI_m8, nI_m16, nI_m2] at hf) <;> (try omega)
    refine xs_callV rfl lk_9_111 (d' := 1) (c_UN_readNumber (gs := (c1, c2, c3, c4, c5, fl, f9)) (n := 2) hT (by omega) (by omega) (by omega)) (Nat.le_of_ble_eq_true rfl) rfl rfl rfl rfl rfl (Nat.le_of_ble_eq_true rfl) (by omega) (by omega) ?_
    rintro _ H1 (⟨g2, rfl, rfl⟩ | ⟨g2, rfl, rfl⟩)
    case inr =>
      rw [if_pos (by omega)] at hz
      refine b_UN_readBlocks_28 ?_
      refine ⟨fun hf => ?_, fun hf => ?_⟩ <;> (try simp (disch := omega) only [nI_lit, nI_fold, nI_mul, nI_add, pk_sub, pk_div, nI_shrN, nI_clamp, nI_leI, nI_ltI, nI_eq, not_true_eq_false, not_false_eq_true, Bool.false_eq_true, if_true, if_false, nI_nem, nI_m1, nI_m7, nI_m15, nI_m32, nI_m4, nI_m8, nI_m16, nI_m2] at hf) <;> (try omega)
      exact ⟨rfl, rfl, Nat.le_refl _, hq _ _ (Or.inl ⟨1, e, _, _, _, hz.symm, rfl, _, _, _, _, _, _, _, rfl⟩)⟩
    rw [if_neg (by omega)] at hz
    refine b_UN_readBlocks_28 ?_
    refine ⟨fun hf => ?_, fun hf => ?_⟩ <;> (try simp (disch := omega) only [nI_lit, nI_fold, nI_mul, nI_add, pk_sub, pk_div, nI_shrN, nI_clamp, nI_leI, nI_ltI, nI_eq, not_true_eq_false, not_false_eq_true, Bool.false_eq_true, if_true, if_false, nI_nem, nI_m1, nI_m7, nI_m15, nI_m32, nI_m4, nI_m8, nI_m16, nI_m2] at hf) <;> (try omega)
    refine ⟨fun hf => ?_, fun hf => ?_⟩ <;> (try simp (disch := omega) only [nI_lit, nI_fold, nI_mul, nI_add, pk_sub, pk_div, nI_shrN, nI_clamp, nI_leI, nI_ltI, nI_eq, not_true_eq_false, not_false_eq_true, Bool.false_eq_true, if_true, if_false, nI_nem, nI_m1, nI_m7, nI_m15, nI_m32, nI_m4, nI_m8, nI_m16, nI_m2] at hf) <;> (try omega)
    case refine_2 =>
      rw [if_pos (by omega)] at hz
      refine ⟨_, ⟨_, rfl, rfl⟩, ?_⟩
      try simp (disch := omega) only [nI_lit, nI_fold, nI_mul, nI_add, pk_sub, pk_div, nI_shrN, nI_clamp]
      refine xs_callV rfl lk_9_98 (d' := 0) (c_UN_fail (gs := (c1, c2, c3, c4, c5, fl, f9))) (Nat.le_of_ble_eq_true rfl) rfl rfl rfl rfl rfl (Nat.le_of_ble_eq_true rfl) (by omega) (by omega) ?_
      rintro _ H1 ⟨rfl, rfl⟩
      refine b_UN_readBlocks_44 ?_
      exact ⟨rfl, rfl, Nat.le_refl _, hq _ _ (Or.inl ⟨2, a + 1, _, _, _, hz.symm, rfl, _, _, _, _, _, _, _, rfl⟩)⟩
    rw [if_neg (by omega)] at hz
    have hs0 : sOK e mb (a + 3, rb, rn, st) := ⟨by dsimp only; omega, by dsimp only; omega, by dsimp only; omega, fun i => by dsimp only; exact h4 i⟩
    refine ⟨fun hf => ?_, fun hf => ?_⟩ <;> (try simp (disch := omega) only [nI_lit, nI_fold, nI_mul, nI_add, pk_sub, pk_div, nI_shrN, nI_clamp, nI_leI, nI_ltI, nI_eq, not_true_eq_false, not_false_eq_true, Bool.false_eq_true, if_true, if_false, nI_nem, nI_m1, nI_m7, nI_m15, nI_m32, nI_m4, nI_m8, nI_m16, nI_m2] at hf) <;> (try omega)
    case refine_2 =>
      -- plain
      refine xs_callV rfl lk_9_158 (d' := 2) (c_UN_readPlain (c1 := c1) (c2 := c2) (c3 := c3) (c4 := c4) (c5 := c5) (fl := fl) (f9 := f9) (R := (rb, rn)) (a := a + 1 + 2) hT he hn (by omega) (by omega)) (Nat.le_of_ble_eq_true rfl) rfl rfl rfl rfl rfl (Nat.le_of_ble_eq_true rfl) (by omega) (by omega) ?_
      rw [show a + 1 + 2 = a + 3 by omega]
      have hbd : zbody T.1 e mb (rdn T.1 (a + 1) 2) (a + 3, rb, rn, st) = (match zplain T.1 e (a + 3) rb rn with
        | .inl (f, p) => .inl (f, p, st)
        | .inr (a', rb', rn') => .inr (a', rb', rn', st)) := by unfold zbody; rw [if_pos (by omega)]
      rintro _ H1 (⟨f, p, q1, rfl, R', a', mb', c3', c4', c5', fl', rfl⟩ | ⟨a', rb', rn', q1, rfl, rfl⟩)
      · rw [q1] at hbd
        rw [hbd] at hz
        refine b_UN_readBlocks_49 ?_
        refine ⟨fun hg => ?_, fun hg => ?_⟩ <;> (try simp (disch := omega) only [nI_lit, nI_fold, nI_mul, nI_add, pk_sub, pk_div, nI_shrN, nI_clamp, nI_leI, nI_ltI, nI_eq, not_true_eq_false, not_false_eq_true, Bool.false_eq_true, if_true, if_false, nI_nem, nI_m1, nI_m7, nI_m15, nI_m32, nI_m4, nI_m8, nI_m16, nI_m2] at hg) <;> (try omega)
        exact ⟨rfl, rfl, Nat.le_refl _, hq _ _ (Or.inl ⟨f, p, _, _, _, hz.symm, rfl, _, _, _, _, _, _, _, rfl⟩)⟩
      · rw [q1] at hbd
        rw [hbd] at hz
        obtain ⟨z1, z2, z3, z4, z5⟩ := zplain_ok hT h4 h2 q1
        refine b_UN_readBlocks_49 ?_
        refine ⟨fun hg => ?_, fun hg => ?_⟩ <;> (try simp (disch := omega) only [nI_lit, nI_fold, nI_mul, nI_add, pk_sub, pk_div, nI_shrN, nI_clamp, nI_leI, nI_ltI, nI_eq, not_true_eq_false, not_false_eq_true, Bool.false_eq_true, if_true, if_false, nI_nem, nI_m1, nI_m7, nI_m15, nI_m32, nI_m4, nI_m8, nI_m16, nI_m2] at hg) <;> (try omega)
        refine ⟨_, ⟨_, rfl, rfl⟩, _, ⟨_, rfl, rfl⟩, _, ⟨_, rfl, rfl⟩, _, ⟨_, rfl, rfl⟩, ?_⟩
        try simp (disch := omega) only [nI_lit, nI_fold, nI_mul, nI_add, pk_sub, pk_div, nI_shrN, nI_clamp]
        exact k92 _ _ 1 (a', rb', rn', st) c3 c4 c5 fl false rfl rfl ⟨by dsimp only; omega, by dsimp only; omega, by dsimp only; omega, fun i => by dsimp only; exact z5 i⟩ (by dsimp only; omega) (by dsimp only; omega) hz
    refine ⟨fun hg => ?_, fun hg => ?_⟩ <;> (try simp (disch := omega) only [nI_lit, nI_fold, nI_mul, nI_add, pk_sub, pk_div, nI_shrN, nI_clamp, nI_leI, nI_ltI, nI_eq, not_true_eq_false, not_false_eq_true, Bool.false_eq_true, if_true, if_false, nI_nem, nI_m1, nI_m7, nI_m15, nI_m32, nI_m4, nI_m8, nI_m16, nI_m2] at hg) <;> (try omega)
    case refine_2 =>
      -- the fixed code
      refine ⟨_, ⟨_, rfl, rfl⟩, _, ⟨_, rfl, rfl⟩, ?_⟩
      refine xs_callV rfl lk_9_161 (d' := 3) (c_UN_readSymbols (s := (a + 1 + 2, rb, rn, st)) (gL := flen) (nL := 288) (gD := fun _ => 5) (nD := 32) hT he hn (by decide) (by decide) (c1 := c1) (c2 := c2) (c3 := c3) (c4 := c4) (c5 := c5) (fl := fl) (f9 := f9) (c := c1) (c' := c2) (fun _ _ _ => ⟨rfl, rfl, rfl⟩) hc1 (fun _ _ _ => ⟨rfl, rfl, rfl⟩) hc2 hs0) (Nat.le_of_ble_eq_true rfl) rfl rfl rfl rfl rfl (Nat.le_of_ble_eq_true rfl) (by omega) (by omega) ?_
      rw [show a + 1 + 2 = a + 3 by omega]
      have hbd : zbody T.1 e mb (rdn T.1 (a + 1) 2) (a + 3, rb, rn, st) = zsyms T.1 e mb flen 288 (fun _ => 5) 32 262144 (a + 3, rb, rn, st) := by unfold zbody; rw [if_neg (by omega), if_pos (by omega)]
      rintro _ H1 (⟨f, p, st', q1, rfl, R', a', mb', c3', c4', c5', fl', rfl⟩ | ⟨s', q1, rfl, rfl⟩)
      · rw [hbd, q1] at hz
        refine b_UN_readBlocks_59 ?_
        refine ⟨fun hj => ?_, fun hj => ?_⟩ <;> (try simp (disch := omega) only [nI_lit, nI_fold, nI_mul, nI_add, pk_sub, pk_div, nI_shrN, nI_clamp, nI_leI, nI_ltI, nI_eq, not_true_eq_false, not_false_eq_true, Bool.false_eq_true, if_true, if_false, nI_nem, nI_m1, nI_m7, nI_m15, nI_m32, nI_m4, nI_m8, nI_m16, nI_m2] at hj) <;> (try omega)
        exact ⟨rfl, rfl, Nat.le_refl _, hq _ _ (Or.inl ⟨f, p, _, _, _, hz.symm, rfl, _, _, _, _, _, _, _, rfl⟩)⟩
      · have z1 := zbody_ok hT hs0 (hbd.trans q1)
        have z2 := z1.2
        have z4 := z1.1.1
        have z5 := zbody_mono (hbd.trans q1)
        dsimp only at z2 z5
        rw [hbd, q1] at hz
        refine b_UN_readBlocks_59 ?_
        refine ⟨fun hj => ?_, fun hj => ?_⟩ <;> (try simp (disch := omega) only [nI_lit, nI_fold, nI_mul, nI_add, pk_sub, pk_div, nI_shrN, nI_clamp, nI_leI, nI_ltI, nI_eq, not_true_eq_false, not_false_eq_true, Bool.false_eq_true, if_true, if_false, nI_nem, nI_m1, nI_m7, nI_m15, nI_m32, nI_m4, nI_m8, nI_m16, nI_m2] at hj) <;> (try omega)
        refine ⟨_, ⟨_, rfl, rfl⟩, _, ⟨_, rfl, rfl⟩, _, ⟨_, rfl, rfl⟩, _, ⟨_, rfl, rfl⟩, ?_⟩
        try simp (disch := omega) only [nI_lit, nI_fold, nI_mul, nI_add, pk_sub, pk_div, nI_shrN, nI_clamp]
        exact k92 _ _ 1 s' c3 c4 c5 fl false rfl rfl z1.1 (by omega) z5 hz
    -- made codes
    refine xs_callV rfl lk_9_165 (d' := 3) (c_UN_readCodes (c1 := c1) (c2 := c2) (c3 := c3) (c4 := c4) (c5 := c5) (fl := fl) (f9 := f9) (R := (rb, rn)) (a := a + 1 + 2) hT he hn (by omega)) (Nat.le_of_ble_eq_true rfl) rfl rfl rfl rfl rfl (Nat.le_of_ble_eq_true rfl) (by omega) (by omega) ?_
    rw [show a + 1 + 2 = a + 3 by omega]
    have hbd : zbody T.1 e mb (rdn T.1 (a + 1) 2) (a + 3, rb, rn, st) = (match zcodes T.1 e (a + 3) with
        | .inl (f, p) => .inl (f, p, st)
        | .inr (row, nL, nD, a') => zsyms T.1 e mb row nL (fun i => row (nL + i)) nD 262144 (a', rb, rn, st)) := by unfold zbody; rw [if_neg (by omega), if_neg (by omega)]
    rintro _ H1 (⟨f, p, q1, rfl, R', a', mb', c3', c4', c5', fl', rfl⟩ | ⟨row, nL, nD, a', c3', c4', c5', fl', q1, rfl, hL, hD, ha', ok4, ok5, rfl⟩)
    · rw [q1] at hbd
      rw [hbd] at hz
      refine b_UN_readBlocks_62 ?_
      refine ⟨fun hj => ?_, fun hj => ?_⟩ <;> (try simp (disch := omega) only [nI_lit, nI_fold, nI_mul, nI_add, pk_sub, pk_div, nI_shrN, nI_clamp, nI_leI, nI_ltI, nI_eq, not_true_eq_false, not_false_eq_true, Bool.false_eq_true, if_true, if_false, nI_nem, nI_m1, nI_m7, nI_m15, nI_m32, nI_m4, nI_m8, nI_m16, nI_m2] at hj) <;> (try omega)
      refine ⟨fun hl => ?_, fun hl => ?_⟩ <;> (try simp (disch := omega) only [nI_lit, nI_fold, nI_mul, nI_add, pk_sub, pk_div, nI_shrN, nI_clamp, nI_leI, nI_ltI, nI_eq, not_true_eq_false, not_false_eq_true, Bool.false_eq_true, if_true, if_false, nI_nem, nI_m1, nI_m7, nI_m15, nI_m32, nI_m4, nI_m8, nI_m16, nI_m2] at hl) <;> (try omega)
      exact ⟨rfl, rfl, Nat.le_refl _, hq _ _ (Or.inl ⟨f, p, _, _, _, hz.symm, rfl, _, _, _, _, _, _, _, rfl⟩)⟩
    rw [q1] at hbd
    dsimp only at hbd
    have hs1 : sOK e mb (a', rb, rn, st) := ⟨by dsimp only; omega, by dsimp only; omega, by dsimp only; omega, fun i => by dsimp only; exact h4 i⟩
    refine b_UN_readBlocks_62 ?_
    refine ⟨fun hj => ?_, fun hj => ?_⟩ <;> (try simp (disch := omega) only [nI_lit, nI_fold, nI_mul, nI_add, pk_sub, pk_div, nI_shrN, nI_clamp, nI_leI, nI_ltI, nI_eq, not_true_eq_false, not_false_eq_true, Bool.false_eq_true, if_true, if_false, nI_nem, nI_m1, nI_m7, nI_m15, nI_m32, nI_m4, nI_m8, nI_m16, nI_m2] at hj) <;> (try omega)
    refine ⟨_, ⟨_, rfl, rfl⟩, _, ⟨_, rfl, rfl⟩, ?_⟩
    refine xs_callV rfl lk_9_161 (d' := 3) (c_UN_readSymbols (s := (a', rb, rn, st)) (gL := row) (nL := nL) (gD := fun i => row (nL + i)) (nD := nD) hT he hn (by omega) (by omega) (c1 := c1) (c2 := c2) (c3 := c3') (c4 := c4') (c5 := c5') (fl := fl') (f9 := f9) (c := c4') (c' := c5') (fun _ _ _ => ⟨rfl, rfl, rfl⟩) ok4 (fun _ _ _ => ⟨rfl, rfl, rfl⟩) ok5 hs1) (Nat.le_of_ble_eq_true rfl) rfl rfl rfl rfl rfl (Nat.le_of_ble_eq_true rfl) (by omega) (by omega) ?_
    rintro _ H1 (⟨f, p, st', q2, rfl, R', a2, mb', c3', c4', c5', fl', rfl⟩ | ⟨s', q2, rfl, rfl⟩)
    · rw [hbd, q2] at hz
      refine b_UN_readBlocks_69 ?_
      refine ⟨fun hj => ?_, fun hj => ?_⟩ <;> (try simp (disch := omega) only [nI_lit, nI_fold, nI_mul, nI_add, pk_sub, pk_div, nI_shrN, nI_clamp, nI_leI, nI_ltI, nI_eq, not_true_eq_false, not_false_eq_true, Bool.false_eq_true, if_true, if_false, nI_nem, nI_m1, nI_m7, nI_m15, nI_m32, nI_m4, nI_m8, nI_m16, nI_m2] at hj) <;> (try omega)
      refine ⟨fun hl => ?_, fun hl => ?_⟩ <;> (try simp (disch := omega) only [nI_lit, nI_fold, nI_mul, nI_add, pk_sub, pk_div, nI_shrN, nI_clamp, nI_leI, nI_ltI, nI_eq, not_true_eq_false, not_false_eq_true, Bool.false_eq_true, if_true, if_false, nI_nem, nI_m1, nI_m7, nI_m15, nI_m32, nI_m4, nI_m8, nI_m16, nI_m2] at hl) <;> (try omega)
      exact ⟨rfl, rfl, Nat.le_refl _, hq _ _ (Or.inl ⟨f, p, _, _, _, hz.symm, rfl, _, _, _, _, _, _, _, rfl⟩)⟩
    · have z1 := zbody_ok hT hs0 (hbd.trans q2)
      have z2 := z1.2
      have z4 := z1.1.1
      have z5 := zbody_mono (hbd.trans q2)
      dsimp only at z2 z5
      rw [hbd, q2] at hz
      refine b_UN_readBlocks_69 ?_
      refine ⟨fun hj => ?_, fun hj => ?_⟩ <;> (try simp (disch := omega) only [nI_lit, nI_fold, nI_mul, nI_add, pk_sub, pk_div, nI_shrN, nI_clamp, nI_leI, nI_ltI, nI_eq, not_true_eq_false, not_false_eq_true, Bool.false_eq_true, if_true, if_false, nI_nem, nI_m1, nI_m7, nI_m15, nI_m32, nI_m4, nI_m8, nI_m16, nI_m2] at hj) <;> (try omega)
      refine ⟨fun hl => ?_, fun hl => ?_⟩ <;> (try simp (disch := omega) only [nI_lit, nI_fold, nI_mul, nI_add, pk_sub, pk_div, nI_shrN, nI_clamp, nI_leI, nI_ltI, nI_eq, not_true_eq_false, not_false_eq_true, Bool.false_eq_true, if_true, if_false, nI_nem, nI_m1, nI_m7, nI_m15, nI_m32, nI_m4, nI_m8, nI_m16, nI_m2] at hl) <;> (try omega)
      refine ⟨_, ⟨_, rfl, rfl⟩, _, ⟨_, rfl, rfl⟩, _, ⟨_, rfl, rfl⟩, _, ⟨_, rfl, rfl⟩, ?_⟩
      try simp (disch := omega) only [nI_lit, nI_fold, nI_mul, nI_add, pk_sub, pk_div, nI_shrN, nI_clamp]
      exact k92 _ _ 1 s' c3' c4' c5' fl' false rfl rfl z1.1 (by omega) z5 hz
theorem c_UN_readBlocks (hT : ∀ i, T.1 i < 256) (he : e = 8 * T.2) (hn : T.2 ≤ 32768) (hc1 : rcOK c1 flen 288) (hc2 : rcOK c2 (fun _ => 5) 32) {s : bS} (hs : bOK e mb s) : xCr l x 4 0 0 mUN_readBlocks [.ref 51] (hc s0 T (s.2.1, s.2.2.1) (fa, pl, s.2.2.2.1, s.2.2.2.2.1, nF s.2.2.2.2.2) k (s.1, e, mb, c1, c2, c3, c4, c5, fl, f9) Z) (fun o H' => QB s0 T fa pl k e mb c1 c2 f9 Z (zblocks T.1 e mb 262144 s) o H') := by
  refine xCt.of (by decide) rfl ck_UN_readBlocks (Nat.le_of_ble_eq_true rfl) rfl ?_
  refine b_UN_readBlocks_0 ?_
  exact UN_blk_loop hT he hn hc1 hc2 _ (fun o H' h => ⟨_, rfl, h⟩) 262144 0 s c3 c4 c5 fl true (by omega) hs rfl
end UAll
