/-! codes for reading -/
def ofs (g : Nat → Nat) (n : Nat) : Nat → Nat
  | 0 => 0
  | l + 1 => ofs g n l + (if l = 0 then 0 else cnt g n l)
theorem ofs_s (g : Nat → Nat) (n l : Nat) : ofs g n (l + 1) = ofs g n l + (if l = 0 then 0 else cnt g n l) := rfl
theorem cnt_s (g : Nat → Nat) (n l : Nat) : cnt g (n + 1) l = cnt g n l + (if g n = l then 1 else 0) := rfl
theorem ofs_n (g : Nat → Nat) (n : Nat) : ∀ l, ofs g (n + 1) l = ofs g n l + (if 1 ≤ g n ∧ g n < l then 1 else 0) := by
  intro l
  induction l with
  | zero => simp [ofs]
  | succ l ih =>
    rw [ofs_s, ofs_s, ih, cnt_s]
    by_cases h0 : l = 0
    · subst h0
      rw [if_pos rfl, if_pos rfl, if_neg (by omega), if_neg (by omega)]
    · rw [if_neg h0, if_neg h0]
      by_cases h1 : g n = l
      · rw [if_pos h1, if_neg (by omega), if_pos (by omega)]
        omega
      · rw [if_neg h1]
        by_cases h2 : 1 ≤ g n ∧ g n < l
        · rw [if_pos h2, if_pos (by omega)]; omega
        · rw [if_neg h2, if_neg (by omega)]; omega
theorem ofs_le (g : Nat → Nat) (n l : Nat) : ofs g n l ≤ n := by
  induction n with
  | zero =>
    induction l with
    | zero => exact Nat.le_refl _
    | succ l ih =>
      rw [ofs_s]
      have : cnt g 0 l = 0 := rfl
      rw [this]
      split <;> omega
  | succ n ih => rw [ofs_n]; split <;> omega
theorem ofs_mono (g : Nat → Nat) (n : Nat) {l l' : Nat} (h : l ≤ l') : ofs g n l ≤ ofs g n l' := by
  induction l' with
  | zero => have : l = 0 := by omega
            subst this; exact Nat.le_refl _
  | succ l' ih =>
    by_cases h1 : l = l' + 1
    · subst h1; exact Nat.le_refl _
    · rw [ofs_s]
      have := ih (by omega)
      omega
theorem cnt_mono (g : Nat → Nat) (l : Nat) {i n : Nat} (h : i ≤ n) : cnt g i l ≤ cnt g n l := by
  induction n with
  | zero => have : i = 0 := by omega
            subst this; exact Nat.le_refl _
  | succ n ih =>
    by_cases h1 : i = n + 1
    · subst h1; exact Nat.le_refl _
    · rw [cnt_s]
      have := ih (by omega)
      omega
theorem cnt_lt {g : Nat → Nat} {i n : Nat} (h : i < n) : cnt g i (g i) < cnt g n (g i) := by
  have h1 : cnt g (i + 1) (g i) = cnt g i (g i) + 1 := by rw [cnt_s, if_pos rfl]
  have h2 := cnt_mono g (g i) (show i + 1 ≤ n from h)
  omega
/-- where the symbol i stands in the order of the codes -/
def plc (g : Nat → Nat) (n i : Nat) : Nat := ofs g n (g i) + cnt g i (g i)
theorem plc_lt {g : Nat → Nat} {n i : Nat} (h : i < n) (h1 : 1 ≤ g i) : plc g n i < ofs g n (g i + 1) := by
  unfold plc
  rw [ofs_s, if_neg (by omega)]
  have := cnt_lt (g := g) h
  omega
theorem plc_n {g : Nat → Nat} {n i : Nat} (h : i < n) (h1 : 1 ≤ g i) : plc g n i < n := Nat.lt_of_lt_of_le (plc_lt h h1) (ofs_le g n _)
theorem plc_ne {g : Nat → Nat} {n i j : Nat} (hj : j < i) (hi : i < n) (h1 : 1 ≤ g i) (h2 : 1 ≤ g j) : plc g n j ≠ plc g n i := by
  rcases Nat.lt_trichotomy (g j) (g i) with h | h | h
  · have a := plc_lt (g := g) (n := n) (i := j) (by omega) h2
    have b := ofs_mono g n (show g j + 1 ≤ g i from h)
    unfold plc at *
    omega
  · unfold plc
    rw [h]
    have := cnt_lt (g := g) hj
    rw [h] at this
    omega
  · have a := plc_lt (g := g) (n := n) (i := i) hi h1
    have b := ofs_mono g n (show g i + 1 ≤ g j from h)
    unfold plc at *
    omega
abbrev cRC (b1 b2 b3 : Nat) (cd : Int32) : va_E := .inr (5, [.ref b1, .ref b2, .int cd, .ref b3])
/-- the places of a code for reading, and of the row of lengths that it is made of -/
def RCok (r b1 b2 b3 a : Nat) : Prop := r ≠ b1 ∧ r ≠ b2 ∧ r ≠ b3 ∧ r ≠ a ∧ b1 ≠ b2 ∧ b1 ≠ b3 ∧ b2 ≠ b3 ∧ a ≠ b1 ∧ a ≠ b2 ∧ a ≠ b3 ∧ 2 ≤ b1 ∧ 2 ≤ b2 ∧ 2 ≤ b3
/-- a code for reading as 'make' leaves it: of the lengths g of n symbols -/
def RCof (H : xH) (r b1 b2 b3 : Nat) (g : Nat → Nat) (n : Nat) : Prop := H[r]? = some (cRC b1 b2 b3 (nI (n - cnt g n 0))) ∧ (∃ fc, H[b1]? = some (aI 16 fc) ∧ isN fc 16 (fun l => if l = 0 then 0 else cnt g n l)) ∧ (∃ fs, H[b2]? = some (aI 288 fs) ∧ ∀ i, i < n → 1 ≤ g i → fs (plc g n i) = nI i) ∧ ∃ ft, H[b3]? = some (aI 17 ft)
section Reads
variable {l : Launch} {x : xX} {d mc ms n0 uc us : Nat} {Q : xO → xH → Prop} {r b1 b2 b3 a M fm n : Nat} {g : Nat → Nat} {fl : Nat → Int32} {P : Nat → Prop} {H0 : xH}
theorem RC_p1 (hok : RCok r b1 b2 b3 a) (hP : ¬ P b1) (hfm : fm + n ≤ M) (hM : M < 2 ^ 20) (hl : ∀ i, i < n → fl (fm + i) = nI (g i)) (hg : ∀ i, i < n → g i ≤ 15)
    (K : ∀ (H : xH) (fc fs ft : Nat → Int32) (cd : Int32), fr P H0 H → H[r]? = some (cRC b1 b2 b3 cd) → H[a]? = some (aI M fl) → H[b1]? = some (aI 16 fc) → H[b2]? = some (aI 288 fs) → H[b3]? = some (aI 17 ft) → isN fc 16 (cnt g n) → xW l x d mc ms mRC_make n0 Q false 6 [some (.ref r), some (.ref a), some (.int (nI fm)), some (.int (nI n)), some (.int (nI n)), none] [] H uc us) :
    ∀ (k i : Nat) (H : xH) (fc fs ft : Nat → Int32) (cd : Int32), i + k = n → fr P H0 H → H[r]? = some (cRC b1 b2 b3 cd) → H[a]? = some (aI M fl) → H[b1]? = some (aI 16 fc) → H[b2]? = some (aI 288 fs) → H[b3]? = some (aI 17 ft) → isN fc 16 (cnt g i) → xW l x d mc ms mRC_make n0 Q false 6 [some (.ref r), some (.ref a), some (.int (nI fm)), some (.int (nI n)), some (.int (nI i)), none] [] H uc us := by
  obtain ⟨o1, o2, o3, o4, o5, o6, o7, o8, o9, o10, o11, o12, o13⟩ := hok
  intro k
  induction k with
  | zero =>
    intro i H fc fs ft cd hi hf h0 h1 h2 h3 h4 hN
    have : i = n := by omega
    subst this
    exact K H fc fs ft cd hf h0 h1 h2 h3 h4 hN
  | succ k ih =>
    intro i H fc fs ft cd hi hf h0 h1 h2 h3 h4 hN
    have hgi := hg i (by omega)
    have e1 : fl (nI fm + nI i).toNatClampNeg = nI (g i) := by rw [nI_add, nI_clamp (by omega)]; exact hl i (by omega)
    refine b_RC_make_6 ⟨fun hb => absurd hb (nI_ge (by omega) (by omega)), fun _ => ⟨b1, ⟨_, h0, rfl⟩, M, fl, h1, ?_, 16, fc, h2, ?_, 16, fc, h2, o11, ?_, fun H21 e => ?_⟩⟩
    · rw [nI_add]; exact vp_in_nI (by omega) (by omega)
    · rw [e1]; exact vp_in_nI (by omega) (by decide)
    · rw [e1]; exact vp_in_nI (by omega) (by decide)
    rw [e1, nI_clamp (by omega)] at e
    rw [nI_1]
    refine ih (i + 1) H21 _ fs ft cd (by omega) (hf.st e hP) (x_gn e h0 (Ne.symm o1)) (x_gn e h1 (Ne.symm o8)) (x_gs e h2) (x_gn e h3 o5) (x_gn e h4 o6) ?_
    refine hN.up ?_ (fun j hj hne => ?_)
    · rw [hN (g i) (by omega), nI_1, cnt_s, if_pos rfl]
    · rw [cnt_s, if_neg (Ne.symm hne), Nat.add_zero]
theorem RC_p2 (hok : RCok r b1 b2 b3 a) (hP : ¬ P b3) (hn : n ≤ 288)
    (K : ∀ (H : xH) (ft : Nat → Int32), fr P H0 H → H[r]? = H0[r]? → H[a]? = H0[a]? → H[b1]? = H0[b1]? → H[b2]? = H0[b2]? → H[b3]? = some (aI 17 ft) → (∀ j, 1 ≤ j → j ≤ 16 → ft j = nI (ofs g n j)) → xW l x d mc ms mRC_make n0 Q false 65 [some (.ref r), some (.ref a), some (.int (nI fm)), some (.int (nI n)), some (.int (nI 0)), none] [] H uc us)
    {fc : Nat → Int32} {cd : Int32} (h0 : H0[r]? = some (cRC b1 b2 b3 cd)) (h1 : H0[b1]? = some (aI 16 fc)) (hN : isN fc 16 (fun l => if l = 0 then 0 else cnt g n l)) :
    ∀ (k i : Nat) (H : xH) (ft : Nat → Int32), i + k = 16 → 1 ≤ i → fr P H0 H → H[r]? = H0[r]? → H[a]? = H0[a]? → H[b1]? = H0[b1]? → H[b2]? = H0[b2]? → H[b3]? = some (aI 17 ft) → (∀ j, 1 ≤ j → j ≤ i → ft j = nI (ofs g n j)) → xW l x d mc ms mRC_make n0 Q false 43 [some (.ref r), some (.ref a), some (.int (nI fm)), some (.int (nI n)), some (.int (nI i)), none] [] H uc us := by
  obtain ⟨o1, o2, o3, o4, o5, o6, o7, o8, o9, o10, o11, o12, o13⟩ := hok
  intro k
  induction k with
  | zero =>
    intro i H ft hi hi1 hf q0 q1 q2 q3 h4 hT
    have : i = 16 := by omega
    subst this
    exact b_RC_make_43 ⟨fun _ => K H ft hf q0 q1 q2 q3 h4 hT, fun hb => absurd (nI_lt (a := 15) (b := 16) (by decide) (by decide)) hb⟩
  | succ k ih =>
    intro i H ft hi hi1 hf q0 q1 q2 q3 h4 hT
    have hc := cnt_le g n i
    have ho := ofs_le g n i
    refine b_RC_make_43 ⟨fun hb => absurd hb (nI_nlt (a := 15) (b := i) (by omega) (by decide)), fun _ => ⟨b3, ⟨_, q0.trans h0, rfl⟩, b3, ⟨_, q0.trans h0, rfl⟩, 17, ft, h4, vp_in_nI (by omega) (by decide), b1, ⟨_, q0.trans h0, rfl⟩, 16, fc, q2.trans h1, vp_in_nI (by omega) (by decide), 17, ft, h4, o13, ?_, fun H10 e => ?_⟩⟩
    · rw [nI_1]; exact vp_in_nI (by omega) (by decide)
    rw [nI_1, nI_clamp (by omega), nI_clamp (by omega), hT i hi1 (Nat.le_refl _), hN i (by omega)] at e
    rw [nI_1]
    refine ih (i + 1) H10 _ (by omega) (by omega) (hf.st e hP) (x_gn e q0 (Ne.symm o3)) (x_gn e q1 (Ne.symm o10)) (x_gn e q2 (Ne.symm o6)) (x_gn e q3 (Ne.symm o7)) (x_gs e h4) (fun j j1 j2 => ?_)
    unfold upd
    by_cases hj : j = i + 1
    · subst hj
      rw [if_pos rfl, nI_add, ofs_s]
    · rw [if_neg hj]
      exact hT j j1 (by omega)
theorem RC_p3 (hok : RCok r b1 b2 b3 a) (hP2 : ¬ P b2) (hP3 : ¬ P b3) (hfm : fm + n ≤ M) (hM : M < 2 ^ 20) (hn : n ≤ 288) (hl : ∀ i, i < n → fl (fm + i) = nI (g i)) (hg : ∀ i, i < n → g i ≤ 15)
    {cd : Int32} (z0 : H0[r]? = some (cRC b1 b2 b3 cd)) (z1 : H0[a]? = some (aI M fl)) (huc : uc = mc) (hus : us ≤ ms)
    (K : ∀ (H : xH) (fs ft : Nat → Int32), fr P H0 H → H[r]? = H0[r]? → H[b1]? = H0[b1]? → H[b2]? = some (aI 288 fs) → H[b3]? = some (aI 17 ft) → (∀ i, i < n → 1 ≤ g i → fs (plc g n i) = nI i) → Q (.inl none) H) :
    ∀ (k i : Nat) (H : xH) (fs ft : Nat → Int32), i + k = n → fr P H0 H → H[r]? = H0[r]? → H[a]? = H0[a]? → H[b1]? = H0[b1]? → H[b2]? = some (aI 288 fs) → H[b3]? = some (aI 17 ft) → (∀ j, 1 ≤ j → j ≤ 15 → ft j = nI (ofs g n j + cnt g i j)) → (∀ j, j < i → 1 ≤ g j → fs (plc g n j) = nI j) → xW l x d mc ms mRC_make n0 Q false 65 [some (.ref r), some (.ref a), some (.int (nI fm)), some (.int (nI n)), some (.int (nI i)), none] [] H uc us := by
  obtain ⟨o1, o2, o3, o4, o5, o6, o7, o8, o9, o10, o11, o12, o13⟩ := hok
  intro k
  induction k with
  | zero =>
    intro i H fs ft hi hf q0 q1 q2 h3 h4 hT hS
    have : i = n := by omega
    subst this
    exact b_RC_make_65 ⟨fun _ => ⟨huc, hus, K H fs ft hf q0 q2 h3 h4 hS⟩, fun hb => absurd (nI_le (Nat.le_refl _) (by omega)) hb⟩
  | succ k ih =>
    intro i H fs ft hi hf q0 q1 q2 h3 h4 hT hS
    have hgi := hg i (by omega)
    have hc := cnt_le g i (g i)
    have ho := ofs_le g n (g i)
    have e1 : fl (nI fm + nI i).toNatClampNeg = nI (g i) := by rw [nI_add, nI_clamp (by omega)]; exact hl i (by omega)
    have hless : ∀ (v : Value) (j : Nat) (w : Value), ([some (.ref r), some (.ref a), some (.int (nI fm)), some (.int (nI n)), some (.int (nI (i + 1))), none] : xL)[j]? = some (some w) → ([some (.ref r), some (.ref a), some (.int (nI fm)), some (.int (nI n)), some (.int (nI (i + 1))), some v] : xL)[j]? = some (some w) := by
      intro v j w hj
      match j, hj with
      | 0, hj => exact hj
      | 1, hj => exact hj
      | 2, hj => exact hj
      | 3, hj => exact hj
      | 4, hj => exact hj
      | 5, hj => cases hj
      | j + 6, hj => simp at hj
    refine b_RC_make_65 ⟨fun hb => absurd hb (nI_ge (by omega) (by omega)), fun _ => ⟨M, fl, q1.trans z1, ?_, fun hb => ?_, fun hb => ?_⟩⟩
    · rw [nI_add]; exact vp_in_nI (by omega) (by omega)
    · rw [e1] at hb
      have hg0 : g i = 0 := by
        rcases Nat.eq_zero_or_pos (g i) with h | h
        · exact h
        · exact absurd hb (nI_nle h (by omega))
      rw [nI_1]
      refine xW.less (L' := [some (.ref r), some (.ref a), some (.int (nI fm)), some (.int (nI n)), some (.int (nI (i + 1))), none]) rfl (hless _) ?_
      refine ih (i + 1) H fs ft (by omega) hf q0 q1 q2 h3 h4 (fun j j1 j2 => ?_) (fun j j1 j2 => ?_)
      · rw [hT j j1 j2, cnt_s, if_neg (by omega), Nat.add_zero]
      · by_cases hji : j = i
        · subst hji; omega
        · exact hS j (by omega) j2
    · rw [e1] at hb
      have hg0 : 1 ≤ g i := by
        rcases Nat.eq_zero_or_pos (g i) with h | h
        · exact absurd (by rw [h]; exact nI_le (a := 0) (b := 0) (Nat.le_refl _) (by decide)) hb
        · exact h
      have hpl := plc_n (g := g) (n := n) (i := i) (by omega) hg0
      have e2 : ft (nI (g i)).toNatClampNeg = nI (plc g n i) := by rw [nI_clamp (by omega)]; exact hT (g i) hg0 hgi
      rw [e1]
      refine ⟨b2, ⟨_, q0.trans z0, rfl⟩, b3, ⟨_, q0.trans z0, rfl⟩, 17, ft, h4, vp_in_nI (by omega) (by decide), 288, fs, h3, o12, ?_, fun H9 e => ?_⟩
      · rw [e2]; exact vp_in_nI (by omega) (by decide)
      rw [e2, nI_clamp (by omega)] at e
      have y0 := x_gn e (q0.trans z0) (Ne.symm o2)
      have y4 := x_gn e h4 o7
      refine ⟨b3, ⟨_, y0, rfl⟩, 17, ft, y4, vp_in_nI (by omega) (by decide), 17, ft, y4, o13, vp_in_nI (by omega) (by decide), fun H15 e' => ?_⟩
      rw [e2, nI_clamp (by omega), nI_1] at e'
      rw [nI_1]
      refine xW.less (L' := [some (.ref r), some (.ref a), some (.int (nI fm)), some (.int (nI n)), some (.int (nI (i + 1))), none]) rfl (hless _) ?_
      refine ih (i + 1) H15 _ _ (by omega) ((hf.st e hP2).st e' hP3) (x_gn e' (x_gn e q0 (Ne.symm o2)) (Ne.symm o3)) (x_gn e' (x_gn e q1 (Ne.symm o9)) (Ne.symm o10)) (x_gn e' (x_gn e q2 (Ne.symm o5)) (Ne.symm o6)) (x_gn e' (x_gs e h3) (Ne.symm o7)) (x_gs e' y4) (fun j j1 j2 => ?_) (fun j j1 j2 => ?_)
      · unfold upd
        by_cases hj : j = g i
        · subst hj
          rw [if_pos rfl, cnt_s, if_pos rfl]
          unfold plc
          rw [Nat.add_assoc]
        · rw [if_neg hj, hT j j1 j2, cnt_s, if_neg (Ne.symm hj), Nat.add_zero]
      · unfold upd
        by_cases hji : j = i
        · subst hji; rw [if_pos rfl]
        · rw [if_neg (plc_ne (by omega) (by omega) hg0 j2)]
          exact hS j (by omega) j2
theorem c_RC_make {H : xH} {fc fs ft : Nat → Int32} {cd : Int32} (hd : 1 ≤ d) (hok : RCok r b1 b2 b3 a) (hfm : fm + n ≤ M) (hM : M < 2 ^ 20) (hn : n ≤ 288) (hl : ∀ i, i < n → fl (fm + i) = nI (g i)) (hg : ∀ i, i < n → g i ≤ 15) (h0 : H[r]? = some (cRC b1 b2 b3 cd)) (h1 : H[a]? = some (aI M fl)) (h2 : H[b1]? = some (aI 16 fc)) (h3 : H[b2]? = some (aI 288 fs)) (h4 : H[b3]? = some (aI 17 ft)) :
    xCr l x d 0 0 mRC_make [.ref r, .ref a, .int (nI fm), .int (nI n)] H (fun o H' => o = none ∧ fr (fun q => q ≠ r ∧ q ≠ b1 ∧ q ≠ b2 ∧ q ≠ b3) H H' ∧ RCof H' r b1 b2 b3 g n) := by
  obtain ⟨o1, o2, o3, o4, o5, o6, o7, o8, o9, o10, o11, o12, o13⟩ := id hok
  refine xCt.of (by decide) rfl ck_RC_make (Nat.le_of_ble_eq_true rfl) rfl (b_RC_make_0 ⟨b1, ⟨_, h0, rfl⟩, ?_⟩)
  refine xs_callS rfl lk_5_21 (d' := 0) (c_AR_fill h2 o11 (by decide)) hd rfl rfl (Nat.le_of_ble_eq_true rfl) (by omega) (by omega) ?_
  rintro _ H1 ⟨rfl, e⟩
  refine b_RC_make_4 ?_
  refine RC_p1 (P := fun q => q ≠ r ∧ q ≠ b1 ∧ q ≠ b2 ∧ q ≠ b3) (H0 := H) hok (fun h => h.2.1 rfl) hfm hM hl hg (fun H fc fs ft cd hf h0 h1 h2 h3 h4 hN => ?_) n 0 H1 _ fs ft cd (by omega) (fr.rf.st e (fun h => h.2.1 rfl)) (x_gn e h0 (Ne.symm o1)) (x_gn e h1 (Ne.symm o8)) (x_gs e h2) (x_gn e h3 o5) (x_gn e h4 o6) (fun j hj => by simp only [x_fil, if_pos (show 0 ≤ j ∧ j < 16 from ⟨Nat.zero_le _, hj⟩)]; rfl)
  have hc0 := cnt_le g n 0
  have e0 : fc (0 : Int32).toNatClampNeg = nI (cnt g n 0) := hN 0 (by decide)
  refine b_RC_make_6 ⟨fun _ => ⟨b1, ⟨_, h0, rfl⟩, 16, fc, h2, vp_in_nI (n := 0) (by decide) (by decide), _, h0, Nat.le_of_ble_eq_true rfl, fun H5 e5 => ?_⟩, fun hb => absurd (nI_le (Nat.le_refl _) (by omega)) hb⟩
  rw [e0, pk_sub hc0] at e5
  have g0 := x_gs e5 h0
  have g2 := x_gn e5 h2 o1
  refine ⟨b1, ⟨_, g0, rfl⟩, 16, fc, g2, o11, vp_in_nI (n := 0) (by decide) (by decide), fun H9 e9 => ?_⟩
  have f0 := x_gn e9 g0 (Ne.symm o1)
  have f2 := x_gs e9 g2
  have f4 := x_gn e9 (x_gn e5 h4 o3) o6
  refine ⟨b3, ⟨_, f0, rfl⟩, 17, ft, f4, o13, vp_in_nI (n := 1) (by decide) (by decide), fun H13 e13 => ?_⟩
  have hf13 := ((hf.st e5 (fun h => h.1 rfl)).st e9 (fun h => h.2.1 rfl)).st e13 (fun h => h.2.2.2 rfl)
  have y0 := x_gn e13 f0 (Ne.symm o3)
  have y1 := x_gn e13 (x_gn e9 (x_gn e5 h1 o4) (Ne.symm o8)) (Ne.symm o10)
  have y2 := x_gn e13 f2 (Ne.symm o6)
  have y3 := x_gn e13 (x_gn e9 (x_gn e5 h3 o2) o5) (Ne.symm o7)
  have y4 := x_gs e13 f4
  have hNc : isN (upd fc (0 : Int32).toNatClampNeg 0) 16 (fun l => if l = 0 then 0 else cnt g n l) := hN.up rfl (fun i hi hne => by simp only [if_neg (show ¬ i = 0 from hne)])
  refine RC_p2 (P := fun q => q ≠ r ∧ q ≠ b1 ∧ q ≠ b2 ∧ q ≠ b3) (H0 := H13) (b2 := b2) hok (fun h => h.2.2.2 rfl) hn (fun H ft hf q0 q1 q2 q3 h4 hT => ?_) y0 y2 hNc 15 1 H13 _ rfl (Nat.le_refl _) fr.rf rfl rfl rfl rfl y4 (fun j j1 j2 => ?_)
  · refine RC_p3 (P := fun q => q ≠ r ∧ q ≠ b1 ∧ q ≠ b2 ∧ q ≠ b3) (H0 := H) hok (fun h => h.2.2.1 rfl) (fun h => h.2.2.2 rfl) hfm hM hn hl hg (q0.trans y0) (q1.trans y1) rfl (Nat.le_refl _) (fun H' fs ft hf' p0 p1 p2 p3 hS => ?_) n 0 H fs ft (by omega) fr.rf rfl rfl rfl (q3.trans y3) h4 (fun j j1 j2 => ?_) (fun j hj => absurd hj (Nat.not_lt_zero j))
    · exact ⟨_, rfl, rfl, (hf13.tr hf).tr hf', ⟨(p0.trans q0).trans y0, ⟨_, (p1.trans q2).trans y2, hNc⟩, ⟨fs, p2, hS⟩, ft, p3⟩⟩
    · rw [hT j j1 (by omega)]; rfl
  · have : j = 1 := by omega
    subst this
    rfl
end Reads
