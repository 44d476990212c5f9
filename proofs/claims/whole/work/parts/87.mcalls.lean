/-! the model's calls -/
theorem nI_ushr (w : Nat) (hw : w < 2 ^ 32) (s : Nat) (hs : s ≤ 24) : uN8 (nI w >>> (nI s &&& 31)) = w / 2 ^ s % 256 := by
  have e1 : nI s &&& 31 = nI s := by rw [show (31 : Int32) = nI 31 from rfl, show nI s &&& nI 31 = nI (s % 32) from pk_andN (by omega) 5 (by decide), Nat.mod_eq_of_lt (by omega)]
  rw [e1]
  unfold uN8
  have e2 : (nI w >>> nI s).toBitVec = (nI w).toBitVec.sshiftRight s := by
    rw [Int32.toBitVec_shiftRight, BitVec.sshiftRight_eq']
    have e3 : ((nI s).toBitVec.smod 32).toNat = s := by
      have : ∀ s, s ≤ 24 → ((nI s).toBitVec.smod 32).toNat = s := by decide +kernel
      exact this s hs
    rw [e3]
  rw [e2, sshr8 _ hs, pk_tn hw]
theorem cpyN_s (r t : Nat → Nat) (i : Nat) : nup (cpyN r t 0 0 i) i (r i) = cpyN r t 0 0 (i + 1) := by
  funext j
  unfold nup cpyN
  by_cases h : j = i
  · subst h; rw [if_pos rfl, if_pos (by omega)]; congr 1; omega
  · rw [if_neg h]
    by_cases h2 : 0 ≤ j ∧ j < 0 + i
    · rw [if_pos h2, if_pos (by omega)]
    · rw [if_neg h2, if_neg (by omega)]
theorem cpyN_0 (r t : Nat → Nat) : cpyN r t 0 0 0 = t := by
  funext j
  unfold cpyN
  rw [if_neg (by omega)]
section MCalls
variable {l : Launch} {x : xX} {d : Nat} {C : Nat → va_E} {cd : Int32} {T R : wRow} {P : wRp} {K A : wK4} {a mb : Nat} {B : wMB} {Z : xH}
theorem c_MO_thrown : xCr l x d 0 0 mMO_thrown [.ref 74] (hM C cd T R P K a mb A B Z) (fun o H' => o = some (.int cd) ∧ H' = (hM C cd T R P K a mb A B Z)) := by
  refine xCt.of (by decide) rfl ck_MO_thrown (Nat.le_of_ble_eq_true rfl) rfl ?_
  refine b_MO_thrown_0 ⟨_, ⟨_, rfl, rfl⟩, ?_⟩
  refine ⟨rfl, Nat.le_refl _, _, rfl, ⟨rfl, rfl⟩⟩
theorem c_MO_fault : xCr l x d 0 0 mMO_fault [.ref 74] (hM C cd T R P K a mb A B Z) (fun o H' => o = some (.int P.1) ∧ H' = hM C 0 T R P K a mb A B Z) := by
  refine xCt.of (by decide) rfl ck_MO_fault (Nat.le_of_ble_eq_true rfl) rfl ?_
  refine b_MO_fault_0 ⟨_, rfl, Nat.le_of_ble_eq_true rfl, fun H2 e2 => ?_⟩
  try simp (disch := omega) only [nI_lit, nI_fold, nI_mul, nI_add, pk_sub, pk_div, nI_shrN, nI_clamp] at e2
  subst e2
  refine ⟨_, ⟨_, rfl, rfl⟩, ?_⟩
  refine ⟨rfl, Nat.le_refl _, _, rfl, ⟨rfl, rfl⟩⟩
theorem c_MO_place : xCr l x d 0 0 mMO_place [.ref 74] (hM C cd T R P K a mb A B Z) (fun o H' => o = some (.int P.2.1) ∧ H' = hM C 0 T R P K a mb A B Z) := by
  refine xCt.of (by decide) rfl ck_MO_place (Nat.le_of_ble_eq_true rfl) rfl ?_
  refine b_MO_place_0 ⟨_, rfl, Nat.le_of_ble_eq_true rfl, fun H2 e2 => ?_⟩
  try simp (disch := omega) only [nI_lit, nI_fold, nI_mul, nI_add, pk_sub, pk_div, nI_shrN, nI_clamp] at e2
  subst e2
  refine ⟨_, ⟨_, rfl, rfl⟩, ?_⟩
  refine ⟨rfl, Nat.le_refl _, _, rfl, ⟨rfl, rfl⟩⟩
theorem c_MO_size : xCr l x d 0 0 mMO_size [.ref 74] (hM C cd T R P K a mb A B Z) (fun o H' => o = some (.int (nI R.2)) ∧ H' = hM C 0 T R P K a mb A B Z) := by
  refine xCt.of (by decide) rfl ck_MO_size (Nat.le_of_ble_eq_true rfl) rfl ?_
  refine b_MO_size_0 ⟨_, rfl, Nat.le_of_ble_eq_true rfl, fun H2 e2 => ?_⟩
  try simp (disch := omega) only [nI_lit, nI_fold, nI_mul, nI_add, pk_sub, pk_div, nI_shrN, nI_clamp] at e2
  subst e2
  refine ⟨_, ⟨_, rfl, rfl⟩, ?_⟩
  refine ⟨rfl, Nat.le_refl _, _, rfl, ⟨rfl, rfl⟩⟩
theorem c_MO_blocks : xCr l x d 0 0 mMO_blocks [.ref 74] (hM C cd T R P K a mb A B Z) (fun o H' => o = some (.int (nI P.2.2.1)) ∧ H' = hM C 0 T R P K a mb A B Z) := by
  refine xCt.of (by decide) rfl ck_MO_blocks (Nat.le_of_ble_eq_true rfl) rfl ?_
  refine b_MO_blocks_0 ⟨_, rfl, Nat.le_of_ble_eq_true rfl, fun H2 e2 => ?_⟩
  try simp (disch := omega) only [nI_lit, nI_fold, nI_mul, nI_add, pk_sub, pk_div, nI_shrN, nI_clamp] at e2
  subst e2
  refine ⟨_, ⟨_, rfl, rfl⟩, ?_⟩
  refine ⟨rfl, Nat.le_refl _, _, rfl, ⟨rfl, rfl⟩⟩
theorem c_MO_stretches : xCr l x d 0 0 mMO_stretches [.ref 74] (hM C cd T R P K a mb A B Z) (fun o H' => o = some (.int (nI P.2.2.2)) ∧ H' = hM C 0 T R P K a mb A B Z) := by
  refine xCt.of (by decide) rfl ck_MO_stretches (Nat.le_of_ble_eq_true rfl) rfl ?_
  refine b_MO_stretches_0 ⟨_, rfl, Nat.le_of_ble_eq_true rfl, fun H2 e2 => ?_⟩
  try simp (disch := omega) only [nI_lit, nI_fold, nI_mul, nI_add, pk_sub, pk_div, nI_shrN, nI_clamp] at e2
  subst e2
  refine ⟨_, ⟨_, rfl, rfl⟩, ?_⟩
  refine ⟨rfl, Nat.le_refl _, _, rfl, ⟨rfl, rfl⟩⟩
theorem c_MO_end_bad {v : Int32} (h : v < 0 ∨ ¬ v ≤ nI T.2) : xCr l x d 0 0 mMO_end [.ref 74, .int v] (hM C cd T R P K a mb A B Z) (fun o H' => o = none ∧ H' = hM C 1 T R P K a mb A B Z) := by
  refine xCt.of (by decide) rfl ck_MO_end (Nat.le_of_ble_eq_true rfl) rfl ?_
  refine b_MO_end_0 ⟨fun _ => ?_, fun h1 => ⟨_, ⟨_, rfl, rfl⟩, fun h2 => absurd h (by rintro (h | h); exact h1 h; exact h h2), fun _ => ?_⟩⟩
  · refine ⟨_, rfl, Nat.le_of_ble_eq_true rfl, fun H2 e2 => ?_⟩
    subst e2
    refine ⟨_, ⟨_, rfl, rfl⟩, fun _ => ?_, fun h => absurd h (by decide)⟩
    refine ⟨rfl, Nat.le_refl _, _, rfl, ⟨rfl, rfl⟩⟩
  · refine ⟨_, rfl, Nat.le_of_ble_eq_true rfl, fun H2 e2 => ?_⟩
    subst e2
    refine ⟨_, ⟨_, rfl, rfl⟩, fun _ => ?_, fun h => absurd h (by decide)⟩
    refine ⟨rfl, Nat.le_refl _, _, rfl, ⟨rfl, rfl⟩⟩
theorem c_MO_end {n : Nat} (hn : n ≤ T.2) (hT : T.2 ≤ 32768) : xCr l x d 0 0 mMO_end [.ref 74, .int (nI n)] (hM C cd T R P K a mb A B Z) (fun o H' => o = none ∧ H' = hM C 0 (T.1, n) R P K a mb A B Z) := by
  refine xCt.of (by decide) rfl ck_MO_end (Nat.le_of_ble_eq_true rfl) rfl ?_
  refine b_MO_end_0 ⟨fun h => absurd h (nI_pos (by omega)), fun h1 => ⟨_, ⟨_, rfl, rfl⟩, fun _ => ?_, fun h => absurd ((nI_leI (by omega) (by omega)).mpr hn) h⟩⟩
  refine ⟨_, rfl, Nat.le_of_ble_eq_true rfl, fun H2 e2 => ?_⟩
  subst e2
  refine ⟨_, ⟨_, rfl, rfl⟩, fun h => absurd rfl h, fun _ => ⟨_, rfl, Nat.le_of_ble_eq_true rfl, fun H2 e2 => ?_⟩⟩
  subst e2
  refine ⟨rfl, Nat.le_refl _, _, rfl, ⟨rfl, rfl⟩⟩
theorem c_MO_type {w : Nat} (hw : w < 2 ^ 32) (hn : T.2 + 4 ≤ 32768) : xCr l x d 0 0 mMO_type [.ref 74, .int (nI w)] (hM C cd T R P K a mb A B Z) (fun o H' => o = none ∧ H' = hM C cd (ty4 T.1 T.2 w, T.2 + 4) R P K a mb A B Z) := by
  refine xCt.of (by decide) rfl ck_MO_type (Nat.le_of_ble_eq_true rfl) rfl ?_
  generalize List.length (hM C cd T R P K a mb A B Z) = n0
  refine b_MO_type_0 ?_
  have st : ∀ (sh : Nat) (sI nx : Int32) (t : Nat → Nat) (n : Nat) (cl : Bool), sI = nI sh → sh ≤ 24 → n < 32768 → sI + (-8) = nx → (xW l x d 0 0 mMO_type n0 (fun r H' => ∃ o, r = Sum.inl o ∧ o = none ∧ H' = hM C cd (ty4 T.1 T.2 w, T.2 + 4) R P K a mb A B Z) false 2 [some (.ref 74), some (.int (nI w)), some (.int nx)] [] (hM C cd (nup t n (w / 2 ^ sh % 256), n + 1) R P K a mb A B Z) 0 0) → xW l x d 0 0 mMO_type n0 (fun r H' => ∃ o, r = Sum.inl o ∧ o = none ∧ H' = hM C cd (ty4 T.1 T.2 w, T.2 + 4) R P K a mb A B Z) cl 2 [some (.ref 74), some (.int (nI w)), some (.int sI)] [] (hM C cd (t, n) R P K a mb A B Z) 0 0 := by
    intro sh sI nx t n cl hsI hsh hn hnx Kk
    refine b_MO_type_2 ⟨fun h => absurd h (by rw [hsI]; exact nI_pos (by omega)), fun _ => ?_⟩
    refine ⟨_, ⟨_, rfl, rfl⟩, _, ⟨_, rfl, rfl⟩, _, _, rfl, vp_in_nI hn (by decide), fun H5 e5 => ?_⟩
    rw [hsI, nI_clamp (by omega), upd_b8, nI_ushr w hw sh hsh] at e5
    have e6 : H5 = hM C cd (nup t n (w / 2 ^ sh % 256), n) R P K a mb A B Z := e5
    subst e6
    refine ⟨_, ⟨_, rfl, rfl⟩, _, rfl, Nat.le_of_ble_eq_true rfl, fun H8 e8 => ?_⟩
    rw [nI_1] at e8
    have e9 : H8 = hM C cd (nup t n (w / 2 ^ sh % 256), n + 1) R P K a mb A B Z := e8
    subst e9
    rw [hnx]
    exact Kk
  refine st 24 24 16 T.1 T.2 _ rfl (by decide) (by omega) rfl ?_
  refine st 16 16 8 _ (T.2 + 1) _ rfl (by decide) (by omega) rfl ?_
  refine st 8 8 0 _ (T.2 + 2) _ rfl (by decide) (by omega) rfl ?_
  refine st 0 0 (-8) _ (T.2 + 3) _ rfl (by decide) (by omega) rfl ?_
  rw [Nat.pow_zero, Nat.div_one]
  refine b_MO_type_2 ⟨fun _ => ?_, fun h => absurd (by decide) h⟩
  refine ⟨rfl, Nat.le_refl _, _, rfl, ⟨rfl, rfl⟩⟩
theorem c_MO_feed_bad {v1 v2 v3 v4 v5 : Int32} (hT : T.2 ≤ 32768) (h : 32768 < T.2 + 20) : xCr l x d 0 0 mMO_feed [.ref 74, .int v1, .int v2, .int v3, .int v4, .int v5] (hM C cd T R P K a mb A B Z) (fun o H' => o = some (.int 0) ∧ H' = hM C 1 T R P K a mb A B Z) := by
  refine xCt.of (by decide) rfl ck_MO_feed (Nat.le_of_ble_eq_true rfl) rfl ?_
  refine b_MO_feed_0 ⟨_, ⟨_, rfl, rfl⟩, fun h2 => absurd ((nI_leI (a := T.2 + 20) (b := 32768) (by omega) (by decide)).mp (by rw [← nI_add]; exact h2)) (by omega), fun _ => ?_⟩
  (refine ⟨_, rfl, Nat.le_of_ble_eq_true rfl, fun H2 e2 => ?_⟩; subst e2; refine ⟨_, ⟨_, rfl, rfl⟩, fun h => absurd h (by decide), fun _ => ?_⟩; exact ⟨rfl, Nat.le_refl _, _, rfl, rfl, rfl⟩)
theorem c_MO_feed {v1 v2 v3 v4 v5 : Nat} (h1 : v1 < 2 ^ 32) (h2 : v2 < 2 ^ 32) (h3 : v3 < 2 ^ 32) (h4 : v4 < 2 ^ 32) (h5 : v5 < 2 ^ 32) (hn : T.2 + 20 ≤ 32768) : xCr l x 1 0 0 mMO_feed [.ref 74, .int (nI v1), .int (nI v2), .int (nI v3), .int (nI v4), .int (nI v5)] (hM C cd T R P K a mb A B Z) (fun o H' => o = some (.int (nI (T.2 + 20))) ∧ H' = hM C 0 (ty20 T v1 v2 v3 v4 v5) R P K a mb A B Z) := by
  refine xCt.of (by decide) rfl ck_MO_feed (Nat.le_of_ble_eq_true rfl) rfl ?_
  refine b_MO_feed_0 ⟨_, ⟨_, rfl, rfl⟩, fun _ => ?_, fun h => absurd (by rw [show (20 : Int32) = nI 20 from rfl, nI_add]; exact (nI_leI (a := T.2 + 20) (b := 32768) (by omega) (by decide)).mpr hn) h⟩
  refine ⟨_, rfl, Nat.le_of_ble_eq_true rfl, fun H2 e2 => ?_⟩
  have e3 : H2 = hM C 0 T R P K a mb A B Z := e2
  subst e3
  refine ⟨_, ⟨_, rfl, rfl⟩, fun _ => ?_, fun h => absurd (by decide) h⟩
  refine xs_callV rfl lk_12_85 (d' := 0) (c_MO_type (T := T) h1 (by omega)) (Nat.le_of_ble_eq_true rfl) rfl rfl rfl rfl rfl (Nat.le_of_ble_eq_true rfl) (by omega) (by omega) ?_
  rintro _ H1 ⟨rfl, rfl⟩
  refine b_MO_feed_19 ?_
  refine xs_callV rfl lk_12_85 (d' := 0) (c_MO_type (T := (ty4 T.1 T.2 v1, T.2 + 4)) h2 (by dsimp only; omega)) (Nat.le_of_ble_eq_true rfl) rfl rfl rfl rfl rfl (Nat.le_of_ble_eq_true rfl) (by omega) (by omega) ?_
  rintro _ H1 ⟨rfl, rfl⟩
  refine b_MO_feed_22 ?_
  refine xs_callV rfl lk_12_85 (d' := 0) (c_MO_type (T := (ty4 (ty4 T.1 T.2 v1) (T.2 + 4) v2, T.2 + 4 + 4)) h3 (by dsimp only; omega)) (Nat.le_of_ble_eq_true rfl) rfl rfl rfl rfl rfl (Nat.le_of_ble_eq_true rfl) (by omega) (by omega) ?_
  rintro _ H1 ⟨rfl, rfl⟩
  refine b_MO_feed_25 ?_
  refine xs_callV rfl lk_12_85 (d' := 0) (c_MO_type (T := (ty4 (ty4 (ty4 T.1 T.2 v1) (T.2 + 4) v2) (T.2 + 8) v3, T.2 + 8 + 4)) h4 (by dsimp only; omega)) (Nat.le_of_ble_eq_true rfl) rfl rfl rfl rfl rfl (Nat.le_of_ble_eq_true rfl) (by omega) (by omega) ?_
  rintro _ H1 ⟨rfl, rfl⟩
  refine b_MO_feed_28 ?_
  refine xs_callV rfl lk_12_85 (d' := 0) (c_MO_type (T := (ty4 (ty4 (ty4 (ty4 T.1 T.2 v1) (T.2 + 4) v2) (T.2 + 8) v3) (T.2 + 12) v4, T.2 + 12 + 4)) h5 (by dsimp only; omega)) (Nat.le_of_ble_eq_true rfl) rfl rfl rfl rfl rfl (Nat.le_of_ble_eq_true rfl) (by omega) (by omega) ?_
  rintro _ H1 ⟨rfl, rfl⟩
  refine b_MO_feed_31 ⟨_, ⟨_, rfl, rfl⟩, ?_⟩
  refine ⟨rfl, Nat.le_refl _, _, rfl, ⟨rfl, rfl⟩⟩
theorem c_MO_again1 {v w : Int32} (h : w < 0 ∨ v < 1 ∨ ¬ v ≤ nI T.2) : xCr l x d 0 0 mMO_again [.ref 74, .int v, .int w] (hM C cd T R P K a mb A B Z) (fun o H' => o = some (.int 0) ∧ H' = hM C 1 T R P K a mb A B Z) := by
  refine xCt.of (by decide) rfl ck_MO_again (Nat.le_of_ble_eq_true rfl) rfl ?_
  refine b_MO_again_0 ⟨fun _ => ?_, fun h1 => ⟨fun _ => ?_, fun h2 => ⟨_, ⟨_, rfl, rfl⟩, fun h3 => absurd h (by rintro (h | h | h); exact h1 h; exact h2 h; exact h h3), fun _ => ?_⟩⟩⟩
  · (refine ⟨_, rfl, Nat.le_of_ble_eq_true rfl, fun H2 e2 => ?_⟩; subst e2; refine ⟨_, ⟨_, rfl, rfl⟩, fun h => absurd h (by decide), fun _ => ?_⟩; exact ⟨rfl, Nat.le_refl _, _, rfl, rfl, rfl⟩)
  · (refine ⟨_, rfl, Nat.le_of_ble_eq_true rfl, fun H2 e2 => ?_⟩; subst e2; refine ⟨_, ⟨_, rfl, rfl⟩, fun h => absurd h (by decide), fun _ => ?_⟩; exact ⟨rfl, Nat.le_refl _, _, rfl, rfl, rfl⟩)
  · (refine ⟨_, rfl, Nat.le_of_ble_eq_true rfl, fun H2 e2 => ?_⟩; subst e2; refine ⟨_, ⟨_, rfl, rfl⟩, fun h => absurd h (by decide), fun _ => ?_⟩; exact ⟨rfl, Nat.le_refl _, _, rfl, rfl, rfl⟩)
theorem c_MO_again2 {v w : Int32} (h1 : ¬ w < 0) (h2 : ¬ v < 1) (h3 : v ≤ nI T.2) (h4 : ¬ w ≤ (32768 : Int32) - nI T.2) : xCr l x d 0 0 mMO_again [.ref 74, .int v, .int w] (hM C cd T R P K a mb A B Z) (fun o H' => o = some (.int 0) ∧ H' = hM C 2 T R P K a mb A B Z) := by
  refine xCt.of (by decide) rfl ck_MO_again (Nat.le_of_ble_eq_true rfl) rfl ?_
  refine b_MO_again_0 ⟨fun h => absurd h h1, fun _ => ⟨fun h => absurd h h2, fun _ => ⟨_, ⟨_, rfl, rfl⟩, fun _ => ⟨_, ⟨_, rfl, rfl⟩, fun h => absurd h h4, fun _ => ?_⟩, fun h => absurd h3 h⟩⟩⟩
  (refine ⟨_, rfl, Nat.le_of_ble_eq_true rfl, fun H2 e2 => ?_⟩; subst e2; refine ⟨_, ⟨_, rfl, rfl⟩, fun h => absurd h (by decide), fun _ => ?_⟩; exact ⟨rfl, Nat.le_refl _, _, rfl, rfl, rfl⟩)
theorem MO_again_loop {n0 : Nat} {Q : xO → xH → Prop} {b m : Nat} (hb : 1 ≤ b) (hb2 : b ≤ T.2) (hm : T.2 + m ≤ 32768) (hq : Q (.inl (some (.int (nI (T.2 + m))))) (hM C cd (repN T.1 T.2 b m, T.2 + m) R P K a mb A B Z)) : ∀ (j i : Nat) (cl : Bool), i + j = m → xW l x d 0 0 mMO_again n0 Q cl 29 [some (.ref 74), some (.int (nI b)), some (.int (nI m)), some (.int (nI i))] [] (hM C cd (repN T.1 T.2 b i, T.2 + i) R P K a mb A B Z) 0 0 := by
  intro j
  induction j with
  | zero =>
    intro i cl hi
    have : i = m := by omega
    subst this
    refine b_MO_again_29 ⟨fun _ => ⟨_, ⟨_, rfl, rfl⟩, rfl, Nat.le_refl _, hq⟩, fun h => absurd ((nI_leI (by omega) (by omega)).mpr (Nat.le_refl _)) h⟩
  | succ j ih =>
    intro i cl hi
    refine b_MO_again_29 ⟨fun h => absurd ((nI_leI (by omega) (by omega)).mp h) (by omega), fun _ => ?_⟩
    refine ⟨_, ⟨_, rfl, rfl⟩, _, ⟨_, rfl, rfl⟩, _, ⟨_, rfl, rfl⟩, _, ⟨_, rfl, rfl⟩, _, _, rfl, ?_, _, _, rfl, vp_in_nI (n := T.2 + i) (by omega) (by decide), fun H10 e10 => ?_⟩
    · rw [show nI (T.2 + i) - nI b = nI (T.2 + i - b) from pk_sub (by omega)]
      exact vp_in_nI (by omega) (by decide)
    rw [show nI (T.2 + i) - nI b = nI (T.2 + i - b) from pk_sub (by omega), nI_clamp (by omega), nI_clamp (by omega), bF_up] at e10
    have e11 : H10 = hM C cd (repN T.1 T.2 b (i + 1), T.2 + i) R P K a mb A B Z := e10
    subst e11
    refine ⟨_, ⟨_, rfl, rfl⟩, _, rfl, Nat.le_of_ble_eq_true rfl, fun H8 e8 => ?_⟩
    rw [nI_1] at e8
    have e9 : H8 = hM C cd (repN T.1 T.2 b (i + 1), T.2 + (i + 1)) R P K a mb A B Z := e8
    subst e9
    rw [nI_1]
    exact ih (i + 1) _ (by omega)
theorem c_MO_again {b m : Nat} (hb : 1 ≤ b) (hb2 : b ≤ T.2) (hm : T.2 + m ≤ 32768) : xCr l x d 0 0 mMO_again [.ref 74, .int (nI b), .int (nI m)] (hM C cd T R P K a mb A B Z) (fun o H' => o = some (.int (nI (T.2 + m))) ∧ H' = hM C 0 (repN T.1 T.2 b m, T.2 + m) R P K a mb A B Z) := by
  refine xCt.of (by decide) rfl ck_MO_again (Nat.le_of_ble_eq_true rfl) rfl ?_
  refine b_MO_again_0 ⟨fun h => absurd h (nI_pos (by omega)), fun _ => ⟨fun h => absurd ((nI_ltI (a := b) (b := 1) (by omega) (by decide)).mp h) (by omega), fun _ => ⟨_, ⟨_, rfl, rfl⟩, fun _ => ?_, fun h => absurd ((nI_leI (by omega) (by omega)).mpr hb2) h⟩⟩⟩
  refine ⟨_, ⟨_, rfl, rfl⟩, fun _ => ?_, fun h => absurd (by rw [show (32768 : Int32) - nI T.2 = nI (32768 - T.2) from pk_sub (a := 32768) (by omega), nI_leI (by omega) (by omega)]; omega) h⟩
  refine ⟨_, rfl, Nat.le_of_ble_eq_true rfl, fun H2 e2 => ?_⟩
  subst e2
  refine ⟨_, ⟨_, rfl, rfl⟩, fun _ => ?_, fun h => absurd (by decide) h⟩
  exact MO_again_loop (cd := 0) (T := T) hb hb2 hm ⟨_, rfl, rfl, rfl⟩ m 0 _ (by omega)
theorem c_MO_change1 {v w : Int32} (h : v < 0 ∨ ¬ v < nI T.2) : xCr l x d 0 0 mMO_change [.ref 74, .int v, .int w] (hM C cd T R P K a mb A B Z) (fun o H' => o = some (.int 0) ∧ H' = hM C 1 T R P K a mb A B Z) := by
  refine xCt.of (by decide) rfl ck_MO_change (Nat.le_of_ble_eq_true rfl) rfl ?_
  refine b_MO_change_0 ⟨fun _ => b_MO_change_17 ?_, fun h1 => ⟨_, ⟨_, rfl, rfl⟩, fun h2 => absurd h (by rintro (h | h); exact h1 h; exact h h2), fun _ => b_MO_change_17 ?_⟩⟩
  · (refine ⟨_, rfl, Nat.le_of_ble_eq_true rfl, fun H2 e2 => ?_⟩; subst e2; refine ⟨_, ⟨_, rfl, rfl⟩, fun h => absurd h (by decide), fun _ => ?_⟩; exact ⟨rfl, Nat.le_refl _, _, rfl, rfl, rfl⟩)
  · (refine ⟨_, rfl, Nat.le_of_ble_eq_true rfl, fun H2 e2 => ?_⟩; subst e2; refine ⟨_, ⟨_, rfl, rfl⟩, fun h => absurd h (by decide), fun _ => ?_⟩; exact ⟨rfl, Nat.le_refl _, _, rfl, rfl, rfl⟩)
theorem c_MO_change2 {v w : Int32} (h1 : ¬ v < 0) (h2 : v < nI T.2) (h : w < 0 ∨ ¬ w ≤ 255) : xCr l x d 0 0 mMO_change [.ref 74, .int v, .int w] (hM C cd T R P K a mb A B Z) (fun o H' => o = some (.int 0) ∧ H' = hM C 2 T R P K a mb A B Z) := by
  refine xCt.of (by decide) rfl ck_MO_change (Nat.le_of_ble_eq_true rfl) rfl ?_
  refine b_MO_change_0 ⟨fun h => absurd h h1, fun _ => ⟨_, ⟨_, rfl, rfl⟩, fun _ => ⟨fun _ => b_MO_change_17 ?_, fun h3 => ⟨fun h4 => absurd h (by rintro (h | h); exact h3 h; exact h h4), fun _ => b_MO_change_17 ?_⟩⟩, fun h => absurd h2 h⟩⟩
  · (refine ⟨_, rfl, Nat.le_of_ble_eq_true rfl, fun H2 e2 => ?_⟩; subst e2; refine ⟨_, ⟨_, rfl, rfl⟩, fun h => absurd h (by decide), fun _ => ?_⟩; exact ⟨rfl, Nat.le_refl _, _, rfl, rfl, rfl⟩)
  · (refine ⟨_, rfl, Nat.le_of_ble_eq_true rfl, fun H2 e2 => ?_⟩; subst e2; refine ⟨_, ⟨_, rfl, rfl⟩, fun h => absurd h (by decide), fun _ => ?_⟩; exact ⟨rfl, Nat.le_refl _, _, rfl, rfl, rfl⟩)
theorem c_MO_change (hT : ∀ i, T.1 i < 256) {i b : Nat} (hi : i < T.2) (hn : T.2 ≤ 32768) (hb : b < 256) : xCr l x d 0 0 mMO_change [.ref 74, .int (nI i), .int (nI b)] (hM C cd T R P K a mb A B Z) (fun o H' => o = some (.int (nI (T.1 i ^^^ b))) ∧ H' = hM C 0 (nup T.1 i (T.1 i ^^^ b), T.2) R P K a mb A B Z) := by
  refine xCt.of (by decide) rfl ck_MO_change (Nat.le_of_ble_eq_true rfl) rfl ?_
  refine b_MO_change_0 ⟨fun h => absurd h (nI_pos (by omega)), fun _ => ⟨_, ⟨_, rfl, rfl⟩, fun _ => ?_, fun h => absurd ((nI_ltI (by omega) (by omega)).mpr hi) h⟩⟩
  refine ⟨fun h => absurd h (nI_pos (by omega)), fun _ => ⟨fun _ => b_MO_change_17 ?_, fun h => absurd ((nI_leI (a := b) (b := 255) (by omega) (by decide)).mpr (by omega)) h⟩⟩
  refine ⟨_, rfl, Nat.le_of_ble_eq_true rfl, fun H2 e2 => ?_⟩
  have e3 : H2 = hM C 0 T R P K a mb A B Z := e2
  subst e3
  refine ⟨_, ⟨_, rfl, rfl⟩, fun _ => ?_, fun h => absurd (by decide) h⟩
  refine ⟨_, ⟨_, rfl, rfl⟩, _, ⟨_, rfl, rfl⟩, _, _, rfl, vp_in_nI (n := i) (by omega) (by decide), _, _, rfl, vp_in_nI (n := i) (by omega) (by decide), fun H11 e11 => ?_⟩
  rw [nI_clamp (by omega), upd_b8, uN8_xor, uN8_sb _ (hT _), uN8_nI hb] at e11
  have e12 : H11 = hM C 0 (nup T.1 i (T.1 i ^^^ b), T.2) R P K a mb A B Z := e11
  subst e12
  refine ⟨_, ⟨_, rfl, rfl⟩, _, _, rfl, vp_in_nI (n := i) (by omega) (by decide), ?_⟩
  have e : sb_b (nup T.1 i (T.1 i ^^^ b) i) &&& 255 = nI (T.1 i ^^^ b) := by
    unfold nup; rw [if_pos rfl]; exact (sb_byte _ (xor8 (hT _) hb)).1
  try dsimp only
  rw [nI_clamp (by omega)]
  refine ⟨rfl, Nat.le_refl _, _, rfl, ⟨congrArg (fun z => some (Value.int z)) e, rfl⟩⟩
theorem c_MO_sum_bad {v : Int32} (h : v < 0 ∨ ¬ v ≤ 1) : xCr l x d 0 0 mMO_sum [.ref 74, .int v] (hM C cd T R P K a mb A B Z) (fun o H' => o = some (.long 0) ∧ H' = hM C 1 T R P K a mb A B Z) := by
  refine xCt.of (by decide) rfl ck_MO_sum (Nat.le_of_ble_eq_true rfl) rfl ?_
  refine b_MO_sum_0 ⟨fun _ => ?_, fun h1 => ⟨fun h2 => absurd h (by rintro (h | h); exact h1 h; exact h h2), fun _ => ?_⟩⟩
  · refine ⟨_, rfl, Nat.le_of_ble_eq_true rfl, fun H2 e2 => ?_⟩
    subst e2
    refine ⟨_, ⟨_, rfl, rfl⟩, fun h => absurd h (by decide), fun _ => b_MO_sum_30 ?_⟩
    refine ⟨rfl, Nat.le_refl _, _, rfl, ⟨rfl, rfl⟩⟩
  · refine ⟨_, rfl, Nat.le_of_ble_eq_true rfl, fun H2 e2 => ?_⟩
    subst e2
    refine ⟨_, ⟨_, rfl, rfl⟩, fun h => absurd h (by decide), fun _ => b_MO_sum_30 ?_⟩
    refine ⟨rfl, Nat.le_refl _, _, rfl, ⟨rfl, rfl⟩⟩
theorem c_MO_sum {w : Nat} (hw : w ≤ 1) (hT : ∀ i, T.1 i < 256) (hn : T.2 ≤ 32768) : xCr l x 1 0 0 mMO_sum [.ref 74, .int (nI w)] (hM C cd T R P K a mb A B Z) (fun o H' => o = some (.long (lN (if w = 0 then adl T.1 0 T.2 else crc T.1 0 T.2))) ∧ H' = hM C 0 T R P K a mb A B Z) := by
  refine xCt.of (by decide) rfl ck_MO_sum (Nat.le_of_ble_eq_true rfl) rfl ?_
  refine b_MO_sum_0 ⟨fun h => absurd h (nI_pos (by omega)), fun _ => ⟨fun _ => ?_, fun h => absurd ((nI_leI (a := w) (b := 1) (by omega) (by decide)).mpr hw) h⟩⟩
  refine ⟨_, rfl, Nat.le_of_ble_eq_true rfl, fun H2 e2 => ?_⟩
  have e3 : H2 = hM C 0 T R P K a mb A B Z := e2
  subst e3
  refine ⟨_, ⟨_, rfl, rfl⟩, fun _ => ⟨fun h => ?_, fun h => ?_⟩, fun h => absurd (by decide) h⟩
  · have hw0 : ¬ w = 0 := by rintro rfl; exact h rfl
    rw [if_neg hw0]
    refine ⟨_, ⟨_, rfl, rfl⟩, _, ⟨_, rfl, rfl⟩, ?_⟩
    refine xs_callS rfl lk_12_105 (d' := 0) (c_MO_sumB (r := 75) (N := 32768) (t := T.1) (fm := 0) (to := T.2) rfl hT (by omega) hn (by decide)) (Nat.le_of_ble_eq_true rfl) rfl rfl (Nat.le_of_ble_eq_true rfl) (by omega) (by omega) ?_
    rintro _ H1 ⟨rfl, rfl⟩
    refine b_MO_sum_30 ?_
    refine ⟨rfl, Nat.le_refl _, _, rfl, ⟨rfl, rfl⟩⟩
  · have hw0 : w = 0 := by
      have h2 : nI w = nI 0 := h
      rw [nI_eq (by omega) (by omega)] at h2
      exact h2
    rw [if_pos hw0]
    refine ⟨_, ⟨_, rfl, rfl⟩, _, ⟨_, rfl, rfl⟩, ?_⟩
    refine xs_callS rfl lk_12_101 (d' := 0) (c_MO_sumA (r := 75) (N := 32768) (t := T.1) (fm := 0) (to := T.2) rfl hT (by omega) hn (by decide)) (Nat.le_of_ble_eq_true rfl) rfl rfl (Nat.le_of_ble_eq_true rfl) (by omega) (by omega) ?_
    rintro _ H1 ⟨rfl, rfl⟩
    refine b_MO_sum_23 ?_
    refine b_MO_sum_30 ?_
    refine ⟨rfl, Nat.le_refl _, _, rfl, ⟨rfl, rfl⟩⟩
theorem c_MO_out_bad {v : Int32} (h : v < 0 ∨ ¬ v < nI R.2) : xCr l x d 0 0 mMO_out [.ref 74, .int v] (hM C cd T R P K a mb A B Z) (fun o H' => o = some (.int 0) ∧ H' = hM C 1 T R P K a mb A B Z) := by
  refine xCt.of (by decide) rfl ck_MO_out (Nat.le_of_ble_eq_true rfl) rfl ?_
  refine b_MO_out_0 ⟨fun _ => ?_, fun h1 => ⟨_, ⟨_, rfl, rfl⟩, fun h2 => absurd h (by rintro (h | h); exact h1 h; exact h h2), fun _ => ?_⟩⟩
  · (refine ⟨_, rfl, Nat.le_of_ble_eq_true rfl, fun H2 e2 => ?_⟩; subst e2; refine ⟨_, ⟨_, rfl, rfl⟩, fun h => absurd h (by decide), fun _ => ?_⟩; exact ⟨rfl, Nat.le_refl _, _, rfl, rfl, rfl⟩)
  · (refine ⟨_, rfl, Nat.le_of_ble_eq_true rfl, fun H2 e2 => ?_⟩; subst e2; refine ⟨_, ⟨_, rfl, rfl⟩, fun h => absurd h (by decide), fun _ => ?_⟩; exact ⟨rfl, Nat.le_refl _, _, rfl, rfl, rfl⟩)
theorem c_MO_out {i : Nat} (hR : ∀ i, R.1 i < 256) (hi : i < R.2) (hr : R.2 ≤ 65536) : xCr l x d 0 0 mMO_out [.ref 74, .int (nI i)] (hM C cd T R P K a mb A B Z) (fun o H' => o = some (.int (nI (R.1 i))) ∧ H' = hM C 0 T R P K a mb A B Z) := by
  refine xCt.of (by decide) rfl ck_MO_out (Nat.le_of_ble_eq_true rfl) rfl ?_
  refine b_MO_out_0 ⟨fun h => absurd h (nI_pos (by omega)), fun _ => ⟨_, ⟨_, rfl, rfl⟩, fun _ => ?_, fun h => absurd ((nI_ltI (by omega) (by omega)).mpr hi) h⟩⟩
  refine ⟨_, rfl, Nat.le_of_ble_eq_true rfl, fun H2 e2 => ?_⟩
  subst e2
  refine ⟨_, ⟨_, rfl, rfl⟩, fun _ => ?_, fun h => absurd (by decide) h⟩
  refine ⟨_, ⟨_, rfl, rfl⟩, _, _, rfl, vp_in_nI (n := i) (by omega) (by decide), ?_⟩
  try dsimp only
  rw [nI_clamp (by omega)]
  refine ⟨rfl, Nat.le_refl _, _, rfl, ⟨congrArg (fun z => some (Value.int z)) (sb_byte _ (hR _)).1, rfl⟩⟩
theorem c_MO_turn_bad (h : ¬ nI R.2 ≤ 32768) : xCr l x d 0 0 mMO_turn [.ref 74] (hM C cd T R P K a mb A B Z) (fun o H' => o = some (.int 0) ∧ H' = hM C 1 T R P K a mb A B Z) := by
  refine xCt.of (by decide) rfl ck_MO_turn (Nat.le_of_ble_eq_true rfl) rfl ?_
  refine b_MO_turn_0 ⟨_, ⟨_, rfl, rfl⟩, fun h2 => absurd h2 h, fun _ => ?_⟩
  (refine ⟨_, rfl, Nat.le_of_ble_eq_true rfl, fun H2 e2 => ?_⟩; subst e2; refine ⟨_, ⟨_, rfl, rfl⟩, fun h => absurd h (by decide), fun _ => ?_⟩; exact ⟨rfl, Nat.le_refl _, _, rfl, rfl, rfl⟩)
theorem MO_turn_loop {n0 : Nat} {Q : xO → xH → Prop} (hr : R.2 ≤ 32768) (hq : Q (.inl (some (.int (nI R.2)))) (hM C cd (cpyN R.1 T.1 0 0 R.2, R.2) R P K a mb A B Z)) : ∀ (j i : Nat) (cl : Bool), i + j = R.2 → xW l x d 0 0 mMO_turn n0 Q cl 16 [some (.ref 74), some (.int (nI i))] [] (hM C cd (cpyN R.1 T.1 0 0 i, T.2) R P K a mb A B Z) 0 0 := by
  intro j
  induction j with
  | zero =>
    intro i cl hi
    have : i = R.2 := by omega
    subst this
    refine b_MO_turn_16 ⟨_, ⟨_, rfl, rfl⟩, fun _ => ⟨_, ⟨_, rfl, rfl⟩, _, rfl, Nat.le_of_ble_eq_true rfl, fun H2 e2 => ?_⟩, fun h => absurd ((nI_leI (by omega) (by omega)).mpr (Nat.le_refl _)) h⟩
    have e3 : H2 = hM C cd (cpyN R.1 T.1 0 0 R.2, R.2) R P K a mb A B Z := e2
    subst e3
    exact ⟨_, ⟨_, rfl, rfl⟩, rfl, Nat.le_refl _, hq⟩
  | succ j ih =>
    intro i cl hi
    refine b_MO_turn_16 ⟨_, ⟨_, rfl, rfl⟩, fun h => absurd ((nI_leI (by omega) (by omega)).mp h) (by omega), fun _ => ?_⟩
    refine ⟨_, ⟨_, rfl, rfl⟩, _, ⟨_, rfl, rfl⟩, _, _, rfl, vp_in_nI (n := i) (by omega) (by decide), _, _, rfl, vp_in_nI (n := i) (by omega) (by decide), fun H10 e10 => ?_⟩
    rw [nI_clamp (by omega), bF_up, cpyN_s] at e10
    have e11 : H10 = hM C cd (cpyN R.1 T.1 0 0 (i + 1), T.2) R P K a mb A B Z := e10
    subst e11
    rw [nI_1]
    exact ih (i + 1) _ (by omega)
theorem c_MO_turn (hr : R.2 ≤ 32768) : xCr l x d 0 0 mMO_turn [.ref 74] (hM C cd T R P K a mb A B Z) (fun o H' => o = some (.int (nI R.2)) ∧ H' = hM C 0 (cpyN R.1 T.1 0 0 R.2, R.2) R P K a mb A B Z) := by
  refine xCt.of (by decide) rfl ck_MO_turn (Nat.le_of_ble_eq_true rfl) rfl ?_
  refine b_MO_turn_0 ⟨_, ⟨_, rfl, rfl⟩, fun _ => ?_, fun h => absurd ((nI_leI (a := R.2) (b := 32768) (by omega) (by decide)).mpr hr) h⟩
  refine ⟨_, rfl, Nat.le_of_ble_eq_true rfl, fun H2 e2 => ?_⟩
  have e3 : H2 = hM C 0 (cpyN R.1 T.1 0 0 0, T.2) R P K a mb A B Z := by rw [cpyN_0]; exact e2
  subst e3
  refine ⟨_, ⟨_, rfl, rfl⟩, fun _ => ?_, fun h => absurd (by decide) h⟩
  exact MO_turn_loop (cd := 0) (T := T) hr ⟨_, rfl, rfl, rfl⟩ R.2 0 _ (by omega)
theorem c_MO_block1 {v w : Int32} (h : v < 0 ∨ nI P.2.2.1 ≤ v ∨ ¬ v ≤ 63) : xCr l x d 0 0 mMO_block [.ref 74, .int v, .int w] (hM C cd T R P K a mb A B Z) (fun o H' => o = some (.int 0) ∧ H' = hM C 1 T R P K a mb A B Z) := by
  refine xCt.of (by decide) rfl ck_MO_block (Nat.le_of_ble_eq_true rfl) rfl ?_
  refine b_MO_block_0 ⟨fun _ => b_MO_block_20 ?_, fun h1 => ⟨_, ⟨_, rfl, rfl⟩, fun _ => b_MO_block_20 ?_, fun h2 => ⟨fun h3 => absurd h (by rintro (h | h | h); exact h1 h; exact h2 h; exact h h3), fun _ => b_MO_block_20 ?_⟩⟩⟩
  · (refine ⟨_, rfl, Nat.le_of_ble_eq_true rfl, fun H2 e2 => ?_⟩; subst e2; refine ⟨_, ⟨_, rfl, rfl⟩, fun h => absurd h (by decide), fun _ => ?_⟩; exact ⟨rfl, Nat.le_refl _, _, rfl, rfl, rfl⟩)
  · (refine ⟨_, rfl, Nat.le_of_ble_eq_true rfl, fun H2 e2 => ?_⟩; subst e2; refine ⟨_, ⟨_, rfl, rfl⟩, fun h => absurd h (by decide), fun _ => ?_⟩; exact ⟨rfl, Nat.le_refl _, _, rfl, rfl, rfl⟩)
  · (refine ⟨_, rfl, Nat.le_of_ble_eq_true rfl, fun H2 e2 => ?_⟩; subst e2; refine ⟨_, ⟨_, rfl, rfl⟩, fun h => absurd h (by decide), fun _ => ?_⟩; exact ⟨rfl, Nat.le_refl _, _, rfl, rfl, rfl⟩)
theorem c_MO_block2 {v w : Int32} (h1 : ¬ v < 0) (h2 : ¬ nI P.2.2.1 ≤ v) (h3 : v ≤ 63) (h : w < 0 ∨ ¬ w ≤ 3) : xCr l x d 0 0 mMO_block [.ref 74, .int v, .int w] (hM C cd T R P K a mb A B Z) (fun o H' => o = some (.int 0) ∧ H' = hM C 2 T R P K a mb A B Z) := by
  refine xCt.of (by decide) rfl ck_MO_block (Nat.le_of_ble_eq_true rfl) rfl ?_
  refine b_MO_block_0 ⟨fun h => absurd h h1, fun _ => ⟨_, ⟨_, rfl, rfl⟩, fun h => absurd h h2, fun _ => ⟨fun _ => ⟨fun _ => b_MO_block_20 ?_, fun h4 => ⟨fun h5 => absurd h (by rintro (h | h); exact h4 h; exact h h5), fun _ => b_MO_block_20 ?_⟩⟩, fun h => absurd h3 h⟩⟩⟩
  · (refine ⟨_, rfl, Nat.le_of_ble_eq_true rfl, fun H2 e2 => ?_⟩; subst e2; refine ⟨_, ⟨_, rfl, rfl⟩, fun h => absurd h (by decide), fun _ => ?_⟩; exact ⟨rfl, Nat.le_refl _, _, rfl, rfl, rfl⟩)
  · (refine ⟨_, rfl, Nat.le_of_ble_eq_true rfl, fun H2 e2 => ?_⟩; subst e2; refine ⟨_, ⟨_, rfl, rfl⟩, fun h => absurd h (by decide), fun _ => ?_⟩; exact ⟨rfl, Nat.le_refl _, _, rfl, rfl, rfl⟩)
theorem c_MO_block {i w : Nat} {td : Nat → Nat} (hi : i < P.2.2.1) (hi2 : i < 64) (hw : w < 4) (hbl : P.2.2.1 < 2 ^ 20) : xCr l x d 0 0 mMO_block [.ref 74, .int (nI i), .int (nI w)] (hM C cd T R P (K4 td) a mb A B Z) (fun o H' => o = some (.int (nI (td (4 * i + w)))) ∧ H' = hM C 0 T R P (K4 td) a mb A B Z) := by
  refine xCt.of (by decide) rfl ck_MO_block (Nat.le_of_ble_eq_true rfl) rfl ?_
  refine b_MO_block_0 ⟨fun h => absurd h (nI_pos (by omega)), fun _ => ⟨_, ⟨_, rfl, rfl⟩, fun h => absurd ((nI_leI (a := P.2.2.1) (b := i) (by omega) (by omega)).mp h) (by omega), fun _ => ⟨fun _ => ⟨fun h => absurd h (nI_pos (by omega)), fun _ => ⟨fun _ => b_MO_block_20 ?_, fun h => absurd ((nI_leI (a := w) (b := 3) (by omega) (by omega)).mpr (by omega)) h⟩⟩, fun h => absurd ((nI_leI (a := i) (b := 63) (by omega) (by omega)).mpr (by omega)) h⟩⟩⟩
  refine ⟨_, rfl, Nat.le_of_ble_eq_true rfl, fun H2 e2 => ?_⟩
  have e3 : H2 = hM C 0 T R P (K4 td) a mb A B Z := e2
  subst e3
  refine ⟨_, ⟨_, rfl, rfl⟩, fun _ => ?_, fun h => absurd (by decide) h⟩
  have hcw : w = 0 ∨ w = 1 ∨ w = 2 ∨ w = 3 := by omega
  rcases hcw with rfl | rfl | rfl | rfl
  · refine ⟨fun h => absurd rfl h, fun _ => ⟨_, ⟨_, rfl, rfl⟩, _, _, rfl, vp_in_nI (n := i) (by omega) (by decide), b_MO_block_53 ?_⟩⟩
    try dsimp only
    rw [nI_clamp (by omega)]
    refine ⟨rfl, Nat.le_refl _, _, rfl, ⟨rfl, rfl⟩⟩
  · refine ⟨fun _ => ⟨fun h => absurd rfl h, fun _ => ⟨_, ⟨_, rfl, rfl⟩, _, _, rfl, vp_in_nI (n := i) (by omega) (by decide), b_MO_block_53 ?_⟩⟩, fun h => absurd h (by decide)⟩
    try dsimp only
    rw [nI_clamp (by omega)]
    refine ⟨rfl, Nat.le_refl _, _, rfl, ⟨rfl, rfl⟩⟩
  · refine ⟨fun _ => ⟨fun _ => ⟨fun h => absurd rfl h, fun _ => ⟨_, ⟨_, rfl, rfl⟩, _, _, rfl, vp_in_nI (n := i) (by omega) (by decide), b_MO_block_53 ?_⟩⟩, fun h => absurd h (by decide)⟩, fun h => absurd h (by decide)⟩
    try dsimp only
    rw [nI_clamp (by omega)]
    refine ⟨rfl, Nat.le_refl _, _, rfl, ⟨rfl, rfl⟩⟩
  · refine ⟨fun _ => ⟨fun _ => ⟨fun _ => ⟨_, ⟨_, rfl, rfl⟩, _, _, rfl, vp_in_nI (n := i) (by omega) (by decide), b_MO_block_53 ?_⟩, fun h => absurd h (by decide)⟩, fun h => absurd h (by decide)⟩, fun h => absurd h (by decide)⟩
    try dsimp only
    rw [nI_clamp (by omega)]
    refine ⟨rfl, Nat.le_refl _, _, rfl, ⟨rfl, rfl⟩⟩
end MCalls
