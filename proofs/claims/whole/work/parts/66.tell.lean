/-! how the codes of a block are told -/
abbrev tS : Type := Nat × (Nat → Nat) × (Nat → Nat)
def tel (s : tS) (y m : Nat) : tS := (s.1 + 1, nup s.2.1 s.1 y, nup s.2.2 s.1 m)
def rpt (v : Nat) : Nat → tS → tS
  | 0, s => s
  | k + 1, s => rpt v k (tel s v 0)
def mn (a b : Nat) : Nat := if a ≤ b then a else b
def trl (v : Nat) : Nat → Nat → tS → tS
  | 0, left, s => rpt v left s
  | f + 1, left, s => if left < 3 then rpt v left s else if v ≠ 0 then trl v f (left - mn left 6) (tel s 16 (mn left 6 - 3)) else if left < 11 then tel s 17 (left - 3) else trl v f (left - mn left 138) (tel s 18 (mn left 138 - 11))
theorem trl_f (v : Nat) : ∀ f f' left s, left ≤ f → left ≤ f' → trl v f left s = trl v f' left s := by
  intro f
  induction f with
  | zero =>
    intro f' left s h1 h2
    have : left = 0 := by omega
    subst this
    cases f' with
    | zero => rfl
    | succ f' => unfold trl; rw [if_pos (by decide)]
  | succ f ih =>
    intro f' left s h1 h2
    cases f' with
    | zero =>
      have : left = 0 := by omega
      subst this
      unfold trl
      rw [if_pos (by decide)]
    | succ f' =>
      have a : 3 ≤ left → 3 ≤ mn left 6 := fun h => by unfold mn; split <;> omega
      have b : 3 ≤ left → 3 ≤ mn left 138 := fun h => by unfold mn; split <;> omega
      unfold trl
      split
      · rfl
      split
      · exact ih _ _ _ (by omega) (by omega)
      split
      · rfl
      · exact ih _ _ _ (by omega) (by omega)
def rl (g : Nat → Nat) (k : Nat) : Nat → Nat → Nat
  | 0, m => m
  | f + 1, m => if g (k + m) = g k then rl g k f (m + 1) else m
theorem rl_ge (g : Nat → Nat) (k : Nat) : ∀ f m, m ≤ rl g k f m ∧ rl g k f m ≤ m + f := by
  intro f
  induction f with
  | zero => intro m; exact ⟨Nat.le_refl _, Nat.le_refl _⟩
  | succ f ih => intro m; unfold rl; split; have := ih (m + 1); omega; omega
theorem rl_eq {g : Nat → Nat} {k : Nat} : ∀ f m i, m ≤ i → i < rl g k f m → g (k + i) = g k := by
  intro f
  induction f with
  | zero => intro m i h1 h2; unfold rl at h2; omega
  | succ f ih =>
    intro m i h1 h2
    unfold rl at h2
    split at h2
    · rename_i h
      by_cases hi : i = m
      · rw [hi]; exact h
      · exact ih (m + 1) i (by omega) h2
    · omega
theorem rl_ne {g : Nat → Nat} {k : Nat} : ∀ f m, rl g k f m < m + f → g (k + rl g k f m) ≠ g k := by
  intro f
  induction f with
  | zero => intro m h; unfold rl at h; omega
  | succ f ih =>
    intro m h
    unfold rl at h ⊢
    split
    · rename_i h2
      rw [if_pos h2] at h
      exact ih (m + 1) (by omega)
    · rename_i h2
      exact h2
/-- how many equal ones begin at k, of n -/
def run (g : Nat → Nat) (n k : Nat) : Nat := rl g k (n - k) 0
theorem run_ok {g : Nat → Nat} {n k : Nat} (h : k < n) : 1 ≤ run g n k ∧ k + run g n k ≤ n := by
  unfold run
  have a := rl_ge g k (n - k) 0
  refine ⟨?_, by omega⟩
  obtain ⟨f, hf⟩ : ∃ f, n - k = f + 1 := ⟨n - k - 1, by omega⟩
  rw [hf]
  unfold rl
  rw [if_pos (by rw [Nat.add_zero])]
  have := rl_ge g k f (0 + 1)
  omega
theorem run_eq {g : Nat → Nat} {n k i : Nat} (h : i < run g n k) : g (k + i) = g k := rl_eq _ _ _ (Nat.zero_le _) h
theorem run_ne {g : Nat → Nat} {n k : Nat} (h : k + run g n k < n) : g (k + run g n k) ≠ g k := by
  unfold run at h ⊢
  exact rl_ne _ _ (by omega)
/-- a run is what it is by its end -/
theorem run_is {g : Nat → Nat} {n k m : Nat} (h1 : k + m ≤ n) (h2 : ∀ i, i < m → g (k + i) = g k) (h3 : k + m < n → g (k + m) ≠ g k) : run g n k = m := by
  by_cases a : run g n k < m
  · have := run_ne (g := g) (n := n) (k := k) (by omega)
    exact absurd (h2 _ a) this
  · by_cases b : m < run g n k
    · have hk : k < n := by
        have := rl_ge g k (n - k) 0
        unfold run at b
        omega
      have := run_ok (g := g) hk
      exact absurd (run_eq b) (h3 (by omega))
    · omega
theorem run_rest {g : Nat → Nat} {n k m : Nat} (hk : k < n) (h : m < run g n k) : run g n (k + m) = run g n k - m := by
  have a := run_ok (g := g) hk
  refine run_is (by omega) (fun i hi => ?_) (fun hlt => ?_)
  · rw [Nat.add_assoc, run_eq (g := g) (n := n) (k := k) (i := m + i) (by omega), run_eq h]
  · rw [show k + m + (run g n k - m) = k + run g n k by omega, run_eq h]
    exact run_ne (by omega)
def trun (v m : Nat) (s : tS) : tS := if v = 0 then trl 0 m m s else trl v m (m - 1) (tel s v 0)
def trow (g : Nat → Nat) (n : Nat) : Nat → Nat → tS → tS
  | 0, _, s => s
  | f + 1, k, s => if k < n then trow g n f (k + run g n k) (trun (g k) (run g n k) s) else s
theorem trow_f (g : Nat → Nat) (n : Nat) : ∀ f f' k s, n - k ≤ f → n - k ≤ f' → trow g n f k s = trow g n f' k s := by
  intro f
  induction f with
  | zero =>
    intro f' k s h1 h2
    cases f' with
    | zero => rfl
    | succ f' => unfold trow; rw [if_neg (by omega)]
  | succ f ih =>
    intro f' k s h1 h2
    cases f' with
    | zero => unfold trow; rw [if_neg (by omega)]
    | succ f' =>
      unfold trow
      by_cases hk : k < n
      · rw [if_pos hk, if_pos hk]
        have := run_ok (g := g) hk
        exact ih _ _ _ (by omega) (by omega)
      · rw [if_neg hk, if_neg hk]
def told (g : Nat → Nat) (n : Nat) : tS := trow g n n 0 (0, fun _ => 0, fun _ => 0)
/-- no more are told than there are; all symbols are below 19, all numbers below 128 -/
def tsm (s : tS) : Prop := ∀ i, i < s.1 → s.2.1 i < 19 ∧ s.2.2 i < 128 ∧ (s.2.1 i < 16 → s.2.2 i = 0) ∧ (s.2.1 i = 16 → s.2.2 i < 4) ∧ (s.2.1 i = 17 → s.2.2 i < 8)
theorem tel_sm {s : tS} {y m : Nat} (h : tsm s) (hy : y < 19 ∧ m < 128 ∧ (y < 16 → m = 0) ∧ (y = 16 → m < 4) ∧ (y = 17 → m < 8)) : tsm (tel s y m) := by
  intro i hi
  have hi : i < s.1 + 1 := hi
  show nup s.2.1 s.1 y i < 19 ∧ nup s.2.2 s.1 m i < 128 ∧ (nup s.2.1 s.1 y i < 16 → nup s.2.2 s.1 m i = 0) ∧ (nup s.2.1 s.1 y i = 16 → nup s.2.2 s.1 m i < 4) ∧ (nup s.2.1 s.1 y i = 17 → nup s.2.2 s.1 m i < 8)
  unfold nup
  split
  · exact hy
  · exact h i (by omega)
theorem rpt_ok {v : Nat} (hv : v < 16) : ∀ k s, tsm s → tsm (rpt v k s) ∧ (rpt v k s).1 = s.1 + k := by
  intro k
  induction k with
  | zero => intro s h; exact ⟨h, rfl⟩
  | succ k ih =>
    intro s h
    have := ih (tel s v 0) (tel_sm h ⟨by omega, by decide, fun _ => rfl, fun _ => by decide, fun _ => by decide⟩)
    exact ⟨this.1, by have h2 := this.2; show (rpt v k (tel s v 0)).1 = _; rw [h2]; show s.1 + 1 + k = _; omega⟩
theorem trl_ok {v : Nat} (hv : v < 16) : ∀ f left s, tsm s → tsm (trl v f left s) ∧ (trl v f left s).1 ≤ s.1 + left := by
  intro f
  induction f with
  | zero => intro left s h; have := rpt_ok hv left s h; exact ⟨this.1, by show (rpt v left s).1 ≤ _; omega⟩
  | succ f ih =>
    intro left s h
    have a : 3 ≤ left → 3 ≤ mn left 6 ∧ mn left 6 ≤ 6 ∧ mn left 6 ≤ left := fun h => by unfold mn; split <;> omega
    have b : 11 ≤ left → 11 ≤ mn left 138 ∧ mn left 138 ≤ 138 ∧ mn left 138 ≤ left := fun h => by unfold mn; split <;> omega
    unfold trl
    split
    · have := rpt_ok hv left s h; exact ⟨this.1, by omega⟩
    split
    · have := ih (left - mn left 6) (tel s 16 (mn left 6 - 3)) (tel_sm h ⟨by decide, by omega, fun h => by omega, fun _ => by omega, fun h => by omega⟩)
      exact ⟨this.1, by have h2 := this.2; have h3 : (tel s 16 (mn left 6 - 3)).1 = s.1 + 1 := rfl; omega⟩
    split
    · exact ⟨tel_sm h ⟨by decide, by omega, fun h => by omega, fun h => by omega, fun _ => by omega⟩, by show s.1 + 1 ≤ _; omega⟩
    · have := ih (left - mn left 138) (tel s 18 (mn left 138 - 11)) (tel_sm h ⟨by decide, by omega, fun h => by omega, fun h => by omega, fun h => by omega⟩)
      exact ⟨this.1, by have h2 := this.2; have h3 : (tel s 18 (mn left 138 - 11)).1 = s.1 + 1 := rfl; omega⟩
theorem trun_ok {v m : Nat} (hv : v < 16) (hm : 1 ≤ m) {s : tS} (h : tsm s) : tsm (trun v m s) ∧ (trun v m s).1 ≤ s.1 + m := by
  unfold trun
  split
  · exact trl_ok (by decide) _ _ _ h
  · have := trl_ok hv m (m - 1) (tel s v 0) (tel_sm h ⟨by omega, by decide, fun _ => rfl, fun _ => by decide, fun _ => by decide⟩)
    exact ⟨this.1, by have h2 := this.2; have h3 : (tel s v 0).1 = s.1 + 1 := rfl; omega⟩
theorem trow_ok {g : Nat → Nat} {n : Nat} (hg : ∀ i, i < n → g i < 16) : ∀ f k s, tsm s → s.1 ≤ k → k ≤ n → tsm (trow g n f k s) ∧ (trow g n f k s).1 ≤ n := by
  intro f
  induction f with
  | zero => intro k s h h2 h3; exact ⟨h, by show s.1 ≤ n; omega⟩
  | succ f ih =>
    intro k s h h2 h3
    unfold trow
    split
    · rename_i hk
      have r := run_ok (g := g) hk
      have t := trun_ok (hg k hk) r.1 h
      exact ih _ _ t.1 (by omega) (by omega)
    · exact ⟨h, by omega⟩
def tOK (s : tS) (ts tn : wF) : Prop := ∀ i, i < s.1 → ts i = nI (s.2.1 i) ∧ tn i = nI (s.2.2 i)
theorem tOK.tel {s : tS} {ts tn : wF} {y m : Nat} (h : tOK s ts tn) : tOK (tel s y m) (upd ts s.1 (nI y)) (upd tn s.1 (nI m)) := by
  intro i hi
  have hi : i < s.1 + 1 := hi
  show upd ts s.1 (nI y) i = nI (nup s.2.1 s.1 y i) ∧ upd tn s.1 (nI m) i = nI (nup s.2.2 s.1 m i)
  unfold upd nup
  by_cases a : i = s.1
  · rw [if_pos a, if_pos a, if_pos a, if_pos a]; exact ⟨rfl, rfl⟩
  · rw [if_neg a, if_neg a, if_neg a, if_neg a]; exact h i (by omega)
section Tell
variable {l : Launch} {x : xX} {d : Nat} {s0 : va_E} {T R : wRow} {P : wRep} {k1 : Nat × Nat × Nat × Nat} {k2 k3 : wWC} {mL mD mK : Nat} {WL WD WK : wWC} {we : wWE} {row ts tn tw : wF} {k5 : wF × wF × wF × wF} {k6 : wFI} {hd : Nat × Nat} {u : wUN} {Z : xH} {s : tS}
theorem c_MC_tell {y m : Nat} (hs : tOK s ts tn) (hcq : s.1 < 316) : xCr l x d 0 0 mMC_tell [.ref 20, .int (nI y), .int (nI m)] (hc s0 T R P (k1, k2, k3, (s.1, mL, mD, mK, WL, WD, WK, we, row, ts, tn, tw), k5, k6, hd) u Z) (fun o H' => o = none ∧ ∃ ts' tn', tOK (tel s y m) ts' tn' ∧ H' = hc s0 T R P (k1, k2, k3, ((tel s y m).1, mL, mD, mK, WL, WD, WK, we, row, ts', tn', tw), k5, k6, hd) u Z) := by
  refine xCt.of (by decide) rfl ck_MC_tell (Nat.le_of_ble_eq_true rfl) rfl ?_
  refine b_MC_tell_0 ⟨_, ⟨_, rfl, rfl⟩, _, ⟨_, rfl, rfl⟩, _, _, rfl, Nat.le_of_ble_eq_true rfl, (by (try simp (disch := omega) only [nI_lit, nI_fold, nI_mul, nI_add, pk_sub, pk_div, nI_shrN, nI_clamp]); (with_reducible refine vp_in_nI ?_ ?_) <;> omega), fun H5 e5 => ?_⟩
  try simp (disch := omega) only [nI_lit, nI_fold, nI_mul, nI_add, pk_sub, pk_div, nI_shrN, nI_clamp] at e5
  subst e5
  refine ⟨_, ⟨_, rfl, rfl⟩, _, ⟨_, rfl, rfl⟩, _, _, rfl, Nat.le_of_ble_eq_true rfl, (by (try simp (disch := omega) only [nI_lit, nI_fold, nI_mul, nI_add, pk_sub, pk_div, nI_shrN, nI_clamp]); (with_reducible refine vp_in_nI ?_ ?_) <;> omega), fun H10 e10 => ?_⟩
  try simp (disch := omega) only [nI_lit, nI_fold, nI_mul, nI_add, pk_sub, pk_div, nI_shrN, nI_clamp] at e10
  subst e10
  refine ⟨_, ⟨_, rfl, rfl⟩, _, rfl, Nat.le_of_ble_eq_true rfl, fun H13 e13 => ?_⟩
  try simp (disch := omega) only [nI_lit, nI_fold, nI_mul, nI_add, pk_sub, pk_div, nI_shrN, nI_clamp] at e13
  subst e13
  refine ⟨rfl, Nat.le_refl _, _, rfl, ⟨rfl, _, _, hs.tel, rfl⟩⟩
theorem c_MC_tellRun {v m : Nat} (hv : v < 16) (hm : 1 ≤ m) (hm2 : m ≤ 316) (hs : tOK s ts tn) (hsm : tsm s) (hcq : s.1 + m ≤ 316) : xCr l x 1 0 0 mMC_tellRun [.ref 20, .int (nI v), .int (nI m)] (hc s0 T R P (k1, k2, k3, (s.1, mL, mD, mK, WL, WD, WK, we, row, ts, tn, tw), k5, k6, hd) u Z) (fun o H' => o = none ∧ ∃ ts' tn', tOK (trun v m s) ts' tn' ∧ H' = hc s0 T R P (k1, k2, k3, ((trun v m s).1, mL, mD, mK, WL, WD, WK, we, row, ts', tn', tw), k5, k6, hd) u Z) := by
  refine xCt.of (by decide) rfl ck_MC_tellRun (Nat.le_of_ble_eq_true rfl) rfl ?_
  generalize List.length (hc s0 T R P (k1, k2, k3, (s.1, mL, mD, mK, WL, WD, WK, we, row, ts, tn, tw), k5, k6, hd) u Z) = n0
  generalize hF : trun v m s = F
  have k58 : ∀ (j i left : Nat) (s : tS) (ts tn : wF) (cl : Bool), i + j = left → left < 400 → tOK s ts tn → tsm s → s.1 + j ≤ 316 → rpt v j s = F → xW l x 1 0 0 mMC_tellRun n0 (fun r H' => ∃ o, r = Sum.inl o ∧ o = none ∧ ∃ ts' tn', tOK F ts' tn' ∧ H' = hc s0 T R P (k1, k2, k3, (F.1, mL, mD, mK, WL, WD, WK, we, row, ts', tn', tw), k5, k6, hd) u Z) cl 58 [some (.ref 20), some (.int (nI v)), some (.int (nI m)), some (.int (nI left)), some (.int (nI i))] [] (hc s0 T R P (k1, k2, k3, (s.1, mL, mD, mK, WL, WD, WK, we, row, ts, tn, tw), k5, k6, hd) u Z) 0 0 := by
    intro j
    induction j with
    | zero =>
      intro i left s ts tn cl hi hl hs hsm hcq hz
      have hz : s = F := hz
      subst hz
      refine b_MC_tellRun_58 ?_
      refine ⟨fun hb => ?_, fun hb => ?_⟩ <;> (try simp (disch := omega) only [nI_lit, nI_fold, nI_mul, nI_add, pk_sub, pk_div, nI_shrN, nI_clamp, nI_leI, nI_ltI, nI_eq, not_true_eq_false, not_false_eq_true, Bool.false_eq_true, if_true, if_false, nI_nem, nI_m1, nI_m7, nI_m15, nI_m32, nI_m4, nI_m8, nI_m16, nI_m2] at hb) <;> (try omega)
      refine ⟨rfl, Nat.le_refl _, _, rfl, ⟨rfl, ts, tn, hs, rfl⟩⟩
    | succ j ih =>
      intro i left s ts tn cl hi hl hs hsm hcq hz
      refine b_MC_tellRun_58 ?_
      refine ⟨fun hb => ?_, fun hb => ?_⟩ <;> (try simp (disch := omega) only [nI_lit, nI_fold, nI_mul, nI_add, pk_sub, pk_div, nI_shrN, nI_clamp, nI_leI, nI_ltI, nI_eq, not_true_eq_false, not_false_eq_true, Bool.false_eq_true, if_true, if_false, nI_nem, nI_m1, nI_m7, nI_m15, nI_m32, nI_m4, nI_m8, nI_m16, nI_m2] at hb) <;> (try omega)
      refine xs_callV rfl lk_3_110 (d' := 0) (c_MC_tell (s := s) (y := v) (m := 0) hs (by omega)) (Nat.le_of_ble_eq_true rfl) rfl rfl rfl rfl rfl (Nat.le_of_ble_eq_true rfl) (by omega) (by omega) ?_
      rintro _ H1 ⟨rfl, ts', tn', hs', rfl⟩
      refine b_MC_tellRun_65 ?_
      rw [nI_1]
      exact ih (i + 1) left (tel s v 0) ts' tn' false (by omega) hl hs' (tel_sm hsm ⟨by omega, by decide, fun _ => rfl, fun _ => by decide, fun _ => by decide⟩) (by show s.1 + 1 + j ≤ 316; omega) hz
  have k9 : ∀ (f left : Nat) (s : tS) (ts tn : wF) (L4 : Option Value) (cl : Bool), left ≤ f → left < 400 → tOK s ts tn → tsm s → s.1 + left ≤ 316 → trl v f left s = F → xW l x 1 0 0 mMC_tellRun n0 (fun r H' => ∃ o, r = Sum.inl o ∧ o = none ∧ ∃ ts' tn', tOK F ts' tn' ∧ H' = hc s0 T R P (k1, k2, k3, (F.1, mL, mD, mK, WL, WD, WK, we, row, ts', tn', tw), k5, k6, hd) u Z) cl 9 [some (.ref 20), some (.int (nI v)), some (.int (nI m)), some (.int (nI left)), L4] [] (hc s0 T R P (k1, k2, k3, (s.1, mL, mD, mK, WL, WD, WK, we, row, ts, tn, tw), k5, k6, hd) u Z) 0 0 := by
    intro f
    induction f with
    | zero =>
      intro left s ts tn L4 cl hf hl hs hsm hcq hz
      refine xW.fgt 4 ?_
      refine b_MC_tellRun_9 ?_
      refine ⟨fun hb => ?_, fun hb => ?_⟩ <;> (try simp (disch := omega) only [nI_lit, nI_fold, nI_mul, nI_add, pk_sub, pk_div, nI_shrN, nI_clamp, nI_leI, nI_ltI, nI_eq, not_true_eq_false, not_false_eq_true, Bool.false_eq_true, if_true, if_false, nI_nem, nI_m1, nI_m7, nI_m15, nI_m32, nI_m4, nI_m8, nI_m16, nI_m2] at hb) <;> (try omega)
      exact k58 left 0 left s ts tn cl (by omega) hl hs hsm hcq hz
    | succ f ih =>
      intro left s ts tn L4 cl hf hl hs hsm hcq hz
      unfold trl at hz
      refine xW.fgt 4 ?_
      refine b_MC_tellRun_9 ?_
      refine ⟨fun hb => ?_, fun hb => ?_⟩ <;> (try simp (disch := omega) only [nI_lit, nI_fold, nI_mul, nI_add, pk_sub, pk_div, nI_shrN, nI_clamp, nI_leI, nI_ltI, nI_eq, not_true_eq_false, not_false_eq_true, Bool.false_eq_true, if_true, if_false, nI_nem, nI_m1, nI_m7, nI_m15, nI_m32, nI_m4, nI_m8, nI_m16, nI_m2] at hb) <;> (try omega)
      · rw [if_pos hb] at hz
        exact k58 left 0 left s ts tn cl (by omega) hl hs hsm hcq hz
      rw [if_neg hb] at hz
      refine ⟨fun hd => ?_, fun hd => ?_⟩ <;> (try simp (disch := omega) only [nI_lit, nI_fold, nI_mul, nI_add, pk_sub, pk_div, nI_shrN, nI_clamp, nI_leI, nI_ltI, nI_eq, not_true_eq_false, not_false_eq_true, Bool.false_eq_true, if_true, if_false, nI_nem, nI_m1, nI_m7, nI_m15, nI_m32, nI_m4, nI_m8, nI_m16, nI_m2] at hd) <;> (try omega)
      · rw [if_neg (by omega)] at hz
        refine ⟨fun he => ?_, fun he => ?_⟩ <;> (try simp (disch := omega) only [nI_lit, nI_fold, nI_mul, nI_add, pk_sub, pk_div, nI_shrN, nI_clamp, nI_leI, nI_ltI, nI_eq, not_true_eq_false, not_false_eq_true, Bool.false_eq_true, if_true, if_false, nI_nem, nI_m1, nI_m7, nI_m15, nI_m32, nI_m4, nI_m8, nI_m16, nI_m2] at he) <;> (try omega)
        · rw [if_pos he] at hz
          rw [show nI left - 3 = nI (left - 3) by rw [show (3 : Int32) = nI 3 from rfl, nI_sub (by omega)]]
          refine xs_callV rfl lk_3_110 (d' := 0) (c_MC_tell (s := s) (y := 17) (m := left - 3) hs (by omega)) (Nat.le_of_ble_eq_true rfl) rfl rfl rfl rfl rfl (Nat.le_of_ble_eq_true rfl) (by omega) (by omega) ?_
          rintro _ H1 ⟨rfl, ts', tn', hs', rfl⟩
          refine b_MC_tellRun_53 ?_
          subst hz
          refine b_MC_tellRun_9 ⟨fun _ => ?_, fun h => absurd (by decide) h⟩
          exact k58 0 0 0 _ ts' tn' false rfl (by decide) hs' (tel_sm hsm ⟨by decide, by omega, fun h => by omega, fun h => by omega, fun _ => by omega⟩) (by show s.1 + 1 + 0 ≤ 316; omega) rfl
        · rw [if_neg he] at hz
          have hmn : (if nI left ≤ (138 : Int32) then nI left else 138) = nI (mn left 138) := by
            unfold mn
            by_cases h3 : left ≤ 138
            · rw [if_pos h3, if_pos (by rw [show (138 : Int32) = nI 138 from rfl, nI_leI (by omega) (by omega)]; exact h3)]
            · rw [if_neg h3, if_neg (by rw [show (138 : Int32) = nI 138 from rfl, nI_leI (by omega) (by omega)]; exact h3)]; rfl
          have hmb : 11 ≤ mn left 138 ∧ mn left 138 ≤ 138 ∧ mn left 138 ≤ left := by unfold mn; split <;> omega
          generalize mn left 138 = q at hmn hmb hz
          refine xs_callS rfl lk_3_113 (d' := 0) (c_MA_min) (Nat.le_of_ble_eq_true rfl) rfl rfl (Nat.le_of_ble_eq_true rfl) (by omega) (by omega) ?_
          rintro _ H1 ⟨rfl, rfl⟩
          rw [hmn]
          refine b_MC_tellRun_35 ?_
          rw [show nI q - 11 = nI (q - 11) by rw [show (11 : Int32) = nI 11 from rfl, nI_sub (by omega)]]
          refine xs_callV rfl lk_3_110 (d' := 0) (c_MC_tell (s := s) (y := 18) (m := q - 11) hs (by omega)) (Nat.le_of_ble_eq_true rfl) rfl rfl rfl rfl rfl (Nat.le_of_ble_eq_true rfl) (by omega) (by omega) ?_
          rintro _ H1 ⟨rfl, ts', tn', hs', rfl⟩
          refine b_MC_tellRun_42 ?_
          rw [nI_sub (by omega)]
          exact ih (left - q) _ ts' tn' _ false (by omega) (by omega) hs' (tel_sm hsm ⟨by decide, by omega, fun h => by omega, fun h => by omega, fun h => by omega⟩) (by show s.1 + 1 + (left - q) ≤ 316; omega) hz
      · rw [if_pos (by omega)] at hz
        have hmn : (if nI left ≤ (6 : Int32) then nI left else 6) = nI (mn left 6) := by
          unfold mn
          by_cases h3 : left ≤ 6
          · rw [if_pos h3, if_pos (by rw [show (6 : Int32) = nI 6 from rfl, nI_leI (by omega) (by omega)]; exact h3)]
          · rw [if_neg h3, if_neg (by rw [show (6 : Int32) = nI 6 from rfl, nI_leI (by omega) (by omega)]; exact h3)]; rfl
        have hmb : 3 ≤ mn left 6 ∧ mn left 6 ≤ 6 ∧ mn left 6 ≤ left := by unfold mn; split <;> omega
        generalize mn left 6 = q at hmn hmb hz
        refine xs_callS rfl lk_3_113 (d' := 0) (c_MA_min) (Nat.le_of_ble_eq_true rfl) rfl rfl (Nat.le_of_ble_eq_true rfl) (by omega) (by omega) ?_
        rintro _ H1 ⟨rfl, rfl⟩
        rw [hmn]
        refine b_MC_tellRun_17 ?_
        rw [show nI q - 3 = nI (q - 3) by rw [show (3 : Int32) = nI 3 from rfl, nI_sub (by omega)]]
        refine xs_callV rfl lk_3_110 (d' := 0) (c_MC_tell (s := s) (y := 16) (m := q - 3) hs (by omega)) (Nat.le_of_ble_eq_true rfl) rfl rfl rfl rfl rfl (Nat.le_of_ble_eq_true rfl) (by omega) (by omega) ?_
        rintro _ H1 ⟨rfl, ts', tn', hs', rfl⟩
        refine b_MC_tellRun_24 ?_
        rw [nI_sub (by omega)]
        exact ih (left - q) _ ts' tn' _ false (by omega) (by omega) hs' (tel_sm hsm ⟨by decide, by omega, fun h => by omega, fun _ => by omega, fun h => by omega⟩) (by show s.1 + 1 + (left - q) ≤ 316; omega) hz
  unfold trun at hF
  refine b_MC_tellRun_0 ?_
  refine ⟨fun hb => ?_, fun hb => ?_⟩ <;> (try simp (disch := omega) only [nI_lit, nI_fold, nI_mul, nI_add, pk_sub, pk_div, nI_shrN, nI_clamp, nI_leI, nI_ltI, nI_eq, not_true_eq_false, not_false_eq_true, Bool.false_eq_true, if_true, if_false, nI_nem, nI_m1, nI_m7, nI_m15, nI_m32, nI_m4, nI_m8, nI_m16, nI_m2] at hb) <;> (try omega)
  · rw [if_pos hb] at hF
    rw [hb] at k9
    rw [hb]
    exact k9 m m s ts tn none true (Nat.le_refl _) (by omega) hs hsm (by omega) hF
  · rw [if_neg hb] at hF
    refine xs_callV rfl lk_3_110 (d' := 0) (c_MC_tell (s := s) (y := v) (m := 0) hs (by omega)) (Nat.le_of_ble_eq_true rfl) rfl rfl rfl rfl rfl (Nat.le_of_ble_eq_true rfl) (by omega) (by omega) ?_
    rintro _ H1 ⟨rfl, ts', tn', hs', rfl⟩
    refine b_MC_tellRun_8 ?_
    rw [mI_d, show nI m - 1 = nI (m - 1) by rw [show (1 : Int32) = nI 1 from rfl, nI_sub (by omega)]]
    exact k9 m (m - 1) _ ts' tn' none false (by omega) (by omega) hs' (tel_sm hsm ⟨by omega, by decide, fun _ => rfl, fun _ => by decide, fun _ => by decide⟩) (by show s.1 + 1 + (m - 1) ≤ 316; omega) hF
theorem c_MC_tellRow {g : Nat → Nat} {n : Nat} {tc0 : Nat} (hn : n ≤ 316) (hn1 : 1 ≤ n) (hg : ∀ i, i < n → row i = nI (g i) ∧ g i < 16) : xCr l x 2 0 0 mMC_tellRow [.ref 20, .int (nI n)] (hc s0 T R P (k1, k2, k3, (tc0, mL, mD, mK, WL, WD, WK, we, row, ts, tn, tw), k5, k6, hd) u Z) (fun o H' => o = none ∧ ∃ ts' tn', tOK (told g n) ts' tn' ∧ H' = hc s0 T R P (k1, k2, k3, ((told g n).1, mL, mD, mK, WL, WD, WK, we, row, ts', tn', tw), k5, k6, hd) u Z) := by
  refine xCt.of (by decide) rfl ck_MC_tellRow (Nat.le_of_ble_eq_true rfl) rfl ?_
  generalize List.length (hc s0 T R P (k1, k2, k3, (tc0, mL, mD, mK, WL, WD, WK, we, row, ts, tn, tw), k5, k6, hd) u Z) = n0
  generalize hF : told g n = F
  refine b_MC_tellRow_0 ⟨_, rfl, Nat.le_of_ble_eq_true rfl, fun H2 e2 => ?_⟩
  try simp (disch := omega) only [nI_lit, nI_fold, nI_mul, nI_add, pk_sub, pk_div, nI_shrN, nI_clamp] at e2
  subst e2
  have h : ∀ (j b i : Nat) (s : tS) (ts tn : wF) (cl : Bool), i + j = n + 1 → b < n ∨ (b = n ∧ i = n + 1) → (b < n → b < i ∧ i ≤ b + run g n b) → tOK s ts tn → tsm s → s.1 ≤ b → trow g n (n - b) b s = F → xW l x 2 0 0 mMC_tellRow n0 (fun r H' => ∃ o, r = Sum.inl o ∧ o = none ∧ ∃ ts' tn', tOK F ts' tn' ∧ H' = hc s0 T R P (k1, k2, k3, (F.1, mL, mD, mK, WL, WD, WK, we, row, ts', tn', tw), k5, k6, hd) u Z) cl 7 [some (.ref 20), some (.int (nI n)), some (.int (nI b)), some (.int (nI i))] [] (hc s0 T R P (k1, k2, k3, (s.1, mL, mD, mK, WL, WD, WK, we, row, ts, tn, tw), k5, k6, hd) u Z) 0 0 := by
    intro j
    induction j with
    | zero =>
      intro b i s ts tn cl hi hb hbi hs hsm hsb hz
      have hbn : b = n := by
        rcases hb with hb | hb
        · have r := run_ok (g := g) hb
          have := hbi hb
          omega
        · exact hb.1
      rw [hbn, Nat.sub_self] at hz
      have hz : s = F := hz
      subst hz
      refine b_MC_tellRow_7 ?_
      refine ⟨fun hcq => ?_, fun hcq => ?_⟩ <;> (try simp (disch := omega) only [nI_lit, nI_fold, nI_mul, nI_add, pk_sub, pk_div, nI_shrN, nI_clamp, nI_leI, nI_ltI, nI_eq, not_true_eq_false, not_false_eq_true, Bool.false_eq_true, if_true, if_false, nI_nem, nI_m1, nI_m7, nI_m15, nI_m32, nI_m4, nI_m8, nI_m16, nI_m2] at hcq) <;> (try omega)
      refine ⟨rfl, Nat.le_refl _, _, rfl, ⟨rfl, ts, tn, hs, rfl⟩⟩
    | succ j ih =>
      intro b i s ts tn cl hi hb hbi hs hsm hsb hz
      have hbn : b < n := by omega
      obtain ⟨q1, q2⟩ := hbi hbn
      have r := run_ok (g := g) hbn
      have gb := hg b hbn
      -- the run ends here
      have kend : ∀ cl, i = b + run g n b → xW l x 2 0 0 mMC_tellRow n0 (fun r H' => ∃ o, r = Sum.inl o ∧ o = none ∧ ∃ ts' tn', tOK F ts' tn' ∧ H' = hc s0 T R P (k1, k2, k3, (F.1, mL, mD, mK, WL, WD, WK, we, row, ts', tn', tw), k5, k6, hd) u Z) cl 30 [some (.ref 20), some (.int (nI n)), some (.int (nI b)), some (.int (nI i))] [.int (nI i - nI b), .int (row b), .ref 20] (hc s0 T R P (k1, k2, k3, (s.1, mL, mD, mK, WL, WD, WK, we, row, ts, tn, tw), k5, k6, hd) u Z) 0 0 := by
        intro cl hend
        rw [gb.1, nI_sub (by omega), show i - b = run g n b by omega]
        refine xs_callV rfl lk_3_107 (d' := 1) (c_MC_tellRun (s := s) (v := g b) (m := run g n b) gb.2 r.1 (by omega) hs hsm (by omega)) (Nat.le_of_ble_eq_true rfl) rfl rfl rfl rfl rfl (Nat.le_of_ble_eq_true rfl) (by omega) (by omega) ?_
        rintro _ H1 ⟨rfl, ts', tn', hs', rfl⟩
        have t := trun_ok gb.2 r.1 hsm
        obtain ⟨f, hf⟩ : ∃ f, n - b = f + 1 := ⟨n - b - 1, by omega⟩
        rw [hf] at hz
        unfold trow at hz
        rw [if_pos hbn, ← hend, trow_f g n f (n - i) i _ (by omega) (by omega)] at hz
        refine b_MC_tellRow_31 ?_
        rw [nI_1]
        by_cases hin : i < n
        · have ri := run_ok (g := g) hin
          exact ih i (i + 1) _ ts' tn' false (by omega) (Or.inl hin) (fun _ => ⟨by omega, by omega⟩) hs' t.1 (by omega) hz
        · exact ih i (i + 1) _ ts' tn' false (by omega) (Or.inr ⟨by omega, by omega⟩) (fun h => absurd h hin) hs' t.1 (by omega) hz
      refine b_MC_tellRow_7 ?_
      refine ⟨fun hcq => ?_, fun hcq => ?_⟩ <;> (try simp (disch := omega) only [nI_lit, nI_fold, nI_mul, nI_add, pk_sub, pk_div, nI_shrN, nI_clamp, nI_leI, nI_ltI, nI_eq, not_true_eq_false, not_false_eq_true, Bool.false_eq_true, if_true, if_false, nI_nem, nI_m1, nI_m7, nI_m15, nI_m32, nI_m4, nI_m8, nI_m16, nI_m2] at hcq) <;> (try omega)
      refine ⟨fun hd => ?_, fun hd => ?_⟩ <;> (try simp (disch := omega) only [nI_lit, nI_fold, nI_mul, nI_add, pk_sub, pk_div, nI_shrN, nI_clamp, nI_leI, nI_ltI, nI_eq, not_true_eq_false, not_false_eq_true, Bool.false_eq_true, if_true, if_false, nI_nem, nI_m1, nI_m7, nI_m15, nI_m32, nI_m4, nI_m8, nI_m16, nI_m2] at hd) <;> (try omega)
      · have hend : i = b + run g n b := by
          by_cases h3 : i = b + run g n b
          · exact h3
          · omega
        refine ⟨_, ⟨_, rfl, rfl⟩, _, _, rfl, vp_in_nI (by omega) (by decide), ?_⟩
        try dsimp only
        rw [nI_clamp (by omega)]
        exact kend _ hend
      · have gi := hg i (by omega)
        refine ⟨_, ⟨_, rfl, rfl⟩, _, _, rfl, vp_in_nI (by omega) (by decide), _, ⟨_, rfl, rfl⟩, _, _, rfl, vp_in_nI (by omega) (by decide), ?_⟩
        try dsimp only
        rw [nI_clamp (by omega), nI_clamp (by omega)]
        refine ⟨fun he => ?_, fun he => ?_⟩ <;> rw [gi.1, gb.1, nI_eq (by omega) (by omega)] at he
        · have hlt : i < b + run g n b := by
            by_cases h3 : i = b + run g n b
            · have := run_ne (g := g) (n := n) (k := b) (by omega)
              rw [← h3] at this
              exact absurd he this
            · omega
          rw [nI_1]
          exact ih b (i + 1) s ts tn cl (by omega) (Or.inl hbn) (fun _ => ⟨by omega, by omega⟩) hs hsm hsb hz
        · have hend : i = b + run g n b := by
            by_cases h3 : i = b + run g n b
            · exact h3
            · have := run_eq (g := g) (n := n) (k := b) (i := i - b) (by omega)
              rw [show b + (i - b) = i by omega] at this
              exact absurd this he
          refine ⟨_, ⟨_, rfl, rfl⟩, _, _, rfl, vp_in_nI (by omega) (by decide), ?_⟩
          try dsimp only
          exact kend _ hend
  have r0 := run_ok (g := g) (show 0 < n by omega)
  exact h n 0 1 (0, fun _ => 0, fun _ => 0) ts tn false (by omega) (Or.inl (by omega)) (fun _ => ⟨by decide, by omega⟩) (fun i hi => absurd hi (Nat.not_lt_zero _)) (fun i hi => absurd hi (Nat.not_lt_zero _)) (Nat.le_refl _) hF
end Tell
