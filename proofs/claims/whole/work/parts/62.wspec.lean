/-! lengths by weights: what both make -/
def ps (g sy : Nat → Nat) (w : Nat) : Nat → Nat
  | 0 => 0
  | p + 1 => if w < g (sy p) then ps g sy w p else p + 1
def ins (sy : Nat → Nat) (p k : Nat) : Nat → Nat := fun j => if j < p then sy j else if j = p then k else sy (j - 1)
def srt (g : Nat → Nat) : Nat → Nat × (Nat → Nat)
  | 0 => (0, fun _ => 0)
  | n + 1 => if 0 < g n then ((srt g n).1 + 1, ins (srt g n).2 (ps g (srt g n).2 (g n) (srt g n).1) n) else srt g n
theorem ps_le (g sy : Nat → Nat) (w : Nat) : ∀ p, ps g sy w p ≤ p := by
  intro p
  induction p with
  | zero => exact Nat.le_refl _
  | succ p ih => unfold ps; split <;> omega
theorem ps_gt {g sy : Nat → Nat} {w : Nat} : ∀ p j, ps g sy w p ≤ j → j < p → w < g (sy j) := by
  intro p
  induction p with
  | zero => intro j _ h; omega
  | succ p ih =>
    intro j h1 h2
    unfold ps at h1
    split at h1
    · rename_i h3
      by_cases hj : j = p
      · rw [hj]; exact h3
      · exact ih j h1 (by omega)
    · omega
theorem ps_lo {g sy : Nat → Nat} {w : Nat} : ∀ p m, ps g sy w p = m + 1 → g (sy m) ≤ w := by
  intro p
  induction p with
  | zero => intro m h; cases h
  | succ p ih =>
    intro m h
    unfold ps at h
    split at h
    · exact ih m h
    · have : p = m := by omega
      rw [← this]
      omega
/-- the sorted symbols are symbols, each once, each with a weight, and in order -/
theorem srt_ok (g : Nat → Nat) : ∀ n, (srt g n).1 ≤ n ∧ (∀ j, j < (srt g n).1 → (srt g n).2 j < n ∧ 0 < g ((srt g n).2 j)) ∧ (∀ i j, i < j → j < (srt g n).1 → (srt g n).2 i ≠ (srt g n).2 j ∧ g ((srt g n).2 i) ≤ g ((srt g n).2 j)) := by
  intro n
  induction n with
  | zero => exact ⟨Nat.le_refl _, fun j h => absurd h (Nat.not_lt_zero _), fun i j _ h => absurd h (Nat.not_lt_zero _)⟩
  | succ n ih =>
    obtain ⟨h1, h2, h3⟩ := ih
    unfold srt
    by_cases hg : 0 < g n
    · rw [if_pos hg]
      dsimp only
      have hp := ps_le g (srt g n).2 (g n) (srt g n).1
      have hgt := ps_gt (g := g) (sy := (srt g n).2) (w := g n) (srt g n).1
      have hlo := ps_lo (g := g) (sy := (srt g n).2) (w := g n) (srt g n).1
      generalize ps g (srt g n).2 (g n) (srt g n).1 = p at hp hgt hlo ⊢
      generalize (srt g n).2 = sy at h2 h3 hgt hlo ⊢
      generalize (srt g n).1 = m at h1 h2 h3 hp hgt ⊢
      have hlow : ∀ j, j < p → g (sy j) ≤ g n := by
        intro j hj
        match p, hp, hlo, hj with
        | q + 1, hp, hlo, hj =>
          have a := hlo q rfl
          by_cases hjq : j = q
          · rw [hjq]; exact a
          · have := (h3 j q (by omega) (by omega)).2
            omega
      refine ⟨by omega, fun j hj => ?_, fun i j hij hj => ?_⟩
      · unfold ins
        by_cases a : j < p
        · rw [if_pos a]
          have := h2 j (by omega)
          exact ⟨by omega, this.2⟩
        · rw [if_neg a]
          by_cases b : j = p
          · rw [if_pos b]; exact ⟨by omega, hg⟩
          · rw [if_neg b]
            have := h2 (j - 1) (by omega)
            exact ⟨by omega, this.2⟩
      · unfold ins
        by_cases a : i < p
        · rw [if_pos a]
          have hi := h2 i (by omega)
          by_cases b : j < p
          · rw [if_pos b]; exact h3 i j hij (by omega)
          · rw [if_neg b]
            by_cases c : j = p
            · rw [if_pos c]; exact ⟨by omega, hlow i a⟩
            · rw [if_neg c]
              have := hgt (j - 1) (by omega) (by omega)
              have hl := hlow i a
              exact ⟨(h3 i (j - 1) (by omega) (by omega)).1, by omega⟩
        · rw [if_neg a]
          by_cases b : i = p
          · rw [if_pos b, if_neg (by omega), if_neg (by omega)]
            have hj2 := h2 (j - 1) (by omega)
            have := hgt (j - 1) (by omega) (by omega)
            exact ⟨by omega, by omega⟩
          · rw [if_neg b, if_neg (by omega), if_neg (by omega)]
            exact h3 (i - 1) (j - 1) (by omega) (by omega)
    · rw [if_neg hg]
      exact ⟨by omega, fun j hj => ⟨by have := (h2 j hj).1; omega, (h2 j hj).2⟩, h3⟩
theorem srt_has {g : Nat → Nat} {k : Nat} (hk : 0 < g k) : ∀ n, k < n → ∃ j, j < (srt g n).1 ∧ (srt g n).2 j = k := by
  intro n
  induction n with
  | zero => intro h; omega
  | succ n ih =>
    intro h
    unfold srt
    by_cases hn : k = n
    · subst hn
      rw [if_pos hk]
      have := ps_le g (srt g k).2 (g k) (srt g k).1
      exact ⟨ps g (srt g k).2 (g k) (srt g k).1, by dsimp only; omega, by dsimp only [ins]; rw [if_neg (Nat.lt_irrefl _), if_pos rfl]⟩
    · obtain ⟨j, hj, e⟩ := ih (by omega)
      split
      · by_cases hp : j < ps g (srt g n).2 (g n) (srt g n).1
        · exact ⟨j, by dsimp only; omega, by dsimp only [ins]; rw [if_pos hp]; exact e⟩
        · exact ⟨j + 1, by dsimp only; omega, by dsimp only [ins]; rw [if_neg (by omega), if_neg (by omega), show j + 1 - 1 = j by omega]; exact e⟩
      · exact ⟨j, hj, e⟩
/-! rows -/
def tkw (sw : Nat → Nat) (many : Nat) (rw : Nat → Nat) (pairs : Nat) (s : Nat × Nat) : Bool := decide (pairs ≤ s.2) || (decide (s.1 < many) && decide (sw s.1 ≤ rw (2 * s.2) + rw (2 * s.2 + 1)))
def mg (sw : Nat → Nat) (many : Nat) (rw : Nat → Nat) (pairs : Nat) : Nat → Nat × Nat
  | 0 => (0, 0)
  | i + 1 => if tkw sw many rw pairs (mg sw many rw pairs i) then ((mg sw many rw pairs i).1 + 1, (mg sw many rw pairs i).2) else ((mg sw many rw pairs i).1, (mg sw many rw pairs i).2 + 1)
def mgv (sw : Nat → Nat) (many : Nat) (rw : Nat → Nat) (pairs : Nat) (i : Nat) : Nat := if tkw sw many rw pairs (mg sw many rw pairs i) then sw (mg sw many rw pairs i).1 else rw (2 * (mg sw many rw pairs i).2) + rw (2 * (mg sw many rw pairs i).2 + 1)
theorem mg_sum (sw : Nat → Nat) (many : Nat) (rw : Nat → Nat) (pairs : Nat) : ∀ i, (mg sw many rw pairs i).1 + (mg sw many rw pairs i).2 = i := by
  intro i
  induction i with
  | zero => rfl
  | succ i ih => unfold mg; split <;> dsimp only <;> omega
theorem mg_ok (sw : Nat → Nat) (many : Nat) (rw : Nat → Nat) (pairs : Nat) : ∀ i, i ≤ many + pairs → (mg sw many rw pairs i).1 ≤ many ∧ (mg sw many rw pairs i).2 ≤ pairs := by
  intro i
  induction i with
  | zero => intro _; exact ⟨Nat.zero_le _, Nat.zero_le _⟩
  | succ i ih =>
    intro h
    have := ih (by omega)
    have hs := mg_sum sw many rw pairs i
    unfold mg
    split
    · rename_i ht
      dsimp only
      unfold tkw at ht
      rw [Bool.or_eq_true, Bool.and_eq_true, decide_eq_true_eq, decide_eq_true_eq, decide_eq_true_eq] at ht
      omega
    · rename_i ht
      dsimp only
      unfold tkw at ht
      rw [Bool.or_eq_true, Bool.and_eq_true, decide_eq_true_eq, decide_eq_true_eq, decide_eq_true_eq] at ht
      omega
theorem mg_s (sw : Nat → Nat) (many : Nat) (rw : Nat → Nat) (pairs i : Nat) : mg sw many rw pairs (i + 1) = if tkw sw many rw pairs (mg sw many rw pairs i) then ((mg sw many rw pairs i).1 + 1, (mg sw many rw pairs i).2) else ((mg sw many rw pairs i).1, (mg sw many rw pairs i).2 + 1) := rfl
theorem mg_mono (sw : Nat → Nat) (many : Nat) (rw : Nat → Nat) (pairs : Nat) (i : Nat) : ∀ j, (mg sw many rw pairs i).1 ≤ (mg sw many rw pairs (i + j)).1 := by
  intro j
  induction j with
  | zero => exact Nat.le_refl _
  | succ j ih =>
    rw [show i + (j + 1) = i + j + 1 from rfl, mg_s]
    split
    · dsimp only; omega
    · dsimp only; exact ih
def rws (sw : Nat → Nat) (many : Nat) : Nat → Nat × (Nat → Nat)
  | 0 => (0, fun _ => 0)
  | r + 1 => (many + (rws sw many r).1 / 2, mgv sw many (rws sw many r).2 ((rws sw many r).1 / 2))
def mgr (sw : Nat → Nat) (many r : Nat) (i : Nat) : Nat × Nat := mg sw many (rws sw many r).2 ((rws sw many r).1 / 2) i
def alo (sw : Nat → Nat) (many r : Nat) (i : Nat) : Bool := tkw sw many (rws sw many r).2 ((rws sw many r).1 / 2) (mgr sw many r i)
theorem mgr_s (sw : Nat → Nat) (many r i : Nat) : mgr sw many r (i + 1) = if alo sw many r i then ((mgr sw many r i).1 + 1, (mgr sw many r i).2) else ((mgr sw many r i).1, (mgr sw many r i).2 + 1) := rfl
theorem rws_sz (sw : Nat → Nat) (many : Nat) : ∀ r, (rws sw many r).1 ≤ 2 * many - 1 := by
  intro r
  induction r with
  | zero => exact Nat.zero_le _
  | succ r ih => show many + (rws sw many r).1 / 2 ≤ _; omega
/-- the row is long enough: 2 · many - size is halved from row to row -/
theorem rws_ge (sw : Nat → Nat) (many : Nat) (hm : 2 ≤ many) : ∀ r, 2 * many ≤ (rws sw many r).1 + 1 + 2 * many / 2 ^ r := by
  intro r
  induction r with
  | zero => rw [Nat.pow_zero, Nat.div_one]; omega
  | succ r ih =>
    show 2 * many ≤ many + (rws sw many r).1 / 2 + 1 + 2 * many / 2 ^ (r + 1)
    rw [Nat.pow_succ, ← Nat.div_div_eq_div_mul]
    omega
theorem mg_bd {sw : Nat → Nat} {many : Nat} {rw : Nat → Nat} {pairs M : Nat} (h1 : ∀ j, j < many → sw j ≤ M) (h2 : ∀ j, j < 2 * pairs → rw j ≤ M) {i : Nat} (hi : i < many + pairs) : mgv sw many rw pairs i ≤ 2 * M := by
  have hs := mg_sum sw many rw pairs i
  have ho := mg_ok sw many rw pairs i (by omega)
  have ho2 := mg_ok sw many rw pairs (i + 1) (by omega)
  unfold mg at ho2
  unfold mgv
  split
  · rename_i ht
    rw [if_pos ht] at ho2
    dsimp only at ho2
    have := h1 (mg sw many rw pairs i).1 (by omega)
    omega
  · rename_i ht
    rw [if_neg ht] at ho2
    dsimp only at ho2
    have a := h2 (2 * (mg sw many rw pairs i).2) (by omega)
    have b := h2 (2 * (mg sw many rw pairs i).2 + 1) (by omega)
    omega
theorem rws_bd {sw : Nat → Nat} {many M : Nat} (h1 : ∀ j, j < many → sw j ≤ M) : ∀ r j, j < (rws sw many r).1 → (rws sw many r).2 j ≤ M * 2 ^ r := by
  intro r
  induction r with
  | zero => intro j h; exact absurd h (Nat.not_lt_zero _)
  | succ r ih =>
    intro j hj
    have hj : j < many + (rws sw many r).1 / 2 := hj
    have hp : M ≤ M * 2 ^ r := Nat.le_mul_of_pos_right _ (Nat.two_pow_pos _)
    have := mg_bd (M := M * 2 ^ r) (rw := (rws sw many r).2) (fun j hj => Nat.le_trans (h1 j hj) hp) (fun j hj => ih j (by omega)) hj
    show mgv sw many (rws sw many r).2 ((rws sw many r).1 / 2) j ≤ M * 2 ^ (r + 1)
    rw [Nat.pow_succ, ← Nat.mul_assoc]
    omega
theorem mg_pos {sw : Nat → Nat} {many : Nat} {rw : Nat → Nat} {pairs : Nat} (h1 : ∀ j, j < many → 0 < sw j) (h2 : ∀ j, j < 2 * pairs → 0 < rw j) {i : Nat} (hi : i < many + pairs) : 0 < mgv sw many rw pairs i := by
  have hs := mg_sum sw many rw pairs i
  have ho := mg_ok sw many rw pairs i (by omega)
  have ho2 := mg_ok sw many rw pairs (i + 1) (by omega)
  unfold mg at ho2
  unfold mgv
  split
  · rename_i ht
    rw [if_pos ht] at ho2
    dsimp only at ho2
    exact h1 (mg sw many rw pairs i).1 (by omega)
  · rename_i ht
    rw [if_neg ht] at ho2
    dsimp only at ho2
    have a := h2 (2 * (mg sw many rw pairs i).2) (by omega)
    omega
theorem rws_pos {sw : Nat → Nat} {many : Nat} (h1 : ∀ j, j < many → 0 < sw j) : ∀ r j, j < (rws sw many r).1 → 0 < (rws sw many r).2 j := by
  intro r
  induction r with
  | zero => intro j h; exact absurd h (Nat.not_lt_zero _)
  | succ r ih =>
    intro j hj
    exact mg_pos h1 (fun j hj => ih j (by omega)) (show j < many + (rws sw many r).1 / 2 from hj)
/-! the lengths -/
def incs (sy : Nat → Nat) (L : Nat → Nat) : Nat → Nat → Nat
  | 0 => L
  | c + 1 => nup (incs sy L c) (sy c) (incs sy L c (sy c) + 1)
def lnA (sw sy : Nat → Nat) (many : Nat) : Nat → Nat → (Nat → Nat) → Nat → Nat
  | 0, _, L => L
  | r + 1, tk, L => lnA sw sy many r (2 * (tk - (mgr sw many r tk).1)) (incs sy L (mgr sw many r tk).1)
def lbw (g : Nat → Nat) (n m : Nat) : Nat → Nat :=
  if (srt g n).1 = 1 then nup (fun _ => 0) ((srt g n).2 0) 1
  else if (srt g n).1 < 2 then fun _ => 0
  else lnA (fun j => g ((srt g n).2 j)) (srt g n).2 (srt g n).1 m (2 * (srt g n).1 - 2) (fun _ => 0)
theorem incs_ge (sy L : Nat → Nat) (i : Nat) : ∀ c, L i ≤ incs sy L c i := by
  intro c
  induction c with
  | zero => exact Nat.le_refl _
  | succ c ih => unfold incs nup; split; rename_i h; rw [← h]; omega; exact ih
theorem incs_le {sy L : Nat → Nat} {many : Nat} (hinj : ∀ i j, i < j → j < many → sy i ≠ sy j) (i : Nat) : ∀ c, c ≤ many → incs sy L c i ≤ L i + 1 ∧ ((∀ j, j < c → sy j ≠ i) → incs sy L c i = L i) := by
  intro c
  induction c with
  | zero => intro _; exact ⟨Nat.le_succ _, fun _ => rfl⟩
  | succ c ih =>
    intro hc
    have h := ih (by omega)
    unfold incs nup
    by_cases hi : i = sy c
    · rw [if_pos hi]
      have := h.2 (fun j hj => by rw [hi]; exact hinj j c hj (by omega))
      rw [hi] at this
      rw [this, ← hi]
      exact ⟨Nat.le_refl _, fun hh => absurd hi.symm (hh c (by omega))⟩
    · rw [if_neg hi]
      exact ⟨h.1, fun hh => h.2 (fun j hj => hh j (by omega))⟩
theorem incs_has {sy L : Nat → Nat} {j : Nat} : ∀ c, j < c → 1 ≤ incs sy L c (sy j) := by
  intro c
  induction c with
  | zero => intro h; omega
  | succ c ih =>
    intro h
    unfold incs nup
    split
    · omega
    · rename_i hne
      by_cases hj : j = c
      · rw [hj] at hne; exact absurd rfl hne
      · exact ih (by omega)
theorem lnA_ge (sw sy : Nat → Nat) (many i : Nat) : ∀ r tk L, L i ≤ lnA sw sy many r tk L i := by
  intro r
  induction r with
  | zero => intro tk L; exact Nat.le_refl _
  | succ r ih => intro tk L; exact Nat.le_trans (incs_ge _ _ _ _) (ih _ _)
theorem tkn_ok (sw : Nat → Nat) (many r tk : Nat) (h : tk ≤ (rws sw many (r + 1)).1) : (mgr sw many r tk).1 ≤ many ∧ (mgr sw many r tk).1 ≤ tk ∧ 2 * (tk - (mgr sw many r tk).1) ≤ (rws sw many r).1 := by
  have h : tk ≤ many + (rws sw many r).1 / 2 := h
  have hs := mg_sum sw many (rws sw many r).2 ((rws sw many r).1 / 2) tk
  have ho := mg_ok sw many (rws sw many r).2 ((rws sw many r).1 / 2) tk h
  unfold mgr
  omega
theorem lnA_le {sw sy : Nat → Nat} {many : Nat} (hinj : ∀ i j, i < j → j < many → sy i ≠ sy j) (i : Nat) : ∀ r tk L, tk ≤ (rws sw many r).1 → lnA sw sy many r tk L i ≤ L i + r := by
  intro r
  induction r with
  | zero => intro tk L _; exact Nat.le_refl _
  | succ r ih =>
    intro tk L h
    have ho := tkn_ok sw many r tk h
    have a := ih (2 * (tk - (mgr sw many r tk).1)) (incs sy L (mgr sw many r tk).1) ho.2.2
    have b := (incs_le (L := L) hinj i (mgr sw many r tk).1 ho.1).1
    show lnA sw sy many r _ _ i ≤ _
    omega
theorem tkn_0 {g : Nat → Nat} {n m : Nat} (h2 : 2 ≤ (srt g n).1) (hn : n < 2 ^ (m - 1)) (hm : 1 ≤ m) (sw : Nat → Nat) : 2 * (srt g n).1 - 2 ≤ (rws sw (srt g n).1 m).1 := by
  have a := rws_ge sw (srt g n).1 h2 m
  have b := (srt_ok g n).1
  have e : 2 ^ m = 2 * 2 ^ (m - 1) := by rw [show m = m - 1 + 1 by omega, Nat.pow_succ]; simp; omega
  have c : 2 * (srt g n).1 / 2 ^ m = 0 := Nat.div_eq_of_lt (by omega)
  omega
theorem lbw_le {g : Nat → Nat} {n m : Nat} (hn : n < 2 ^ (m - 1)) (hm : 1 ≤ m) (i : Nat) : lbw g n m i ≤ m := by
  unfold lbw
  split
  · unfold nup; split; exact hm; exact Nat.zero_le _
  split
  · exact Nat.zero_le _
  · have := lnA_le (sw := fun j => g ((srt g n).2 j)) (sy := (srt g n).2) (many := (srt g n).1) (fun i j h1 h2 => ((srt_ok g n).2.2 i j h1 h2).1) i m (2 * (srt g n).1 - 2) (fun _ => 0) (tkn_0 (by omega) hn hm _)
    omega
/-- a symbol of weight 1 has a length -/
theorem lbw_1 {g : Nat → Nat} {n m k : Nat} (hn : n < 2 ^ (m - 1)) (hm : 1 ≤ m) (hk : k < n) (hg : g k = 1) (h2 : 2 ≤ (srt g n).1) : 1 ≤ lbw g n m k := by
  obtain ⟨j, hj, e⟩ := srt_has (g := g) (by omega) n hk
  obtain ⟨o1, o2, o3⟩ := srt_ok g n
  have ht := tkn_0 h2 hn hm (fun j => g ((srt g n).2 j))
  unfold lbw
  rw [if_neg (by omega), if_neg (by omega)]
  generalize hsw : (fun j => g ((srt g n).2 j)) = sw at ht ⊢
  have hswj : ∀ j, sw j = g ((srt g n).2 j) := fun j => by rw [← hsw]
  generalize hsy : (srt g n).2 = sy at *
  generalize hmn : (srt g n).1 = many at *
  match m, hm, ht with
  | r + 1, hm, ht =>
    show 1 ≤ lnA sw sy many r _ (incs sy (fun _ => 0) (mgr sw many r (2 * many - 2)).1) k
    refine Nat.le_trans ?_ (lnA_ge _ _ _ _ _ _ _)
    rw [← e]
    refine incs_has _ ?_
    have hz := rws_sz sw many r
    have hs := mg_sum sw many (rws sw many r).2 ((rws sw many r).1 / 2) (2 * many - 2)
    have ho := mg_ok sw many (rws sw many r).2 ((rws sw many r).1 / 2) (2 * many - 2) ht
    show j < (mg sw many (rws sw many r).2 ((rws sw many r).1 / 2) (2 * many - 2)).1
    by_cases hl : j + 1 < many
    · omega
    · -- the last one: all weights are 1
      have hall : ∀ i, i < many → sw i = 1 := by
        intro i hi
        have a := (o2 i hi).2
        rw [hswj]
        by_cases hij : i = j
        · rw [hij, e]; exact hg
        · have := (o3 i j (by omega) hj).2
          rw [e, hg] at this
          omega
      have hpos := rws_pos (sw := sw) (many := many) (fun j hj => by rw [hall j hj]; decide) r
      have hfirst : ∀ i, i ≤ many → (mg sw many (rws sw many r).2 ((rws sw many r).1 / 2) i).1 = i := by
        intro i
        induction i with
        | zero => intro _; rfl
        | succ i ih =>
          intro hi
          have hi1 := ih (by omega)
          have hi2 := mg_sum sw many (rws sw many r).2 ((rws sw many r).1 / 2) i
          unfold mg
          rw [if_pos ?_]
          · dsimp only; omega
          · unfold tkw
            rw [Bool.or_eq_true, Bool.and_eq_true, decide_eq_true_eq, decide_eq_true_eq, decide_eq_true_eq]
            by_cases hp : (rws sw many r).1 / 2 ≤ (mg sw many (rws sw many r).2 ((rws sw many r).1 / 2) i).2
            · exact Or.inl hp
            · refine Or.inr ⟨by omega, ?_⟩
              have a := hpos (2 * (mg sw many (rws sw many r).2 ((rws sw many r).1 / 2) i).2) (by omega)
              rw [hall _ (by omega)]
              omega
      have a := hfirst many (Nat.le_refl _)
      have b := mg_mono sw many (rws sw many r).2 ((rws sw many r).1 / 2) many (2 * many - 2 - many)
      rw [show many + (2 * many - 2 - many) = 2 * many - 2 by omega] at b
      omega
