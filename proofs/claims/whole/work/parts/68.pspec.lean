/-! a packing: what both make -/
def bab (n bd : Nat) : Nat → Nat → Nat
  | 0, b => b
  | f + 1, b => if n / 2 ^ b < bd then b else bab n bd f (b + 1)
def lsN (len : Nat) : Nat := if len = 258 then 28 else 4 * bab (len - 3) 8 16 0 + (len - 3) / 2 ^ bab (len - 3) 8 16 0
def dsN (dist : Nat) : Nat := 2 * bab (dist - 1) 4 16 0 + (dist - 1) / 2 ^ bab (dist - 1) 4 16 0
theorem lsN_1 : ∀ e, e < 256 → lsN (e + 3) < 29 ∧ lbas (lsN (e + 3)) ≤ e + 3 ∧ e + 3 < lbas (lsN (e + 3)) + 2 ^ lbts (lsN (e + 3)) ∧ (lsN (e + 3) = 28 → e + 3 = 258) := by decide +kernel
theorem lsN_2 : ∀ e, e < 256 → ∀ i, i < 29 → (lsN (e + 3) < i → (e + 3 < lbas i ∨ (i = 28 ∧ e + 3 < 258))) := by decide +kernel
theorem lsN_all {len : Nat} (h1 : len < 259) (h2 : 3 ≤ len) : lsN len < 29 ∧ lbas (lsN len) ≤ len ∧ len < lbas (lsN len) + 2 ^ lbts (lsN len) ∧ (lsN len = 28 → len = 258) ∧ ∀ i, i < 29 → lsN len < i → (len < lbas i ∨ (i = 28 ∧ len < 258)) := by
  obtain ⟨e, rfl⟩ : ∃ e, len = e + 3 := ⟨len - 3, by omega⟩
  have a := lsN_1 e (by omega)
  exact ⟨a.1, a.2.1, a.2.2.1, a.2.2.2, lsN_2 e (by omega)⟩
theorem dsN_c : ∀ a, a < 64 → ∀ b, b < 64 → dsN (64 * a + b + 1) < 30 ∧ dbas (dsN (64 * a + b + 1)) ≤ 64 * a + b + 1 ∧ 64 * a + b + 1 < dbas (dsN (64 * a + b + 1)) + 2 ^ dbts (dsN (64 * a + b + 1)) ∧ (dsN (64 * a + b + 1) < 29 → 64 * a + b + 1 < dbas (dsN (64 * a + b + 1) + 1)) := by decide +kernel
theorem dsN_all (e : Nat) (he : e < 4096) : dsN (e + 1) < 30 ∧ dbas (dsN (e + 1)) ≤ e + 1 ∧ e + 1 < dbas (dsN (e + 1)) + 2 ^ dbts (dsN (e + 1)) ∧ (dsN (e + 1) < 29 → e + 1 < dbas (dsN (e + 1) + 1)) := by
  have := dsN_c (e / 64) (by omega) (e % 64) (by omega)
  rw [show 64 * (e / 64) + e % 64 = e by omega] at this
  exact this
theorem dbas_mono : ∀ i, i < 30 → ∀ j, j < 30 → i ≤ j → dbas i ≤ dbas j := by decide +kernel
def isS (t : Nat → Nat) (n p : Nat) : Bool := decide (0 < (stO t n p).1) && decide ((stO t n (p + 1)).1 ≤ (stO t n p).1)
def pcL (t : Nat → Nat) (n p : Nat) : Nat := if isS t n p then (stO t n p).1 else 1
def pcV (t : Nat → Nat) (n p : Nat) : Nat := if isS t n p then (stO t n p).2 else t p
theorem pc_ok {t : Nat → Nat} {n p : Nat} (hp : p < n) : 1 ≤ pcL t n p ∧ p + pcL t n p ≤ n ∧ pcL t n p ≤ 258 := by
  unfold pcL
  split
  · rename_i h
    unfold isS at h
    rw [Bool.and_eq_true, decide_eq_true_eq, decide_eq_true_eq] at h
    have := stO_ok h.1
    omega
  · omega
theorem pc_s {t : Nat → Nat} {n p : Nat} (h : isS t n p = true) : pcL t n p = (stO t n p).1 ∧ pcV t n p = (stO t n p).2 ∧ 3 ≤ pcL t n p ∧ pcL t n p ≤ 258 ∧ 1 ≤ pcV t n p ∧ pcV t n p ≤ 4096 := by
  unfold pcL pcV
  rw [if_pos h, if_pos h]
  unfold isS at h
  rw [Bool.and_eq_true, decide_eq_true_eq, decide_eq_true_eq] at h
  have := stO_ok h.1
  omega
theorem pc_b {t : Nat → Nat} {n p : Nat} (h : isS t n p = false) : pcL t n p = 1 ∧ pcV t n p = t p := by
  unfold pcL pcV
  rw [h]
  exact ⟨rfl, rfl⟩
/-- the place behind c pieces -/
def pp (t : Nat → Nat) (n p0 : Nat) : Nat → Nat
  | 0 => p0
  | c + 1 => pp t n p0 c + pcL t n (pp t n p0 c)
def npz (t : Nat → Nat) (n p0 : Nat) : Nat → Nat → Nat
  | 0, c => c
  | f + 1, c => if pp t n p0 c < n then npz t n p0 f (c + 1) else c
def npc (t : Nat → Nat) (n p0 : Nat) : Nat := npz t n p0 1024 0
theorem npz_ok (t : Nat → Nat) (n p0 : Nat) : ∀ f c, c ≤ npz t n p0 f c ∧ npz t n p0 f c ≤ c + f ∧ (∀ k, c ≤ k → k < npz t n p0 f c → pp t n p0 k < n) ∧ (npz t n p0 f c < c + f → n ≤ pp t n p0 (npz t n p0 f c)) := by
  intro f
  induction f with
  | zero => intro c; exact ⟨Nat.le_refl _, Nat.le_refl _, fun k h1 h2 => by unfold npz at h2; omega, fun h => by unfold npz at h; omega⟩
  | succ f ih =>
    intro c
    unfold npz
    split
    · rename_i h
      obtain ⟨a, b, e, g⟩ := ih (c + 1)
      refine ⟨by omega, by omega, fun k h1 h2 => ?_, fun h3 => g (by omega)⟩
      by_cases hk : k = c
      · rw [hk]; exact h
      · exact e k (by omega) h2
    · rename_i h
      exact ⟨Nat.le_refl _, by omega, fun k h1 h2 => by omega, fun _ => by omega⟩
theorem npc_ok (t : Nat → Nat) (n p0 : Nat) : npc t n p0 ≤ 1024 ∧ (∀ k, k < npc t n p0 → pp t n p0 k < n) ∧ (npc t n p0 < 1024 → n ≤ pp t n p0 (npc t n p0)) := by
  obtain ⟨a, b, e, g⟩ := npz_ok t n p0 1024 0
  exact ⟨by unfold npc; omega, fun k hk => e k (Nat.zero_le _) hk, fun h => g (by unfold npc at h; omega)⟩
theorem pp_le {t : Nat → Nat} {n p0 : Nat} (hp : p0 ≤ n) : ∀ c, c ≤ npc t n p0 → pp t n p0 c ≤ n ∧ p0 + c ≤ pp t n p0 c := by
  intro c
  induction c with
  | zero => intro _; exact ⟨hp, Nat.le_refl _⟩
  | succ c ih =>
    intro h
    have a := ih (by omega)
    have b := (npc_ok t n p0).2.1 c (by omega)
    have e := pc_ok (t := t) b
    show pp t n p0 c + pcL t n (pp t n p0 c) ≤ n ∧ p0 + (c + 1) ≤ pp t n p0 c + pcL t n (pp t n p0 c)
    omega
def pend (t : Nat → Nat) (n p0 : Nat) : Nat := pp t n p0 (npc t n p0)
theorem pend_ok {t : Nat → Nat} {n p0 : Nat} (hp : p0 ≤ n) : p0 ≤ pend t n p0 ∧ pend t n p0 ≤ n ∧ (pend t n p0 < n → p0 + 1024 ≤ pend t n p0) ∧ (p0 < n → 1 ≤ npc t n p0) := by
  have a := pp_le (t := t) hp (npc t n p0) (Nat.le_refl _)
  have b := npc_ok t n p0
  refine ⟨by unfold pend; omega, a.1, fun h => ?_, fun h => ?_⟩
  · by_cases c : npc t n p0 < 1024
    · have := b.2.2 c
      unfold pend at h
      omega
    · unfold pend
      omega
  · by_cases c : npc t n p0 = 0
    · have := b.2.2 (by omega)
      rw [c] at this
      have : n ≤ p0 := this
      omega
    · omega
/-! of the pieces of a block: symbols, weights, bits -/
def psy (t : Nat → Nat) (n p : Nat) : Nat := if isS t n p then 257 + lsN (pcL t n p) else t p
def scn (t : Nat → Nat) (n p0 : Nat) : Nat → Nat
  | 0 => 0
  | c + 1 => if isS t n (pp t n p0 c) then scn t n p0 c + 1 else scn t n p0 c
def wLt (t : Nat → Nat) (n p0 : Nat) : Nat → Nat → Nat
  | 0 => nup (fun _ => 0) 256 1
  | c + 1 => nup (wLt t n p0 c) (psy t n (pp t n p0 c)) (wLt t n p0 c (psy t n (pp t n p0 c)) + 1)
def wDt (t : Nat → Nat) (n p0 : Nat) : Nat → Nat → Nat
  | 0 => fun _ => 0
  | c + 1 => if isS t n (pp t n p0 c) then nup (wDt t n p0 c) (dsN (pcV t n (pp t n p0 c))) (wDt t n p0 c (dsN (pcV t n (pp t n p0 c))) + 1) else wDt t n p0 c
def bnm (t : Nat → Nat) (n p0 : Nat) : Nat → Nat
  | 0 => 0
  | c + 1 => if isS t n (pp t n p0 c) then bnm t n p0 c + (lbts (lsN (pcL t n (pp t n p0 c))) + dbts (dsN (pcV t n (pp t n p0 c)))) else bnm t n p0 c
def pbt (t : Nat → Nat) (n p : Nat) (gL gD : Nat → Nat) : Nat := if isS t n p then gL (257 + lsN (pcL t n p)) + lbts (lsN (pcL t n p)) + gD (dsN (pcV t n p)) + dbts (dsN (pcV t n p)) else gL (t p)
def pbs (t : Nat → Nat) (n p0 : Nat) (gL gD : Nat → Nat) : Nat → Nat
  | 0 => 0
  | c + 1 => pbs t n p0 gL gD c + pbt t n (pp t n p0 c) gL gD
theorem pbs_mono (t : Nat → Nat) (n p0 : Nat) (gL gD : Nat → Nat) (c : Nat) : ∀ j, pbs t n p0 gL gD c ≤ pbs t n p0 gL gD (c + j) := by
  intro j
  induction j with
  | zero => exact Nat.le_refl _
  | succ j ih => show _ ≤ pbs t n p0 gL gD (c + j) + _; omega
def wsum (w g : Nat → Nat) : Nat → Nat
  | 0 => 0
  | i + 1 => wsum w g i + w i * g i
theorem wsum_up {w g : Nat → Nat} {a : Nat} : ∀ N, wsum (nup w a (w a + 1)) g N = wsum w g N + if a < N then g a else 0 := by
  intro N
  induction N with
  | zero => rfl
  | succ N ih =>
    show wsum (nup w a (w a + 1)) g N + nup w a (w a + 1) N * g N = wsum w g N + w N * g N + _
    rw [ih]
    by_cases h : N = a
    · subst h
      rw [if_neg (Nat.lt_irrefl _), if_pos (Nat.lt_succ_self _)]
      unfold nup
      rw [if_pos rfl, Nat.add_mul]
      omega
    · unfold nup
      rw [if_neg h]
      by_cases h2 : a < N
      · rw [if_pos h2, if_pos (by omega)]; omega
      · rw [if_neg h2, if_neg (by omega)]; omega
theorem wsum_0 (g : Nat → Nat) : ∀ N, wsum (fun _ => 0) g N = 0 := by
  intro N
  induction N with
  | zero => rfl
  | succ N ih => show wsum (fun _ => 0) g N + 0 * g N = 0; rw [ih]; omega
theorem psy_lt {t : Nat → Nat} (ht : ∀ i, t i < 256) {n p : Nat} : psy t n p < 286 ∧ psy t n p ≠ 256 := by
  unfold psy
  split
  · rename_i h
    have a := pc_s h
    have b := lsN_all (len := pcL t n p) (by omega) a.2.2.1
    omega
  · have := ht p
    omega
theorem wsum_pbs {t : Nat → Nat} (ht : ∀ i, t i < 256) {n p0 : Nat} (gL gD : Nat → Nat) : ∀ c, wsum (wLt t n p0 c) gL 286 + wsum (wDt t n p0 c) gD 30 + bnm t n p0 c = gL 256 + pbs t n p0 gL gD c := by
  intro c
  induction c with
  | zero =>
    have := wsum_up (w := fun _ => 0) (g := gL) (a := 256) 286
    show wsum (nup (fun _ => 0) 256 1) gL 286 + wsum (fun _ => 0) gD 30 + 0 = gL 256 + 0
    rw [show nup (fun _ => 0) 256 1 = nup (fun _ => 0) 256 ((fun _ => 0) 256 + 1) from rfl, this, wsum_0, wsum_0, if_pos (by decide)]
    omega
  | succ c ih =>
    have a := (psy_lt ht (n := n) (p := pp t n p0 c)).1
    show wsum (nup (wLt t n p0 c) (psy t n (pp t n p0 c)) (wLt t n p0 c (psy t n (pp t n p0 c)) + 1)) gL 286 + wsum (if isS t n (pp t n p0 c) then nup (wDt t n p0 c) (dsN (pcV t n (pp t n p0 c))) (wDt t n p0 c (dsN (pcV t n (pp t n p0 c))) + 1) else wDt t n p0 c) gD 30 + (if isS t n (pp t n p0 c) then bnm t n p0 c + (lbts (lsN (pcL t n (pp t n p0 c))) + dbts (dsN (pcV t n (pp t n p0 c)))) else bnm t n p0 c) = gL 256 + (pbs t n p0 gL gD c + (if isS t n (pp t n p0 c) then gL (257 + lsN (pcL t n (pp t n p0 c))) + lbts (lsN (pcL t n (pp t n p0 c))) + gD (dsN (pcV t n (pp t n p0 c))) + dbts (dsN (pcV t n (pp t n p0 c))) else gL (t (pp t n p0 c))))
    rw [wsum_up, if_pos a]
    unfold psy
    cases hb : isS t n (pp t n p0 c) with
    | false =>
      show _ + gL (t (pp t n p0 c)) + wsum (wDt t n p0 c) gD 30 + bnm t n p0 c = gL 256 + (pbs t n p0 gL gD c + gL (t (pp t n p0 c)))
      omega
    | true =>
      have b := pc_s hb
      have e := (dsN_all (pcV t n (pp t n p0 c) - 1) (by omega)).1
      rw [show pcV t n (pp t n p0 c) - 1 + 1 = pcV t n (pp t n p0 c) by omega] at e
      show _ + gL (257 + lsN (pcL t n (pp t n p0 c))) + wsum (nup (wDt t n p0 c) (dsN (pcV t n (pp t n p0 c))) (wDt t n p0 c (dsN (pcV t n (pp t n p0 c))) + 1)) gD 30 + (bnm t n p0 c + (lbts (lsN (pcL t n (pp t n p0 c))) + dbts (dsN (pcV t n (pp t n p0 c))))) = _
      rw [wsum_up, if_pos e, if_pos rfl]
      omega
theorem wLt_le (t : Nat → Nat) (n p0 : Nat) : ∀ c i, wLt t n p0 c i ≤ c + 1 := by
  intro c
  induction c with
  | zero => intro i; unfold wLt nup; split; decide; exact Nat.zero_le _
  | succ c ih =>
    intro i
    unfold wLt nup
    split
    · have := ih (psy t n (pp t n p0 c)); omega
    · have := ih i; omega
theorem wDt_le (t : Nat → Nat) (n p0 : Nat) : ∀ c i, wDt t n p0 c i ≤ c := by
  intro c
  induction c with
  | zero => intro i; exact Nat.le_refl _
  | succ c ih =>
    intro i
    unfold wDt
    split
    · unfold nup
      split
      · have := ih (dsN (pcV t n (pp t n p0 c))); omega
      · have := ih i; omega
    · have := ih i; omega
theorem wLt_256 {t : Nat → Nat} (ht : ∀ i, t i < 256) (n p0 : Nat) : ∀ c, wLt t n p0 c 256 = 1 := by
  intro c
  induction c with
  | zero => rfl
  | succ c ih =>
    have a := (psy_lt ht (n := n) (p := pp t n p0 c)).2
    unfold wLt nup
    rw [if_neg (fun h => a h.symm)]
    exact ih
theorem wLt_pos {t : Nat → Nat} {n p0 : Nat} (a : Nat) : ∀ c, 0 < wLt t n p0 c a → 0 < wLt t n p0 (c + 1) a := by
  intro c h
  show 0 < nup (wLt t n p0 c) (psy t n (pp t n p0 c)) (wLt t n p0 c (psy t n (pp t n p0 c)) + 1) a
  unfold nup
  split
  · omega
  · exact h
/-- with a piece there are two letters at least -/
theorem wLt_two {t : Nat → Nat} (ht : ∀ i, t i < 256) {n p0 c : Nat} (hc : 1 ≤ c) : 2 ≤ (srt (wLt t n p0 c) 286).1 := by
  have h0 : ∀ c, 1 ≤ c → 0 < wLt t n p0 c (psy t n (pp t n p0 0)) := by
    intro c
    induction c with
    | zero => intro h; omega
    | succ c ih =>
      intro _
      by_cases h1 : 1 ≤ c
      · exact wLt_pos _ c (ih h1)
      · have : c = 0 := by omega
        subst this
        show 0 < nup _ _ _ _
        unfold nup
        rw [if_pos rfl]
        omega
  have p1 := psy_lt ht (n := n) (p := pp t n p0 0)
  obtain ⟨i, hi, ei⟩ := srt_has (h0 c hc) 286 p1.1
  obtain ⟨j, hj, ej⟩ := srt_has (g := wLt t n p0 c) (k := 256) (by rw [wLt_256 ht]; decide) 286 (by decide)
  by_cases h : i = j
  · rw [h, ej] at ei
    exact absurd ei.symm p1.2
  · omega
/-! the made codes -/
def lst (g : Nat → Nat) : Nat → Nat
  | 0 => 0
  | n + 1 => if 0 < g n then n + 1 else lst g n
theorem lst_le (g : Nat → Nat) : ∀ n, lst g n ≤ n := by
  intro n
  induction n with
  | zero => exact Nat.le_refl _
  | succ n ih => unfold lst; split <;> omega
theorem lst_gt {g : Nat → Nat} {k : Nat} (h : 0 < g k) : ∀ n, k < n → k < lst g n := by
  intro n
  induction n with
  | zero => intro h; omega
  | succ n ih =>
    intro hk
    unfold lst
    split
    · omega
    · rename_i h2
      by_cases e : k = n
      · rw [e] at h; exact absurd h h2
      · exact ih (by omega)
def mkL (t : Nat → Nat) (n p0 : Nat) : Nat → Nat := lbw (wLt t n p0 (npc t n p0)) 286 15
def mkD (t : Nat → Nat) (n p0 : Nat) : Nat → Nat := lbw (wDt t n p0 (npc t n p0)) 30 15
def nLt (t : Nat → Nat) (n p0 : Nat) : Nat := lst (mkL t n p0) 286
def nDs (t : Nat → Nat) (n p0 : Nat) : Nat := if lst (mkD t n p0) 30 = 0 then 1 else lst (mkD t n p0) 30
def mrw (t : Nat → Nat) (n p0 : Nat) : Nat → Nat := fun i => if i < nLt t n p0 then mkL t n p0 i else mkD t n p0 (i - nLt t n p0)
def mtl (t : Nat → Nat) (n p0 : Nat) : tS := told (mrw t n p0) (nLt t n p0 + nDs t n p0)
def twt (s : tS) : Nat → Nat → Nat
  | 0 => fun _ => 0
  | c + 1 => nup (twt s c) (s.2.1 c) (twt s c (s.2.1 c) + 1)
def nzs (w : Nat → Nat) : Nat → Nat
  | 0 => 0
  | i + 1 => nzs w i + (if 0 < w i then 1 else 0)
theorem nzs_up {w : Nat → Nat} {a : Nat} : ∀ N, nzs (nup w a (w a + 1)) N = nzs w N + if a < N ∧ w a = 0 then 1 else 0 := by
  intro N
  induction N with
  | zero => rfl
  | succ N ih =>
    show nzs (nup w a (w a + 1)) N + (if 0 < nup w a (w a + 1) N then 1 else 0) = nzs w N + (if 0 < w N then 1 else 0) + _
    rw [ih]
    unfold nup
    by_cases h : N = a
    · subst h
      rw [if_pos rfl, if_pos (Nat.succ_pos _)]
      by_cases h0 : w N = 0
      · rw [if_neg (by omega), if_neg (by omega), if_pos (by omega)]
      · rw [if_neg (by omega), if_pos (by omega), if_neg (by omega)]
    · rw [if_neg h]
      have e1 : (if a < N + 1 ∧ w a = 0 then 1 else 0) = if a < N ∧ w a = 0 then 1 else 0 := by
        by_cases h2 : a < N ∧ w a = 0
        · rw [if_pos h2, if_pos (by omega)]
        · rw [if_neg h2, if_neg (by omega)]
      rw [e1]
      generalize (if a < N ∧ w a = 0 then 1 else 0) = z
      generalize (if 0 < w N then 1 else 0) = y
      omega
theorem twt_le (s : tS) : ∀ c i, twt s c i ≤ c := by
  intro c
  induction c with
  | zero => intro i; exact Nat.le_refl _
  | succ c ih => intro i; unfold twt nup; split; have := ih (s.2.1 c); omega; have := ih i; omega
def tw1 (w : Nat → Nat) : Nat → Nat := if nzs w 19 = 1 then (if w 0 = 0 then nup w 0 1 else nup w 1 1) else w
def mkK (t : Nat → Nat) (n p0 : Nat) : Nat → Nat := lbw (tw1 (twt (mtl t n p0) (mtl t n p0).1)) 19 7
def kdc (g : Nat → Nat) : Nat → Nat
  | 0 => 0
  | m + 1 => if m + 1 ≤ 4 then m + 1 else if g (ordN m) = 0 then kdc g m else m + 1
def kst (v k m : Nat) : Nat := if 0 < v ∧ m ≤ k then k + 1 else m
def kac (g : Nat → Nat) : Nat → Nat
  | 0 => 4
  | k + 1 => kst (g (ordN k)) k (kac g k)
theorem kdc_ok (g : Nat → Nat) : ∀ m, kdc g m ≤ m ∧ (4 ≤ m → 4 ≤ kdc g m) := by
  intro m
  induction m with
  | zero => exact ⟨Nat.le_refl _, fun h => h⟩
  | succ m ih =>
    unfold kdc
    split
    · omega
    split
    · omega
    · omega
theorem kac_kdc (g : Nat → Nat) : ∀ k, kac g k = if k ≤ 4 then 4 else kdc g k := by
  intro k
  induction k with
  | zero => rfl
  | succ k ih =>
    have hk := kdc_ok g k
    show (if 0 < g (ordN k) ∧ kac g k ≤ k then k + 1 else kac g k) = _
    rw [ih]
    by_cases h : k + 1 ≤ 4
    · rw [if_pos h, if_pos (show k ≤ 4 by omega), if_neg (by omega)]
    · rw [if_neg h]
      show _ = if k + 1 ≤ 4 then k + 1 else if g (ordN k) = 0 then kdc g k else k + 1
      rw [if_neg h]
      by_cases h4 : k ≤ 4
      · have : k = 4 := by omega
        subst this
        rw [if_pos (Nat.le_refl 4)]
        by_cases hg : g (ordN 4) = 0
        · rw [if_neg (by omega), if_pos hg]
          have a : kdc g 4 = 4 := rfl
          rw [a]
        · rw [if_pos ⟨by omega, Nat.le_refl 4⟩, if_neg hg]
      · rw [if_neg h4]
        by_cases hg : g (ordN k) = 0
        · rw [if_neg (by omega), if_pos hg]
        · rw [if_pos ⟨by omega, hk.1⟩, if_neg hg]
def nKs (t : Nat → Nat) (n p0 : Nat) : Nat := kdc (mkK t n p0) 19
def tbs (y : Nat) : Nat := if y < 16 then 0 else if y = 16 then 2 else if y = 17 then 3 else 7
def tbt (s : tS) (g : Nat → Nat) : Nat → Nat
  | 0 => 0
  | c + 1 => tbt s g c + (g (s.2.1 c) + tbs (s.2.1 c))
theorem tbt_mono (s : tS) (g : Nat → Nat) (c : Nat) : ∀ j, tbt s g c ≤ tbt s g (c + j) := by
  intro j
  induction j with
  | zero => exact Nat.le_refl _
  | succ j ih => show _ ≤ tbt s g (c + j) + _; omega
def mbt (t : Nat → Nat) (n p0 : Nat) : Nat := 14 + 3 * nKs t n p0 + tbt (mtl t n p0) (mkK t n p0) (mtl t n p0).1
/-! kinds and bits of a block -/
def plB (a bytes : Nat) : Nat := (a + 3 + 7) / 8 * 8 - a + 32 + 8 * bytes
def fxB (t : Nat → Nat) (n p0 : Nat) : Nat := 3 + (flen 256 + pbs t n p0 flen (fun _ => 5) (npc t n p0))
def mdB (t : Nat → Nat) (n p0 : Nat) : Nat := 3 + mbt t n p0 + (mkL t n p0 256 + pbs t n p0 (mkL t n p0) (mkD t n p0) (npc t n p0))
def knd (t : Nat → Nat) (n p0 a : Nat) : Nat :=
  if fxB t n p0 < plB a (pend t n p0 - p0) then (if 0 < npc t n p0 ∧ mdB t n p0 < fxB t n p0 then 2 else 1)
  else (if 0 < npc t n p0 ∧ mdB t n p0 < plB a (pend t n p0 - p0) then 2 else 0)
/-! what is written -/
def wpc (t : Nat → Nat) (n p : Nat) (gL gD : Nat → Nat) (NL ND : Nat) (s : Nat × Nat) : Nat × Nat :=
  if isS t n p then bput (bput (bput (bput s (rev (cde gL NL (257 + lsN (pcL t n p))) (gL (257 + lsN (pcL t n p)))) (gL (257 + lsN (pcL t n p)))) (pcL t n p - lbas (lsN (pcL t n p))) (lbts (lsN (pcL t n p)))) (rev (cde gD ND (dsN (pcV t n p))) (gD (dsN (pcV t n p)))) (gD (dsN (pcV t n p)))) (pcV t n p - dbas (dsN (pcV t n p))) (dbts (dsN (pcV t n p)))
  else bput s (rev (cde gL NL (t p)) (gL (t p))) (gL (t p))
def wps (t : Nat → Nat) (n p0 : Nat) (gL gD : Nat → Nat) (NL ND : Nat) (s : Nat × Nat) : Nat → Nat × Nat
  | 0 => s
  | c + 1 => wpc t n (pp t n p0 c) gL gD NL ND (wps t n p0 gL gD NL ND s c)
theorem wpc_2 (t : Nat → Nat) (n p : Nat) (gL gD : Nat → Nat) (NL ND : Nat) (s : Nat × Nat) : (wpc t n p gL gD NL ND s).2 = s.2 + pbt t n p gL gD := by
  unfold wpc pbt
  split
  · show s.2 + _ + _ + _ + _ = _; omega
  · rfl
theorem wps_2 (t : Nat → Nat) (n p0 : Nat) (gL gD : Nat → Nat) (NL ND : Nat) (s : Nat × Nat) : ∀ c, (wps t n p0 gL gD NL ND s c).2 = s.2 + pbs t n p0 gL gD c := by
  intro c
  induction c with
  | zero => rfl
  | succ c ih => show (wpc t n _ gL gD NL ND _).2 = s.2 + (_ + _); rw [wpc_2, ih]; omega
def wpa (t : Nat → Nat) (n p0 : Nat) (gL gD : Nat → Nat) (NL ND : Nat) (s : Nat × Nat) : Nat × Nat := bput (wps t n p0 gL gD NL ND s (npc t n p0)) (rev (cde gL NL 256) (gL 256)) (gL 256)
def wks (g : Nat → Nat) (s : Nat × Nat) : Nat → Nat × Nat
  | 0 => s
  | k + 1 => bput (wks g s k) (g (ordN k)) 3
theorem wks_2 (g : Nat → Nat) (s : Nat × Nat) : ∀ k, (wks g s k).2 = s.2 + 3 * k := by
  intro k
  induction k with
  | zero => rfl
  | succ k ih => show (wks g s k).2 + 3 = _; omega
def wtl (g : Nat → Nat) (q : tS) (s : Nat × Nat) : Nat → Nat × Nat
  | 0 => s
  | c + 1 => bput (bput (wtl g q s c) (rev (cde g 19 (q.2.1 c)) (g (q.2.1 c))) (g (q.2.1 c))) (q.2.2 c) (tbs (q.2.1 c))
theorem wtl_2 (g : Nat → Nat) (q : tS) (s : Nat × Nat) : ∀ c, (wtl g q s c).2 = s.2 + tbt q g c := by
  intro c
  induction c with
  | zero => rfl
  | succ c ih => show (wtl g q s c).2 + _ + _ = s.2 + (_ + (_ + _)); omega
def wtg (t : Nat → Nat) (n p0 : Nat) (s : Nat × Nat) : Nat × Nat := wtl (mkK t n p0) (mtl t n p0) (wks (mkK t n p0) (bput (bput (bput s (nLt t n p0 - 257) 5) (nDs t n p0 - 1) 5) (nKs t n p0 - 4) 4) (nKs t n p0)) (mtl t n p0).1
theorem wtg_2 (t : Nat → Nat) (n p0 : Nat) (s : Nat × Nat) : (wtg t n p0 s).2 = s.2 + mbt t n p0 := by
  unfold wtg mbt
  rw [wtl_2, wks_2]
  show s.2 + 5 + 5 + 4 + _ + _ = _
  omega
def wby (t : Nat → Nat) (p : Nat) (s : Nat × Nat) : Nat → Nat × Nat
  | 0 => s
  | k + 1 => bput (wby t p s k) (t (p + k)) 8
theorem wby_2 (t : Nat → Nat) (p : Nat) (s : Nat × Nat) : ∀ k, (wby t p s k).2 = s.2 + 8 * k := by
  intro k
  induction k with
  | zero => rfl
  | succ k ih => show (wby t p s k).2 + 8 = _; omega
def wpl (t : Nat → Nat) (p m : Nat) (s : Nat × Nat) : Nat × Nat := wby t p (bput (bput (s.1, (s.2 + 7) / 8 * 8) m 16) (65535 - m) 16) m
theorem wpl_2 (t : Nat → Nat) (p m : Nat) (s : Nat × Nat) : (wpl t p m s).2 = (s.2 + 7) / 8 * 8 + 32 + 8 * m := by
  unfold wpl
  rw [wby_2]
  show (s.2 + 7) / 8 * 8 + 16 + 16 + _ = _
  omega
def wbk (t : Nat → Nat) (n p0 : Nat) (s : Nat × Nat) : Nat × Nat :=
  if knd t n p0 s.2 = 0 then wpl t p0 (pend t n p0 - p0) (bput (bput s (if pend t n p0 < n then 0 else 1) 1) 0 2)
  else if knd t n p0 s.2 = 1 then wpa t n p0 flen (fun _ => 5) 288 32 (bput (bput s (if pend t n p0 < n then 0 else 1) 1) 1 2)
  else wpa t n p0 (mkL t n p0) (mkD t n p0) 286 30 (wtg t n p0 (bput (bput s (if pend t n p0 < n then 0 else 1) 1) 2 2))
theorem wbk_2 (t : Nat → Nat) (n p0 : Nat) (s : Nat × Nat) : s.2 + 3 ≤ (wbk t n p0 s).2 ∧ (wbk t n p0 s).2 ≤ s.2 + plB s.2 (pend t n p0 - p0) := by
  have h3 : ∀ a b k, (bput (bput s a 1) b k).2 = s.2 + 1 + k := fun a b k => rfl
  unfold wbk knd
  by_cases h1 : fxB t n p0 < plB s.2 (pend t n p0 - p0)
  · rw [if_pos h1]
    by_cases h2 : 0 < npc t n p0 ∧ mdB t n p0 < fxB t n p0
    · rw [if_pos h2, if_neg (by decide), if_neg (by decide)]
      unfold wpa
      show _ ≤ (wps t n p0 _ _ _ _ _ _).2 + _ ∧ (wps t n p0 _ _ _ _ _ _).2 + _ ≤ _
      rw [wps_2, wtg_2, h3]
      have := h2.2
      unfold mdB at this
      omega
    · rw [if_neg h2, if_neg (by decide), if_pos rfl]
      unfold wpa
      show _ ≤ (wps t n p0 _ _ _ _ _ _).2 + _ ∧ (wps t n p0 _ _ _ _ _ _).2 + _ ≤ _
      rw [wps_2, h3]
      unfold fxB at h1
      omega
  · rw [if_neg h1]
    by_cases h2 : 0 < npc t n p0 ∧ mdB t n p0 < plB s.2 (pend t n p0 - p0)
    · rw [if_pos h2, if_neg (by decide), if_neg (by decide)]
      unfold wpa
      show _ ≤ (wps t n p0 _ _ _ _ _ _).2 + _ ∧ (wps t n p0 _ _ _ _ _ _).2 + _ ≤ _
      rw [wps_2, wtg_2, h3]
      have := h2.2
      unfold mdB at this
      omega
    · rw [if_neg h2, if_pos rfl, wpl_2, h3]
      unfold plB
      omega
/-- all blocks: bits, place, blocks, stretches, told -/
abbrev pS : Type := (Nat × Nat) × Nat × Nat × Nat × (Nat → Nat)
def wbs (t : Nat → Nat) (n : Nat) : Nat → pS → pS
  | 0, s => s
  | f + 1, s => if pend t n s.2.1 < n then wbs t n f (wbk t n s.2.1 s.1, pend t n s.2.1, s.2.2.1 + 1, s.2.2.2.1 + scn t n s.2.1 (npc t n s.2.1), noteT s.2.2.2.2 s.2.2.1 (knd t n s.2.1 s.1.2) s.1.2 ((wbk t n s.2.1 s.1).2 - s.1.2) (pend t n s.2.1 - s.2.1))
    else (wbk t n s.2.1 s.1, pend t n s.2.1, s.2.2.1 + 1, s.2.2.2.1 + scn t n s.2.1 (npc t n s.2.1), noteT s.2.2.2.2 s.2.2.1 (knd t n s.2.1 s.1.2) s.1.2 ((wbk t n s.2.1 s.1).2 - s.1.2) (pend t n s.2.1 - s.2.1))
def hLg (k : Nat) : Nat := if k = 0 then 31 else if k = 1 then 139 else if k = 2 then 8 else if k = 9 then 255 else 0
def whd (w : Nat) : Nat × Nat := if w = 1 then bput (bput (0, 0) 120 8) 156 8 else if w = 2 then bput (bput (bput (bput (bput (bput (bput (bput (bput (bput (0, 0) 31 8) 139 8) 8 8) 0 8) 0 8) 0 8) 0 8) 0 8) 0 8) 255 8 else (0, 0)
