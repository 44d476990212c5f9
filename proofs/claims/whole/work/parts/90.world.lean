/-! the world of the law: what a call does to it -/
theorem wbs_bl {t : Nat → Nat} {n : Nat} (hn : n ≤ 32768) : ∀ f e, n - e.2.1 < f → pOK n e → (wbs t n f e).2.2.1 ≤ 33 := by
  intro f
  induction f with
  | zero => intro e h; omega
  | succ f ih =>
    intro e hf h
    have hq := pOK_nxt (t := t) hn h
    have hp := pend_ok (t := t) h.1
    have hr := (pOK_room (t := t) hn h).2
    rw [wbs_s]
    split
    · rename_i hlt
      have := hp.2.2.1 hlt
      exact ih _ (by show n - pend t n e.2.1 < f; omega) (hq.2 hlt)
    · show e.2.2.1 + 1 ≤ 33
      omega
theorem pkB_bl {T : wRow} (hn : T.2 ≤ 32768) (w : Nat) (td : Nat → Nat) : (pkB T w td).2.2.1 ≤ 33 := wbs_bl hn 32769 _ (by dsimp only; omega) (pOK_0 T.2 w td)
theorem pkS_bd {T : wRow} (hn : T.2 ≤ 32768) (w : Nat) (td : Nat → Nat) : (pkS T w td).2 / 8 ≤ 65536 := by
  have h := pkB_bd hn w td
  unfold pkS
  rw [wtS_2]
  dsimp only
  split
  · omega
  · split <;> omega
theorem i32_pos {v : Int32} (h : ¬ v < 0) : ∃ n, n < 2 ^ 31 ∧ v = nI n := by
  refine ⟨v.toInt.toNat, ?_, ?_⟩
  · have h1 := v.toInt_lt
    omega
  · have h2 : 0 ≤ v.toInt := by
      rw [Int32.lt_iff_toInt_lt] at h
      have : (0 : Int32).toInt = 0 := rfl
      omega
    have h1 := v.toInt_lt
    apply Int32.toInt_inj.mp
    rw [nI_toInt (by omega)]
    omega
theorem cpyN_eq {f g t : Nat → Nat} {n : Nat} (h : agr n f g) : cpyN f t 0 0 n = cpyN g t 0 0 n := by
  funext j
  unfold cpyN
  by_cases h1 : 0 ≤ j ∧ j < 0 + n
  · rw [if_pos h1, if_pos h1]; exact h _ (by omega)
  · rw [if_neg h1, if_neg h1]
def hC (s0 : va_E) (T R : wRow) (P : wRep) (k : wPK) (u : wUN) : Nat → va_E := fun i => ((hc s0 T R P k u [])[i]?).getD s0
section Heaps
variable {s0 c : va_E} {T R Tm Rm : wRow} {P : wRep} {k : wPK} {u : wUN} {cd : Int32} {Pm : wRp} {K A : wK4} {a mb : Nat} {B : wMB} {f g : Nat → Int64} {E : xH}
theorem hX_M : hc s0 T R P k u (hm cd Tm Rm Pm K a mb A B (aJ 1 f :: E)) = hM (hC s0 T R P k u) cd Tm Rm Pm K a mb A B (aJ 1 f :: E) := rfl
theorem hX_set : (hc s0 T R P k u (hm cd Tm Rm Pm K a mb A B (aJ 1 f :: E))).set 95 (aJ 1 g) = hM (hC s0 T R P k u) cd Tm Rm Pm K a mb A B (aJ 1 g :: E) := rfl
theorem hX_app : hc s0 T R P k u (hm cd Tm Rm Pm K a mb A B (aJ 1 f :: E)) ++ [c] = hM (hC s0 T R P k u) cd Tm Rm Pm K a mb A B (aJ 1 f :: (E ++ [c])) := rfl
theorem hX_95 : (hc s0 T R P k u (hm cd Tm Rm Pm K a mb A B (aJ 1 f :: E)))[95]? = some (aJ 1 f) := rfl
theorem hM_74 {C : Nat → va_E} : ∃ fs, (hM C cd Tm Rm Pm K a mb A B (aJ 1 f :: E))[74]? = some (.inr (12, .int cd :: fs)) := ⟨_, rfl⟩
theorem hM_95 {C : Nat → va_E} : (hM C cd Tm Rm Pm K a mb A B (aJ 1 f :: E))[95]? = some (aJ 1 f) := rfl
end Heaps
/-- class and model stand alike: tape, result, report, told -/
def stD (s0 : va_E) (T R : wRow) (P : wRp) (td : Nat → Nat) (H : xH) : Prop := ∃ (rb rm : Nat → Nat) (k : wPK) (u : wUN) (cd : Int32) (a mb : Nat) (A : wK4) (B : wMB) (f : Nat → Int64) (E : xH), agr R.2 rb R.1 ∧ agr R.2 rm R.1 ∧ (∀ i, rb i < 256) ∧ (∀ i, rm i < 256) ∧ PKst k ∧ rcOK u.2.2.2.1 flen 288 ∧ rcOK u.2.2.2.2.1 (fun _ => 5) 32 ∧ H = hc s0 T (rb, R.2) (P.1, P.2.1, P.2.2.1, P.2.2.2, nF td) k u (hm cd T (rm, R.2) P (K4 td) a mb A B (aJ 1 f :: E))
def okS (T R : wRow) (P : wRp) : Prop := (∀ i, T.1 i < 256) ∧ T.2 ≤ 32768 ∧ (∀ i, R.1 i < 256) ∧ R.2 ≤ 65536 ∧ P.2.2.1 < 2 ^ 20
/-- a call of the law, from its section to the loop's end -/
def lwS (l : Launch) (x : xX) (Ls : Nat) (xs : Nat → Int32) (i k0 : Nat) (T R : wRow) (P : wRp) (td : Nat → Nat) : Prop := ∃ (n : Nat) (T' R' : wRow) (P' : wRp) (td' : Nat → Nat), n ≤ 1 ∧ okS T' R' P' ∧ ∀ (mc ms n0 uc us : Nat) (Q : xO → xH → Prop) (cl : Bool) (H : xH) (y5 y6 y7 : Option Value), stD (aI Ls xs) T R P td H → uc + n ≤ mc → us + 6 * n ≤ ms → (∀ (H' : xH) (y5 y6 y7 : Option Value), stD (aI Ls xs) T' R' P' td' H' → xW l x 1750 mc ms mLA_law n0 Q false 456 [some (.ref 0), some (.ref 2), some (.ref 74), some (.ref 95), some (.int (nI i)), y5, y6, y7] [] H' (uc + n) (us + 6 * n)) → xW l x 1750 mc ms mLA_law n0 Q cl k0 [some (.ref 0), some (.ref 2), some (.ref 74), some (.ref 95), some (.int (nI i)), y5, y6, y7] [] H uc us
theorem arg_p {Ls : Nat} {xs : Nat → Int32} {i : Nat} (hi : i + 6 ≤ Ls) (hL : Ls ≤ 3072) (j : Nat) (hj : j < 6) : vp_in (nI i + nI j) Ls ∧ xs (nI i + nI j).toNatClampNeg = xs (i + j) := by
  rw [nI_add]
  exact ⟨vp_in_nI (by omega) (by omega), by rw [nI_clamp (by omega)]⟩
