theorem xCt.ofF {l : Launch} {x : xX} {d mc ms : Nat} {μ : xM} {A : List Value} {H : xH} {Q : xO → xH → Prop} (hy : plainFor μ.1 = true) (ho : x_cn μ.2.2.2.2.1 = μ.1.cls) (hck : x_ck μ.2.1 0 μ.2.2.2.2.2 = true) (hl : (x_la A).length ≤ μ.2.2.1) (hh : x_hd μ.1 = [])
    (h : xW l x d mc ms μ H.length Q true 0 (x_L0 A μ.2.2.1) [] H 0 0) : xCt l x d mc ms μ A H Q := by
  refine MetFree.of_bodySF (code := μ.2.1) (maxLocals := μ.2.2.1) (ret := μ.2.2.2.1) hy ?_ ?_
  · intro args s m hp hn
    obtain ⟨meth, c, h1, h2, h3, h4, h5, h6, -, -⟩ := Cond.code_spec hn (atoms_spec (ws := xws μ) hp _ List.mem_cons_self)
    exact ⟨meth, c, h1, h2, h3, h4, h5, h6⟩
  · intro p e s m args below meth c s₁ B hml hP _
    obtain ⟨rfl, hR, hsz, hK⟩ := hP
    have hh0 : s₁.heap = s.heap := by rw [B.state]; rfl
    have hts := atoms_spec (ws := xws μ) B.pre
    have hE : xE x μ H.length p s m _ meth c := ⟨B.exec, B.bytes, B.returns, hml, by rw [ho]; exact findClass_of_methodNamed B.named, fun w hw => hts w (List.mem_cons_of_mem _ hw), B.notSynchronized, (name_of_methodNamed B.named B.method).1, hsz, hK, (by rw [hh, Array.isEmpty_iff.mp (B.noHandlers (hts _ List.mem_cons_self))]; rfl), hck⟩
    have w := h p e s m _ below meth c _ s.heap [] hE hR va_S.rf (xLv.entry hl) rfl (fun _ => ⟨rfl, rfl⟩)
    rw [show x_pc μ.2.2.2.2.2 0 = 0 by cases μ.2.2.2.2.2 <;> rfl] at w
    have w2 : W p l e (xrm d mc ms) s m ((A.map (x_rv x)).toArray) below meth c s.heap [] 0 0 (xMQ x H.length mc ms Q below s) (entryFrame m (A.map (x_rv x)).toArray μ.2.2.1) := by rw [lg_entry_eq]; exact w
    obtain ⟨t, a1, o, b1, b2, b3⟩ := w2 s₁ hh0 (Stand.of_body B)
    exact ⟨t, o, a1, b1, b2, b3⟩
/-! the heap after a store -/
theorem x_gs {H H2 : xH} {r : Nat} {c c0 : va_E} (e : H2 = H.set r c) (h : H[r]? = some c0) : H2[r]? = some c := by
  subst e
  have hl : r < H.length := (List.getElem?_eq_some_iff.mp h).1
  rw [List.getElem?_set, if_pos rfl, if_pos hl]
theorem x_gn {H H2 : xH} {r q : Nat} {c : va_E} {v : Option va_E} (e : H2 = H.set r c) (h : H[q]? = v) (hne : r ≠ q) : H2[q]? = v := by
  subst e
  rw [List.getElem?_set, if_neg hne]
  exact h
theorem x_gl {H H2 : xH} {r : Nat} {c : va_E} (e : H2 = H.set r c) : H2.length = H.length := by subst e; rw [List.length_set]
theorem x_sid {H : xH} {r : Nat} {c : va_E} (h : H[r]? = some c) : H.set r c = H := by
  apply List.ext_getElem?
  intro i
  rw [List.getElem?_set]
  by_cases hi : r = i
  · subst hi
    rw [if_pos rfl, if_pos (List.getElem?_eq_some_iff.mp h).1, h]
  · rw [if_neg hi]
abbrev aI (N : Nat) (f : Nat → Int32) : va_E := .inl (0, N, .inl f)
abbrev aB (N : Nat) (f : Nat → Int32) : va_E := .inl (1, N, .inl f)
abbrev aJ (N : Nat) (f : Nat → Int64) : va_E := .inl (2, N, .inr (.inl f))
abbrev aZ (N : Nat) (f : Nat → Int32) : va_E := .inl (3, N, .inl f)
abbrev cRO (a : Nat) (n : Int32) : va_E := .inr (7, [.ref a, .int n])
abbrev cRE (t : Nat) (fa pl bl st : Int32) : va_E := .inr (6, [.ref t, .int fa, .int pl, .int bl, .int st])
/-- a row of bytes as numbers -/
abbrev bF (t : Nat → Nat) : Nat → Int32 := fun i => sb_b (t i)
def uN8 (v : Int32) : Nat := v.toBitVec.toNat % 256
theorem uN8_lt (v : Int32) : uN8 v < 256 := Nat.mod_lt _ (by decide)
def nup (t : Nat → Nat) (k v : Nat) : Nat → Nat := fun j => if j = k then v else t j
theorem nar_b (v : Int32) : vp_nar .byte v = sb_b (uN8 v) := by
  rw [vp_nar_byte]
  unfold sb_b uN8
  have h : v.toInt8 = (nI (v.toBitVec.toNat % 256)).toInt8 := by
    apply Int8.toBitVec_inj.mp
    rw [Int32.toBitVec_toInt8, Int32.toBitVec_toInt8, BitVec.signExtend_eq_setWidth_of_le _ (by decide), BitVec.signExtend_eq_setWidth_of_le _ (by decide)]
    apply BitVec.eq_of_toNat_eq
    rw [BitVec.toNat_setWidth, BitVec.toNat_setWidth, pk_tn (by omega)]
    omega
  rw [h]
theorem upd_b {t : Nat → Nat} {k : Nat} {v : Int32} : upd (bF t) k (vp_nar .byte v) = bF (nup t k (uN8 v)) := by
  funext j
  simp only [upd, bF, nup, nar_b]
  split <;> rfl
section Leaf
variable {l : Launch} {x : xX} {d : Nat} {H : xH} {r a N n : Nat} {f : Nat → Int32} {t : Nat → Nat} {v w : Int32}
theorem c_MA_max : xCr l x d 0 0 mMA_max [.int v, .int w] H (fun o H' => o = some (.int (if v < w then w else v)) ∧ H' = H) := by
  refine xCt.ofF (by decide +kernel) rfl ck_MA_max (Nat.le_of_ble_eq_true rfl) rfl (b_MA_max_0 ⟨fun h => ?_, fun h => ?_⟩)
  · exact ⟨rfl, Nat.le_refl _, _, rfl, by rw [if_pos h], rfl⟩
  · exact ⟨rfl, Nat.le_refl _, _, rfl, by rw [if_neg h], rfl⟩
theorem c_RO_byteAt (h1 : H[r]? = some (cRO a w)) (h2 : H[a]? = some (aB N (bF t))) (ht : ∀ i, t i < 256) (hn : n < N) (hN : N < 2 ^ 31) : xCr l x d 0 0 mRO_byteAt [.ref r, .int (nI n)] H (fun o H' => o = some (.int (nI (t n))) ∧ H' = H) := by
  refine xCt.of (by decide) rfl ck_RO_byteAt (Nat.le_of_ble_eq_true rfl) rfl (b_RO_byteAt_0 ⟨a, ⟨_, h1, rfl⟩, N, _, h2, vp_in_nI hn hN, rfl, Nat.le_refl _, _, rfl, ?_, rfl⟩)
  rw [nI_clamp (by omega)]
  exact congrArg (fun z => some (Value.int z)) (sb_byte (t n) (ht n)).1
theorem c_RO_add (h1 : H[r]? = some (cRO a (nI n))) (h2 : H[a]? = some (aB N (bF t))) (hn : n < N) (hN : N < 2 ^ 31) : xCr l x d 0 0 mRO_add [.ref r, .int v] H (fun o H' => o = none ∧ H' = (H.set a (aB N (bF (nup t n (uN8 v))))).set r (cRO a (nI (n + 1)))) := by
  have hne : a ≠ r := by rintro rfl; rw [h1] at h2; cases h2
  refine xCt.of (by decide) rfl ck_RO_add (Nat.le_of_ble_eq_true rfl) rfl (b_RO_add_0 ⟨nI n, ⟨_, h1, rfl⟩, a, ⟨_, h1, rfl⟩, 1, _, h2, by decide, fun hb => ?_, fun hb => ?_⟩)
  · exact absurd hb (nI_ge hn hN)
  · refine ⟨a, ⟨_, h1, rfl⟩, nI n, ⟨_, h1, rfl⟩, N, _, h2, vp_in_nI hn hN, fun H2 e2 => ?_⟩
    have g1 := x_gn e2 h1 hne
    refine ⟨nI n, ⟨_, g1, rfl⟩, _, g1, Nat.le_of_ble_eq_true rfl, fun H3 e3 => ⟨rfl, Nat.le_refl _, _, rfl, rfl, ?_⟩⟩
    rw [e3, e2, nI_clamp (by omega), pk_vb, ← vp_nar_byte, upd_b, nI_1]
    rfl
theorem c_MA_min : xCr l x d 0 0 mMA_min [.int v, .int w] H (fun o H' => o = some (.int (if v ≤ w then v else w)) ∧ H' = H) := by
  refine xCt.ofF (by decide +kernel) rfl ck_MA_min (Nat.le_of_ble_eq_true rfl) rfl (b_MA_min_0 ⟨fun h => ?_, fun h => ?_⟩)
  · exact ⟨rfl, Nat.le_refl _, _, rfl, by rw [if_neg (by intro h2; exact absurd h (Int32.not_lt.mpr h2))], rfl⟩
  · exact ⟨rfl, Nat.le_refl _, _, rfl, by rw [if_pos (Int32.not_lt.mp h)], rfl⟩
def x_fil (f : Nat → Int32) (v : Int32) (i j : Nat) : Nat → Int32 := fun k => if i ≤ k ∧ k < j then v else f k
theorem x_fil_s {f : Nat → Int32} {v : Int32} {i j : Nat} (h : i < j) : x_fil (upd f i v) v (i + 1) j = x_fil f v i j := by
  funext k
  simp only [x_fil, upd]
  by_cases h1 : k = i
  · subst h1
    rw [if_neg (by omega), if_pos rfl, if_pos (by omega)]
  · by_cases h2 : i + 1 ≤ k ∧ k < j
    · rw [if_pos h2, if_pos (by omega)]
    · rw [if_neg h2, if_neg h1, if_neg (by omega)]
theorem x_fil_0 {f : Nat → Int32} {v : Int32} {j : Nat} : x_fil f v j j = f := by
  funext k
  simp only [x_fil]
  rw [if_neg (by omega)]
theorem AR_fill_loop {n0 : Nat} {Q : xO → xH → Prop} (hN : N < 2 ^ 31) (h2 : 2 ≤ r) : ∀ (k i : Nat), i + k = N → ∀ (H : xH) (f : Nat → Int32) (cl : Bool), H[r]? = some (aI N f) → Q (.inl none) (H.set r (aI N (x_fil f v i N))) → xW l x d 0 0 mAR_fill n0 Q cl 5 [some (.ref r), some (.int v), some (.int (nI i)), some (.int (nI N))] [] H 0 0 := by
  intro k
  induction k with
  | zero =>
    intro i hi H f cl h hq
    have : i = N := by omega
    subst this
    rw [x_fil_0, x_sid h] at hq
    exact b_AR_fill_5 ⟨fun _ => ⟨rfl, Nat.le_refl _, hq⟩, fun hb => absurd (nI_le (Nat.le_refl _) hN) hb⟩
  | succ k ih =>
    intro i hi H f cl h hq
    refine b_AR_fill_5 ⟨fun hb => absurd hb (nI_ge (by omega) hN), fun _ => ⟨N, f, h, h2, vp_in_nI (by omega) hN, fun H2 e => ?_⟩⟩
    rw [nI_clamp (by omega)] at e
    rw [nI_1]
    refine ih (i + 1) (by omega) H2 (upd f i v) false (x_gs e h) ?_
    rw [e, List.set_set, x_fil_s (by omega)]
    exact hq
theorem c_AR_fill (h : H[r]? = some (aI N f)) (h2 : 2 ≤ r) (hN : N < 2 ^ 31) : xCr l x d 0 0 mAR_fill [.ref r, .int v] H (fun o H' => o = none ∧ H' = H.set r (aI N (x_fil f v 0 N))) := by
  refine xCt.of (by decide) rfl ck_AR_fill (Nat.le_of_ble_eq_true rfl) rfl (b_AR_fill_0 ⟨0, _, h, by decide, ?_⟩)
  exact AR_fill_loop hN h2 N 0 (by omega) H f true h ⟨_, rfl, rfl, rfl⟩
theorem c_RE_clear {tr : Nat} {fa pl bl st : Int32} (h : H[r]? = some (cRE tr fa pl bl st)) : xCr l x d 0 0 mRE_clear [.ref r] H (fun o H' => o = none ∧ H' = H.set r (cRE tr 0 (-1) 0 0)) := by
  refine xCt.of (by decide) rfl ck_RE_clear (Nat.le_of_ble_eq_true rfl) rfl (b_RE_clear_0 ⟨_, h, Nat.le_of_ble_eq_true rfl, fun H2 e2 => ?_⟩)
  have g2 := x_gs e2 h
  refine ⟨_, g2, Nat.le_of_ble_eq_true rfl, fun H3 e3 => ?_⟩
  have g3 := x_gs e3 g2
  refine ⟨_, g3, Nat.le_of_ble_eq_true rfl, fun H4 e4 => ?_⟩
  have g4 := x_gs e4 g3
  refine ⟨_, g4, Nat.le_of_ble_eq_true rfl, fun H5 e5 => ⟨rfl, Nat.le_refl _, _, rfl, rfl, ?_⟩⟩
  rw [e5, e4, e3, e2]
  simp only [List.set_set]
  rfl
end Leaf
