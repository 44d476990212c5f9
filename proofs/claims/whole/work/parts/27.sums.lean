/-! a row filled by a function -/
def x_fg (f g : Nat → Int32) (i j : Nat) : Nat → Int32 := fun k => if i ≤ k ∧ k < j then g k else f k
theorem x_fg_s {f g : Nat → Int32} {i j : Nat} {v : Int32} (h : i < j) (hv : v = g i) : x_fg (upd f i v) g (i + 1) j = x_fg f g i j := by
  funext k
  simp only [x_fg, upd]
  by_cases h1 : k = i
  · subst h1
    rw [if_neg (by omega), if_pos rfl, if_pos (by omega), hv]
  · by_cases h2 : i + 1 ≤ k ∧ k < j
    · rw [if_pos h2, if_pos (by omega)]
    · rw [if_neg h2, if_neg h1, if_neg (by omega)]
theorem x_fg_0 {f g : Nat → Int32} {j : Nat} : x_fg f g j j = f := by
  funext k
  simp only [x_fg]
  rw [if_neg (by omega)]
theorem nI_xor (a b : Nat) : nI a ^^^ nI b = nI (a ^^^ b) := by
  apply Int32.toBitVec_inj.mp
  simp only [nI, Int32.toBitVec_xor, Int32.toBitVec_ofNat']
  apply BitVec.eq_of_toNat_eq
  simp [Nat.xor_mod_two_pow]
theorem nI_ushr1 {v : Nat} (h : v < 2 ^ 32) : ((nI v).toUInt32 >>> ((1 : Int32).toUInt32 &&& Int32.toUInt32 31)).toInt32 = nI (v / 2) := pk_ushrN h 1 1 (by decide)
theorem nI_and1 {v : Nat} (h : v < 2 ^ 32) : nI v &&& 1 = nI (v % 2) := pk_andN h 1 (by decide)
theorem nI_odd {v : Nat} (h : v < 2 ^ 32) : (nI v &&& 1 = 1) ↔ v % 2 = 1 := by
  rw [nI_and1 h]
  exact nI_eq (by omega) (by decide)
/-- one step of SUM B -/
def cs (v : Nat) : Nat := if v % 2 = 1 then (v / 2) ^^^ 3988292384 else v / 2
theorem cs_lt {v : Nat} (h : v < 2 ^ 32) : cs v < 2 ^ 32 := by
  unfold cs
  split
  · exact Nat.xor_lt_two_pow (by omega) (by decide)
  · omega
def csn : Nat → Nat → Nat
  | 0, v => v
  | n + 1, v => csn n (cs v)
def crcT (i : Nat) : Nat := csn 8 i
/-- fewer locals known: it serves where more are -/
theorem xW.less {l : Launch} {x : xX} {d mc ms : Nat} {μ : xM} {n0 : Nat} {Q : xO → xH → Prop} {cl : Bool} {k : Nat} {L L' : xL} {S : List Value} {H : xH} {uc us : Nat} (hlen : L'.length = L.length) (h : ∀ (i : Nat) (v : Value), L'[i]? = some (some v) → L[i]? = some (some v)) (kk : xW l x d mc ms μ n0 Q cl k L' S H uc us) : xW l x d mc ms μ n0 Q cl k L S H uc us :=
  fun p e s m args below meth c ls Hh locs E R hS hL hn hcl => kk p e s m args below meth c ls Hh locs E R hS ⟨hlen.trans hL.1, hL.2.1, hL.2.2.1, fun i v hi => hL.2.2.2 i v (h i v hi)⟩ hn hcl
theorem x_le {L L' : xL} (h : (L'.zip L).all (fun q => match q.1 with | none => true | some v => q.2 == some v) = true) (hlen : L'.length = L.length) : ∀ (i : Nat) (v : Value), L'[i]? = some (some v) → L[i]? = some (some v) := by
  intro i v hi
  have hlt : i < L'.length := (List.getElem?_eq_some_iff.mp hi).1
  have hlt2 : i < L.length := by omega
  have hz : (L'.zip L)[i]? = some (some v, L[i]) := by
    rw [List.getElem?_zip_eq_some]
    exact ⟨hi, List.getElem?_eq_getElem hlt2⟩
  have := List.all_eq_true.mp h _ (List.mem_of_getElem? hz)
  simp only [beq_iff_eq] at this
  rw [List.getElem?_eq_getElem hlt2, this]
section Sums
variable {l : Launch} {x : xX} {d mc ms n0 uc us : Nat} {Q : xO → xH → Prop} {r : Nat} {H : xH}
theorem SU_in : ∀ (k s v i : Nat) (cl : Bool), s + k = 8 → v < 2 ^ 32 → (∀ cl, xW l x d mc ms mSU_init n0 Q cl 15 [some (.ref r), some (.int (nI i)), some (.int (nI (csn k v))), some (.int (nI 8))] [] H uc us) → xW l x d mc ms mSU_init n0 Q cl 15 [some (.ref r), some (.int (nI i)), some (.int (nI v)), some (.int (nI s))] [] H uc us := by
  intro k
  induction k with
  | zero =>
    intro s v i cl hs hv K
    have : s = 8 := by omega
    subst this
    exact K cl
  | succ k ih =>
    intro s v i cl hs hv K
    refine b_SU_init_15 ⟨fun hb => absurd hb (nI_ge (a := s) (b := 8) (by omega) (by decide)), fun _ => ⟨fun hb => ?_, fun hb => ?_⟩⟩
    · have hv2 : ¬ v % 2 = 1 := fun h => hb ((nI_odd hv).mpr h)
      rw [nI_ushr1 hv, nI_1]
      have e : v / 2 = cs v := by unfold cs; rw [if_neg hv2]
      rw [e]
      exact ih (s + 1) (cs v) i cl (by omega) (cs_lt hv) K
    · have hv2 : v % 2 = 1 := (nI_odd hv).mp hb
      rw [nI_ushr1 hv, nI_1, show (-306674912 : Int32) = nI 3988292384 from by decide, nI_xor]
      have e : (v / 2) ^^^ 3988292384 = cs v := by unfold cs; rw [if_pos hv2]
      rw [e]
      exact ih (s + 1) (cs v) i cl (by omega) (cs_lt hv) K
theorem SU_out {r1 : Nat} (h2 : 2 ≤ r1) (huc : uc = mc) (hus : us ≤ ms) : ∀ (k i : Nat) (L2 L3 : Option Value) (H : xH) (f : Nat → Int32) (cl : Bool), i + k = 256 → H[r]? = some (.inr (8, [.ref r1])) → H[r1]? = some (aI 256 f) → Q (.inl none) (H.set r1 (aI 256 (x_fg f (fun j => nI (crcT j)) i 256))) → xW l x d mc ms mSU_init n0 Q cl 8 [some (.ref r), some (.int (nI i)), none, none] [] H uc us := by
  intro k
  induction k with
  | zero =>
    intro i L2 L3 H f cl hi h h1 hq
    have : i = 256 := by omega
    subst this
    rw [x_fg_0, x_sid h1] at hq
    exact b_SU_init_8 ⟨fun _ => ⟨huc, hus, hq⟩, fun hb => absurd (nI_le (a := 256) (b := 256) (Nat.le_refl _) (by decide)) hb⟩
  | succ k ih =>
    intro i L2 L3 H f cl hi h h1 hq
    have hne : r1 ≠ r := by rintro rfl; rw [h] at h1; cases h1
    refine b_SU_init_8 ⟨fun hb => absurd hb (nI_ge (a := i) (b := 256) (by omega) (by decide)), fun _ => ?_⟩
    refine SU_in 8 0 i i cl rfl (by omega) (fun cl => ?_)
    refine b_SU_init_15 ⟨fun _ => ⟨r1, ⟨_, h, rfl⟩, 256, f, h1, h2, vp_in_nI (by omega) (by decide), fun H4 e => ?_⟩, fun hb => absurd (nI_le (a := 8) (b := 8) (Nat.le_refl _) (by decide)) hb⟩
    rw [nI_clamp (by omega)] at e
    rw [nI_1]
    refine xW.less (L' := [some (.ref r), some (.int (nI (i + 1))), none, none]) rfl (fun j v hj => by match j, hj with | 0, hj => exact hj | 1, hj => exact hj | 2, hj => cases hj | 3, hj => cases hj | j + 4, hj => simp at hj) ?_
    refine ih (i + 1) none none H4 (upd f i (nI (csn 8 i))) false (by omega) (x_gn e h hne) (x_gs e h1) ?_
    rw [e, List.set_set, x_fg_s (f := f) (g := fun j => nI (crcT j)) (i := i) (j := 256) (v := nI (csn 8 i)) (by omega) rfl]
    exact hq
theorem c_SU_init {P : xH} {p : Nat} (hP : P.length = p) (hp : 1 ≤ p) : xCr l x 1 1 256 mSU_init [.ref p] (P ++ [.inr (8, [.null])]) (fun o H' => o = none ∧ H' = P ++ [.inr (8, [.ref (p + 1)]), aI 256 (x_fg (fun _ => 0) (fun j => nI (crcT j)) 0 256)]) := by
  refine xCt.of (by decide) rfl ck_SU_init (Nat.le_of_ble_eq_true rfl) rfl (b_SU_init_0 (xs_obj rfl lo_8_1 lo_i lo_c (by omega) (Nat.le_of_ble_eq_true rfl) (b_SU_init_2 (xs_newaK (k' := p + 1) (by rw [List.length_append, hP]; rfl) rfl (Or.inl rfl) aw_int (n := 256) rfl (by omega) (by omega) (by omega) ?_))))
  simp only [List.append_assoc, List.cons_append, List.nil_append]
  refine b_SU_init_5 ⟨_, x_ga hP (i := 0) rfl, Nat.le_of_ble_eq_true rfl, fun H9 e9 => ?_⟩
  obtain rfl : H9 = P ++ [.inr (8, [.ref (p + 1)]), aI 256 (fun _ => 0)] := e9.trans (x_sa hP (i := 0))
  refine SU_out (r1 := p + 1) (by omega) rfl (by omega) 256 0 none none _ (fun _ => 0) false rfl (x_ga hP (i := 0) rfl) (x_ga hP (i := 1) rfl) ⟨_, rfl, rfl, ?_⟩
  rw [x_sa hP (i := 1)]
  rfl
end Sums
