/-! the class's cells and the model's as pictures -/
abbrev wF : Type := Nat → Int32
abbrev wRow : Type := (Nat → Nat) × Nat
/-- fault, place, blocks, stretches, told -/
abbrev wRep : Type := Int32 × Int32 × Nat × Nat × wF
/-- a code for reading: coded, counts, symbols, starts -/
abbrev wRC : Type := Int32 × wF × wF × wF
/-- at, end, member's begin; the codes: fixed two, of lengths, letters, distances; lengths; the row that is left -/
abbrev wUN : Type := Nat × Nat × Nat × wRC × wRC × wRC × wRC × wRC × wF × wF
/-- a code for writing: next, lengths, words -/
abbrev wWC : Type := wF × wF × wF
/-- weigher: many, the two rows' places, symbols, weights, row, row after, alone -/
abbrev wWE : Type := Nat × Nat × Nat × wF × wF × wF × wF × wF
/-- made codes: told, letters, distances, lengths; three codes; weigher; row, told symbols, told numbers, told weights -/
abbrev wMC : Type := Nat × Nat × Nat × Nat × wWC × wWC × wWC × wWE × wF × wF × wF × wF
/-- finder: length, distance, entered, found, latest, before -/
abbrev wFI : Type := Nat × Nat × Nat × Int32 × wF × wF
/-- packer: pieces, bits of numbers, block's begin, at; fixed two; made; piece lengths, piece values, letter weights, distance weights; finder; held, held bits -/
abbrev wPK : Type := (Nat × Nat × Nat × Nat) × wWC × wWC × wMC × (wF × wF × wF × wF) × wFI × (Nat × Nat)
def stp : wF := x_fg (fun _ => 0) (fun j => nI (crcT j)) 0 256
def hc (s0 : va_E) (T R : wRow) (P : wRep) (k : wPK) (u : wUN) (Z : xH) : xH :=
  s0 :: aI 19 x_ord :: .inr (0, [.ref 3, .ref 5, .ref 7, .ref 9, .ref 11, .ref 51]) :: cRO 4 (nI T.2) :: aB 32768 (bF T.1) :: cRO 6 (nI R.2) :: aB 65536 (bF R.1) ::
  cRE 8 P.1 P.2.1 (nI P.2.2.1) (nI P.2.2.2.1) :: aI 256 P.2.2.2.2 :: .inr (8, [.ref 10]) :: aI 256 stp ::
  .inr (4, [.ref 3, .ref 7, .ref 9, .ref 47, .ref 50, .ref 12, .ref 16, .ref 20, .ref 43, .ref 44, .ref 45, .ref 46, .int (nI k.1.1), .int (nI k.1.2.1), .int (nI k.1.2.2.1), .int (nI k.1.2.2.2)]) ::
  .inr (11, [.ref 14, .ref 15, .ref 13]) :: aI 17 k.2.1.1 :: aI 288 k.2.1.2.1 :: aI 288 k.2.1.2.2 ::
  .inr (11, [.ref 18, .ref 19, .ref 17]) :: aI 17 k.2.2.1.1 :: aI 32 k.2.2.1.2.1 :: aI 32 k.2.2.1.2.2 ::
  .inr (3, [.ref 21, .ref 25, .ref 29, .ref 33, .ref 39, .ref 40, .ref 41, .ref 42, .int (nI k.2.2.2.1.1), .int (nI k.2.2.2.1.2.1), .int (nI k.2.2.2.1.2.2.1), .int (nI k.2.2.2.1.2.2.2.1)]) ::
  .inr (11, [.ref 23, .ref 24, .ref 22]) :: aI 17 k.2.2.2.1.2.2.2.2.1.1 :: aI 286 k.2.2.2.1.2.2.2.2.1.2.1 :: aI 286 k.2.2.2.1.2.2.2.2.1.2.2 ::
  .inr (11, [.ref 27, .ref 28, .ref 26]) :: aI 17 k.2.2.2.1.2.2.2.2.2.1.1 :: aI 30 k.2.2.2.1.2.2.2.2.2.1.2.1 :: aI 30 k.2.2.2.1.2.2.2.2.2.1.2.2 ::
  .inr (11, [.ref 31, .ref 32, .ref 30]) :: aI 17 k.2.2.2.1.2.2.2.2.2.2.1.1 :: aI 19 k.2.2.2.1.2.2.2.2.2.2.1.2.1 :: aI 19 k.2.2.2.1.2.2.2.2.2.2.1.2.2 ::
  .inr (10, [.ref 34, .ref 35, .int (nI k.2.2.2.1.2.2.2.2.2.2.2.1.1), .ref k.2.2.2.1.2.2.2.2.2.2.2.1.2.1, .ref k.2.2.2.1.2.2.2.2.2.2.2.1.2.2.1, .ref 38]) ::
  aI 286 k.2.2.2.1.2.2.2.2.2.2.2.1.2.2.2.1 :: aI 286 k.2.2.2.1.2.2.2.2.2.2.2.1.2.2.2.2.1 :: aI 572 k.2.2.2.1.2.2.2.2.2.2.2.1.2.2.2.2.2.1 :: aI 572 k.2.2.2.1.2.2.2.2.2.2.2.1.2.2.2.2.2.2.1 :: aZ 8580 k.2.2.2.1.2.2.2.2.2.2.2.1.2.2.2.2.2.2.2 ::
  aI 316 k.2.2.2.1.2.2.2.2.2.2.2.2.1 :: aI 316 k.2.2.2.1.2.2.2.2.2.2.2.2.2.1 :: aI 316 k.2.2.2.1.2.2.2.2.2.2.2.2.2.2.1 :: aI 19 k.2.2.2.1.2.2.2.2.2.2.2.2.2.2.2 ::
  aI 1024 k.2.2.2.2.1.1 :: aI 1024 k.2.2.2.2.1.2.1 :: aI 286 k.2.2.2.2.1.2.2.1 :: aI 30 k.2.2.2.2.1.2.2.2 ::
  .inr (2, [.int (nI k.2.2.2.2.2.1.1), .int (nI k.2.2.2.2.2.1.2.1), .ref 3, .ref 48, .ref 49, .int (nI k.2.2.2.2.2.1.2.2.1), .int k.2.2.2.2.2.1.2.2.2.1]) :: aI 4096 k.2.2.2.2.2.1.2.2.2.2.1 :: aI 32768 k.2.2.2.2.2.1.2.2.2.2.2 ::
  .inr (1, [.ref 5, .int (nI k.2.2.2.2.2.2.1), .int (nI k.2.2.2.2.2.2.2)]) ::
  .inr (9, [.ref 3, .ref 5, .ref 7, .ref 9, .ref 52, .ref 56, .ref 60, .ref 64, .ref 68, .ref 72, .int (nI u.1), .int (nI u.2.1), .int (nI u.2.2.1)]) ::
  cRC 53 54 55 u.2.2.2.1.1 :: aI 16 u.2.2.2.1.2.1 :: aI 288 u.2.2.2.1.2.2.1 :: aI 17 u.2.2.2.1.2.2.2 ::
  cRC 57 58 59 u.2.2.2.2.1.1 :: aI 16 u.2.2.2.2.1.2.1 :: aI 288 u.2.2.2.2.1.2.2.1 :: aI 17 u.2.2.2.2.1.2.2.2 ::
  cRC 61 62 63 u.2.2.2.2.2.1.1 :: aI 16 u.2.2.2.2.2.1.2.1 :: aI 288 u.2.2.2.2.2.1.2.2.1 :: aI 17 u.2.2.2.2.2.1.2.2.2 ::
  cRC 65 66 67 u.2.2.2.2.2.2.1.1 :: aI 16 u.2.2.2.2.2.2.1.2.1 :: aI 288 u.2.2.2.2.2.2.1.2.2.1 :: aI 17 u.2.2.2.2.2.2.1.2.2.2 ::
  cRC 69 70 71 u.2.2.2.2.2.2.2.1.1 :: aI 16 u.2.2.2.2.2.2.2.1.2.1 :: aI 288 u.2.2.2.2.2.2.2.1.2.2.1 :: aI 17 u.2.2.2.2.2.2.2.1.2.2.2 ::
  aI 316 u.2.2.2.2.2.2.2.2.1 :: aI 288 u.2.2.2.2.2.2.2.2.2 :: Z
/-- the model: fault, place, blocks, stretches -/
abbrev wRp : Type := Int32 × Int32 × Nat × Nat
abbrev wK4 : Type := wF × wF × wF × wF
/-- the model's rows for packing: piece lengths, piece values, pieces, weights, codes, things, is symbol, thing count, by weight, told, told number, told count, letters, distances, lengths used -/
abbrev wMB : Type := wF × wF × Nat × (Nat → Int64) × wF × (Nat → Int64) × wF × wF × wF × wF × wF × Nat × Nat × Nat × Nat
def hm (cd : Int32) (T R : wRow) (P : wRp) (K : wK4) (a mb : Nat) (A : wK4) (B : wMB) (Z : xH) : xH :=
  .inr (12, [.int cd, .ref 75, .int (nI T.2), .ref 76, .int (nI R.2), .int P.1, .int P.2.1, .int (nI P.2.2.1), .int (nI P.2.2.2), .ref 77, .ref 78, .ref 79, .ref 80, .int (nI a), .int (nI mb), .ref 81, .ref 82, .ref 83, .ref 84, .ref 85, .ref 86, .int (nI B.2.2.1), .ref 87, .ref 88, .ref 89, .ref 90, .ref 91, .ref 92, .ref 93, .ref 94, .int (nI B.2.2.2.2.2.2.2.2.2.2.2.1), .int (nI B.2.2.2.2.2.2.2.2.2.2.2.2.1), .int (nI B.2.2.2.2.2.2.2.2.2.2.2.2.2.1), .int (nI B.2.2.2.2.2.2.2.2.2.2.2.2.2.2)]) ::
  aB 32768 (bF T.1) :: aB 65536 (bF R.1) :: aI 64 K.1 :: aI 64 K.2.1 :: aI 64 K.2.2.1 :: aI 64 K.2.2.2 :: aI 48 A.1 :: aI 600 A.2.1 :: aI 600 A.2.2.1 :: aI 400 A.2.2.2 ::
  aI 1024 B.1 :: aI 1024 B.2.1 :: aJ 600 B.2.2.2.1 :: aI 600 B.2.2.2.2.1 :: aJ 9600 B.2.2.2.2.2.1 :: aZ 9600 B.2.2.2.2.2.2.1 :: aI 16 B.2.2.2.2.2.2.2.1 :: aI 300 B.2.2.2.2.2.2.2.2.1 :: aI 400 B.2.2.2.2.2.2.2.2.2.1 :: aI 400 B.2.2.2.2.2.2.2.2.2.2.1 :: Z
theorem nI_lit (n : Nat) : (OfNat.ofNat n : Int32) = nI n := rfl
theorem nI_fold (n : Nat) : Int32.ofNat n = nI n := rfl
theorem nI_shrN {w k : Nat} (hw : w < 2 ^ 31) (hk : k < 32) : nI w >>> (nI k &&& nI 31) = nI (w / 2 ^ k) := nI_shr hw hk
theorem nI_sh3 {w : Nat} (hw : w < 2 ^ 31) : nI w >>> (nI 3 &&& nI 31) = nI (w / 8) := nI_shr hw (by decide)
theorem nI_shlN {w k : Nat} (hk : k < 32) (hw : w * 2 ^ k < 2 ^ 32) : nI w <<< (nI k &&& nI 31) = nI (w * 2 ^ k) := nI_shl hk hw
theorem nI_m1 {v : Nat} (h : v < 2 ^ 32) : nI v &&& nI 1 = nI (v % 2) := pk_andN h 1 (by decide)
theorem nI_m7 {v : Nat} (h : v < 2 ^ 32) : nI v &&& nI 7 = nI (v % 8) := pk_andN h 3 (by decide)
theorem nI_m15 {v : Nat} (h : v < 2 ^ 32) : nI v &&& nI 15 = nI (v % 16) := pk_andN h 4 (by decide)
theorem nI_m255 {v : Nat} (h : v < 2 ^ 32) : nI v &&& nI 255 = nI (v % 256) := pk_andN h 8 (by decide)
theorem nI_or {a b : Nat} : nI a ||| nI b = nI (a ||| b) := by
  apply Int32.toBitVec_inj.mp
  simp only [nI, Int32.toBitVec_or, Int32.toBitVec_ofNat']
  apply BitVec.eq_of_toNat_eq
  simp [Nat.or_mod_two_pow]
theorem or_add {v b i : Nat} (hv : v < 2 ^ i) : v ||| b * 2 ^ i = v + b * 2 ^ i := by
  have := Nat.shiftLeft_add_eq_or_of_lt hv b
  rw [Nat.shiftLeft_eq] at this
  rw [Nat.or_comm, ← this, Nat.add_comm]
theorem nI_nem {v : Nat} (h : v < 2 ^ 31) : (nI v = -nI 1) ↔ False := by
  constructor
  · intro h2
    have h3 := congrArg Int32.toInt h2
    rw [nI_toInt h] at h3
    have : (-nI 1 : Int32).toInt = -1 := by decide
    omega
  · exact False.elim
theorem nI_m32 {v : Nat} (h : v < 256) : nI v &&& nI 32 = nI (v / 32 % 2 * 32) := by
  have : ∀ v, v < 256 → nI v &&& nI 32 = nI (v / 32 % 2 * 32) := by decide +kernel
  exact this v h
theorem nI_m4 {v : Nat} (h : v < 256) : nI v &&& nI 4 = nI (v / 4 % 2 * 4) := by
  have : ∀ v, v < 256 → nI v &&& nI 4 = nI (v / 4 % 2 * 4) := by decide +kernel
  exact this v h
theorem nI_m8 {v : Nat} (h : v < 256) : nI v &&& nI 8 = nI (v / 8 % 2 * 8) := by
  have : ∀ v, v < 256 → nI v &&& nI 8 = nI (v / 8 % 2 * 8) := by decide +kernel
  exact this v h
theorem nI_m16 {v : Nat} (h : v < 256) : nI v &&& nI 16 = nI (v / 16 % 2 * 16) := by
  have : ∀ v, v < 256 → nI v &&& nI 16 = nI (v / 16 % 2 * 16) := by decide +kernel
  exact this v h
theorem nI_m2 {v : Nat} (h : v < 256) : nI v &&& nI 2 = nI (v / 2 % 2 * 2) := by
  have : ∀ v, v < 256 → nI v &&& nI 2 = nI (v / 2 % 2 * 2) := by decide +kernel
  exact this v h
/-- a bit of a row of bytes -/
def tbit (t : Nat → Nat) (i : Nat) : Nat := t (i / 8) / 2 ^ (i % 8) % 2
theorem tbit_lt (t : Nat → Nat) (i : Nat) : tbit t i < 2 := Nat.mod_lt _ (by decide)
/-- a number of k bits, the lowest first -/
def rdn (t : Nat → Nat) (a : Nat) : Nat → Nat
  | 0 => 0
  | k + 1 => rdn t a k + tbit t (a + k) * 2 ^ k
theorem rdn_lt (t : Nat → Nat) (a k : Nat) : rdn t a k < 2 ^ k := by
  induction k with
  | zero => simp [rdn]
  | succ k ih =>
    have := tbit_lt t (a + k)
    unfold rdn
    rw [Nat.pow_succ]
    have h2 : tbit t (a + k) * 2 ^ k ≤ 1 * 2 ^ k := Nat.mul_le_mul_right _ (by omega)
    omega
theorem sb_bit : ∀ c, c < 256 → ∀ j, j < 8 → (sb_b c >>> (nI j &&& 31)) &&& 1 = nI (c / 2 ^ j % 2) := by decide +kernel
theorem nF_up {t : Nat → Nat} {k v : Nat} : upd (fun i => nI (t i)) k (nI v) = fun i => nI (nup t k v i) := by
  funext j
  simp only [upd, nup]
  split <;> rfl
