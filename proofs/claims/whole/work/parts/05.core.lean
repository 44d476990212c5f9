/-- words that stay true under warmer tables -/
def x_gw (w : Cond) : Bool := match w with
  | .fieldLinkNest _ _ _ _ _ _ => true
  | .methodLinkNest _ _ _ _ => true
  | .castable _ _ => true
  | .declares _ => true
  | w => goodWord w
theorem x_gw.warm {w : Cond} (h : x_gw w = true) {s U : State} {a a' : Array Value} (hW : s.WarmedH U.vm) (hb : w.before a s = true) : w.before a' U = true := by
  unfold x_gw at h
  split at h
  · exact va_Nw.use rfl (va_Nw.warmF hW (va_Nw.of rfl hb))
  · exact va_Nw.use rfl (va_Nw.warmM hW (va_Nw.of rfl hb))
  · exact va_Nw.use rfl (va_Nw.warmC hW (va_Nw.of rfl hb))
  · exact va_Nw.use rfl (va_Nw.warmD hW (va_Nw.of rfl hb))
  · exact word_at hW (good_of_word h) hb
/-- the words that every method has -/
def x_tw : List Cond := lw_tbl.filter x_gw
/-- the heap as a list of cells: a reference is a place in it; 0 is the script, 1 the row of orders; the cells from 2 on are the new ones -/
abbrev xH : Type := List va_E
abbrev xL : Type := List (Option Value)
/-- where it lies: the first new address, the script's, the orders', the numbers of the classes and of the array classes, the script -/
abbrev xX : Type := Nat × Nat × Nat × va_G × (Nat → Nat) × Nat × (Nat → Int32)
def x_ad (x : xX) (k : Nat) : Nat := match k with
  | 0 => x.2.1
  | 1 => x.2.2.1
  | k + 2 => x.1 + k
def x_rv (x : xX) (v : Value) : Value := match v with
  | .ref k => .ref (x_ad x k)
  | w => w
theorem x_rv_cat (x : xX) (v : Value) : (x_rv x v).category = v.category := by cases v <;> rfl
def x_mE (x : xX) (c : va_E) : va_E := match c with
  | .inl (t, a) => .inl (x.2.2.2.2.1 t, a)
  | .inr (ci, fs) => .inr (ci, fs.map (x_rv x))
def x_ws (x : xX) : Nat → xH → va_W
  | _, [] => []
  | i, c :: t => (x.1 + i, x_mE x c) :: x_ws x (i + 1) t
theorem x_ws_get (x : xX) : ∀ (H : xH) (i k : Nat), (x_ws x i H)[k]? = (H[k]?).map (fun c => (x.1 + (i + k), x_mE x c)) := by
  intro H
  induction H with
  | nil => intro i k; simp [x_ws]
  | cons c t ih =>
    intro i k
    cases k with
    | zero => simp [x_ws]
    | succ k =>
      rw [x_ws, List.getElem?_cons_succ, List.getElem?_cons_succ, ih (i + 1) k]
      have : i + 1 + k = i + (k + 1) := by omega
      rw [this]
theorem x_ws_set (x : xX) (c : va_E) : ∀ (H : xH) (i k : Nat), x_ws x i (H.set k c) = (x_ws x i H).set k (x.1 + (i + k), x_mE x c) := by
  intro H
  induction H with
  | nil => intro i k; simp [x_ws]
  | cons d t ih =>
    intro i k
    cases k with
    | zero => simp [x_ws]
    | succ k =>
      rw [List.set_cons_succ, x_ws, x_ws, List.set_cons_succ, ih (i + 1) k]
      have : i + 1 + k = i + (k + 1) := by omega
      rw [this]
theorem x_ws_app (x : xX) (c : va_E) : ∀ (H : xH) (i : Nat), x_ws x i (H ++ [c]) = x_ws x i H ++ [(x.1 + (i + H.length), x_mE x c)] := by
  intro H
  induction H with
  | nil => intro i; simp [x_ws]
  | cons d t ih =>
    intro i
    rw [List.cons_append, x_ws, x_ws, ih (i + 1), List.cons_append]
    have : i + 1 + t.length = i + (d :: t).length := by simp; omega
    rw [this]
/-- the row of orders -/
def x_ord : Nat → Int32 := fun j => ([16, 17, 18, 0, 8, 7, 9, 6, 10, 5, 11, 4, 12, 3, 13, 2, 14, 1, 15] : List Int32).getD j 0
/-- array kinds: 0 int, 1 byte, 2 long, 3 boolean -/
def x_at (t : Nat) : FieldType := match t with
  | 0 => .int
  | 1 => .byte
  | 2 => .long
  | _ => .boolean
abbrev x_tysL (x : xX) : List (ClassId × FieldType) := [(x.2.2.2.2.1 0, .int), (x.2.2.2.2.1 1, .byte), (x.2.2.2.2.1 2, .long), (x.2.2.2.2.1 3, .boolean)]
/-- the new cells lie in the machine's heap as the list says; the two old ones are in the list -/
def xR (x : xX) (H : xH) (Hh : Heap) : Prop := va_P x.2.2.2.1 x_cl (x_ws x 0 (H.drop 2)) Hh ∧ H[0]? = some (.inl (0, x.2.2.2.2.2.1, .inl x.2.2.2.2.2.2)) ∧ H[1]? = some (.inl (0, 19, .inl x_ord)) ∧ 2 ≤ H.length
/-- a static field of a reference that nobody writes -/
def xSt (C n d : String) (A : Nat → Prop) (U : State) (Hh : Heap) : Prop := ∃ (c : ClassId) (k : Class) (i : Nat) (f : Field) (a : Nat) (cell : Cell) (v : Value), U.vm.findClass C = some c ∧ U.fieldFound? C n d = some (c, k, i, f) ∧ f.isStatic = true ∧ k.statics = some a ∧ Hh[a]? = some cell ∧ cell.vm.isStatics = true ∧ cell.cls = c ∧ f.slot < cell.slots.size ∧ k.staticTypes[f.slot]? = some f.type ∧ cell.slots[f.slot]? = some v ∧ (v = .null ∨ ∃ t, v = .ref t) ∧ ¬ A a
theorem xSt.moved {C n d : String} {A : Nat → Prop} {u U : State} {H : Heap} (hvm : u.vm.Alike U.vm) (h : xSt C n d A u H) : xSt C n d A U H := by
  obtain ⟨c, k, i, f, a, cell, v, h1, h2, h3, h4, h5, h6, h7, h8, h9, h10⟩ := h
  obtain ⟨k', hi', he⟩ := State.fieldFound?_setVm hvm h2
  exact ⟨c, k', i, f, a, cell, v, by rw [hvm.findClass]; exact h1, hi', h3, by rw [he]; exact h4, h5, h6, h7, h8, by rw [he]; exact h9, h10⟩
theorem xSt.kept {C n d : String} {A : Nat → Prop} {U : State} {H H1 : Heap} (h : xSt C n d A U H) (hq : ∀ a : Nat, a < H.size → ¬ A a → H1[a]? = H[a]?) : xSt C n d A U H1 := by
  obtain ⟨c, k, i, f, a, cell, v, h1, h2, h3, h4, h5, h6, h7, h8, h9, h10, h11, h12⟩ := h
  exact ⟨c, k, i, f, a, cell, v, h1, h2, h3, h4, by rw [hq a (Array.getElem?_eq_some_iff.mp h5).1 h12]; exact h5, h6, h7, h8, h9, h10, h11, h12⟩
theorem xSt.lays {C n d : String} {A : Nat → Prop} {U : State} {args : Array Value} (h : xSt C n d A U U.heap) : (Cond.laysStatic C n d).before args U = true := by
  obtain ⟨c, k, i, f, a, cell, v, h1, h2, h3, h4, h5, h6, h7, h8, h9, h10, h11, h12⟩ := h
  exact Cond.laysStatic_of h1 h2 h3 h4 h5 h6 h7 h8 h9
theorem xSt.isRef {C n d : String} {A : Nat → Prop} {U : State} {args : Array Value} (h : xSt C n d A U U.heap) : (Cond.isRef (.static C n d)).before args U = true := by
  obtain ⟨c, k, i, f, a, cell, v, h1, h2, h3, h4, h5, h6, h7, h8, h9, h10, h11, h12⟩ := h
  have hv := Term.static_eval (args := args) (first := U) (o := none) (idx := []) h2 h3 h4 h5 h6 h10
  rcases h11 with rfl | ⟨t, rfl⟩ <;> simp [Cond.before, Cond.holds, Cond.value, hv]
theorem xSt.of {C n d : String} {A : Nat → Prop} {s : State} {args : Array Value} (hl : (Cond.laysStatic C n d).before args s = true) (hr : (Cond.isRef (.static C n d)).before args s = true) (hA : ∀ a : Nat, a < s.heap.size → ¬ A a) : xSt C n d A s s.heap := by
  obtain ⟨c, k, i, f, a, cell, hc, hi, hst, ha, hcell, hs, hcls, hlt, hty⟩ := Cond.laysStatic_spec hl
  cases hv : (Term.static C n d).eval args s none [] s with
  | none => simp [Cond.before, Cond.holds, Cond.value, hv] at hr
  | some w =>
    obtain ⟨hst', a', cell', ha', hcell', -, hslot⟩ := Term.static_spec hi hv
    cases ha.symm.trans ha'
    cases hcell.symm.trans hcell'
    have hw : w = .null ∨ ∃ t, w = .ref t := by
      simp only [Cond.before, Cond.holds, Cond.value, hv] at hr
      cases w with
      | null => exact Or.inl rfl
      | ref t => exact Or.inr ⟨t, rfl⟩
      | _ => simp at hr
    exact ⟨c, k, i, f, a, cell, w, hc, hi, hst, ha, hcell, hs, hcls, hlt, hty, hslot, hw, hA a (Array.getElem?_eq_some_iff.mp hcell).1⟩
/-- what the tables and the old cells say at a state -/
def xK (x : xX) (U : State) (Hh : Heap) : Prop := va_K x.2.2.2.1 x_cl (x_tysL x) U ∧ va_X x.2.1 x.2.2.2.2.2.1 x.2.2.2.2.2.2 U Hh ∧ va_T .int x.2.2.1 19 (fun j => .int (x_ord j)) (fun q => x.1 ≤ q) U Hh ∧ x.2.1 < x.1 ∧ x.2.2.1 < x.1 ∧ x.1 ≤ Hh.size ∧ va_Z "RowPacker" "ORDER_OF_LENGTHS" "[I" (.ref x.2.2.1) (fun q => x.1 ≤ q) U Hh ∧ xSt "java/lang/Throwable" "UNASSIGNED_STACK" "[Ljava/lang/StackTraceElement;" (fun q => x.1 ≤ q) U Hh ∧ xSt "java/lang/Throwable" "SUPPRESSED_SENTINEL" "Ljava/util/List;" (fun q => x.1 ≤ q) U Hh ∧ va_Nc "java/lang/IllegalStateException" "java/lang/IllegalArgumentException" U ∧ va_Nc "java/lang/IllegalArgumentException" "java/lang/IndexOutOfBoundsException" U
abbrev xA (x : xX) : Nat → Prop := fun q => x.1 ≤ q
theorem xK.to {x : xX} {u U : State} {H0 H : Heap} {locs : List Loc} (hvm : u.vm.Alike U.vm) (h : xK x u H0) (hS : va_S (xA x) H0 H locs) : xK x U H := by
  obtain ⟨h1, h2, h3, h4, h5, h6, h7, h8, h9, h10, h11⟩ := h
  have ho : ∀ q : Nat, q < x.1 → H[q]? = H0[q]? := fun q hq => hS.2.1 q (Nat.lt_of_lt_of_le hq h6) (Nat.not_le.mpr hq)
  exact ⟨h1.moved hvm, (h2.moved hvm).kept (ho _ h4), (h3.moved hvm).kept (fun a ha hA => hS.2.1 a ha hA), h4, h5, Nat.le_trans h6 hS.1, (h7.moved hvm).kept (fun a ha hA => hS.2.1 a ha hA), (h8.moved hvm).kept (fun a ha hA => hS.2.1 a ha hA), (h9.moved hvm).kept (fun a ha hA => hS.2.1 a ha hA), h10.moved hvm, h11.moved hvm⟩
/-- the handlers: the law's own ten small methods have some -/
def x_hd (y : MethodName) : List (Nat × Nat × Nat × Nat) := if y.cls = "RowPackerLaw" then (match y.name with
  | "feed" => [(0, 16, 19, 13)]
  | "end" => [(0, 5, 8, 19)]
  | "again" => [(0, 10, 13, 19), (0, 10, 17, 13)]
  | "change" => [(0, 10, 13, 28), (0, 10, 17, 19)]
  | "pack" => [(0, 9, 12, 19)]
  | "unpack" => [(0, 9, 12, 19)]
  | "out" => [(0, 9, 12, 28)]
  | "turn" => [(0, 8, 11, 13)]
  | "sum" => [(0, 8, 11, 19)]
  | "block" => [(0, 10, 13, 28), (0, 10, 17, 19)]
  | _ => []) else []
/-- what is fixed while a method runs -/
def xE (x : xX) (μ : xM) (n0 : Nat) (p : Program) (s : State) (m : MethodId) (args : Array Value) (meth : Method) (c : Code) : Prop :=
  p.tables.exec = Jvm.exec ∧ c.code = μ.2.1 ∧ meth.sig.returnType = μ.2.2.2.1 ∧ c.maxLocals = μ.2.2.1 ∧ s.vm.findClass (x_cn μ.2.2.2.2.1) = some m.cls ∧ (∀ w ∈ x_tw, w.before args s = true) ∧ meth.locks = false ∧ meth.name = μ.1.name ∧ s.heap.size + 2 = x.1 + n0 ∧ xK x s s.heap ∧ c.exceptionTable.toList.map (fun h => (h.startPc, h.endPc, h.handlerPc, h.catchType)) = x_hd μ.1 ∧ x_ck μ.2.1 0 μ.2.2.2.2.2 = true
def xLv (x : xX) (nL : Nat) (L : xL) (ls : Array Slot) : Prop := L.length = nL ∧ ls.size = nL ∧ lv_wf ls ∧ ∀ (i : Nat) (v : Value), L[i]? = some (some v) → ls[i]? = some (.val (x_rv x v))
/-- an outcome -/
abbrev xO : Type := Option Value ⊕ Nat
def x_out (x : xX) (r : xO) : Outcome := match r with
  | .inl v => .returned (v.map (x_rv x))
  | .inr a => .threw (x_ad x a)
/-- the end of a method: the outcome, the heap behind it, at most so many cells and slots more -/
def xEnd (x : xX) (n0 mc ms : Nat) (Q : xO → xH → Prop) (s : State) (o : Outcome) (t : State) : Prop :=
  ∃ (r : xO) (H' : xH), o = x_out x r ∧ Q r H' ∧ xR x H' t.heap ∧ H'.length = n0 + mc ∧ va_F (xA x) s t ∧ ∃ L, s.WarmedH t.vm ∧ s.sameButNew ({ t with vm := s.vm } : State) L mc ms ∧ ∀ q ∈ L, x.1 ≤ q.base
def xMQ (x : xX) (n0 mc ms : Nat) (Q : xO → xH → Prop) (below : List Frame) (s : State) : State → Prop := fun t => ∃ o, t.status = .running ∧ Ended t below o ∧ xEnd x n0 mc ms Q s o t
abbrev xrm (d mc ms : Nat) : Room := { frames := d, cells := mc, slots := ms, locals := 48 * d }
/-- THE WALK: method μ, called where the heap had n0 cells, with room for d frames, mc cells, ms slots; now at its k-th instruction, with locals L, stack S, heap H, uc cells and us slots made: it comes to an end with Q; 'cl': nothing has been written yet -/
def xW (l : Launch) (x : xX) (d mc ms : Nat) (μ : xM) (n0 : Nat) (Q : xO → xH → Prop) (cl : Bool) (k : Nat) (L : xL) (S : List Value) (H : xH) (uc us : Nat) : Prop :=
  ∀ (p : Program) (e : Env) (s : State) (m : MethodId) (args : Array Value) (below : List Frame) (meth : Method) (c : Code) (ls : Array Slot) (Hh : Heap) (locs : List Loc),
    xE x μ n0 p s m args meth c → xR x H Hh → va_S (xA x) s.heap Hh locs → xLv x μ.2.2.1 L ls → H.length = n0 + uc → (cl = true → locs = [] ∧ Hh = s.heap) →
    W p l e (xrm d mc ms) s m args below meth c Hh locs uc us (xMQ x n0 mc ms Q below s) (F0 m (x_pc μ.2.2.2.2.2 k) ls (S.map (x_rv x)))
section XCore
variable {l : Launch} {x : xX} {d mc ms : Nat} {μ : xM} {n0 : Nat} {Q : xO → xH → Prop} {cl : Bool} {k : Nat} {L : xL} {S : List Value} {H : xH} {uc us : Nat}
theorem xE.dec {p : Program} {s : State} {m : MethodId} {args : Array Value} {meth : Method} {c : Code} (E : xE x μ n0 p s m args meth c) {i : Instr} (hc : μ.2.2.2.2.2[k]? = some i) : decode μ.2.1 (x_pc μ.2.2.2.2.2 k) = .ok (i, x_len i) := by
  have h := x_ck_at _ 0 E.2.2.2.2.2.2.2.2.2.2.2 k i hc
  rw [Nat.zero_add] at h
  exact h
theorem xLv.get {nL : Nat} {ls : Array Slot} (h : xLv x nL L ls) {i : Nat} {v : Value} (hi : L[i]? = some (some v)) : ls[i]? = some (.val (x_rv x v)) := h.2.2.2 i v hi
/-- a world without change: a row turns the frame alone -/
theorem xW.go {L' : xL} {S' : List Value} {k' : Nat} (h : ∀ (p : Program) (e : Env) (s : State) (m : MethodId) (args : Array Value) (below : List Frame) (meth : Method) (c : Code) (ls : Array Slot) (Hh : Heap) (locs : List Loc) (Qw : State → Prop),
    xE x μ n0 p s m args meth c → xR x H Hh → va_S (xA x) s.heap Hh locs → xLv x μ.2.2.1 L ls →
    (∀ ls', xLv x μ.2.2.1 L' ls' → W p l e (xrm d mc ms) s m args below meth c Hh locs uc us Qw (F0 m (x_pc μ.2.2.2.2.2 k') ls' (S'.map (x_rv x)))) → W p l e (xrm d mc ms) s m args below meth c Hh locs uc us Qw (F0 m (x_pc μ.2.2.2.2.2 k) ls (S.map (x_rv x))))
    (kk : xW l x d mc ms μ n0 Q cl k' L' S' H uc us) : xW l x d mc ms μ n0 Q cl k L S H uc us :=
  fun p e s m args below meth c ls Hh locs E R hS hL hn hcl => h p e s m args below meth c ls Hh locs _ E R hS hL fun ls' hL' => kk p e s m args below meth c ls' Hh locs E R hS hL' hn hcl
/-- a row that pushes constants or works on the stack alone -/
theorem xW.pure {S' : List Value} {i : Instr} (hc : μ.2.2.2.2.2[k]? = some i) (h : ∀ (p : Program) (e : Env) (s : State) (m : MethodId) (args : Array Value) (below : List Frame) (meth : Method) (c : Code) (ls : Array Slot) (Hh : Heap) (locs : List Loc) (Qw : State → Prop) (pc : Nat),
    p.tables.exec = Jvm.exec → c.code = μ.2.1 → decode μ.2.1 pc = .ok (i, x_len i) → W p l e (xrm d mc ms) s m args below meth c Hh locs uc us Qw (F0 m (pc + x_len i) ls (S'.map (x_rv x))) → W p l e (xrm d mc ms) s m args below meth c Hh locs uc us Qw (F0 m pc ls (S.map (x_rv x))))
    (kk : xW l x d mc ms μ n0 Q cl (k + 1) L S' H uc us) : xW l x d mc ms μ n0 Q cl k L S H uc us :=
  xW.go (fun p e s m args below meth c ls Hh locs Qw E R hS hL w => h p e s m args below meth c ls Hh locs Qw _ E.1 E.2.1 (E.dec hc) (by rw [← x_pcS _ _ _ hc]; exact w ls hL)) kk
theorem xW.weak (h : xW l x d mc ms μ n0 Q false k L S H uc us) : xW l x d mc ms μ n0 Q cl k L S H uc us :=
  fun p e s m args below meth c ls Hh locs E R hS hL hn _ => h p e s m args below meth c ls Hh locs E R hS hL hn (fun h => by cases h)
/-- locals: stores -/
def x_pv (L : xL) (i : Nat) : Bool := match i with
  | 0 => true
  | j + 1 => match L[j]? with
    | some (some w) => w.category == 1
    | _ => true
def x_st (L : xL) (i : Nat) (v : Value) : xL := L.set i (some v)
def x_sok (L : xL) (i : Nat) : Bool := decide (i < L.length) && x_pv L i
def x_st2 (L : xL) (i : Nat) (v : Value) : xL := (L.set i (some v)).set (i + 1) none
def x_sok2 (L : xL) (i : Nat) : Bool := decide (i + 1 < L.length) && x_pv L i
def x_prs (x : xX) : Nat → xL → List (Nat × Value)
  | _, [] => []
  | i, none :: t => x_prs x (i + 1) t
  | i, some v :: t => (i, x_rv x v) :: x_prs x (i + 1) t
theorem x_prs_mem (x : xX) : ∀ (L : xL) (i j : Nat) (w : Value), (j, w) ∈ x_prs x i L ↔ ∃ (m : Nat) (v : Value), L[m]? = some (some v) ∧ j = i + m ∧ w = x_rv x v := by
  intro L
  induction L with
  | nil => intro i j w; simp [x_prs]
  | cons a t ih =>
    intro i j w
    constructor
    · intro h
      cases a with
      | none =>
        obtain ⟨m, v, h1, h2, h3⟩ := (ih (i + 1) j w).mp h
        exact ⟨m + 1, v, by rw [List.getElem?_cons_succ]; exact h1, by omega, h3⟩
      | some v =>
        rcases List.mem_cons.mp h with h | h
        · cases h
          exact ⟨0, v, rfl, rfl, rfl⟩
        · obtain ⟨m, v, h1, h2, h3⟩ := (ih (i + 1) j w).mp h
          exact ⟨m + 1, v, by rw [List.getElem?_cons_succ]; exact h1, by omega, h3⟩
    · rintro ⟨m, v, h1, h2, h3⟩
      cases m with
      | zero =>
        rw [List.getElem?_cons_zero] at h1
        cases h1
        subst h2; subst h3
        exact List.mem_cons_self
      | succ m =>
        rw [List.getElem?_cons_succ] at h1
        have hm := (ih (i + 1) j w).mpr ⟨m, v, h1, by omega, h3⟩
        cases a with
        | none => exact hm
        | some v => exact List.mem_cons_of_mem _ hm
theorem xLv.has {nL : Nat} {ls : Array Slot} (h : xLv x nL L ls) : lv_has ls nL (x_prs x 0 L) := by
  refine ⟨h.2.1, h.2.2.1, fun q hq => ?_⟩
  obtain ⟨m, v, h1, h2, h3⟩ := (x_prs_mem x L 0 q.1 q.2).mp hq
  rw [h2, h3, Nat.zero_add]
  exact h.2.2.2 m v h1
theorem xLv.place {nL : Nat} {ls : Array Slot} (_ : xLv x nL L ls) {i : Nat} {v : Value} (hi : L[i]? = some (some v)) : ∃ j : Nat, (x_prs x 0 L)[j]? = some (i, x_rv x v) :=
  List.getElem?_of_mem ((x_prs_mem x L 0 i (x_rv x v)).mpr ⟨i, v, hi, by omega, rfl⟩)
theorem x_sok.lt {nL i : Nat} {ls : Array Slot} (h : xLv x nL L ls) (hok : x_sok L i = true) : i < nL := by
  rw [x_sok, Bool.and_eq_true, decide_eq_true_eq] at hok
  rw [← h.1]; exact hok.1
theorem x_sok2.lt {nL i : Nat} {ls : Array Slot} (h : xLv x nL L ls) (hok : x_sok2 L i = true) : i + 1 < nL := by
  rw [x_sok2, Bool.and_eq_true, decide_eq_true_eq] at hok
  rw [← h.1]; exact hok.1
theorem x_pv.no {i j : Nat} {v : Value} (h : x_pv L i = true) (hj : L[j]? = some (some v)) (hi : j + 1 = i) : v.category = 1 := by
  subst hi
  simp only [x_pv, hj] at h
  exact beq_iff_eq.mp h
theorem x_sok.put {nL i : Nat} {v : Value} {ls ls' : Array Slot} (h : xLv x nL L ls) (hok : x_sok L i = true) (h' : lv_has ls' nL ((i, x_rv x v) :: (x_prs x 0 L).filter (fun q => !(q.1 == i) && !(q.1 + 1 == i && q.2.category == 2)))) : xLv x nL (x_st L i v) ls' := by
  rw [x_sok, Bool.and_eq_true, decide_eq_true_eq] at hok
  refine ⟨by rw [x_st, List.length_set]; exact h.1, h'.1, h'.2.1, fun j w hj => ?_⟩
  rw [x_st, List.getElem?_set] at hj
  by_cases hij : i = j
  · rw [if_pos hij, if_pos hok.1] at hj
    cases hj
    rw [← hij]
    exact h'.2.2 _ List.mem_cons_self
  · rw [if_neg hij] at hj
    refine h'.2.2 (j, x_rv x w) (List.mem_cons_of_mem _ (List.mem_filter.mpr ⟨(x_prs_mem x L 0 j _).mpr ⟨j, w, hj, by omega, rfl⟩, ?_⟩))
    by_cases hp : j + 1 = i
    · have := x_pv.no hok.2 hj hp
      simp [x_rv_cat, this, Ne.symm hij]
    · simp [hp, Ne.symm hij]
theorem x_sok2.put {nL i : Nat} {v : Value} {ls ls' : Array Slot} (h : xLv x nL L ls) (hok : x_sok2 L i = true) (h' : lv_has ls' nL ((i, x_rv x v) :: (x_prs x 0 L).filter (fun q => !(q.1 == i) && (!(q.1 == i + 1) && !(q.1 + 1 == i && q.2.category == 2))))) : xLv x nL (x_st2 L i v) ls' := by
  rw [x_sok2, Bool.and_eq_true, decide_eq_true_eq] at hok
  refine ⟨by rw [x_st2, List.length_set, List.length_set]; exact h.1, h'.1, h'.2.1, fun j w hj => ?_⟩
  rw [x_st2, List.getElem?_set] at hj
  by_cases hi1 : i + 1 = j
  · rw [if_pos hi1] at hj
    split at hj <;> simp at hj
  · rw [if_neg hi1, List.getElem?_set] at hj
    by_cases hij : i = j
    · rw [if_pos hij, if_pos (by omega)] at hj
      cases hj
      rw [← hij]
      exact h'.2.2 _ List.mem_cons_self
    · rw [if_neg hij] at hj
      refine h'.2.2 (j, x_rv x w) (List.mem_cons_of_mem _ (List.mem_filter.mpr ⟨(x_prs_mem x L 0 j _).mpr ⟨j, w, hj, by omega, rfl⟩, ?_⟩))
      by_cases hp : j + 1 = i
      · have := x_pv.no hok.2 hj hp
        simp [x_rv_cat, this, Ne.symm hij, Ne.symm hi1]
      · simp [hp, Ne.symm hij, Ne.symm hi1]
end XCore
