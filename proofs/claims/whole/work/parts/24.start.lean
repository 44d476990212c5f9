theorem x_inst : ∀ (ci : Nat) (q : vw_C), x_cl[ci]? = some q → ∃ n, Cond.instantiable q.1 n ∈ x_tw
  | 0, q, h => by cases h; exact ⟨_, x_tb1 (List.mem_of_getElem? (i := 33) rfl)⟩
  | 1, q, h => by cases h; exact ⟨_, x_tb1 (List.mem_of_getElem? (i := 238) rfl)⟩
  | 2, q, h => by cases h; exact ⟨_, x_tb1 (List.mem_of_getElem? (i := 207) rfl)⟩
  | 3, q, h => by cases h; exact ⟨_, x_tb1 (List.mem_of_getElem? (i := 134) rfl)⟩
  | 4, q, h => by cases h; exact ⟨_, x_tb1 (List.mem_of_getElem? (i := 108) rfl)⟩
  | 5, q, h => by cases h; exact ⟨_, x_tb2 (List.mem_of_getElem? (i := 83) rfl)⟩
  | 6, q, h => by cases h; exact ⟨_, x_tb1 (List.mem_of_getElem? (i := 65) rfl)⟩
  | 7, q, h => by cases h; exact ⟨_, x_tb1 (List.mem_of_getElem? (i := 41) rfl)⟩
  | 8, q, h => by cases h; exact ⟨_, x_tb1 (List.mem_of_getElem? (i := 97) rfl)⟩
  | 9, q, h => by cases h; exact ⟨_, x_tb2 (List.mem_of_getElem? (i := 77) rfl)⟩
  | 10, q, h => by cases h; exact ⟨_, x_tb1 (List.mem_of_getElem? (i := 142) rfl)⟩
  | 11, q, h => by cases h; exact ⟨_, x_tb1 (List.mem_of_getElem? (i := 114) rfl)⟩
  | 12, q, h => by cases h; exact ⟨_, x_tb6 (List.mem_of_getElem? (i := 20) rfl)⟩
  | 13, q, h => by cases h; exact ⟨_, x_tb2 (List.mem_of_getElem? (i := 199) rfl)⟩
  | 14, q, h => by cases h; exact ⟨_, x_tb3 (List.mem_of_getElem? (i := 40) rfl)⟩
  | 15, q, h => by cases h; exact ⟨_, x_tb3 (List.mem_of_getElem? (i := 74) rfl)⟩
  | k + 16, q, h => by simp [x_cl] at h
theorem aw_int : Cond.arrayClass .int ∈ x_tw := x_tb1 (List.mem_of_getElem? (i := 95) rfl)
theorem aw_byte : Cond.arrayClass .byte ∈ x_tw := x_tb1 (List.mem_of_getElem? (i := 62) rfl)
theorem aw_long : Cond.arrayClass .long ∈ x_tw := x_tb6 (List.mem_of_getElem? (i := 130) rfl)
theorem aw_boolean : Cond.arrayClass .boolean ∈ x_tw := x_tb1 (List.mem_of_getElem? (i := 166) rfl)
theorem ls_ord : Cond.laysStatic "RowPacker" "ORDER_OF_LENGTHS" "[I" ∈ lw_tbl := List.mem_append_right _ (show _ ∈ tables_1_1 ++ (tables_1_2 ++ (tables_1_3 ++ (tables_1_4 ++ (tables_1_5 ++ (tables_1_6 ++ tables_1_7))))) from List.mem_append_right _ (List.mem_append_right _ (List.mem_append_left _ (List.mem_of_getElem? (i := 233) rfl))))
theorem ls_una : Cond.laysStatic "java/lang/Throwable" "UNASSIGNED_STACK" "[Ljava/lang/StackTraceElement;" ∈ lw_tbl := List.mem_append_right _ (show _ ∈ tables_1_1 ++ (tables_1_2 ++ (tables_1_3 ++ (tables_1_4 ++ (tables_1_5 ++ (tables_1_6 ++ tables_1_7))))) from List.mem_append_right _ (List.mem_append_left _ (List.mem_of_getElem? (i := 225) rfl)))
theorem ls_sup : Cond.laysStatic "java/lang/Throwable" "SUPPRESSED_SENTINEL" "Ljava/util/List;" ∈ lw_tbl := List.mem_append_right _ (show _ ∈ tables_1_1 ++ (tables_1_2 ++ (tables_1_3 ++ (tables_1_4 ++ (tables_1_5 ++ (tables_1_6 ++ tables_1_7))))) from List.mem_append_right _ (List.mem_append_left _ (List.mem_of_getElem? (i := 227) rfl)))
theorem in_RP : Cond.initialized "RowPacker" ∈ x_tw := x_tb1 (List.mem_of_getElem? (i := 1) rfl)
def R_law : String := "RowPackerLaw"
def lw_P (b : Addr) (xs : List Int32) (args : Array Value) (s : State) : Prop := args = #[.ref b] ∧ s.IntsAt b xs ∧ xs.length ≤ 3072 ∧ (Jvm.Cond.and given_1 narrow_1).before args s = true
def lw_Q (_ : Array Value) (s : State) (o : Outcome) (t : State) : Prop := o = .returned (some (.int 1)) ∧ Framed s o t [] 601024 7293034
def lw_Z (below : List Frame) (a : Array Value) (s : State) : State → Prop := fun t => ∃ o, t.status = .running ∧ Ended t below o ∧ lw_Q a s o t
/-- the law's start -/
def lw_At (p : Program) (s : State) (m : MethodId) (meth : Method) (c : Code) (b L : Nat) (xs : Nat → Int32) : Prop :=
  p.tables.exec = Jvm.exec ∧ c.code = code ∧ meth.sig.returnType = ret ∧ c.maxLocals = 8 ∧ s.vm.findClass R_law = some m.cls ∧ (∀ w ∈ lw_tbl, w.before #[Value.ref b] s = true) ∧ va_X b L xs s s.heap ∧ b < s.heap.size ∧ meth.locks = false ∧ (Jvm.Cond.and given_1 narrow_1).before #[Value.ref b] s = true ∧ meth.name = "law" ∧ c.exceptionTable.isEmpty = true
/-- the heap at the law's start -/
abbrev x_H0 (L : Nat) (xs : Nat → Int32) : xH := [.inl (0, L, .inl xs), .inl (0, 19, .inl x_ord)]
/-- WHAT IS LEFT: the law over the list heap -/
def x_main : Prop := ∀ (l : Launch), l.flags = flags0 → ∀ (x : xX), x.2.2.2.2.2.1 ≤ 3072 → ∃ mc, mc ≤ 601024 ∧ xW l x 1750 mc 7293034 mLA_law 2 (fun r _ => r = .inl (some (.int 1))) true 0 (x_L0 [.ref 0] 8) [] (x_H0 x.2.2.2.2.2.1 x.2.2.2.2.2.2) 0 0
theorem x_room {p : Program} {l : Launch} {e : Env} {R R' : Room} {s : State} {m : MethodId} {args : Array Value} {below : List Frame} {meth : Method} {c : Code} {H : Heap} {locs : List Loc} {cells slots : Nat} {Q : State → Prop} {g : JFrame} (h1 : R'.frames ≤ R.frames) (h2 : R'.cells ≤ R.cells) (h3 : R'.slots ≤ R.slots) (h4 : R'.locals ≤ R.locals) (w : W p l e R' s m args below meth c H locs cells slots Q g) : W p l e R s m args below meth c H locs cells slots Q g := by
  intro T hT X
  refine w T hT { X with room := ?_ }
  have hr := X.room
  simp only [State.hasRoom, Bool.and_eq_true, decide_eq_true_eq] at hr ⊢
  obtain ⟨⟨⟨⟨a1, a2, a3, a4, a5, a6⟩, a7⟩, a8⟩, a9⟩ := hr
  exact ⟨⟨⟨⟨by omega, by omega, by omega, by omega, by omega, a6⟩, by omega⟩, by omega⟩, a9⟩
theorem x_forgetL {s t : State} {L : List Loc} {k n : Nat} (h : s.sameButNew t L k n) (hL : ∀ q ∈ L, s.heap.size ≤ q.base) : s.sameButNew t [] k n := by
  obtain ⟨a1, a2, a3, a4, a5, a6⟩ := h
  refine ⟨a1, a2, a3, a4, a5, fun a c hc => ?_⟩
  obtain ⟨c', b1, b2, b3, b4⟩ := a6 a c hc
  refine ⟨c', b1, b2, b3, fun i _ => b4 i (fun hm => ?_)⟩
  have h1 := hL _ hm
  have h2 : a < s.heap.size := (Array.getElem?_eq_some_iff.mp hc).1
  exact absurd h2 (Nat.not_lt.mpr h1)
theorem x_arrA {s : State} {args : Array Value} (hts : ∀ w ∈ x_tw, w.before args s = true) : ∃ cA : Nat → Nat, ∀ (k : Nat) (q : ClassId × FieldType), ([(cA 0, .int), (cA 1, .byte), (cA 2, .long), (cA 3, .boolean)] : List (ClassId × FieldType))[k]? = some q → ArrOfT s q.1 q.2 ∧ va_RA s q.1 q.2 := by
  obtain ⟨c0, k0, m0, a0, b0, d0⟩ := Cond.arrayClass_spec (hts _ aw_int)
  obtain ⟨c1, k1, m1, a1, b1, d1⟩ := Cond.arrayClass_spec (hts _ aw_byte)
  obtain ⟨c2, k2, m2, a2, b2, d2⟩ := Cond.arrayClass_spec (hts _ aw_long)
  obtain ⟨c3, k3, m3, a3, b3, d3⟩ := Cond.arrayClass_spec (hts _ aw_boolean)
  refine ⟨fun k => match k with | 0 => c0 | 1 => c1 | 2 => c2 | _ => c3, fun k q hk => ?_⟩
  match k, hk with
  | 0, hk => cases hk; exact ⟨fun n z => ⟨fun k h => (by cases h), k0, b0, m0, d0⟩, a0⟩
  | 1, hk => cases hk; exact ⟨fun n z => ⟨fun k h => (by cases h), k1, b1, m1, d1⟩, a1⟩
  | 2, hk => cases hk; exact ⟨fun n z => ⟨fun k h => (by cases h), k2, b2, m2, d2⟩, a2⟩
  | 3, hk => cases hk; exact ⟨fun n z => ⟨fun k h => (by cases h), k3, b3, m3, d3⟩, a3⟩
  | k + 4, hk => simp at hk
set_option maxHeartbeats 2000000 in
set_option maxRecDepth 100000 in
theorem whole_start (hmain : x_main) {p : Program} {e : Env} {s : State} {m : MethodId} {below : List Frame} {meth : Method} {c : Code} (l : Launch) (hf : l.flags = flags0) {b L : Nat} {xs : Nat → Int32} (hL : L ≤ 3072) (C0 : lw_At p s m meth c b L xs) : W p l e room_1 s m #[Value.ref b] below meth c s.heap [] 0 0 (lw_Z below #[Value.ref b] s) (entryFrame m ([Value.ref b] : List Value).toArray 8) := by
  obtain ⟨hx, hb, hr, hml, hown, hts0, hX, hbl, hlk, hgv, hnm, hex⟩ := C0
  have hts : ∀ w ∈ x_tw, w.before #[Value.ref b] s = true := fun w hw => hts0 w (List.mem_filter.mp hw).1
  have hfl := flat_of_before _ hgv
  have hA : ∀ a : Nat, a < s.heap.size → ¬ (fun q => s.heap.size ≤ q) a := fun a h => Nat.not_le.mpr h
  obtain ⟨cA, hcA⟩ := x_arrA hts
  obtain ⟨D, hD⟩ : ∃ f : Nat → ClassId × (Nat → Nat), ∀ c, ∀ q, x_cl[c]? = some q → u_Kn s q.1 q.2.1 q.2.2 (f c).1 (f c).2 := by
    refine (Classical.skolem (p := fun (c : Nat) (y : ClassId × (Nat → Nat)) => ∀ q, x_cl[c]? = some q → u_Kn s q.1 q.2.1 q.2.2 y.1 y.2)).mp (fun c => ?_)
    cases hq : x_cl[c]? with
    | none => exact ⟨(0, fun _ => 0), fun q h => by cases h⟩
    | some q =>
      obtain ⟨n, hn⟩ := x_inst c q hq
      obtain ⟨cC, iS, hk⟩ := u_known (n := n) hts (x_okc_all c q hq).1 (hts _ hn)
      exact ⟨(cC, iS), fun q' h => by cases h; exact hk⟩
  obtain ⟨oA, hoe, hoT⟩ := va_Tof (A := fun q => s.heap.size ≤ q) (f := fun j => .int (x_ord j)) (N := 19) (tm := .static "RowPacker" "ORDER_OF_LENGTHS" "[I") (by decide) (hfl (.arrayOf (.static "RowPacker" "ORDER_OF_LENGTHS" "[I") .int) (by decide +kernel)) (va_eqt (hfl (.eq (.length (.static "RowPacker" "ORDER_OF_LENGTHS" "[I")) (.int 19)) (by decide +kernel)))
    (fun j hj => by
      match j, hj with
      | 0, _ => exact va_eqt (hfl (.eq (.elem (.static "RowPacker" "ORDER_OF_LENGTHS" "[I") (.int 0)) (.int 16)) (by decide +kernel))
      | 1, _ => exact va_eqt (hfl (.eq (.elem (.static "RowPacker" "ORDER_OF_LENGTHS" "[I") (.int 1)) (.int 17)) (by decide +kernel))
      | 2, _ => exact va_eqt (hfl (.eq (.elem (.static "RowPacker" "ORDER_OF_LENGTHS" "[I") (.int 2)) (.int 18)) (by decide +kernel))
      | 3, _ => exact va_eqt (hfl (.eq (.elem (.static "RowPacker" "ORDER_OF_LENGTHS" "[I") (.int 3)) (.int 0)) (by decide +kernel))
      | 4, _ => exact va_eqt (hfl (.eq (.elem (.static "RowPacker" "ORDER_OF_LENGTHS" "[I") (.int 4)) (.int 8)) (by decide +kernel))
      | 5, _ => exact va_eqt (hfl (.eq (.elem (.static "RowPacker" "ORDER_OF_LENGTHS" "[I") (.int 5)) (.int 7)) (by decide +kernel))
      | 6, _ => exact va_eqt (hfl (.eq (.elem (.static "RowPacker" "ORDER_OF_LENGTHS" "[I") (.int 6)) (.int 9)) (by decide +kernel))
      | 7, _ => exact va_eqt (hfl (.eq (.elem (.static "RowPacker" "ORDER_OF_LENGTHS" "[I") (.int 7)) (.int 6)) (by decide +kernel))
      | 8, _ => exact va_eqt (hfl (.eq (.elem (.static "RowPacker" "ORDER_OF_LENGTHS" "[I") (.int 8)) (.int 10)) (by decide +kernel))
      | 9, _ => exact va_eqt (hfl (.eq (.elem (.static "RowPacker" "ORDER_OF_LENGTHS" "[I") (.int 9)) (.int 5)) (by decide +kernel))
      | 10, _ => exact va_eqt (hfl (.eq (.elem (.static "RowPacker" "ORDER_OF_LENGTHS" "[I") (.int 10)) (.int 11)) (by decide +kernel))
      | 11, _ => exact va_eqt (hfl (.eq (.elem (.static "RowPacker" "ORDER_OF_LENGTHS" "[I") (.int 11)) (.int 4)) (by decide +kernel))
      | 12, _ => exact va_eqt (hfl (.eq (.elem (.static "RowPacker" "ORDER_OF_LENGTHS" "[I") (.int 12)) (.int 12)) (by decide +kernel))
      | 13, _ => exact va_eqt (hfl (.eq (.elem (.static "RowPacker" "ORDER_OF_LENGTHS" "[I") (.int 13)) (.int 3)) (by decide +kernel))
      | 14, _ => exact va_eqt (hfl (.eq (.elem (.static "RowPacker" "ORDER_OF_LENGTHS" "[I") (.int 14)) (.int 13)) (by decide +kernel))
      | 15, _ => exact va_eqt (hfl (.eq (.elem (.static "RowPacker" "ORDER_OF_LENGTHS" "[I") (.int 15)) (.int 2)) (by decide +kernel))
      | 16, _ => exact va_eqt (hfl (.eq (.elem (.static "RowPacker" "ORDER_OF_LENGTHS" "[I") (.int 16)) (.int 14)) (by decide +kernel))
      | 17, _ => exact va_eqt (hfl (.eq (.elem (.static "RowPacker" "ORDER_OF_LENGTHS" "[I") (.int 17)) (.int 1)) (by decide +kernel))
      | 18, _ => exact va_eqt (hfl (.eq (.elem (.static "RowPacker" "ORDER_OF_LENGTHS" "[I") (.int 18)) (.int 15)) (by decide +kernel))
      | j + 19, h => omega) hA
  have hol : oA < s.heap.size := by obtain ⟨cell, h1, -⟩ := hoT; exact (Array.getElem?_eq_some_iff.mp h1).1
  have hZ := va_Zof (A := fun q => s.heap.size ≤ q) (hts0 _ ls_ord) (hts _ in_RP) hoe hA
  have hU := xSt.of (A := fun q => s.heap.size ≤ q) (hts0 _ ls_una) (hfl (.isRef (.static "java/lang/Throwable" "UNASSIGNED_STACK" "[Ljava/lang/StackTraceElement;")) (by decide +kernel)) hA
  have hSu := xSt.of (A := fun q => s.heap.size ≤ q) (hts0 _ ls_sup) (hfl (.isRef (.static "java/lang/Throwable" "SUPPRESSED_SENTINEL" "Ljava/util/List;")) (by decide +kernel)) hA
  have hn1 := va_Nc.of (hfl (.not (.castable "java/lang/IllegalStateException" "java/lang/IllegalArgumentException")) (by decide +kernel))
  have hn2 := va_Nc.of (hfl (.not (.castable "java/lang/IllegalArgumentException" "java/lang/IndexOutOfBoundsException")) (by decide +kernel))
  obtain ⟨mc, hmc, w⟩ := hmain l hf (s.heap.size, b, oA, (fun c => (D c).1, fun c => (D c).2), cA, L, xs) hL
  have hK : xK (s.heap.size, b, oA, (fun c => (D c).1, fun c => (D c).2), cA, L, xs) s s.heap := ⟨⟨hD, hcA⟩, hX, hoT, hbl, hol, Nat.le_refl _, hZ, hU, hSu, hn1, hn2⟩
  have hE : xE (s.heap.size, b, oA, (fun c => (D c).1, fun c => (D c).2), cA, L, xs) mLA_law 2 p s m #[Value.ref b] meth c := ⟨hx, hb, hr, hml, hown, hts, hlk, hnm, rfl, hK, by rw [Array.isEmpty_iff.mp hex]; rfl, ck_LA_law⟩
  have hR : xR (s.heap.size, b, oA, (fun c => (D c).1, fun c => (D c).2), cA, L, xs) (x_H0 L xs) s.heap := ⟨fun k q hq => by simp [x_ws] at hq, rfl, rfl, Nat.le_refl 2⟩
  have w1 := w p e s m #[Value.ref b] below meth c _ s.heap [] hE hR va_S.rf (xLv.entry (A := [.ref 0]) (nL := 8) (by decide)) rfl (fun _ => ⟨rfl, rfl⟩)
  refine x_room (R' := xrm 1750 mc 7293034) (show 1750 ≤ 2048 by decide) hmc (Nat.le_refl _) (show 48 * 1750 ≤ 84000 by decide) ?_
  rw [lg_entry_eq]
  refine xW_mono (fun t ht => ?_) w1
  obtain ⟨o, a1, a2, r, H', a3, a4, a5, a6, a7, L', a8, a9, a10⟩ := ht
  subst a4
  refine ⟨o, a1, a2, a3, ⟨_, a3⟩, a8, x_forgetL ⟨a9.1, a9.2.1, ?_, a9.2.2.2.1, a9.2.2.2.2.1, a9.2.2.2.2.2⟩ a10⟩
  exact Nat.le_trans a9.2.2.1 (Nat.add_le_add_left hmc _)
set_option maxHeartbeats 4000000 in
theorem lw_walk (hmain : x_main) (l : Launch) (hf : l.flags = flags0) (b : Addr) (xs : List Int32) : MetFree l x (headSpec (Jvm.Cond.code x code maxLocals ret :: tables_1) room_1) (lw_P b xs) (fun _ _ _ _ _ => True) lw_Q := by
  refine MetFree.of_bodyS (code := code) (maxLocals := maxLocals) (ret := ret) (by decide) ?_ ?_
  · intro args s m h hn
    obtain ⟨meth, c, h1, h2, h3, h4, h5, h6, -, -⟩ := Cond.code_spec hn (atoms_spec (ws := Jvm.Cond.code x code maxLocals ret :: tables_1) h _ List.mem_cons_self)
    exact ⟨meth, c, h1, h2, h3, h4, h5, h6⟩
  · intro p e s m args below meth c s₁ B hml0 hP _
    obtain ⟨rfl, hx, hbd, hgv⟩ := hP
    obtain ⟨scr, harrAt, hlist, hof, hsmall⟩ := hx
    obtain ⟨hcb, hkn, -, -⟩ := State.arrayAt?_spec harrAt
    have hown : s.vm.findClass R_law = some m.cls := findClass_of_methodNamed B.named
    have hts0 : ∀ c ∈ (Jvm.Cond.code x code maxLocals ret :: tables_1), c.before #[Value.ref b] s = true := atoms_spec (ws := Jvm.Cond.code x code maxLocals ret :: tables_1) B.pre
    have hts : ∀ w ∈ lw_tbl, w.before #[Value.ref b] s = true := k2_hts_sels lw_privs (fun w hw => hts0 w (List.mem_cons_of_mem _ hw)) lw_privs_ok
    have hml : c.maxLocals = 8 := B.maxLocals_eq (hts0 _ List.mem_cons_self)
    have X₀ : Stand p l e room_1 s m #[Value.ref b] below meth c s₁ [] 0 0 := Stand.of_body B
    have hh0 : s₁.heap = s.heap := by rw [B.state]; rfl
    have hsz : scr.slots.size = xs.length := by rw [← Array.length_toList, hlist, List.length_map]
    have hval : ∀ j : Nat, j < xs.length → scr.slots[j]? = some (.int (xs.getD j 0)) := fun j hj => by
      rw [← Array.getElem?_toList, hlist]
      simp [hj]
    have hbl : b < s.heap.size := (Array.getElem?_eq_some_iff.mp hcb).1
    have hX : va_X b xs.length (fun j => xs.getD j 0) s s.heap := ⟨scr, hcb, hof, hkn, hsz, hval⟩
    have K : W p l e room_1 s m #[Value.ref b] below meth c s₁.heap [] 0 0 (lw_Z below #[Value.ref b] s) (entryFrame m ([Value.ref b] : List Value).toArray 8) := by
      rw [hh0]
      exact whole_start hmain l hf hbd ⟨B.exec, B.bytes, B.returns, hml, hown, hts, hX, hbl, B.notSynchronized, hgv, (name_of_methodNamed B.named B.method).1, B.noHandlers (hts0 _ List.mem_cons_self)⟩
    obtain ⟨t, a1, o, b1, b2, b3⟩ := K s₁ rfl X₀
    exact ⟨t, o, a1, b1, b2, b3⟩
theorem lw_pre_spec {args : Array Value} {s : State} (h : (Jvm.Cond.and given_1 narrow_1).before args s = true) (hr : rest_1_c.before args s = true) : ∃ (b : Addr) (xs : List Int32), lw_P b xs args s := by
  have hs := flat_of_before _ h
  have hq := flat_of_before _ hr
  have hc : (Cond.count 1).before args s = true := hs _ (by decide +kernel)
  have harr : (Cond.arrayOf (.arg 0) .int).before args s = true := hs _ (by decide +kernel)
  have hle : (Cond.le (.length (.arg 0)) (.int 3072)).before args s = true := hs _ (by decide +kernel)
  have hlen : (Cond.isInt (.length (.arg 0))).before args s = true := hq _ (by decide +kernel)
  have hall : (Cond.all (.arg 0) (.isInt (.elem (.arg 0) (.index 0)))).before args s = true := hq _ (by decide +kernel)
  obtain ⟨b, xs, hb, hx⟩ := State.ints_of_pre rfl harr hlen hall
  have hsm : xs.length < 2 ^ 31 := hx.choose_spec.2.2.2
  have hev : (Term.length (.arg 0)).eval args s none [] s = some (.int xs.length.toInt32) := hx.length_eval hb
  have hv := Cond.le_ints hev (show (Term.int 3072).eval args s none [] s = some (.int 3072) from rfl)
  have hd : xs.length.toInt32 ≤ 3072 := by
    simpa [Cond.before, Cond.holds, hv] using hle
  have hN : xs.length ≤ 3072 := (Int32.ofNat_le_ofNat hsm (by decide)).mp (show Int32.ofNat xs.length ≤ Int32.ofNat 3072 from hd)
  exact ⟨b, xs, Cond.one_arg hc (show args[0]? = some (.ref b) from hb), hx, hN, h⟩
theorem lw_comes (hmain : x_main) (l : Launch) (hf : l.flags = flags0) : Comes l x (Jvm.Cond.code x code maxLocals ret :: tables_1) room_1 (fun tb e args s => Calls_1 tb e args s ∧ rest_1 tb e args s ∧ Pre_1 tb e args s)
    (fun _ _ args s o t => lw_Q args s o t) := by
  intro p e ha hc hk s m args below hf2 hfit hheap happ hpre
  obtain ⟨b, xs, hP⟩ := lw_pre_spec hpre.2.2 hpre.2.1
  obtain ⟨k, o, h1, h2, h3, hQ⟩ := lw_walk hmain l hf b xs p e ha hc hk s m args below hf2 ((Spec.applies_iff_loose hf2).mp happ).1 hP trivial
  exact ⟨k, o, h1, h2, h3, hQ⟩
theorem lw_frame {s t : State} {o : Outcome} {args : Array Value} (h : Framed s o t [] 601024 7293034) :
    Framed s o t (fieldLocs frame_1_writes args s ++ arrayLocs frame_1_arrays args s ++ staticLocs frame_1_statics s) 601024 7293034 := h
theorem lw_limb (hmain : x_main) (L : Cond) (hL : ∀ (args : Array Value) (s t : State), L.after args s (.returned (some (.int 1))) t = true) :
    ArmFor flags0 classFile x code maxLocals ret World_1 tables_1 room_1 Calls_1 rest_1 Pre_1
      (fun tb e a s o t => postC L tb e a s o t ∧ Framed s o t (fieldLocs frame_1_writes a s ++ arrayLocs frame_1_arrays a s ++ staticLocs frame_1_statics s) 601024 7293034) := by
  intro l hfl _ _ p e ha hc hk s m args below hf hfit hheap happ hpre
  obtain ⟨k, o, h1, h2, h3, rfl, hF⟩ := lw_comes hmain l hfl p e ha hc hk s m args below hf hfit hheap happ hpre
  exact ⟨k, _, h1, h2, h3, hL args s _, lw_frame hF⟩
/-- the claim, once the law is walked over the list heap -/
theorem i_vc_of (hmain : x_main) : Claimed_1_1 ∧ Claimed_1_2 := ⟨lw_limb hmain limb_1_1 (fun args s t => by simp [limb_1_1, Cond.after, Cond.holds, Cond.value]), lw_limb hmain limb_1_2 (fun args s t => Cond.after_iff.mpr (by
  first | (rw [show limb_1_2 = Cond.eq .result (.int 1) from rfl, Cond.eq_ints (x := 1) (y := 1) rfl rfl]; simp; done) | (simp [limb_1_2, Cond.value, Term.eval]; done)))⟩
