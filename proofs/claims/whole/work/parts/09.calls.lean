theorem xW_mono {p : Program} {l : Launch} {e : Env} {R : Room} {s : State} {m : MethodId} {args : Array Value} {below : List Frame} {meth : Method} {c : Code} {H : Heap} {locs : List Loc} {cells slots : Nat} {Q Q' : State → Prop} {g : JFrame} (h : ∀ t, Q t → Q' t) (w : W p l e R s m args below meth c H locs cells slots Q g) : W p l e R s m args below meth c H locs cells slots Q' g := by
  intro T hT X
  obtain ⟨t, a, b⟩ := w T hT X
  exact ⟨t, a, h t b⟩
theorem xW_size {p : Program} {l : Launch} {e : Env} {R : Room} {s : State} {m : MethodId} {args : Array Value} {below : List Frame} {meth : Method} {c : Code} {H : Heap} {locs : List Loc} {cells slots : Nat} {Q : State → Prop} {g : JFrame} (w : H.size ≤ s.heap.size + cells → W p l e R s m args below meth c H locs cells slots Q g) : W p l e R s m args below meth c H locs cells slots Q g := by
  intro T hT X
  exact w (by rw [← hT]; exact X.heapSize) T hT X
theorem xR.size {x : xX} {H : xH} {Hh : Heap} (h : xR x H Hh) (hb : x.1 ≤ Hh.size) : x.1 + H.length ≤ Hh.size + 2 := by
  obtain ⟨t, rfl⟩ := h.two
  by_cases ht : t = []
  · subst ht
    simp only [List.length_cons, List.length_nil]
    omega
  · have hl : t.length - 1 < t.length := Nat.sub_one_lt (fun e => ht (List.length_eq_zero_iff.mp e))
    have hg : (x_ws x 0 t)[t.length - 1]? = some (x.1 + (0 + (t.length - 1)), x_mE x t[t.length - 1]) := by
      rw [x_ws_get, List.getElem?_eq_getElem hl]
      rfl
    have := (h.1 _ _ hg).lt
    simp only [List.length_cons] at *
    omega
def xPc (x : xX) (A : List Value) (H : xH) : Array Value → State → Prop := fun v U => v = (A.map (x_rv x)).toArray ∧ xR x H U.heap ∧ U.heap.size + 2 = x.1 + H.length ∧ xK x U U.heap
abbrev xws (μ : xM) : List Cond := Cond.code μ.1 μ.2.1 μ.2.2.1 μ.2.2.2.1 :: x_tw
/-- A CONTRACT: called with A in the heap H, in room for d frames, mc cells, ms slots, it ends with Q -/
def xCt (l : Launch) (x : xX) (d mc ms : Nat) (μ : xM) (A : List Value) (H : xH) (Q : xO → xH → Prop) : Prop :=
  MetFree l μ.1 (headSpec (xws μ) (xrm d mc ms)) (xPc x A H) (fun _ _ _ _ _ => True) (fun _ st o t => xEnd x H.length mc ms Q st o t)
/-- it returns -/
abbrev xCr (l : Launch) (x : xX) (d mc ms : Nat) (μ : xM) (A : List Value) (H : xH) (Q : Option Value → xH → Prop) : Prop := xCt l x d mc ms μ A H (fun r H' => ∃ v, r = .inl v ∧ Q v H')
def xQc (x : xX) (n0 mc : Nat) (Q : Option Value → xH → Prop) : Array Value → State → Outcome → State → Prop := fun _ st o t => ∃ (v : Option Value) (H' : xH), o = .returned (v.map (x_rv x)) ∧ Q v H' ∧ xR x H' t.heap ∧ H'.length = n0 + mc ∧ va_F (xA x) st t
theorem xCr.met {l : Launch} {x : xX} {d mc ms : Nat} {μ : xM} {A : List Value} {H : xH} {Q : Option Value → xH → Prop} (h : xCr l x d mc ms μ A H Q) : Met l μ.1 (xws μ) (xrm d mc ms) (xPc x A H) (xQc x H.length mc Q) mc ms (xA x) := by
  intro p e h1 h2 h3 s m args below h4 h5 h6 h7
  obtain ⟨n, o, a1, a2, a3, r, H', e1, ⟨v, e2, hq⟩, hR, hl, hF, L, hW, hs, hL⟩ := h p e h1 h2 h3 s m args below h4 h5 h6 h7
  subst e2
  exact ⟨n, o, a1, a2, a3, ⟨v, H', e1, hq, hR, hl, hF⟩, L, ⟨⟨_, e1⟩, hW, hs⟩, hL⟩
theorem xPc.blind {x : xX} {A : List Value} {H : xH} : FrameBlind (xPc x A H) := by
  intro a U g mk h
  obtain ⟨h1, h2, h3, h4⟩ := h
  exact ⟨h1, h2, h3, h4.to (u := U) (U := U.calling g mk a) (H0 := U.heap) (H := (U.calling g mk a).heap) (locs := []) (Vm.Alike.refl U.vm) va_S.rf⟩
/-! entry -/
def x_la : List Value → xL
  | [] => []
  | v :: t => if v.category = 2 then some v :: none :: x_la t else some v :: x_la t
def x_L0 (A : List Value) (nL : Nat) : xL := x_la A ++ List.replicate (nL - (x_la A).length) none
theorem x_la_len (x : xX) : ∀ A : List Value, (lg_sl (A.map (x_rv x))).length = (x_la A).length := by
  intro A
  induction A with
  | nil => rfl
  | cons v t ih =>
    have e : lg_sl ((v :: t).map (x_rv x)) = (if (x_rv x v).category = 2 then [Slot.val (x_rv x v), .second] else [.val (x_rv x v)]) ++ lg_sl (t.map (x_rv x)) := by simp [lg_sl]
    rw [e, List.length_append, ih, x_la, x_rv_cat]
    split <;> simp <;> omega
theorem x_la_mem (x : xX) : ∀ (A : List Value) (i0 i : Nat) (v : Value), (x_la A)[i]? = some (some v) → (i0 + i, x_rv x v) ∈ lv_args i0 (A.map (x_rv x)) := by
  intro A
  induction A with
  | nil => intro i0 i v h; simp [x_la] at h
  | cons w t ih =>
    intro i0 i v h
    rw [List.map_cons, lv_args, x_rv_cat]
    rw [x_la] at h
    by_cases hc : w.category = 2
    · rw [if_pos hc] at h ⊢
      match i, h with
      | 0, h => cases h; exact List.mem_cons_self
      | 1, h => cases h
      | i + 2, h =>
        have := ih (i0 + 2) i v h
        rw [show i0 + (i + 2) = i0 + 2 + i by omega]
        exact List.mem_cons_of_mem _ this
    · rw [if_neg hc] at h ⊢
      match i, h with
      | 0, h => cases h; exact List.mem_cons_self
      | i + 1, h =>
        have := ih (i0 + 1) i v h
        rw [show i0 + (i + 1) = i0 + 1 + i by omega]
        exact List.mem_cons_of_mem _ this
theorem xLv.entry {x : xX} {A : List Value} {nL : Nat} (h : (x_la A).length ≤ nL) : xLv x nL (x_L0 A nL) ((lg_sl (A.map (x_rv x)) ++ List.replicate (nL - (lg_sl (A.map (x_rv x))).length) Slot.unset).toArray) := by
  have hE := lv_entry (A.map (x_rv x)) (n := nL) (by rw [x_la_len]; exact h)
  refine ⟨by simp [x_L0]; omega, hE.1, hE.2.1, fun i v hi => ?_⟩
  rw [x_L0, List.getElem?_append] at hi
  split at hi
  · have := x_la_mem x A 0 i v hi
    rw [Nat.zero_add] at this
    exact hE.2.2 _ this
  · rw [List.getElem?_replicate] at hi
    split at hi <;> simp at hi
theorem xCt.of {l : Launch} {x : xX} {d mc ms : Nat} {μ : xM} {A : List Value} {H : xH} {Q : xO → xH → Prop} (hy : plainName μ.1.cls = true) (ho : x_cn μ.2.2.2.2.1 = μ.1.cls) (hck : x_ck μ.2.1 0 μ.2.2.2.2.2 = true) (hl : (x_la A).length ≤ μ.2.2.1) (hh : x_hd μ.1 = [])
    (h : xW l x d mc ms μ H.length Q true 0 (x_L0 A μ.2.2.1) [] H 0 0) : xCt l x d mc ms μ A H Q := by
  refine MetFree.of_bodyS (code := μ.2.1) (maxLocals := μ.2.2.1) (ret := μ.2.2.2.1) hy ?_ ?_
  · intro args s m hp hn
    obtain ⟨meth, c, h1, h2, h3, h4, h5, h6, -, -⟩ := Cond.code_spec hn (atoms_spec (ws := xws μ) hp _ List.mem_cons_self)
    exact ⟨meth, c, h1, h2, h3, h4, h5, h6⟩
  · intro p e s m args below meth c s₁ B hml hP _
    obtain ⟨rfl, hR, hsz, hK⟩ := hP
    have hh0 : s₁.heap = s.heap := by rw [B.state]; rfl
    have hts := atoms_spec (ws := xws μ) B.pre
    have hE : xE x μ H.length p s m _ meth c := ⟨B.exec, B.bytes, B.returns, hml, by rw [ho]; exact findClass_of_methodNamed B.named, fun w hw => hts w (List.mem_cons_of_mem _ hw), B.notSynchronized, (name_of_methodNamed B.named B.method).1, hsz, hK, (by rw [hh, Array.isEmpty_iff.mp (B.noHandlers (hts _ List.mem_cons_self))]; rfl), hck⟩
    have w := h p e s m _ below meth c _ s.heap [] hE hR va_S.rf (xLv.entry hl) rfl (fun _ => ⟨rfl, rfl⟩)
    rw [show x_pc μ.2.2.2.2.2 0 = 0 by cases μ.2.2.2.2.2 <;> rfl] at w
    have w2 : W p l e (xrm d mc ms) s m ((A.map (x_rv x)).toArray) below meth c s.heap [] 0 0 (xMQ x H.length mc ms Q below s) (entryFrame m (A.map (x_rv x)).toArray μ.2.2.1) := by rw [lg_entry_eq]; exact w
    obtain ⟨t, a1, o, b1, b2, b3⟩ := w2 s₁ hh0 (Stand.of_body B)
    exact ⟨t, o, a1, b1, b2, b3⟩
section XRet
variable {l : Launch} {x : xX} {d mc ms : Nat} {μ : xM} {n0 : Nat} {Q : xO → xH → Prop} {cl : Bool} {k : Nat} {L : xL} {S : List Value} {H : xH} {uc us : Nat}
variable {a b : Int32} {f g : Int64}
theorem xMQ.of {r : xO} {below : List Frame} {args : Array Value} {s t : State} {Hh : Heap} {locs : List Loc} (hq : Q r H) (hR : xR x H Hh) (hS : va_S (xA x) s.heap Hh locs) (hn : H.length = n0 + mc) (h : MQ below (fun _ _ o u => o = x_out x r ∧ u.heap = Hh) args s mc ms (xA x) t) : xMQ x n0 mc ms Q below s t := by
  obtain ⟨o, h1, h2, ⟨h3, h4⟩, L, ⟨-, h5, h6⟩, h7⟩ := h
  exact ⟨o, h1, h2, r, H, h3, hq, by rw [h4]; exact hR, hn, hS.F h4, L, h5, h6, h7⟩
theorem xs_iret (hc : μ.2.2.2.2.2[k]? = some .ireturn) (hr : μ.2.2.2.1 = some .int) (huc : uc = mc) (hus : us ≤ ms) (hq : Q (.inl (some (.int a))) H) : xW l x d mc ms μ n0 Q cl k L [.int a] H uc us := by
  intro p e s m args below meth c ls Hh locs E R hS hL hn hcn
  subst huc
  refine W.widen (Nat.le_refl _) hus (xW_mono (fun t ht => xMQ.of (args := args) hq R hS hn ht) ?_)
  exact W.iret (v := a) E.1 E.2.1 (E.2.2.1.trans hr) (fun t ht hW => ⟨rfl, ht⟩) hS.2.2 (E.dec hc) (hlocks := E.2.2.2.2.2.2.1)
theorem xs_zret (hc : μ.2.2.2.2.2[k]? = some .ireturn) (hr : μ.2.2.2.1 = some .boolean) (hz : narrow .boolean (.int a) = .int a) (huc : uc = mc) (hus : us ≤ ms) (hq : Q (.inl (some (.int a))) H) : xW l x d mc ms μ n0 Q cl k L [.int a] H uc us := by
  intro p e s m args below meth c ls Hh locs E R hS hL hn hcn
  subst huc
  refine W.widen (Nat.le_refl _) hus (xW_mono (fun t ht => xMQ.of (args := args) hq R hS hn ht) ?_)
  exact W.zret (v := a) E.1 E.2.1 (E.2.2.1.trans hr) hz (fun t ht hW => ⟨rfl, ht⟩) hS.2.2 (E.dec hc) (hlocks := E.2.2.2.2.2.2.1)
theorem xs_lret (hc : μ.2.2.2.2.2[k]? = some .lreturn) (hr : μ.2.2.2.1 = some .long) (huc : uc = mc) (hus : us ≤ ms) (hq : Q (.inl (some (.long f))) H) : xW l x d mc ms μ n0 Q cl k L [.long f] H uc us := by
  intro p e s m args below meth c ls Hh locs E R hS hL hn hcn
  subst huc
  refine W.widen (Nat.le_refl _) hus (xW_mono (fun t ht => xMQ.of (args := args) hq R hS hn ht) ?_)
  exact W.lret (v := f) E.1 E.2.1 (E.2.2.1.trans hr) (fun t ht hW => ⟨rfl, ht⟩) hS.2.2 (E.dec hc) (hlocks := E.2.2.2.2.2.2.1)
theorem xs_vret (hc : μ.2.2.2.2.2[k]? = some .return_) (hr : μ.2.2.2.1 = none) (huc : uc = mc) (hus : us ≤ ms) (hq : Q (.inl none) H) : xW l x d mc ms μ n0 Q cl k L [] H uc us := by
  intro p e s m args below meth c ls Hh locs E R hS hL hn hcn
  subst huc
  refine W.widen (Nat.le_refl _) hus (xW_mono (fun t ht => xMQ.of (args := args) hq R hS hn ht) ?_)
  exact W.vret E.1 E.2.1 (E.2.2.1.trans hr) (fun t ht hW => ⟨rfl, ht⟩) hS.2.2 (E.dec hc) (hlocks := E.2.2.2.2.2.2.1)
/-- the heap grows by a cell -/
theorem xR.push {Hh H1 : Heap} {cE : va_E} (hR : xR x H Hh) (hs : Hh.size + 2 = x.1 + H.length) (ho : ∀ q, q < Hh.size → H1[q]? = Hh[q]?) (ha : va_at x.2.2.2.1 x_cl (Hh.size, x_mE x cE) H1) : xR x (H ++ [cE]) H1 := by
  obtain ⟨t, rfl⟩ := hR.two
  refine ⟨?_, rfl, rfl, by simp⟩
  show va_P x.2.2.2.1 x_cl (x_ws x 0 (t ++ [cE])) H1
  rw [x_ws_app]
  refine (hR.1.kept (fun k q hq => ho _ ((hR.1 k q hq).lt))).app (fun k q hq => ?_)
  have hz : k < 1 := (List.getElem?_eq_some_iff.mp hq).1
  rw [show k = 0 by omega] at hq
  cases hq
  have : x.1 + (0 + t.length) = Hh.size := by simp only [List.length_cons] at hs; omega
  rw [this]
  exact ha
theorem x_ad_len (h : 2 ≤ H.length) {Hh : Heap} (hs : Hh.size + 2 = x.1 + H.length) : x_ad x H.length = Hh.size := by
  obtain ⟨q, hq⟩ : ∃ q, H.length = q + 2 := ⟨H.length - 2, by omega⟩
  rw [hq] at hs ⊢
  show x.1 + q = Hh.size
  omega
theorem va_S.push {A : Nat → Prop} {H0 Hh H1 : Heap} {locs : List Loc} (hS : va_S A H0 Hh locs) (hz : H1.size = Hh.size + 1) (ho : ∀ q, q < Hh.size → H1[q]? = Hh[q]?) : va_S A H0 H1 locs :=
  ⟨Nat.le_trans hS.1 (by omega), fun q h1 h2 => (ho q (Nat.lt_of_lt_of_le h1 hS.1)).trans (hS.2.1 q h1 h2), hS.2.2⟩
theorem xE.size {p : Program} {s : State} {m : MethodId} {args : Array Value} {meth : Method} {c : Code} {Hh : Heap} {locs : List Loc} (E : xE x μ n0 p s m args meth c) (R : xR x H Hh) (hS : va_S (xA x) s.heap Hh locs) (hn : H.length = n0 + uc) (h : Hh.size ≤ s.heap.size + uc) : Hh.size + 2 = x.1 + H.length := by
  have h1 := R.size (Nat.le_trans E.2.2.2.2.2.2.2.2.2.1.2.2.2.2.2.1 hS.1)
  have h2 := E.2.2.2.2.2.2.2.2.1
  omega
def x_dv (ty : FieldType) : Value := match ty with
  | .int => .int 0
  | _ => .null
def x_df (ci n : Nat) : List Value := (List.range n).map (fun k => x_dv (x_tys ci k))
/-- a new object of a class of the list, with its blank fields -/
theorem xs_new {idx ci N : Nat} {C : String} {T : u_T} (hc : μ.2.2.2.2.2[k]? = some (.new idx)) (hN : x_NC μ.2.2.2.2.1 idx ci N) (hcl : x_cl[ci]? = some (C, T, N)) (hC : x_cn ci = C) (hdv : ∀ j, j < N → defaultValue (x_tys ci j) = x_dv (x_tys ci j)) (hu : uc + 1 ≤ mc) (hu2 : us + N ≤ ms)
    (kk : xW l x d mc ms μ n0 Q false (k + 1) L (.ref H.length :: S) (H ++ [.inr (ci, x_df ci N)]) (uc + 1) (us + N)) : xW l x d mc ms μ n0 Q cl k L S H uc us := by
  intro p e s m args below meth c ls Hh locs E R hS hL hn hcn
  refine xW_size (fun hsz => ?_)
  have hs := E.size R hS hn hsz
  obtain ⟨h1, h2, h3⟩ := hN
  have hok := x_okc_all ci _ hcl
  have hKn := E.2.2.2.2.2.2.2.2.2.1.1.1 ci _ hcl
  rw [hC] at h1 h2 h3
  refine W.newcK E.1 E.2.1 E.2.2.2.2.1 (E.2.2.2.2.2.1 _ h1) (E.2.2.2.2.2.1 _ h2) (E.2.2.2.2.2.1 _ h3) rfl (E.dec hc) hu hu2 hKn.2.1 rfl (fun H1 kC hkC e1 z1 o1 => ?_)
  have hb := (u_born (x_tys ci) E.2.2.2.2.2.1 hok.1 hKn hkC e1 hok.2.1).to (V' := vp_V ((x_df ci N).map (x_rv x))) (fun j hj => by
    rw [hdv j hj]
    simp [vp_V, x_df, hj]
    cases x_tys ci j <;> rfl)
  have := kk p e s m args below meth c ls H1 locs E (R.push (cE := .inr (ci, x_df ci N)) hs o1 ⟨_, hcl, hb⟩) (hS.push z1 o1) hL (by rw [List.length_append, hn]; rfl) (fun h => by cases h)
  rw [x_pcS _ _ _ hc] at this
  rw [List.map_cons, x_rv, x_ad_len R.2.2.2 hs] at this
  exact this
/-- a new exception: its fields aren't looked at -/
theorem xs_newE {idx ci N : Nat} {C : String} {T : u_T} (hc : μ.2.2.2.2.2[k]? = some (.new idx)) (hN : x_NC μ.2.2.2.2.1 idx ci N) (hcl : x_cl[ci]? = some (C, T, 0)) (hC : x_cn ci = C) (hu : uc + 1 ≤ mc) (hu2 : us + N ≤ ms)
    (kk : xW l x d mc ms μ n0 Q false (k + 1) L (.ref H.length :: S) (H ++ [.inr (ci, [])]) (uc + 1) (us + N)) : xW l x d mc ms μ n0 Q cl k L S H uc us := by
  intro p e s m args below meth c ls Hh locs E R hS hL hn hcn
  refine xW_size (fun hsz => ?_)
  have hs := E.size R hS hn hsz
  obtain ⟨h1, h2, h3⟩ := hN
  have hKn := E.2.2.2.2.2.2.2.2.2.1.1.1 ci _ hcl
  rw [hC] at h1 h2 h3
  refine W.newcK E.1 E.2.1 E.2.2.2.2.1 (E.2.2.2.2.2.1 _ h1) (E.2.2.2.2.2.1 _ h2) (E.2.2.2.2.2.1 _ h3) rfl (E.dec hc) hu hu2 hKn.2.1 rfl (fun H1 kC hkC e1 z1 o1 => ?_)
  have := kk p e s m args below meth c ls H1 locs E (R.push (cE := .inr (ci, [])) hs o1 ⟨_, hcl, ⟨_, e1, rfl, rfl, fun j hj => absurd hj (Nat.not_lt_zero j)⟩⟩) (hS.push z1 o1) hL (by rw [List.length_append, hn]; rfl) (fun h => by cases h)
  rw [x_pcS _ _ _ hc] at this
  rw [List.map_cons, x_rv, x_ad_len R.2.2.2 hs] at this
  exact this
/-- the kinds of arrays that are made -/
def x_ka (t : ArrayType) : Nat := match t with
  | .int => 0
  | .byte => 1
  | .long => 2
  | _ => 3
def x_a0 (t : ArrayType) (n : Nat) : vp_A := match t with
  | .long => (n, .inr (.inl (fun _ => 0)))
  | _ => (n, .inl (fun _ => 0))
theorem xs_newa {t : ArrayType} (hc : μ.2.2.2.2.2[k]? = some (.newarray t)) (ht : t = .int ∨ t = .byte ∨ t = .long ∨ t = .boolean) (hw : Cond.arrayClass (newarray.typeOf t) ∈ x_tw) {n : Nat} (hna : a = nI n) (hn31 : n < 2 ^ 26) (hu : uc + 1 ≤ mc) (hu2 : us + n ≤ ms)
    (kk : xW l x d mc ms μ n0 Q false (k + 1) L (.ref H.length :: S) (H ++ [.inl (x_ka t, x_a0 t n)]) (uc + 1) (us + n)) : xW l x d mc ms μ n0 Q cl k L (.int a :: S) H uc us := by
  intro p e s m args below meth c ls Hh locs E R hS hL hn hcn
  subst hna
  refine xW_size (fun hsz => ?_)
  have hs := E.size R hS hn hsz
  have hcl : (nI n).toNatClampNeg = n := nI_clamp (by omega)
  refine va_newaK E.1 E.2.1 (E.2.2.2.2.2.1 _ hw) rfl (E.dec hc) rfl (nI_pos (by omega)) hcl (by rcases ht with rfl | rfl | rfl | rfl <;> simp [componentBytes, newarray.typeOf] <;> omega) hu hu2 rfl (fun H1 cA e1 z1 o1 hAr hNm => ?_)
  have hK := E.2.2.2.2.2.2.2.2.2.1.1.2
  have hcA : cA = x.2.2.2.2.1 (x_ka t) := by
    rcases ht with rfl | rfl | rfl | rfl
    · exact Option.some.inj (hNm.symm.trans (hK 0 _ rfl).2)
    · exact Option.some.inj (hNm.symm.trans (hK 1 _ rfl).2)
    · exact Option.some.inj (hNm.symm.trans (hK 2 _ rfl).2)
    · exact Option.some.inj (hNm.symm.trans (hK 3 _ rfl).2)
  have hat : va_at x.2.2.2.1 x_cl (Hh.size, x_mE x (.inl (x_ka t, x_a0 t n))) H1 := by
    show H1[Hh.size]? = some (vp_cell (x.2.2.2.2.1 (x_ka t)) (x_a0 t n))
    rw [e1, hcA]
    rcases ht with rfl | rfl | rfl | rfl <;> rfl
  have := kk p e s m args below meth c ls H1 locs E (R.push hs o1 hat) (hS.push z1 o1) hL (by rw [List.length_append, hn]; rfl) (fun h => by cases h)
  rw [x_pcS _ _ _ hc] at this
  rw [List.map_cons, x_rv, x_ad_len R.2.2.2 hs] at this
  exact this
/-- Object's constructor: nothing -/
theorem xs_obj {idx r : Nat} (hc : μ.2.2.2.2.2[k]? = some (.invokespecial idx)) (h1 : Cond.methodLink (x_cn μ.2.2.2.2.1) idx Lib.objectInit ∈ x_tw) (h2 : Cond.instanceMethod Lib.objectInit ∈ x_tw) (h3 : Cond.code Lib.objectInit ⟨#[0xb1]⟩ 1 none ∈ x_tw) (hd : 1 ≤ d) (hroom : (S.map (fun v => v.category)).sum ≤ 8)
    (kk : xW l x d mc ms μ n0 Q cl (k + 1) L S H uc us) : xW l x d mc ms μ n0 Q cl k L (.ref r :: S) H uc us := by
  refine xW.go (fun p e s m args below meth c ls Hh locs Qw E R hS hL w => ?_) kk
  have hw := w ls hL
  rw [x_pcS _ _ _ hc] at hw
  refine W.objInit E.1 E.2.1 E.2.2.2.2.1 (E.2.2.2.2.2.1 _ h1) (E.2.2.2.2.2.1 _ h2) (E.2.2.2.2.2.1 _ h3) rfl (by rw [E.2.2.2.1]; exact hL.2.1) rfl (E.dec hc) hd ?_ hw
  have hsum : ((S.map (x_rv x)).map (fun v => v.category)).sum = (S.map (fun v => v.category)).sum := by rw [List.map_map]; congr 1; exact List.map_congr_left (fun v _ => x_rv_cat x v)
  have hm : (F0 m (x_pc μ.2.2.2.2.2 k) ls ((.ref r :: S).map (x_rv x))).monitorRoom = 0 := rfl
  rw [hm, hsum]
  show 2 * 0 + _ + 12 ≤ 48 * d
  omega
end XRet
