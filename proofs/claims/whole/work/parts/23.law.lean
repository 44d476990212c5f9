section XLaw
variable {l : Launch} {x : xX} {d mc ms : Nat} {μ μ' : xM} {n0 : Nat} {Q : xO → xH → Prop} {cl : Bool} {k : Nat} {L : xL} {S st As : List Value} {H : xH} {uc us : Nat} {a : Int32}
theorem xs_tswIn {dflt lo hi off : Int} {offs : Array Int} {k' : Nat} (hc : μ.2.2.2.2.2[k]? = some (.tableswitch dflt lo hi offs)) (h1 : ¬ a.toInt < lo) (h2 : ¬ hi < a.toInt) (ho : offs[(a.toInt - lo).toNat]? = some off) (ht : (x_pc μ.2.2.2.2.2 k : Int) + off = (x_pc μ.2.2.2.2.2 k' : Int)) (kk : xW l x d mc ms μ n0 Q cl k' L S H uc us) : xW l x d mc ms μ n0 Q cl k L (.int a :: S) H uc us :=
  fun p e s m args below meth c ls Hh locs E R hS hL hn hcl => lv_tableIn E.1 E.2.1 (E.dec hc) h1 h2 ho ht (kk p e s m args below meth c ls Hh locs E R hS hL hn hcl)
theorem xs_tswOut {dflt lo hi : Int} {offs : Array Int} {k' : Nat} (hc : μ.2.2.2.2.2[k]? = some (.tableswitch dflt lo hi offs)) (h1 : a.toInt < lo ∨ hi < a.toInt) (ht : (x_pc μ.2.2.2.2.2 k : Int) + dflt = (x_pc μ.2.2.2.2.2 k' : Int)) (kk : xW l x d mc ms μ n0 Q cl k' L S H uc us) : xW l x d mc ms μ n0 Q cl k L (.int a :: S) H uc us :=
  fun p e s m args below meth c ls Hh locs E R hS hL hn hcl => lv_tableOut E.1 E.2.1 (E.dec hc) h1 ht (kk p e s m args below meth c ls Hh locs E R hS hL hn hcl)
/-- System.arraycopy of ints (t = 0) or bytes (t = 1) -/
def x_LA (own idx : Nat) : Prop := Cond.methodLink (x_cn own) idx arraycopyName ∈ x_tw ∧ Cond.native arraycopyName ∈ x_tw ∧ Cond.static arraycopyName ∈ x_tw ∧ Cond.initialized "java/lang/System" ∈ x_tw
theorem xs_copy {idx t r0 r1 m0 m1 : Nat} {f g : Nat → Int32} {sp dp nn : Int32} (hc : μ.2.2.2.2.2[k]? = some (.invokestatic idx)) (hl : x_LA μ.2.2.2.2.1 idx) (ht : t = 0 ∨ t = 1) (h0 : H[r0]? = some (.inl (t, m0, .inl f))) (h1 : H[r1]? = some (.inl (t, m1, .inl g))) (h02 : 2 ≤ r0) (h12 : 2 ≤ r1)
    (p1 : ¬ sp < 0) (p2 : ¬ dp < 0) (p3 : ¬ nn < 0) (p4 : sp.toNatClampNeg + nn.toNatClampNeg ≤ m0) (p5 : dp.toNatClampNeg + nn.toNatClampNeg ≤ m1) (hfit : ∀ i, i < nn.toNatClampNeg → fits (x_at t) (.int (f (sp.toNatClampNeg + i))) = true) (hd : 2 ≤ d) (hroom : (S.map (fun v => v.category)).sum ≤ 8)
    (kk : xW l x d mc ms μ n0 Q false (k + 1) L S (H.set r1 (.inl (t, m1, .inl (va_cpy f g sp.toNatClampNeg dp.toNatClampNeg nn.toNatClampNeg)))) uc us) : xW l x d mc ms μ n0 Q cl k L (.int nn :: .int dp :: .ref r1 :: .int sp :: .ref r0 :: S) H uc us := by
  intro p e s m args below meth c ls Hh locs E R hS hL hn hcl
  obtain ⟨w1, w2, w3, w4⟩ := hl
  have hts := E.2.2.2.2.2.1
  have htys : (x_tysL x)[t]? = some (x.2.2.2.2.1 t, x_at t) := by rcases ht with rfl | rfl <;> rfl
  refine va_copyi (A := xA x) (ty := x_at t) E.1 E.2.1 (by rw [E.2.2.2.1, hL.2.1]) E.2.2.2.2.1 (hts _ w1) (hts _ w2) (hts _ w3) (hts _ w4) E.2.2.2.2.2.2.2.2.2.1.1 R.1 x_wsD hS (r0 - 2) (r1 - 2) t t (xR.at (x := x) (Hh := Hh) h0 h02) (xR.at (x := x) (Hh := Hh) h1 h12) htys htys (by rcases ht with rfl | rfl <;> rfl) p1 p2 p3 p4 p5 hfit (Nat.le_trans (by decide) hd) ?_ (E.dec hc) (fun H1 locs1 hP hD hS1 => ?_)
  · rw [x_catS]
    have hnw : nativeFrameWords "java/lang/System" "arraycopy" 5 + 11 ≤ 80 := by decide
    show _ ≤ 48 * d
    omega
  · have := kk p e s m args below meth c ls H1 locs1 E (R.set h12 hP) hS1 hL (by rw [List.length_set]; exact hn) (fun h => by cases h)
    rw [x_pcS _ _ _ hc] at this
    exact this
/-- the contract of one of the law's own small methods, which have handlers -/
def xCtW (l : Launch) (x : xX) (d mc ms : Nat) (μ : xM) (A : List Value) (H : xH) (Q : Option Value → xH → Prop) : Prop :=
  MetFree l μ.1 (headSpec (Cond.codeWith μ.1 μ.2.1 μ.2.2.1 μ.2.2.2.1 (x_hd μ.1) :: x_tw) (xrm d mc ms)) (xPc x A H) (fun _ _ _ _ _ => True) (fun _ st o t => xEnd x H.length mc ms (fun r H' => ∃ v, r = .inl v ∧ Q v H') st o t)
theorem xCtW.of {A : List Value} {Qr : Option Value → xH → Prop} (hy : plainName μ.1.cls = true) (ho : x_cn μ.2.2.2.2.1 = μ.1.cls) (hck : x_ck μ.2.1 0 μ.2.2.2.2.2 = true) (hl : (x_la A).length ≤ μ.2.2.1)
    (h : xW l x d mc ms μ H.length (fun r H' => ∃ v, r = .inl v ∧ Qr v H') true 0 (x_L0 A μ.2.2.1) [] H 0 0) : xCtW l x d mc ms μ A H Qr := by
  refine MetFree.of_bodyS (code := μ.2.1) (maxLocals := μ.2.2.1) (ret := μ.2.2.2.1) hy ?_ ?_
  · intro args s m hp hn
    obtain ⟨m', meth, c, h0, h1, h2, h3, h4, -, h5, h6, -⟩ := Cond.codeWith_spec (atoms_spec (ws := Cond.codeWith μ.1 μ.2.1 μ.2.2.1 μ.2.2.2.1 (x_hd μ.1) :: x_tw) hp _ List.mem_cons_self)
    cases hn.symm.trans h0
    exact ⟨meth, c, h1, h2, h3, h4, h5, h6⟩
  · intro p e s m args below meth c s₁ B hml hP _
    obtain ⟨rfl, hR, hsz, hK⟩ := hP
    have hh0 : s₁.heap = s.heap := by rw [B.state]; rfl
    have hts := atoms_spec (ws := Cond.codeWith μ.1 μ.2.1 μ.2.2.1 μ.2.2.2.1 (x_hd μ.1) :: x_tw) B.pre
    have hex : c.exceptionTable.toList.map (fun h => (h.startPc, h.endPc, h.handlerPc, h.catchType)) = x_hd μ.1 := by
      obtain ⟨m', meth', c', h0, h1, h2, -, -, h7, -, -, -⟩ := Cond.codeWith_spec (hts _ List.mem_cons_self)
      cases B.named.symm.trans h0
      cases B.method.symm.trans h1
      cases (Stand.of_body B).code.symm.trans h2
      exact h7
    have hE : xE x μ H.length p s m _ meth c := ⟨B.exec, B.bytes, B.returns, hml, by rw [ho]; exact findClass_of_methodNamed B.named, fun w hw => hts w (List.mem_cons_of_mem _ hw), B.notSynchronized, (name_of_methodNamed B.named B.method).1, hsz, hK, hex, hck⟩
    have w := h p e s m _ below meth c _ s.heap [] hE hR va_S.rf (xLv.entry hl) rfl (fun _ => ⟨rfl, rfl⟩)
    rw [show x_pc μ.2.2.2.2.2 0 = 0 by cases μ.2.2.2.2.2 <;> rfl] at w
    have w2 : W p l e (xrm d mc ms) s m ((A.map (x_rv x)).toArray) below meth c s.heap [] 0 0 (xMQ x H.length mc ms (fun r H' => ∃ v, r = .inl v ∧ Qr v H') below s) (entryFrame m (A.map (x_rv x)).toArray μ.2.2.1) := by rw [lg_entry_eq]; exact w
    obtain ⟨t, a1, o, b1, b2, b3⟩ := w2 s₁ hh0 (Stand.of_body B)
    exact ⟨t, o, a1, b1, b2, b3⟩
def x_LSW (own idx : Nat) (μ' : xM) (n : Nat) : Prop := Cond.methodLink (x_cn own) idx μ'.1 ∈ x_tw ∧ Cond.static μ'.1 ∈ x_tw ∧ Cond.initialized μ'.1.cls ∈ x_tw ∧ Cond.codeWith μ'.1 μ'.2.1 μ'.2.2.1 μ'.2.2.2.1 (x_hd μ'.1) ∈ x_tw ∧ (μ'.1.cls ≠ "java/lang/invoke/MethodHandle" ∧ μ'.1.cls ≠ "java/lang/invoke/VarHandle" ∧ (parseMethodDescriptor μ'.1.desc).map (fun d => d.parameters.length) = some n) ∧ μ'.2.2.1 ≤ 29
set_option maxHeartbeats 1000000 in
theorem xs_callSW {idx n d' mc' ms' : Nat} {Qr : Option Value → xH → Prop} (hc : μ.2.2.2.2.2[k]? = some (.invokestatic idx)) (hl : x_LSW μ.2.2.2.2.1 idx μ' n) (ct : xCtW l x d' mc' ms' μ' As H Qr) (hd : d' + 1 ≤ d) (hst : st = As.reverse ++ S) (hn : As.length = n) (hroom : (S.map (fun v => v.category)).sum ≤ 8) (hu : uc + mc' ≤ mc) (hu2 : us + ms' ≤ ms)
    (kk : ∀ v H', Qr v H' → xW l x d mc ms μ n0 Q false (k + 1) L (v.toList ++ S) H' (uc + mc') (us + ms')) : xW l x d mc ms μ n0 Q cl k L st H uc us := by
  intro p e s m args below meth c ls Hh locs E R hS hL hn1 hcn
  refine xW_size (fun hsz => ?_)
  have hs := E.size R hS hn1 hsz
  obtain ⟨l1, l2, l3, l4, ⟨y1, y2, y3⟩, l5⟩ := hl
  have hts := E.2.2.2.2.2.1
  intro T0 hT X
  obtain ⟨mk, methM, cM, hnamed, hmethM, hcodeM, -, hlocM, -, -, -, hsigM⟩ := Cond.codeWith_spec (hts _ l4)
  have hstatic : methM.isStatic = true := Cond.static_spec hnamed hmethM (hts _ l2)
  obtain ⟨kP, hkP, -⟩ := className_of_methodNamed hnamed
  have hinitP : kP.init = .initialized := Cond.initialized_spec (findClass_of_methodNamed hnamed) hkP (hts _ l3)
  have hstk : st.map (x_rv x) = (As.map (x_rv x)).reverse ++ S.map (x_rv x) := by rw [hst, List.map_append, List.map_reverse]
  have hlen : (As.map (x_rv x)).length = methM.sig.parameters.length := by
    rw [List.length_map, hn]
    rw [hsigM] at y3
    exact (Option.some.inj y3).symm
  obtain ⟨vm₁, X₁, hstep₁⟩ := X.invokestatic E.1 E.2.2.2.2.1 (hts _ l1) hnamed hmethM hstatic hkP hinitP ⟨y1, y2⟩ (g := F0 m (x_pc μ.2.2.2.2.2 k) ls (st.map (x_rv x))) rfl (argsL := As.map (x_rv x)) (rest := S.map (x_rv x)) hlen hstk (by rw [E.2.1]; exact E.dec hc)
  have hsum : 2 * (F0 m (x_pc μ.2.2.2.2.2 k) ls (S.map (x_rv x))).monitorRoom + ((F0 m (x_pc μ.2.2.2.2.2 k) ls (S.map (x_rv x))).stack.map fun v => v.category).sum ≤ 8 := lv_room (pc := 0) (ls := ls) (rest := []) (m := m) (by rw [x_catS]; exact hroom)
  obtain ⟨o, s₂, hsteps, hend, r0, H', ho, ⟨v, e0, hqt⟩, hR, hl2, hF, Lc, hW, hsame, hLc⟩ := x_callAny X₁ (g := F0 m (x_pc μ.2.2.2.2.2 k) ls (S.map (x_rv x))) rfl (by rw [E.2.2.2.1]; exact hL.2.1) (ig := .invokestatic idx) (len := 3) (by rw [E.2.1]; exact E.dec hc) (X₁.named hnamed) (methY := methM) (cY := cM)
    (by have := X₁.warmed.alike.method? mk; exact this.trans hmethM) hcodeM (a0 := args) (a := (As.map (x_rv x)).toArray) (x_gw.warm (a := args) rfl X₁.warmed (hts _ l3)) ct
    (atoms_intro (fun w hw => by
      rcases List.mem_cons.mp hw with rfl | hw
      · exact x_gw.warm (a := args) rfl X₁.warmed (hts _ l4)
      · exact x_gw.warm (a := args) (List.mem_filter.mp hw).2 X₁.warmed (hts _ hw))) hd (by rw [hlocM]; show _ + _ + (μ'.2.2.1 + 11) + 48 * d' ≤ 48 * d; omega) hu hu2 (xPc.blind _ _ _ _ (xPc.pre (A := As) E R hS hs (T0.setVm vm₁) hT X₁.warmed))
  subst e0
  subst ho
  obtain ⟨T', X', hWT, hsT, e3⟩ := X₁.outOf (g := F0 m (x_pc μ.2.2.2.2.2 k) ls (S.map (x_rv x))) rfl (ig := .invokestatic idx) (len := 3) (by rw [E.2.1]; exact E.dec hc) hend hW hsame
  have hT' : T'.heap = s₂.heap := by rw [e3]; rfl
  have hS' : va_S (xA x) s.heap s₂.heap (locs ++ Lc) := by
    have hF1 : Hh.size ≤ s₂.heap.size := by have := hF.1; rw [← hT]; exact this
    refine ⟨Nat.le_trans hS.1 hF1, fun q h1 h2 => ?_, fun q hq => ?_⟩
    · have h3 : s₂.heap[q]? = Hh[q]? := by
        have := hF.2 q (by show q < T0.heap.size; rw [hT]; exact Nat.lt_of_lt_of_le h1 hS.1) h2
        rw [← hT]; exact this
      rw [h3]
      exact hS.2.1 q h1 h2
    · rcases List.mem_append.mp hq with h | h
      · exact hS.2.2 q h
      · exact hLc q h
  have w := kk v H' hqt p e s m args below meth c ls s₂.heap (locs ++ Lc) E hR hS' hL (by rw [hl2, hn1]; omega) (fun h => by cases h)
  rw [x_pcS _ _ _ hc, List.map_append, show (v.toList).map (x_rv x) = (v.map (x_rv x)).toList by cases v <;> rfl] at w
  obtain ⟨t2, a1, b1⟩ := w T' hT' X'
  refine ⟨t2, hstep₁ t2 (fun acts => ?_), b1⟩
  rw [doInvoke_state]
  refine hsteps.trans ?_
  rw [e3]
  exact a1
end XLaw
