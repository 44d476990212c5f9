section XMore
variable {p : Program} {l : Launch} {e : Env} {R : Room} {s : State} {m : MethodId} {args : Array Value} {below : List Frame} {meth : Method} {c : Code} {U : State} {locs : List Loc} {cells slots : Nat}
/-- a call of a method that has a contract: it comes to its end, however -/
theorem x_callAny (X : Stand p l e R s m args below meth c U locs cells slots) {g : JFrame} (hg : g.method = m) (hsize : g.locals.size = c.maxLocals) {ig : Instr} {len : Nat} (hdg : decode c.code g.pc = .ok (ig, len)) {y : MethodName} {mk : MethodId} {methY : Method} {cY : Code} (hn : U.methodNamed? y = some mk) (hmY : U.vm.method? mk = some methY) (hcY : methY.code = some cY) {a0 a : Array Value} (hini : (Cond.initialized y.cls).before a0 U = true)
    {S : Spec} {P : Array Value → State → Prop} {Q : Array Value → State → Outcome → State → Prop} (hM : MetFree l y S P (fun _ _ _ _ _ => True) Q) (hpre : S.pre.before a U = true) (hframes : S.room.frames + 1 ≤ R.frames) (hlocals : 2 * g.monitorRoom + (g.stack.map fun v => v.category).sum + (cY.maxLocals + 11) + S.room.locals ≤ R.locals) (hcells : cells + S.room.cells ≤ R.cells) (hslots : slots + S.room.slots ≤ R.slots) (hP : P a (U.calling g mk a)) :
    ∃ o s₂, Steps p.tables e below (doInvoke e (U.setTop g) [] mk a).1 s₂ ∧ Ended s₂ (.java g :: below) o ∧ Q a (U.calling g mk a) o s₂ := by
  obtain ⟨kY, hkY, -⟩ := className_of_methodNamed hn
  have hinitY : kY.init = .initialized := Cond.initialized_spec (findClass_of_methodNamed hn) hkY hini
  have h : At U g.method c below := by rw [hg]; exact X.here
  have happ := Spec.appliesLoose_calling (g := g) (S := S) h hdg hn hkY hinitY (X.room_calling (g := g) (R' := S.room) (args' := a) hsize hmY hcY hframes hlocals hcells hslots) hpre
  obtain ⟨mid, hmid⟩ := h.above
  have hfr : (U.setTop g).frames = (.java g :: mid) ++ below := by rw [State.frames_setTop' g h.top, hmid]; rfl
  obtain ⟨o, s₂, hsteps, -, hend, hq⟩ := Steps.callFree hM p X.admits X.cas X.clock (acts := []) hfr happ hP trivial
  rw [State.frames_setTop' g h.top, X.tail] at hend
  exact ⟨o, s₂, hsteps, hend, hq⟩
end XMore
section XThrown
variable {l : Launch} {x : xX} {d mc ms : Nat} {μ μ' : xM} {n0 : Nat} {Q : xO → xH → Prop} {cl : Bool} {k : Nat} {L : xL} {S st As : List Value} {H : xH} {uc us : Nat} {idx n r ci d' mc' ms' : Nat} {fs : List Value} {Qt : Nat → xH → Prop}
/-- the handler that takes an exception of the class ei, thrown by the k-th instruction: the first (j = 0) or the second (j = 1); kh: where it begins -/
def x_HD (μ : xM) (k ei kh : Nat) (j : Nat) : Prop := match j with
  | 0 => ∃ (a b h ct : Nat) (t : List (Nat × Nat × Nat × Nat)), x_hd μ.1 = (a, b, h, ct) :: t ∧ a ≤ x_pc μ.2.2.2.2.2 k ∧ x_pc μ.2.2.2.2.2 k < b ∧ ct ≠ 0 ∧ h = x_pc μ.2.2.2.2.2 kh ∧ Cond.classLink (x_cn μ.2.2.2.2.1) ct (x_cn ei) ∈ x_tw ∧ Cond.castable (x_cn ei) (x_cn ei) ∈ x_tw
  | _ => ∃ (a1 b1 h1 ct1 a b h ct e1 : Nat) (t : List (Nat × Nat × Nat × Nat)), x_hd μ.1 = (a1, b1, h1, ct1) :: (a, b, h, ct) :: t ∧ (a1 ≤ x_pc μ.2.2.2.2.2 k ∧ x_pc μ.2.2.2.2.2 k < b1) ∧ (a ≤ x_pc μ.2.2.2.2.2 k ∧ x_pc μ.2.2.2.2.2 k < b) ∧ ct1 ≠ 0 ∧ ct ≠ 0 ∧ h = x_pc μ.2.2.2.2.2 kh ∧ Cond.classLink (x_cn μ.2.2.2.2.1) ct1 (x_cn e1) ∈ x_tw ∧ Cond.classLink (x_cn μ.2.2.2.2.1) ct (x_cn ei) ∈ x_tw ∧ Cond.castable (x_cn ei) (x_cn ei) ∈ x_tw ∧ ((ei = 13 ∧ e1 = 14) ∨ (ei = 14 ∧ e1 = 15))
theorem x_two {α : Type} {f : ExceptionTableEntry → α} {L0 : List ExceptionTableEntry} {y : α} {t : List α} (h : L0.map f = y :: t) : ∃ z t', L0 = z :: t' ∧ f z = y ∧ t'.map f = t := by
  cases L0 with
  | nil => cases h
  | cons z t' =>
    rw [List.map_cons] at h
    injection h with h1 h2
    exact ⟨z, t', rfl, h1, h2⟩
set_option maxHeartbeats 1000000 in
theorem xs_callVT {C : String} {T : u_T} {N : Nat} {ei kh j : Nat} {Ce : String} {Te : u_T} (hc : μ.2.2.2.2.2[k]? = some (.invokevirtual idx)) (hl : x_LV μ.2.2.2.2.1 idx μ' n) (ct : xCt l x d' mc' ms' μ' (.ref r :: As) H (fun o H' => ∃ a, o = .inr a ∧ Qt a H')) (hd : d' + 1 ≤ d) (hh : H[r]? = some (.inr (ci, fs))) (hcl : x_cl[ci]? = some (C, T, N)) (hC : C = μ'.1.cls) (hst : st = As.reverse ++ .ref r :: S) (hn : As.length = n) (hroom : (S.map (fun v => v.category)).sum ≤ 8) (hu : uc + mc' ≤ mc) (hu2 : us + ms' ≤ ms)
    (hex : ∀ a H', Qt a H' → H'[a]? = some (.inr (ei, []))) (hecl : x_cl[ei]? = some (Ce, Te, 0)) (hCe : x_cn ei = Ce) (hhd : x_HD μ k ei kh j)
    (kk : ∀ a H', Qt a H' → xW l x d mc ms μ n0 Q false kh L [.ref a] H' (uc + mc') (us + ms')) : xW l x d mc ms μ n0 Q cl k L st H uc us := by
  intro p e s m args below meth c ls Hh locs E R hS hL hn1 hcn
  subst hC
  refine xW_size (fun hsz => ?_)
  have hs := E.size R hS hn1 hsz
  obtain ⟨l1, l2, l3, lb⟩ := hl
  have hts := E.2.2.2.2.2.1
  obtain ⟨cellB, hcB, hoB, hclB⟩ := va_recv E.2.2.2.2.2.2.2.2.2.1.1 R.1 hcl (xR.at (x := x) (Hh := Hh) hh (R.ge hh))
  intro T0 hT X
  obtain ⟨mk, methM, hnamed, hmethM, hstM, habM⟩ := Cond.instanceMethod_spec (hts _ l2)
  obtain ⟨methM', cM, hmethM', hcodeM, -, hlocM, -, -, -, hsigM⟩ := Cond.code_spec hnamed (hts _ lb.2.1)
  cases hmethM.symm.trans hmethM'
  have hy : μ'.1.cls ≠ "java/lang/invoke/MethodHandle" ∧ μ'.1.cls ≠ "java/lang/invoke/VarHandle" := ⟨lb.2.2.1.1, lb.2.2.1.2.1⟩
  obtain ⟨c2, r2, m2, q1, q2, q3, q4, kP, hkP, hkPi⟩ := Cond.selects_spec (hts _ l3)
  cases hclB.symm.trans q1
  cases (State.methodFound?_of_named hnamed hy).symm.trans q2
  cases hnamed.symm.trans q3
  have hselP : selectMethod e.platform s.vm cellB.cls mk = .method mk := by rw [Launch.admits_selectMethod X.admits]; exact q4
  have hstk : st.map (x_rv x) = (As.map (x_rv x)).reverse ++ .ref (x_ad x r) :: S.map (x_rv x) := by rw [hst, List.map_append, List.map_reverse]; rfl
  obtain ⟨vm₁, X₁, hstep₁⟩ := X.invokevirtual E.1 E.2.2.2.2.1 (hts _ l1) hnamed hmethM hstM hkP hkPi hy (a := x_ad x r) (cell := cellB) (by rw [hT]; exact hcB) (fun z h => by rw [h] at hoB; cases hoB) hselP hmethM habM hkP hkPi (g := F0 m (x_pc μ.2.2.2.2.2 k) ls (st.map (x_rv x))) rfl (argsL := As.map (x_rv x)) (rest := S.map (x_rv x)) (by rw [List.length_map, hn]; exact lb.pn (n1 := 0) _ hsigM) hstk (by rw [E.2.1]; exact E.dec hc)
  have hsum : 2 * (F0 m (x_pc μ.2.2.2.2.2 k) ls (S.map (x_rv x))).monitorRoom + ((F0 m (x_pc μ.2.2.2.2.2 k) ls (S.map (x_rv x))).stack.map fun v => v.category).sum ≤ 8 := lv_room (pc := 0) (ls := ls) (rest := []) (m := m) (by rw [x_catS]; exact hroom)
  obtain ⟨o, s₂, hsteps, hend, r0, H', ho, ⟨a, e0, hqt⟩, hR, hlen, hF, Lc, hW, hsame, hLc⟩ := x_callAny X₁ (g := F0 m (x_pc μ.2.2.2.2.2 k) ls (S.map (x_rv x))) rfl (by rw [E.2.2.2.1]; exact hL.2.1) (ig := .invokevirtual idx) (len := 3) (by rw [E.2.1]; exact E.dec hc) (X₁.named hnamed) (methY := methM) (cY := cM)
    (by have := X₁.warmed.alike.method? mk; exact this.trans hmethM) hcodeM (a0 := args) (a := (Value.ref (x_ad x r) :: As.map (x_rv x)).toArray) (x_gw.warm (a := args) rfl X₁.warmed (hts _ lb.1)) ct
    (atoms_intro (fun w hw => lb.ws E w hw _ _ X₁.warmed)) hd (by have := lb.2.2.2; rw [hlocM]; show _ + _ + (μ'.2.2.1 + 11) + 48 * d' ≤ 48 * d; omega) hu hu2 (xPc.blind _ _ _ _ (xPc.pre (A := .ref r :: As) E R hS hs (T0.setVm vm₁) hT X₁.warmed))
  subst e0
  subst ho
  obtain ⟨T', X', hWT, hsT, e3⟩ := X₁.outOfThrown (g := F0 m (x_pc μ.2.2.2.2.2 k) ls (S.map (x_rv x))) rfl hend hW hsame
  have hT' : T'.heap = s₂.heap := by rw [e3, throwing_heap]
  have hS' : va_S (xA x) s.heap s₂.heap (locs ++ Lc) := by
    have hF1 : Hh.size ≤ s₂.heap.size := by have := hF.1; rw [← hT]; exact this
    refine ⟨Nat.le_trans hS.1 hF1, fun q h1 h2 => ?_, fun q hq => ?_⟩
    · have h3 : s₂.heap[q]? = Hh[q]? := by
        have := hF.2 q (by show q < T0.heap.size; rw [hT]; exact Nat.lt_of_lt_of_le h1 hS.1) h2
        rw [← hT]; exact this
      rw [h3]
      exact hS.2.1 q h1 h2
    · rcases List.mem_append.mp hq with h | h
      · exact hS.2.2 q h
      · exact hLc q h
  have hcellE := hex a H' hqt
  obtain ⟨cellE, hcE, hoE, hclE⟩ : ∃ cell : Cell, s₂.heap[x_ad x a]? = some cell ∧ cell.vm = .none ∧ s.vm.findClass Ce = some cell.cls := by
    obtain ⟨q', h1, cell, g1, g2, g3, -⟩ := hR.1 (a - 2) _ (xR.at (x := x) (Hh := s₂.heap) hcellE (hR.ge hcellE))
    exact ⟨cell, g1, g3, by rw [g2]; exact (E.2.2.2.2.2.2.2.2.2.1.1.1 ei _ hecl).2.1⟩
  have hcatch : ∃ vm', Stand p l e (xrm d mc ms) s m args below meth c (T'.setVm vm') (locs ++ Lc) (uc + mc') (us + ms') ∧ ∀ target, Steps p.tables e below ((T'.setVm vm').setTop (F0 m (x_pc μ.2.2.2.2.2 kh) ls [.ref (x_ad x a)])) target → Steps p.tables e below ((T'.setTop (F0 m (x_pc μ.2.2.2.2.2 k) ls (S.map (x_rv x)))).pushFrame (.throwing (x_ad x a))) target := by
    have htab := E.2.2.2.2.2.2.2.2.2.2.1
    match j, hhd with
    | 0, hhd =>
      obtain ⟨ea, eb, eh, ect, et, y1, y2, y3, y4, y5, y6, y7⟩ := hhd
      rw [y1] at htab
      obtain ⟨z, t', z1, z2, z3⟩ := x_two htab
      injection z2 with w1 w2; injection w2 with w2 w3; injection w3 with w3 w4
      have := xCatch1 X' (g := F0 m (x_pc μ.2.2.2.2.2 k) ls (S.map (x_rv x))) rfl (own := x_cn μ.2.2.2.2.1) (C := Ce) E.2.2.2.2.1 z1 (by simp only [covers, w1, w2]; simp [y2, y3]) (by rw [w4]; exact y4) (by rw [w4, ← hCe]; exact hts _ y6) (by rw [← hCe]; exact hts _ y7) (a := x_ad x a) (cell := cellE) (by rw [hT']; exact hcE) hoE hclE
      rw [w3, y5] at this
      exact this
    | j + 1, hhd =>
      obtain ⟨a1, b1, h1, ct1, ea, eb, eh, ect, e1, et, y1, y2, y3, y4, y5, y6, y7, y8, y9, y10⟩ := hhd
      rw [y1] at htab
      obtain ⟨z, t', z1, z2, z3⟩ := x_two htab
      obtain ⟨z', t'', z1', z2', z3'⟩ := x_two z3
      injection z2 with w1 w2; injection w2 with w2 w3; injection w3 with w3 w4
      injection z2' with v1 v2; injection v2 with v2 v3; injection v3 with v3 v4
      have hnc : va_Nc (x_cn ei) (x_cn e1) s := by
        rcases y10 with ⟨rfl, rfl⟩ | ⟨rfl, rfl⟩
        · exact E.2.2.2.2.2.2.2.2.2.1.2.2.2.2.2.2.2.2.2.1
        · exact E.2.2.2.2.2.2.2.2.2.1.2.2.2.2.2.2.2.2.2.2
      have := xCatch2 X' (g := F0 m (x_pc μ.2.2.2.2.2 k) ls (S.map (x_rv x))) rfl (own := x_cn μ.2.2.2.2.1) (C := Ce) (C1 := x_cn e1) E.2.2.2.2.1 (by rw [z1, z1']) (by simp only [covers, w1, w2]; simp [y2.1, y2.2]) (by rw [w4]; exact y4) (by simp only [covers, v1, v2]; simp [y3.1, y3.2]) (by rw [v4]; exact y5) (by rw [w4]; exact hts _ y7) (by rw [← hCe]; exact hnc) (by rw [v4, ← hCe]; exact hts _ y8) (by rw [← hCe]; exact hts _ y9) (a := x_ad x a) (cell := cellE) (by rw [hT']; exact hcE) hoE hclE
      rw [v3, y6] at this
      exact this
  obtain ⟨vm', X'', hgo⟩ := hcatch
  have w := kk a H' hqt p e s m args below meth c ls s₂.heap (locs ++ Lc) E hR hS' hL (by rw [hlen, hn1]; omega) (fun h => by cases h)
  obtain ⟨t2, a1, b1⟩ := w (T'.setVm vm') hT' X''
  refine ⟨t2, hstep₁ t2 (fun acts => ?_), b1⟩
  rw [doInvoke_state]
  refine hsteps.trans ?_
  rw [e3]
  exact hgo t2 a1
end XThrown
