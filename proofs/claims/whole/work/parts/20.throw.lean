/-- the words of a throw: in the tables, or of the two statics -/
def x_TA (own ic : Nat) (C : String) : Prop := ∀ a ∈ Bundle.ownAtoms0 (x_cn own) ic C ["java/lang/RuntimeException", "java/lang/Exception"], a ∈ x_tw ∨ a = .isRef (.static Bundle.tN "UNASSIGNED_STACK" Bundle.steD) ∨ a = .isRef (.static Bundle.tN "SUPPRESSED_SENTINEL" Bundle.listD) ∨ a = .laysStatic Bundle.tN "UNASSIGNED_STACK" Bundle.steD ∨ a = .laysStatic Bundle.tN "SUPPRESSED_SENTINEL" Bundle.listD
set_option maxRecDepth 100000 in
theorem ta_IS : x_TA 0 59 "java/lang/IllegalStateException" := by unfold x_TA; decide +kernel
set_option maxRecDepth 100000 in
theorem ta_IA : x_TA 0 65 "java/lang/IllegalArgumentException" := by unfold x_TA; decide +kernel
set_option maxRecDepth 100000 in
theorem ta_IO : x_TA 0 72 "java/lang/IndexOutOfBoundsException" := by unfold x_TA; decide +kernel
section XThrow
variable {l : Launch} {x : xX} {d mc ms : Nat} {μ μ' : xM} {n0 : Nat} {Q : xO → xH → Prop} {cl : Bool} {k : Nat} {L : xL} {S st As : List Value} {H : xH} {uc us : Nat}
theorem x_same0 {s U : State} {k n : Nat} (h : s.sameButNew ({ U with vm := s.vm } : State) [] k n) : ∀ q, q < s.heap.size → U.heap[q]? = s.heap[q]? := by
  intro q hq
  obtain ⟨c', h1, h2, h3, h4⟩ := h.2.2.2.2.2 q s.heap[q] (Array.getElem?_eq_getElem hq)
  have hs : c'.slots = (s.heap[q]).slots := by
    apply Array.ext_getElem?
    intro i
    exact h4 i (by simp)
  have h1' : U.heap[q]? = some c' := h1
  rw [h1', h2, hs, Array.getElem?_eq_getElem hq]
set_option maxHeartbeats 1000000 in
theorem xs_throw (hf : l.flags = flags0) {idx ic ci : Nat} {C : String} {T : u_T} (hc0 : μ.2.2.2.2.2[k]? = some (.new idx)) (hc1 : μ.2.2.2.2.2[k + 1]? = some .dup) (hc2 : μ.2.2.2.2.2[k + 2]? = some (.invokespecial ic)) (hc3 : μ.2.2.2.2.2[k + 3]? = some .athrow)
    (hN : x_NC μ.2.2.2.2.1 idx ci 6) (hcl : x_cl[ci]? = some (C, T, 0)) (hC : x_cn ci = C) (hTA : x_TA μ.2.2.2.2.1 ic C) (hfit : Bundle.fit C = true) (hd : 6 ≤ d) (hroom : (S.map (fun v => v.category)).sum ≤ 8) (hhd : x_hd μ.1 = [])
    (hq : Q (.inr H.length) (H ++ [.inr (ci, [])])) : xW l x d 1 6 μ n0 Q true k L S H 0 0 := by
  intro p e s m args below meth c ls Hh locs E R hS hL hn hcn
  obtain ⟨rfl, rfl⟩ := hcn rfl
  have hsz : s.heap.size + 2 = x.1 + H.length := by have := E.2.2.2.2.2.2.2.2.1; omega
  obtain ⟨h1, h2, h3⟩ := hN
  have hK := E.2.2.2.2.2.2.2.2.2.1
  have hKn := hK.1.1 ci _ hcl
  rw [hC] at h1 h2 h3
  have p1 := x_pcS _ _ _ hc0
  have p2 := x_pcS _ _ _ hc1
  have p3 := x_pcS _ _ _ hc2
  have d1 := E.dec hc1
  have d2 := E.dec hc2
  have d3 := E.dec hc3
  rw [p1] at d1
  rw [p2, p1] at d2
  rw [p3, p2, p1] at d3
  refine W.newcK E.1 E.2.1 E.2.2.2.2.1 (E.2.2.2.2.2.1 _ h1) (E.2.2.2.2.2.1 _ h2) (E.2.2.2.2.2.1 _ h3) rfl (E.dec hc0) (Nat.le_refl _) (Nat.le_refl _) hKn.2.1 rfl (fun H1 kC hkC e1 z1 o1 => ?_)
  refine lv_dup E.1 E.2.1 d1 rfl ?_
  intro T hT X
  have hat : ∀ a ∈ Bundle.ownAtoms0 (x_cn μ.2.2.2.2.1) ic C ["java/lang/RuntimeException", "java/lang/Exception"], a.before args s = true := by
    intro a ha
    rcases hTA a ha with h | rfl | rfl | rfl | rfl
    · exact E.2.2.2.2.2.1 _ h
    · exact hK.2.2.2.2.2.2.2.1.isRef
    · exact hK.2.2.2.2.2.2.2.2.1.isRef
    · exact hK.2.2.2.2.2.2.2.1.lays
    · exact hK.2.2.2.2.2.2.2.2.1.lays
  have hnoh : c.exceptionTable.toList = [] := by
    have := E.2.2.2.2.2.2.2.2.2.2.1
    rw [hhd] at this
    exact List.map_eq_nil_iff.mp this
  obtain ⟨U, hst, hrun, hend, hW, hsame, ce, hce, hown⟩ := X.ctorThrow0 (own := x_cn μ.2.2.2.2.1) (cls := C) (names := ["java/lang/RuntimeException", "java/lang/Exception"]) (ic := ic) E.1 (Launch.traces_off hf X.admits) E.2.2.2.2.1 hfit (by decide) hat (fun y hy => by cases hy) hKn.2.1 hkC (a := s.heap.size) (by rw [hT]; exact e1) (Nat.le_refl _)
    (g := F0 m (x_pc μ.2.2.2.2.2 k + 3 + 1) ls (.ref s.heap.size :: .ref s.heap.size :: S.map (x_rv x))) rfl (by rw [E.2.2.2.1]; exact hL.2.1) rfl rfl (rest := S.map (x_rv x)) rfl (by rw [E.2.1]; exact d2) (by rw [E.2.1]; exact d3) (by rw [hnoh]; intro y hy; cases hy) (by show 2 + 3 < d; omega)
    (by
      have hsum : ((Value.ref s.heap.size :: S.map (x_rv x)).map (fun v => v.category)).sum = 1 + (S.map (fun v => v.category)).sum := by rw [List.map_cons, List.sum_cons, x_catS]; rfl
      rw [hsum]
      show 2 * 0 + (1 + _) + (13 * (2 + 1) + 41) ≤ 48 * d
      omega) (hlocks := E.2.2.2.2.2.2.1)
  have ho := x_same0 hsame
  have hce' : ce.cls = x.2.2.2.1.1 ci := Option.some.inj (hown.cls.symm.trans hKn.2.1)
  refine ⟨U, hst, .threw s.heap.size, hrun, hend, .inr H.length, H ++ [.inr (ci, [])], ?_, hq, R.push (cE := .inr (ci, [])) hsz ho ⟨_, hcl, ce, hce, hce', hown.vm, fun j hj => absurd hj (Nat.not_lt_zero j)⟩, by rw [List.length_append, hn]; rfl, ⟨hsame.2.1, fun q h1 _ => ho q h1⟩, [], hW, hsame, fun q hq => by cases hq⟩
  rw [x_out, x_ad_len R.2.2.2 hsz]
end XThrow
