/-- what a call needs of the callee's own words -/
def x_LB (μ' : xM) (n : Nat) : Prop := Cond.initialized μ'.1.cls ∈ x_tw ∧ Cond.code μ'.1 μ'.2.1 μ'.2.2.1 μ'.2.2.2.1 ∈ x_tw ∧ (μ'.1.cls ≠ "java/lang/invoke/MethodHandle" ∧ μ'.1.cls ≠ "java/lang/invoke/VarHandle" ∧ (parseMethodDescriptor μ'.1.desc).map (fun d => d.parameters.length) = some n) ∧ μ'.2.2.1 ≤ 29
def x_LV (own idx : Nat) (μ' : xM) (n : Nat) : Prop := Cond.methodLink (x_cn own) idx μ'.1 ∈ x_tw ∧ Cond.instanceMethod μ'.1 ∈ x_tw ∧ Cond.selects μ'.1.cls μ'.1 μ'.1 ∈ x_tw ∧ x_LB μ' n
def x_LS (own idx : Nat) (μ' : xM) (n : Nat) : Prop := Cond.methodLink (x_cn own) idx μ'.1 ∈ x_tw ∧ Cond.static μ'.1 ∈ x_tw ∧ x_LB μ' n
def x_LSN (own idx : Nat) (μ' : xM) (n : Nat) : Prop := Cond.methodLinkNest (x_cn own) idx μ'.1 "RowPacker" ∈ x_tw ∧ Cond.static μ'.1 ∈ x_tw ∧ x_LB μ' n
def x_LI (own idx : Nat) (μ' : xM) (n : Nat) : Prop := Cond.methodLink (x_cn own) idx μ'.1 ∈ x_tw ∧ Cond.instanceMethod μ'.1 ∈ x_tw ∧ μ'.1.name = "<init>" ∧ μ'.2.2.2.1 = none ∧ x_LB μ' n
def x_LIN (own idx : Nat) (μ' : xM) (n : Nat) : Prop := Cond.methodLinkNest (x_cn own) idx μ'.1 "RowPacker" ∈ x_tw ∧ Cond.instanceMethod μ'.1 ∈ x_tw ∧ μ'.1.name = "<init>" ∧ μ'.2.2.2.1 = none ∧ x_LB μ' n
section XCall
variable {l : Launch} {x : xX} {d mc ms : Nat} {μ μ' : xM} {n0 : Nat} {Q : xO → xH → Prop} {cl : Bool} {k : Nat} {L : xL} {S st As : List Value} {H : xH} {uc us : Nat} {idx n r ci d' mc' ms' : Nat} {fs : List Value} {Qr : Option Value → xH → Prop}
theorem x_catS : ((S.map (x_rv x)).map (fun v => v.category)).sum = (S.map (fun v => v.category)).sum := by rw [List.map_map]; congr 1; exact List.map_congr_left (fun v _ => x_rv_cat x v)
theorem x_LB.ws {n1 : Nat} (hb : x_LB μ' n) {p : Program} {s : State} {m : MethodId} {args : Array Value} {meth : Method} {c : Code} (E : xE x μ n1 p s m args meth c) : ∀ w ∈ xws μ', ∀ (a' : Array Value) (U : State), s.WarmedH U.vm → w.before a' U = true := by
  intro w hw a' U hW
  rcases List.mem_cons.mp hw with rfl | hw
  · exact x_gw.warm (a := args) rfl hW (E.2.2.2.2.2.1 _ hb.2.1)
  · exact x_gw.warm (a := args) (List.mem_filter.mp hw).2 hW (E.2.2.2.2.2.1 _ hw)
theorem x_LB.pn {n1 : Nat} (hb : x_LB μ' n) : ∀ sig, parseMethodDescriptor μ'.1.desc = some sig → n = sig.parameters.length := by
  intro sig h
  have h2 := hb.2.2.1.2.2
  rw [h] at h2
  exact (Option.some.inj h2).symm
theorem xRun.go {p : Program} {e : Env} {s : State} {m : MethodId} {args : Array Value} {below : List Frame} {meth : Method} {c : Code} {ls : Array Slot} {Hh : Heap} {locs : List Loc} {a : Array Value} {st0 : List Value} {i : Instr}
    (hr : va_Run p l e (xrm d mc ms) s m args below meth c Hh locs uc us mc' ms' (F0 m (x_pc μ.2.2.2.2.2 k) ls st0) (S.map (x_rv x)) (xQc x H.length mc' Qr a) (xA x)) (E : xE x μ n0 p s m args meth c) (hS : va_S (xA x) s.heap Hh locs) (hL : xLv x μ.2.2.1 L ls) (hn : H.length = n0 + uc) (hc : μ.2.2.2.2.2[k]? = some i) (hi : x_len i = 3)
    (kk : ∀ v H', Qr v H' → xW l x d mc ms μ n0 Q false (k + 1) L (v.toList ++ S) H' (uc + mc') (us + ms')) : W p l e (xrm d mc ms) s m args below meth c Hh locs uc us (xMQ x n0 mc ms Q below s) (F0 m (x_pc μ.2.2.2.2.2 k) ls st0) := by
  intro T hT X
  obtain ⟨v, st₀, t, T', Lc, h0, X', hLc, e1, e2, ⟨v', H', ev, hq, hR, hl, hF⟩, hg⟩ := hr T hT X
  have ev' : v = v'.map (x_rv x) := by cases ev; rfl
  subst ev'
  have hS' : va_S (xA x) s.heap t.heap (locs ++ Lc) := by
    refine ⟨Nat.le_trans hS.1 (by rw [← h0]; exact hF.1), fun q h1 h2 => ?_, fun q hq => ?_⟩
    · rw [hF.2 q (by rw [h0]; exact Nat.lt_of_lt_of_le h1 hS.1) h2, h0]
      exact hS.2.1 q h1 h2
    · rcases List.mem_append.mp hq with h | h
      · exact hS.2.2 q h
      · exact hLc q h
  have w := kk v' H' hq p e s m args below meth c ls t.heap (locs ++ Lc) E hR hS' hL (by rw [hl, hn]; omega) (fun h => by cases h)
  rw [x_pcS _ _ _ hc, hi, List.map_append, show (v'.toList).map (x_rv x) = (v'.map (x_rv x)).toList by cases v' <;> rfl] at w
  obtain ⟨t2, a1, b1⟩ := w T' e1 X'
  exact ⟨t2, hg t2 a1, b1⟩
theorem xPc.pre {p : Program} {s : State} {m : MethodId} {args : Array Value} {meth : Method} {c : Code} {Hh : Heap} {locs : List Loc} {A : List Value} (E : xE x μ n0 p s m args meth c) (R : xR x H Hh) (hS : va_S (xA x) s.heap Hh locs) (hs : Hh.size + 2 = x.1 + H.length) : ∀ U : State, U.heap = Hh → s.WarmedH U.vm → xPc x A H (A.map (x_rv x)).toArray U := by
  intro U hU hW
  refine ⟨rfl, by rw [hU]; exact R, by rw [hU]; exact hs, ?_⟩
  exact E.2.2.2.2.2.2.2.2.2.1.to hW.alike (by rw [hU]; exact hS)
theorem xs_callV {C : String} {T : u_T} {N : Nat} (hc : μ.2.2.2.2.2[k]? = some (.invokevirtual idx)) (hl : x_LV μ.2.2.2.2.1 idx μ' n) (ct : xCr l x d' mc' ms' μ' (.ref r :: As) H Qr) (hd : d' + 1 ≤ d) (hh : H[r]? = some (.inr (ci, fs))) (hcl : x_cl[ci]? = some (C, T, N)) (hC : C = μ'.1.cls) (hst : st = As.reverse ++ .ref r :: S) (hn : As.length = n) (hroom : (S.map (fun v => v.category)).sum ≤ 8) (hu : uc + mc' ≤ mc) (hu2 : us + ms' ≤ ms)
    (kk : ∀ v H', Qr v H' → xW l x d mc ms μ n0 Q false (k + 1) L (v.toList ++ S) H' (uc + mc') (us + ms')) : xW l x d mc ms μ n0 Q cl k L st H uc us := by
  intro p e s m args below meth c ls Hh locs E R hS hL hn1 hcn
  subst hC
  refine xW_size (fun hsz => ?_)
  have hs := E.size R hS hn1 hsz
  obtain ⟨l1, l2, l3, lb⟩ := hl
  have hts := E.2.2.2.2.2.1
  have hrec := va_recv E.2.2.2.2.2.2.2.2.2.1.1 R.1 hcl (xR.at (x := x) (Hh := Hh) hh (R.ge hh))
  refine xRun.go (i := .invokevirtual idx) (H := H) (va_runV (Ts := x_tw) (own := x_cn μ.2.2.2.2.1) (C := μ'.1.cls) (As := As.map (x_rv x)) (b := x_ad x r) (n := n) (cc := μ.2.1) (nL := μ.2.2.1) (index := idx) ⟨E.1, E.2.1, E.2.2.2.1, E.2.2.2.2.1, hts⟩ ct.met ⟨⟨rfl, rfl, hd, (by have := lb.2.2.2; show 8 + (μ'.2.2.1 + 11) + 48 * d' ≤ 48 * d; omega), lb.ws E, List.mem_cons_self, hts _ lb.2.1, hts _ lb.1, ⟨lb.2.2.1.1, lb.2.2.1.2.1⟩, lb.pn (n1 := 0), hts _ l1⟩, hts _ l2, hts _ l3⟩ ⟨xPc.blind, hrec, xPc.pre (A := .ref r :: As) E R hS hs⟩ rfl (by rw [List.length_map]; exact hn) hL.2.1 (by rw [hst, List.map_append, List.map_reverse]; rfl) (lv_room (by rw [x_catS]; exact hroom)) (E.dec hc) ⟨hu, hu2⟩) E hS hL hn1 hc rfl kk
theorem xs_callS (hc : μ.2.2.2.2.2[k]? = some (.invokestatic idx)) (hl : x_LS μ.2.2.2.2.1 idx μ' n) (ct : xCr l x d' mc' ms' μ' As H Qr) (hd : d' + 1 ≤ d) (hst : st = As.reverse ++ S) (hn : As.length = n) (hroom : (S.map (fun v => v.category)).sum ≤ 8) (hu : uc + mc' ≤ mc) (hu2 : us + ms' ≤ ms)
    (kk : ∀ v H', Qr v H' → xW l x d mc ms μ n0 Q false (k + 1) L (v.toList ++ S) H' (uc + mc') (us + ms')) : xW l x d mc ms μ n0 Q cl k L st H uc us := by
  intro p e s m args below meth c ls Hh locs E R hS hL hn1 hcn
  refine xW_size (fun hsz => ?_)
  have hs := E.size R hS hn1 hsz
  obtain ⟨l1, l2, lb⟩ := hl
  have hts := E.2.2.2.2.2.1
  refine xRun.go (i := .invokestatic idx) (H := H) (va_runS (Ts := x_tw) (own := x_cn μ.2.2.2.2.1) (As := As.map (x_rv x)) (n := n) (cc := μ.2.1) (nL := μ.2.2.1) (index := idx) ⟨E.1, E.2.1, E.2.2.2.1, E.2.2.2.2.1, hts⟩ ct.met ⟨⟨rfl, rfl, hd, (by have := lb.2.2.2; show 8 + (μ'.2.2.1 + 11) + 48 * d' ≤ 48 * d; omega), lb.ws E, List.mem_cons_self, hts _ lb.2.1, hts _ lb.1, ⟨lb.2.2.1.1, lb.2.2.1.2.1⟩, lb.pn (n1 := 0), hts _ l1⟩, hts _ l2⟩ ⟨xPc.blind, xPc.pre (A := As) E R hS hs⟩ rfl (by rw [List.length_map]; exact hn) hL.2.1 (by rw [hst, List.map_append, List.map_reverse]) (lv_room (by rw [x_catS]; exact hroom)) (E.dec hc) ⟨hu, hu2⟩) E hS hL hn1 hc rfl kk
theorem xs_callSN (hc : μ.2.2.2.2.2[k]? = some (.invokestatic idx)) (hl : x_LSN μ.2.2.2.2.1 idx μ' n) (ct : xCr l x d' mc' ms' μ' As H Qr) (hd : d' + 1 ≤ d) (hst : st = As.reverse ++ S) (hn : As.length = n) (hroom : (S.map (fun v => v.category)).sum ≤ 8) (hu : uc + mc' ≤ mc) (hu2 : us + ms' ≤ ms)
    (kk : ∀ v H', Qr v H' → xW l x d mc ms μ n0 Q false (k + 1) L (v.toList ++ S) H' (uc + mc') (us + ms')) : xW l x d mc ms μ n0 Q cl k L st H uc us := by
  intro p e s m args below meth c ls Hh locs E R hS hL hn1 hcn
  refine xW_size (fun hsz => ?_)
  have hs := E.size R hS hn1 hsz
  obtain ⟨l1, l2, lb⟩ := hl
  have hts := E.2.2.2.2.2.1
  refine xRun.go (i := .invokestatic idx) (H := H) (va_runSN (Ts := x_tw) (own := x_cn μ.2.2.2.2.1) (host := "RowPacker") (As := As.map (x_rv x)) (n := n) (cc := μ.2.1) (nL := μ.2.2.1) (index := idx) ⟨E.1, E.2.1, E.2.2.2.1, E.2.2.2.2.1, hts⟩ ct.met ⟨⟨⟨rfl, rfl, hd, (by have := lb.2.2.2; show 8 + (μ'.2.2.1 + 11) + 48 * d' ≤ 48 * d; omega), lb.ws E, List.mem_cons_self⟩, hts _ lb.2.1, hts _ lb.1, ⟨lb.2.2.1.1, lb.2.2.1.2.1⟩, lb.pn (n1 := 0), hts _ l1⟩, hts _ l2, trivial⟩ ⟨xPc.blind, xPc.pre (A := As) E R hS hs⟩ rfl (by rw [List.length_map]; exact hn) hL.2.1 (by rw [hst, List.map_append, List.map_reverse]) (lv_room (by rw [x_catS]; exact hroom)) (E.dec hc) ⟨hu, hu2⟩) E hS hL hn1 hc rfl kk
theorem xs_callI (hc : μ.2.2.2.2.2[k]? = some (.invokespecial idx)) (hl : x_LI μ.2.2.2.2.1 idx μ' n) (ct : xCr l x d' mc' ms' μ' (.ref r :: As) H Qr) (hd : d' + 1 ≤ d) (hst : st = As.reverse ++ .ref r :: S) (hn : As.length = n) (hroom : (S.map (fun v => v.category)).sum ≤ 8) (hu : uc + mc' ≤ mc) (hu2 : us + ms' ≤ ms)
    (kk : ∀ v H', Qr v H' → xW l x d mc ms μ n0 Q false (k + 1) L (v.toList ++ S) H' (uc + mc') (us + ms')) : xW l x d mc ms μ n0 Q cl k L st H uc us := by
  intro p e s m args below meth c ls Hh locs E R hS hL hn1 hcn
  refine xW_size (fun hsz => ?_)
  have hs := E.size R hS hn1 hsz
  obtain ⟨l1, l2, l3, l4, lb⟩ := hl
  have hts := E.2.2.2.2.2.1
  have hcd := lb.2.1
  rw [l4] at hcd
  refine xRun.go (i := .invokespecial idx) (H := H) (va_runI (Ts := x_tw) (own := x_cn μ.2.2.2.2.1) (As := As.map (x_rv x)) (b := x_ad x r) (n := n) (cc := μ.2.1) (nL := μ.2.2.1) (index := idx) (bytes := μ'.2.1) (maxL := μ'.2.2.1) ⟨E.1, E.2.1, E.2.2.2.1, E.2.2.2.2.1, hts⟩ ct.met ⟨⟨rfl, rfl, hd, (by have := lb.2.2.2; show 8 + (μ'.2.2.1 + 11) + 48 * d' ≤ 48 * d; omega), lb.ws E, (by rw [← l4]; exact List.mem_cons_self), hts _ hcd, hts _ lb.1, ⟨lb.2.2.1.1, lb.2.2.1.2.1⟩, lb.pn (n1 := 0), hts _ l1⟩, l3, hts _ l2⟩ ⟨xPc.blind, xPc.pre (A := .ref r :: As) E R hS hs⟩ rfl (by rw [List.length_map]; exact hn) hL.2.1 (by rw [hst, List.map_append, List.map_reverse]; rfl) (lv_room (by rw [x_catS]; exact hroom)) (E.dec hc) ⟨hu, hu2⟩) E hS hL hn1 hc rfl kk
theorem xs_callIN (hc : μ.2.2.2.2.2[k]? = some (.invokespecial idx)) (hl : x_LIN μ.2.2.2.2.1 idx μ' n) (ct : xCr l x d' mc' ms' μ' (.ref r :: As) H Qr) (hd : d' + 1 ≤ d) (hst : st = As.reverse ++ .ref r :: S) (hn : As.length = n) (hroom : (S.map (fun v => v.category)).sum ≤ 8) (hu : uc + mc' ≤ mc) (hu2 : us + ms' ≤ ms)
    (kk : ∀ v H', Qr v H' → xW l x d mc ms μ n0 Q false (k + 1) L (v.toList ++ S) H' (uc + mc') (us + ms')) : xW l x d mc ms μ n0 Q cl k L st H uc us := by
  intro p e s m args below meth c ls Hh locs E R hS hL hn1 hcn
  refine xW_size (fun hsz => ?_)
  have hs := E.size R hS hn1 hsz
  obtain ⟨l1, l2, l3, l4, lb⟩ := hl
  have hts := E.2.2.2.2.2.1
  have hcd := lb.2.1
  rw [l4] at hcd
  refine xRun.go (i := .invokespecial idx) (H := H) (va_runIN (Ts := x_tw) (own := x_cn μ.2.2.2.2.1) (host := "RowPacker") (As := As.map (x_rv x)) (b := x_ad x r) (n := n) (cc := μ.2.1) (nL := μ.2.2.1) (index := idx) (bytes := μ'.2.1) (maxL := μ'.2.2.1) ⟨E.1, E.2.1, E.2.2.2.1, E.2.2.2.2.1, hts⟩ ct.met ⟨⟨⟨rfl, rfl, hd, (by have := lb.2.2.2; show 8 + (μ'.2.2.1 + 11) + 48 * d' ≤ 48 * d; omega), lb.ws E, (by rw [← l4]; exact List.mem_cons_self)⟩, hts _ hcd, hts _ lb.1, ⟨lb.2.2.1.1, lb.2.2.1.2.1⟩, lb.pn (n1 := 0), hts _ l1⟩, l3, hts _ l2⟩ ⟨xPc.blind, xPc.pre (A := .ref r :: As) E R hS hs⟩ rfl (by rw [List.length_map]; exact hn) hL.2.1 (by rw [hst, List.map_append, List.map_reverse]; rfl) (lv_room (by rw [x_catS]; exact hroom)) (E.dec hc) ⟨hu, hu2⟩) E hS hL hn1 hc rfl kk
end XCall
