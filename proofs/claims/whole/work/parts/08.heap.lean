theorem xR.two {x : xX} {H : xH} {Hh : Heap} (h : xR x H Hh) : ∃ t, H = .inl (0, x.2.2.2.2.2.1, .inl x.2.2.2.2.2.2) :: .inl (0, 19, .inl x_ord) :: t := by
  obtain ⟨-, h0, h1, h2⟩ := h
  match H, h0, h1, h2 with
  | a :: b :: t, h0, h1, _ =>
    cases h0; cases h1
    exact ⟨t, rfl⟩
theorem xR.ge {x : xX} {H : xH} {Hh : Heap} (h : xR x H Hh) {r ci : Nat} {fs : List Value} (hr : H[r]? = some (.inr (ci, fs))) : 2 ≤ r := by
  obtain ⟨t, rfl⟩ := h.two
  match r, hr with
  | 0, hr => cases hr
  | 1, hr => cases hr
  | r + 2, _ => omega
theorem xR.ge0 {x : xX} {H : xH} {Hh : Heap} (h : xR x H Hh) {r ty : Nat} {a : vp_A} (hr : H[r]? = some (.inl (ty, a))) (h0 : ty ≠ 0) : 2 ≤ r := by
  obtain ⟨t, rfl⟩ := h.two
  match r, hr with
  | 0, hr => cases hr; exact absurd rfl h0
  | 1, hr => cases hr; exact absurd rfl h0
  | r + 2, _ => omega
theorem xR.at {x : xX} {H : xH} {Hh : Heap} {r : Nat} {c : va_E} (hr : H[r]? = some c) (h2 : 2 ≤ r) : (x_ws x 0 (H.drop 2))[r - 2]? = some (x_ad x r, x_mE x c) := by
  obtain ⟨q, rfl⟩ : ∃ q, r = q + 2 := ⟨r - 2, by omega⟩
  rw [x_ws_get, List.getElem?_drop, show 2 + (q + 2 - 2) = q + 2 by omega, hr]
  simp [x_ad]
theorem xR.set {x : xX} {H : xH} {Hh H1 : Heap} {r : Nat} {c : va_E} (h : xR x H Hh) (h2 : 2 ≤ r) (hP : va_P x.2.2.2.1 x_cl ((x_ws x 0 (H.drop 2)).set (r - 2) (x_ad x r, x_mE x c)) H1) : xR x (H.set r c) H1 := by
  obtain ⟨q, rfl⟩ : ∃ q, r = q + 2 := ⟨r - 2, by omega⟩
  obtain ⟨t, rfl⟩ := h.two
  refine ⟨?_, rfl, rfl, by simp⟩
  have e : x_ws x 0 (List.drop 2 ((.inl (0, x.2.2.2.2.2.1, .inl x.2.2.2.2.2.2) :: .inl (0, 19, .inl x_ord) :: t : xH).set (q + 2) c)) = (x_ws x 0 t).set q (x.1 + (0 + q), x_mE x c) := x_ws_set x c t 0 q
  rw [e, Nat.zero_add]
  exact hP
theorem x_wsD {x : xX} {t : xH} : va_D (xA x) (x_ws x 0 t) := by
  refine ⟨fun i j p q hp hq h => ?_, fun k q hq => ?_⟩
  · rw [x_ws_get] at hp hq
    cases h1 : t[i]? <;> rw [h1] at hp <;> cases hp
    cases h2 : t[j]? <;> rw [h2] at hq <;> cases hq
    simp at h
    exact h
  · rw [x_ws_get] at hq
    cases h1 : t[k]? <;> rw [h1] at hq <;> cases hq
    exact Nat.le_add_right _ _
def x_fok (ty : FieldType) (v : Value) : Bool := match ty, v with
  | .int, .int _ => true
  | .object _, .ref _ => true
  | .array _, .ref _ => true
  | _, _ => false
theorem x_fok.ok {x : xX} {ty : FieldType} {v : Value} (h : x_fok ty v = true) : narrow ty (x_rv x v) = x_rv x v ∧ fits ty (x_rv x v) = true := by
  unfold x_fok at h
  split at h
  · exact ⟨rfl, rfl⟩
  · exact ⟨rfl, rfl⟩
  · exact ⟨rfl, rfl⟩
  · cases h
section XHeap
variable {l : Launch} {x : xX} {d mc ms : Nat} {μ : xM} {n0 : Nat} {Q : xO → xH → Prop} {cl : Bool} {k : Nat} {L : xL} {S : List Value} {H : xH} {uc us : Nat}
variable {a b : Int32} {f g : Int64} {i r n : Nat} {v w : Value} {idx ci kf : Nat} {fs : List Value} {fa : Nat → Int32} {fl : Nat → Int64}
theorem xs_ldc (hc : μ.2.2.2.2.2[k]? = some (.ldc idx)) (hk : x_KC μ.2.2.2.2.1 idx a) (kk : xW l x d mc ms μ n0 Q cl (k + 1) L (.int a :: S) H uc us) : xW l x d mc ms μ n0 Q cl k L S H uc us :=
  xW.go (fun p e s m args below meth c ls Hh locs Qw E R hS hL w => lv_ldc E.1 E.2.1 E.2.2.2.2.1 (E.2.2.2.2.2.1 _ hk) (E.dec hc) (by have := w ls hL; rw [x_pcS _ _ _ hc] at this; exact this)) kk
theorem xs_ldc2 (hc : μ.2.2.2.2.2[k]? = some (.ldc2_w idx)) (hk : x_KL μ.2.2.2.2.1 idx f) (kk : xW l x d mc ms μ n0 Q cl (k + 1) L (.long f :: S) H uc us) : xW l x d mc ms μ n0 Q cl k L S H uc us :=
  xW.go (fun p e s m args below meth c ls Hh locs Qw E R hS hL w => lv_ldc2 E.1 E.2.1 E.2.2.2.2.1 (E.2.2.2.2.2.1 _ hk) (E.dec hc) (by have := w ls hL; rw [x_pcS _ _ _ hc] at this; exact this)) kk
theorem xs_gets (hc : μ.2.2.2.2.2[k]? = some (.getstatic idx)) (hk : x_SL μ.2.2.2.2.1 idx) (kk : xW l x d mc ms μ n0 Q cl (k + 1) L (.ref 1 :: S) H uc us) : xW l x d mc ms μ n0 Q cl k L S H uc us :=
  xW.go (fun p e s m args below meth c ls Hh locs Qw E R hS hL w => va_getsN (A := xA x) E.1 E.2.1 E.2.2.2.2.2.2.2.2.2.1.2.2.2.2.2.2.1 hS E.2.2.2.2.1 (E.2.2.2.2.2.1 _ hk) (fun _ h => h) (E.dec hc) (by have := w ls hL; rw [x_pcS _ _ _ hc] at this; exact this)) kk
theorem xs_getf (hc : μ.2.2.2.2.2[k]? = some (.getfield idx)) (hf : x_FL μ.2.2.2.2.1 idx ci kf) (hh : H[r]? = some (.inr (ci, fs))) (hv : fs[kf]? = some v) (kk : xW l x d mc ms μ n0 Q cl (k + 1) L (v :: S) H uc us) : xW l x d mc ms μ n0 Q cl k L (.ref r :: S) H uc us := by
  refine xW.go (fun p e s m args below meth c ls Hh locs Qw E R hS hL w => ?_) kk
  obtain ⟨q, hq, hk, hl⟩ := hf
  have h2 := R.ge hh
  refine va_get (v := x_rv x v) E.1 E.2.1 E.2.2.2.2.2.1 (x_okc_all ci q hq).1 E.2.2.2.2.1 E.2.2.2.2.2.2.2.2.2.1.1 R.1 (r - 2) (xR.at (Hh := Hh) hh h2) hq kf hk (E.2.2.2.2.2.1 _ hl) (fun _ h => h) (by rw [List.getElem?_map, hv]; rfl) (E.dec hc) ?_
  have := w ls hL
  rw [x_pcS _ _ _ hc] at this
  exact this
theorem xs_putf (hc : μ.2.2.2.2.2[k]? = some (.putfield idx)) (hf : x_FL μ.2.2.2.2.1 idx ci kf) (hh : H[r]? = some (.inr (ci, fs))) (hfin : ∀ q : vw_C, x_cl[ci]? = some q → (q.2.1 kf).2.2.2 = false) (hv : x_fok (x_tys ci kf) v = true) (hl : kf < fs.length) (kk : xW l x d mc ms μ n0 Q false (k + 1) L S (H.set r (.inr (ci, fs.set kf v))) uc us) : xW l x d mc ms μ n0 Q cl k L (v :: .ref r :: S) H uc us := by
  intro p e s m args below meth c ls Hh locs E R hS hL hn hcl
  obtain ⟨q, hq, hk, hlk⟩ := hf
  have h2 := R.ge hh
  have hok := x_okc_all ci q hq
  have hvv := x_fok.ok (x := x) hv
  refine va_put (A := xA x) E.1 E.2.1 E.2.2.2.2.2.1 hok.1 _ hok.2.1 hok.2.2 E.2.2.2.2.1 E.2.2.2.2.2.2.2.2.2.1.1 R.1 x_wsD hS (r - 2) (xR.at (Hh := Hh) hh h2) hq kf hk (E.2.2.2.2.2.1 _ hlk) (fun _ h => h) (hfin q hq) (hok.2.1 kf hk) hvv.1 hvv.2 (by rw [List.length_map]; exact hl) (E.dec hc) (fun H1 locs1 hP hD hS1 => ?_)
  have := kk p e s m args below meth c ls H1 locs1 E (R.set h2 (c := .inr (ci, fs.set kf v)) (by rw [x_mE, List.map_set]; exact hP)) hS1 hL (by rw [List.length_set]; exact hn) (fun h => by cases h)
  rw [x_pcS _ _ _ hc] at this
  exact this
theorem xs_putF (hc : μ.2.2.2.2.2[k]? = some (.putfield idx)) (hf : x_FL μ.2.2.2.2.1 idx ci kf) (hh : H[r]? = some (.inr (ci, fs))) (hfin : ∀ q : vw_C, x_cl[ci]? = some q → (q.2.1 kf).2.2.2 = true ∧ (q.2.1 kf).1 = x_cn μ.2.2.2.2.1) (hin : μ.1.name = "<init>") (hv : x_fok (x_tys ci kf) v = true) (hl : kf < fs.length) (kk : xW l x d mc ms μ n0 Q false (k + 1) L S (H.set r (.inr (ci, fs.set kf v))) uc us) : xW l x d mc ms μ n0 Q cl k L (v :: .ref r :: S) H uc us := by
  intro p e s m args below meth c ls Hh locs E R hS hL hn hcl
  obtain ⟨q, hq, hk, hlk⟩ := hf
  have h2 := R.ge hh
  have hok := x_okc_all ci q hq
  have hvv := x_fok.ok (x := x) hv
  refine va_putF (A := xA x) E.1 E.2.1 E.2.2.2.2.2.1 hok.1 _ hok.2.1 hok.2.2 E.2.2.2.2.1 E.2.2.2.2.2.2.2.2.2.1.1 R.1 x_wsD hS (r - 2) (xR.at (Hh := Hh) hh h2) hq kf hk (E.2.2.2.2.2.1 _ hlk) (fun _ h => h) (hfin q hq).1 (E.2.2.2.2.2.2.2.1.trans hin) (hfin q hq).2 (hok.2.1 kf hk) hvv.1 hvv.2 (by rw [List.length_map]; exact hl) (E.dec hc) (fun H1 locs1 hP hD hS1 => ?_)
  have := kk p e s m args below meth c ls H1 locs1 E (R.set h2 (c := .inr (ci, fs.set kf v)) (by rw [x_mE, List.map_set]; exact hP)) hS1 hL (by rw [List.length_set]; exact hn) (fun h => by cases h)
  rw [x_pcS _ _ _ hc] at this
  exact this
theorem xs_iald (hc : μ.2.2.2.2.2[k]? = some .iaload) (hh : H[r]? = some (.inl (0, n, .inl fa))) (hin : vp_in a n) (kk : xW l x d mc ms μ n0 Q cl (k + 1) L (.int (fa a.toNatClampNeg) :: S) H uc us) : xW l x d mc ms μ n0 Q cl k L (.int a :: .ref r :: S) H uc us := by
  refine xW.go (fun p e s m args below meth c ls Hh locs Qw E R hS hL w => ?_) kk
  have hw := w ls hL
  rw [x_pcS _ _ _ hc] at hw
  obtain ⟨hK, hX0, hX1, hb0, hb1, hbs, hZ⟩ := E.2.2.2.2.2.2.2.2.2.1
  by_cases h2 : 2 ≤ r
  · exact va_iald E.1 E.2.1 hK R.1 (r - 2) 0 (xR.at (Hh := Hh) hh h2) rfl hin (E.dec hc) hw
  · obtain ⟨t, rfl⟩ := R.two
    match r, hh, h2 with
    | 0, hh, _ =>
      cases hh
      exact va_sld (A := xA x) E.1 E.2.1 hX0 (Nat.lt_of_lt_of_le hb0 hbs) (Nat.not_le.mpr hb0) hS hin (E.dec hc) hw
    | 1, hh, _ =>
      cases hh
      obtain ⟨cell, g1, g2, g3, g4, g5, g6, g7⟩ := hX1
      have hlt : a.toNatClampNeg < 19 := Nat.not_le.mp fun q => hin (Or.inr q)
      exact W.iald (v := .int (x_ord a.toNatClampNeg)) E.1 E.2.1 (by show Hh[x.2.2.1]? = some cell; rw [hS.2.1 _ (Nat.lt_of_lt_of_le hb1 hbs) (Nat.not_le.mpr hb1)]; exact g1) g2 g3 (fun h => hin (h.elim Or.inl (fun h => Or.inr (Nat.le_trans g4 h)))) (g6 _ hlt) rfl rfl (E.dec hc) hw
    | r + 2, _, h2 => exact absurd (Nat.le_add_left 2 r) h2
theorem xs_bald (hc : μ.2.2.2.2.2[k]? = some .baload) (hh : H[r]? = some (.inl (1, n, .inl fa))) (hin : vp_in a n) (kk : xW l x d mc ms μ n0 Q cl (k + 1) L (.int (fa a.toNatClampNeg) :: S) H uc us) : xW l x d mc ms μ n0 Q cl k L (.int a :: .ref r :: S) H uc us := by
  refine xW.go (fun p e s m args below meth c ls Hh locs Qw E R hS hL w => ?_) kk
  have hw := w ls hL
  rw [x_pcS _ _ _ hc] at hw
  exact va_bald E.1 E.2.1 E.2.2.2.2.2.2.2.2.2.1.1 R.1 (r - 2) 1 (xR.at (Hh := Hh) hh (R.ge0 hh (by decide))) rfl hin (E.dec hc) hw
theorem xs_zald (hc : μ.2.2.2.2.2[k]? = some .baload) (hh : H[r]? = some (.inl (3, n, .inl fa))) (hin : vp_in a n) (kk : xW l x d mc ms μ n0 Q cl (k + 1) L (.int (fa a.toNatClampNeg) :: S) H uc us) : xW l x d mc ms μ n0 Q cl k L (.int a :: .ref r :: S) H uc us := by
  refine xW.go (fun p e s m args below meth c ls Hh locs Qw E R hS hL w => ?_) kk
  have hw := w ls hL
  rw [x_pcS _ _ _ hc] at hw
  exact va_zald E.1 E.2.1 E.2.2.2.2.2.2.2.2.2.1.1 R.1 (r - 2) 3 (xR.at (Hh := Hh) hh (R.ge0 hh (by decide))) rfl hin (E.dec hc) hw
theorem xs_lald (hc : μ.2.2.2.2.2[k]? = some .laload) (hh : H[r]? = some (.inl (2, n, .inr (.inl fl)))) (hin : vp_in a n) (kk : xW l x d mc ms μ n0 Q cl (k + 1) L (.long (fl a.toNatClampNeg) :: S) H uc us) : xW l x d mc ms μ n0 Q cl k L (.int a :: .ref r :: S) H uc us := by
  refine xW.go (fun p e s m args below meth c ls Hh locs Qw E R hS hL w => ?_) kk
  have hw := w ls hL
  rw [x_pcS _ _ _ hc] at hw
  exact va_lald E.1 E.2.1 E.2.2.2.2.2.2.2.2.2.1.1 R.1 (r - 2) 2 (xR.at (Hh := Hh) hh (R.ge0 hh (by decide))) rfl hin (E.dec hc) hw
theorem xs_iast (hc : μ.2.2.2.2.2[k]? = some .iastore) (hh : H[r]? = some (.inl (0, n, .inl fa))) (h2 : 2 ≤ r) (hin : vp_in a n) (kk : xW l x d mc ms μ n0 Q false (k + 1) L S (H.set r (.inl (0, n, .inl (upd fa a.toNatClampNeg b)))) uc us) : xW l x d mc ms μ n0 Q cl k L (.int b :: .int a :: .ref r :: S) H uc us := by
  intro p e s m args below meth c ls Hh locs E R hS hL hn hcl
  refine va_iast (A := xA x) E.1 E.2.1 E.2.2.2.2.2.2.2.2.2.1.1 R.1 x_wsD hS (r - 2) 0 (xR.at (Hh := Hh) hh h2) rfl hin (E.dec hc) (fun H1 locs1 hP hD hS1 => ?_)
  have := kk p e s m args below meth c ls H1 locs1 E (R.set h2 hP) hS1 hL (by rw [List.length_set]; exact hn) (fun h => by cases h)
  rw [x_pcS _ _ _ hc] at this
  exact this
theorem xs_bast (hc : μ.2.2.2.2.2[k]? = some .bastore) (hh : H[r]? = some (.inl (1, n, .inl fa))) (hin : vp_in a n) (kk : xW l x d mc ms μ n0 Q false (k + 1) L S (H.set r (.inl (1, n, .inl (upd fa a.toNatClampNeg (vp_nar .byte b))))) uc us) : xW l x d mc ms μ n0 Q cl k L (.int b :: .int a :: .ref r :: S) H uc us := by
  intro p e s m args below meth c ls Hh locs E R hS hL hn hcl
  have h2 := R.ge0 hh (by decide)
  refine va_bast (A := xA x) E.1 E.2.1 E.2.2.2.2.2.2.2.2.2.1.1 R.1 x_wsD hS (r - 2) 1 (xR.at (Hh := Hh) hh h2) rfl hin (E.dec hc) (fun H1 locs1 hP hD hS1 => ?_)
  have := kk p e s m args below meth c ls H1 locs1 E (R.set h2 hP) hS1 hL (by rw [List.length_set]; exact hn) (fun h => by cases h)
  rw [x_pcS _ _ _ hc] at this
  exact this
theorem xs_zast (hc : μ.2.2.2.2.2[k]? = some .bastore) (hh : H[r]? = some (.inl (3, n, .inl fa))) (hin : vp_in a n) (kk : xW l x d mc ms μ n0 Q false (k + 1) L S (H.set r (.inl (3, n, .inl (upd fa a.toNatClampNeg (vp_nar .boolean b))))) uc us) : xW l x d mc ms μ n0 Q cl k L (.int b :: .int a :: .ref r :: S) H uc us := by
  intro p e s m args below meth c ls Hh locs E R hS hL hn hcl
  have h2 := R.ge0 hh (by decide)
  refine va_zast (A := xA x) E.1 E.2.1 E.2.2.2.2.2.2.2.2.2.1.1 R.1 x_wsD hS (r - 2) 3 (xR.at (Hh := Hh) hh h2) rfl hin (E.dec hc) (fun H1 locs1 hP hD hS1 => ?_)
  have := kk p e s m args below meth c ls H1 locs1 E (R.set h2 hP) hS1 hL (by rw [List.length_set]; exact hn) (fun h => by cases h)
  rw [x_pcS _ _ _ hc] at this
  exact this
theorem xs_last (hc : μ.2.2.2.2.2[k]? = some .lastore) (hh : H[r]? = some (.inl (2, n, .inr (.inl fl)))) (hin : vp_in a n) (kk : xW l x d mc ms μ n0 Q false (k + 1) L S (H.set r (.inl (2, n, .inr (.inl (vp_updL fl a.toNatClampNeg f))))) uc us) : xW l x d mc ms μ n0 Q cl k L (.long f :: .int a :: .ref r :: S) H uc us := by
  intro p e s m args below meth c ls Hh locs E R hS hL hn hcl
  have h2 := R.ge0 hh (by decide)
  refine va_last (A := xA x) E.1 E.2.1 E.2.2.2.2.2.2.2.2.2.1.1 R.1 x_wsD hS (r - 2) 2 (xR.at (Hh := Hh) hh h2) rfl hin (E.dec hc) (fun H1 locs1 hP hD hS1 => ?_)
  have := kk p e s m args below meth c ls H1 locs1 E (R.set h2 hP) hS1 hL (by rw [List.length_set]; exact hn) (fun h => by cases h)
  rw [x_pcS _ _ _ hc] at this
  exact this
theorem xs_alen {ty : Nat} {va : vp_A} (hc : μ.2.2.2.2.2[k]? = some .arraylength) (hh : H[r]? = some (.inl (ty, va))) (ht : ty < 4) (kk : xW l x d mc ms μ n0 Q cl (k + 1) L (.int (Int32.ofNat va.1) :: S) H uc us) : xW l x d mc ms μ n0 Q cl k L (.ref r :: S) H uc us := by
  refine xW.go (fun p e s m args below meth c ls Hh locs Qw E R hS hL w => ?_) kk
  have hw := w ls hL
  rw [x_pcS _ _ _ hc] at hw
  obtain ⟨hK, hX0, hX1, hb0, hb1, hbs, hZ⟩ := E.2.2.2.2.2.2.2.2.2.1
  by_cases h2 : 2 ≤ r
  · have hat := xR.at (x := x) (Hh := Hh) hh h2
    match ty, ht, hat with
    | 0, _, hat => exact va_alen (ty := .int) E.1 E.2.1 hK R.1 (r - 2) 0 hat rfl rfl (E.dec hc) hw
    | 1, _, hat => exact va_alen (ty := .byte) E.1 E.2.1 hK R.1 (r - 2) 1 hat rfl rfl (E.dec hc) hw
    | 2, _, hat => exact va_alen (ty := .long) E.1 E.2.1 hK R.1 (r - 2) 2 hat rfl rfl (E.dec hc) hw
    | 3, _, hat => exact va_alen (ty := .boolean) E.1 E.2.1 hK R.1 (r - 2) 3 hat rfl rfl (E.dec hc) hw
    | t + 4, ht, _ => omega
  · obtain ⟨t, rfl⟩ := R.two
    match r, hh, h2 with
    | 0, hh, _ =>
      cases hh
      exact va_slen (A := xA x) E.1 E.2.1 hX0 (Nat.lt_of_lt_of_le hb0 hbs) (Nat.not_le.mpr hb0) hS (E.dec hc) hw
    | 1, hh, _ =>
      cases hh
      obtain ⟨cell, g1, g2, g3, g4, g5, g6, g7⟩ := hX1
      exact W.alen (n := Int32.ofNat 19) E.1 E.2.1 (by show Hh[x.2.2.1]? = some cell; rw [hS.2.1 _ (Nat.lt_of_lt_of_le hb1 hbs) (Nat.not_le.mpr hb1)]; exact g1) g2 g5 rfl rfl (E.dec hc) hw
    | r + 2, _, h2 => exact absurd (Nat.le_add_left 2 r) h2
end XHeap
