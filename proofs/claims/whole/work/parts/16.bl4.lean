set_option maxRecDepth 20000 in
theorem b_UN_init_0 {l : Launch} {x : xX} {d mc ms n0 uc us : Nat} {Q : xO → xH → Prop} {cl : Bool} {r0 : Nat} {r1 : Nat} {r2 : Nat} {r3 : Nat} {r4 : Nat} {H : xH}
    (h : xW l x d mc ms mUN_init n0 Q cl 1 [some (.ref r0), some (.ref r1), some (.ref r2), some (.ref r3), some (.ref r4), none, none] [.ref r0] H uc us) :
    xW l x d mc ms mUN_init n0 Q cl 0 [some (.ref r0), some (.ref r1), some (.ref r2), some (.ref r3), some (.ref r4), none, none] [] H uc us := by
  refine xs_aload_n rfl rfl ?_
  exact h

set_option maxRecDepth 20000 in
theorem b_UN_init_2 {l : Launch} {x : xX} {d mc ms n0 uc us : Nat} {Q : xO → xH → Prop} {cl : Bool} {r0 : Nat} {r1 : Nat} {r2 : Nat} {r3 : Nat} {r4 : Nat} {H : xH}
    (h : xW l x d mc ms mUN_init n0 Q cl 3 [some (.ref r0), some (.ref r1), some (.ref r2), some (.ref r3), some (.ref r4), none, none] [.ref r0] H uc us) :
    xW l x d mc ms mUN_init n0 Q cl 2 [some (.ref r0), some (.ref r1), some (.ref r2), some (.ref r3), some (.ref r4), none, none] [] H uc us := by
  refine xs_aload_n rfl rfl ?_
  exact h

set_option maxRecDepth 20000 in
theorem b_UN_init_4 {l : Launch} {x : xX} {d mc ms n0 uc us : Nat} {Q : xO → xH → Prop} {cl : Bool} {r0 : Nat} {r1 : Nat} {r2 : Nat} {r3 : Nat} {r4 : Nat} {q0 : Nat} {q1 : Nat} {H : xH}
    (h : xW l x d mc ms mUN_init n0 Q cl 5 [some (.ref r0), some (.ref r1), some (.ref r2), some (.ref r3), some (.ref r4), none, none] [.ref q1, .ref q1, .ref q0] H uc us) :
    xW l x d mc ms mUN_init n0 Q cl 4 [some (.ref r0), some (.ref r1), some (.ref r2), some (.ref r3), some (.ref r4), none, none] [.ref q1, .ref q0] H uc us := by
  refine xs_dup rfl rfl ?_
  exact h

set_option maxRecDepth 20000 in
theorem b_UN_init_6 {l : Launch} {x : xX} {d mc ms n0 uc us : Nat} {Q : xO → xH → Prop} {cl : Bool} {r0 : Nat} {r1 : Nat} {r2 : Nat} {r3 : Nat} {r4 : Nat} {q0 : Nat} {q1 : Nat} {H : xH}
    (h : ∃ c1, H[(q0 : Nat)]? = some (.inr (9, c1)) ∧ 4 < c1.length ∧ (∀ H2 : xH, H2 = H.set q0 (.inr (9, c1.set 4 (.ref q1))) → xW l x d mc ms mUN_init n0 Q false 8 [some (.ref r0), some (.ref r1), some (.ref r2), some (.ref r3), some (.ref r4), none, none] [.ref r0] H2 uc us)) :
    xW l x d mc ms mUN_init n0 Q cl 6 [some (.ref r0), some (.ref r1), some (.ref r2), some (.ref r3), some (.ref r4), none, none] [.ref q1, .ref q0] H uc us := by
  obtain ⟨c1, h1, h2, h⟩ := h
  refine xs_putF rfl fl_9_12 h1 (fun q hq => by cases hq; exact ⟨rfl, rfl⟩) rfl rfl h2 ?_
  have h := h _ rfl
  generalize H.set q0 (.inr (9, c1.set 4 (.ref q1))) = H2 at h ⊢
  refine xs_aload_n rfl rfl ?_
  exact h

set_option maxRecDepth 20000 in
theorem b_UN_init_9 {l : Launch} {x : xX} {d mc ms n0 uc us : Nat} {Q : xO → xH → Prop} {cl : Bool} {r0 : Nat} {r1 : Nat} {r2 : Nat} {r3 : Nat} {r4 : Nat} {q0 : Nat} {q1 : Nat} {H : xH}
    (h : xW l x d mc ms mUN_init n0 Q cl 10 [some (.ref r0), some (.ref r1), some (.ref r2), some (.ref r3), some (.ref r4), none, none] [.ref q1, .ref q1, .ref q0] H uc us) :
    xW l x d mc ms mUN_init n0 Q cl 9 [some (.ref r0), some (.ref r1), some (.ref r2), some (.ref r3), some (.ref r4), none, none] [.ref q1, .ref q0] H uc us := by
  refine xs_dup rfl rfl ?_
  exact h

set_option maxRecDepth 20000 in
theorem b_UN_init_11 {l : Launch} {x : xX} {d mc ms n0 uc us : Nat} {Q : xO → xH → Prop} {cl : Bool} {r0 : Nat} {r1 : Nat} {r2 : Nat} {r3 : Nat} {r4 : Nat} {q0 : Nat} {q1 : Nat} {H : xH}
    (h : ∃ c1, H[(q0 : Nat)]? = some (.inr (9, c1)) ∧ 5 < c1.length ∧ (∀ H2 : xH, H2 = H.set q0 (.inr (9, c1.set 5 (.ref q1))) → xW l x d mc ms mUN_init n0 Q false 13 [some (.ref r0), some (.ref r1), some (.ref r2), some (.ref r3), some (.ref r4), none, none] [.ref r0] H2 uc us)) :
    xW l x d mc ms mUN_init n0 Q cl 11 [some (.ref r0), some (.ref r1), some (.ref r2), some (.ref r3), some (.ref r4), none, none] [.ref q1, .ref q0] H uc us := by
  obtain ⟨c1, h1, h2, h⟩ := h
  refine xs_putF rfl fl_9_18 h1 (fun q hq => by cases hq; exact ⟨rfl, rfl⟩) rfl rfl h2 ?_
  have h := h _ rfl
  generalize H.set q0 (.inr (9, c1.set 5 (.ref q1))) = H2 at h ⊢
  refine xs_aload_n rfl rfl ?_
  exact h

set_option maxRecDepth 20000 in
theorem b_UN_init_14 {l : Launch} {x : xX} {d mc ms n0 uc us : Nat} {Q : xO → xH → Prop} {cl : Bool} {r0 : Nat} {r1 : Nat} {r2 : Nat} {r3 : Nat} {r4 : Nat} {q0 : Nat} {q1 : Nat} {H : xH}
    (h : xW l x d mc ms mUN_init n0 Q cl 15 [some (.ref r0), some (.ref r1), some (.ref r2), some (.ref r3), some (.ref r4), none, none] [.ref q1, .ref q1, .ref q0] H uc us) :
    xW l x d mc ms mUN_init n0 Q cl 14 [some (.ref r0), some (.ref r1), some (.ref r2), some (.ref r3), some (.ref r4), none, none] [.ref q1, .ref q0] H uc us := by
  refine xs_dup rfl rfl ?_
  exact h

set_option maxRecDepth 20000 in
theorem b_UN_init_16 {l : Launch} {x : xX} {d mc ms n0 uc us : Nat} {Q : xO → xH → Prop} {cl : Bool} {r0 : Nat} {r1 : Nat} {r2 : Nat} {r3 : Nat} {r4 : Nat} {q0 : Nat} {q1 : Nat} {H : xH}
    (h : ∃ c1, H[(q0 : Nat)]? = some (.inr (9, c1)) ∧ 6 < c1.length ∧ (∀ H2 : xH, H2 = H.set q0 (.inr (9, c1.set 6 (.ref q1))) → xW l x d mc ms mUN_init n0 Q false 18 [some (.ref r0), some (.ref r1), some (.ref r2), some (.ref r3), some (.ref r4), none, none] [.ref r0] H2 uc us)) :
    xW l x d mc ms mUN_init n0 Q cl 16 [some (.ref r0), some (.ref r1), some (.ref r2), some (.ref r3), some (.ref r4), none, none] [.ref q1, .ref q0] H uc us := by
  obtain ⟨c1, h1, h2, h⟩ := h
  refine xs_putF rfl fl_9_21 h1 (fun q hq => by cases hq; exact ⟨rfl, rfl⟩) rfl rfl h2 ?_
  have h := h _ rfl
  generalize H.set q0 (.inr (9, c1.set 6 (.ref q1))) = H2 at h ⊢
  refine xs_aload_n rfl rfl ?_
  exact h

set_option maxRecDepth 20000 in
theorem b_UN_init_19 {l : Launch} {x : xX} {d mc ms n0 uc us : Nat} {Q : xO → xH → Prop} {cl : Bool} {r0 : Nat} {r1 : Nat} {r2 : Nat} {r3 : Nat} {r4 : Nat} {q0 : Nat} {q1 : Nat} {H : xH}
    (h : xW l x d mc ms mUN_init n0 Q cl 20 [some (.ref r0), some (.ref r1), some (.ref r2), some (.ref r3), some (.ref r4), none, none] [.ref q1, .ref q1, .ref q0] H uc us) :
    xW l x d mc ms mUN_init n0 Q cl 19 [some (.ref r0), some (.ref r1), some (.ref r2), some (.ref r3), some (.ref r4), none, none] [.ref q1, .ref q0] H uc us := by
  refine xs_dup rfl rfl ?_
  exact h

set_option maxRecDepth 20000 in
theorem b_UN_init_21 {l : Launch} {x : xX} {d mc ms n0 uc us : Nat} {Q : xO → xH → Prop} {cl : Bool} {r0 : Nat} {r1 : Nat} {r2 : Nat} {r3 : Nat} {r4 : Nat} {q0 : Nat} {q1 : Nat} {H : xH}
    (h : ∃ c1, H[(q0 : Nat)]? = some (.inr (9, c1)) ∧ 7 < c1.length ∧ (∀ H2 : xH, H2 = H.set q0 (.inr (9, c1.set 7 (.ref q1))) → xW l x d mc ms mUN_init n0 Q false 23 [some (.ref r0), some (.ref r1), some (.ref r2), some (.ref r3), some (.ref r4), none, none] [.ref r0] H2 uc us)) :
    xW l x d mc ms mUN_init n0 Q cl 21 [some (.ref r0), some (.ref r1), some (.ref r2), some (.ref r3), some (.ref r4), none, none] [.ref q1, .ref q0] H uc us := by
  obtain ⟨c1, h1, h2, h⟩ := h
  refine xs_putF rfl fl_9_24 h1 (fun q hq => by cases hq; exact ⟨rfl, rfl⟩) rfl rfl h2 ?_
  have h := h _ rfl
  generalize H.set q0 (.inr (9, c1.set 7 (.ref q1))) = H2 at h ⊢
  refine xs_aload_n rfl rfl ?_
  exact h

set_option maxRecDepth 20000 in
theorem b_UN_init_24 {l : Launch} {x : xX} {d mc ms n0 uc us : Nat} {Q : xO → xH → Prop} {cl : Bool} {r0 : Nat} {r1 : Nat} {r2 : Nat} {r3 : Nat} {r4 : Nat} {q0 : Nat} {q1 : Nat} {H : xH}
    (h : xW l x d mc ms mUN_init n0 Q cl 25 [some (.ref r0), some (.ref r1), some (.ref r2), some (.ref r3), some (.ref r4), none, none] [.ref q1, .ref q1, .ref q0] H uc us) :
    xW l x d mc ms mUN_init n0 Q cl 24 [some (.ref r0), some (.ref r1), some (.ref r2), some (.ref r3), some (.ref r4), none, none] [.ref q1, .ref q0] H uc us := by
  refine xs_dup rfl rfl ?_
  exact h

set_option maxRecDepth 20000 in
theorem b_UN_init_26 {l : Launch} {x : xX} {d mc ms n0 uc us : Nat} {Q : xO → xH → Prop} {cl : Bool} {r0 : Nat} {r1 : Nat} {r2 : Nat} {r3 : Nat} {r4 : Nat} {q0 : Nat} {q1 : Nat} {H : xH}
    (h : ∃ c1, H[(q0 : Nat)]? = some (.inr (9, c1)) ∧ 8 < c1.length ∧ (∀ H2 : xH, H2 = H.set q0 (.inr (9, c1.set 8 (.ref q1))) → xW l x d mc ms mUN_init n0 Q false 29 [some (.ref r0), some (.ref r1), some (.ref r2), some (.ref r3), some (.ref r4), none, none] [.int 316, .ref r0] H2 uc us)) :
    xW l x d mc ms mUN_init n0 Q cl 26 [some (.ref r0), some (.ref r1), some (.ref r2), some (.ref r3), some (.ref r4), none, none] [.ref q1, .ref q0] H uc us := by
  obtain ⟨c1, h1, h2, h⟩ := h
  refine xs_putF rfl fl_9_27 h1 (fun q hq => by cases hq; exact ⟨rfl, rfl⟩) rfl rfl h2 ?_
  have h := h _ rfl
  generalize H.set q0 (.inr (9, c1.set 8 (.ref q1))) = H2 at h ⊢
  refine xs_aload_n rfl rfl ?_
  refine xs_sipushV (v := 316) rfl rfl ?_
  exact h

set_option maxRecDepth 20000 in
theorem b_UN_init_30 {l : Launch} {x : xX} {d mc ms n0 uc us : Nat} {Q : xO → xH → Prop} {cl : Bool} {r0 : Nat} {r1 : Nat} {r2 : Nat} {r3 : Nat} {r4 : Nat} {q0 : Nat} {q1 : Nat} {H : xH}
    (h : ∃ c1, H[(q0 : Nat)]? = some (.inr (9, c1)) ∧ 9 < c1.length ∧ (∀ H2 : xH, H2 = H.set q0 (.inr (9, c1.set 9 (.ref q1))) → ∃ c3, H2[(r0 : Nat)]? = some (.inr (9, c3)) ∧ 0 < c3.length ∧ (∀ H4 : xH, H4 = H2.set r0 (.inr (9, c3.set 0 (.ref r1))) → ∃ c5, H4[(r0 : Nat)]? = some (.inr (9, c5)) ∧ 1 < c5.length ∧ (∀ H6 : xH, H6 = H4.set r0 (.inr (9, c5.set 1 (.ref r2))) → ∃ c7, H6[(r0 : Nat)]? = some (.inr (9, c7)) ∧ 2 < c7.length ∧ (∀ H8 : xH, H8 = H6.set r0 (.inr (9, c7.set 2 (.ref r3))) → ∃ c9, H8[(r0 : Nat)]? = some (.inr (9, c9)) ∧ 3 < c9.length ∧ (∀ H10 : xH, H10 = H8.set r0 (.inr (9, c9.set 3 (.ref r4))) → xW l x d mc ms mUN_init n0 Q false 44 [some (.ref r0), some (.ref r1), some (.ref r2), some (.ref r3), some (.ref r4), none, none] [.int 288] H10 uc us)))))) :
    xW l x d mc ms mUN_init n0 Q cl 30 [some (.ref r0), some (.ref r1), some (.ref r2), some (.ref r3), some (.ref r4), none, none] [.ref q1, .ref q0] H uc us := by
  obtain ⟨c1, h1, h2, h⟩ := h
  refine xs_putF rfl fl_9_30 h1 (fun q hq => by cases hq; exact ⟨rfl, rfl⟩) rfl rfl h2 ?_
  have h := h _ rfl
  generalize H.set q0 (.inr (9, c1.set 9 (.ref q1))) = H2 at h ⊢
  refine xs_aload_n rfl rfl ?_
  refine xs_aload_n rfl rfl ?_
  obtain ⟨c3, h1, h2, h⟩ := h
  refine xs_putF rfl fl_9_34 h1 (fun q hq => by cases hq; exact ⟨rfl, rfl⟩) rfl rfl h2 ?_
  have h := h _ rfl
  generalize H2.set r0 (.inr (9, c3.set 0 (.ref r1))) = H4 at h ⊢
  refine xs_aload_n rfl rfl ?_
  refine xs_aload_n rfl rfl ?_
  obtain ⟨c5, h1, h2, h⟩ := h
  refine xs_putF rfl fl_9_38 h1 (fun q hq => by cases hq; exact ⟨rfl, rfl⟩) rfl rfl h2 ?_
  have h := h _ rfl
  generalize H4.set r0 (.inr (9, c5.set 1 (.ref r2))) = H6 at h ⊢
  refine xs_aload_n rfl rfl ?_
  refine xs_aload_n rfl rfl ?_
  obtain ⟨c7, h1, h2, h⟩ := h
  refine xs_putF rfl fl_9_41 h1 (fun q hq => by cases hq; exact ⟨rfl, rfl⟩) rfl rfl h2 ?_
  have h := h _ rfl
  generalize H6.set r0 (.inr (9, c7.set 2 (.ref r3))) = H8 at h ⊢
  refine xs_aload_n rfl rfl ?_
  refine xs_aload rfl rfl ?_
  obtain ⟨c9, h1, h2, h⟩ := h
  refine xs_putF rfl fl_9_45 h1 (fun q hq => by cases hq; exact ⟨rfl, rfl⟩) rfl rfl h2 ?_
  have h := h _ rfl
  generalize H8.set r0 (.inr (9, c9.set 3 (.ref r4))) = H10 at h ⊢
  refine xs_sipushV (v := 288) rfl rfl ?_
  exact h

set_option maxRecDepth 20000 in
theorem b_UN_init_45 {l : Launch} {x : xX} {d mc ms n0 uc us : Nat} {Q : xO → xH → Prop} {cl : Bool} {r0 : Nat} {r1 : Nat} {r2 : Nat} {r3 : Nat} {r4 : Nat} {q0 : Nat} {H : xH}
    (h : xW l x d mc ms mUN_init n0 Q cl 48 [some (.ref r0), some (.ref r1), some (.ref r2), some (.ref r3), some (.ref r4), some (.ref q0), some (.int 0)] [] H uc us) :
    xW l x d mc ms mUN_init n0 Q cl 45 [some (.ref r0), some (.ref r1), some (.ref r2), some (.ref r3), some (.ref r4), none, none] [.ref q0] H uc us := by
  refine xs_astore rfl (L' := [some (.ref r0), some (.ref r1), some (.ref r2), some (.ref r3), some (.ref r4), some (.ref q0), none]) rfl rfl ?_
  refine xs_iconstV (v := 0) rfl rfl ?_
  refine xs_istore rfl (L' := [some (.ref r0), some (.ref r1), some (.ref r2), some (.ref r3), some (.ref r4), some (.ref q0), some (.int 0)]) rfl rfl ?_
  exact h

set_option maxRecDepth 20000 in
theorem b_UN_init_48 {l : Launch} {x : xX} {d mc ms n0 uc us : Nat} {Q : xO → xH → Prop} {cl : Bool} {r0 : Nat} {r1 : Nat} {r2 : Nat} {r3 : Nat} {r4 : Nat} {r5 : Nat} {v6 : Int32} {H : xH}
    (h : (288 ≤ v6 → ∃ p1, gR H r0 9 4 p1 ∧ (xW l x d mc ms mUN_init n0 Q cl 63 [some (.ref r0), some (.ref r1), some (.ref r2), some (.ref r3), some (.ref r4), some (.ref r5), some (.int v6)] [.int 288, .int 0, .ref r5, .ref p1] H uc us)) ∧ (¬ 288 ≤ v6 → xW l x d mc ms mUN_init n0 Q cl 54 [some (.ref r0), some (.ref r1), some (.ref r2), some (.ref r3), some (.ref r4), some (.ref r5), some (.int v6)] [.int v6, .int v6, .ref r5] H uc us)) :
    xW l x d mc ms mUN_init n0 Q cl 48 [some (.ref r0), some (.ref r1), some (.ref r2), some (.ref r3), some (.ref r4), some (.ref r5), some (.int v6)] [] H uc us := by
  refine xs_iload rfl rfl ?_
  refine xs_sipushV (v := 288) rfl rfl ?_
  refine xs_icmp_ge (k' := 58) rfl rfl (fun hb => ?_) (fun hb => ?_)
  · have h := h.1 hb
    refine xs_aload_n rfl rfl ?_
    obtain ⟨p1, ⟨_, h1, h2⟩, h⟩ := h
    refine xs_getf rfl fl_9_12 h1 h2 ?_
    refine xs_aload rfl rfl ?_
    refine xs_iconstV (v := 0) rfl rfl ?_
    refine xs_sipushV (v := 288) rfl rfl ?_
    exact h
  · have h := h.2 hb
    refine xs_aload rfl rfl ?_
    refine xs_iload rfl rfl ?_
    refine xs_iload rfl rfl ?_
    exact h

set_option maxRecDepth 20000 in
theorem b_UN_init_55 {l : Launch} {x : xX} {d mc ms n0 uc us : Nat} {Q : xO → xH → Prop} {cl : Bool} {r0 : Nat} {r1 : Nat} {r2 : Nat} {r3 : Nat} {r4 : Nat} {r5 : Nat} {v6 : Int32} {q0 : Nat} {u1 : Int32} {u2 : Int32} {H : xH}
    (h : ∃ n1 f2, H[(q0 : Nat)]? = some (.inl (0, n1, .inl f2)) ∧ 2 ≤ q0 ∧ vp_in u1 n1 ∧ (∀ H3 : xH, H3 = H.set q0 (.inl (0, n1, .inl (upd f2 (u1.toNatClampNeg) (u2)))) → xW l x d mc ms mUN_init n0 Q false 48 [some (.ref r0), some (.ref r1), some (.ref r2), some (.ref r3), some (.ref r4), some (.ref r5), some (.int (v6 + 1))] [] H3 uc us)) :
    xW l x d mc ms mUN_init n0 Q cl 55 [some (.ref r0), some (.ref r1), some (.ref r2), some (.ref r3), some (.ref r4), some (.ref r5), some (.int v6)] [.int u2, .int u1, .ref q0] H uc us := by
  obtain ⟨n1, f2, h1, h3, h2, h⟩ := h
  refine xs_iast rfl h1 h3 h2 ?_
  have h := h _ rfl
  generalize H.set q0 (.inl (0, n1, .inl (upd f2 (u1.toNatClampNeg) (u2)))) = H3 at h ⊢
  refine xs_iincV rfl (w := 1) rfl rfl (L' := [some (.ref r0), some (.ref r1), some (.ref r2), some (.ref r3), some (.ref r4), some (.ref r5), some (.int (v6 + 1))]) rfl rfl ?_
  refine xs_goto (k' := 48) rfl rfl ?_
  exact h

set_option maxRecDepth 20000 in
theorem b_UN_init_64 {l : Launch} {x : xX} {d mc ms n0 uc us : Nat} {Q : xO → xH → Prop} {cl : Bool} {r0 : Nat} {r1 : Nat} {r2 : Nat} {r3 : Nat} {r4 : Nat} {r5 : Nat} {v6 : Int32} {H : xH}
    (h : xW l x d mc ms mUN_init n0 Q cl 66 [some (.ref r0), some (.ref r1), some (.ref r2), some (.ref r3), some (.ref r4), some (.ref r5), some (.int v6)] [.int 5, .ref r5] H uc us) :
    xW l x d mc ms mUN_init n0 Q cl 64 [some (.ref r0), some (.ref r1), some (.ref r2), some (.ref r3), some (.ref r4), some (.ref r5), some (.int v6)] [] H uc us := by
  refine xs_aload rfl rfl ?_
  refine xs_iconstV (v := 5) rfl rfl ?_
  exact h

set_option maxRecDepth 20000 in
theorem b_UN_init_67 {l : Launch} {x : xX} {d mc ms n0 uc us : Nat} {Q : xO → xH → Prop} {cl : Bool} {r0 : Nat} {r1 : Nat} {r2 : Nat} {r3 : Nat} {r4 : Nat} {r5 : Nat} {v6 : Int32} {H : xH}
    (h : ∃ p1, gR H r0 9 5 p1 ∧ (xW l x d mc ms mUN_init n0 Q cl 72 [some (.ref r0), some (.ref r1), some (.ref r2), some (.ref r3), some (.ref r4), some (.ref r5), some (.int v6)] [.int 32, .int 0, .ref r5, .ref p1] H uc us)) :
    xW l x d mc ms mUN_init n0 Q cl 67 [some (.ref r0), some (.ref r1), some (.ref r2), some (.ref r3), some (.ref r4), some (.ref r5), some (.int v6)] [] H uc us := by
  refine xs_aload_n rfl rfl ?_
  obtain ⟨p1, ⟨_, h1, h2⟩, h⟩ := h
  refine xs_getf rfl fl_9_18 h1 h2 ?_
  refine xs_aload rfl rfl ?_
  refine xs_iconstV (v := 0) rfl rfl ?_
  refine xs_bipushV (v := 32) rfl rfl ?_
  exact h

set_option maxRecDepth 20000 in
theorem b_UN_init_73 {l : Launch} {x : xX} {d mc ms n0 uc us : Nat} {Q : xO → xH → Prop} {cl : Bool} {r0 : Nat} {r1 : Nat} {r2 : Nat} {r3 : Nat} {r4 : Nat} {r5 : Nat} {v6 : Int32} {H : xH}
    (h : uc = mc ∧ us ≤ ms ∧ Q (.inl none) H) :
    xW l x d mc ms mUN_init n0 Q cl 73 [some (.ref r0), some (.ref r1), some (.ref r2), some (.ref r3), some (.ref r4), some (.ref r5), some (.int v6)] [] H uc us := by
  exact xs_vret rfl rfl h.1 h.2.1 h.2.2

set_option maxRecDepth 20000 in
theorem b_UN_unpackTape_0 {l : Launch} {x : xX} {d mc ms n0 uc us : Nat} {Q : xO → xH → Prop} {cl : Bool} {r0 : Nat} {v1 : Int32} {H : xH}
    (h : ∃ p1, gR H r0 9 2 p1 ∧ (xW l x d mc ms mUN_unpackTape n0 Q cl 2 [some (.ref r0), some (.int v1), none, none] [.ref p1] H uc us)) :
    xW l x d mc ms mUN_unpackTape n0 Q cl 0 [some (.ref r0), some (.int v1), none, none] [] H uc us := by
  refine xs_aload_n rfl rfl ?_
  obtain ⟨p1, ⟨_, h1, h2⟩, h⟩ := h
  refine xs_getf rfl fl_9_41 h1 h2 ?_
  exact h

set_option maxRecDepth 20000 in
theorem b_UN_unpackTape_3 {l : Launch} {x : xX} {d mc ms n0 uc us : Nat} {Q : xO → xH → Prop} {cl : Bool} {r0 : Nat} {v1 : Int32} {H : xH}
    (h : ∃ p1, gR H r0 9 1 p1 ∧ (∃ c2, H[(p1 : Nat)]? = some (.inr (7, c2)) ∧ 1 < c2.length ∧ (∀ H3 : xH, H3 = H.set p1 (.inr (7, c2.set 1 (.int 0))) → ∃ c4, H3[(r0 : Nat)]? = some (.inr (9, c4)) ∧ 10 < c4.length ∧ (∀ H5 : xH, H5 = H3.set r0 (.inr (9, c4.set 10 (.int 0))) → ∃ p6, gR H5 r0 9 0 p6 ∧ (∃ a7, gI H5 p6 7 1 a7 ∧ (∃ c8, H5[(r0 : Nat)]? = some (.inr (9, c8)) ∧ 11 < c8.length ∧ (∀ H9 : xH, H9 = H5.set r0 (.inr (9, c8.set 11 (.int ((8 : Int32) * a7)))) → xW l x d mc ms mUN_unpackTape n0 Q false 21 [some (.ref r0), some (.int v1), some (.int 1), some (.int 0)] [] H9 uc us))))))) :
    xW l x d mc ms mUN_unpackTape n0 Q cl 3 [some (.ref r0), some (.int v1), none, none] [] H uc us := by
  refine xs_aload_n rfl rfl ?_
  obtain ⟨p1, ⟨_, h1, h2⟩, h⟩ := h
  refine xs_getf rfl fl_9_38 h1 h2 ?_
  refine xs_iconstV (v := 0) rfl rfl ?_
  obtain ⟨c2, h1, h2, h⟩ := h
  refine xs_putf rfl fl_9_68 h1 (fun q hq => by cases hq; rfl) rfl h2 ?_
  have h := h _ rfl
  generalize H.set p1 (.inr (7, c2.set 1 (.int 0))) = H3 at h ⊢
  refine xs_aload_n rfl rfl ?_
  refine xs_iconstV (v := 0) rfl rfl ?_
  obtain ⟨c4, h1, h2, h⟩ := h
  refine xs_putf rfl fl_9_74 h1 (fun q hq => by cases hq; rfl) rfl h2 ?_
  have h := h _ rfl
  generalize H3.set r0 (.inr (9, c4.set 10 (.int 0))) = H5 at h ⊢
  refine xs_aload_n rfl rfl ?_
  refine xs_bipushV (v := 8) rfl rfl ?_
  refine xs_aload_n rfl rfl ?_
  obtain ⟨p6, ⟨_, h1, h2⟩, h⟩ := h
  refine xs_getf rfl fl_9_34 h1 h2 ?_
  obtain ⟨a7, ⟨_, h1, h2⟩, h⟩ := h
  refine xs_getf rfl fl_9_68 h1 h2 ?_
  refine xs_imul rfl ?_
  obtain ⟨c8, h1, h2, h⟩ := h
  refine xs_putf rfl fl_9_77 h1 (fun q hq => by cases hq; rfl) rfl h2 ?_
  have h := h _ rfl
  generalize H5.set r0 (.inr (9, c8.set 11 (.int ((8 : Int32) * a7)))) = H9 at h ⊢
  refine xs_iconstV (v := 1) rfl rfl ?_
  refine xs_istore_n rfl (L' := [some (.ref r0), some (.int v1), some (.int 1), none]) rfl rfl ?_
  refine xs_iconstV (v := 0) rfl rfl ?_
  refine xs_istore_n rfl (L' := [some (.ref r0), some (.int v1), some (.int 1), some (.int 0)]) rfl rfl ?_
  exact h

set_option maxRecDepth 20000 in
theorem b_UN_unpackTape_21 {l : Launch} {x : xX} {d mc ms n0 uc us : Nat} {Q : xO → xH → Prop} {cl : Bool} {r0 : Nat} {v1 : Int32} {v2 : Int32} {v3 : Int32} {H : xH}
    (h : (v2 = 0 → ∃ p1, gR H r0 9 2 p1 ∧ (∃ a2, gI H p1 6 1 a2 ∧ ((¬ a2 = 0 → ∃ p3, gR H r0 9 2 p3 ∧ (∃ a4, gI H p3 6 1 a4 ∧ ((a4 = 0 → uc = mc ∧ us ≤ ms ∧ Q (.inl none) H) ∧ (¬ a4 = 0 → ∃ p5, gR H r0 9 1 p5 ∧ (∃ c6, H[(p5 : Nat)]? = some (.inr (7, c6)) ∧ 1 < c6.length ∧ (∀ H7 : xH, H7 = H.set p5 (.inr (7, c6.set 1 (.int 0))) → uc = mc ∧ us ≤ ms ∧ Q (.inl none) H7)))))) ∧ (a2 = 0 → ∃ a8, gI H r0 9 10 a8 ∧ (∃ a9, gI H r0 9 11 a9 ∧ ((a9 ≤ a8 → ∃ p10, gR H r0 9 2 p10 ∧ (∃ a11, gI H p10 6 1 a11 ∧ ((a11 = 0 → uc = mc ∧ us ≤ ms ∧ Q (.inl none) H) ∧ (¬ a11 = 0 → ∃ p12, gR H r0 9 1 p12 ∧ (∃ c13, H[(p12 : Nat)]? = some (.inr (7, c13)) ∧ 1 < c13.length ∧ (∀ H14 : xH, H14 = H.set p12 (.inr (7, c13.set 1 (.int 0))) → uc = mc ∧ us ≤ ms ∧ Q (.inl none) H14)))))) ∧ (¬ a9 ≤ a8 → ∃ a15, gI H r0 9 10 a15 ∧ (xW l x d mc ms mUN_unpackTape n0 Q cl 69 [some (.ref r0), some (.int v1), some (.int v2), some (.int v3)] [.int a15, .int 11, .ref r0] H uc us)))))))) ∧ (¬ v2 = 0 → (32768 ≤ v3 → ∃ p16, gR H r0 9 2 p16 ∧ (∃ a17, gI H p16 6 1 a17 ∧ ((¬ a17 = 0 → ∃ p18, gR H r0 9 2 p18 ∧ (∃ a19, gI H p18 6 1 a19 ∧ ((a19 = 0 → uc = mc ∧ us ≤ ms ∧ Q (.inl none) H) ∧ (¬ a19 = 0 → ∃ p20, gR H r0 9 1 p20 ∧ (∃ c21, H[(p20 : Nat)]? = some (.inr (7, c21)) ∧ 1 < c21.length ∧ (∀ H22 : xH, H22 = H.set p20 (.inr (7, c21.set 1 (.int 0))) → uc = mc ∧ us ≤ ms ∧ Q (.inl none) H22)))))) ∧ (a17 = 0 → ∃ a23, gI H r0 9 10 a23 ∧ (∃ a24, gI H r0 9 11 a24 ∧ ((a24 ≤ a23 → ∃ p25, gR H r0 9 2 p25 ∧ (∃ a26, gI H p25 6 1 a26 ∧ ((a26 = 0 → uc = mc ∧ us ≤ ms ∧ Q (.inl none) H) ∧ (¬ a26 = 0 → ∃ p27, gR H r0 9 1 p27 ∧ (∃ c28, H[(p27 : Nat)]? = some (.inr (7, c28)) ∧ 1 < c28.length ∧ (∀ H29 : xH, H29 = H.set p27 (.inr (7, c28.set 1 (.int 0))) → uc = mc ∧ us ≤ ms ∧ Q (.inl none) H29)))))) ∧ (¬ a24 ≤ a23 → ∃ a30, gI H r0 9 10 a30 ∧ (xW l x d mc ms mUN_unpackTape n0 Q cl 69 [some (.ref r0), some (.int v1), some (.int v2), some (.int v3)] [.int a30, .int 11, .ref r0] H uc us)))))))) ∧ (¬ 32768 ≤ v3 → ∃ p31, gR H r0 9 1 p31 ∧ (∃ a32, gI H p31 7 1 a32 ∧ (∃ c33, H[(r0 : Nat)]? = some (.inr (9, c33)) ∧ 12 < c33.length ∧ (∀ H34 : xH, H34 = H.set r0 (.inr (9, c33.set 12 (.int a32))) → xW l x d mc ms mUN_unpackTape n0 Q false 33 [some (.ref r0), some (.int v1), some (.int v2), some (.int v3)] [.int v1, .ref r0] H34 uc us)))))) :
    xW l x d mc ms mUN_unpackTape n0 Q cl 21 [some (.ref r0), some (.int v1), some (.int v2), some (.int v3)] [] H uc us := by
  refine xs_iload_n rfl rfl ?_
  refine xs_if_eq (k' := 56) rfl rfl (fun hb => ?_) (fun hb => ?_)
  · have h := h.1 hb
    refine xs_aload_n rfl rfl ?_
    obtain ⟨p1, ⟨_, h1, h2⟩, h⟩ := h
    refine xs_getf rfl fl_9_41 h1 h2 ?_
    obtain ⟨a2, ⟨_, h1, h2⟩, h⟩ := h
    refine xs_getf rfl fl_9_95 h1 h2 ?_
    refine xs_if_ne (k' := 71) rfl rfl (fun hb => ?_) (fun hb => ?_)
    · have h := h.1 hb
      refine xs_aload_n rfl rfl ?_
      obtain ⟨p3, ⟨_, h1, h2⟩, h⟩ := h
      refine xs_getf rfl fl_9_41 h1 h2 ?_
      obtain ⟨a4, ⟨_, h1, h2⟩, h⟩ := h
      refine xs_getf rfl fl_9_95 h1 h2 ?_
      refine xs_if_eq (k' := 79) rfl rfl (fun hb => ?_) (fun hb => ?_)
      · have h := h.1 hb
        exact xs_vret rfl rfl h.1 h.2.1 h.2.2
      · have h := h.2 hb
        refine xs_aload_n rfl rfl ?_
        obtain ⟨p5, ⟨_, h1, h2⟩, h⟩ := h
        refine xs_getf rfl fl_9_38 h1 h2 ?_
        refine xs_iconstV (v := 0) rfl rfl ?_
        obtain ⟨c6, h1, h2, h⟩ := h
        refine xs_putf rfl fl_9_68 h1 (fun q hq => by cases hq; rfl) rfl h2 ?_
        have h := h _ rfl
        generalize H.set p5 (.inr (7, c6.set 1 (.int 0))) = H7 at h ⊢
        exact xs_vret rfl rfl h.1 h.2.1 h.2.2
    · have h := h.2 hb
      refine xs_aload_n rfl rfl ?_
      obtain ⟨a8, ⟨_, h1, h2⟩, h⟩ := h
      refine xs_getf rfl fl_9_74 h1 h2 ?_
      refine xs_aload_n rfl rfl ?_
      obtain ⟨a9, ⟨_, h1, h2⟩, h⟩ := h
      refine xs_getf rfl fl_9_77 h1 h2 ?_
      refine xs_icmp_ge (k' := 71) rfl rfl (fun hb => ?_) (fun hb => ?_)
      · have h := h.1 hb
        refine xs_aload_n rfl rfl ?_
        obtain ⟨p10, ⟨_, h1, h2⟩, h⟩ := h
        refine xs_getf rfl fl_9_41 h1 h2 ?_
        obtain ⟨a11, ⟨_, h1, h2⟩, h⟩ := h
        refine xs_getf rfl fl_9_95 h1 h2 ?_
        refine xs_if_eq (k' := 79) rfl rfl (fun hb => ?_) (fun hb => ?_)
        · have h := h.1 hb
          exact xs_vret rfl rfl h.1 h.2.1 h.2.2
        · have h := h.2 hb
          refine xs_aload_n rfl rfl ?_
          obtain ⟨p12, ⟨_, h1, h2⟩, h⟩ := h
          refine xs_getf rfl fl_9_38 h1 h2 ?_
          refine xs_iconstV (v := 0) rfl rfl ?_
          obtain ⟨c13, h1, h2, h⟩ := h
          refine xs_putf rfl fl_9_68 h1 (fun q hq => by cases hq; rfl) rfl h2 ?_
          have h := h _ rfl
          generalize H.set p12 (.inr (7, c13.set 1 (.int 0))) = H14 at h ⊢
          exact xs_vret rfl rfl h.1 h.2.1 h.2.2
      · have h := h.2 hb
        refine xs_aload_n rfl rfl ?_
        refine xs_bipushV (v := 11) rfl rfl ?_
        refine xs_aload_n rfl rfl ?_
        obtain ⟨a15, ⟨_, h1, h2⟩, h⟩ := h
        refine xs_getf rfl fl_9_74 h1 h2 ?_
        exact h
  · have h := h.2 hb
    refine xs_iload_n rfl rfl ?_
    refine xs_ldc rfl kc_9_80 ?_
    refine xs_icmp_ge (k' := 56) rfl rfl (fun hb => ?_) (fun hb => ?_)
    · have h := h.1 hb
      refine xs_aload_n rfl rfl ?_
      obtain ⟨p16, ⟨_, h1, h2⟩, h⟩ := h
      refine xs_getf rfl fl_9_41 h1 h2 ?_
      obtain ⟨a17, ⟨_, h1, h2⟩, h⟩ := h
      refine xs_getf rfl fl_9_95 h1 h2 ?_
      refine xs_if_ne (k' := 71) rfl rfl (fun hb => ?_) (fun hb => ?_)
      · have h := h.1 hb
        refine xs_aload_n rfl rfl ?_
        obtain ⟨p18, ⟨_, h1, h2⟩, h⟩ := h
        refine xs_getf rfl fl_9_41 h1 h2 ?_
        obtain ⟨a19, ⟨_, h1, h2⟩, h⟩ := h
        refine xs_getf rfl fl_9_95 h1 h2 ?_
        refine xs_if_eq (k' := 79) rfl rfl (fun hb => ?_) (fun hb => ?_)
        · have h := h.1 hb
          exact xs_vret rfl rfl h.1 h.2.1 h.2.2
        · have h := h.2 hb
          refine xs_aload_n rfl rfl ?_
          obtain ⟨p20, ⟨_, h1, h2⟩, h⟩ := h
          refine xs_getf rfl fl_9_38 h1 h2 ?_
          refine xs_iconstV (v := 0) rfl rfl ?_
          obtain ⟨c21, h1, h2, h⟩ := h
          refine xs_putf rfl fl_9_68 h1 (fun q hq => by cases hq; rfl) rfl h2 ?_
          have h := h _ rfl
          generalize H.set p20 (.inr (7, c21.set 1 (.int 0))) = H22 at h ⊢
          exact xs_vret rfl rfl h.1 h.2.1 h.2.2
      · have h := h.2 hb
        refine xs_aload_n rfl rfl ?_
        obtain ⟨a23, ⟨_, h1, h2⟩, h⟩ := h
        refine xs_getf rfl fl_9_74 h1 h2 ?_
        refine xs_aload_n rfl rfl ?_
        obtain ⟨a24, ⟨_, h1, h2⟩, h⟩ := h
        refine xs_getf rfl fl_9_77 h1 h2 ?_
        refine xs_icmp_ge (k' := 71) rfl rfl (fun hb => ?_) (fun hb => ?_)
        · have h := h.1 hb
          refine xs_aload_n rfl rfl ?_
          obtain ⟨p25, ⟨_, h1, h2⟩, h⟩ := h
          refine xs_getf rfl fl_9_41 h1 h2 ?_
          obtain ⟨a26, ⟨_, h1, h2⟩, h⟩ := h
          refine xs_getf rfl fl_9_95 h1 h2 ?_
          refine xs_if_eq (k' := 79) rfl rfl (fun hb => ?_) (fun hb => ?_)
          · have h := h.1 hb
            exact xs_vret rfl rfl h.1 h.2.1 h.2.2
          · have h := h.2 hb
            refine xs_aload_n rfl rfl ?_
            obtain ⟨p27, ⟨_, h1, h2⟩, h⟩ := h
            refine xs_getf rfl fl_9_38 h1 h2 ?_
            refine xs_iconstV (v := 0) rfl rfl ?_
            obtain ⟨c28, h1, h2, h⟩ := h
            refine xs_putf rfl fl_9_68 h1 (fun q hq => by cases hq; rfl) rfl h2 ?_
            have h := h _ rfl
            generalize H.set p27 (.inr (7, c28.set 1 (.int 0))) = H29 at h ⊢
            exact xs_vret rfl rfl h.1 h.2.1 h.2.2
        · have h := h.2 hb
          refine xs_aload_n rfl rfl ?_
          refine xs_bipushV (v := 11) rfl rfl ?_
          refine xs_aload_n rfl rfl ?_
          obtain ⟨a30, ⟨_, h1, h2⟩, h⟩ := h
          refine xs_getf rfl fl_9_74 h1 h2 ?_
          exact h
    · have h := h.2 hb
      refine xs_aload_n rfl rfl ?_
      refine xs_aload_n rfl rfl ?_
      obtain ⟨p31, ⟨_, h1, h2⟩, h⟩ := h
      refine xs_getf rfl fl_9_38 h1 h2 ?_
      obtain ⟨a32, ⟨_, h1, h2⟩, h⟩ := h
      refine xs_getf rfl fl_9_68 h1 h2 ?_
      obtain ⟨c33, h1, h2, h⟩ := h
      refine xs_putf rfl fl_9_81 h1 (fun q hq => by cases hq; rfl) rfl h2 ?_
      have h := h _ rfl
      generalize H.set r0 (.inr (9, c33.set 12 (.int a32))) = H34 at h ⊢
      refine xs_aload_n rfl rfl ?_
      refine xs_iload_n rfl rfl ?_
      exact h

set_option maxRecDepth 20000 in
theorem b_UN_unpackTape_34 {l : Launch} {x : xX} {d mc ms n0 uc us : Nat} {Q : xO → xH → Prop} {cl : Bool} {r0 : Nat} {v1 : Int32} {v2 : Int32} {v3 : Int32} {u0 : Int32} {H : xH}
    (h : (u0 = 0 → xW l x d mc ms mUN_unpackTape n0 Q cl 21 [some (.ref r0), some (.int v1), some (.int 0), some (.int (v3 + 1))] [] H uc us) ∧ (¬ u0 = 0 → xW l x d mc ms mUN_unpackTape n0 Q cl 36 [some (.ref r0), some (.int v1), some (.int v2), some (.int v3)] [.ref r0] H uc us)) :
    xW l x d mc ms mUN_unpackTape n0 Q cl 34 [some (.ref r0), some (.int v1), some (.int v2), some (.int v3)] [.int u0] H uc us := by
  refine xs_if_eq (k' := 52) rfl rfl (fun hb => ?_) (fun hb => ?_)
  · have h := h.1 hb
    refine xs_iconstV (v := 0) rfl rfl ?_
    refine xs_istore_n rfl (L' := [some (.ref r0), some (.int v1), some (.int 0), some (.int v3)]) rfl rfl ?_
    refine xs_iincV rfl (w := 1) rfl rfl (L' := [some (.ref r0), some (.int v1), some (.int 0), some (.int (v3 + 1))]) rfl rfl ?_
    refine xs_goto (k' := 21) rfl rfl ?_
    exact h
  · have h := h.2 hb
    refine xs_aload_n rfl rfl ?_
    exact h

set_option maxRecDepth 20000 in
theorem b_UN_unpackTape_37 {l : Launch} {x : xX} {d mc ms n0 uc us : Nat} {Q : xO → xH → Prop} {cl : Bool} {r0 : Nat} {v1 : Int32} {v2 : Int32} {v3 : Int32} {u0 : Int32} {H : xH}
    (h : (u0 = 0 → xW l x d mc ms mUN_unpackTape n0 Q cl 21 [some (.ref r0), some (.int v1), some (.int 0), some (.int (v3 + 1))] [] H uc us) ∧ (¬ u0 = 0 → xW l x d mc ms mUN_unpackTape n0 Q cl 40 [some (.ref r0), some (.int v1), some (.int v2), some (.int v3)] [.int v1, .ref r0] H uc us)) :
    xW l x d mc ms mUN_unpackTape n0 Q cl 37 [some (.ref r0), some (.int v1), some (.int v2), some (.int v3)] [.int u0] H uc us := by
  refine xs_if_eq (k' := 52) rfl rfl (fun hb => ?_) (fun hb => ?_)
  · have h := h.1 hb
    refine xs_iconstV (v := 0) rfl rfl ?_
    refine xs_istore_n rfl (L' := [some (.ref r0), some (.int v1), some (.int 0), some (.int v3)]) rfl rfl ?_
    refine xs_iincV rfl (w := 1) rfl rfl (L' := [some (.ref r0), some (.int v1), some (.int 0), some (.int (v3 + 1))]) rfl rfl ?_
    refine xs_goto (k' := 21) rfl rfl ?_
    exact h
  · have h := h.2 hb
    refine xs_aload_n rfl rfl ?_
    refine xs_iload_n rfl rfl ?_
    exact h

set_option maxRecDepth 20000 in
theorem b_UN_unpackTape_41 {l : Launch} {x : xX} {d mc ms n0 uc us : Nat} {Q : xO → xH → Prop} {cl : Bool} {r0 : Nat} {v1 : Int32} {v2 : Int32} {v3 : Int32} {u0 : Int32} {H : xH}
    (h : (u0 = 0 → xW l x d mc ms mUN_unpackTape n0 Q cl 21 [some (.ref r0), some (.int v1), some (.int 0), some (.int (v3 + 1))] [] H uc us) ∧ (¬ u0 = 0 → (¬ v1 = 2 → xW l x d mc ms mUN_unpackTape n0 Q cl 21 [some (.ref r0), some (.int v1), some (.int 0), some (.int (v3 + 1))] [] H uc us) ∧ (v1 = 2 → ∃ a1, gI H r0 9 10 a1 ∧ (∃ a2, gI H r0 9 11 a2 ∧ ((a2 ≤ a1 → xW l x d mc ms mUN_unpackTape n0 Q cl 21 [some (.ref r0), some (.int v1), some (.int 0), some (.int (v3 + 1))] [] H uc us) ∧ (¬ a2 ≤ a1 → xW l x d mc ms mUN_unpackTape n0 Q cl 21 [some (.ref r0), some (.int v1), some (.int 1), some (.int (v3 + 1))] [] H uc us)))))) :
    xW l x d mc ms mUN_unpackTape n0 Q cl 41 [some (.ref r0), some (.int v1), some (.int v2), some (.int v3)] [.int u0] H uc us := by
  refine xs_if_eq (k' := 52) rfl rfl (fun hb => ?_) (fun hb => ?_)
  · have h := h.1 hb
    refine xs_iconstV (v := 0) rfl rfl ?_
    refine xs_istore_n rfl (L' := [some (.ref r0), some (.int v1), some (.int 0), some (.int v3)]) rfl rfl ?_
    refine xs_iincV rfl (w := 1) rfl rfl (L' := [some (.ref r0), some (.int v1), some (.int 0), some (.int (v3 + 1))]) rfl rfl ?_
    refine xs_goto (k' := 21) rfl rfl ?_
    exact h
  · have h := h.2 hb
    refine xs_iload_n rfl rfl ?_
    refine xs_iconstV (v := 2) rfl rfl ?_
    refine xs_icmp_ne (k' := 52) rfl rfl (fun hb => ?_) (fun hb => ?_)
    · have h := h.1 hb
      refine xs_iconstV (v := 0) rfl rfl ?_
      refine xs_istore_n rfl (L' := [some (.ref r0), some (.int v1), some (.int 0), some (.int v3)]) rfl rfl ?_
      refine xs_iincV rfl (w := 1) rfl rfl (L' := [some (.ref r0), some (.int v1), some (.int 0), some (.int (v3 + 1))]) rfl rfl ?_
      refine xs_goto (k' := 21) rfl rfl ?_
      exact h
    · have h := h.2 hb
      refine xs_aload_n rfl rfl ?_
      obtain ⟨a1, ⟨_, h1, h2⟩, h⟩ := h
      refine xs_getf rfl fl_9_74 h1 h2 ?_
      refine xs_aload_n rfl rfl ?_
      obtain ⟨a2, ⟨_, h1, h2⟩, h⟩ := h
      refine xs_getf rfl fl_9_77 h1 h2 ?_
      refine xs_icmp_ge (k' := 52) rfl rfl (fun hb => ?_) (fun hb => ?_)
      · have h := h.1 hb
        refine xs_iconstV (v := 0) rfl rfl ?_
        refine xs_istore_n rfl (L' := [some (.ref r0), some (.int v1), some (.int 0), some (.int v3)]) rfl rfl ?_
        refine xs_iincV rfl (w := 1) rfl rfl (L' := [some (.ref r0), some (.int v1), some (.int 0), some (.int (v3 + 1))]) rfl rfl ?_
        refine xs_goto (k' := 21) rfl rfl ?_
        exact h
      · have h := h.2 hb
        refine xs_iconstV (v := 1) rfl rfl ?_
        refine xs_goto (k' := 53) rfl rfl ?_
        refine xs_istore_n rfl (L' := [some (.ref r0), some (.int v1), some (.int 1), some (.int v3)]) rfl rfl ?_
        refine xs_iincV rfl (w := 1) rfl rfl (L' := [some (.ref r0), some (.int v1), some (.int 1), some (.int (v3 + 1))]) rfl rfl ?_
        refine xs_goto (k' := 21) rfl rfl ?_
        exact h

set_option maxRecDepth 20000 in
theorem b_UN_unpackTape_70 {l : Launch} {x : xX} {d mc ms n0 uc us : Nat} {Q : xO → xH → Prop} {cl : Bool} {r0 : Nat} {v1 : Int32} {v2 : Int32} {v3 : Int32} {u0 : Int32} {H : xH}
    (h : ∃ p1, gR H r0 9 2 p1 ∧ (∃ a2, gI H p1 6 1 a2 ∧ ((a2 = 0 → uc = mc ∧ us ≤ ms ∧ Q (.inl none) H) ∧ (¬ a2 = 0 → ∃ p3, gR H r0 9 1 p3 ∧ (∃ c4, H[(p3 : Nat)]? = some (.inr (7, c4)) ∧ 1 < c4.length ∧ (∀ H5 : xH, H5 = H.set p3 (.inr (7, c4.set 1 (.int 0))) → uc = mc ∧ us ≤ ms ∧ Q (.inl none) H5)))))) :
    xW l x d mc ms mUN_unpackTape n0 Q cl 70 [some (.ref r0), some (.int v1), some (.int v2), some (.int v3)] [.int u0] H uc us := by
  refine xs_pop rfl rfl ?_
  refine xs_aload_n rfl rfl ?_
  obtain ⟨p1, ⟨_, h1, h2⟩, h⟩ := h
  refine xs_getf rfl fl_9_41 h1 h2 ?_
  obtain ⟨a2, ⟨_, h1, h2⟩, h⟩ := h
  refine xs_getf rfl fl_9_95 h1 h2 ?_
  refine xs_if_eq (k' := 79) rfl rfl (fun hb => ?_) (fun hb => ?_)
  · have h := h.1 hb
    exact xs_vret rfl rfl h.1 h.2.1 h.2.2
  · have h := h.2 hb
    refine xs_aload_n rfl rfl ?_
    obtain ⟨p3, ⟨_, h1, h2⟩, h⟩ := h
    refine xs_getf rfl fl_9_38 h1 h2 ?_
    refine xs_iconstV (v := 0) rfl rfl ?_
    obtain ⟨c4, h1, h2, h⟩ := h
    refine xs_putf rfl fl_9_68 h1 (fun q hq => by cases hq; rfl) rfl h2 ?_
    have h := h _ rfl
    generalize H.set p3 (.inr (7, c4.set 1 (.int 0))) = H5 at h ⊢
    exact xs_vret rfl rfl h.1 h.2.1 h.2.2

set_option maxRecDepth 20000 in
theorem b_UN_readHead_0 {l : Launch} {x : xX} {d mc ms n0 uc us : Nat} {Q : xO → xH → Prop} {cl : Bool} {r0 : Nat} {v1 : Int32} {H : xH}
    (h : (¬ v1 = 0 → (¬ v1 = 1 → xW l x d mc ms mUN_readHead n0 Q cl 11 [some (.ref r0), some (.int v1)] [.ref r0] H uc us) ∧ (v1 = 1 → xW l x d mc ms mUN_readHead n0 Q cl 8 [some (.ref r0), some (.int v1)] [.ref r0] H uc us)) ∧ (v1 = 0 → narrow .boolean (.int 1) = .int 1 ∧ uc = mc ∧ us ≤ ms ∧ Q (.inl (some (.int 1))) H)) :
    xW l x d mc ms mUN_readHead n0 Q cl 0 [some (.ref r0), some (.int v1)] [] H uc us := by
  refine xs_iload_n rfl rfl ?_
  refine xs_if_ne (k' := 4) rfl rfl (fun hb => ?_) (fun hb => ?_)
  · have h := h.1 hb
    refine xs_iload_n rfl rfl ?_
    refine xs_iconstV (v := 1) rfl rfl ?_
    refine xs_icmp_ne (k' := 10) rfl rfl (fun hb => ?_) (fun hb => ?_)
    · have h := h.1 hb
      refine xs_aload_n rfl rfl ?_
      exact h
    · have h := h.2 hb
      refine xs_aload_n rfl rfl ?_
      exact h
  · have h := h.2 hb
    refine xs_iconstV (v := 1) rfl rfl ?_
    exact xs_zret rfl rfl h.1 h.2.1 h.2.2.1 h.2.2.2

set_option maxRecDepth 20000 in
theorem b_UN_readHead_9 {l : Launch} {x : xX} {d mc ms n0 uc us : Nat} {Q : xO → xH → Prop} {cl : Bool} {r0 : Nat} {v1 : Int32} {u0 : Int32} {H : xH}
    (h : xW l x d mc ms mUN_readHead n0 Q cl 12 [some (.ref r0), some (.int v1)] [.int u0] H uc us) :
    xW l x d mc ms mUN_readHead n0 Q cl 9 [some (.ref r0), some (.int v1)] [.int u0] H uc us := by
  refine xs_goto (k' := 12) rfl rfl ?_
  exact h

set_option maxRecDepth 20000 in
theorem b_UN_readHead_12 {l : Launch} {x : xX} {d mc ms n0 uc us : Nat} {Q : xO → xH → Prop} {cl : Bool} {r0 : Nat} {v1 : Int32} {u0 : Int32} {H : xH}
    (h : narrow .boolean (.int u0) = .int u0 ∧ uc = mc ∧ us ≤ ms ∧ Q (.inl (some (.int u0))) H) :
    xW l x d mc ms mUN_readHead n0 Q cl 12 [some (.ref r0), some (.int v1)] [.int u0] H uc us := by
  exact xs_zret rfl rfl h.1 h.2.1 h.2.2.1 h.2.2.2

set_option maxRecDepth 20000 in
theorem b_UN_readShortHead_0 {l : Launch} {x : xX} {d mc ms n0 uc us : Nat} {Q : xO → xH → Prop} {cl : Bool} {r0 : Nat} {H : xH}
    (h : xW l x d mc ms mUN_readShortHead n0 Q cl 2 [some (.ref r0), none, none] [.int 8, .ref r0] H uc us) :
    xW l x d mc ms mUN_readShortHead n0 Q cl 0 [some (.ref r0), none, none] [] H uc us := by
  refine xs_aload_n rfl rfl ?_
  refine xs_bipushV (v := 8) rfl rfl ?_
  exact h

set_option maxRecDepth 20000 in
theorem b_UN_readShortHead_3 {l : Launch} {x : xX} {d mc ms n0 uc us : Nat} {Q : xO → xH → Prop} {cl : Bool} {r0 : Nat} {u0 : Int32} {H : xH}
    (h : (¬ u0 = (-1) → (¬ (u0 &&& 15) = 8 → ∃ a1, gI H r0 9 10 a1 ∧ (xW l x d mc ms mUN_readShortHead n0 Q cl 25 [some (.ref r0), some (.int u0), none] [.int (a1 - 8), .int 12, .ref r0] H uc us)) ∧ ((u0 &&& 15) = 8 → ((u0 >>> ((4 : Int32) &&& 31)) ≤ 7 → xW l x d mc ms mUN_readShortHead n0 Q cl 29 [some (.ref r0), some (.int u0), none] [.int 8, .ref r0] H uc us) ∧ (¬ (u0 >>> ((4 : Int32) &&& 31)) ≤ 7 → ∃ a2, gI H r0 9 10 a2 ∧ (xW l x d mc ms mUN_readShortHead n0 Q cl 25 [some (.ref r0), some (.int u0), none] [.int (a2 - 8), .int 12, .ref r0] H uc us)))) ∧ (u0 = (-1) → narrow .boolean (.int 0) = .int 0 ∧ uc = mc ∧ us ≤ ms ∧ Q (.inl (some (.int 0))) H)) :
    xW l x d mc ms mUN_readShortHead n0 Q cl 3 [some (.ref r0), none, none] [.int u0] H uc us := by
  refine xs_istore_n rfl (L' := [some (.ref r0), some (.int u0), none]) rfl rfl ?_
  refine xs_iload_n rfl rfl ?_
  refine xs_iconstV (v := (-1)) rfl rfl ?_
  refine xs_icmp_ne (k' := 9) rfl rfl (fun hb => ?_) (fun hb => ?_)
  · have h := h.1 hb
    refine xs_iload_n rfl rfl ?_
    refine xs_bipushV (v := 15) rfl rfl ?_
    refine xs_iand rfl ?_
    refine xs_bipushV (v := 8) rfl rfl ?_
    refine xs_icmp_ne (k' := 19) rfl rfl (fun hb => ?_) (fun hb => ?_)
    · have h := h.1 hb
      refine xs_aload_n rfl rfl ?_
      refine xs_bipushV (v := 12) rfl rfl ?_
      refine xs_aload_n rfl rfl ?_
      obtain ⟨a1, ⟨_, h1, h2⟩, h⟩ := h
      refine xs_getf rfl fl_9_74 h1 h2 ?_
      refine xs_bipushV (v := 8) rfl rfl ?_
      refine xs_isub rfl ?_
      exact h
    · have h := h.2 hb
      refine xs_iload_n rfl rfl ?_
      refine xs_iconstV (v := 4) rfl rfl ?_
      refine xs_ishr rfl ?_
      refine xs_bipushV (v := 7) rfl rfl ?_
      refine xs_icmp_le (k' := 27) rfl rfl (fun hb => ?_) (fun hb => ?_)
      · have h := h.1 hb
        refine xs_aload_n rfl rfl ?_
        refine xs_bipushV (v := 8) rfl rfl ?_
        exact h
      · have h := h.2 hb
        refine xs_aload_n rfl rfl ?_
        refine xs_bipushV (v := 12) rfl rfl ?_
        refine xs_aload_n rfl rfl ?_
        obtain ⟨a2, ⟨_, h1, h2⟩, h⟩ := h
        refine xs_getf rfl fl_9_74 h1 h2 ?_
        refine xs_bipushV (v := 8) rfl rfl ?_
        refine xs_isub rfl ?_
        exact h
  · have h := h.2 hb
    refine xs_iconstV (v := 0) rfl rfl ?_
    exact xs_zret rfl rfl h.1 h.2.1 h.2.2.1 h.2.2.2

set_option maxRecDepth 20000 in
theorem b_UN_readShortHead_26 {l : Launch} {x : xX} {d mc ms n0 uc us : Nat} {Q : xO → xH → Prop} {cl : Bool} {r0 : Nat} {v1 : Int32} {u0 : Int32} {H : xH}
    (h : narrow .boolean (.int u0) = .int u0 ∧ uc = mc ∧ us ≤ ms ∧ Q (.inl (some (.int u0))) H) :
    xW l x d mc ms mUN_readShortHead n0 Q cl 26 [some (.ref r0), some (.int v1), none] [.int u0] H uc us := by
  exact xs_zret rfl rfl h.1 h.2.1 h.2.2.1 h.2.2.2

set_option maxRecDepth 20000 in
theorem b_UN_readShortHead_30 {l : Launch} {x : xX} {d mc ms n0 uc us : Nat} {Q : xO → xH → Prop} {cl : Bool} {r0 : Nat} {v1 : Int32} {u0 : Int32} {H : xH}
    (h : (¬ u0 = (-1) → (¬ (u0 &&& 32) = 0 → ∃ a1, gI H r0 9 10 a1 ∧ (xW l x d mc ms mUN_readShortHead n0 Q cl 54 [some (.ref r0), some (.int v1), some (.int u0)] [.int (a1 - 8), .int 12, .ref r0] H uc us)) ∧ ((u0 &&& 32) = 0 → (((((256 : Int32) * v1) + u0) - (((256 : Int32) * v1) + u0) / 31 * 31) = 0 → narrow .boolean (.int 1) = .int 1 ∧ uc = mc ∧ us ≤ ms ∧ Q (.inl (some (.int 1))) H) ∧ (¬ ((((256 : Int32) * v1) + u0) - (((256 : Int32) * v1) + u0) / 31 * 31) = 0 → ∃ a2, gI H r0 9 10 a2 ∧ (xW l x d mc ms mUN_readShortHead n0 Q cl 54 [some (.ref r0), some (.int v1), some (.int u0)] [.int (a2 - 8), .int 12, .ref r0] H uc us)))) ∧ (u0 = (-1) → narrow .boolean (.int 0) = .int 0 ∧ uc = mc ∧ us ≤ ms ∧ Q (.inl (some (.int 0))) H)) :
    xW l x d mc ms mUN_readShortHead n0 Q cl 30 [some (.ref r0), some (.int v1), none] [.int u0] H uc us := by
  refine xs_istore_n rfl (L' := [some (.ref r0), some (.int v1), some (.int u0)]) rfl rfl ?_
  refine xs_iload_n rfl rfl ?_
  refine xs_iconstV (v := (-1)) rfl rfl ?_
  refine xs_icmp_ne (k' := 36) rfl rfl (fun hb => ?_) (fun hb => ?_)
  · have h := h.1 hb
    refine xs_iload_n rfl rfl ?_
    refine xs_bipushV (v := 32) rfl rfl ?_
    refine xs_iand rfl ?_
    refine xs_if_ne (k' := 48) rfl rfl (fun hb => ?_) (fun hb => ?_)
    · have h := h.1 hb
      refine xs_aload_n rfl rfl ?_
      refine xs_bipushV (v := 12) rfl rfl ?_
      refine xs_aload_n rfl rfl ?_
      obtain ⟨a1, ⟨_, h1, h2⟩, h⟩ := h
      refine xs_getf rfl fl_9_74 h1 h2 ?_
      refine xs_bipushV (v := 8) rfl rfl ?_
      refine xs_isub rfl ?_
      exact h
    · have h := h.2 hb
      refine xs_sipushV (v := 256) rfl rfl ?_
      refine xs_iload_n rfl rfl ?_
      refine xs_imul rfl ?_
      refine xs_iload_n rfl rfl ?_
      refine xs_iadd rfl ?_
      refine xs_bipushV (v := 31) rfl rfl ?_
      refine xs_irem rfl (by decide) ?_
      refine xs_if_eq (k' := 56) rfl rfl (fun hb => ?_) (fun hb => ?_)
      · have h := h.1 hb
        refine xs_iconstV (v := 1) rfl rfl ?_
        exact xs_zret rfl rfl h.1 h.2.1 h.2.2.1 h.2.2.2
      · have h := h.2 hb
        refine xs_aload_n rfl rfl ?_
        refine xs_bipushV (v := 12) rfl rfl ?_
        refine xs_aload_n rfl rfl ?_
        obtain ⟨a2, ⟨_, h1, h2⟩, h⟩ := h
        refine xs_getf rfl fl_9_74 h1 h2 ?_
        refine xs_bipushV (v := 8) rfl rfl ?_
        refine xs_isub rfl ?_
        exact h
  · have h := h.2 hb
    refine xs_iconstV (v := 0) rfl rfl ?_
    exact xs_zret rfl rfl h.1 h.2.1 h.2.2.1 h.2.2.2

set_option maxRecDepth 20000 in
theorem b_UN_readShortHead_55 {l : Launch} {x : xX} {d mc ms n0 uc us : Nat} {Q : xO → xH → Prop} {cl : Bool} {r0 : Nat} {v1 : Int32} {v2 : Int32} {u0 : Int32} {H : xH}
    (h : narrow .boolean (.int u0) = .int u0 ∧ uc = mc ∧ us ≤ ms ∧ Q (.inl (some (.int u0))) H) :
    xW l x d mc ms mUN_readShortHead n0 Q cl 55 [some (.ref r0), some (.int v1), some (.int v2)] [.int u0] H uc us := by
  exact xs_zret rfl rfl h.1 h.2.1 h.2.2.1 h.2.2.2

set_option maxRecDepth 20000 in
theorem b_UN_readNumber_0 {l : Launch} {x : xX} {d mc ms n0 uc us : Nat} {Q : xO → xH → Prop} {cl : Bool} {r0 : Nat} {v1 : Int32} {H : xH}
    (h : ∃ a1, gI H r0 9 11 a1 ∧ (∃ a2, gI H r0 9 10 a2 ∧ ((v1 ≤ (a1 - a2) → xW l x d mc ms mUN_readNumber n0 Q cl 19 [some (.ref r0), some (.int v1), some (.int 0), some (.int 0)] [] H uc us) ∧ (¬ v1 ≤ (a1 - a2) → ∃ a3, gI H r0 9 11 a3 ∧ (xW l x d mc ms mUN_readNumber n0 Q cl 11 [some (.ref r0), some (.int v1), none, none] [.int a3, .int 1, .ref r0] H uc us))))) :
    xW l x d mc ms mUN_readNumber n0 Q cl 0 [some (.ref r0), some (.int v1), none, none] [] H uc us := by
  refine xs_aload_n rfl rfl ?_
  obtain ⟨a1, ⟨_, h1, h2⟩, h⟩ := h
  refine xs_getf rfl fl_9_77 h1 h2 ?_
  refine xs_aload_n rfl rfl ?_
  obtain ⟨a2, ⟨_, h1, h2⟩, h⟩ := h
  refine xs_getf rfl fl_9_74 h1 h2 ?_
  refine xs_isub rfl ?_
  refine xs_iload_n rfl rfl ?_
  refine xs_icmp_ge (k' := 15) rfl rfl (fun hb => ?_) (fun hb => ?_)
  · have h := h.1 hb
    refine xs_iconstV (v := 0) rfl rfl ?_
    refine xs_istore_n rfl (L' := [some (.ref r0), some (.int v1), some (.int 0), none]) rfl rfl ?_
    refine xs_iconstV (v := 0) rfl rfl ?_
    refine xs_istore_n rfl (L' := [some (.ref r0), some (.int v1), some (.int 0), some (.int 0)]) rfl rfl ?_
    exact h
  · have h := h.2 hb
    refine xs_aload_n rfl rfl ?_
    refine xs_iconstV (v := 1) rfl rfl ?_
    refine xs_aload_n rfl rfl ?_
    obtain ⟨a3, ⟨_, h1, h2⟩, h⟩ := h
    refine xs_getf rfl fl_9_77 h1 h2 ?_
    exact h

set_option maxRecDepth 20000 in
theorem b_UN_readNumber_12 {l : Launch} {x : xX} {d mc ms n0 uc us : Nat} {Q : xO → xH → Prop} {cl : Bool} {r0 : Nat} {v1 : Int32} {u0 : Int32} {H : xH}
    (h : uc = mc ∧ us ≤ ms ∧ Q (.inl (some (.int (-1)))) H) :
    xW l x d mc ms mUN_readNumber n0 Q cl 12 [some (.ref r0), some (.int v1), none, none] [.int u0] H uc us := by
  refine xs_pop rfl rfl ?_
  refine xs_iconstV (v := (-1)) rfl rfl ?_
  exact xs_iret rfl rfl h.1 h.2.1 h.2.2

set_option maxRecDepth 20000 in
theorem b_UN_readNumber_19 {l : Launch} {x : xX} {d mc ms n0 uc us : Nat} {Q : xO → xH → Prop} {cl : Bool} {r0 : Nat} {v1 : Int32} {v2 : Int32} {v3 : Int32} {H : xH}
    (h : (v1 ≤ v3 → uc = mc ∧ us ≤ ms ∧ Q (.inl (some (.int v2))) H) ∧ (¬ v1 ≤ v3 → ∃ p1, gR H r0 9 0 p1 ∧ (∃ p2, gR H p1 7 0 p2 ∧ (∃ a3, gI H r0 9 10 a3 ∧ (∃ n4 f5, H[(p2 : Nat)]? = some (.inl (1, n4, .inl f5)) ∧ vp_in (a3 >>> ((3 : Int32) &&& 31)) n4 ∧ (∃ a6, gI H r0 9 10 a6 ∧ (∃ a7, gI H r0 9 10 a7 ∧ (∃ c8, H[(r0 : Nat)]? = some (.inr (9, c8)) ∧ 10 < c8.length ∧ (∀ H9 : xH, H9 = H.set r0 (.inr (9, c8.set 10 (.int (a7 + 1)))) → xW l x d mc ms mUN_readNumber n0 Q false 19 [some (.ref r0), some (.int v1), some (.int (v2 ||| ((((f5 (a3 >>> ((3 : Int32) &&& 31)).toNatClampNeg) >>> (((a6 &&& 7) : Int32) &&& 31)) &&& 1) <<< ((v3 : Int32) &&& 31)))), some (.int (v3 + 1))] [] H9 uc us))))))))) :
    xW l x d mc ms mUN_readNumber n0 Q cl 19 [some (.ref r0), some (.int v1), some (.int v2), some (.int v3)] [] H uc us := by
  refine xs_iload_n rfl rfl ?_
  refine xs_iload_n rfl rfl ?_
  refine xs_icmp_ge (k' := 50) rfl rfl (fun hb => ?_) (fun hb => ?_)
  · have h := h.1 hb
    refine xs_iload_n rfl rfl ?_
    exact xs_iret rfl rfl h.1 h.2.1 h.2.2
  · have h := h.2 hb
    refine xs_iload_n rfl rfl ?_
    refine xs_aload_n rfl rfl ?_
    obtain ⟨p1, ⟨_, h1, h2⟩, h⟩ := h
    refine xs_getf rfl fl_9_34 h1 h2 ?_
    obtain ⟨p2, ⟨_, h1, h2⟩, h⟩ := h
    refine xs_getf rfl fl_9_144 h1 h2 ?_
    refine xs_aload_n rfl rfl ?_
    obtain ⟨a3, ⟨_, h1, h2⟩, h⟩ := h
    refine xs_getf rfl fl_9_74 h1 h2 ?_
    refine xs_iconstV (v := 3) rfl rfl ?_
    refine xs_ishr rfl ?_
    obtain ⟨n4, f5, h1, h2, h⟩ := h
    refine xs_bald rfl h1 h2 ?_
    refine xs_aload_n rfl rfl ?_
    obtain ⟨a6, ⟨_, h1, h2⟩, h⟩ := h
    refine xs_getf rfl fl_9_74 h1 h2 ?_
    refine xs_bipushV (v := 7) rfl rfl ?_
    refine xs_iand rfl ?_
    refine xs_ishr rfl ?_
    refine xs_iconstV (v := 1) rfl rfl ?_
    refine xs_iand rfl ?_
    refine xs_iload_n rfl rfl ?_
    refine xs_ishl rfl ?_
    refine xs_ior rfl ?_
    refine xs_istore_n rfl (L' := [some (.ref r0), some (.int v1), some (.int (v2 ||| ((((f5 (a3 >>> ((3 : Int32) &&& 31)).toNatClampNeg) >>> (((a6 &&& 7) : Int32) &&& 31)) &&& 1) <<< ((v3 : Int32) &&& 31)))), some (.int v3)]) rfl rfl ?_
    refine xs_aload_n rfl rfl ?_
    refine xs_dup rfl rfl ?_
    obtain ⟨a7, ⟨_, h1, h2⟩, h⟩ := h
    refine xs_getf rfl fl_9_74 h1 h2 ?_
    refine xs_iconstV (v := 1) rfl rfl ?_
    refine xs_iadd rfl ?_
    obtain ⟨c8, h1, h2, h⟩ := h
    refine xs_putf rfl fl_9_74 h1 (fun q hq => by cases hq; rfl) rfl h2 ?_
    have h := h _ rfl
    generalize H.set r0 (.inr (9, c8.set 10 (.int (a7 + 1)))) = H9 at h ⊢
    refine xs_iincV rfl (w := 1) rfl rfl (L' := [some (.ref r0), some (.int v1), some (.int (v2 ||| ((((f5 (a3 >>> ((3 : Int32) &&& 31)).toNatClampNeg) >>> (((a6 &&& 7) : Int32) &&& 31)) &&& 1) <<< ((v3 : Int32) &&& 31)))), some (.int (v3 + 1))]) rfl rfl ?_
    refine xs_goto (k' := 19) rfl rfl ?_
    exact h

set_option maxRecDepth 20000 in
theorem b_UN_fail_0 {l : Launch} {x : xX} {d mc ms n0 uc us : Nat} {Q : xO → xH → Prop} {cl : Bool} {r0 : Nat} {v1 : Int32} {v2 : Int32} {H : xH}
    (h : ∃ p1, gR H r0 9 2 p1 ∧ (∃ c2, H[(p1 : Nat)]? = some (.inr (6, c2)) ∧ 1 < c2.length ∧ (∀ H3 : xH, H3 = H.set p1 (.inr (6, c2.set 1 (.int v1))) → ∃ p4, gR H3 r0 9 2 p4 ∧ (∃ c5, H3[(p4 : Nat)]? = some (.inr (6, c5)) ∧ 2 < c5.length ∧ (∀ H6 : xH, H6 = H3.set p4 (.inr (6, c5.set 2 (.int v2))) → narrow .boolean (.int 0) = .int 0 ∧ uc = mc ∧ us ≤ ms ∧ Q (.inl (some (.int 0))) H6))))) :
    xW l x d mc ms mUN_fail n0 Q cl 0 [some (.ref r0), some (.int v1), some (.int v2)] [] H uc us := by
  refine xs_aload_n rfl rfl ?_
  obtain ⟨p1, ⟨_, h1, h2⟩, h⟩ := h
  refine xs_getf rfl fl_9_41 h1 h2 ?_
  refine xs_iload_n rfl rfl ?_
  obtain ⟨c2, h1, h2, h⟩ := h
  refine xs_putf rfl fl_9_95 h1 (fun q hq => by cases hq; rfl) rfl h2 ?_
  have h := h _ rfl
  generalize H.set p1 (.inr (6, c2.set 1 (.int v1))) = H3 at h ⊢
  refine xs_aload_n rfl rfl ?_
  obtain ⟨p4, ⟨_, h1, h2⟩, h⟩ := h
  refine xs_getf rfl fl_9_41 h1 h2 ?_
  refine xs_iload_n rfl rfl ?_
  obtain ⟨c5, h1, h2, h⟩ := h
  refine xs_putf rfl fl_9_102 h1 (fun q hq => by cases hq; rfl) rfl h2 ?_
  have h := h _ rfl
  generalize H3.set p4 (.inr (6, c5.set 2 (.int v2))) = H6 at h ⊢
  refine xs_iconstV (v := 0) rfl rfl ?_
  exact xs_zret rfl rfl h.1 h.2.1 h.2.2.1 h.2.2.2

set_option maxRecDepth 20000 in
theorem b_UN_readLongHead_0 {l : Launch} {x : xX} {d mc ms n0 uc us : Nat} {Q : xO → xH → Prop} {cl : Bool} {r0 : Nat} {H : xH}
    (h : ∃ a1, gI H r0 9 10 a1 ∧ (xW l x d mc ms mUN_readLongHead n0 Q cl 7 [some (.ref r0), some (.int (a1 / 8)), none, none] [.int 31, .ref r0] H uc us)) :
    xW l x d mc ms mUN_readLongHead n0 Q cl 0 [some (.ref r0), none, none, none] [] H uc us := by
  refine xs_aload_n rfl rfl ?_
  obtain ⟨a1, ⟨_, h1, h2⟩, h⟩ := h
  refine xs_getf rfl fl_9_74 h1 h2 ?_
  refine xs_bipushV (v := 8) rfl rfl ?_
  refine xs_idiv rfl (by decide) ?_
  refine xs_istore_n rfl (L' := [some (.ref r0), some (.int (a1 / 8)), none, none]) rfl rfl ?_
  refine xs_aload_n rfl rfl ?_
  refine xs_bipushV (v := 31) rfl rfl ?_
  exact h

set_option maxRecDepth 20000 in
theorem b_UN_readLongHead_8 {l : Launch} {x : xX} {d mc ms n0 uc us : Nat} {Q : xO → xH → Prop} {cl : Bool} {r0 : Nat} {v1 : Int32} {u0 : Int32} {H : xH}
    (h : (u0 = 0 → narrow .boolean (.int 0) = .int 0 ∧ uc = mc ∧ us ≤ ms ∧ Q (.inl (some (.int 0))) H) ∧ (¬ u0 = 0 → xW l x d mc ms mUN_readLongHead n0 Q cl 11 [some (.ref r0), some (.int v1), none, none] [.int 139, .ref r0] H uc us)) :
    xW l x d mc ms mUN_readLongHead n0 Q cl 8 [some (.ref r0), some (.int v1), none, none] [.int u0] H uc us := by
  refine xs_if_eq (k' := 17) rfl rfl (fun hb => ?_) (fun hb => ?_)
  · have h := h.1 hb
    refine xs_iconstV (v := 0) rfl rfl ?_
    exact xs_zret rfl rfl h.1 h.2.1 h.2.2.1 h.2.2.2
  · have h := h.2 hb
    refine xs_aload_n rfl rfl ?_
    refine xs_sipushV (v := 139) rfl rfl ?_
    exact h

set_option maxRecDepth 20000 in
theorem b_UN_readLongHead_12 {l : Launch} {x : xX} {d mc ms n0 uc us : Nat} {Q : xO → xH → Prop} {cl : Bool} {r0 : Nat} {v1 : Int32} {u0 : Int32} {H : xH}
    (h : (u0 = 0 → narrow .boolean (.int 0) = .int 0 ∧ uc = mc ∧ us ≤ ms ∧ Q (.inl (some (.int 0))) H) ∧ (¬ u0 = 0 → xW l x d mc ms mUN_readLongHead n0 Q cl 15 [some (.ref r0), some (.int v1), none, none] [.int 8, .ref r0] H uc us)) :
    xW l x d mc ms mUN_readLongHead n0 Q cl 12 [some (.ref r0), some (.int v1), none, none] [.int u0] H uc us := by
  refine xs_if_eq (k' := 17) rfl rfl (fun hb => ?_) (fun hb => ?_)
  · have h := h.1 hb
    refine xs_iconstV (v := 0) rfl rfl ?_
    exact xs_zret rfl rfl h.1 h.2.1 h.2.2.1 h.2.2.2
  · have h := h.2 hb
    refine xs_aload_n rfl rfl ?_
    refine xs_bipushV (v := 8) rfl rfl ?_
    exact h

set_option maxRecDepth 20000 in
theorem b_UN_readLongHead_16 {l : Launch} {x : xX} {d mc ms n0 uc us : Nat} {Q : xO → xH → Prop} {cl : Bool} {r0 : Nat} {v1 : Int32} {u0 : Int32} {H : xH}
    (h : (¬ u0 = 0 → xW l x d mc ms mUN_readLongHead n0 Q cl 21 [some (.ref r0), some (.int v1), none, none] [.int 8, .ref r0] H uc us) ∧ (u0 = 0 → narrow .boolean (.int 0) = .int 0 ∧ uc = mc ∧ us ≤ ms ∧ Q (.inl (some (.int 0))) H)) :
    xW l x d mc ms mUN_readLongHead n0 Q cl 16 [some (.ref r0), some (.int v1), none, none] [.int u0] H uc us := by
  refine xs_if_ne (k' := 19) rfl rfl (fun hb => ?_) (fun hb => ?_)
  · have h := h.1 hb
    refine xs_aload_n rfl rfl ?_
    refine xs_bipushV (v := 8) rfl rfl ?_
    exact h
  · have h := h.2 hb
    refine xs_iconstV (v := 0) rfl rfl ?_
    exact xs_zret rfl rfl h.1 h.2.1 h.2.2.1 h.2.2.2

set_option maxRecDepth 20000 in
theorem b_UN_readLongHead_22 {l : Launch} {x : xX} {d mc ms n0 uc us : Nat} {Q : xO → xH → Prop} {cl : Bool} {r0 : Nat} {v1 : Int32} {u0 : Int32} {H : xH}
    (h : (¬ u0 = (-1) → ((u0 >>> ((5 : Int32) &&& 31)) = 0 → xW l x d mc ms mUN_readLongHead n0 Q cl 42 [some (.ref r0), some (.int v1), some (.int u0), none] [.int 6, .ref r0] H uc us) ∧ (¬ (u0 >>> ((5 : Int32) &&& 31)) = 0 → ∃ a1, gI H r0 9 10 a1 ∧ (xW l x d mc ms mUN_readLongHead n0 Q cl 38 [some (.ref r0), some (.int v1), some (.int u0), none] [.int (a1 - 8), .int 12, .ref r0] H uc us))) ∧ (u0 = (-1) → narrow .boolean (.int 0) = .int 0 ∧ uc = mc ∧ us ≤ ms ∧ Q (.inl (some (.int 0))) H)) :
    xW l x d mc ms mUN_readLongHead n0 Q cl 22 [some (.ref r0), some (.int v1), none, none] [.int u0] H uc us := by
  refine xs_istore_n rfl (L' := [some (.ref r0), some (.int v1), some (.int u0), none]) rfl rfl ?_
  refine xs_iload_n rfl rfl ?_
  refine xs_iconstV (v := (-1)) rfl rfl ?_
  refine xs_icmp_ne (k' := 28) rfl rfl (fun hb => ?_) (fun hb => ?_)
  · have h := h.1 hb
    refine xs_iload_n rfl rfl ?_
    refine xs_iconstV (v := 5) rfl rfl ?_
    refine xs_ishr rfl ?_
    refine xs_if_eq (k' := 40) rfl rfl (fun hb => ?_) (fun hb => ?_)
    · have h := h.1 hb
      refine xs_aload_n rfl rfl ?_
      refine xs_bipushV (v := 6) rfl rfl ?_
      exact h
    · have h := h.2 hb
      refine xs_aload_n rfl rfl ?_
      refine xs_bipushV (v := 12) rfl rfl ?_
      refine xs_aload_n rfl rfl ?_
      obtain ⟨a1, ⟨_, h1, h2⟩, h⟩ := h
      refine xs_getf rfl fl_9_74 h1 h2 ?_
      refine xs_bipushV (v := 8) rfl rfl ?_
      refine xs_isub rfl ?_
      exact h
  · have h := h.2 hb
    refine xs_iconstV (v := 0) rfl rfl ?_
    exact xs_zret rfl rfl h.1 h.2.1 h.2.2.1 h.2.2.2

set_option maxRecDepth 20000 in
theorem b_UN_readLongHead_39 {l : Launch} {x : xX} {d mc ms n0 uc us : Nat} {Q : xO → xH → Prop} {cl : Bool} {r0 : Nat} {v1 : Int32} {v2 : Int32} {u0 : Int32} {H : xH}
    (h : narrow .boolean (.int u0) = .int u0 ∧ uc = mc ∧ us ≤ ms ∧ Q (.inl (some (.int u0))) H) :
    xW l x d mc ms mUN_readLongHead n0 Q cl 39 [some (.ref r0), some (.int v1), some (.int v2), none] [.int u0] H uc us := by
  exact xs_zret rfl rfl h.1 h.2.1 h.2.2.1 h.2.2.2

set_option maxRecDepth 20000 in
theorem b_UN_readLongHead_43 {l : Launch} {x : xX} {d mc ms n0 uc us : Nat} {Q : xO → xH → Prop} {cl : Bool} {r0 : Nat} {v1 : Int32} {v2 : Int32} {u0 : Int32} {H : xH}
    (h : (¬ u0 = 0 → ((v2 &&& 4) = 0 → ((v2 &&& 8) = 0 → ((v2 &&& 16) = 0 → ((v2 &&& 2) = 0 → narrow .boolean (.int 1) = .int 1 ∧ uc = mc ∧ us ≤ ms ∧ Q (.inl (some (.int 1))) H) ∧ (¬ (v2 &&& 2) = 0 → xW l x d mc ms mUN_readLongHead n0 Q cl 85 [some (.ref r0), some (.int v1), some (.int v2), none] [.int v1, .ref r0] H uc us)) ∧ (¬ (v2 &&& 16) = 0 → xW l x d mc ms mUN_readLongHead n0 Q cl 75 [some (.ref r0), some (.int v1), some (.int v2), none] [.ref r0] H uc us)) ∧ (¬ (v2 &&& 8) = 0 → xW l x d mc ms mUN_readLongHead n0 Q cl 68 [some (.ref r0), some (.int v1), some (.int v2), none] [.ref r0] H uc us)) ∧ (¬ (v2 &&& 4) = 0 → xW l x d mc ms mUN_readLongHead n0 Q cl 52 [some (.ref r0), some (.int v1), some (.int v2), none] [.int 16, .ref r0] H uc us)) ∧ (u0 = 0 → narrow .boolean (.int 0) = .int 0 ∧ uc = mc ∧ us ≤ ms ∧ Q (.inl (some (.int 0))) H)) :
    xW l x d mc ms mUN_readLongHead n0 Q cl 43 [some (.ref r0), some (.int v1), some (.int v2), none] [.int u0] H uc us := by
  refine xs_if_ne (k' := 46) rfl rfl (fun hb => ?_) (fun hb => ?_)
  · have h := h.1 hb
    refine xs_iload_n rfl rfl ?_
    refine xs_iconstV (v := 4) rfl rfl ?_
    refine xs_iand rfl ?_
    refine xs_if_eq (k' := 63) rfl rfl (fun hb => ?_) (fun hb => ?_)
    · have h := h.1 hb
      refine xs_iload_n rfl rfl ?_
      refine xs_bipushV (v := 8) rfl rfl ?_
      refine xs_iand rfl ?_
      refine xs_if_eq (k' := 70) rfl rfl (fun hb => ?_) (fun hb => ?_)
      · have h := h.1 hb
        refine xs_iload_n rfl rfl ?_
        refine xs_bipushV (v := 16) rfl rfl ?_
        refine xs_iand rfl ?_
        refine xs_if_eq (k' := 79) rfl rfl (fun hb => ?_) (fun hb => ?_)
        · have h := h.1 hb
          refine xs_iload_n rfl rfl ?_
          refine xs_iconstV (v := 2) rfl rfl ?_
          refine xs_iand rfl ?_
          refine xs_if_eq (k' := 87) rfl rfl (fun hb => ?_) (fun hb => ?_)
          · have h := h.1 hb
            refine xs_iconstV (v := 1) rfl rfl ?_
            refine xs_goto (k' := 90) rfl rfl ?_
            exact xs_zret rfl rfl h.1 h.2.1 h.2.2.1 h.2.2.2
          · have h := h.2 hb
            refine xs_aload_n rfl rfl ?_
            refine xs_iload_n rfl rfl ?_
            exact h
        · have h := h.2 hb
          refine xs_aload_n rfl rfl ?_
          exact h
      · have h := h.2 hb
        refine xs_aload_n rfl rfl ?_
        exact h
    · have h := h.2 hb
      refine xs_aload_n rfl rfl ?_
      refine xs_bipushV (v := 16) rfl rfl ?_
      exact h
  · have h := h.2 hb
    refine xs_iconstV (v := 0) rfl rfl ?_
    exact xs_zret rfl rfl h.1 h.2.1 h.2.2.1 h.2.2.2

set_option maxRecDepth 20000 in
theorem b_UN_readLongHead_53 {l : Launch} {x : xX} {d mc ms n0 uc us : Nat} {Q : xO → xH → Prop} {cl : Bool} {r0 : Nat} {v1 : Int32} {v2 : Int32} {u0 : Int32} {H : xH}
    (h : (u0 = (-1) → narrow .boolean (.int 0) = .int 0 ∧ uc = mc ∧ us ≤ ms ∧ Q (.inl (some (.int 0))) H) ∧ (¬ u0 = (-1) → xW l x d mc ms mUN_readLongHead n0 Q cl 59 [some (.ref r0), some (.int v1), some (.int v2), some (.int u0)] [.int u0, .ref r0] H uc us)) :
    xW l x d mc ms mUN_readLongHead n0 Q cl 53 [some (.ref r0), some (.int v1), some (.int v2), none] [.int u0] H uc us := by
  refine xs_istore_n rfl (L' := [some (.ref r0), some (.int v1), some (.int v2), some (.int u0)]) rfl rfl ?_
  refine xs_iload_n rfl rfl ?_
  refine xs_iconstV (v := (-1)) rfl rfl ?_
  refine xs_icmp_eq (k' := 61) rfl rfl (fun hb => ?_) (fun hb => ?_)
  · have h := h.1 hb
    refine xs_iconstV (v := 0) rfl rfl ?_
    exact xs_zret rfl rfl h.1 h.2.1 h.2.2.1 h.2.2.2
  · have h := h.2 hb
    refine xs_aload_n rfl rfl ?_
    refine xs_iload_n rfl rfl ?_
    exact h

set_option maxRecDepth 20000 in
theorem b_UN_readLongHead_60 {l : Launch} {x : xX} {d mc ms n0 uc us : Nat} {Q : xO → xH → Prop} {cl : Bool} {r0 : Nat} {v1 : Int32} {v2 : Int32} {v3 : Int32} {u0 : Int32} {H : xH}
    (h : (¬ u0 = 0 → ((v2 &&& 8) = 0 → ((v2 &&& 16) = 0 → ((v2 &&& 2) = 0 → narrow .boolean (.int 1) = .int 1 ∧ uc = mc ∧ us ≤ ms ∧ Q (.inl (some (.int 1))) H) ∧ (¬ (v2 &&& 2) = 0 → xW l x d mc ms mUN_readLongHead n0 Q cl 85 [some (.ref r0), some (.int v1), some (.int v2), some (.int v3)] [.int v1, .ref r0] H uc us)) ∧ (¬ (v2 &&& 16) = 0 → xW l x d mc ms mUN_readLongHead n0 Q cl 75 [some (.ref r0), some (.int v1), some (.int v2), some (.int v3)] [.ref r0] H uc us)) ∧ (¬ (v2 &&& 8) = 0 → xW l x d mc ms mUN_readLongHead n0 Q cl 68 [some (.ref r0), some (.int v1), some (.int v2), some (.int v3)] [.ref r0] H uc us)) ∧ (u0 = 0 → narrow .boolean (.int 0) = .int 0 ∧ uc = mc ∧ us ≤ ms ∧ Q (.inl (some (.int 0))) H)) :
    xW l x d mc ms mUN_readLongHead n0 Q cl 60 [some (.ref r0), some (.int v1), some (.int v2), some (.int v3)] [.int u0] H uc us := by
  refine xs_if_ne (k' := 63) rfl rfl (fun hb => ?_) (fun hb => ?_)
  · have h := h.1 hb
    refine xs_iload_n rfl rfl ?_
    refine xs_bipushV (v := 8) rfl rfl ?_
    refine xs_iand rfl ?_
    refine xs_if_eq (k' := 70) rfl rfl (fun hb => ?_) (fun hb => ?_)
    · have h := h.1 hb
      refine xs_iload_n rfl rfl ?_
      refine xs_bipushV (v := 16) rfl rfl ?_
      refine xs_iand rfl ?_
      refine xs_if_eq (k' := 79) rfl rfl (fun hb => ?_) (fun hb => ?_)
      · have h := h.1 hb
        refine xs_iload_n rfl rfl ?_
        refine xs_iconstV (v := 2) rfl rfl ?_
        refine xs_iand rfl ?_
        refine xs_if_eq (k' := 87) rfl rfl (fun hb => ?_) (fun hb => ?_)
        · have h := h.1 hb
          refine xs_iconstV (v := 1) rfl rfl ?_
          refine xs_goto (k' := 90) rfl rfl ?_
          exact xs_zret rfl rfl h.1 h.2.1 h.2.2.1 h.2.2.2
        · have h := h.2 hb
          refine xs_aload_n rfl rfl ?_
          refine xs_iload_n rfl rfl ?_
          exact h
      · have h := h.2 hb
        refine xs_aload_n rfl rfl ?_
        exact h
    · have h := h.2 hb
      refine xs_aload_n rfl rfl ?_
      exact h
  · have h := h.2 hb
    refine xs_iconstV (v := 0) rfl rfl ?_
    exact xs_zret rfl rfl h.1 h.2.1 h.2.2.1 h.2.2.2

set_option maxRecDepth 20000 in
theorem b_UN_readLongHead_69 {l : Launch} {x : xX} {d mc ms n0 uc us : Nat} {Q : xO → xH → Prop} {cl : Bool} {r0 : Nat} {v1 : Int32} {v2 : Int32} {u0 : Int32} {H : xH}
    (h : (u0 = 0 → narrow .boolean (.int 0) = .int 0 ∧ uc = mc ∧ us ≤ ms ∧ Q (.inl (some (.int 0))) H) ∧ (¬ u0 = 0 → ((v2 &&& 16) = 0 → ((v2 &&& 2) = 0 → narrow .boolean (.int 1) = .int 1 ∧ uc = mc ∧ us ≤ ms ∧ Q (.inl (some (.int 1))) H) ∧ (¬ (v2 &&& 2) = 0 → xW l x d mc ms mUN_readLongHead n0 Q cl 85 [some (.ref r0), some (.int v1), some (.int v2), none] [.int v1, .ref r0] H uc us)) ∧ (¬ (v2 &&& 16) = 0 → xW l x d mc ms mUN_readLongHead n0 Q cl 75 [some (.ref r0), some (.int v1), some (.int v2), none] [.ref r0] H uc us))) :
    xW l x d mc ms mUN_readLongHead n0 Q cl 69 [some (.ref r0), some (.int v1), some (.int v2), none] [.int u0] H uc us := by
  refine xs_if_eq (k' := 77) rfl rfl (fun hb => ?_) (fun hb => ?_)
  · have h := h.1 hb
    refine xs_iconstV (v := 0) rfl rfl ?_
    exact xs_zret rfl rfl h.1 h.2.1 h.2.2.1 h.2.2.2
  · have h := h.2 hb
    refine xs_iload_n rfl rfl ?_
    refine xs_bipushV (v := 16) rfl rfl ?_
    refine xs_iand rfl ?_
    refine xs_if_eq (k' := 79) rfl rfl (fun hb => ?_) (fun hb => ?_)
    · have h := h.1 hb
      refine xs_iload_n rfl rfl ?_
      refine xs_iconstV (v := 2) rfl rfl ?_
      refine xs_iand rfl ?_
      refine xs_if_eq (k' := 87) rfl rfl (fun hb => ?_) (fun hb => ?_)
      · have h := h.1 hb
        refine xs_iconstV (v := 1) rfl rfl ?_
        refine xs_goto (k' := 90) rfl rfl ?_
        exact xs_zret rfl rfl h.1 h.2.1 h.2.2.1 h.2.2.2
      · have h := h.2 hb
        refine xs_aload_n rfl rfl ?_
        refine xs_iload_n rfl rfl ?_
        exact h
    · have h := h.2 hb
      refine xs_aload_n rfl rfl ?_
      exact h

set_option maxRecDepth 20000 in
theorem b_UN_readLongHead_76 {l : Launch} {x : xX} {d mc ms n0 uc us : Nat} {Q : xO → xH → Prop} {cl : Bool} {r0 : Nat} {v1 : Int32} {v2 : Int32} {u0 : Int32} {H : xH}
    (h : (¬ u0 = 0 → ((v2 &&& 2) = 0 → narrow .boolean (.int 1) = .int 1 ∧ uc = mc ∧ us ≤ ms ∧ Q (.inl (some (.int 1))) H) ∧ (¬ (v2 &&& 2) = 0 → xW l x d mc ms mUN_readLongHead n0 Q cl 85 [some (.ref r0), some (.int v1), some (.int v2), none] [.int v1, .ref r0] H uc us)) ∧ (u0 = 0 → narrow .boolean (.int 0) = .int 0 ∧ uc = mc ∧ us ≤ ms ∧ Q (.inl (some (.int 0))) H)) :
    xW l x d mc ms mUN_readLongHead n0 Q cl 76 [some (.ref r0), some (.int v1), some (.int v2), none] [.int u0] H uc us := by
  refine xs_if_ne (k' := 79) rfl rfl (fun hb => ?_) (fun hb => ?_)
  · have h := h.1 hb
    refine xs_iload_n rfl rfl ?_
    refine xs_iconstV (v := 2) rfl rfl ?_
    refine xs_iand rfl ?_
    refine xs_if_eq (k' := 87) rfl rfl (fun hb => ?_) (fun hb => ?_)
    · have h := h.1 hb
      refine xs_iconstV (v := 1) rfl rfl ?_
      refine xs_goto (k' := 90) rfl rfl ?_
      exact xs_zret rfl rfl h.1 h.2.1 h.2.2.1 h.2.2.2
    · have h := h.2 hb
      refine xs_aload_n rfl rfl ?_
      refine xs_iload_n rfl rfl ?_
      exact h
  · have h := h.2 hb
    refine xs_iconstV (v := 0) rfl rfl ?_
    exact xs_zret rfl rfl h.1 h.2.1 h.2.2.1 h.2.2.2

set_option maxRecDepth 20000 in
theorem b_UN_readLongHead_86 {l : Launch} {x : xX} {d mc ms n0 uc us : Nat} {Q : xO → xH → Prop} {cl : Bool} {r0 : Nat} {v1 : Int32} {v2 : Int32} {u0 : Int32} {H : xH}
    (h : (u0 = 0 → narrow .boolean (.int 0) = .int 0 ∧ uc = mc ∧ us ≤ ms ∧ Q (.inl (some (.int 0))) H) ∧ (¬ u0 = 0 → narrow .boolean (.int 1) = .int 1 ∧ uc = mc ∧ us ≤ ms ∧ Q (.inl (some (.int 1))) H)) :
    xW l x d mc ms mUN_readLongHead n0 Q cl 86 [some (.ref r0), some (.int v1), some (.int v2), none] [.int u0] H uc us := by
  refine xs_if_eq (k' := 89) rfl rfl (fun hb => ?_) (fun hb => ?_)
  · have h := h.1 hb
    refine xs_iconstV (v := 0) rfl rfl ?_
    exact xs_zret rfl rfl h.1 h.2.1 h.2.2.1 h.2.2.2
  · have h := h.2 hb
    refine xs_iconstV (v := 1) rfl rfl ?_
    refine xs_goto (k' := 90) rfl rfl ?_
    exact xs_zret rfl rfl h.1 h.2.1 h.2.2.1 h.2.2.2

set_option maxRecDepth 20000 in
theorem b_UN_readByteThatIs_0 {l : Launch} {x : xX} {d mc ms n0 uc us : Nat} {Q : xO → xH → Prop} {cl : Bool} {r0 : Nat} {v1 : Int32} {H : xH}
    (h : xW l x d mc ms mUN_readByteThatIs n0 Q cl 2 [some (.ref r0), some (.int v1), none] [.int 8, .ref r0] H uc us) :
    xW l x d mc ms mUN_readByteThatIs n0 Q cl 0 [some (.ref r0), some (.int v1), none] [] H uc us := by
  refine xs_aload_n rfl rfl ?_
  refine xs_bipushV (v := 8) rfl rfl ?_
  exact h

set_option maxRecDepth 20000 in
theorem b_UN_readByteThatIs_3 {l : Launch} {x : xX} {d mc ms n0 uc us : Nat} {Q : xO → xH → Prop} {cl : Bool} {r0 : Nat} {v1 : Int32} {u0 : Int32} {H : xH}
    (h : (¬ u0 = (-1) → (u0 = v1 → narrow .boolean (.int 1) = .int 1 ∧ uc = mc ∧ us ≤ ms ∧ Q (.inl (some (.int 1))) H) ∧ (¬ u0 = v1 → ∃ a1, gI H r0 9 10 a1 ∧ (xW l x d mc ms mUN_readByteThatIs n0 Q cl 18 [some (.ref r0), some (.int v1), some (.int u0)] [.int (a1 - 8), .int 12, .ref r0] H uc us))) ∧ (u0 = (-1) → narrow .boolean (.int 0) = .int 0 ∧ uc = mc ∧ us ≤ ms ∧ Q (.inl (some (.int 0))) H)) :
    xW l x d mc ms mUN_readByteThatIs n0 Q cl 3 [some (.ref r0), some (.int v1), none] [.int u0] H uc us := by
  refine xs_istore_n rfl (L' := [some (.ref r0), some (.int v1), some (.int u0)]) rfl rfl ?_
  refine xs_iload_n rfl rfl ?_
  refine xs_iconstV (v := (-1)) rfl rfl ?_
  refine xs_icmp_ne (k' := 9) rfl rfl (fun hb => ?_) (fun hb => ?_)
  · have h := h.1 hb
    refine xs_iload_n rfl rfl ?_
    refine xs_iload_n rfl rfl ?_
    refine xs_icmp_eq (k' := 20) rfl rfl (fun hb => ?_) (fun hb => ?_)
    · have h := h.1 hb
      refine xs_iconstV (v := 1) rfl rfl ?_
      refine xs_goto (k' := 23) rfl rfl ?_
      exact xs_zret rfl rfl h.1 h.2.1 h.2.2.1 h.2.2.2
    · have h := h.2 hb
      refine xs_aload_n rfl rfl ?_
      refine xs_bipushV (v := 12) rfl rfl ?_
      refine xs_aload_n rfl rfl ?_
      obtain ⟨a1, ⟨_, h1, h2⟩, h⟩ := h
      refine xs_getf rfl fl_9_74 h1 h2 ?_
      refine xs_bipushV (v := 8) rfl rfl ?_
      refine xs_isub rfl ?_
      exact h
  · have h := h.2 hb
    refine xs_iconstV (v := 0) rfl rfl ?_
    exact xs_zret rfl rfl h.1 h.2.1 h.2.2.1 h.2.2.2

set_option maxRecDepth 20000 in
theorem b_UN_readByteThatIs_19 {l : Launch} {x : xX} {d mc ms n0 uc us : Nat} {Q : xO → xH → Prop} {cl : Bool} {r0 : Nat} {v1 : Int32} {v2 : Int32} {u0 : Int32} {H : xH}
    (h : (u0 = 0 → narrow .boolean (.int 0) = .int 0 ∧ uc = mc ∧ us ≤ ms ∧ Q (.inl (some (.int 0))) H) ∧ (¬ u0 = 0 → narrow .boolean (.int 1) = .int 1 ∧ uc = mc ∧ us ≤ ms ∧ Q (.inl (some (.int 1))) H)) :
    xW l x d mc ms mUN_readByteThatIs n0 Q cl 19 [some (.ref r0), some (.int v1), some (.int v2)] [.int u0] H uc us := by
  refine xs_if_eq (k' := 22) rfl rfl (fun hb => ?_) (fun hb => ?_)
  · have h := h.1 hb
    refine xs_iconstV (v := 0) rfl rfl ?_
    exact xs_zret rfl rfl h.1 h.2.1 h.2.2.1 h.2.2.2
  · have h := h.2 hb
    refine xs_iconstV (v := 1) rfl rfl ?_
    refine xs_goto (k' := 23) rfl rfl ?_
    exact xs_zret rfl rfl h.1 h.2.1 h.2.2.1 h.2.2.2

set_option maxRecDepth 20000 in
theorem b_UN_skipBytes_0 {l : Launch} {x : xX} {d mc ms n0 uc us : Nat} {Q : xO → xH → Prop} {cl : Bool} {r0 : Nat} {v1 : Int32} {H : xH}
    (h : ∃ a1, gI H r0 9 11 a1 ∧ (∃ a2, gI H r0 9 10 a2 ∧ ((((8 : Int32) * v1) ≤ (a1 - a2) → ∃ a3, gI H r0 9 10 a3 ∧ (∃ c4, H[(r0 : Nat)]? = some (.inr (9, c4)) ∧ 10 < c4.length ∧ (∀ H5 : xH, H5 = H.set r0 (.inr (9, c4.set 10 (.int (a3 + ((8 : Int32) * v1))))) → narrow .boolean (.int 1) = .int 1 ∧ uc = mc ∧ us ≤ ms ∧ Q (.inl (some (.int 1))) H5))) ∧ (¬ ((8 : Int32) * v1) ≤ (a1 - a2) → ∃ a6, gI H r0 9 11 a6 ∧ (xW l x d mc ms mUN_skipBytes n0 Q cl 13 [some (.ref r0), some (.int v1)] [.int a6, .int 1, .ref r0] H uc us))))) :
    xW l x d mc ms mUN_skipBytes n0 Q cl 0 [some (.ref r0), some (.int v1)] [] H uc us := by
  refine xs_aload_n rfl rfl ?_
  obtain ⟨a1, ⟨_, h1, h2⟩, h⟩ := h
  refine xs_getf rfl fl_9_77 h1 h2 ?_
  refine xs_aload_n rfl rfl ?_
  obtain ⟨a2, ⟨_, h1, h2⟩, h⟩ := h
  refine xs_getf rfl fl_9_74 h1 h2 ?_
  refine xs_isub rfl ?_
  refine xs_bipushV (v := 8) rfl rfl ?_
  refine xs_iload_n rfl rfl ?_
  refine xs_imul rfl ?_
  refine xs_icmp_ge (k' := 15) rfl rfl (fun hb => ?_) (fun hb => ?_)
  · have h := h.1 hb
    refine xs_aload_n rfl rfl ?_
    refine xs_dup rfl rfl ?_
    obtain ⟨a3, ⟨_, h1, h2⟩, h⟩ := h
    refine xs_getf rfl fl_9_74 h1 h2 ?_
    refine xs_bipushV (v := 8) rfl rfl ?_
    refine xs_iload_n rfl rfl ?_
    refine xs_imul rfl ?_
    refine xs_iadd rfl ?_
    obtain ⟨c4, h1, h2, h⟩ := h
    refine xs_putf rfl fl_9_74 h1 (fun q hq => by cases hq; rfl) rfl h2 ?_
    have h := h _ rfl
    generalize H.set r0 (.inr (9, c4.set 10 (.int (a3 + ((8 : Int32) * v1))))) = H5 at h ⊢
    refine xs_iconstV (v := 1) rfl rfl ?_
    exact xs_zret rfl rfl h.1 h.2.1 h.2.2.1 h.2.2.2
  · have h := h.2 hb
    refine xs_aload_n rfl rfl ?_
    refine xs_iconstV (v := 1) rfl rfl ?_
    refine xs_aload_n rfl rfl ?_
    obtain ⟨a6, ⟨_, h1, h2⟩, h⟩ := h
    refine xs_getf rfl fl_9_77 h1 h2 ?_
    exact h

set_option maxRecDepth 20000 in
theorem b_UN_skipBytes_14 {l : Launch} {x : xX} {d mc ms n0 uc us : Nat} {Q : xO → xH → Prop} {cl : Bool} {r0 : Nat} {v1 : Int32} {u0 : Int32} {H : xH}
    (h : narrow .boolean (.int u0) = .int u0 ∧ uc = mc ∧ us ≤ ms ∧ Q (.inl (some (.int u0))) H) :
    xW l x d mc ms mUN_skipBytes n0 Q cl 14 [some (.ref r0), some (.int v1)] [.int u0] H uc us := by
  exact xs_zret rfl rfl h.1 h.2.1 h.2.2.1 h.2.2.2

set_option maxRecDepth 20000 in
theorem b_UN_skipThroughZero_0 {l : Launch} {x : xX} {d mc ms n0 uc us : Nat} {Q : xO → xH → Prop} {cl : Bool} {r0 : Nat} {H : xH}
    (h : ∃ a1, gI H r0 9 10 a1 ∧ (xW l x d mc ms mUN_skipThroughZero n0 Q cl 5 [some (.ref r0), some (.int (a1 / 8))] [] H uc us)) :
    xW l x d mc ms mUN_skipThroughZero n0 Q cl 0 [some (.ref r0), none] [] H uc us := by
  refine xs_aload_n rfl rfl ?_
  obtain ⟨a1, ⟨_, h1, h2⟩, h⟩ := h
  refine xs_getf rfl fl_9_74 h1 h2 ?_
  refine xs_bipushV (v := 8) rfl rfl ?_
  refine xs_idiv rfl (by decide) ?_
  refine xs_istore_n rfl (L' := [some (.ref r0), some (.int (a1 / 8))]) rfl rfl ?_
  exact h

set_option maxRecDepth 20000 in
theorem b_UN_skipThroughZero_5 {l : Launch} {x : xX} {d mc ms n0 uc us : Nat} {Q : xO → xH → Prop} {cl : Bool} {r0 : Nat} {v1 : Int32} {H : xH}
    (h : ∃ p1, gR H r0 9 0 p1 ∧ (∃ a2, gI H p1 7 1 a2 ∧ ((a2 ≤ v1 → ∃ a3, gI H r0 9 11 a3 ∧ (xW l x d mc ms mUN_skipThroughZero n0 Q cl 30 [some (.ref r0), some (.int v1)] [.int a3, .int 1, .ref r0] H uc us)) ∧ (¬ a2 ≤ v1 → ∃ p4, gR H r0 9 0 p4 ∧ (xW l x d mc ms mUN_skipThroughZero n0 Q cl 13 [some (.ref r0), some (.int v1)] [.int v1, .ref p4] H uc us))))) :
    xW l x d mc ms mUN_skipThroughZero n0 Q cl 5 [some (.ref r0), some (.int v1)] [] H uc us := by
  refine xs_iload_n rfl rfl ?_
  refine xs_aload_n rfl rfl ?_
  obtain ⟨p1, ⟨_, h1, h2⟩, h⟩ := h
  refine xs_getf rfl fl_9_34 h1 h2 ?_
  obtain ⟨a2, ⟨_, h1, h2⟩, h⟩ := h
  refine xs_getf rfl fl_9_68 h1 h2 ?_
  refine xs_icmp_ge (k' := 26) rfl rfl (fun hb => ?_) (fun hb => ?_)
  · have h := h.1 hb
    refine xs_aload_n rfl rfl ?_
    refine xs_iconstV (v := 1) rfl rfl ?_
    refine xs_aload_n rfl rfl ?_
    obtain ⟨a3, ⟨_, h1, h2⟩, h⟩ := h
    refine xs_getf rfl fl_9_77 h1 h2 ?_
    exact h
  · have h := h.2 hb
    refine xs_aload_n rfl rfl ?_
    obtain ⟨p4, ⟨_, h1, h2⟩, h⟩ := h
    refine xs_getf rfl fl_9_34 h1 h2 ?_
    refine xs_iload_n rfl rfl ?_
    exact h

set_option maxRecDepth 20000 in
theorem b_UN_skipThroughZero_14 {l : Launch} {x : xX} {d mc ms n0 uc us : Nat} {Q : xO → xH → Prop} {cl : Bool} {r0 : Nat} {v1 : Int32} {u0 : Int32} {H : xH}
    (h : (¬ u0 = 0 → xW l x d mc ms mUN_skipThroughZero n0 Q cl 5 [some (.ref r0), some (.int (v1 + 1))] [] H uc us) ∧ (u0 = 0 → ∃ c1, H[(r0 : Nat)]? = some (.inr (9, c1)) ∧ 10 < c1.length ∧ (∀ H2 : xH, H2 = H.set r0 (.inr (9, c1.set 10 (.int ((8 : Int32) * (v1 + 1))))) → narrow .boolean (.int 1) = .int 1 ∧ uc = mc ∧ us ≤ ms ∧ Q (.inl (some (.int 1))) H2))) :
    xW l x d mc ms mUN_skipThroughZero n0 Q cl 14 [some (.ref r0), some (.int v1)] [.int u0] H uc us := by
  refine xs_if_ne (k' := 24) rfl rfl (fun hb => ?_) (fun hb => ?_)
  · have h := h.1 hb
    refine xs_iincV rfl (w := 1) rfl rfl (L' := [some (.ref r0), some (.int (v1 + 1))]) rfl rfl ?_
    refine xs_goto (k' := 5) rfl rfl ?_
    exact h
  · have h := h.2 hb
    refine xs_aload_n rfl rfl ?_
    refine xs_bipushV (v := 8) rfl rfl ?_
    refine xs_iload_n rfl rfl ?_
    refine xs_iconstV (v := 1) rfl rfl ?_
    refine xs_iadd rfl ?_
    refine xs_imul rfl ?_
    obtain ⟨c1, h1, h2, h⟩ := h
    refine xs_putf rfl fl_9_74 h1 (fun q hq => by cases hq; rfl) rfl h2 ?_
    have h := h _ rfl
    generalize H.set r0 (.inr (9, c1.set 10 (.int ((8 : Int32) * (v1 + 1))))) = H2 at h ⊢
    refine xs_iconstV (v := 1) rfl rfl ?_
    exact xs_zret rfl rfl h.1 h.2.1 h.2.2.1 h.2.2.2

set_option maxRecDepth 20000 in
theorem b_UN_skipThroughZero_31 {l : Launch} {x : xX} {d mc ms n0 uc us : Nat} {Q : xO → xH → Prop} {cl : Bool} {r0 : Nat} {v1 : Int32} {u0 : Int32} {H : xH}
    (h : narrow .boolean (.int u0) = .int u0 ∧ uc = mc ∧ us ≤ ms ∧ Q (.inl (some (.int u0))) H) :
    xW l x d mc ms mUN_skipThroughZero n0 Q cl 31 [some (.ref r0), some (.int v1)] [.int u0] H uc us := by
  exact xs_zret rfl rfl h.1 h.2.1 h.2.2.1 h.2.2.2

set_option maxRecDepth 20000 in
theorem b_UN_readSumOfHead_0 {l : Launch} {x : xX} {d mc ms n0 uc us : Nat} {Q : xO → xH → Prop} {cl : Bool} {r0 : Nat} {v1 : Int32} {H : xH}
    (h : ∃ p1, gR H r0 9 3 p1 ∧ (∃ p2, gR H r0 9 0 p2 ∧ (∃ a3, gI H r0 9 10 a3 ∧ (xW l x d mc ms mUN_readSumOfHead n0 Q cl 9 [some (.ref r0), some (.int v1), none, none, none] [.int (a3 / 8), .int v1, .ref p2, .ref p1] H uc us)))) :
    xW l x d mc ms mUN_readSumOfHead n0 Q cl 0 [some (.ref r0), some (.int v1), none, none, none] [] H uc us := by
  refine xs_aload_n rfl rfl ?_
  obtain ⟨p1, ⟨_, h1, h2⟩, h⟩ := h
  refine xs_getf rfl fl_9_45 h1 h2 ?_
  refine xs_aload_n rfl rfl ?_
  obtain ⟨p2, ⟨_, h1, h2⟩, h⟩ := h
  refine xs_getf rfl fl_9_34 h1 h2 ?_
  refine xs_iload_n rfl rfl ?_
  refine xs_aload_n rfl rfl ?_
  obtain ⟨a3, ⟨_, h1, h2⟩, h⟩ := h
  refine xs_getf rfl fl_9_74 h1 h2 ?_
  refine xs_bipushV (v := 8) rfl rfl ?_
  refine xs_idiv rfl (by decide) ?_
  exact h

set_option maxRecDepth 20000 in
theorem b_UN_readSumOfHead_10 {l : Launch} {x : xX} {d mc ms n0 uc us : Nat} {Q : xO → xH → Prop} {cl : Bool} {r0 : Nat} {v1 : Int32} {u0 : Int64} {H : xH}
    (h : xW l x d mc ms mUN_readSumOfHead n0 Q cl 15 [some (.ref r0), some (.int v1), some (.long (u0 &&& 65535)), none, none] [.int 16, .ref r0] H uc us) :
    xW l x d mc ms mUN_readSumOfHead n0 Q cl 10 [some (.ref r0), some (.int v1), none, none, none] [.long u0] H uc us := by
  refine xs_ldc2 rfl kl_9_132 ?_
  refine xs_land rfl ?_
  refine xs_lstore_n rfl (L' := [some (.ref r0), some (.int v1), some (.long (u0 &&& 65535)), none, none]) rfl rfl ?_
  refine xs_aload_n rfl rfl ?_
  refine xs_bipushV (v := 16) rfl rfl ?_
  exact h

set_option maxRecDepth 20000 in
theorem b_UN_readSumOfHead_16 {l : Launch} {x : xX} {d mc ms n0 uc us : Nat} {Q : xO → xH → Prop} {cl : Bool} {r0 : Nat} {v1 : Int32} {v2 : Int64} {u0 : Int32} {H : xH}
    (h : (¬ u0 = (-1) → ((lg_cmp u0.toInt64 v2) = 0 → narrow .boolean (.int 1) = .int 1 ∧ uc = mc ∧ us ≤ ms ∧ Q (.inl (some (.int 1))) H) ∧ (¬ (lg_cmp u0.toInt64 v2) = 0 → ∃ a1, gI H r0 9 10 a1 ∧ (xW l x d mc ms mUN_readSumOfHead n0 Q cl 33 [some (.ref r0), some (.int v1), some (.long v2), none, some (.int u0)] [.int (a1 - 16), .int 13, .ref r0] H uc us))) ∧ (u0 = (-1) → narrow .boolean (.int 0) = .int 0 ∧ uc = mc ∧ us ≤ ms ∧ Q (.inl (some (.int 0))) H)) :
    xW l x d mc ms mUN_readSumOfHead n0 Q cl 16 [some (.ref r0), some (.int v1), some (.long v2), none, none] [.int u0] H uc us := by
  refine xs_istore rfl (L' := [some (.ref r0), some (.int v1), some (.long v2), none, some (.int u0)]) rfl rfl ?_
  refine xs_iload rfl rfl ?_
  refine xs_iconstV (v := (-1)) rfl rfl ?_
  refine xs_icmp_ne (k' := 22) rfl rfl (fun hb => ?_) (fun hb => ?_)
  · have h := h.1 hb
    refine xs_iload rfl rfl ?_
    refine xs_i2l rfl ?_
    refine xs_lload_n rfl rfl ?_
    refine xs_lcmp rfl ?_
    refine xs_if_eq (k' := 35) rfl rfl (fun hb => ?_) (fun hb => ?_)
    · have h := h.1 hb
      refine xs_iconstV (v := 1) rfl rfl ?_
      refine xs_goto (k' := 38) rfl rfl ?_
      exact xs_zret rfl rfl h.1 h.2.1 h.2.2.1 h.2.2.2
    · have h := h.2 hb
      refine xs_aload_n rfl rfl ?_
      refine xs_bipushV (v := 13) rfl rfl ?_
      refine xs_aload_n rfl rfl ?_
      obtain ⟨a1, ⟨_, h1, h2⟩, h⟩ := h
      refine xs_getf rfl fl_9_74 h1 h2 ?_
      refine xs_bipushV (v := 16) rfl rfl ?_
      refine xs_isub rfl ?_
      exact h
  · have h := h.2 hb
    refine xs_iconstV (v := 0) rfl rfl ?_
    exact xs_zret rfl rfl h.1 h.2.1 h.2.2.1 h.2.2.2

set_option maxRecDepth 20000 in
theorem b_UN_readSumOfHead_34 {l : Launch} {x : xX} {d mc ms n0 uc us : Nat} {Q : xO → xH → Prop} {cl : Bool} {r0 : Nat} {v1 : Int32} {v2 : Int64} {v4 : Int32} {u0 : Int32} {H : xH}
    (h : (u0 = 0 → narrow .boolean (.int 0) = .int 0 ∧ uc = mc ∧ us ≤ ms ∧ Q (.inl (some (.int 0))) H) ∧ (¬ u0 = 0 → narrow .boolean (.int 1) = .int 1 ∧ uc = mc ∧ us ≤ ms ∧ Q (.inl (some (.int 1))) H)) :
    xW l x d mc ms mUN_readSumOfHead n0 Q cl 34 [some (.ref r0), some (.int v1), some (.long v2), none, some (.int v4)] [.int u0] H uc us := by
  refine xs_if_eq (k' := 37) rfl rfl (fun hb => ?_) (fun hb => ?_)
  · have h := h.1 hb
    refine xs_iconstV (v := 0) rfl rfl ?_
    exact xs_zret rfl rfl h.1 h.2.1 h.2.2.1 h.2.2.2
  · have h := h.2 hb
    refine xs_iconstV (v := 1) rfl rfl ?_
    refine xs_goto (k' := 38) rfl rfl ?_
    exact xs_zret rfl rfl h.1 h.2.1 h.2.2.1 h.2.2.2

set_option maxRecDepth 20000 in
theorem b_UN_readBlocks_0 {l : Launch} {x : xX} {d mc ms n0 uc us : Nat} {Q : xO → xH → Prop} {cl : Bool} {r0 : Nat} {H : xH}
    (h : xW l x d mc ms mUN_readBlocks n0 Q cl 4 [some (.ref r0), some (.int 0), some (.int 0), none, none, none, none, none] [] H uc us) :
    xW l x d mc ms mUN_readBlocks n0 Q cl 0 [some (.ref r0), none, none, none, none, none, none, none] [] H uc us := by
  refine xs_iconstV (v := 0) rfl rfl ?_
  refine xs_istore_n rfl (L' := [some (.ref r0), some (.int 0), none, none, none, none, none, none]) rfl rfl ?_
  refine xs_iconstV (v := 0) rfl rfl ?_
  refine xs_istore_n rfl (L' := [some (.ref r0), some (.int 0), some (.int 0), none, none, none, none, none]) rfl rfl ?_
  exact h

set_option maxRecDepth 20000 in
theorem b_UN_readBlocks_4 {l : Launch} {x : xX} {d mc ms n0 uc us : Nat} {Q : xO → xH → Prop} {cl : Bool} {r0 : Nat} {v1 : Int32} {v2 : Int32} {H : xH}
    (h : (¬ v1 = 0 → xW l x d mc ms mUN_readBlocks n0 Q cl 102 [some (.ref r0), some (.int v1), some (.int v2), none, none, none, none, none] [.ref r0] H uc us) ∧ (v1 = 0 → (262144 ≤ v2 → xW l x d mc ms mUN_readBlocks n0 Q cl 102 [some (.ref r0), some (.int v1), some (.int v2), none, none, none, none, none] [.ref r0] H uc us) ∧ (¬ 262144 ≤ v2 → ∃ a1, gI H r0 9 10 a1 ∧ (∃ p2, gR H r0 9 1 p2 ∧ (∃ a3, gI H p2 7 1 a3 ∧ (xW l x d mc ms mUN_readBlocks n0 Q cl 18 [some (.ref r0), some (.int v1), some (.int v2), some (.int a1), some (.int a3), none, none, none] [.int 1, .ref r0] H uc us)))))) :
    xW l x d mc ms mUN_readBlocks n0 Q cl 4 [some (.ref r0), some (.int v1), some (.int v2), none, none, none, none, none] [] H uc us := by
  refine xs_iload_n rfl rfl ?_
  refine xs_if_ne (k' := 101) rfl rfl (fun hb => ?_) (fun hb => ?_)
  · have h := h.1 hb
    refine xs_aload_n rfl rfl ?_
    exact h
  · have h := h.2 hb
    refine xs_iload_n rfl rfl ?_
    refine xs_ldc rfl kc_9_157 ?_
    refine xs_icmp_ge (k' := 101) rfl rfl (fun hb => ?_) (fun hb => ?_)
    · have h := h.1 hb
      refine xs_aload_n rfl rfl ?_
      exact h
    · have h := h.2 hb
      refine xs_aload_n rfl rfl ?_
      obtain ⟨a1, ⟨_, h1, h2⟩, h⟩ := h
      refine xs_getf rfl fl_9_74 h1 h2 ?_
      refine xs_istore_n rfl (L' := [some (.ref r0), some (.int v1), some (.int v2), some (.int a1), none, none, none, none]) rfl rfl ?_
      refine xs_aload_n rfl rfl ?_
      obtain ⟨p2, ⟨_, h1, h2⟩, h⟩ := h
      refine xs_getf rfl fl_9_38 h1 h2 ?_
      obtain ⟨a3, ⟨_, h1, h2⟩, h⟩ := h
      refine xs_getf rfl fl_9_68 h1 h2 ?_
      refine xs_istore rfl (L' := [some (.ref r0), some (.int v1), some (.int v2), some (.int a1), some (.int a3), none, none, none]) rfl rfl ?_
      refine xs_aload_n rfl rfl ?_
      refine xs_iconstV (v := 1) rfl rfl ?_
      exact h

set_option maxRecDepth 20000 in
theorem b_UN_readBlocks_19 {l : Launch} {x : xX} {d mc ms n0 uc us : Nat} {Q : xO → xH → Prop} {cl : Bool} {r0 : Nat} {v1 : Int32} {v2 : Int32} {v3 : Int32} {v4 : Int32} {u0 : Int32} {H : xH}
    (h : (¬ u0 = (-1) → xW l x d mc ms mUN_readBlocks n0 Q cl 27 [some (.ref r0), some (.int v1), some (.int v2), some (.int v3), some (.int v4), some (.int u0), none, none] [.int 2, .ref r0] H uc us) ∧ (u0 = (-1) → xW l x d mc ms mUN_readBlocks n0 Q cl 28 [some (.ref r0), some (.int v1), some (.int v2), some (.int v3), some (.int v4), some (.int u0), none, none] [.int (-1)] H uc us)) :
    xW l x d mc ms mUN_readBlocks n0 Q cl 19 [some (.ref r0), some (.int v1), some (.int v2), some (.int v3), some (.int v4), none, none, none] [.int u0] H uc us := by
  refine xs_istore rfl (L' := [some (.ref r0), some (.int v1), some (.int v2), some (.int v3), some (.int v4), some (.int u0), none, none]) rfl rfl ?_
  refine xs_iload rfl rfl ?_
  refine xs_iconstV (v := (-1)) rfl rfl ?_
  refine xs_icmp_ne (k' := 25) rfl rfl (fun hb => ?_) (fun hb => ?_)
  · have h := h.1 hb
    refine xs_aload_n rfl rfl ?_
    refine xs_iconstV (v := 2) rfl rfl ?_
    exact h
  · have h := h.2 hb
    refine xs_iconstV (v := (-1)) rfl rfl ?_
    refine xs_goto (k' := 28) rfl rfl ?_
    exact h

set_option maxRecDepth 20000 in
theorem b_UN_readBlocks_28 {l : Launch} {x : xX} {d mc ms n0 uc us : Nat} {Q : xO → xH → Prop} {cl : Bool} {r0 : Nat} {v1 : Int32} {v2 : Int32} {v3 : Int32} {v4 : Int32} {v5 : Int32} {u0 : Int32} {H : xH}
    (h : (¬ u0 = (-1) → (¬ u0 = 3 → (¬ u0 = 0 → (¬ u0 = 1 → xW l x d mc ms mUN_readBlocks n0 Q cl 61 [some (.ref r0), some (.int v1), some (.int v2), some (.int v3), some (.int v4), some (.int v5), some (.int u0), none] [.ref r0] H uc us) ∧ (u0 = 1 → ∃ p1, gR H r0 9 4 p1 ∧ (∃ p2, gR H r0 9 5 p2 ∧ (xW l x d mc ms mUN_readBlocks n0 Q cl 58 [some (.ref r0), some (.int v1), some (.int v2), some (.int v3), some (.int v4), some (.int v5), some (.int u0), none] [.ref p2, .ref p1, .ref r0] H uc us)))) ∧ (u0 = 0 → xW l x d mc ms mUN_readBlocks n0 Q cl 48 [some (.ref r0), some (.int v1), some (.int v2), some (.int v3), some (.int v4), some (.int v5), some (.int u0), none] [.ref r0] H uc us)) ∧ (u0 = 3 → ∃ a3, gI H r0 9 10 a3 ∧ (xW l x d mc ms mUN_readBlocks n0 Q cl 43 [some (.ref r0), some (.int v1), some (.int v2), some (.int v3), some (.int v4), some (.int v5), some (.int u0), none] [.int (a3 - 2), .int 2, .ref r0] H uc us))) ∧ (u0 = (-1) → narrow .boolean (.int 0) = .int 0 ∧ uc = mc ∧ us ≤ ms ∧ Q (.inl (some (.int 0))) H)) :
    xW l x d mc ms mUN_readBlocks n0 Q cl 28 [some (.ref r0), some (.int v1), some (.int v2), some (.int v3), some (.int v4), some (.int v5), none, none] [.int u0] H uc us := by
  refine xs_istore rfl (L' := [some (.ref r0), some (.int v1), some (.int v2), some (.int v3), some (.int v4), some (.int v5), some (.int u0), none]) rfl rfl ?_
  refine xs_iload rfl rfl ?_
  refine xs_iconstV (v := (-1)) rfl rfl ?_
  refine xs_icmp_ne (k' := 34) rfl rfl (fun hb => ?_) (fun hb => ?_)
  · have h := h.1 hb
    refine xs_iload rfl rfl ?_
    refine xs_iconstV (v := 3) rfl rfl ?_
    refine xs_icmp_ne (k' := 45) rfl rfl (fun hb => ?_) (fun hb => ?_)
    · have h := h.1 hb
      refine xs_iload rfl rfl ?_
      refine xs_if_ne (k' := 50) rfl rfl (fun hb => ?_) (fun hb => ?_)
      · have h := h.1 hb
        refine xs_iload rfl rfl ?_
        refine xs_iconstV (v := 1) rfl rfl ?_
        refine xs_icmp_ne (k' := 60) rfl rfl (fun hb => ?_) (fun hb => ?_)
        · have h := h.1 hb
          refine xs_aload_n rfl rfl ?_
          exact h
        · have h := h.2 hb
          refine xs_aload_n rfl rfl ?_
          refine xs_aload_n rfl rfl ?_
          obtain ⟨p1, ⟨_, h1, h2⟩, h⟩ := h
          refine xs_getf rfl fl_9_12 h1 h2 ?_
          refine xs_aload_n rfl rfl ?_
          obtain ⟨p2, ⟨_, h1, h2⟩, h⟩ := h
          refine xs_getf rfl fl_9_18 h1 h2 ?_
          exact h
      · have h := h.2 hb
        refine xs_aload_n rfl rfl ?_
        exact h
    · have h := h.2 hb
      refine xs_aload_n rfl rfl ?_
      refine xs_iconstV (v := 2) rfl rfl ?_
      refine xs_aload_n rfl rfl ?_
      obtain ⟨a3, ⟨_, h1, h2⟩, h⟩ := h
      refine xs_getf rfl fl_9_74 h1 h2 ?_
      refine xs_iconstV (v := 2) rfl rfl ?_
      refine xs_isub rfl ?_
      exact h
  · have h := h.2 hb
    refine xs_iconstV (v := 0) rfl rfl ?_
    exact xs_zret rfl rfl h.1 h.2.1 h.2.2.1 h.2.2.2

set_option maxRecDepth 20000 in
theorem b_UN_readBlocks_44 {l : Launch} {x : xX} {d mc ms n0 uc us : Nat} {Q : xO → xH → Prop} {cl : Bool} {r0 : Nat} {v1 : Int32} {v2 : Int32} {v3 : Int32} {v4 : Int32} {v5 : Int32} {v6 : Int32} {u0 : Int32} {H : xH}
    (h : narrow .boolean (.int u0) = .int u0 ∧ uc = mc ∧ us ≤ ms ∧ Q (.inl (some (.int u0))) H) :
    xW l x d mc ms mUN_readBlocks n0 Q cl 44 [some (.ref r0), some (.int v1), some (.int v2), some (.int v3), some (.int v4), some (.int v5), some (.int v6), none] [.int u0] H uc us := by
  exact xs_zret rfl rfl h.1 h.2.1 h.2.2.1 h.2.2.2

set_option maxRecDepth 20000 in
theorem b_UN_readBlocks_49 {l : Launch} {x : xX} {d mc ms n0 uc us : Nat} {Q : xO → xH → Prop} {cl : Bool} {r0 : Nat} {v1 : Int32} {v2 : Int32} {v3 : Int32} {v4 : Int32} {v5 : Int32} {v6 : Int32} {u0 : Int32} {H : xH}
    (h : (¬ u0 = 0 → ∃ p1, gR H r0 9 2 p1 ∧ (∃ a2, gI H r0 9 10 a2 ∧ (∃ p3, gR H r0 9 1 p3 ∧ (∃ a4, gI H p3 7 1 a4 ∧ (xW l x d mc ms mUN_readBlocks n0 Q cl 91 [some (.ref r0), some (.int v1), some (.int v2), some (.int v3), some (.int v4), some (.int v5), some (.int v6), some (.int u0)] [.int (a4 - v4), .int (a2 - v3), .int v3, .int v6, .ref p1] H uc us))))) ∧ (u0 = 0 → narrow .boolean (.int 0) = .int 0 ∧ uc = mc ∧ us ≤ ms ∧ Q (.inl (some (.int 0))) H)) :
    xW l x d mc ms mUN_readBlocks n0 Q cl 49 [some (.ref r0), some (.int v1), some (.int v2), some (.int v3), some (.int v4), some (.int v5), some (.int v6), none] [.int u0] H uc us := by
  refine xs_goto (k' := 73) rfl rfl ?_
  refine xs_istore rfl (L' := [some (.ref r0), some (.int v1), some (.int v2), some (.int v3), some (.int v4), some (.int v5), some (.int v6), some (.int u0)]) rfl rfl ?_
  refine xs_iload rfl rfl ?_
  refine xs_if_ne (k' := 78) rfl rfl (fun hb => ?_) (fun hb => ?_)
  · have h := h.1 hb
    refine xs_aload_n rfl rfl ?_
    obtain ⟨p1, ⟨_, h1, h2⟩, h⟩ := h
    refine xs_getf rfl fl_9_41 h1 h2 ?_
    refine xs_iload rfl rfl ?_
    refine xs_iload_n rfl rfl ?_
    refine xs_aload_n rfl rfl ?_
    obtain ⟨a2, ⟨_, h1, h2⟩, h⟩ := h
    refine xs_getf rfl fl_9_74 h1 h2 ?_
    refine xs_iload_n rfl rfl ?_
    refine xs_isub rfl ?_
    refine xs_aload_n rfl rfl ?_
    obtain ⟨p3, ⟨_, h1, h2⟩, h⟩ := h
    refine xs_getf rfl fl_9_38 h1 h2 ?_
    obtain ⟨a4, ⟨_, h1, h2⟩, h⟩ := h
    refine xs_getf rfl fl_9_68 h1 h2 ?_
    refine xs_iload rfl rfl ?_
    refine xs_isub rfl ?_
    exact h
  · have h := h.2 hb
    refine xs_iconstV (v := 0) rfl rfl ?_
    exact xs_zret rfl rfl h.1 h.2.1 h.2.2.1 h.2.2.2

set_option maxRecDepth 20000 in
theorem b_UN_readBlocks_59 {l : Launch} {x : xX} {d mc ms n0 uc us : Nat} {Q : xO → xH → Prop} {cl : Bool} {r0 : Nat} {v1 : Int32} {v2 : Int32} {v3 : Int32} {v4 : Int32} {v5 : Int32} {v6 : Int32} {u0 : Int32} {H : xH}
    (h : (¬ u0 = 0 → ∃ p1, gR H r0 9 2 p1 ∧ (∃ a2, gI H r0 9 10 a2 ∧ (∃ p3, gR H r0 9 1 p3 ∧ (∃ a4, gI H p3 7 1 a4 ∧ (xW l x d mc ms mUN_readBlocks n0 Q cl 91 [some (.ref r0), some (.int v1), some (.int v2), some (.int v3), some (.int v4), some (.int v5), some (.int v6), some (.int u0)] [.int (a4 - v4), .int (a2 - v3), .int v3, .int v6, .ref p1] H uc us))))) ∧ (u0 = 0 → narrow .boolean (.int 0) = .int 0 ∧ uc = mc ∧ us ≤ ms ∧ Q (.inl (some (.int 0))) H)) :
    xW l x d mc ms mUN_readBlocks n0 Q cl 59 [some (.ref r0), some (.int v1), some (.int v2), some (.int v3), some (.int v4), some (.int v5), some (.int v6), none] [.int u0] H uc us := by
  refine xs_goto (k' := 73) rfl rfl ?_
  refine xs_istore rfl (L' := [some (.ref r0), some (.int v1), some (.int v2), some (.int v3), some (.int v4), some (.int v5), some (.int v6), some (.int u0)]) rfl rfl ?_
  refine xs_iload rfl rfl ?_
  refine xs_if_ne (k' := 78) rfl rfl (fun hb => ?_) (fun hb => ?_)
  · have h := h.1 hb
    refine xs_aload_n rfl rfl ?_
    obtain ⟨p1, ⟨_, h1, h2⟩, h⟩ := h
    refine xs_getf rfl fl_9_41 h1 h2 ?_
    refine xs_iload rfl rfl ?_
    refine xs_iload_n rfl rfl ?_
    refine xs_aload_n rfl rfl ?_
    obtain ⟨a2, ⟨_, h1, h2⟩, h⟩ := h
    refine xs_getf rfl fl_9_74 h1 h2 ?_
    refine xs_iload_n rfl rfl ?_
    refine xs_isub rfl ?_
    refine xs_aload_n rfl rfl ?_
    obtain ⟨p3, ⟨_, h1, h2⟩, h⟩ := h
    refine xs_getf rfl fl_9_38 h1 h2 ?_
    obtain ⟨a4, ⟨_, h1, h2⟩, h⟩ := h
    refine xs_getf rfl fl_9_68 h1 h2 ?_
    refine xs_iload rfl rfl ?_
    refine xs_isub rfl ?_
    exact h
  · have h := h.2 hb
    refine xs_iconstV (v := 0) rfl rfl ?_
    exact xs_zret rfl rfl h.1 h.2.1 h.2.2.1 h.2.2.2

set_option maxRecDepth 20000 in
theorem b_UN_readBlocks_62 {l : Launch} {x : xX} {d mc ms n0 uc us : Nat} {Q : xO → xH → Prop} {cl : Bool} {r0 : Nat} {v1 : Int32} {v2 : Int32} {v3 : Int32} {v4 : Int32} {v5 : Int32} {v6 : Int32} {u0 : Int32} {H : xH}
    (h : (u0 = 0 → (¬ (0 : Int32) = 0 → ∃ p1, gR H r0 9 2 p1 ∧ (∃ a2, gI H r0 9 10 a2 ∧ (∃ p3, gR H r0 9 1 p3 ∧ (∃ a4, gI H p3 7 1 a4 ∧ (xW l x d mc ms mUN_readBlocks n0 Q cl 91 [some (.ref r0), some (.int v1), some (.int v2), some (.int v3), some (.int v4), some (.int v5), some (.int v6), some (.int 0)] [.int (a4 - v4), .int (a2 - v3), .int v3, .int v6, .ref p1] H uc us))))) ∧ ((0 : Int32) = 0 → narrow .boolean (.int 0) = .int 0 ∧ uc = mc ∧ us ≤ ms ∧ Q (.inl (some (.int 0))) H)) ∧ (¬ u0 = 0 → ∃ p5, gR H r0 9 7 p5 ∧ (∃ p6, gR H r0 9 8 p6 ∧ (xW l x d mc ms mUN_readBlocks n0 Q cl 68 [some (.ref r0), some (.int v1), some (.int v2), some (.int v3), some (.int v4), some (.int v5), some (.int v6), none] [.ref p6, .ref p5, .ref r0] H uc us)))) :
    xW l x d mc ms mUN_readBlocks n0 Q cl 62 [some (.ref r0), some (.int v1), some (.int v2), some (.int v3), some (.int v4), some (.int v5), some (.int v6), none] [.int u0] H uc us := by
  refine xs_if_eq (k' := 72) rfl rfl (fun hb => ?_) (fun hb => ?_)
  · have h := h.1 hb
    refine xs_iconstV (v := 0) rfl rfl ?_
    refine xs_istore rfl (L' := [some (.ref r0), some (.int v1), some (.int v2), some (.int v3), some (.int v4), some (.int v5), some (.int v6), some (.int 0)]) rfl rfl ?_
    refine xs_iload rfl rfl ?_
    refine xs_if_ne (k' := 78) rfl rfl (fun hb => ?_) (fun hb => ?_)
    · have h := h.1 hb
      refine xs_aload_n rfl rfl ?_
      obtain ⟨p1, ⟨_, h1, h2⟩, h⟩ := h
      refine xs_getf rfl fl_9_41 h1 h2 ?_
      refine xs_iload rfl rfl ?_
      refine xs_iload_n rfl rfl ?_
      refine xs_aload_n rfl rfl ?_
      obtain ⟨a2, ⟨_, h1, h2⟩, h⟩ := h
      refine xs_getf rfl fl_9_74 h1 h2 ?_
      refine xs_iload_n rfl rfl ?_
      refine xs_isub rfl ?_
      refine xs_aload_n rfl rfl ?_
      obtain ⟨p3, ⟨_, h1, h2⟩, h⟩ := h
      refine xs_getf rfl fl_9_38 h1 h2 ?_
      obtain ⟨a4, ⟨_, h1, h2⟩, h⟩ := h
      refine xs_getf rfl fl_9_68 h1 h2 ?_
      refine xs_iload rfl rfl ?_
      refine xs_isub rfl ?_
      exact h
    · have h := h.2 hb
      refine xs_iconstV (v := 0) rfl rfl ?_
      exact xs_zret rfl rfl h.1 h.2.1 h.2.2.1 h.2.2.2
  · have h := h.2 hb
    refine xs_aload_n rfl rfl ?_
    refine xs_aload_n rfl rfl ?_
    obtain ⟨p5, ⟨_, h1, h2⟩, h⟩ := h
    refine xs_getf rfl fl_9_24 h1 h2 ?_
    refine xs_aload_n rfl rfl ?_
    obtain ⟨p6, ⟨_, h1, h2⟩, h⟩ := h
    refine xs_getf rfl fl_9_27 h1 h2 ?_
    exact h

set_option maxRecDepth 20000 in
theorem b_UN_readBlocks_69 {l : Launch} {x : xX} {d mc ms n0 uc us : Nat} {Q : xO → xH → Prop} {cl : Bool} {r0 : Nat} {v1 : Int32} {v2 : Int32} {v3 : Int32} {v4 : Int32} {v5 : Int32} {v6 : Int32} {u0 : Int32} {H : xH}
    (h : (u0 = 0 → (¬ (0 : Int32) = 0 → ∃ p1, gR H r0 9 2 p1 ∧ (∃ a2, gI H r0 9 10 a2 ∧ (∃ p3, gR H r0 9 1 p3 ∧ (∃ a4, gI H p3 7 1 a4 ∧ (xW l x d mc ms mUN_readBlocks n0 Q cl 91 [some (.ref r0), some (.int v1), some (.int v2), some (.int v3), some (.int v4), some (.int v5), some (.int v6), some (.int 0)] [.int (a4 - v4), .int (a2 - v3), .int v3, .int v6, .ref p1] H uc us))))) ∧ ((0 : Int32) = 0 → narrow .boolean (.int 0) = .int 0 ∧ uc = mc ∧ us ≤ ms ∧ Q (.inl (some (.int 0))) H)) ∧ (¬ u0 = 0 → (¬ (1 : Int32) = 0 → ∃ p5, gR H r0 9 2 p5 ∧ (∃ a6, gI H r0 9 10 a6 ∧ (∃ p7, gR H r0 9 1 p7 ∧ (∃ a8, gI H p7 7 1 a8 ∧ (xW l x d mc ms mUN_readBlocks n0 Q cl 91 [some (.ref r0), some (.int v1), some (.int v2), some (.int v3), some (.int v4), some (.int v5), some (.int v6), some (.int 1)] [.int (a8 - v4), .int (a6 - v3), .int v3, .int v6, .ref p5] H uc us))))) ∧ ((1 : Int32) = 0 → narrow .boolean (.int 0) = .int 0 ∧ uc = mc ∧ us ≤ ms ∧ Q (.inl (some (.int 0))) H))) :
    xW l x d mc ms mUN_readBlocks n0 Q cl 69 [some (.ref r0), some (.int v1), some (.int v2), some (.int v3), some (.int v4), some (.int v5), some (.int v6), none] [.int u0] H uc us := by
  refine xs_if_eq (k' := 72) rfl rfl (fun hb => ?_) (fun hb => ?_)
  · have h := h.1 hb
    refine xs_iconstV (v := 0) rfl rfl ?_
    refine xs_istore rfl (L' := [some (.ref r0), some (.int v1), some (.int v2), some (.int v3), some (.int v4), some (.int v5), some (.int v6), some (.int 0)]) rfl rfl ?_
    refine xs_iload rfl rfl ?_
    refine xs_if_ne (k' := 78) rfl rfl (fun hb => ?_) (fun hb => ?_)
    · have h := h.1 hb
      refine xs_aload_n rfl rfl ?_
      obtain ⟨p1, ⟨_, h1, h2⟩, h⟩ := h
      refine xs_getf rfl fl_9_41 h1 h2 ?_
      refine xs_iload rfl rfl ?_
      refine xs_iload_n rfl rfl ?_
      refine xs_aload_n rfl rfl ?_
      obtain ⟨a2, ⟨_, h1, h2⟩, h⟩ := h
      refine xs_getf rfl fl_9_74 h1 h2 ?_
      refine xs_iload_n rfl rfl ?_
      refine xs_isub rfl ?_
      refine xs_aload_n rfl rfl ?_
      obtain ⟨p3, ⟨_, h1, h2⟩, h⟩ := h
      refine xs_getf rfl fl_9_38 h1 h2 ?_
      obtain ⟨a4, ⟨_, h1, h2⟩, h⟩ := h
      refine xs_getf rfl fl_9_68 h1 h2 ?_
      refine xs_iload rfl rfl ?_
      refine xs_isub rfl ?_
      exact h
    · have h := h.2 hb
      refine xs_iconstV (v := 0) rfl rfl ?_
      exact xs_zret rfl rfl h.1 h.2.1 h.2.2.1 h.2.2.2
  · have h := h.2 hb
    refine xs_iconstV (v := 1) rfl rfl ?_
    refine xs_goto (k' := 73) rfl rfl ?_
    refine xs_istore rfl (L' := [some (.ref r0), some (.int v1), some (.int v2), some (.int v3), some (.int v4), some (.int v5), some (.int v6), some (.int 1)]) rfl rfl ?_
    refine xs_iload rfl rfl ?_
    refine xs_if_ne (k' := 78) rfl rfl (fun hb => ?_) (fun hb => ?_)
    · have h := h.1 hb
      refine xs_aload_n rfl rfl ?_
      obtain ⟨p5, ⟨_, h1, h2⟩, h⟩ := h
      refine xs_getf rfl fl_9_41 h1 h2 ?_
      refine xs_iload rfl rfl ?_
      refine xs_iload_n rfl rfl ?_
      refine xs_aload_n rfl rfl ?_
      obtain ⟨a6, ⟨_, h1, h2⟩, h⟩ := h
      refine xs_getf rfl fl_9_74 h1 h2 ?_
      refine xs_iload_n rfl rfl ?_
      refine xs_isub rfl ?_
      refine xs_aload_n rfl rfl ?_
      obtain ⟨p7, ⟨_, h1, h2⟩, h⟩ := h
      refine xs_getf rfl fl_9_38 h1 h2 ?_
      obtain ⟨a8, ⟨_, h1, h2⟩, h⟩ := h
      refine xs_getf rfl fl_9_68 h1 h2 ?_
      refine xs_iload rfl rfl ?_
      refine xs_isub rfl ?_
      exact h
    · have h := h.2 hb
      refine xs_iconstV (v := 0) rfl rfl ?_
      exact xs_zret rfl rfl h.1 h.2.1 h.2.2.1 h.2.2.2

set_option maxRecDepth 20000 in
theorem b_UN_readBlocks_92 {l : Launch} {x : xX} {d mc ms n0 uc us : Nat} {Q : xO → xH → Prop} {cl : Bool} {r0 : Nat} {v1 : Int32} {v2 : Int32} {v3 : Int32} {v4 : Int32} {v5 : Int32} {v6 : Int32} {v7 : Int32} {H : xH}
    (h : (¬ v5 = 1 → xW l x d mc ms mUN_readBlocks n0 Q cl 4 [some (.ref r0), some (.int 0), some (.int (v2 + 1)), some (.int v3), some (.int v4), some (.int v5), some (.int v6), some (.int v7)] [] H uc us) ∧ (v5 = 1 → xW l x d mc ms mUN_readBlocks n0 Q cl 4 [some (.ref r0), some (.int 1), some (.int (v2 + 1)), some (.int v3), some (.int v4), some (.int v5), some (.int v6), some (.int v7)] [] H uc us)) :
    xW l x d mc ms mUN_readBlocks n0 Q cl 92 [some (.ref r0), some (.int v1), some (.int v2), some (.int v3), some (.int v4), some (.int v5), some (.int v6), some (.int v7)] [] H uc us := by
  refine xs_iload rfl rfl ?_
  refine xs_iconstV (v := 1) rfl rfl ?_
  refine xs_icmp_ne (k' := 97) rfl rfl (fun hb => ?_) (fun hb => ?_)
  · have h := h.1 hb
    refine xs_iconstV (v := 0) rfl rfl ?_
    refine xs_istore_n rfl (L' := [some (.ref r0), some (.int 0), some (.int v2), some (.int v3), some (.int v4), some (.int v5), some (.int v6), some (.int v7)]) rfl rfl ?_
    refine xs_iincV rfl (w := 1) rfl rfl (L' := [some (.ref r0), some (.int 0), some (.int (v2 + 1)), some (.int v3), some (.int v4), some (.int v5), some (.int v6), some (.int v7)]) rfl rfl ?_
    refine xs_goto (k' := 4) rfl rfl ?_
    exact h
  · have h := h.2 hb
    refine xs_iconstV (v := 1) rfl rfl ?_
    refine xs_goto (k' := 98) rfl rfl ?_
    refine xs_istore_n rfl (L' := [some (.ref r0), some (.int 1), some (.int v2), some (.int v3), some (.int v4), some (.int v5), some (.int v6), some (.int v7)]) rfl rfl ?_
    refine xs_iincV rfl (w := 1) rfl rfl (L' := [some (.ref r0), some (.int 1), some (.int (v2 + 1)), some (.int v3), some (.int v4), some (.int v5), some (.int v6), some (.int v7)]) rfl rfl ?_
    refine xs_goto (k' := 4) rfl rfl ?_
    exact h

set_option maxRecDepth 20000 in
theorem b_UN_readBlocks_103 {l : Launch} {x : xX} {d mc ms n0 uc us : Nat} {Q : xO → xH → Prop} {cl : Bool} {r0 : Nat} {v1 : Int32} {v2 : Int32} {H : xH}
    (h : narrow .boolean (.int 1) = .int 1 ∧ uc = mc ∧ us ≤ ms ∧ Q (.inl (some (.int 1))) H) :
    xW l x d mc ms mUN_readBlocks n0 Q cl 103 [some (.ref r0), some (.int v1), some (.int v2), none, none, none, none, none] [] H uc us := by
  refine xs_iconstV (v := 1) rfl rfl ?_
  exact xs_zret rfl rfl h.1 h.2.1 h.2.2.1 h.2.2.2

set_option maxRecDepth 20000 in
theorem b_UN_readPlain_0 {l : Launch} {x : xX} {d mc ms n0 uc us : Nat} {Q : xO → xH → Prop} {cl : Bool} {r0 : Nat} {H : xH}
    (h : xW l x d mc ms mUN_readPlain n0 Q cl 1 [some (.ref r0), none, none] [.ref r0] H uc us) :
    xW l x d mc ms mUN_readPlain n0 Q cl 0 [some (.ref r0), none, none] [] H uc us := by
  refine xs_aload_n rfl rfl ?_
  exact h

set_option maxRecDepth 20000 in
theorem b_UN_readPlain_2 {l : Launch} {x : xX} {d mc ms n0 uc us : Nat} {Q : xO → xH → Prop} {cl : Bool} {r0 : Nat} {H : xH}
    (h : xW l x d mc ms mUN_readPlain n0 Q cl 4 [some (.ref r0), none, none] [.int 16, .ref r0] H uc us) :
    xW l x d mc ms mUN_readPlain n0 Q cl 2 [some (.ref r0), none, none] [] H uc us := by
  refine xs_aload_n rfl rfl ?_
  refine xs_bipushV (v := 16) rfl rfl ?_
  exact h

set_option maxRecDepth 20000 in
theorem b_UN_readPlain_5 {l : Launch} {x : xX} {d mc ms n0 uc us : Nat} {Q : xO → xH → Prop} {cl : Bool} {r0 : Nat} {u0 : Int32} {H : xH}
    (h : (¬ u0 = (-1) → xW l x d mc ms mUN_readPlain n0 Q cl 13 [some (.ref r0), some (.int u0), none] [.int 16, .ref r0] H uc us) ∧ (u0 = (-1) → xW l x d mc ms mUN_readPlain n0 Q cl 14 [some (.ref r0), some (.int u0), none] [.int (-1)] H uc us)) :
    xW l x d mc ms mUN_readPlain n0 Q cl 5 [some (.ref r0), none, none] [.int u0] H uc us := by
  refine xs_istore_n rfl (L' := [some (.ref r0), some (.int u0), none]) rfl rfl ?_
  refine xs_iload_n rfl rfl ?_
  refine xs_iconstV (v := (-1)) rfl rfl ?_
  refine xs_icmp_ne (k' := 11) rfl rfl (fun hb => ?_) (fun hb => ?_)
  · have h := h.1 hb
    refine xs_aload_n rfl rfl ?_
    refine xs_bipushV (v := 16) rfl rfl ?_
    exact h
  · have h := h.2 hb
    refine xs_iconstV (v := (-1)) rfl rfl ?_
    refine xs_goto (k' := 14) rfl rfl ?_
    exact h

set_option maxRecDepth 20000 in
theorem b_UN_readPlain_14 {l : Launch} {x : xX} {d mc ms n0 uc us : Nat} {Q : xO → xH → Prop} {cl : Bool} {r0 : Nat} {v1 : Int32} {u0 : Int32} {H : xH}
    (h : (¬ u0 = (-1) → (u0 = ((65535 : Int32) - v1) → ∃ p1, gR H r0 9 1 p1 ∧ (∃ a2, gI H p1 7 1 a2 ∧ ((v1 ≤ ((65536 : Int32) - a2) → ∃ a3, gI H r0 9 11 a3 ∧ (∃ a4, gI H r0 9 10 a4 ∧ ((((8 : Int32) * v1) ≤ (a3 - a4) → ∃ p5, gR H r0 9 0 p5 ∧ (∃ p6, gR H p5 7 0 p6 ∧ (∃ a7, gI H r0 9 10 a7 ∧ (∃ p8, gR H r0 9 1 p8 ∧ (∃ p9, gR H p8 7 0 p9 ∧ (∃ p10, gR H r0 9 1 p10 ∧ (∃ a11, gI H p10 7 1 a11 ∧ (xW l x d mc ms mUN_readPlain n0 Q cl 77 [some (.ref r0), some (.int v1), some (.int u0)] [.int v1, .int a11, .ref p9, .int (a7 / 8), .ref p6] H uc us)))))))) ∧ (¬ ((8 : Int32) * v1) ≤ (a3 - a4) → ∃ a12, gI H r0 9 11 a12 ∧ (xW l x d mc ms mUN_readPlain n0 Q cl 61 [some (.ref r0), some (.int v1), some (.int u0)] [.int a12, .int 1, .ref r0] H uc us))))) ∧ (¬ v1 ≤ ((65536 : Int32) - a2) → ∃ a13, gI H r0 9 10 a13 ∧ (xW l x d mc ms mUN_readPlain n0 Q cl 46 [some (.ref r0), some (.int v1), some (.int u0)] [.int (a13 - 32), .int 10, .ref r0] H uc us))))) ∧ (¬ u0 = ((65535 : Int32) - v1) → ∃ a14, gI H r0 9 10 a14 ∧ (xW l x d mc ms mUN_readPlain n0 Q cl 31 [some (.ref r0), some (.int v1), some (.int u0)] [.int (a14 - 16), .int 3, .ref r0] H uc us))) ∧ (u0 = (-1) → narrow .boolean (.int 0) = .int 0 ∧ uc = mc ∧ us ≤ ms ∧ Q (.inl (some (.int 0))) H)) :
    xW l x d mc ms mUN_readPlain n0 Q cl 14 [some (.ref r0), some (.int v1), none] [.int u0] H uc us := by
  refine xs_istore_n rfl (L' := [some (.ref r0), some (.int v1), some (.int u0)]) rfl rfl ?_
  refine xs_iload_n rfl rfl ?_
  refine xs_iconstV (v := (-1)) rfl rfl ?_
  refine xs_icmp_ne (k' := 20) rfl rfl (fun hb => ?_) (fun hb => ?_)
  · have h := h.1 hb
    refine xs_iload_n rfl rfl ?_
    refine xs_ldc rfl kc_9_175 ?_
    refine xs_iload_n rfl rfl ?_
    refine xs_isub rfl ?_
    refine xs_icmp_eq (k' := 33) rfl rfl (fun hb => ?_) (fun hb => ?_)
    · have h := h.1 hb
      refine xs_iload_n rfl rfl ?_
      refine xs_ldc rfl kc_9_176 ?_
      refine xs_aload_n rfl rfl ?_
      obtain ⟨p1, ⟨_, h1, h2⟩, h⟩ := h
      refine xs_getf rfl fl_9_38 h1 h2 ?_
      obtain ⟨a2, ⟨_, h1, h2⟩, h⟩ := h
      refine xs_getf rfl fl_9_68 h1 h2 ?_
      refine xs_isub rfl ?_
      refine xs_icmp_le (k' := 48) rfl rfl (fun hb => ?_) (fun hb => ?_)
      · have h := h.1 hb
        refine xs_aload_n rfl rfl ?_
        obtain ⟨a3, ⟨_, h1, h2⟩, h⟩ := h
        refine xs_getf rfl fl_9_77 h1 h2 ?_
        refine xs_aload_n rfl rfl ?_
        obtain ⟨a4, ⟨_, h1, h2⟩, h⟩ := h
        refine xs_getf rfl fl_9_74 h1 h2 ?_
        refine xs_isub rfl ?_
        refine xs_bipushV (v := 8) rfl rfl ?_
        refine xs_iload_n rfl rfl ?_
        refine xs_imul rfl ?_
        refine xs_icmp_ge (k' := 63) rfl rfl (fun hb => ?_) (fun hb => ?_)
        · have h := h.1 hb
          refine xs_aload_n rfl rfl ?_
          obtain ⟨p5, ⟨_, h1, h2⟩, h⟩ := h
          refine xs_getf rfl fl_9_34 h1 h2 ?_
          obtain ⟨p6, ⟨_, h1, h2⟩, h⟩ := h
          refine xs_getf rfl fl_9_144 h1 h2 ?_
          refine xs_aload_n rfl rfl ?_
          obtain ⟨a7, ⟨_, h1, h2⟩, h⟩ := h
          refine xs_getf rfl fl_9_74 h1 h2 ?_
          refine xs_bipushV (v := 8) rfl rfl ?_
          refine xs_idiv rfl (by decide) ?_
          refine xs_aload_n rfl rfl ?_
          obtain ⟨p8, ⟨_, h1, h2⟩, h⟩ := h
          refine xs_getf rfl fl_9_38 h1 h2 ?_
          obtain ⟨p9, ⟨_, h1, h2⟩, h⟩ := h
          refine xs_getf rfl fl_9_144 h1 h2 ?_
          refine xs_aload_n rfl rfl ?_
          obtain ⟨p10, ⟨_, h1, h2⟩, h⟩ := h
          refine xs_getf rfl fl_9_38 h1 h2 ?_
          obtain ⟨a11, ⟨_, h1, h2⟩, h⟩ := h
          refine xs_getf rfl fl_9_68 h1 h2 ?_
          refine xs_iload_n rfl rfl ?_
          exact h
        · have h := h.2 hb
          refine xs_aload_n rfl rfl ?_
          refine xs_iconstV (v := 1) rfl rfl ?_
          refine xs_aload_n rfl rfl ?_
          obtain ⟨a12, ⟨_, h1, h2⟩, h⟩ := h
          refine xs_getf rfl fl_9_77 h1 h2 ?_
          exact h
      · have h := h.2 hb
        refine xs_aload_n rfl rfl ?_
        refine xs_bipushV (v := 10) rfl rfl ?_
        refine xs_aload_n rfl rfl ?_
        obtain ⟨a13, ⟨_, h1, h2⟩, h⟩ := h
        refine xs_getf rfl fl_9_74 h1 h2 ?_
        refine xs_bipushV (v := 32) rfl rfl ?_
        refine xs_isub rfl ?_
        exact h
    · have h := h.2 hb
      refine xs_aload_n rfl rfl ?_
      refine xs_iconstV (v := 3) rfl rfl ?_
      refine xs_aload_n rfl rfl ?_
      obtain ⟨a14, ⟨_, h1, h2⟩, h⟩ := h
      refine xs_getf rfl fl_9_74 h1 h2 ?_
      refine xs_bipushV (v := 16) rfl rfl ?_
      refine xs_isub rfl ?_
      exact h
  · have h := h.2 hb
    refine xs_iconstV (v := 0) rfl rfl ?_
    exact xs_zret rfl rfl h.1 h.2.1 h.2.2.1 h.2.2.2

set_option maxRecDepth 20000 in
theorem b_UN_readPlain_32 {l : Launch} {x : xX} {d mc ms n0 uc us : Nat} {Q : xO → xH → Prop} {cl : Bool} {r0 : Nat} {v1 : Int32} {v2 : Int32} {u0 : Int32} {H : xH}
    (h : narrow .boolean (.int u0) = .int u0 ∧ uc = mc ∧ us ≤ ms ∧ Q (.inl (some (.int u0))) H) :
    xW l x d mc ms mUN_readPlain n0 Q cl 32 [some (.ref r0), some (.int v1), some (.int v2)] [.int u0] H uc us := by
  exact xs_zret rfl rfl h.1 h.2.1 h.2.2.1 h.2.2.2

set_option maxRecDepth 20000 in
theorem b_UN_readPlain_47 {l : Launch} {x : xX} {d mc ms n0 uc us : Nat} {Q : xO → xH → Prop} {cl : Bool} {r0 : Nat} {v1 : Int32} {v2 : Int32} {u0 : Int32} {H : xH}
    (h : narrow .boolean (.int u0) = .int u0 ∧ uc = mc ∧ us ≤ ms ∧ Q (.inl (some (.int u0))) H) :
    xW l x d mc ms mUN_readPlain n0 Q cl 47 [some (.ref r0), some (.int v1), some (.int v2)] [.int u0] H uc us := by
  exact xs_zret rfl rfl h.1 h.2.1 h.2.2.1 h.2.2.2

set_option maxRecDepth 20000 in
theorem b_UN_readPlain_62 {l : Launch} {x : xX} {d mc ms n0 uc us : Nat} {Q : xO → xH → Prop} {cl : Bool} {r0 : Nat} {v1 : Int32} {v2 : Int32} {u0 : Int32} {H : xH}
    (h : narrow .boolean (.int u0) = .int u0 ∧ uc = mc ∧ us ≤ ms ∧ Q (.inl (some (.int u0))) H) :
    xW l x d mc ms mUN_readPlain n0 Q cl 62 [some (.ref r0), some (.int v1), some (.int v2)] [.int u0] H uc us := by
  exact xs_zret rfl rfl h.1 h.2.1 h.2.2.1 h.2.2.2

set_option maxRecDepth 20000 in
theorem b_UN_readPlain_78 {l : Launch} {x : xX} {d mc ms n0 uc us : Nat} {Q : xO → xH → Prop} {cl : Bool} {r0 : Nat} {v1 : Int32} {v2 : Int32} {H : xH}
    (h : ∃ p1, gR H r0 9 1 p1 ∧ (∃ a2, gI H p1 7 1 a2 ∧ (∃ c3, H[(p1 : Nat)]? = some (.inr (7, c3)) ∧ 1 < c3.length ∧ (∀ H4 : xH, H4 = H.set p1 (.inr (7, c3.set 1 (.int (a2 + v1)))) → ∃ a5, gI H4 r0 9 10 a5 ∧ (∃ c6, H4[(r0 : Nat)]? = some (.inr (9, c6)) ∧ 10 < c6.length ∧ (∀ H7 : xH, H7 = H4.set r0 (.inr (9, c6.set 10 (.int (a5 + ((8 : Int32) * v1))))) → narrow .boolean (.int 1) = .int 1 ∧ uc = mc ∧ us ≤ ms ∧ Q (.inl (some (.int 1))) H7)))))) :
    xW l x d mc ms mUN_readPlain n0 Q cl 78 [some (.ref r0), some (.int v1), some (.int v2)] [] H uc us := by
  refine xs_aload_n rfl rfl ?_
  obtain ⟨p1, ⟨_, h1, h2⟩, h⟩ := h
  refine xs_getf rfl fl_9_38 h1 h2 ?_
  refine xs_dup rfl rfl ?_
  obtain ⟨a2, ⟨_, h1, h2⟩, h⟩ := h
  refine xs_getf rfl fl_9_68 h1 h2 ?_
  refine xs_iload_n rfl rfl ?_
  refine xs_iadd rfl ?_
  obtain ⟨c3, h1, h2, h⟩ := h
  refine xs_putf rfl fl_9_68 h1 (fun q hq => by cases hq; rfl) rfl h2 ?_
  have h := h _ rfl
  generalize H.set p1 (.inr (7, c3.set 1 (.int (a2 + v1)))) = H4 at h ⊢
  refine xs_aload_n rfl rfl ?_
  refine xs_dup rfl rfl ?_
  obtain ⟨a5, ⟨_, h1, h2⟩, h⟩ := h
  refine xs_getf rfl fl_9_74 h1 h2 ?_
  refine xs_bipushV (v := 8) rfl rfl ?_
  refine xs_iload_n rfl rfl ?_
  refine xs_imul rfl ?_
  refine xs_iadd rfl ?_
  obtain ⟨c6, h1, h2, h⟩ := h
  refine xs_putf rfl fl_9_74 h1 (fun q hq => by cases hq; rfl) rfl h2 ?_
  have h := h _ rfl
  generalize H4.set r0 (.inr (9, c6.set 10 (.int (a5 + ((8 : Int32) * v1))))) = H7 at h ⊢
  refine xs_iconstV (v := 1) rfl rfl ?_
  exact xs_zret rfl rfl h.1 h.2.1 h.2.2.1 h.2.2.2

set_option maxRecDepth 20000 in
theorem b_UN_goToNextByte_0 {l : Launch} {x : xX} {d mc ms n0 uc us : Nat} {Q : xO → xH → Prop} {cl : Bool} {r0 : Nat} {H : xH}
    (h : ∃ a1, gI H r0 9 10 a1 ∧ (∃ c2, H[(r0 : Nat)]? = some (.inr (9, c2)) ∧ 10 < c2.length ∧ (∀ H3 : xH, H3 = H.set r0 (.inr (9, c2.set 10 (.int (((a1 + 7) / 8) * 8)))) → uc = mc ∧ us ≤ ms ∧ Q (.inl none) H3))) :
    xW l x d mc ms mUN_goToNextByte n0 Q cl 0 [some (.ref r0)] [] H uc us := by
  refine xs_aload_n rfl rfl ?_
  refine xs_aload_n rfl rfl ?_
  obtain ⟨a1, ⟨_, h1, h2⟩, h⟩ := h
  refine xs_getf rfl fl_9_74 h1 h2 ?_
  refine xs_bipushV (v := 7) rfl rfl ?_
  refine xs_iadd rfl ?_
  refine xs_bipushV (v := 8) rfl rfl ?_
  refine xs_idiv rfl (by decide) ?_
  refine xs_bipushV (v := 8) rfl rfl ?_
  refine xs_imul rfl ?_
  obtain ⟨c2, h1, h2, h⟩ := h
  refine xs_putf rfl fl_9_74 h1 (fun q hq => by cases hq; rfl) rfl h2 ?_
  have h := h _ rfl
  generalize H.set r0 (.inr (9, c2.set 10 (.int (((a1 + 7) / 8) * 8)))) = H3 at h ⊢
  exact xs_vret rfl rfl h.1 h.2.1 h.2.2

set_option maxRecDepth 20000 in
theorem b_UN_readSymbols_0 {l : Launch} {x : xX} {d mc ms n0 uc us : Nat} {Q : xO → xH → Prop} {cl : Bool} {r0 : Nat} {r1 : Nat} {r2 : Nat} {H : xH}
    (h : xW l x d mc ms mUN_readSymbols n0 Q cl 2 [some (.ref r0), some (.ref r1), some (.ref r2), some (.int 0), none, none] [] H uc us) :
    xW l x d mc ms mUN_readSymbols n0 Q cl 0 [some (.ref r0), some (.ref r1), some (.ref r2), none, none, none] [] H uc us := by
  refine xs_iconstV (v := 0) rfl rfl ?_
  refine xs_istore_n rfl (L' := [some (.ref r0), some (.ref r1), some (.ref r2), some (.int 0), none, none]) rfl rfl ?_
  exact h

set_option maxRecDepth 20000 in
theorem b_UN_readSymbols_2 {l : Launch} {x : xX} {d mc ms n0 uc us : Nat} {Q : xO → xH → Prop} {cl : Bool} {r0 : Nat} {r1 : Nat} {r2 : Nat} {v3 : Int32} {H : xH}
    (h : (262144 ≤ v3 → ∃ a1, gI H r0 9 11 a1 ∧ (xW l x d mc ms mUN_readSymbols n0 Q cl 53 [some (.ref r0), some (.ref r1), some (.ref r2), some (.int v3), none, none] [.int a1, .int 1, .ref r0] H uc us)) ∧ (¬ 262144 ≤ v3 → ∃ a2, gI H r0 9 10 a2 ∧ (xW l x d mc ms mUN_readSymbols n0 Q cl 10 [some (.ref r0), some (.ref r1), some (.ref r2), some (.int v3), some (.int a2), none] [.ref r1, .ref r0] H uc us))) :
    xW l x d mc ms mUN_readSymbols n0 Q cl 2 [some (.ref r0), some (.ref r1), some (.ref r2), some (.int v3), none, none] [] H uc us := by
  refine xs_iload_n rfl rfl ?_
  refine xs_ldc rfl kc_9_157 ?_
  refine xs_icmp_ge (k' := 49) rfl rfl (fun hb => ?_) (fun hb => ?_)
  · have h := h.1 hb
    refine xs_aload_n rfl rfl ?_
    refine xs_iconstV (v := 1) rfl rfl ?_
    refine xs_aload_n rfl rfl ?_
    obtain ⟨a1, ⟨_, h1, h2⟩, h⟩ := h
    refine xs_getf rfl fl_9_77 h1 h2 ?_
    exact h
  · have h := h.2 hb
    refine xs_aload_n rfl rfl ?_
    obtain ⟨a2, ⟨_, h1, h2⟩, h⟩ := h
    refine xs_getf rfl fl_9_74 h1 h2 ?_
    refine xs_istore rfl (L' := [some (.ref r0), some (.ref r1), some (.ref r2), some (.int v3), some (.int a2), none]) rfl rfl ?_
    refine xs_aload_n rfl rfl ?_
    refine xs_aload_n rfl rfl ?_
    exact h

set_option maxRecDepth 20000 in
theorem b_UN_readSymbols_11 {l : Launch} {x : xX} {d mc ms n0 uc us : Nat} {Q : xO → xH → Prop} {cl : Bool} {r0 : Nat} {r1 : Nat} {r2 : Nat} {v3 : Int32} {v4 : Int32} {u0 : Int32} {H : xH}
    (h : (¬ u0 = (-1) → (¬ u0 = 256 → (u0 < 257 → ∃ p1, gR H r0 9 1 p1 ∧ (∃ a2, gI H p1 7 1 a2 ∧ ((¬ a2 = 65536 → ∃ p3, gR H r0 9 1 p3 ∧ (xW l x d mc ms mUN_readSymbols n0 Q cl 46 [some (.ref r0), some (.ref r1), some (.ref r2), some (.int v3), some (.int v4), some (.int u0)] [.int u0, .ref p3] H uc us)) ∧ (a2 = 65536 → xW l x d mc ms mUN_readSymbols n0 Q cl 41 [some (.ref r0), some (.ref r1), some (.ref r2), some (.int v3), some (.int v4), some (.int u0)] [.int v4, .int 10, .ref r0] H uc us)))) ∧ (¬ u0 < 257 → xW l x d mc ms mUN_readSymbols n0 Q cl 29 [some (.ref r0), some (.ref r1), some (.ref r2), some (.int v3), some (.int v4), some (.int u0)] [.ref r2, .int v4, .int u0, .ref r0] H uc us)) ∧ (u0 = 256 → narrow .boolean (.int 1) = .int 1 ∧ uc = mc ∧ us ≤ ms ∧ Q (.inl (some (.int 1))) H)) ∧ (u0 = (-1) → narrow .boolean (.int 0) = .int 0 ∧ uc = mc ∧ us ≤ ms ∧ Q (.inl (some (.int 0))) H)) :
    xW l x d mc ms mUN_readSymbols n0 Q cl 11 [some (.ref r0), some (.ref r1), some (.ref r2), some (.int v3), some (.int v4), none] [.int u0] H uc us := by
  refine xs_istore rfl (L' := [some (.ref r0), some (.ref r1), some (.ref r2), some (.int v3), some (.int v4), some (.int u0)]) rfl rfl ?_
  refine xs_iload rfl rfl ?_
  refine xs_iconstV (v := (-1)) rfl rfl ?_
  refine xs_icmp_ne (k' := 17) rfl rfl (fun hb => ?_) (fun hb => ?_)
  · have h := h.1 hb
    refine xs_iload rfl rfl ?_
    refine xs_sipushV (v := 256) rfl rfl ?_
    refine xs_icmp_ne (k' := 22) rfl rfl (fun hb => ?_) (fun hb => ?_)
    · have h := h.1 hb
      refine xs_iload rfl rfl ?_
      refine xs_sipushV (v := 257) rfl rfl ?_
      refine xs_icmp_lt (k' := 33) rfl rfl (fun hb => ?_) (fun hb => ?_)
      · have h := h.1 hb
        refine xs_aload_n rfl rfl ?_
        obtain ⟨p1, ⟨_, h1, h2⟩, h⟩ := h
        refine xs_getf rfl fl_9_38 h1 h2 ?_
        obtain ⟨a2, ⟨_, h1, h2⟩, h⟩ := h
        refine xs_getf rfl fl_9_68 h1 h2 ?_
        refine xs_ldc rfl kc_9_176 ?_
        refine xs_icmp_ne (k' := 43) rfl rfl (fun hb => ?_) (fun hb => ?_)
        · have h := h.1 hb
          refine xs_aload_n rfl rfl ?_
          obtain ⟨p3, ⟨_, h1, h2⟩, h⟩ := h
          refine xs_getf rfl fl_9_38 h1 h2 ?_
          refine xs_iload rfl rfl ?_
          exact h
        · have h := h.2 hb
          refine xs_aload_n rfl rfl ?_
          refine xs_bipushV (v := 10) rfl rfl ?_
          refine xs_iload rfl rfl ?_
          exact h
      · have h := h.2 hb
        refine xs_aload_n rfl rfl ?_
        refine xs_iload rfl rfl ?_
        refine xs_iload rfl rfl ?_
        refine xs_aload_n rfl rfl ?_
        exact h
    · have h := h.2 hb
      refine xs_iconstV (v := 1) rfl rfl ?_
      exact xs_zret rfl rfl h.1 h.2.1 h.2.2.1 h.2.2.2
  · have h := h.2 hb
    refine xs_iconstV (v := 0) rfl rfl ?_
    exact xs_zret rfl rfl h.1 h.2.1 h.2.2.1 h.2.2.2

set_option maxRecDepth 20000 in
theorem b_UN_readSymbols_30 {l : Launch} {x : xX} {d mc ms n0 uc us : Nat} {Q : xO → xH → Prop} {cl : Bool} {r0 : Nat} {r1 : Nat} {r2 : Nat} {v3 : Int32} {v4 : Int32} {v5 : Int32} {u0 : Int32} {H : xH}
    (h : (¬ u0 = 0 → xW l x d mc ms mUN_readSymbols n0 Q cl 47 [some (.ref r0), some (.ref r1), some (.ref r2), some (.int v3), some (.int v4), some (.int v5)] [] H uc us) ∧ (u0 = 0 → narrow .boolean (.int 0) = .int 0 ∧ uc = mc ∧ us ≤ ms ∧ Q (.inl (some (.int 0))) H)) :
    xW l x d mc ms mUN_readSymbols n0 Q cl 30 [some (.ref r0), some (.ref r1), some (.ref r2), some (.int v3), some (.int v4), some (.int v5)] [.int u0] H uc us := by
  refine xs_if_ne (k' := 47) rfl rfl (fun hb => ?_) (fun hb => ?_)
  · have h := h.1 hb
    exact h
  · have h := h.2 hb
    refine xs_iconstV (v := 0) rfl rfl ?_
    exact xs_zret rfl rfl h.1 h.2.1 h.2.2.1 h.2.2.2

set_option maxRecDepth 20000 in
theorem b_UN_readSymbols_42 {l : Launch} {x : xX} {d mc ms n0 uc us : Nat} {Q : xO → xH → Prop} {cl : Bool} {r0 : Nat} {r1 : Nat} {r2 : Nat} {v3 : Int32} {v4 : Int32} {v5 : Int32} {u0 : Int32} {H : xH}
    (h : narrow .boolean (.int u0) = .int u0 ∧ uc = mc ∧ us ≤ ms ∧ Q (.inl (some (.int u0))) H) :
    xW l x d mc ms mUN_readSymbols n0 Q cl 42 [some (.ref r0), some (.ref r1), some (.ref r2), some (.int v3), some (.int v4), some (.int v5)] [.int u0] H uc us := by
  exact xs_zret rfl rfl h.1 h.2.1 h.2.2.1 h.2.2.2

set_option maxRecDepth 20000 in
theorem b_UN_readSymbols_47 {l : Launch} {x : xX} {d mc ms n0 uc us : Nat} {Q : xO → xH → Prop} {cl : Bool} {r0 : Nat} {r1 : Nat} {r2 : Nat} {v3 : Int32} {v4 : Int32} {v5 : Int32} {H : xH}
    (h : xW l x d mc ms mUN_readSymbols n0 Q cl 2 [some (.ref r0), some (.ref r1), some (.ref r2), some (.int (v3 + 1)), some (.int v4), some (.int v5)] [] H uc us) :
    xW l x d mc ms mUN_readSymbols n0 Q cl 47 [some (.ref r0), some (.ref r1), some (.ref r2), some (.int v3), some (.int v4), some (.int v5)] [] H uc us := by
  refine xs_iincV rfl (w := 1) rfl rfl (L' := [some (.ref r0), some (.ref r1), some (.ref r2), some (.int (v3 + 1)), some (.int v4), some (.int v5)]) rfl rfl ?_
  refine xs_goto (k' := 2) rfl rfl ?_
  exact h

set_option maxRecDepth 20000 in
theorem b_UN_readSymbols_54 {l : Launch} {x : xX} {d mc ms n0 uc us : Nat} {Q : xO → xH → Prop} {cl : Bool} {r0 : Nat} {r1 : Nat} {r2 : Nat} {v3 : Int32} {u0 : Int32} {H : xH}
    (h : narrow .boolean (.int u0) = .int u0 ∧ uc = mc ∧ us ≤ ms ∧ Q (.inl (some (.int u0))) H) :
    xW l x d mc ms mUN_readSymbols n0 Q cl 54 [some (.ref r0), some (.ref r1), some (.ref r2), some (.int v3), none, none] [.int u0] H uc us := by
  exact xs_zret rfl rfl h.1 h.2.1 h.2.2.1 h.2.2.2

set_option maxRecDepth 20000 in
theorem b_UN_readSymbol_0 {l : Launch} {x : xX} {d mc ms n0 uc us : Nat} {Q : xO → xH → Prop} {cl : Bool} {r0 : Nat} {r1 : Nat} {H : xH}
    (h : ∃ a1, gI H r0 9 10 a1 ∧ (∃ a2, gI H r1 5 2 a2 ∧ ((2 ≤ a2 → xW l x d mc ms mUN_readSymbol n0 Q cl 19 [some (.ref r0), some (.ref r1), some (.int a1), some (.int 0), some (.int 0), some (.int 0), some (.int 15), some (.int 1), none] [] H uc us) ∧ (¬ 2 ≤ a2 → xW l x d mc ms mUN_readSymbol n0 Q cl 19 [some (.ref r0), some (.ref r1), some (.int a1), some (.int 0), some (.int 0), some (.int 0), some (.int 1), some (.int 1), none] [] H uc us)))) :
    xW l x d mc ms mUN_readSymbol n0 Q cl 0 [some (.ref r0), some (.ref r1), none, none, none, none, none, none, none] [] H uc us := by
  refine xs_aload_n rfl rfl ?_
  obtain ⟨a1, ⟨_, h1, h2⟩, h⟩ := h
  refine xs_getf rfl fl_9_74 h1 h2 ?_
  refine xs_istore_n rfl (L' := [some (.ref r0), some (.ref r1), some (.int a1), none, none, none, none, none, none]) rfl rfl ?_
  refine xs_iconstV (v := 0) rfl rfl ?_
  refine xs_istore_n rfl (L' := [some (.ref r0), some (.ref r1), some (.int a1), some (.int 0), none, none, none, none, none]) rfl rfl ?_
  refine xs_iconstV (v := 0) rfl rfl ?_
  refine xs_istore rfl (L' := [some (.ref r0), some (.ref r1), some (.int a1), some (.int 0), some (.int 0), none, none, none, none]) rfl rfl ?_
  refine xs_iconstV (v := 0) rfl rfl ?_
  refine xs_istore rfl (L' := [some (.ref r0), some (.ref r1), some (.int a1), some (.int 0), some (.int 0), some (.int 0), none, none, none]) rfl rfl ?_
  refine xs_aload_n rfl rfl ?_
  obtain ⟨a2, ⟨_, h1, h2⟩, h⟩ := h
  refine xs_getf rfl fl_9_148 h1 h2 ?_
  refine xs_iconstV (v := 2) rfl rfl ?_
  refine xs_icmp_ge (k' := 15) rfl rfl (fun hb => ?_) (fun hb => ?_)
  · have h := h.1 hb
    refine xs_bipushV (v := 15) rfl rfl ?_
    refine xs_istore rfl (L' := [some (.ref r0), some (.ref r1), some (.int a1), some (.int 0), some (.int 0), some (.int 0), some (.int 15), none, none]) rfl rfl ?_
    refine xs_iconstV (v := 1) rfl rfl ?_
    refine xs_istore rfl (L' := [some (.ref r0), some (.ref r1), some (.int a1), some (.int 0), some (.int 0), some (.int 0), some (.int 15), some (.int 1), none]) rfl rfl ?_
    exact h
  · have h := h.2 hb
    refine xs_iconstV (v := 1) rfl rfl ?_
    refine xs_goto (k' := 16) rfl rfl ?_
    refine xs_istore rfl (L' := [some (.ref r0), some (.ref r1), some (.int a1), some (.int 0), some (.int 0), some (.int 0), some (.int 1), none, none]) rfl rfl ?_
    refine xs_iconstV (v := 1) rfl rfl ?_
    refine xs_istore rfl (L' := [some (.ref r0), some (.ref r1), some (.int a1), some (.int 0), some (.int 0), some (.int 0), some (.int 1), some (.int 1), none]) rfl rfl ?_
    exact h

set_option maxRecDepth 20000 in
theorem b_UN_readSymbol_19 {l : Launch} {x : xX} {d mc ms n0 uc us : Nat} {Q : xO → xH → Prop} {cl : Bool} {r0 : Nat} {r1 : Nat} {v2 : Int32} {v3 : Int32} {v4 : Int32} {v5 : Int32} {v6 : Int32} {v7 : Int32} {H : xH}
    (h : (v6 < v7 → xW l x d mc ms mUN_readSymbol n0 Q cl 95 [some (.ref r0), some (.ref r1), some (.int v2), some (.int v3), some (.int v4), some (.int v5), some (.int v6), some (.int v7), none] [.int v2, .int 8, .ref r0] H uc us) ∧ (¬ v6 < v7 → ∃ a1, gI H r0 9 10 a1 ∧ (∃ a2, gI H r0 9 11 a2 ∧ ((a1 < a2 → ∃ p3, gR H r0 9 0 p3 ∧ (∃ p4, gR H p3 7 0 p4 ∧ (∃ a5, gI H r0 9 10 a5 ∧ (∃ n6 f7, H[(p4 : Nat)]? = some (.inl (1, n6, .inl f7)) ∧ vp_in (a5 >>> ((3 : Int32) &&& 31)) n6 ∧ (∃ a8, gI H r0 9 10 a8 ∧ (∃ a9, gI H r0 9 10 a9 ∧ (∃ c10, H[(r0 : Nat)]? = some (.inr (9, c10)) ∧ 10 < c10.length ∧ (∀ H11 : xH, H11 = H.set r0 (.inr (9, c10.set 10 (.int (a9 + 1)))) → ∃ p12, gR H11 r1 5 0 p12 ∧ (∃ n13 f14, H11[(p12 : Nat)]? = some (.inl (0, n13, .inl f14)) ∧ vp_in v7 n13 ∧ (((f14 v7.toNatClampNeg) ≤ ((((2 : Int32) * v3) + (((f7 (a5 >>> ((3 : Int32) &&& 31)).toNatClampNeg) >>> (((a8 &&& 7) : Int32) &&& 31)) &&& 1)) - v4) → xW l x d mc ms mUN_readSymbol n0 Q false 19 [some (.ref r0), some (.ref r1), some (.int v2), some (.int (((2 : Int32) * v3) + (((f7 (a5 >>> ((3 : Int32) &&& 31)).toNatClampNeg) >>> (((a8 &&& 7) : Int32) &&& 31)) &&& 1))), some (.int ((2 : Int32) * (v4 + (f14 v7.toNatClampNeg)))), some (.int (v5 + (f14 v7.toNatClampNeg))), some (.int v6), some (.int (v7 + 1)), some (.int (f14 v7.toNatClampNeg))] [] H11 uc us) ∧ (¬ (f14 v7.toNatClampNeg) ≤ ((((2 : Int32) * v3) + (((f7 (a5 >>> ((3 : Int32) &&& 31)).toNatClampNeg) >>> (((a8 &&& 7) : Int32) &&& 31)) &&& 1)) - v4) → ∃ p15, gR H11 r1 5 1 p15 ∧ (∃ n16 f17, H11[(p15 : Nat)]? = some (.inl (0, n16, .inl f17)) ∧ vp_in ((v5 + (((2 : Int32) * v3) + (((f7 (a5 >>> ((3 : Int32) &&& 31)).toNatClampNeg) >>> (((a8 &&& 7) : Int32) &&& 31)) &&& 1))) - v4) n16 ∧ (uc = mc ∧ us ≤ ms ∧ Q (.inl (some (.int (f17 ((v5 + (((2 : Int32) * v3) + (((f7 (a5 >>> ((3 : Int32) &&& 31)).toNatClampNeg) >>> (((a8 &&& 7) : Int32) &&& 31)) &&& 1))) - v4).toNatClampNeg)))) H11))))))))))))) ∧ (¬ a1 < a2 → ∃ a18, gI H r0 9 11 a18 ∧ (xW l x d mc ms mUN_readSymbol n0 Q cl 31 [some (.ref r0), some (.ref r1), some (.int v2), some (.int v3), some (.int v4), some (.int v5), some (.int v6), some (.int v7), none] [.int a18, .int 1, .ref r0] H uc us)))))) :
    xW l x d mc ms mUN_readSymbol n0 Q cl 19 [some (.ref r0), some (.ref r1), some (.int v2), some (.int v3), some (.int v4), some (.int v5), some (.int v6), some (.int v7), none] [] H uc us := by
  refine xs_iload rfl rfl ?_
  refine xs_iload rfl rfl ?_
  refine xs_icmp_gt (k' := 92) rfl rfl (fun hb => ?_) (fun hb => ?_)
  · have h := h.1 hb
    refine xs_aload_n rfl rfl ?_
    refine xs_bipushV (v := 8) rfl rfl ?_
    refine xs_iload_n rfl rfl ?_
    exact h
  · have h := h.2 hb
    refine xs_aload_n rfl rfl ?_
    obtain ⟨a1, ⟨_, h1, h2⟩, h⟩ := h
    refine xs_getf rfl fl_9_74 h1 h2 ?_
    refine xs_aload_n rfl rfl ?_
    obtain ⟨a2, ⟨_, h1, h2⟩, h⟩ := h
    refine xs_getf rfl fl_9_77 h1 h2 ?_
    refine xs_icmp_lt (k' := 35) rfl rfl (fun hb => ?_) (fun hb => ?_)
    · have h := h.1 hb
      refine xs_iconstV (v := 2) rfl rfl ?_
      refine xs_iload_n rfl rfl ?_
      refine xs_imul rfl ?_
      refine xs_aload_n rfl rfl ?_
      obtain ⟨p3, ⟨_, h1, h2⟩, h⟩ := h
      refine xs_getf rfl fl_9_34 h1 h2 ?_
      obtain ⟨p4, ⟨_, h1, h2⟩, h⟩ := h
      refine xs_getf rfl fl_9_144 h1 h2 ?_
      refine xs_aload_n rfl rfl ?_
      obtain ⟨a5, ⟨_, h1, h2⟩, h⟩ := h
      refine xs_getf rfl fl_9_74 h1 h2 ?_
      refine xs_iconstV (v := 3) rfl rfl ?_
      refine xs_ishr rfl ?_
      obtain ⟨n6, f7, h1, h2, h⟩ := h
      refine xs_bald rfl h1 h2 ?_
      refine xs_aload_n rfl rfl ?_
      obtain ⟨a8, ⟨_, h1, h2⟩, h⟩ := h
      refine xs_getf rfl fl_9_74 h1 h2 ?_
      refine xs_bipushV (v := 7) rfl rfl ?_
      refine xs_iand rfl ?_
      refine xs_ishr rfl ?_
      refine xs_iconstV (v := 1) rfl rfl ?_
      refine xs_iand rfl ?_
      refine xs_iadd rfl ?_
      refine xs_istore_n rfl (L' := [some (.ref r0), some (.ref r1), some (.int v2), some (.int (((2 : Int32) * v3) + (((f7 (a5 >>> ((3 : Int32) &&& 31)).toNatClampNeg) >>> (((a8 &&& 7) : Int32) &&& 31)) &&& 1))), some (.int v4), some (.int v5), some (.int v6), some (.int v7), none]) rfl rfl ?_
      refine xs_aload_n rfl rfl ?_
      refine xs_dup rfl rfl ?_
      obtain ⟨a9, ⟨_, h1, h2⟩, h⟩ := h
      refine xs_getf rfl fl_9_74 h1 h2 ?_
      refine xs_iconstV (v := 1) rfl rfl ?_
      refine xs_iadd rfl ?_
      obtain ⟨c10, h1, h2, h⟩ := h
      refine xs_putf rfl fl_9_74 h1 (fun q hq => by cases hq; rfl) rfl h2 ?_
      have h := h _ rfl
      generalize H.set r0 (.inr (9, c10.set 10 (.int (a9 + 1)))) = H11 at h ⊢
      refine xs_aload_n rfl rfl ?_
      obtain ⟨p12, ⟨_, h1, h2⟩, h⟩ := h
      refine xs_getf rfl fl_9_151 h1 h2 ?_
      refine xs_iload rfl rfl ?_
      obtain ⟨n13, f14, h1, h2, h⟩ := h
      refine xs_iald rfl h1 h2 ?_
      refine xs_istore rfl (L' := [some (.ref r0), some (.ref r1), some (.int v2), some (.int (((2 : Int32) * v3) + (((f7 (a5 >>> ((3 : Int32) &&& 31)).toNatClampNeg) >>> (((a8 &&& 7) : Int32) &&& 31)) &&& 1))), some (.int v4), some (.int v5), some (.int v6), some (.int v7), some (.int (f14 v7.toNatClampNeg))]) rfl rfl ?_
      refine xs_iload_n rfl rfl ?_
      refine xs_iload rfl rfl ?_
      refine xs_isub rfl ?_
      refine xs_iload rfl rfl ?_
      refine xs_icmp_ge (k' := 80) rfl rfl (fun hb => ?_) (fun hb => ?_)
      · have h := h.1 hb
        refine xs_iload rfl rfl ?_
        refine xs_iload rfl rfl ?_
        refine xs_iadd rfl ?_
        refine xs_istore rfl (L' := [some (.ref r0), some (.ref r1), some (.int v2), some (.int (((2 : Int32) * v3) + (((f7 (a5 >>> ((3 : Int32) &&& 31)).toNatClampNeg) >>> (((a8 &&& 7) : Int32) &&& 31)) &&& 1))), some (.int v4), some (.int (v5 + (f14 v7.toNatClampNeg))), some (.int v6), some (.int v7), some (.int (f14 v7.toNatClampNeg))]) rfl rfl ?_
        refine xs_iconstV (v := 2) rfl rfl ?_
        refine xs_iload rfl rfl ?_
        refine xs_iload rfl rfl ?_
        refine xs_iadd rfl ?_
        refine xs_imul rfl ?_
        refine xs_istore rfl (L' := [some (.ref r0), some (.ref r1), some (.int v2), some (.int (((2 : Int32) * v3) + (((f7 (a5 >>> ((3 : Int32) &&& 31)).toNatClampNeg) >>> (((a8 &&& 7) : Int32) &&& 31)) &&& 1))), some (.int ((2 : Int32) * (v4 + (f14 v7.toNatClampNeg)))), some (.int (v5 + (f14 v7.toNatClampNeg))), some (.int v6), some (.int v7), some (.int (f14 v7.toNatClampNeg))]) rfl rfl ?_
        refine xs_iincV rfl (w := 1) rfl rfl (L' := [some (.ref r0), some (.ref r1), some (.int v2), some (.int (((2 : Int32) * v3) + (((f7 (a5 >>> ((3 : Int32) &&& 31)).toNatClampNeg) >>> (((a8 &&& 7) : Int32) &&& 31)) &&& 1))), some (.int ((2 : Int32) * (v4 + (f14 v7.toNatClampNeg)))), some (.int (v5 + (f14 v7.toNatClampNeg))), some (.int v6), some (.int (v7 + 1)), some (.int (f14 v7.toNatClampNeg))]) rfl rfl ?_
        refine xs_goto (k' := 19) rfl rfl ?_
        exact h
      · have h := h.2 hb
        refine xs_aload_n rfl rfl ?_
        obtain ⟨p15, ⟨_, h1, h2⟩, h⟩ := h
        refine xs_getf rfl fl_9_154 h1 h2 ?_
        refine xs_iload rfl rfl ?_
        refine xs_iload_n rfl rfl ?_
        refine xs_iadd rfl ?_
        refine xs_iload rfl rfl ?_
        refine xs_isub rfl ?_
        obtain ⟨n16, f17, h1, h2, h⟩ := h
        refine xs_iald rfl h1 h2 ?_
        exact xs_iret rfl rfl h.1 h.2.1 h.2.2
    · have h := h.2 hb
      refine xs_aload_n rfl rfl ?_
      refine xs_iconstV (v := 1) rfl rfl ?_
      refine xs_aload_n rfl rfl ?_
      obtain ⟨a18, ⟨_, h1, h2⟩, h⟩ := h
      refine xs_getf rfl fl_9_77 h1 h2 ?_
      exact h

set_option maxRecDepth 20000 in
theorem b_UN_readSymbol_32 {l : Launch} {x : xX} {d mc ms n0 uc us : Nat} {Q : xO → xH → Prop} {cl : Bool} {r0 : Nat} {r1 : Nat} {v2 : Int32} {v3 : Int32} {v4 : Int32} {v5 : Int32} {v6 : Int32} {v7 : Int32} {u0 : Int32} {H : xH}
    (h : uc = mc ∧ us ≤ ms ∧ Q (.inl (some (.int (-1)))) H) :
    xW l x d mc ms mUN_readSymbol n0 Q cl 32 [some (.ref r0), some (.ref r1), some (.int v2), some (.int v3), some (.int v4), some (.int v5), some (.int v6), some (.int v7), none] [.int u0] H uc us := by
  refine xs_pop rfl rfl ?_
  refine xs_iconstV (v := (-1)) rfl rfl ?_
  exact xs_iret rfl rfl h.1 h.2.1 h.2.2

set_option maxRecDepth 20000 in
theorem b_UN_readSymbol_96 {l : Launch} {x : xX} {d mc ms n0 uc us : Nat} {Q : xO → xH → Prop} {cl : Bool} {r0 : Nat} {r1 : Nat} {v2 : Int32} {v3 : Int32} {v4 : Int32} {v5 : Int32} {v6 : Int32} {v7 : Int32} {u0 : Int32} {H : xH}
    (h : uc = mc ∧ us ≤ ms ∧ Q (.inl (some (.int (-1)))) H) :
    xW l x d mc ms mUN_readSymbol n0 Q cl 96 [some (.ref r0), some (.ref r1), some (.int v2), some (.int v3), some (.int v4), some (.int v5), some (.int v6), some (.int v7), none] [.int u0] H uc us := by
  refine xs_pop rfl rfl ?_
  refine xs_iconstV (v := (-1)) rfl rfl ?_
  exact xs_iret rfl rfl h.1 h.2.1 h.2.2

set_option maxRecDepth 20000 in
theorem b_UN_readStretch_0 {l : Launch} {x : xX} {d mc ms n0 uc us : Nat} {Q : xO → xH → Prop} {cl : Bool} {r0 : Nat} {v1 : Int32} {v2 : Int32} {r3 : Nat} {H : xH}
    (h : (v1 < 286 → xW l x d mc ms mUN_readStretch n0 Q cl 12 [some (.ref r0), some (.int v1), some (.int v2), some (.ref r3), none, none, none, none, none, none] [.int (v1 - 257), .ref r0] H uc us) ∧ (¬ v1 < 286 → xW l x d mc ms mUN_readStretch n0 Q cl 6 [some (.ref r0), some (.int v1), some (.int v2), some (.ref r3), none, none, none, none, none, none] [.int v2, .int 8, .ref r0] H uc us)) :
    xW l x d mc ms mUN_readStretch n0 Q cl 0 [some (.ref r0), some (.int v1), some (.int v2), some (.ref r3), none, none, none, none, none, none] [] H uc us := by
  refine xs_iload_n rfl rfl ?_
  refine xs_sipushV (v := 286) rfl rfl ?_
  refine xs_icmp_lt (k' := 8) rfl rfl (fun hb => ?_) (fun hb => ?_)
  · have h := h.1 hb
    refine xs_aload_n rfl rfl ?_
    refine xs_iload_n rfl rfl ?_
    refine xs_sipushV (v := 257) rfl rfl ?_
    refine xs_isub rfl ?_
    exact h
  · have h := h.2 hb
    refine xs_aload_n rfl rfl ?_
    refine xs_bipushV (v := 8) rfl rfl ?_
    refine xs_iload_n rfl rfl ?_
    exact h

set_option maxRecDepth 20000 in
theorem b_UN_readStretch_7 {l : Launch} {x : xX} {d mc ms n0 uc us : Nat} {Q : xO → xH → Prop} {cl : Bool} {r0 : Nat} {v1 : Int32} {v2 : Int32} {r3 : Nat} {u0 : Int32} {H : xH}
    (h : narrow .boolean (.int u0) = .int u0 ∧ uc = mc ∧ us ≤ ms ∧ Q (.inl (some (.int u0))) H) :
    xW l x d mc ms mUN_readStretch n0 Q cl 7 [some (.ref r0), some (.int v1), some (.int v2), some (.ref r3), none, none, none, none, none, none] [.int u0] H uc us := by
  exact xs_zret rfl rfl h.1 h.2.1 h.2.2.1 h.2.2.2

-- b_UN_readStretch_13: .invokevirtual 111
set_option maxRecDepth 20000 in
theorem b_UN_readStretch_14 {l : Launch} {x : xX} {d mc ms n0 uc us : Nat} {Q : xO → xH → Prop} {cl : Bool} {r0 : Nat} {v1 : Int32} {v2 : Int32} {r3 : Nat} {u0 : Int32} {H : xH}
    (h : (¬ u0 = (-1) → ∃ a1, gI H r0 9 10 a1 ∧ (xW l x d mc ms mUN_readStretch n0 Q cl 25 [some (.ref r0), some (.int v1), some (.int v2), some (.ref r3), some (.int u0), some (.int a1), none, none, none, none] [.ref r3, .ref r0] H uc us)) ∧ (u0 = (-1) → narrow .boolean (.int 0) = .int 0 ∧ uc = mc ∧ us ≤ ms ∧ Q (.inl (some (.int 0))) H)) :
    xW l x d mc ms mUN_readStretch n0 Q cl 14 [some (.ref r0), some (.int v1), some (.int v2), some (.ref r3), none, none, none, none, none, none] [.int u0] H uc us := by
  refine xs_istore rfl (L' := [some (.ref r0), some (.int v1), some (.int v2), some (.ref r3), some (.int u0), none, none, none, none, none]) rfl rfl ?_
  refine xs_iload rfl rfl ?_
  refine xs_iconstV (v := (-1)) rfl rfl ?_
  refine xs_icmp_ne (k' := 20) rfl rfl (fun hb => ?_) (fun hb => ?_)
  · have h := h.1 hb
    refine xs_aload_n rfl rfl ?_
    obtain ⟨a1, ⟨_, h1, h2⟩, h⟩ := h
    refine xs_getf rfl fl_9_74 h1 h2 ?_
    refine xs_istore rfl (L' := [some (.ref r0), some (.int v1), some (.int v2), some (.ref r3), some (.int u0), some (.int a1), none, none, none, none]) rfl rfl ?_
    refine xs_aload_n rfl rfl ?_
    refine xs_aload_n rfl rfl ?_
    exact h
  · have h := h.2 hb
    refine xs_iconstV (v := 0) rfl rfl ?_
    exact xs_zret rfl rfl h.1 h.2.1 h.2.2.1 h.2.2.2

set_option maxRecDepth 20000 in
theorem b_UN_readStretch_26 {l : Launch} {x : xX} {d mc ms n0 uc us : Nat} {Q : xO → xH → Prop} {cl : Bool} {r0 : Nat} {v1 : Int32} {v2 : Int32} {r3 : Nat} {v4 : Int32} {v5 : Int32} {u0 : Int32} {H : xH}
    (h : (¬ u0 = (-1) → (u0 < 30 → xW l x d mc ms mUN_readStretch n0 Q cl 42 [some (.ref r0), some (.int v1), some (.int v2), some (.ref r3), some (.int v4), some (.int v5), some (.int u0), none, none, none] [.int u0, .ref r0] H uc us) ∧ (¬ u0 < 30 → xW l x d mc ms mUN_readStretch n0 Q cl 38 [some (.ref r0), some (.int v1), some (.int v2), some (.ref r3), some (.int v4), some (.int v5), some (.int u0), none, none, none] [.int v5, .int 8, .ref r0] H uc us)) ∧ (u0 = (-1) → narrow .boolean (.int 0) = .int 0 ∧ uc = mc ∧ us ≤ ms ∧ Q (.inl (some (.int 0))) H)) :
    xW l x d mc ms mUN_readStretch n0 Q cl 26 [some (.ref r0), some (.int v1), some (.int v2), some (.ref r3), some (.int v4), some (.int v5), none, none, none, none] [.int u0] H uc us := by
  refine xs_istore rfl (L' := [some (.ref r0), some (.int v1), some (.int v2), some (.ref r3), some (.int v4), some (.int v5), some (.int u0), none, none, none]) rfl rfl ?_
  refine xs_iload rfl rfl ?_
  refine xs_iconstV (v := (-1)) rfl rfl ?_
  refine xs_icmp_ne (k' := 32) rfl rfl (fun hb => ?_) (fun hb => ?_)
  · have h := h.1 hb
    refine xs_iload rfl rfl ?_
    refine xs_bipushV (v := 30) rfl rfl ?_
    refine xs_icmp_lt (k' := 40) rfl rfl (fun hb => ?_) (fun hb => ?_)
    · have h := h.1 hb
      refine xs_aload_n rfl rfl ?_
      refine xs_iload rfl rfl ?_
      exact h
    · have h := h.2 hb
      refine xs_aload_n rfl rfl ?_
      refine xs_bipushV (v := 8) rfl rfl ?_
      refine xs_iload rfl rfl ?_
      exact h
  · have h := h.2 hb
    refine xs_iconstV (v := 0) rfl rfl ?_
    exact xs_zret rfl rfl h.1 h.2.1 h.2.2.1 h.2.2.2

set_option maxRecDepth 20000 in
theorem b_UN_readStretch_39 {l : Launch} {x : xX} {d mc ms n0 uc us : Nat} {Q : xO → xH → Prop} {cl : Bool} {r0 : Nat} {v1 : Int32} {v2 : Int32} {r3 : Nat} {v4 : Int32} {v5 : Int32} {v6 : Int32} {u0 : Int32} {H : xH}
    (h : narrow .boolean (.int u0) = .int u0 ∧ uc = mc ∧ us ≤ ms ∧ Q (.inl (some (.int u0))) H) :
    xW l x d mc ms mUN_readStretch n0 Q cl 39 [some (.ref r0), some (.int v1), some (.int v2), some (.ref r3), some (.int v4), some (.int v5), some (.int v6), none, none, none] [.int u0] H uc us := by
  exact xs_zret rfl rfl h.1 h.2.1 h.2.2.1 h.2.2.2

-- b_UN_readStretch_43: .invokevirtual 111
set_option maxRecDepth 20000 in
theorem b_UN_readStretch_44 {l : Launch} {x : xX} {d mc ms n0 uc us : Nat} {Q : xO → xH → Prop} {cl : Bool} {r0 : Nat} {v1 : Int32} {v2 : Int32} {r3 : Nat} {v4 : Int32} {v5 : Int32} {v6 : Int32} {u0 : Int32} {H : xH}
    (h : (¬ u0 = (-1) → xW l x d mc ms mUN_readStretch n0 Q cl 53 [some (.ref r0), some (.int v1), some (.int v2), some (.ref r3), some (.int v4), some (.int v5), some (.int v6), some (.int u0), none, none] [.int (v1 - 257)] H uc us) ∧ (u0 = (-1) → narrow .boolean (.int 0) = .int 0 ∧ uc = mc ∧ us ≤ ms ∧ Q (.inl (some (.int 0))) H)) :
    xW l x d mc ms mUN_readStretch n0 Q cl 44 [some (.ref r0), some (.int v1), some (.int v2), some (.ref r3), some (.int v4), some (.int v5), some (.int v6), none, none, none] [.int u0] H uc us := by
  refine xs_istore rfl (L' := [some (.ref r0), some (.int v1), some (.int v2), some (.ref r3), some (.int v4), some (.int v5), some (.int v6), some (.int u0), none, none]) rfl rfl ?_
  refine xs_iload rfl rfl ?_
  refine xs_iconstV (v := (-1)) rfl rfl ?_
  refine xs_icmp_ne (k' := 50) rfl rfl (fun hb => ?_) (fun hb => ?_)
  · have h := h.1 hb
    refine xs_iload_n rfl rfl ?_
    refine xs_sipushV (v := 257) rfl rfl ?_
    refine xs_isub rfl ?_
    exact h
  · have h := h.2 hb
    refine xs_iconstV (v := 0) rfl rfl ?_
    exact xs_zret rfl rfl h.1 h.2.1 h.2.2.1 h.2.2.2

set_option maxRecDepth 20000 in
theorem b_UN_readStretch_54 {l : Launch} {x : xX} {d mc ms n0 uc us : Nat} {Q : xO → xH → Prop} {cl : Bool} {r0 : Nat} {v1 : Int32} {v2 : Int32} {r3 : Nat} {v4 : Int32} {v5 : Int32} {v6 : Int32} {v7 : Int32} {u0 : Int32} {H : xH}
    (h : xW l x d mc ms mUN_readStretch n0 Q cl 58 [some (.ref r0), some (.int v1), some (.int v2), some (.ref r3), some (.int v4), some (.int v5), some (.int v6), some (.int v7), some (.int (u0 + v4)), none] [.int v6] H uc us) :
    xW l x d mc ms mUN_readStretch n0 Q cl 54 [some (.ref r0), some (.int v1), some (.int v2), some (.ref r3), some (.int v4), some (.int v5), some (.int v6), some (.int v7), none, none] [.int u0] H uc us := by
  refine xs_iload rfl rfl ?_
  refine xs_iadd rfl ?_
  refine xs_istore rfl (L' := [some (.ref r0), some (.int v1), some (.int v2), some (.ref r3), some (.int v4), some (.int v5), some (.int v6), some (.int v7), some (.int (u0 + v4)), none]) rfl rfl ?_
  refine xs_iload rfl rfl ?_
  exact h

set_option maxRecDepth 20000 in
theorem b_UN_readStretch_59 {l : Launch} {x : xX} {d mc ms n0 uc us : Nat} {Q : xO → xH → Prop} {cl : Bool} {r0 : Nat} {v1 : Int32} {v2 : Int32} {r3 : Nat} {v4 : Int32} {v5 : Int32} {v6 : Int32} {v7 : Int32} {v8 : Int32} {u0 : Int32} {H : xH}
    (h : ∃ p1, gR H r0 9 1 p1 ∧ (∃ a2, gI H p1 7 1 a2 ∧ (∃ a3, gI H r0 9 12 a3 ∧ (((u0 + v7) ≤ (a2 - a3) → ∃ p4, gR H r0 9 1 p4 ∧ (∃ a5, gI H p4 7 1 a5 ∧ ((v8 ≤ ((65536 : Int32) - a5) → ∃ p6, gR H r0 9 1 p6 ∧ (xW l x d mc ms mUN_readStretch n0 Q cl 91 [some (.ref r0), some (.int v1), some (.int v2), some (.ref r3), some (.int v4), some (.int v5), some (.int v6), some (.int v7), some (.int v8), some (.int (u0 + v7))] [.int v8, .int (u0 + v7), .ref p6] H uc us)) ∧ (¬ v8 ≤ ((65536 : Int32) - a5) → xW l x d mc ms mUN_readStretch n0 Q cl 85 [some (.ref r0), some (.int v1), some (.int v2), some (.ref r3), some (.int v4), some (.int v5), some (.int v6), some (.int v7), some (.int v8), some (.int (u0 + v7))] [.int v2, .int 10, .ref r0] H uc us)))) ∧ (¬ (u0 + v7) ≤ (a2 - a3) → xW l x d mc ms mUN_readStretch n0 Q cl 73 [some (.ref r0), some (.int v1), some (.int v2), some (.ref r3), some (.int v4), some (.int v5), some (.int v6), some (.int v7), some (.int v8), some (.int (u0 + v7))] [.int v5, .int 9, .ref r0] H uc us))))) :
    xW l x d mc ms mUN_readStretch n0 Q cl 59 [some (.ref r0), some (.int v1), some (.int v2), some (.ref r3), some (.int v4), some (.int v5), some (.int v6), some (.int v7), some (.int v8), none] [.int u0] H uc us := by
  refine xs_iload rfl rfl ?_
  refine xs_iadd rfl ?_
  refine xs_istore rfl (L' := [some (.ref r0), some (.int v1), some (.int v2), some (.ref r3), some (.int v4), some (.int v5), some (.int v6), some (.int v7), some (.int v8), some (.int (u0 + v7))]) rfl rfl ?_
  refine xs_iload rfl rfl ?_
  refine xs_aload_n rfl rfl ?_
  obtain ⟨p1, ⟨_, h1, h2⟩, h⟩ := h
  refine xs_getf rfl fl_9_38 h1 h2 ?_
  obtain ⟨a2, ⟨_, h1, h2⟩, h⟩ := h
  refine xs_getf rfl fl_9_68 h1 h2 ?_
  refine xs_aload_n rfl rfl ?_
  obtain ⟨a3, ⟨_, h1, h2⟩, h⟩ := h
  refine xs_getf rfl fl_9_81 h1 h2 ?_
  refine xs_isub rfl ?_
  refine xs_icmp_le (k' := 75) rfl rfl (fun hb => ?_) (fun hb => ?_)
  · have h := h.1 hb
    refine xs_iload rfl rfl ?_
    refine xs_ldc rfl kc_9_176 ?_
    refine xs_aload_n rfl rfl ?_
    obtain ⟨p4, ⟨_, h1, h2⟩, h⟩ := h
    refine xs_getf rfl fl_9_38 h1 h2 ?_
    obtain ⟨a5, ⟨_, h1, h2⟩, h⟩ := h
    refine xs_getf rfl fl_9_68 h1 h2 ?_
    refine xs_isub rfl ?_
    refine xs_icmp_le (k' := 87) rfl rfl (fun hb => ?_) (fun hb => ?_)
    · have h := h.1 hb
      refine xs_aload_n rfl rfl ?_
      obtain ⟨p6, ⟨_, h1, h2⟩, h⟩ := h
      refine xs_getf rfl fl_9_38 h1 h2 ?_
      refine xs_iload rfl rfl ?_
      refine xs_iload rfl rfl ?_
      exact h
    · have h := h.2 hb
      refine xs_aload_n rfl rfl ?_
      refine xs_bipushV (v := 10) rfl rfl ?_
      refine xs_iload_n rfl rfl ?_
      exact h
  · have h := h.2 hb
    refine xs_aload_n rfl rfl ?_
    refine xs_bipushV (v := 9) rfl rfl ?_
    refine xs_iload rfl rfl ?_
    exact h

set_option maxRecDepth 20000 in
theorem b_UN_readStretch_74 {l : Launch} {x : xX} {d mc ms n0 uc us : Nat} {Q : xO → xH → Prop} {cl : Bool} {r0 : Nat} {v1 : Int32} {v2 : Int32} {r3 : Nat} {v4 : Int32} {v5 : Int32} {v6 : Int32} {v7 : Int32} {v8 : Int32} {v9 : Int32} {u0 : Int32} {H : xH}
    (h : narrow .boolean (.int u0) = .int u0 ∧ uc = mc ∧ us ≤ ms ∧ Q (.inl (some (.int u0))) H) :
    xW l x d mc ms mUN_readStretch n0 Q cl 74 [some (.ref r0), some (.int v1), some (.int v2), some (.ref r3), some (.int v4), some (.int v5), some (.int v6), some (.int v7), some (.int v8), some (.int v9)] [.int u0] H uc us := by
  exact xs_zret rfl rfl h.1 h.2.1 h.2.2.1 h.2.2.2

set_option maxRecDepth 20000 in
theorem b_UN_readStretch_86 {l : Launch} {x : xX} {d mc ms n0 uc us : Nat} {Q : xO → xH → Prop} {cl : Bool} {r0 : Nat} {v1 : Int32} {v2 : Int32} {r3 : Nat} {v4 : Int32} {v5 : Int32} {v6 : Int32} {v7 : Int32} {v8 : Int32} {v9 : Int32} {u0 : Int32} {H : xH}
    (h : narrow .boolean (.int u0) = .int u0 ∧ uc = mc ∧ us ≤ ms ∧ Q (.inl (some (.int u0))) H) :
    xW l x d mc ms mUN_readStretch n0 Q cl 86 [some (.ref r0), some (.int v1), some (.int v2), some (.ref r3), some (.int v4), some (.int v5), some (.int v6), some (.int v7), some (.int v8), some (.int v9)] [.int u0] H uc us := by
  exact xs_zret rfl rfl h.1 h.2.1 h.2.2.1 h.2.2.2

set_option maxRecDepth 20000 in
theorem b_UN_readStretch_92 {l : Launch} {x : xX} {d mc ms n0 uc us : Nat} {Q : xO → xH → Prop} {cl : Bool} {r0 : Nat} {v1 : Int32} {v2 : Int32} {r3 : Nat} {v4 : Int32} {v5 : Int32} {v6 : Int32} {v7 : Int32} {v8 : Int32} {v9 : Int32} {H : xH}
    (h : ∃ p1, gR H r0 9 2 p1 ∧ (∃ a2, gI H p1 6 4 a2 ∧ (∃ c3, H[(p1 : Nat)]? = some (.inr (6, c3)) ∧ 4 < c3.length ∧ (∀ H4 : xH, H4 = H.set p1 (.inr (6, c3.set 4 (.int (a2 + 1)))) → narrow .boolean (.int 1) = .int 1 ∧ uc = mc ∧ us ≤ ms ∧ Q (.inl (some (.int 1))) H4)))) :
    xW l x d mc ms mUN_readStretch n0 Q cl 92 [some (.ref r0), some (.int v1), some (.int v2), some (.ref r3), some (.int v4), some (.int v5), some (.int v6), some (.int v7), some (.int v8), some (.int v9)] [] H uc us := by
  refine xs_aload_n rfl rfl ?_
  obtain ⟨p1, ⟨_, h1, h2⟩, h⟩ := h
  refine xs_getf rfl fl_9_41 h1 h2 ?_
  refine xs_dup rfl rfl ?_
  obtain ⟨a2, ⟨_, h1, h2⟩, h⟩ := h
  refine xs_getf rfl fl_9_229 h1 h2 ?_
  refine xs_iconstV (v := 1) rfl rfl ?_
  refine xs_iadd rfl ?_
  obtain ⟨c3, h1, h2, h⟩ := h
  refine xs_putf rfl fl_9_229 h1 (fun q hq => by cases hq; rfl) rfl h2 ?_
  have h := h _ rfl
  generalize H.set p1 (.inr (6, c3.set 4 (.int (a2 + 1)))) = H4 at h ⊢
  refine xs_iconstV (v := 1) rfl rfl ?_
  exact xs_zret rfl rfl h.1 h.2.1 h.2.2.1 h.2.2.2

set_option maxRecDepth 20000 in
theorem b_UN_readCodes_0 {l : Launch} {x : xX} {d mc ms n0 uc us : Nat} {Q : xO → xH → Prop} {cl : Bool} {r0 : Nat} {H : xH}
    (h : xW l x d mc ms mUN_readCodes n0 Q cl 2 [some (.ref r0), none, none, none, none] [.int 5, .ref r0] H uc us) :
    xW l x d mc ms mUN_readCodes n0 Q cl 0 [some (.ref r0), none, none, none, none] [] H uc us := by
  refine xs_aload_n rfl rfl ?_
  refine xs_iconstV (v := 5) rfl rfl ?_
  exact h

set_option maxRecDepth 20000 in
theorem b_UN_readCodes_3 {l : Launch} {x : xX} {d mc ms n0 uc us : Nat} {Q : xO → xH → Prop} {cl : Bool} {r0 : Nat} {u0 : Int32} {H : xH}
    (h : (¬ u0 = (-1) → (((257 : Int32) + u0) ≤ 286 → xW l x d mc ms mUN_readCodes n0 Q cl 26 [some (.ref r0), some (.int u0), some (.int ((257 : Int32) + u0)), none, none] [.int 5, .ref r0] H uc us) ∧ (¬ ((257 : Int32) + u0) ≤ 286 → ∃ a1, gI H r0 9 10 a1 ∧ (xW l x d mc ms mUN_readCodes n0 Q cl 22 [some (.ref r0), some (.int u0), some (.int ((257 : Int32) + u0)), none, none] [.int (a1 - 5), .int 4, .ref r0] H uc us))) ∧ (u0 = (-1) → narrow .boolean (.int 0) = .int 0 ∧ uc = mc ∧ us ≤ ms ∧ Q (.inl (some (.int 0))) H)) :
    xW l x d mc ms mUN_readCodes n0 Q cl 3 [some (.ref r0), none, none, none, none] [.int u0] H uc us := by
  refine xs_istore_n rfl (L' := [some (.ref r0), some (.int u0), none, none, none]) rfl rfl ?_
  refine xs_iload_n rfl rfl ?_
  refine xs_iconstV (v := (-1)) rfl rfl ?_
  refine xs_icmp_ne (k' := 9) rfl rfl (fun hb => ?_) (fun hb => ?_)
  · have h := h.1 hb
    refine xs_sipushV (v := 257) rfl rfl ?_
    refine xs_iload_n rfl rfl ?_
    refine xs_iadd rfl ?_
    refine xs_istore_n rfl (L' := [some (.ref r0), some (.int u0), some (.int ((257 : Int32) + u0)), none, none]) rfl rfl ?_
    refine xs_iload_n rfl rfl ?_
    refine xs_sipushV (v := 286) rfl rfl ?_
    refine xs_icmp_le (k' := 24) rfl rfl (fun hb => ?_) (fun hb => ?_)
    · have h := h.1 hb
      refine xs_aload_n rfl rfl ?_
      refine xs_iconstV (v := 5) rfl rfl ?_
      exact h
    · have h := h.2 hb
      refine xs_aload_n rfl rfl ?_
      refine xs_iconstV (v := 4) rfl rfl ?_
      refine xs_aload_n rfl rfl ?_
      obtain ⟨a1, ⟨_, h1, h2⟩, h⟩ := h
      refine xs_getf rfl fl_9_74 h1 h2 ?_
      refine xs_iconstV (v := 5) rfl rfl ?_
      refine xs_isub rfl ?_
      exact h
  · have h := h.2 hb
    refine xs_iconstV (v := 0) rfl rfl ?_
    exact xs_zret rfl rfl h.1 h.2.1 h.2.2.1 h.2.2.2

set_option maxRecDepth 20000 in
theorem b_UN_readCodes_23 {l : Launch} {x : xX} {d mc ms n0 uc us : Nat} {Q : xO → xH → Prop} {cl : Bool} {r0 : Nat} {v1 : Int32} {v2 : Int32} {u0 : Int32} {H : xH}
    (h : narrow .boolean (.int u0) = .int u0 ∧ uc = mc ∧ us ≤ ms ∧ Q (.inl (some (.int u0))) H) :
    xW l x d mc ms mUN_readCodes n0 Q cl 23 [some (.ref r0), some (.int v1), some (.int v2), none, none] [.int u0] H uc us := by
  exact xs_zret rfl rfl h.1 h.2.1 h.2.2.1 h.2.2.2

set_option maxRecDepth 20000 in
theorem b_UN_readCodes_27 {l : Launch} {x : xX} {d mc ms n0 uc us : Nat} {Q : xO → xH → Prop} {cl : Bool} {r0 : Nat} {v1 : Int32} {v2 : Int32} {u0 : Int32} {H : xH}
    (h : (¬ u0 = (-1) → (((1 : Int32) + u0) ≤ 30 → xW l x d mc ms mUN_readCodes n0 Q cl 49 [some (.ref r0), some (.int v1), some (.int v2), some (.int u0), some (.int ((1 : Int32) + u0))] [.ref r0] H uc us) ∧ (¬ ((1 : Int32) + u0) ≤ 30 → ∃ a1, gI H r0 9 10 a1 ∧ (xW l x d mc ms mUN_readCodes n0 Q cl 46 [some (.ref r0), some (.int v1), some (.int v2), some (.int u0), some (.int ((1 : Int32) + u0))] [.int (a1 - 5), .int 4, .ref r0] H uc us))) ∧ (u0 = (-1) → narrow .boolean (.int 0) = .int 0 ∧ uc = mc ∧ us ≤ ms ∧ Q (.inl (some (.int 0))) H)) :
    xW l x d mc ms mUN_readCodes n0 Q cl 27 [some (.ref r0), some (.int v1), some (.int v2), none, none] [.int u0] H uc us := by
  refine xs_istore_n rfl (L' := [some (.ref r0), some (.int v1), some (.int v2), some (.int u0), none]) rfl rfl ?_
  refine xs_iload_n rfl rfl ?_
  refine xs_iconstV (v := (-1)) rfl rfl ?_
  refine xs_icmp_ne (k' := 33) rfl rfl (fun hb => ?_) (fun hb => ?_)
  · have h := h.1 hb
    refine xs_iconstV (v := 1) rfl rfl ?_
    refine xs_iload_n rfl rfl ?_
    refine xs_iadd rfl ?_
    refine xs_istore rfl (L' := [some (.ref r0), some (.int v1), some (.int v2), some (.int u0), some (.int ((1 : Int32) + u0))]) rfl rfl ?_
    refine xs_iload rfl rfl ?_
    refine xs_bipushV (v := 30) rfl rfl ?_
    refine xs_icmp_le (k' := 48) rfl rfl (fun hb => ?_) (fun hb => ?_)
    · have h := h.1 hb
      refine xs_aload_n rfl rfl ?_
      exact h
    · have h := h.2 hb
      refine xs_aload_n rfl rfl ?_
      refine xs_iconstV (v := 4) rfl rfl ?_
      refine xs_aload_n rfl rfl ?_
      obtain ⟨a1, ⟨_, h1, h2⟩, h⟩ := h
      refine xs_getf rfl fl_9_74 h1 h2 ?_
      refine xs_iconstV (v := 5) rfl rfl ?_
      refine xs_isub rfl ?_
      exact h
  · have h := h.2 hb
    refine xs_iconstV (v := 0) rfl rfl ?_
    exact xs_zret rfl rfl h.1 h.2.1 h.2.2.1 h.2.2.2

set_option maxRecDepth 20000 in
theorem b_UN_readCodes_47 {l : Launch} {x : xX} {d mc ms n0 uc us : Nat} {Q : xO → xH → Prop} {cl : Bool} {r0 : Nat} {v1 : Int32} {v2 : Int32} {v3 : Int32} {v4 : Int32} {u0 : Int32} {H : xH}
    (h : narrow .boolean (.int u0) = .int u0 ∧ uc = mc ∧ us ≤ ms ∧ Q (.inl (some (.int u0))) H) :
    xW l x d mc ms mUN_readCodes n0 Q cl 47 [some (.ref r0), some (.int v1), some (.int v2), some (.int v3), some (.int v4)] [.int u0] H uc us := by
  exact xs_zret rfl rfl h.1 h.2.1 h.2.2.1 h.2.2.2

set_option maxRecDepth 20000 in
theorem b_UN_readCodes_50 {l : Launch} {x : xX} {d mc ms n0 uc us : Nat} {Q : xO → xH → Prop} {cl : Bool} {r0 : Nat} {v1 : Int32} {v2 : Int32} {v3 : Int32} {v4 : Int32} {u0 : Int32} {H : xH}
    (h : (u0 = 0 → narrow .boolean (.int 0) = .int 0 ∧ uc = mc ∧ us ≤ ms ∧ Q (.inl (some (.int 0))) H) ∧ (¬ u0 = 0 → xW l x d mc ms mUN_readCodes n0 Q cl 55 [some (.ref r0), some (.int v1), some (.int v2), some (.int v3), some (.int v4)] [.int (v2 + v4), .ref r0] H uc us)) :
    xW l x d mc ms mUN_readCodes n0 Q cl 50 [some (.ref r0), some (.int v1), some (.int v2), some (.int v3), some (.int v4)] [.int u0] H uc us := by
  refine xs_if_eq (k' := 57) rfl rfl (fun hb => ?_) (fun hb => ?_)
  · have h := h.1 hb
    refine xs_iconstV (v := 0) rfl rfl ?_
    exact xs_zret rfl rfl h.1 h.2.1 h.2.2.1 h.2.2.2
  · have h := h.2 hb
    refine xs_aload_n rfl rfl ?_
    refine xs_iload_n rfl rfl ?_
    refine xs_iload rfl rfl ?_
    refine xs_iadd rfl ?_
    exact h

set_option maxRecDepth 20000 in
theorem b_UN_readCodes_56 {l : Launch} {x : xX} {d mc ms n0 uc us : Nat} {Q : xO → xH → Prop} {cl : Bool} {r0 : Nat} {v1 : Int32} {v2 : Int32} {v3 : Int32} {v4 : Int32} {u0 : Int32} {H : xH}
    (h : (¬ u0 = 0 → ∃ p1, gR H r0 9 7 p1 ∧ (∃ p2, gR H r0 9 9 p2 ∧ (xW l x d mc ms mUN_readCodes n0 Q cl 65 [some (.ref r0), some (.int v1), some (.int v2), some (.int v3), some (.int v4)] [.int v2, .int 0, .ref p2, .ref p1] H uc us))) ∧ (u0 = 0 → narrow .boolean (.int 0) = .int 0 ∧ uc = mc ∧ us ≤ ms ∧ Q (.inl (some (.int 0))) H)) :
    xW l x d mc ms mUN_readCodes n0 Q cl 56 [some (.ref r0), some (.int v1), some (.int v2), some (.int v3), some (.int v4)] [.int u0] H uc us := by
  refine xs_if_ne (k' := 59) rfl rfl (fun hb => ?_) (fun hb => ?_)
  · have h := h.1 hb
    refine xs_aload_n rfl rfl ?_
    obtain ⟨p1, ⟨_, h1, h2⟩, h⟩ := h
    refine xs_getf rfl fl_9_24 h1 h2 ?_
    refine xs_aload_n rfl rfl ?_
    obtain ⟨p2, ⟨_, h1, h2⟩, h⟩ := h
    refine xs_getf rfl fl_9_30 h1 h2 ?_
    refine xs_iconstV (v := 0) rfl rfl ?_
    refine xs_iload_n rfl rfl ?_
    exact h
  · have h := h.2 hb
    refine xs_iconstV (v := 0) rfl rfl ?_
    exact xs_zret rfl rfl h.1 h.2.1 h.2.2.1 h.2.2.2

set_option maxRecDepth 20000 in
theorem b_UN_readCodes_66 {l : Launch} {x : xX} {d mc ms n0 uc us : Nat} {Q : xO → xH → Prop} {cl : Bool} {r0 : Nat} {v1 : Int32} {v2 : Int32} {v3 : Int32} {v4 : Int32} {H : xH}
    (h : ∃ p1, gR H r0 9 8 p1 ∧ (∃ p2, gR H r0 9 9 p2 ∧ (xW l x d mc ms mUN_readCodes n0 Q cl 72 [some (.ref r0), some (.int v1), some (.int v2), some (.int v3), some (.int v4)] [.int v4, .int v2, .ref p2, .ref p1] H uc us))) :
    xW l x d mc ms mUN_readCodes n0 Q cl 66 [some (.ref r0), some (.int v1), some (.int v2), some (.int v3), some (.int v4)] [] H uc us := by
  refine xs_aload_n rfl rfl ?_
  obtain ⟨p1, ⟨_, h1, h2⟩, h⟩ := h
  refine xs_getf rfl fl_9_27 h1 h2 ?_
  refine xs_aload_n rfl rfl ?_
  obtain ⟨p2, ⟨_, h1, h2⟩, h⟩ := h
  refine xs_getf rfl fl_9_30 h1 h2 ?_
  refine xs_iload_n rfl rfl ?_
  refine xs_iload rfl rfl ?_
  exact h

set_option maxRecDepth 20000 in
theorem b_UN_readCodes_73 {l : Launch} {x : xX} {d mc ms n0 uc us : Nat} {Q : xO → xH → Prop} {cl : Bool} {r0 : Nat} {v1 : Int32} {v2 : Int32} {v3 : Int32} {v4 : Int32} {H : xH}
    (h : ∃ p1, gR H r0 9 7 p1 ∧ (xW l x d mc ms mUN_readCodes n0 Q cl 75 [some (.ref r0), some (.int v1), some (.int v2), some (.int v3), some (.int v4)] [.ref p1] H uc us)) :
    xW l x d mc ms mUN_readCodes n0 Q cl 73 [some (.ref r0), some (.int v1), some (.int v2), some (.int v3), some (.int v4)] [] H uc us := by
  refine xs_aload_n rfl rfl ?_
  obtain ⟨p1, ⟨_, h1, h2⟩, h⟩ := h
  refine xs_getf rfl fl_9_24 h1 h2 ?_
  exact h

set_option maxRecDepth 20000 in
theorem b_UN_readCodes_76 {l : Launch} {x : xX} {d mc ms n0 uc us : Nat} {Q : xO → xH → Prop} {cl : Bool} {r0 : Nat} {v1 : Int32} {v2 : Int32} {v3 : Int32} {v4 : Int32} {u0 : Int32} {H : xH}
    (h : (u0 = 0 → ∃ a1, gI H r0 9 10 a1 ∧ (xW l x d mc ms mUN_readCodes n0 Q cl 90 [some (.ref r0), some (.int v1), some (.int v2), some (.int v3), some (.int v4)] [.int a1, .int 5, .ref r0] H uc us)) ∧ (¬ u0 = 0 → ∃ p2, gR H r0 9 9 p2 ∧ (∃ n3 f4, H[(p2 : Nat)]? = some (.inl (0, n3, .inl f4)) ∧ vp_in 256 n3 ∧ (((f4 (256 : Int32).toNatClampNeg) = 0 → ∃ a5, gI H r0 9 10 a5 ∧ (xW l x d mc ms mUN_readCodes n0 Q cl 90 [some (.ref r0), some (.int v1), some (.int v2), some (.int v3), some (.int v4)] [.int a5, .int 5, .ref r0] H uc us)) ∧ (¬ (f4 (256 : Int32).toNatClampNeg) = 0 → ∃ p6, gR H r0 9 8 p6 ∧ (xW l x d mc ms mUN_readCodes n0 Q cl 84 [some (.ref r0), some (.int v1), some (.int v2), some (.int v3), some (.int v4)] [.ref p6] H uc us)))))) :
    xW l x d mc ms mUN_readCodes n0 Q cl 76 [some (.ref r0), some (.int v1), some (.int v2), some (.int v3), some (.int v4)] [.int u0] H uc us := by
  refine xs_if_eq (k' := 86) rfl rfl (fun hb => ?_) (fun hb => ?_)
  · have h := h.1 hb
    refine xs_aload_n rfl rfl ?_
    refine xs_iconstV (v := 5) rfl rfl ?_
    refine xs_aload_n rfl rfl ?_
    obtain ⟨a1, ⟨_, h1, h2⟩, h⟩ := h
    refine xs_getf rfl fl_9_74 h1 h2 ?_
    exact h
  · have h := h.2 hb
    refine xs_aload_n rfl rfl ?_
    obtain ⟨p2, ⟨_, h1, h2⟩, h⟩ := h
    refine xs_getf rfl fl_9_30 h1 h2 ?_
    refine xs_sipushV (v := 256) rfl rfl ?_
    obtain ⟨n3, f4, h1, h2, h⟩ := h
    refine xs_iald rfl h1 h2 ?_
    refine xs_if_eq (k' := 86) rfl rfl (fun hb => ?_) (fun hb => ?_)
    · have h := h.1 hb
      refine xs_aload_n rfl rfl ?_
      refine xs_iconstV (v := 5) rfl rfl ?_
      refine xs_aload_n rfl rfl ?_
      obtain ⟨a5, ⟨_, h1, h2⟩, h⟩ := h
      refine xs_getf rfl fl_9_74 h1 h2 ?_
      exact h
    · have h := h.2 hb
      refine xs_aload_n rfl rfl ?_
      obtain ⟨p6, ⟨_, h1, h2⟩, h⟩ := h
      refine xs_getf rfl fl_9_27 h1 h2 ?_
      exact h

set_option maxRecDepth 20000 in
theorem b_UN_readCodes_85 {l : Launch} {x : xX} {d mc ms n0 uc us : Nat} {Q : xO → xH → Prop} {cl : Bool} {r0 : Nat} {v1 : Int32} {v2 : Int32} {v3 : Int32} {v4 : Int32} {u0 : Int32} {H : xH}
    (h : (¬ u0 = 0 → narrow .boolean (.int 1) = .int 1 ∧ uc = mc ∧ us ≤ ms ∧ Q (.inl (some (.int 1))) H) ∧ (u0 = 0 → ∃ a1, gI H r0 9 10 a1 ∧ (xW l x d mc ms mUN_readCodes n0 Q cl 90 [some (.ref r0), some (.int v1), some (.int v2), some (.int v3), some (.int v4)] [.int a1, .int 5, .ref r0] H uc us))) :
    xW l x d mc ms mUN_readCodes n0 Q cl 85 [some (.ref r0), some (.int v1), some (.int v2), some (.int v3), some (.int v4)] [.int u0] H uc us := by
  refine xs_if_ne (k' := 92) rfl rfl (fun hb => ?_) (fun hb => ?_)
  · have h := h.1 hb
    refine xs_iconstV (v := 1) rfl rfl ?_
    exact xs_zret rfl rfl h.1 h.2.1 h.2.2.1 h.2.2.2
  · have h := h.2 hb
    refine xs_aload_n rfl rfl ?_
    refine xs_iconstV (v := 5) rfl rfl ?_
    refine xs_aload_n rfl rfl ?_
    obtain ⟨a1, ⟨_, h1, h2⟩, h⟩ := h
    refine xs_getf rfl fl_9_74 h1 h2 ?_
    exact h

set_option maxRecDepth 20000 in
theorem b_UN_readCodes_91 {l : Launch} {x : xX} {d mc ms n0 uc us : Nat} {Q : xO → xH → Prop} {cl : Bool} {r0 : Nat} {v1 : Int32} {v2 : Int32} {v3 : Int32} {v4 : Int32} {u0 : Int32} {H : xH}
    (h : narrow .boolean (.int u0) = .int u0 ∧ uc = mc ∧ us ≤ ms ∧ Q (.inl (some (.int u0))) H) :
    xW l x d mc ms mUN_readCodes n0 Q cl 91 [some (.ref r0), some (.int v1), some (.int v2), some (.int v3), some (.int v4)] [.int u0] H uc us := by
  exact xs_zret rfl rfl h.1 h.2.1 h.2.2.1 h.2.2.2

set_option maxRecDepth 20000 in
theorem b_UN_readCodeOfLengths_0 {l : Launch} {x : xX} {d mc ms n0 uc us : Nat} {Q : xO → xH → Prop} {cl : Bool} {r0 : Nat} {H : xH}
    (h : xW l x d mc ms mUN_readCodeOfLengths n0 Q cl 2 [some (.ref r0), none, none, none] [.int 4, .ref r0] H uc us) :
    xW l x d mc ms mUN_readCodeOfLengths n0 Q cl 0 [some (.ref r0), none, none, none] [] H uc us := by
  refine xs_aload_n rfl rfl ?_
  refine xs_iconstV (v := 4) rfl rfl ?_
  exact h

set_option maxRecDepth 20000 in
theorem b_UN_readCodeOfLengths_3 {l : Launch} {x : xX} {d mc ms n0 uc us : Nat} {Q : xO → xH → Prop} {cl : Bool} {r0 : Nat} {u0 : Int32} {H : xH}
    (h : (¬ u0 = (-1) → ∃ p1, gR H r0 9 9 p1 ∧ (xW l x d mc ms mUN_readCodeOfLengths n0 Q cl 14 [some (.ref r0), some (.int u0), none, none] [.int 0, .int 19, .int 0, .ref p1] H uc us)) ∧ (u0 = (-1) → narrow .boolean (.int 0) = .int 0 ∧ uc = mc ∧ us ≤ ms ∧ Q (.inl (some (.int 0))) H)) :
    xW l x d mc ms mUN_readCodeOfLengths n0 Q cl 3 [some (.ref r0), none, none, none] [.int u0] H uc us := by
  refine xs_istore_n rfl (L' := [some (.ref r0), some (.int u0), none, none]) rfl rfl ?_
  refine xs_iload_n rfl rfl ?_
  refine xs_iconstV (v := (-1)) rfl rfl ?_
  refine xs_icmp_ne (k' := 9) rfl rfl (fun hb => ?_) (fun hb => ?_)
  · have h := h.1 hb
    refine xs_aload_n rfl rfl ?_
    obtain ⟨p1, ⟨_, h1, h2⟩, h⟩ := h
    refine xs_getf rfl fl_9_30 h1 h2 ?_
    refine xs_iconstV (v := 0) rfl rfl ?_
    refine xs_bipushV (v := 19) rfl rfl ?_
    refine xs_iconstV (v := 0) rfl rfl ?_
    exact h
  · have h := h.2 hb
    refine xs_iconstV (v := 0) rfl rfl ?_
    exact xs_zret rfl rfl h.1 h.2.1 h.2.2.1 h.2.2.2

set_option maxRecDepth 20000 in
theorem b_UN_readCodeOfLengths_15 {l : Launch} {x : xX} {d mc ms n0 uc us : Nat} {Q : xO → xH → Prop} {cl : Bool} {r0 : Nat} {v1 : Int32} {H : xH}
    (h : xW l x d mc ms mUN_readCodeOfLengths n0 Q cl 17 [some (.ref r0), some (.int v1), some (.int 0), none] [] H uc us) :
    xW l x d mc ms mUN_readCodeOfLengths n0 Q cl 15 [some (.ref r0), some (.int v1), none, none] [] H uc us := by
  refine xs_iconstV (v := 0) rfl rfl ?_
  refine xs_istore_n rfl (L' := [some (.ref r0), some (.int v1), some (.int 0), none]) rfl rfl ?_
  exact h

set_option maxRecDepth 20000 in
theorem b_UN_readCodeOfLengths_17 {l : Launch} {x : xX} {d mc ms n0 uc us : Nat} {Q : xO → xH → Prop} {cl : Bool} {r0 : Nat} {v1 : Int32} {v2 : Int32} {H : xH}
    (h : (((4 : Int32) + v1) ≤ v2 → ∃ p1, gR H r0 9 6 p1 ∧ (∃ p2, gR H r0 9 9 p2 ∧ (xW l x d mc ms mUN_readCodeOfLengths n0 Q cl 46 [some (.ref r0), some (.int v1), some (.int v2), none] [.int 19, .int 0, .ref p2, .ref p1] H uc us))) ∧ (¬ ((4 : Int32) + v1) ≤ v2 → xW l x d mc ms mUN_readCodeOfLengths n0 Q cl 24 [some (.ref r0), some (.int v1), some (.int v2), none] [.int 3, .ref r0] H uc us)) :
    xW l x d mc ms mUN_readCodeOfLengths n0 Q cl 17 [some (.ref r0), some (.int v1), some (.int v2), none] [] H uc us := by
  refine xs_iload_n rfl rfl ?_
  refine xs_iconstV (v := 4) rfl rfl ?_
  refine xs_iload_n rfl rfl ?_
  refine xs_iadd rfl ?_
  refine xs_icmp_ge (k' := 40) rfl rfl (fun hb => ?_) (fun hb => ?_)
  · have h := h.1 hb
    refine xs_aload_n rfl rfl ?_
    obtain ⟨p1, ⟨_, h1, h2⟩, h⟩ := h
    refine xs_getf rfl fl_9_21 h1 h2 ?_
    refine xs_aload_n rfl rfl ?_
    obtain ⟨p2, ⟨_, h1, h2⟩, h⟩ := h
    refine xs_getf rfl fl_9_30 h1 h2 ?_
    refine xs_iconstV (v := 0) rfl rfl ?_
    refine xs_bipushV (v := 19) rfl rfl ?_
    exact h
  · have h := h.2 hb
    refine xs_aload_n rfl rfl ?_
    refine xs_iconstV (v := 3) rfl rfl ?_
    exact h

set_option maxRecDepth 20000 in
theorem b_UN_readCodeOfLengths_25 {l : Launch} {x : xX} {d mc ms n0 uc us : Nat} {Q : xO → xH → Prop} {cl : Bool} {r0 : Nat} {v1 : Int32} {v2 : Int32} {u0 : Int32} {H : xH}
    (h : (¬ u0 = (-1) → ∃ p1, gR H r0 9 9 p1 ∧ (∃ n2 f3, H[(1 : Nat)]? = some (.inl (0, n2, .inl f3)) ∧ vp_in v2 n2 ∧ (∃ n4 f5, H[(p1 : Nat)]? = some (.inl (0, n4, .inl f5)) ∧ 2 ≤ p1 ∧ vp_in (f3 v2.toNatClampNeg) n4 ∧ (∀ H6 : xH, H6 = H.set p1 (.inl (0, n4, .inl (upd f5 ((f3 v2.toNatClampNeg).toNatClampNeg) (u0)))) → xW l x d mc ms mUN_readCodeOfLengths n0 Q false 17 [some (.ref r0), some (.int v1), some (.int (v2 + 1)), some (.int u0)] [] H6 uc us)))) ∧ (u0 = (-1) → narrow .boolean (.int 0) = .int 0 ∧ uc = mc ∧ us ≤ ms ∧ Q (.inl (some (.int 0))) H)) :
    xW l x d mc ms mUN_readCodeOfLengths n0 Q cl 25 [some (.ref r0), some (.int v1), some (.int v2), none] [.int u0] H uc us := by
  refine xs_istore_n rfl (L' := [some (.ref r0), some (.int v1), some (.int v2), some (.int u0)]) rfl rfl ?_
  refine xs_iload_n rfl rfl ?_
  refine xs_iconstV (v := (-1)) rfl rfl ?_
  refine xs_icmp_ne (k' := 31) rfl rfl (fun hb => ?_) (fun hb => ?_)
  · have h := h.1 hb
    refine xs_aload_n rfl rfl ?_
    obtain ⟨p1, ⟨_, h1, h2⟩, h⟩ := h
    refine xs_getf rfl fl_9_30 h1 h2 ?_
    refine xs_gets rfl sl_9_198 ?_
    refine xs_iload_n rfl rfl ?_
    obtain ⟨n2, f3, h1, h2, h⟩ := h
    refine xs_iald rfl h1 h2 ?_
    refine xs_iload_n rfl rfl ?_
    obtain ⟨n4, f5, h1, h3, h2, h⟩ := h
    refine xs_iast rfl h1 h3 h2 ?_
    have h := h _ rfl
    generalize H.set p1 (.inl (0, n4, .inl (upd f5 ((f3 v2.toNatClampNeg).toNatClampNeg) (u0)))) = H6 at h ⊢
    refine xs_iincV rfl (w := 1) rfl rfl (L' := [some (.ref r0), some (.int v1), some (.int (v2 + 1)), some (.int u0)]) rfl rfl ?_
    refine xs_goto (k' := 17) rfl rfl ?_
    exact h
  · have h := h.2 hb
    refine xs_iconstV (v := 0) rfl rfl ?_
    exact xs_zret rfl rfl h.1 h.2.1 h.2.2.1 h.2.2.2

set_option maxRecDepth 20000 in
theorem b_UN_readCodeOfLengths_47 {l : Launch} {x : xX} {d mc ms n0 uc us : Nat} {Q : xO → xH → Prop} {cl : Bool} {r0 : Nat} {v1 : Int32} {v2 : Int32} {H : xH}
    (h : ∃ p1, gR H r0 9 6 p1 ∧ (xW l x d mc ms mUN_readCodeOfLengths n0 Q cl 49 [some (.ref r0), some (.int v1), some (.int v2), none] [.ref p1] H uc us)) :
    xW l x d mc ms mUN_readCodeOfLengths n0 Q cl 47 [some (.ref r0), some (.int v1), some (.int v2), none] [] H uc us := by
  refine xs_aload_n rfl rfl ?_
  obtain ⟨p1, ⟨_, h1, h2⟩, h⟩ := h
  refine xs_getf rfl fl_9_21 h1 h2 ?_
  exact h

set_option maxRecDepth 20000 in
theorem b_UN_readCodeOfLengths_50 {l : Launch} {x : xX} {d mc ms n0 uc us : Nat} {Q : xO → xH → Prop} {cl : Bool} {r0 : Nat} {v1 : Int32} {v2 : Int32} {u0 : Int32} {H : xH}
    (h : (¬ u0 = 0 → narrow .boolean (.int 1) = .int 1 ∧ uc = mc ∧ us ≤ ms ∧ Q (.inl (some (.int 1))) H) ∧ (u0 = 0 → ∃ a1, gI H r0 9 10 a1 ∧ (xW l x d mc ms mUN_readCodeOfLengths n0 Q cl 55 [some (.ref r0), some (.int v1), some (.int v2), none] [.int a1, .int 5, .ref r0] H uc us))) :
    xW l x d mc ms mUN_readCodeOfLengths n0 Q cl 50 [some (.ref r0), some (.int v1), some (.int v2), none] [.int u0] H uc us := by
  refine xs_if_ne (k' := 57) rfl rfl (fun hb => ?_) (fun hb => ?_)
  · have h := h.1 hb
    refine xs_iconstV (v := 1) rfl rfl ?_
    refine xs_goto (k' := 60) rfl rfl ?_
    exact xs_zret rfl rfl h.1 h.2.1 h.2.2.1 h.2.2.2
  · have h := h.2 hb
    refine xs_aload_n rfl rfl ?_
    refine xs_iconstV (v := 5) rfl rfl ?_
    refine xs_aload_n rfl rfl ?_
    obtain ⟨a1, ⟨_, h1, h2⟩, h⟩ := h
    refine xs_getf rfl fl_9_74 h1 h2 ?_
    exact h

set_option maxRecDepth 20000 in
theorem b_UN_readCodeOfLengths_56 {l : Launch} {x : xX} {d mc ms n0 uc us : Nat} {Q : xO → xH → Prop} {cl : Bool} {r0 : Nat} {v1 : Int32} {v2 : Int32} {u0 : Int32} {H : xH}
    (h : (u0 = 0 → narrow .boolean (.int 0) = .int 0 ∧ uc = mc ∧ us ≤ ms ∧ Q (.inl (some (.int 0))) H) ∧ (¬ u0 = 0 → narrow .boolean (.int 1) = .int 1 ∧ uc = mc ∧ us ≤ ms ∧ Q (.inl (some (.int 1))) H)) :
    xW l x d mc ms mUN_readCodeOfLengths n0 Q cl 56 [some (.ref r0), some (.int v1), some (.int v2), none] [.int u0] H uc us := by
  refine xs_if_eq (k' := 59) rfl rfl (fun hb => ?_) (fun hb => ?_)
  · have h := h.1 hb
    refine xs_iconstV (v := 0) rfl rfl ?_
    exact xs_zret rfl rfl h.1 h.2.1 h.2.2.1 h.2.2.2
  · have h := h.2 hb
    refine xs_iconstV (v := 1) rfl rfl ?_
    refine xs_goto (k' := 60) rfl rfl ?_
    exact xs_zret rfl rfl h.1 h.2.1 h.2.2.1 h.2.2.2

set_option maxRecDepth 20000 in
theorem b_UN_readLengths_0 {l : Launch} {x : xX} {d mc ms n0 uc us : Nat} {Q : xO → xH → Prop} {cl : Bool} {r0 : Nat} {v1 : Int32} {H : xH}
    (h : xW l x d mc ms mUN_readLengths n0 Q cl 4 [some (.ref r0), some (.int v1), some (.int 0), some (.int 0), none, none, none, none] [] H uc us) :
    xW l x d mc ms mUN_readLengths n0 Q cl 0 [some (.ref r0), some (.int v1), none, none, none, none, none, none] [] H uc us := by
  refine xs_iconstV (v := 0) rfl rfl ?_
  refine xs_istore_n rfl (L' := [some (.ref r0), some (.int v1), some (.int 0), none, none, none, none, none]) rfl rfl ?_
  refine xs_iconstV (v := 0) rfl rfl ?_
  refine xs_istore_n rfl (L' := [some (.ref r0), some (.int v1), some (.int 0), some (.int 0), none, none, none, none]) rfl rfl ?_
  exact h

set_option maxRecDepth 20000 in
theorem b_UN_readLengths_4 {l : Launch} {x : xX} {d mc ms n0 uc us : Nat} {Q : xO → xH → Prop} {cl : Bool} {r0 : Nat} {v1 : Int32} {v2 : Int32} {v3 : Int32} {H : xH}
    (h : (v1 ≤ v2 → narrow .boolean (.int 1) = .int 1 ∧ uc = mc ∧ us ≤ ms ∧ Q (.inl (some (.int 1))) H) ∧ (¬ v1 ≤ v2 → (316 ≤ v3 → narrow .boolean (.int 1) = .int 1 ∧ uc = mc ∧ us ≤ ms ∧ Q (.inl (some (.int 1))) H) ∧ (¬ 316 ≤ v3 → ∃ a1, gI H r0 9 10 a1 ∧ (∃ p2, gR H r0 9 6 p2 ∧ (xW l x d mc ms mUN_readLengths n0 Q cl 16 [some (.ref r0), some (.int v1), some (.int v2), some (.int v3), some (.int a1), none, none, none] [.ref p2, .ref r0] H uc us))))) :
    xW l x d mc ms mUN_readLengths n0 Q cl 4 [some (.ref r0), some (.int v1), some (.int v2), some (.int v3), none, none, none, none] [] H uc us := by
  refine xs_iload_n rfl rfl ?_
  refine xs_iload_n rfl rfl ?_
  refine xs_icmp_ge (k' := 105) rfl rfl (fun hb => ?_) (fun hb => ?_)
  · have h := h.1 hb
    refine xs_iconstV (v := 1) rfl rfl ?_
    exact xs_zret rfl rfl h.1 h.2.1 h.2.2.1 h.2.2.2
  · have h := h.2 hb
    refine xs_iload_n rfl rfl ?_
    refine xs_sipushV (v := 316) rfl rfl ?_
    refine xs_icmp_ge (k' := 105) rfl rfl (fun hb => ?_) (fun hb => ?_)
    · have h := h.1 hb
      refine xs_iconstV (v := 1) rfl rfl ?_
      exact xs_zret rfl rfl h.1 h.2.1 h.2.2.1 h.2.2.2
    · have h := h.2 hb
      refine xs_aload_n rfl rfl ?_
      obtain ⟨a1, ⟨_, h1, h2⟩, h⟩ := h
      refine xs_getf rfl fl_9_74 h1 h2 ?_
      refine xs_istore rfl (L' := [some (.ref r0), some (.int v1), some (.int v2), some (.int v3), some (.int a1), none, none, none]) rfl rfl ?_
      refine xs_aload_n rfl rfl ?_
      refine xs_aload_n rfl rfl ?_
      obtain ⟨p2, ⟨_, h1, h2⟩, h⟩ := h
      refine xs_getf rfl fl_9_21 h1 h2 ?_
      exact h

set_option maxRecDepth 20000 in
theorem b_UN_readLengths_17 {l : Launch} {x : xX} {d mc ms n0 uc us : Nat} {Q : xO → xH → Prop} {cl : Bool} {r0 : Nat} {v1 : Int32} {v2 : Int32} {v3 : Int32} {v4 : Int32} {u0 : Int32} {H : xH}
    (h : (¬ u0 = (-1) → (16 ≤ u0 → (¬ u0 = 16 → (¬ u0 = 16 → (¬ u0 = 17 → xW l x d mc ms mUN_readLengths n0 Q cl 55 [some (.ref r0), some (.int v1), some (.int v2), some (.int v3), some (.int v4), some (.int u0), none, none] [.int 7, .ref r0] H uc us) ∧ (u0 = 17 → xW l x d mc ms mUN_readLengths n0 Q cl 55 [some (.ref r0), some (.int v1), some (.int v2), some (.int v3), some (.int v4), some (.int u0), none, none] [.int 3, .ref r0] H uc us)) ∧ (u0 = 16 → xW l x d mc ms mUN_readLengths n0 Q cl 55 [some (.ref r0), some (.int v1), some (.int v2), some (.int v3), some (.int v4), some (.int u0), none, none] [.int 2, .ref r0] H uc us)) ∧ (u0 = 16 → (¬ v2 = 0 → (¬ u0 = 16 → (¬ u0 = 17 → xW l x d mc ms mUN_readLengths n0 Q cl 55 [some (.ref r0), some (.int v1), some (.int v2), some (.int v3), some (.int v4), some (.int u0), none, none] [.int 7, .ref r0] H uc us) ∧ (u0 = 17 → xW l x d mc ms mUN_readLengths n0 Q cl 55 [some (.ref r0), some (.int v1), some (.int v2), some (.int v3), some (.int v4), some (.int u0), none, none] [.int 3, .ref r0] H uc us)) ∧ (u0 = 16 → xW l x d mc ms mUN_readLengths n0 Q cl 55 [some (.ref r0), some (.int v1), some (.int v2), some (.int v3), some (.int v4), some (.int u0), none, none] [.int 2, .ref r0] H uc us)) ∧ (v2 = 0 → xW l x d mc ms mUN_readLengths n0 Q cl 41 [some (.ref r0), some (.int v1), some (.int v2), some (.int v3), some (.int v4), some (.int u0), none, none] [.int v4, .int 6, .ref r0] H uc us))) ∧ (¬ 16 ≤ u0 → ∃ p1, gR H r0 9 9 p1 ∧ (∃ n2 f3, H[(p1 : Nat)]? = some (.inl (0, n2, .inl f3)) ∧ 2 ≤ p1 ∧ vp_in v2 n2 ∧ (∀ H4 : xH, H4 = H.set p1 (.inl (0, n2, .inl (upd f3 (v2.toNatClampNeg) (u0)))) → xW l x d mc ms mUN_readLengths n0 Q false 4 [some (.ref r0), some (.int v1), some (.int (v2 + 1)), some (.int (v3 + 1)), some (.int v4), some (.int u0), none, none] [] H4 uc us)))) ∧ (u0 = (-1) → narrow .boolean (.int 0) = .int 0 ∧ uc = mc ∧ us ≤ ms ∧ Q (.inl (some (.int 0))) H)) :
    xW l x d mc ms mUN_readLengths n0 Q cl 17 [some (.ref r0), some (.int v1), some (.int v2), some (.int v3), some (.int v4), none, none, none] [.int u0] H uc us := by
  refine xs_istore rfl (L' := [some (.ref r0), some (.int v1), some (.int v2), some (.int v3), some (.int v4), some (.int u0), none, none]) rfl rfl ?_
  refine xs_iload rfl rfl ?_
  refine xs_iconstV (v := (-1)) rfl rfl ?_
  refine xs_icmp_ne (k' := 23) rfl rfl (fun hb => ?_) (fun hb => ?_)
  · have h := h.1 hb
    refine xs_iload rfl rfl ?_
    refine xs_bipushV (v := 16) rfl rfl ?_
    refine xs_icmp_ge (k' := 33) rfl rfl (fun hb => ?_) (fun hb => ?_)
    · have h := h.1 hb
      refine xs_iload rfl rfl ?_
      refine xs_bipushV (v := 16) rfl rfl ?_
      refine xs_icmp_ne (k' := 43) rfl rfl (fun hb => ?_) (fun hb => ?_)
      · have h := h.1 hb
        refine xs_aload_n rfl rfl ?_
        refine xs_iload rfl rfl ?_
        refine xs_bipushV (v := 16) rfl rfl ?_
        refine xs_icmp_ne (k' := 49) rfl rfl (fun hb => ?_) (fun hb => ?_)
        · have h := h.1 hb
          refine xs_iload rfl rfl ?_
          refine xs_bipushV (v := 17) rfl rfl ?_
          refine xs_icmp_ne (k' := 54) rfl rfl (fun hb => ?_) (fun hb => ?_)
          · have h := h.1 hb
            refine xs_bipushV (v := 7) rfl rfl ?_
            exact h
          · have h := h.2 hb
            refine xs_iconstV (v := 3) rfl rfl ?_
            refine xs_goto (k' := 55) rfl rfl ?_
            exact h
        · have h := h.2 hb
          refine xs_iconstV (v := 2) rfl rfl ?_
          refine xs_goto (k' := 55) rfl rfl ?_
          exact h
      · have h := h.2 hb
        refine xs_iload_n rfl rfl ?_
        refine xs_if_ne (k' := 43) rfl rfl (fun hb => ?_) (fun hb => ?_)
        · have h := h.1 hb
          refine xs_aload_n rfl rfl ?_
          refine xs_iload rfl rfl ?_
          refine xs_bipushV (v := 16) rfl rfl ?_
          refine xs_icmp_ne (k' := 49) rfl rfl (fun hb => ?_) (fun hb => ?_)
          · have h := h.1 hb
            refine xs_iload rfl rfl ?_
            refine xs_bipushV (v := 17) rfl rfl ?_
            refine xs_icmp_ne (k' := 54) rfl rfl (fun hb => ?_) (fun hb => ?_)
            · have h := h.1 hb
              refine xs_bipushV (v := 7) rfl rfl ?_
              exact h
            · have h := h.2 hb
              refine xs_iconstV (v := 3) rfl rfl ?_
              refine xs_goto (k' := 55) rfl rfl ?_
              exact h
          · have h := h.2 hb
            refine xs_iconstV (v := 2) rfl rfl ?_
            refine xs_goto (k' := 55) rfl rfl ?_
            exact h
        · have h := h.2 hb
          refine xs_aload_n rfl rfl ?_
          refine xs_bipushV (v := 6) rfl rfl ?_
          refine xs_iload rfl rfl ?_
          exact h
    · have h := h.2 hb
      refine xs_aload_n rfl rfl ?_
      obtain ⟨p1, ⟨_, h1, h2⟩, h⟩ := h
      refine xs_getf rfl fl_9_30 h1 h2 ?_
      refine xs_iload_n rfl rfl ?_
      refine xs_iload rfl rfl ?_
      obtain ⟨n2, f3, h1, h3, h2, h⟩ := h
      refine xs_iast rfl h1 h3 h2 ?_
      have h := h _ rfl
      generalize H.set p1 (.inl (0, n2, .inl (upd f3 (v2.toNatClampNeg) (u0)))) = H4 at h ⊢
      refine xs_iincV rfl (w := 1) rfl rfl (L' := [some (.ref r0), some (.int v1), some (.int (v2 + 1)), some (.int v3), some (.int v4), some (.int u0), none, none]) rfl rfl ?_
      refine xs_goto (k' := 103) rfl rfl ?_
      refine xs_iincV rfl (w := 1) rfl rfl (L' := [some (.ref r0), some (.int v1), some (.int (v2 + 1)), some (.int (v3 + 1)), some (.int v4), some (.int u0), none, none]) rfl rfl ?_
      refine xs_goto (k' := 4) rfl rfl ?_
      exact h
  · have h := h.2 hb
    refine xs_iconstV (v := 0) rfl rfl ?_
    exact xs_zret rfl rfl h.1 h.2.1 h.2.2.1 h.2.2.2

set_option maxRecDepth 20000 in
theorem b_UN_readLengths_42 {l : Launch} {x : xX} {d mc ms n0 uc us : Nat} {Q : xO → xH → Prop} {cl : Bool} {r0 : Nat} {v1 : Int32} {v2 : Int32} {v3 : Int32} {v4 : Int32} {v5 : Int32} {u0 : Int32} {H : xH}
    (h : narrow .boolean (.int u0) = .int u0 ∧ uc = mc ∧ us ≤ ms ∧ Q (.inl (some (.int u0))) H) :
    xW l x d mc ms mUN_readLengths n0 Q cl 42 [some (.ref r0), some (.int v1), some (.int v2), some (.int v3), some (.int v4), some (.int v5), none, none] [.int u0] H uc us := by
  exact xs_zret rfl rfl h.1 h.2.1 h.2.2.1 h.2.2.2

set_option maxRecDepth 20000 in
theorem b_UN_readLengths_56 {l : Launch} {x : xX} {d mc ms n0 uc us : Nat} {Q : xO → xH → Prop} {cl : Bool} {r0 : Nat} {v1 : Int32} {v2 : Int32} {v3 : Int32} {v4 : Int32} {v5 : Int32} {u0 : Int32} {H : xH}
    (h : (¬ u0 = (-1) → (¬ v5 = 18 → ((u0 + 3) ≤ (v1 - v2) → ∃ p1, gR H r0 9 9 p1 ∧ ((¬ v5 = 16 → xW l x d mc ms mUN_readLengths n0 Q cl 98 [some (.ref r0), some (.int v1), some (.int v2), some (.int v3), some (.int v4), some (.int v5), some (.int u0), some (.int (u0 + 3))] [.int 0, .int (v2 + (u0 + 3)), .int v2, .ref p1] H uc us) ∧ (v5 = 16 → ∃ p2, gR H r0 9 9 p2 ∧ (∃ n3 f4, H[(p2 : Nat)]? = some (.inl (0, n3, .inl f4)) ∧ vp_in (v2 - 1) n3 ∧ (xW l x d mc ms mUN_readLengths n0 Q cl 98 [some (.ref r0), some (.int v1), some (.int v2), some (.int v3), some (.int v4), some (.int v5), some (.int u0), some (.int (u0 + 3))] [.int (f4 (v2 - 1).toNatClampNeg), .int (v2 + (u0 + 3)), .int v2, .ref p1] H uc us))))) ∧ (¬ (u0 + 3) ≤ (v1 - v2) → xW l x d mc ms mUN_readLengths n0 Q cl 79 [some (.ref r0), some (.int v1), some (.int v2), some (.int v3), some (.int v4), some (.int v5), some (.int u0), some (.int (u0 + 3))] [.int v4, .int 7, .ref r0] H uc us)) ∧ (v5 = 18 → ((u0 + 11) ≤ (v1 - v2) → ∃ p5, gR H r0 9 9 p5 ∧ ((¬ v5 = 16 → xW l x d mc ms mUN_readLengths n0 Q cl 98 [some (.ref r0), some (.int v1), some (.int v2), some (.int v3), some (.int v4), some (.int v5), some (.int u0), some (.int (u0 + 11))] [.int 0, .int (v2 + (u0 + 11)), .int v2, .ref p5] H uc us) ∧ (v5 = 16 → ∃ p6, gR H r0 9 9 p6 ∧ (∃ n7 f8, H[(p6 : Nat)]? = some (.inl (0, n7, .inl f8)) ∧ vp_in (v2 - 1) n7 ∧ (xW l x d mc ms mUN_readLengths n0 Q cl 98 [some (.ref r0), some (.int v1), some (.int v2), some (.int v3), some (.int v4), some (.int v5), some (.int u0), some (.int (u0 + 11))] [.int (f8 (v2 - 1).toNatClampNeg), .int (v2 + (u0 + 11)), .int v2, .ref p5] H uc us))))) ∧ (¬ (u0 + 11) ≤ (v1 - v2) → xW l x d mc ms mUN_readLengths n0 Q cl 79 [some (.ref r0), some (.int v1), some (.int v2), some (.int v3), some (.int v4), some (.int v5), some (.int u0), some (.int (u0 + 11))] [.int v4, .int 7, .ref r0] H uc us))) ∧ (u0 = (-1) → narrow .boolean (.int 0) = .int 0 ∧ uc = mc ∧ us ≤ ms ∧ Q (.inl (some (.int 0))) H)) :
    xW l x d mc ms mUN_readLengths n0 Q cl 56 [some (.ref r0), some (.int v1), some (.int v2), some (.int v3), some (.int v4), some (.int v5), none, none] [.int u0] H uc us := by
  refine xs_istore rfl (L' := [some (.ref r0), some (.int v1), some (.int v2), some (.int v3), some (.int v4), some (.int v5), some (.int u0), none]) rfl rfl ?_
  refine xs_iload rfl rfl ?_
  refine xs_iconstV (v := (-1)) rfl rfl ?_
  refine xs_icmp_ne (k' := 62) rfl rfl (fun hb => ?_) (fun hb => ?_)
  · have h := h.1 hb
    refine xs_iload rfl rfl ?_
    refine xs_iload rfl rfl ?_
    refine xs_bipushV (v := 18) rfl rfl ?_
    refine xs_icmp_ne (k' := 68) rfl rfl (fun hb => ?_) (fun hb => ?_)
    · have h := h.1 hb
      refine xs_iconstV (v := 3) rfl rfl ?_
      refine xs_iadd rfl ?_
      refine xs_istore rfl (L' := [some (.ref r0), some (.int v1), some (.int v2), some (.int v3), some (.int v4), some (.int v5), some (.int u0), some (.int (u0 + 3))]) rfl rfl ?_
      refine xs_iload rfl rfl ?_
      refine xs_iload_n rfl rfl ?_
      refine xs_iload_n rfl rfl ?_
      refine xs_isub rfl ?_
      refine xs_icmp_le (k' := 81) rfl rfl (fun hb => ?_) (fun hb => ?_)
      · have h := h.1 hb
        refine xs_aload_n rfl rfl ?_
        obtain ⟨p1, ⟨_, h1, h2⟩, h⟩ := h
        refine xs_getf rfl fl_9_30 h1 h2 ?_
        refine xs_iload_n rfl rfl ?_
        refine xs_iload_n rfl rfl ?_
        refine xs_iload rfl rfl ?_
        refine xs_iadd rfl ?_
        refine xs_iload rfl rfl ?_
        refine xs_bipushV (v := 16) rfl rfl ?_
        refine xs_icmp_ne (k' := 97) rfl rfl (fun hb => ?_) (fun hb => ?_)
        · have h := h.1 hb
          refine xs_iconstV (v := 0) rfl rfl ?_
          exact h
        · have h := h.2 hb
          refine xs_aload_n rfl rfl ?_
          obtain ⟨p2, ⟨_, h1, h2⟩, h⟩ := h
          refine xs_getf rfl fl_9_30 h1 h2 ?_
          refine xs_iload_n rfl rfl ?_
          refine xs_iconstV (v := 1) rfl rfl ?_
          refine xs_isub rfl ?_
          obtain ⟨n3, f4, h1, h2, h⟩ := h
          refine xs_iald rfl h1 h2 ?_
          refine xs_goto (k' := 98) rfl rfl ?_
          exact h
      · have h := h.2 hb
        refine xs_aload_n rfl rfl ?_
        refine xs_bipushV (v := 7) rfl rfl ?_
        refine xs_iload rfl rfl ?_
        exact h
    · have h := h.2 hb
      refine xs_bipushV (v := 11) rfl rfl ?_
      refine xs_goto (k' := 69) rfl rfl ?_
      refine xs_iadd rfl ?_
      refine xs_istore rfl (L' := [some (.ref r0), some (.int v1), some (.int v2), some (.int v3), some (.int v4), some (.int v5), some (.int u0), some (.int (u0 + 11))]) rfl rfl ?_
      refine xs_iload rfl rfl ?_
      refine xs_iload_n rfl rfl ?_
      refine xs_iload_n rfl rfl ?_
      refine xs_isub rfl ?_
      refine xs_icmp_le (k' := 81) rfl rfl (fun hb => ?_) (fun hb => ?_)
      · have h := h.1 hb
        refine xs_aload_n rfl rfl ?_
        obtain ⟨p5, ⟨_, h1, h2⟩, h⟩ := h
        refine xs_getf rfl fl_9_30 h1 h2 ?_
        refine xs_iload_n rfl rfl ?_
        refine xs_iload_n rfl rfl ?_
        refine xs_iload rfl rfl ?_
        refine xs_iadd rfl ?_
        refine xs_iload rfl rfl ?_
        refine xs_bipushV (v := 16) rfl rfl ?_
        refine xs_icmp_ne (k' := 97) rfl rfl (fun hb => ?_) (fun hb => ?_)
        · have h := h.1 hb
          refine xs_iconstV (v := 0) rfl rfl ?_
          exact h
        · have h := h.2 hb
          refine xs_aload_n rfl rfl ?_
          obtain ⟨p6, ⟨_, h1, h2⟩, h⟩ := h
          refine xs_getf rfl fl_9_30 h1 h2 ?_
          refine xs_iload_n rfl rfl ?_
          refine xs_iconstV (v := 1) rfl rfl ?_
          refine xs_isub rfl ?_
          obtain ⟨n7, f8, h1, h2, h⟩ := h
          refine xs_iald rfl h1 h2 ?_
          refine xs_goto (k' := 98) rfl rfl ?_
          exact h
      · have h := h.2 hb
        refine xs_aload_n rfl rfl ?_
        refine xs_bipushV (v := 7) rfl rfl ?_
        refine xs_iload rfl rfl ?_
        exact h
  · have h := h.2 hb
    refine xs_iconstV (v := 0) rfl rfl ?_
    exact xs_zret rfl rfl h.1 h.2.1 h.2.2.1 h.2.2.2

set_option maxRecDepth 20000 in
theorem b_UN_readLengths_80 {l : Launch} {x : xX} {d mc ms n0 uc us : Nat} {Q : xO → xH → Prop} {cl : Bool} {r0 : Nat} {v1 : Int32} {v2 : Int32} {v3 : Int32} {v4 : Int32} {v5 : Int32} {v6 : Int32} {v7 : Int32} {u0 : Int32} {H : xH}
    (h : narrow .boolean (.int u0) = .int u0 ∧ uc = mc ∧ us ≤ ms ∧ Q (.inl (some (.int u0))) H) :
    xW l x d mc ms mUN_readLengths n0 Q cl 80 [some (.ref r0), some (.int v1), some (.int v2), some (.int v3), some (.int v4), some (.int v5), some (.int v6), some (.int v7)] [.int u0] H uc us := by
  exact xs_zret rfl rfl h.1 h.2.1 h.2.2.1 h.2.2.2

set_option maxRecDepth 20000 in
theorem b_UN_readLengths_99 {l : Launch} {x : xX} {d mc ms n0 uc us : Nat} {Q : xO → xH → Prop} {cl : Bool} {r0 : Nat} {v1 : Int32} {v2 : Int32} {v3 : Int32} {v4 : Int32} {v5 : Int32} {v6 : Int32} {v7 : Int32} {H : xH}
    (h : xW l x d mc ms mUN_readLengths n0 Q cl 4 [some (.ref r0), some (.int v1), some (.int (v2 + v7)), some (.int (v3 + 1)), some (.int v4), some (.int v5), some (.int v6), some (.int v7)] [] H uc us) :
    xW l x d mc ms mUN_readLengths n0 Q cl 99 [some (.ref r0), some (.int v1), some (.int v2), some (.int v3), some (.int v4), some (.int v5), some (.int v6), some (.int v7)] [] H uc us := by
  refine xs_iload_n rfl rfl ?_
  refine xs_iload rfl rfl ?_
  refine xs_iadd rfl ?_
  refine xs_istore_n rfl (L' := [some (.ref r0), some (.int v1), some (.int (v2 + v7)), some (.int v3), some (.int v4), some (.int v5), some (.int v6), some (.int v7)]) rfl rfl ?_
  refine xs_iincV rfl (w := 1) rfl rfl (L' := [some (.ref r0), some (.int v1), some (.int (v2 + v7)), some (.int (v3 + 1)), some (.int v4), some (.int v5), some (.int v6), some (.int v7)]) rfl rfl ?_
  refine xs_goto (k' := 4) rfl rfl ?_
  exact h

set_option maxRecDepth 20000 in
theorem b_UN_readTail_0 {l : Launch} {x : xX} {d mc ms n0 uc us : Nat} {Q : xO → xH → Prop} {cl : Bool} {r0 : Nat} {v1 : Int32} {H : xH}
    (h : (¬ v1 = 0 → (¬ v1 = 1 → ∃ p1, gR H r0 9 3 p1 ∧ (∃ p2, gR H r0 9 1 p2 ∧ (∃ a3, gI H r0 9 12 a3 ∧ (∃ p4, gR H r0 9 1 p4 ∧ (∃ a5, gI H p4 7 1 a5 ∧ (xW l x d mc ms mUN_readTail n0 Q cl 31 [some (.ref r0), some (.int v1)] [.int a5, .int a3, .ref p2, .ref p1, .ref r0] H uc us)))))) ∧ (v1 = 1 → ∃ p6, gR H r0 9 3 p6 ∧ (∃ p7, gR H r0 9 1 p7 ∧ (∃ p8, gR H r0 9 1 p8 ∧ (∃ a9, gI H p8 7 1 a9 ∧ (xW l x d mc ms mUN_readTail n0 Q cl 16 [some (.ref r0), some (.int v1)] [.int a9, .int 0, .ref p7, .ref p6, .ref r0] H uc us)))))) ∧ (v1 = 0 → narrow .boolean (.int 1) = .int 1 ∧ uc = mc ∧ us ≤ ms ∧ Q (.inl (some (.int 1))) H)) :
    xW l x d mc ms mUN_readTail n0 Q cl 0 [some (.ref r0), some (.int v1)] [] H uc us := by
  refine xs_iload_n rfl rfl ?_
  refine xs_if_ne (k' := 4) rfl rfl (fun hb => ?_) (fun hb => ?_)
  · have h := h.1 hb
    refine xs_iload_n rfl rfl ?_
    refine xs_iconstV (v := 1) rfl rfl ?_
    refine xs_icmp_ne (k' := 21) rfl rfl (fun hb => ?_) (fun hb => ?_)
    · have h := h.1 hb
      refine xs_aload_n rfl rfl ?_
      refine xs_aload_n rfl rfl ?_
      obtain ⟨p1, ⟨_, h1, h2⟩, h⟩ := h
      refine xs_getf rfl fl_9_45 h1 h2 ?_
      refine xs_aload_n rfl rfl ?_
      obtain ⟨p2, ⟨_, h1, h2⟩, h⟩ := h
      refine xs_getf rfl fl_9_38 h1 h2 ?_
      refine xs_aload_n rfl rfl ?_
      obtain ⟨a3, ⟨_, h1, h2⟩, h⟩ := h
      refine xs_getf rfl fl_9_81 h1 h2 ?_
      refine xs_aload_n rfl rfl ?_
      obtain ⟨p4, ⟨_, h1, h2⟩, h⟩ := h
      refine xs_getf rfl fl_9_38 h1 h2 ?_
      obtain ⟨a5, ⟨_, h1, h2⟩, h⟩ := h
      refine xs_getf rfl fl_9_68 h1 h2 ?_
      exact h
    · have h := h.2 hb
      refine xs_aload_n rfl rfl ?_
      refine xs_aload_n rfl rfl ?_
      obtain ⟨p6, ⟨_, h1, h2⟩, h⟩ := h
      refine xs_getf rfl fl_9_45 h1 h2 ?_
      refine xs_aload_n rfl rfl ?_
      obtain ⟨p7, ⟨_, h1, h2⟩, h⟩ := h
      refine xs_getf rfl fl_9_38 h1 h2 ?_
      refine xs_iconstV (v := 0) rfl rfl ?_
      refine xs_aload_n rfl rfl ?_
      obtain ⟨p8, ⟨_, h1, h2⟩, h⟩ := h
      refine xs_getf rfl fl_9_38 h1 h2 ?_
      obtain ⟨a9, ⟨_, h1, h2⟩, h⟩ := h
      refine xs_getf rfl fl_9_68 h1 h2 ?_
      exact h
  · have h := h.2 hb
    refine xs_iconstV (v := 1) rfl rfl ?_
    exact xs_zret rfl rfl h.1 h.2.1 h.2.2.1 h.2.2.2

set_option maxRecDepth 20000 in
theorem b_UN_readTail_17 {l : Launch} {x : xX} {d mc ms n0 uc us : Nat} {Q : xO → xH → Prop} {cl : Bool} {r0 : Nat} {v1 : Int32} {q0 : Nat} {u1 : Int64} {H : xH}
    (h : xW l x d mc ms mUN_readTail n0 Q cl 19 [some (.ref r0), some (.int v1)] [.int 13, .int 1, .long u1, .ref q0] H uc us) :
    xW l x d mc ms mUN_readTail n0 Q cl 17 [some (.ref r0), some (.int v1)] [.long u1, .ref q0] H uc us := by
  refine xs_iconstV (v := 1) rfl rfl ?_
  refine xs_bipushV (v := 13) rfl rfl ?_
  exact h

set_option maxRecDepth 20000 in
theorem b_UN_readTail_20 {l : Launch} {x : xX} {d mc ms n0 uc us : Nat} {Q : xO → xH → Prop} {cl : Bool} {r0 : Nat} {v1 : Int32} {u0 : Int32} {H : xH}
    (h : narrow .boolean (.int u0) = .int u0 ∧ uc = mc ∧ us ≤ ms ∧ Q (.inl (some (.int u0))) H) :
    xW l x d mc ms mUN_readTail n0 Q cl 20 [some (.ref r0), some (.int v1)] [.int u0] H uc us := by
  exact xs_zret rfl rfl h.1 h.2.1 h.2.2.1 h.2.2.2

set_option maxRecDepth 20000 in
theorem b_UN_readTail_32 {l : Launch} {x : xX} {d mc ms n0 uc us : Nat} {Q : xO → xH → Prop} {cl : Bool} {r0 : Nat} {v1 : Int32} {q0 : Nat} {u1 : Int64} {H : xH}
    (h : xW l x d mc ms mUN_readTail n0 Q cl 34 [some (.ref r0), some (.int v1)] [.int 13, .int 0, .long u1, .ref q0] H uc us) :
    xW l x d mc ms mUN_readTail n0 Q cl 32 [some (.ref r0), some (.int v1)] [.long u1, .ref q0] H uc us := by
  refine xs_iconstV (v := 0) rfl rfl ?_
  refine xs_bipushV (v := 13) rfl rfl ?_
  exact h

set_option maxRecDepth 20000 in
theorem b_UN_readTail_35 {l : Launch} {x : xX} {d mc ms n0 uc us : Nat} {Q : xO → xH → Prop} {cl : Bool} {r0 : Nat} {v1 : Int32} {u0 : Int32} {H : xH}
    (h : (u0 = 0 → narrow .boolean (.int 0) = .int 0 ∧ uc = mc ∧ us ≤ ms ∧ Q (.inl (some (.int 0))) H) ∧ (¬ u0 = 0 → ∃ p1, gR H r0 9 1 p1 ∧ (∃ a2, gI H p1 7 1 a2 ∧ (∃ a3, gI H r0 9 12 a3 ∧ (xW l x d mc ms mUN_readTail n0 Q cl 46 [some (.ref r0), some (.int v1)] [.int 14, .int 0, .long (a2 - a3).toInt64, .ref r0] H uc us))))) :
    xW l x d mc ms mUN_readTail n0 Q cl 35 [some (.ref r0), some (.int v1)] [.int u0] H uc us := by
  refine xs_if_eq (k' := 50) rfl rfl (fun hb => ?_) (fun hb => ?_)
  · have h := h.1 hb
    refine xs_iconstV (v := 0) rfl rfl ?_
    exact xs_zret rfl rfl h.1 h.2.1 h.2.2.1 h.2.2.2
  · have h := h.2 hb
    refine xs_aload_n rfl rfl ?_
    refine xs_aload_n rfl rfl ?_
    obtain ⟨p1, ⟨_, h1, h2⟩, h⟩ := h
    refine xs_getf rfl fl_9_38 h1 h2 ?_
    obtain ⟨a2, ⟨_, h1, h2⟩, h⟩ := h
    refine xs_getf rfl fl_9_68 h1 h2 ?_
    refine xs_aload_n rfl rfl ?_
    obtain ⟨a3, ⟨_, h1, h2⟩, h⟩ := h
    refine xs_getf rfl fl_9_81 h1 h2 ?_
    refine xs_isub rfl ?_
    refine xs_i2l rfl ?_
    refine xs_iconstV (v := 0) rfl rfl ?_
    refine xs_bipushV (v := 14) rfl rfl ?_
    exact h

set_option maxRecDepth 20000 in
theorem b_UN_readTail_47 {l : Launch} {x : xX} {d mc ms n0 uc us : Nat} {Q : xO → xH → Prop} {cl : Bool} {r0 : Nat} {v1 : Int32} {u0 : Int32} {H : xH}
    (h : (u0 = 0 → narrow .boolean (.int 0) = .int 0 ∧ uc = mc ∧ us ≤ ms ∧ Q (.inl (some (.int 0))) H) ∧ (¬ u0 = 0 → narrow .boolean (.int 1) = .int 1 ∧ uc = mc ∧ us ≤ ms ∧ Q (.inl (some (.int 1))) H)) :
    xW l x d mc ms mUN_readTail n0 Q cl 47 [some (.ref r0), some (.int v1)] [.int u0] H uc us := by
  refine xs_if_eq (k' := 50) rfl rfl (fun hb => ?_) (fun hb => ?_)
  · have h := h.1 hb
    refine xs_iconstV (v := 0) rfl rfl ?_
    exact xs_zret rfl rfl h.1 h.2.1 h.2.2.1 h.2.2.2
  · have h := h.2 hb
    refine xs_iconstV (v := 1) rfl rfl ?_
    refine xs_goto (k' := 51) rfl rfl ?_
    exact xs_zret rfl rfl h.1 h.2.1 h.2.2.1 h.2.2.2

set_option maxRecDepth 20000 in
theorem b_UN_readFourThatAre_0 {l : Launch} {x : xX} {d mc ms n0 uc us : Nat} {Q : xO → xH → Prop} {cl : Bool} {r0 : Nat} {v1 : Int64} {v3 : Int32} {v4 : Int32} {H : xH}
    (h : ∃ a1, gI H r0 9 11 a1 ∧ (∃ a2, gI H r0 9 10 a2 ∧ ((32 ≤ (a1 - a2) → xW l x d mc ms mUN_readFourThatAre n0 Q cl 17 [some (.ref r0), some (.long v1), none, some (.int v3), some (.int v4), some (.long 0), none, some (.int 0), none] [] H uc us) ∧ (¬ 32 ≤ (a1 - a2) → ∃ a3, gI H r0 9 11 a3 ∧ (xW l x d mc ms mUN_readFourThatAre n0 Q cl 11 [some (.ref r0), some (.long v1), none, some (.int v3), some (.int v4), none, none, none, none] [.int a3, .int 1, .ref r0] H uc us))))) :
    xW l x d mc ms mUN_readFourThatAre n0 Q cl 0 [some (.ref r0), some (.long v1), none, some (.int v3), some (.int v4), none, none, none, none] [] H uc us := by
  refine xs_aload_n rfl rfl ?_
  obtain ⟨a1, ⟨_, h1, h2⟩, h⟩ := h
  refine xs_getf rfl fl_9_77 h1 h2 ?_
  refine xs_aload_n rfl rfl ?_
  obtain ⟨a2, ⟨_, h1, h2⟩, h⟩ := h
  refine xs_getf rfl fl_9_74 h1 h2 ?_
  refine xs_isub rfl ?_
  refine xs_bipushV (v := 32) rfl rfl ?_
  refine xs_icmp_ge (k' := 13) rfl rfl (fun hb => ?_) (fun hb => ?_)
  · have h := h.1 hb
    refine xs_lconstV (v := 0) rfl rfl ?_
    refine xs_lstore rfl (L' := [some (.ref r0), some (.long v1), none, some (.int v3), some (.int v4), some (.long 0), none, none, none]) rfl rfl ?_
    refine xs_iconstV (v := 0) rfl rfl ?_
    refine xs_istore rfl (L' := [some (.ref r0), some (.long v1), none, some (.int v3), some (.int v4), some (.long 0), none, some (.int 0), none]) rfl rfl ?_
    exact h
  · have h := h.2 hb
    refine xs_aload_n rfl rfl ?_
    refine xs_iconstV (v := 1) rfl rfl ?_
    refine xs_aload_n rfl rfl ?_
    obtain ⟨a3, ⟨_, h1, h2⟩, h⟩ := h
    refine xs_getf rfl fl_9_77 h1 h2 ?_
    exact h

set_option maxRecDepth 20000 in
theorem b_UN_readFourThatAre_12 {l : Launch} {x : xX} {d mc ms n0 uc us : Nat} {Q : xO → xH → Prop} {cl : Bool} {r0 : Nat} {v1 : Int64} {v3 : Int32} {v4 : Int32} {u0 : Int32} {H : xH}
    (h : narrow .boolean (.int u0) = .int u0 ∧ uc = mc ∧ us ≤ ms ∧ Q (.inl (some (.int u0))) H) :
    xW l x d mc ms mUN_readFourThatAre n0 Q cl 12 [some (.ref r0), some (.long v1), none, some (.int v3), some (.int v4), none, none, none, none] [.int u0] H uc us := by
  exact xs_zret rfl rfl h.1 h.2.1 h.2.2.1 h.2.2.2

set_option maxRecDepth 20000 in
theorem b_UN_readFourThatAre_17 {l : Launch} {x : xX} {d mc ms n0 uc us : Nat} {Q : xO → xH → Prop} {cl : Bool} {r0 : Nat} {v1 : Int64} {v3 : Int32} {v4 : Int32} {v5 : Int64} {v7 : Int32} {H : xH}
    (h : (4 ≤ v7 → ((lg_cmp v5 v1) = 0 → ∃ a1, gI H r0 9 10 a1 ∧ (∃ c2, H[(r0 : Nat)]? = some (.inr (9, c2)) ∧ 10 < c2.length ∧ (∀ H3 : xH, H3 = H.set r0 (.inr (9, c2.set 10 (.int (a1 + 32)))) → narrow .boolean (.int 1) = .int 1 ∧ uc = mc ∧ us ≤ ms ∧ Q (.inl (some (.int 1))) H3))) ∧ (¬ (lg_cmp v5 v1) = 0 → ∃ a4, gI H r0 9 10 a4 ∧ (xW l x d mc ms mUN_readFourThatAre n0 Q cl 57 [some (.ref r0), some (.long v1), none, some (.int v3), some (.int v4), some (.long v5), none, some (.int v7), none] [.int a4, .int v4, .ref r0] H uc us))) ∧ (¬ 4 ≤ v7 → (v3 = 0 → ∃ p5, gR H r0 9 0 p5 ∧ (∃ a6, gI H r0 9 10 a6 ∧ (xW l x d mc ms mUN_readFourThatAre n0 Q cl 41 [some (.ref r0), some (.long v1), none, some (.int v3), some (.int v4), some (.long v5), none, some (.int v7), some (.int ((8 : Int32) * v7))] [.int ((a6 / 8) + v7), .ref p5, .long v5] H uc us))) ∧ (¬ v3 = 0 → ∃ p7, gR H r0 9 0 p7 ∧ (∃ a8, gI H r0 9 10 a8 ∧ (xW l x d mc ms mUN_readFourThatAre n0 Q cl 41 [some (.ref r0), some (.long v1), none, some (.int v3), some (.int v4), some (.long v5), none, some (.int v7), some (.int ((24 : Int32) - ((8 : Int32) * v7)))] [.int ((a8 / 8) + v7), .ref p7, .long v5] H uc us))))) :
    xW l x d mc ms mUN_readFourThatAre n0 Q cl 17 [some (.ref r0), some (.long v1), none, some (.int v3), some (.int v4), some (.long v5), none, some (.int v7), none] [] H uc us := by
  refine xs_iload rfl rfl ?_
  refine xs_iconstV (v := 4) rfl rfl ?_
  refine xs_icmp_ge (k' := 49) rfl rfl (fun hb => ?_) (fun hb => ?_)
  · have h := h.1 hb
    refine xs_lload rfl rfl ?_
    refine xs_lload_n rfl rfl ?_
    refine xs_lcmp rfl ?_
    refine xs_if_eq (k' := 59) rfl rfl (fun hb => ?_) (fun hb => ?_)
    · have h := h.1 hb
      refine xs_aload_n rfl rfl ?_
      refine xs_dup rfl rfl ?_
      obtain ⟨a1, ⟨_, h1, h2⟩, h⟩ := h
      refine xs_getf rfl fl_9_74 h1 h2 ?_
      refine xs_bipushV (v := 32) rfl rfl ?_
      refine xs_iadd rfl ?_
      obtain ⟨c2, h1, h2, h⟩ := h
      refine xs_putf rfl fl_9_74 h1 (fun q hq => by cases hq; rfl) rfl h2 ?_
      have h := h _ rfl
      generalize H.set r0 (.inr (9, c2.set 10 (.int (a1 + 32)))) = H3 at h ⊢
      refine xs_iconstV (v := 1) rfl rfl ?_
      exact xs_zret rfl rfl h.1 h.2.1 h.2.2.1 h.2.2.2
    · have h := h.2 hb
      refine xs_aload_n rfl rfl ?_
      refine xs_iload rfl rfl ?_
      refine xs_aload_n rfl rfl ?_
      obtain ⟨a4, ⟨_, h1, h2⟩, h⟩ := h
      refine xs_getf rfl fl_9_74 h1 h2 ?_
      exact h
  · have h := h.2 hb
    refine xs_iload_n rfl rfl ?_
    refine xs_if_eq (k' := 28) rfl rfl (fun hb => ?_) (fun hb => ?_)
    · have h := h.1 hb
      refine xs_bipushV (v := 8) rfl rfl ?_
      refine xs_iload rfl rfl ?_
      refine xs_imul rfl ?_
      refine xs_istore rfl (L' := [some (.ref r0), some (.long v1), none, some (.int v3), some (.int v4), some (.long v5), none, some (.int v7), some (.int ((8 : Int32) * v7))]) rfl rfl ?_
      refine xs_lload rfl rfl ?_
      refine xs_aload_n rfl rfl ?_
      obtain ⟨p5, ⟨_, h1, h2⟩, h⟩ := h
      refine xs_getf rfl fl_9_34 h1 h2 ?_
      refine xs_aload_n rfl rfl ?_
      obtain ⟨a6, ⟨_, h1, h2⟩, h⟩ := h
      refine xs_getf rfl fl_9_74 h1 h2 ?_
      refine xs_bipushV (v := 8) rfl rfl ?_
      refine xs_idiv rfl (by decide) ?_
      refine xs_iload rfl rfl ?_
      refine xs_iadd rfl ?_
      exact h
    · have h := h.2 hb
      refine xs_bipushV (v := 24) rfl rfl ?_
      refine xs_bipushV (v := 8) rfl rfl ?_
      refine xs_iload rfl rfl ?_
      refine xs_imul rfl ?_
      refine xs_isub rfl ?_
      refine xs_goto (k' := 31) rfl rfl ?_
      refine xs_istore rfl (L' := [some (.ref r0), some (.long v1), none, some (.int v3), some (.int v4), some (.long v5), none, some (.int v7), some (.int ((24 : Int32) - ((8 : Int32) * v7)))]) rfl rfl ?_
      refine xs_lload rfl rfl ?_
      refine xs_aload_n rfl rfl ?_
      obtain ⟨p7, ⟨_, h1, h2⟩, h⟩ := h
      refine xs_getf rfl fl_9_34 h1 h2 ?_
      refine xs_aload_n rfl rfl ?_
      obtain ⟨a8, ⟨_, h1, h2⟩, h⟩ := h
      refine xs_getf rfl fl_9_74 h1 h2 ?_
      refine xs_bipushV (v := 8) rfl rfl ?_
      refine xs_idiv rfl (by decide) ?_
      refine xs_iload rfl rfl ?_
      refine xs_iadd rfl ?_
      exact h

set_option maxRecDepth 20000 in
theorem b_UN_readFourThatAre_42 {l : Launch} {x : xX} {d mc ms n0 uc us : Nat} {Q : xO → xH → Prop} {cl : Bool} {r0 : Nat} {v1 : Int64} {v3 : Int32} {v4 : Int32} {v5 : Int64} {v7 : Int32} {v8 : Int32} {u0 : Int64} {u1 : Int32} {H : xH}
    (h : xW l x d mc ms mUN_readFourThatAre n0 Q cl 17 [some (.ref r0), some (.long v1), none, some (.int v3), some (.int v4), some (.long (u0 ||| (u1.toInt64 <<< (v8.toInt64 &&& 63)))), none, some (.int (v7 + 1)), some (.int v8)] [] H uc us) :
    xW l x d mc ms mUN_readFourThatAre n0 Q cl 42 [some (.ref r0), some (.long v1), none, some (.int v3), some (.int v4), some (.long v5), none, some (.int v7), some (.int v8)] [.int u1, .long u0] H uc us := by
  refine xs_i2l rfl ?_
  refine xs_iload rfl rfl ?_
  refine xs_lshl rfl ?_
  refine xs_lor rfl ?_
  refine xs_lstore rfl (L' := [some (.ref r0), some (.long v1), none, some (.int v3), some (.int v4), some (.long (u0 ||| (u1.toInt64 <<< (v8.toInt64 &&& 63)))), none, some (.int v7), some (.int v8)]) rfl rfl ?_
  refine xs_iincV rfl (w := 1) rfl rfl (L' := [some (.ref r0), some (.long v1), none, some (.int v3), some (.int v4), some (.long (u0 ||| (u1.toInt64 <<< (v8.toInt64 &&& 63)))), none, some (.int (v7 + 1)), some (.int v8)]) rfl rfl ?_
  refine xs_goto (k' := 17) rfl rfl ?_
  exact h

set_option maxRecDepth 20000 in
theorem b_UN_readFourThatAre_58 {l : Launch} {x : xX} {d mc ms n0 uc us : Nat} {Q : xO → xH → Prop} {cl : Bool} {r0 : Nat} {v1 : Int64} {v3 : Int32} {v4 : Int32} {v5 : Int64} {v7 : Int32} {u0 : Int32} {H : xH}
    (h : narrow .boolean (.int u0) = .int u0 ∧ uc = mc ∧ us ≤ ms ∧ Q (.inl (some (.int u0))) H) :
    xW l x d mc ms mUN_readFourThatAre n0 Q cl 58 [some (.ref r0), some (.long v1), none, some (.int v3), some (.int v4), some (.long v5), none, some (.int v7), none] [.int u0] H uc us := by
  exact xs_zret rfl rfl h.1 h.2.1 h.2.2.1 h.2.2.2

