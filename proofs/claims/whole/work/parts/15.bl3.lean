set_option maxRecDepth 20000 in
theorem b_PK_init_0 {l : Launch} {x : xX} {d mc ms n0 uc us : Nat} {Q : xO → xH → Prop} {cl : Bool} {r0 : Nat} {r1 : Nat} {r2 : Nat} {r3 : Nat} {r4 : Nat} {H : xH}
    (h : xW l x d mc ms mPK_init n0 Q cl 1 [some (.ref r0), some (.ref r1), some (.ref r2), some (.ref r3), some (.ref r4), none] [.ref r0] H uc us) :
    xW l x d mc ms mPK_init n0 Q cl 0 [some (.ref r0), some (.ref r1), some (.ref r2), some (.ref r3), some (.ref r4), none] [] H uc us := by
  refine xs_aload_n rfl rfl ?_
  exact h

set_option maxRecDepth 20000 in
theorem b_PK_init_2 {l : Launch} {x : xX} {d mc ms n0 uc us : Nat} {Q : xO → xH → Prop} {cl : Bool} {r0 : Nat} {r1 : Nat} {r2 : Nat} {r3 : Nat} {r4 : Nat} {H : xH}
    (h : xW l x d mc ms mPK_init n0 Q cl 3 [some (.ref r0), some (.ref r1), some (.ref r2), some (.ref r3), some (.ref r4), none] [.ref r0] H uc us) :
    xW l x d mc ms mPK_init n0 Q cl 2 [some (.ref r0), some (.ref r1), some (.ref r2), some (.ref r3), some (.ref r4), none] [] H uc us := by
  refine xs_aload_n rfl rfl ?_
  exact h

set_option maxRecDepth 20000 in
theorem b_PK_init_4 {l : Launch} {x : xX} {d mc ms n0 uc us : Nat} {Q : xO → xH → Prop} {cl : Bool} {r0 : Nat} {r1 : Nat} {r2 : Nat} {r3 : Nat} {r4 : Nat} {q0 : Nat} {q1 : Nat} {H : xH}
    (h : xW l x d mc ms mPK_init n0 Q cl 6 [some (.ref r0), some (.ref r1), some (.ref r2), some (.ref r3), some (.ref r4), none] [.int 288, .ref q1, .ref q1, .ref q0] H uc us) :
    xW l x d mc ms mPK_init n0 Q cl 4 [some (.ref r0), some (.ref r1), some (.ref r2), some (.ref r3), some (.ref r4), none] [.ref q1, .ref q0] H uc us := by
  refine xs_dup rfl rfl ?_
  refine xs_sipushV (v := 288) rfl rfl ?_
  exact h

set_option maxRecDepth 20000 in
theorem b_PK_init_7 {l : Launch} {x : xX} {d mc ms n0 uc us : Nat} {Q : xO → xH → Prop} {cl : Bool} {r0 : Nat} {r1 : Nat} {r2 : Nat} {r3 : Nat} {r4 : Nat} {q0 : Nat} {q1 : Nat} {H : xH}
    (h : ∃ c1, H[(q0 : Nat)]? = some (.inr (4, c1)) ∧ 5 < c1.length ∧ (∀ H2 : xH, H2 = H.set q0 (.inr (4, c1.set 5 (.ref q1))) → xW l x d mc ms mPK_init n0 Q false 9 [some (.ref r0), some (.ref r1), some (.ref r2), some (.ref r3), some (.ref r4), none] [.ref r0] H2 uc us)) :
    xW l x d mc ms mPK_init n0 Q cl 7 [some (.ref r0), some (.ref r1), some (.ref r2), some (.ref r3), some (.ref r4), none] [.ref q1, .ref q0] H uc us := by
  obtain ⟨c1, h1, h2, h⟩ := h
  refine xs_putF rfl fl_4_14 h1 (fun q hq => by cases hq; exact ⟨rfl, rfl⟩) rfl rfl h2 ?_
  have h := h _ rfl
  generalize H.set q0 (.inr (4, c1.set 5 (.ref q1))) = H2 at h ⊢
  refine xs_aload_n rfl rfl ?_
  exact h

set_option maxRecDepth 20000 in
theorem b_PK_init_10 {l : Launch} {x : xX} {d mc ms n0 uc us : Nat} {Q : xO → xH → Prop} {cl : Bool} {r0 : Nat} {r1 : Nat} {r2 : Nat} {r3 : Nat} {r4 : Nat} {q0 : Nat} {q1 : Nat} {H : xH}
    (h : xW l x d mc ms mPK_init n0 Q cl 12 [some (.ref r0), some (.ref r1), some (.ref r2), some (.ref r3), some (.ref r4), none] [.int 32, .ref q1, .ref q1, .ref q0] H uc us) :
    xW l x d mc ms mPK_init n0 Q cl 10 [some (.ref r0), some (.ref r1), some (.ref r2), some (.ref r3), some (.ref r4), none] [.ref q1, .ref q0] H uc us := by
  refine xs_dup rfl rfl ?_
  refine xs_bipushV (v := 32) rfl rfl ?_
  exact h

set_option maxRecDepth 20000 in
theorem b_PK_init_13 {l : Launch} {x : xX} {d mc ms n0 uc us : Nat} {Q : xO → xH → Prop} {cl : Bool} {r0 : Nat} {r1 : Nat} {r2 : Nat} {r3 : Nat} {r4 : Nat} {q0 : Nat} {q1 : Nat} {H : xH}
    (h : ∃ c1, H[(q0 : Nat)]? = some (.inr (4, c1)) ∧ 6 < c1.length ∧ (∀ H2 : xH, H2 = H.set q0 (.inr (4, c1.set 6 (.ref q1))) → xW l x d mc ms mPK_init n0 Q false 15 [some (.ref r0), some (.ref r1), some (.ref r2), some (.ref r3), some (.ref r4), none] [.ref r0] H2 uc us)) :
    xW l x d mc ms mPK_init n0 Q cl 13 [some (.ref r0), some (.ref r1), some (.ref r2), some (.ref r3), some (.ref r4), none] [.ref q1, .ref q0] H uc us := by
  obtain ⟨c1, h1, h2, h⟩ := h
  refine xs_putF rfl fl_4_20 h1 (fun q hq => by cases hq; exact ⟨rfl, rfl⟩) rfl rfl h2 ?_
  have h := h _ rfl
  generalize H.set q0 (.inr (4, c1.set 6 (.ref q1))) = H2 at h ⊢
  refine xs_aload_n rfl rfl ?_
  exact h

set_option maxRecDepth 20000 in
theorem b_PK_init_16 {l : Launch} {x : xX} {d mc ms n0 uc us : Nat} {Q : xO → xH → Prop} {cl : Bool} {r0 : Nat} {r1 : Nat} {r2 : Nat} {r3 : Nat} {r4 : Nat} {q0 : Nat} {q1 : Nat} {H : xH}
    (h : xW l x d mc ms mPK_init n0 Q cl 17 [some (.ref r0), some (.ref r1), some (.ref r2), some (.ref r3), some (.ref r4), none] [.ref q1, .ref q1, .ref q0] H uc us) :
    xW l x d mc ms mPK_init n0 Q cl 16 [some (.ref r0), some (.ref r1), some (.ref r2), some (.ref r3), some (.ref r4), none] [.ref q1, .ref q0] H uc us := by
  refine xs_dup rfl rfl ?_
  exact h

set_option maxRecDepth 20000 in
theorem b_PK_init_18 {l : Launch} {x : xX} {d mc ms n0 uc us : Nat} {Q : xO → xH → Prop} {cl : Bool} {r0 : Nat} {r1 : Nat} {r2 : Nat} {r3 : Nat} {r4 : Nat} {q0 : Nat} {q1 : Nat} {H : xH}
    (h : ∃ c1, H[(q0 : Nat)]? = some (.inr (4, c1)) ∧ 7 < c1.length ∧ (∀ H2 : xH, H2 = H.set q0 (.inr (4, c1.set 7 (.ref q1))) → xW l x d mc ms mPK_init n0 Q false 21 [some (.ref r0), some (.ref r1), some (.ref r2), some (.ref r3), some (.ref r4), none] [.int 1024, .ref r0] H2 uc us)) :
    xW l x d mc ms mPK_init n0 Q cl 18 [some (.ref r0), some (.ref r1), some (.ref r2), some (.ref r3), some (.ref r4), none] [.ref q1, .ref q0] H uc us := by
  obtain ⟨c1, h1, h2, h⟩ := h
  refine xs_putF rfl fl_4_26 h1 (fun q hq => by cases hq; exact ⟨rfl, rfl⟩) rfl rfl h2 ?_
  have h := h _ rfl
  generalize H.set q0 (.inr (4, c1.set 7 (.ref q1))) = H2 at h ⊢
  refine xs_aload_n rfl rfl ?_
  refine xs_sipushV (v := 1024) rfl rfl ?_
  exact h

set_option maxRecDepth 20000 in
theorem b_PK_init_22 {l : Launch} {x : xX} {d mc ms n0 uc us : Nat} {Q : xO → xH → Prop} {cl : Bool} {r0 : Nat} {r1 : Nat} {r2 : Nat} {r3 : Nat} {r4 : Nat} {q0 : Nat} {q1 : Nat} {H : xH}
    (h : ∃ c1, H[(q0 : Nat)]? = some (.inr (4, c1)) ∧ 8 < c1.length ∧ (∀ H2 : xH, H2 = H.set q0 (.inr (4, c1.set 8 (.ref q1))) → xW l x d mc ms mPK_init n0 Q false 25 [some (.ref r0), some (.ref r1), some (.ref r2), some (.ref r3), some (.ref r4), none] [.int 1024, .ref r0] H2 uc us)) :
    xW l x d mc ms mPK_init n0 Q cl 22 [some (.ref r0), some (.ref r1), some (.ref r2), some (.ref r3), some (.ref r4), none] [.ref q1, .ref q0] H uc us := by
  obtain ⟨c1, h1, h2, h⟩ := h
  refine xs_putF rfl fl_4_30 h1 (fun q hq => by cases hq; exact ⟨rfl, rfl⟩) rfl rfl h2 ?_
  have h := h _ rfl
  generalize H.set q0 (.inr (4, c1.set 8 (.ref q1))) = H2 at h ⊢
  refine xs_aload_n rfl rfl ?_
  refine xs_sipushV (v := 1024) rfl rfl ?_
  exact h

set_option maxRecDepth 20000 in
theorem b_PK_init_26 {l : Launch} {x : xX} {d mc ms n0 uc us : Nat} {Q : xO → xH → Prop} {cl : Bool} {r0 : Nat} {r1 : Nat} {r2 : Nat} {r3 : Nat} {r4 : Nat} {q0 : Nat} {q1 : Nat} {H : xH}
    (h : ∃ c1, H[(q0 : Nat)]? = some (.inr (4, c1)) ∧ 9 < c1.length ∧ (∀ H2 : xH, H2 = H.set q0 (.inr (4, c1.set 9 (.ref q1))) → xW l x d mc ms mPK_init n0 Q false 29 [some (.ref r0), some (.ref r1), some (.ref r2), some (.ref r3), some (.ref r4), none] [.int 286, .ref r0] H2 uc us)) :
    xW l x d mc ms mPK_init n0 Q cl 26 [some (.ref r0), some (.ref r1), some (.ref r2), some (.ref r3), some (.ref r4), none] [.ref q1, .ref q0] H uc us := by
  obtain ⟨c1, h1, h2, h⟩ := h
  refine xs_putF rfl fl_4_34 h1 (fun q hq => by cases hq; exact ⟨rfl, rfl⟩) rfl rfl h2 ?_
  have h := h _ rfl
  generalize H.set q0 (.inr (4, c1.set 9 (.ref q1))) = H2 at h ⊢
  refine xs_aload_n rfl rfl ?_
  refine xs_sipushV (v := 286) rfl rfl ?_
  exact h

set_option maxRecDepth 20000 in
theorem b_PK_init_30 {l : Launch} {x : xX} {d mc ms n0 uc us : Nat} {Q : xO → xH → Prop} {cl : Bool} {r0 : Nat} {r1 : Nat} {r2 : Nat} {r3 : Nat} {r4 : Nat} {q0 : Nat} {q1 : Nat} {H : xH}
    (h : ∃ c1, H[(q0 : Nat)]? = some (.inr (4, c1)) ∧ 10 < c1.length ∧ (∀ H2 : xH, H2 = H.set q0 (.inr (4, c1.set 10 (.ref q1))) → xW l x d mc ms mPK_init n0 Q false 33 [some (.ref r0), some (.ref r1), some (.ref r2), some (.ref r3), some (.ref r4), none] [.int 30, .ref r0] H2 uc us)) :
    xW l x d mc ms mPK_init n0 Q cl 30 [some (.ref r0), some (.ref r1), some (.ref r2), some (.ref r3), some (.ref r4), none] [.ref q1, .ref q0] H uc us := by
  obtain ⟨c1, h1, h2, h⟩ := h
  refine xs_putF rfl fl_4_37 h1 (fun q hq => by cases hq; exact ⟨rfl, rfl⟩) rfl rfl h2 ?_
  have h := h _ rfl
  generalize H.set q0 (.inr (4, c1.set 10 (.ref q1))) = H2 at h ⊢
  refine xs_aload_n rfl rfl ?_
  refine xs_bipushV (v := 30) rfl rfl ?_
  exact h

set_option maxRecDepth 20000 in
theorem b_PK_init_34 {l : Launch} {x : xX} {d mc ms n0 uc us : Nat} {Q : xO → xH → Prop} {cl : Bool} {r0 : Nat} {r1 : Nat} {r2 : Nat} {r3 : Nat} {r4 : Nat} {q0 : Nat} {q1 : Nat} {H : xH}
    (h : ∃ c1, H[(q0 : Nat)]? = some (.inr (4, c1)) ∧ 11 < c1.length ∧ (∀ H2 : xH, H2 = H.set q0 (.inr (4, c1.set 11 (.ref q1))) → ∃ c3, H2[(r0 : Nat)]? = some (.inr (4, c3)) ∧ 0 < c3.length ∧ (∀ H4 : xH, H4 = H2.set r0 (.inr (4, c3.set 0 (.ref r1))) → ∃ c5, H4[(r0 : Nat)]? = some (.inr (4, c5)) ∧ 1 < c5.length ∧ (∀ H6 : xH, H6 = H4.set r0 (.inr (4, c5.set 1 (.ref r3))) → ∃ c7, H6[(r0 : Nat)]? = some (.inr (4, c7)) ∧ 2 < c7.length ∧ (∀ H8 : xH, H8 = H6.set r0 (.inr (4, c7.set 2 (.ref r4))) → xW l x d mc ms mPK_init n0 Q false 45 [some (.ref r0), some (.ref r1), some (.ref r2), some (.ref r3), some (.ref r4), none] [.ref r0] H8 uc us))))) :
    xW l x d mc ms mPK_init n0 Q cl 34 [some (.ref r0), some (.ref r1), some (.ref r2), some (.ref r3), some (.ref r4), none] [.ref q1, .ref q0] H uc us := by
  obtain ⟨c1, h1, h2, h⟩ := h
  refine xs_putF rfl fl_4_40 h1 (fun q hq => by cases hq; exact ⟨rfl, rfl⟩) rfl rfl h2 ?_
  have h := h _ rfl
  generalize H.set q0 (.inr (4, c1.set 11 (.ref q1))) = H2 at h ⊢
  refine xs_aload_n rfl rfl ?_
  refine xs_aload_n rfl rfl ?_
  obtain ⟨c3, h1, h2, h⟩ := h
  refine xs_putF rfl fl_4_43 h1 (fun q hq => by cases hq; exact ⟨rfl, rfl⟩) rfl rfl h2 ?_
  have h := h _ rfl
  generalize H2.set r0 (.inr (4, c3.set 0 (.ref r1))) = H4 at h ⊢
  refine xs_aload_n rfl rfl ?_
  refine xs_aload_n rfl rfl ?_
  obtain ⟨c5, h1, h2, h⟩ := h
  refine xs_putF rfl fl_4_47 h1 (fun q hq => by cases hq; exact ⟨rfl, rfl⟩) rfl rfl h2 ?_
  have h := h _ rfl
  generalize H4.set r0 (.inr (4, c5.set 1 (.ref r3))) = H6 at h ⊢
  refine xs_aload_n rfl rfl ?_
  refine xs_aload rfl rfl ?_
  obtain ⟨c7, h1, h2, h⟩ := h
  refine xs_putF rfl fl_4_51 h1 (fun q hq => by cases hq; exact ⟨rfl, rfl⟩) rfl rfl h2 ?_
  have h := h _ rfl
  generalize H6.set r0 (.inr (4, c7.set 2 (.ref r4))) = H8 at h ⊢
  refine xs_aload_n rfl rfl ?_
  exact h

set_option maxRecDepth 20000 in
theorem b_PK_init_46 {l : Launch} {x : xX} {d mc ms n0 uc us : Nat} {Q : xO → xH → Prop} {cl : Bool} {r0 : Nat} {r1 : Nat} {r2 : Nat} {r3 : Nat} {r4 : Nat} {q0 : Nat} {q1 : Nat} {H : xH}
    (h : xW l x d mc ms mPK_init n0 Q cl 48 [some (.ref r0), some (.ref r1), some (.ref r2), some (.ref r3), some (.ref r4), none] [.ref r1, .ref q1, .ref q1, .ref q0] H uc us) :
    xW l x d mc ms mPK_init n0 Q cl 46 [some (.ref r0), some (.ref r1), some (.ref r2), some (.ref r3), some (.ref r4), none] [.ref q1, .ref q0] H uc us := by
  refine xs_dup rfl rfl ?_
  refine xs_aload_n rfl rfl ?_
  exact h

set_option maxRecDepth 20000 in
theorem b_PK_init_49 {l : Launch} {x : xX} {d mc ms n0 uc us : Nat} {Q : xO → xH → Prop} {cl : Bool} {r0 : Nat} {r1 : Nat} {r2 : Nat} {r3 : Nat} {r4 : Nat} {q0 : Nat} {q1 : Nat} {H : xH}
    (h : ∃ c1, H[(q0 : Nat)]? = some (.inr (4, c1)) ∧ 3 < c1.length ∧ (∀ H2 : xH, H2 = H.set q0 (.inr (4, c1.set 3 (.ref q1))) → xW l x d mc ms mPK_init n0 Q false 51 [some (.ref r0), some (.ref r1), some (.ref r2), some (.ref r3), some (.ref r4), none] [.ref r0] H2 uc us)) :
    xW l x d mc ms mPK_init n0 Q cl 49 [some (.ref r0), some (.ref r1), some (.ref r2), some (.ref r3), some (.ref r4), none] [.ref q1, .ref q0] H uc us := by
  obtain ⟨c1, h1, h2, h⟩ := h
  refine xs_putF rfl fl_4_60 h1 (fun q hq => by cases hq; exact ⟨rfl, rfl⟩) rfl rfl h2 ?_
  have h := h _ rfl
  generalize H.set q0 (.inr (4, c1.set 3 (.ref q1))) = H2 at h ⊢
  refine xs_aload_n rfl rfl ?_
  exact h

set_option maxRecDepth 20000 in
theorem b_PK_init_52 {l : Launch} {x : xX} {d mc ms n0 uc us : Nat} {Q : xO → xH → Prop} {cl : Bool} {r0 : Nat} {r1 : Nat} {r2 : Nat} {r3 : Nat} {r4 : Nat} {q0 : Nat} {q1 : Nat} {H : xH}
    (h : xW l x d mc ms mPK_init n0 Q cl 54 [some (.ref r0), some (.ref r1), some (.ref r2), some (.ref r3), some (.ref r4), none] [.ref r2, .ref q1, .ref q1, .ref q0] H uc us) :
    xW l x d mc ms mPK_init n0 Q cl 52 [some (.ref r0), some (.ref r1), some (.ref r2), some (.ref r3), some (.ref r4), none] [.ref q1, .ref q0] H uc us := by
  refine xs_dup rfl rfl ?_
  refine xs_aload_n rfl rfl ?_
  exact h

set_option maxRecDepth 20000 in
theorem b_PK_init_55 {l : Launch} {x : xX} {d mc ms n0 uc us : Nat} {Q : xO → xH → Prop} {cl : Bool} {r0 : Nat} {r1 : Nat} {r2 : Nat} {r3 : Nat} {r4 : Nat} {q0 : Nat} {q1 : Nat} {H : xH}
    (h : ∃ c1, H[(q0 : Nat)]? = some (.inr (4, c1)) ∧ 4 < c1.length ∧ (∀ H2 : xH, H2 = H.set q0 (.inr (4, c1.set 4 (.ref q1))) → xW l x d mc ms mPK_init n0 Q false 58 [some (.ref r0), some (.ref r1), some (.ref r2), some (.ref r3), some (.ref r4), some (.int 0)] [] H2 uc us)) :
    xW l x d mc ms mPK_init n0 Q cl 55 [some (.ref r0), some (.ref r1), some (.ref r2), some (.ref r3), some (.ref r4), none] [.ref q1, .ref q0] H uc us := by
  obtain ⟨c1, h1, h2, h⟩ := h
  refine xs_putF rfl fl_4_67 h1 (fun q hq => by cases hq; exact ⟨rfl, rfl⟩) rfl rfl h2 ?_
  have h := h _ rfl
  generalize H.set q0 (.inr (4, c1.set 4 (.ref q1))) = H2 at h ⊢
  refine xs_iconstV (v := 0) rfl rfl ?_
  refine xs_istore rfl (L' := [some (.ref r0), some (.ref r1), some (.ref r2), some (.ref r3), some (.ref r4), some (.int 0)]) rfl rfl ?_
  exact h

set_option maxRecDepth 20000 in
theorem b_PK_init_58 {l : Launch} {x : xX} {d mc ms n0 uc us : Nat} {Q : xO → xH → Prop} {cl : Bool} {r0 : Nat} {r1 : Nat} {r2 : Nat} {r3 : Nat} {r4 : Nat} {v5 : Int32} {H : xH}
    (h : (288 ≤ v5 → ∃ p1, gR H r0 4 6 p1 ∧ (∃ p2, gR H p1 11 0 p2 ∧ (xW l x d mc ms mPK_init n0 Q cl 74 [some (.ref r0), some (.ref r1), some (.ref r2), some (.ref r3), some (.ref r4), some (.int v5)] [.int 5, .ref p2] H uc us))) ∧ (¬ 288 ≤ v5 → ∃ p3, gR H r0 4 5 p3 ∧ (∃ p4, gR H p3 11 0 p4 ∧ (xW l x d mc ms mPK_init n0 Q cl 66 [some (.ref r0), some (.ref r1), some (.ref r2), some (.ref r3), some (.ref r4), some (.int v5)] [.int v5, .int v5, .ref p4] H uc us)))) :
    xW l x d mc ms mPK_init n0 Q cl 58 [some (.ref r0), some (.ref r1), some (.ref r2), some (.ref r3), some (.ref r4), some (.int v5)] [] H uc us := by
  refine xs_iload rfl rfl ?_
  refine xs_sipushV (v := 288) rfl rfl ?_
  refine xs_icmp_ge (k' := 70) rfl rfl (fun hb => ?_) (fun hb => ?_)
  · have h := h.1 hb
    refine xs_aload_n rfl rfl ?_
    obtain ⟨p1, ⟨_, h1, h2⟩, h⟩ := h
    refine xs_getf rfl fl_4_20 h1 h2 ?_
    obtain ⟨p2, ⟨_, h1, h2⟩, h⟩ := h
    refine xs_getf rfl fl_4_71 h1 h2 ?_
    refine xs_iconstV (v := 5) rfl rfl ?_
    exact h
  · have h := h.2 hb
    refine xs_aload_n rfl rfl ?_
    obtain ⟨p3, ⟨_, h1, h2⟩, h⟩ := h
    refine xs_getf rfl fl_4_14 h1 h2 ?_
    obtain ⟨p4, ⟨_, h1, h2⟩, h⟩ := h
    refine xs_getf rfl fl_4_71 h1 h2 ?_
    refine xs_iload rfl rfl ?_
    refine xs_iload rfl rfl ?_
    exact h

set_option maxRecDepth 20000 in
theorem b_PK_init_67 {l : Launch} {x : xX} {d mc ms n0 uc us : Nat} {Q : xO → xH → Prop} {cl : Bool} {r0 : Nat} {r1 : Nat} {r2 : Nat} {r3 : Nat} {r4 : Nat} {v5 : Int32} {q0 : Nat} {u1 : Int32} {u2 : Int32} {H : xH}
    (h : ∃ n1 f2, H[(q0 : Nat)]? = some (.inl (0, n1, .inl f2)) ∧ 2 ≤ q0 ∧ vp_in u1 n1 ∧ (∀ H3 : xH, H3 = H.set q0 (.inl (0, n1, .inl (upd f2 (u1.toNatClampNeg) (u2)))) → xW l x d mc ms mPK_init n0 Q false 58 [some (.ref r0), some (.ref r1), some (.ref r2), some (.ref r3), some (.ref r4), some (.int (v5 + 1))] [] H3 uc us)) :
    xW l x d mc ms mPK_init n0 Q cl 67 [some (.ref r0), some (.ref r1), some (.ref r2), some (.ref r3), some (.ref r4), some (.int v5)] [.int u2, .int u1, .ref q0] H uc us := by
  obtain ⟨n1, f2, h1, h3, h2, h⟩ := h
  refine xs_iast rfl h1 h3 h2 ?_
  have h := h _ rfl
  generalize H.set q0 (.inl (0, n1, .inl (upd f2 (u1.toNatClampNeg) (u2)))) = H3 at h ⊢
  refine xs_iincV rfl (w := 1) rfl rfl (L' := [some (.ref r0), some (.ref r1), some (.ref r2), some (.ref r3), some (.ref r4), some (.int (v5 + 1))]) rfl rfl ?_
  refine xs_goto (k' := 58) rfl rfl ?_
  exact h

set_option maxRecDepth 20000 in
theorem b_PK_init_75 {l : Launch} {x : xX} {d mc ms n0 uc us : Nat} {Q : xO → xH → Prop} {cl : Bool} {r0 : Nat} {r1 : Nat} {r2 : Nat} {r3 : Nat} {r4 : Nat} {v5 : Int32} {H : xH}
    (h : ∃ p1, gR H r0 4 5 p1 ∧ (xW l x d mc ms mPK_init n0 Q cl 77 [some (.ref r0), some (.ref r1), some (.ref r2), some (.ref r3), some (.ref r4), some (.int v5)] [.ref p1] H uc us)) :
    xW l x d mc ms mPK_init n0 Q cl 75 [some (.ref r0), some (.ref r1), some (.ref r2), some (.ref r3), some (.ref r4), some (.int v5)] [] H uc us := by
  refine xs_aload_n rfl rfl ?_
  obtain ⟨p1, ⟨_, h1, h2⟩, h⟩ := h
  refine xs_getf rfl fl_4_14 h1 h2 ?_
  exact h

set_option maxRecDepth 20000 in
theorem b_PK_init_78 {l : Launch} {x : xX} {d mc ms n0 uc us : Nat} {Q : xO → xH → Prop} {cl : Bool} {r0 : Nat} {r1 : Nat} {r2 : Nat} {r3 : Nat} {r4 : Nat} {v5 : Int32} {H : xH}
    (h : ∃ p1, gR H r0 4 6 p1 ∧ (xW l x d mc ms mPK_init n0 Q cl 80 [some (.ref r0), some (.ref r1), some (.ref r2), some (.ref r3), some (.ref r4), some (.int v5)] [.ref p1] H uc us)) :
    xW l x d mc ms mPK_init n0 Q cl 78 [some (.ref r0), some (.ref r1), some (.ref r2), some (.ref r3), some (.ref r4), some (.int v5)] [] H uc us := by
  refine xs_aload_n rfl rfl ?_
  obtain ⟨p1, ⟨_, h1, h2⟩, h⟩ := h
  refine xs_getf rfl fl_4_20 h1 h2 ?_
  exact h

set_option maxRecDepth 20000 in
theorem b_PK_init_81 {l : Launch} {x : xX} {d mc ms n0 uc us : Nat} {Q : xO → xH → Prop} {cl : Bool} {r0 : Nat} {r1 : Nat} {r2 : Nat} {r3 : Nat} {r4 : Nat} {v5 : Int32} {H : xH}
    (h : uc = mc ∧ us ≤ ms ∧ Q (.inl none) H) :
    xW l x d mc ms mPK_init n0 Q cl 81 [some (.ref r0), some (.ref r1), some (.ref r2), some (.ref r3), some (.ref r4), some (.int v5)] [] H uc us := by
  exact xs_vret rfl rfl h.1 h.2.1 h.2.2

set_option maxRecDepth 20000 in
theorem b_PK_packTape_0 {l : Launch} {x : xX} {d mc ms n0 uc us : Nat} {Q : xO → xH → Prop} {cl : Bool} {r0 : Nat} {v1 : Int32} {H : xH}
    (h : ∃ p1, gR H r0 4 1 p1 ∧ (xW l x d mc ms mPK_packTape n0 Q cl 2 [some (.ref r0), some (.int v1), none, none] [.ref p1] H uc us)) :
    xW l x d mc ms mPK_packTape n0 Q cl 0 [some (.ref r0), some (.int v1), none, none] [] H uc us := by
  refine xs_aload_n rfl rfl ?_
  obtain ⟨p1, ⟨_, h1, h2⟩, h⟩ := h
  refine xs_getf rfl fl_4_47 h1 h2 ?_
  exact h

set_option maxRecDepth 20000 in
theorem b_PK_packTape_3 {l : Launch} {x : xX} {d mc ms n0 uc us : Nat} {Q : xO → xH → Prop} {cl : Bool} {r0 : Nat} {v1 : Int32} {H : xH}
    (h : ∃ p1, gR H r0 4 4 p1 ∧ (xW l x d mc ms mPK_packTape n0 Q cl 5 [some (.ref r0), some (.int v1), none, none] [.ref p1] H uc us)) :
    xW l x d mc ms mPK_packTape n0 Q cl 3 [some (.ref r0), some (.int v1), none, none] [] H uc us := by
  refine xs_aload_n rfl rfl ?_
  obtain ⟨p1, ⟨_, h1, h2⟩, h⟩ := h
  refine xs_getf rfl fl_4_67 h1 h2 ?_
  exact h

set_option maxRecDepth 20000 in
theorem b_PK_packTape_6 {l : Launch} {x : xX} {d mc ms n0 uc us : Nat} {Q : xO → xH → Prop} {cl : Bool} {r0 : Nat} {v1 : Int32} {H : xH}
    (h : ∃ p1, gR H r0 4 3 p1 ∧ (xW l x d mc ms mPK_packTape n0 Q cl 8 [some (.ref r0), some (.int v1), none, none] [.ref p1] H uc us)) :
    xW l x d mc ms mPK_packTape n0 Q cl 6 [some (.ref r0), some (.int v1), none, none] [] H uc us := by
  refine xs_aload_n rfl rfl ?_
  obtain ⟨p1, ⟨_, h1, h2⟩, h⟩ := h
  refine xs_getf rfl fl_4_60 h1 h2 ?_
  exact h

set_option maxRecDepth 20000 in
theorem b_PK_packTape_9 {l : Launch} {x : xX} {d mc ms n0 uc us : Nat} {Q : xO → xH → Prop} {cl : Bool} {r0 : Nat} {v1 : Int32} {H : xH}
    (h : xW l x d mc ms mPK_packTape n0 Q cl 11 [some (.ref r0), some (.int v1), none, none] [.int v1, .ref r0] H uc us) :
    xW l x d mc ms mPK_packTape n0 Q cl 9 [some (.ref r0), some (.int v1), none, none] [] H uc us := by
  refine xs_aload_n rfl rfl ?_
  refine xs_iload_n rfl rfl ?_
  exact h

set_option maxRecDepth 20000 in
theorem b_PK_packTape_12 {l : Launch} {x : xX} {d mc ms n0 uc us : Nat} {Q : xO → xH → Prop} {cl : Bool} {r0 : Nat} {v1 : Int32} {H : xH}
    (h : ∃ c1, H[(r0 : Nat)]? = some (.inr (4, c1)) ∧ 15 < c1.length ∧ (∀ H2 : xH, H2 = H.set r0 (.inr (4, c1.set 15 (.int 0))) → xW l x d mc ms mPK_packTape n0 Q false 19 [some (.ref r0), some (.int v1), some (.int 0), some (.int 0)] [] H2 uc us)) :
    xW l x d mc ms mPK_packTape n0 Q cl 12 [some (.ref r0), some (.int v1), none, none] [] H uc us := by
  refine xs_aload_n rfl rfl ?_
  refine xs_iconstV (v := 0) rfl rfl ?_
  obtain ⟨c1, h1, h2, h⟩ := h
  refine xs_putf rfl fl_4_99 h1 (fun q hq => by cases hq; rfl) rfl h2 ?_
  have h := h _ rfl
  generalize H.set r0 (.inr (4, c1.set 15 (.int 0))) = H2 at h ⊢
  refine xs_iconstV (v := 0) rfl rfl ?_
  refine xs_istore_n rfl (L' := [some (.ref r0), some (.int v1), some (.int 0), none]) rfl rfl ?_
  refine xs_iconstV (v := 0) rfl rfl ?_
  refine xs_istore_n rfl (L' := [some (.ref r0), some (.int v1), some (.int 0), some (.int 0)]) rfl rfl ?_
  exact h

set_option maxRecDepth 20000 in
theorem b_PK_packTape_19 {l : Launch} {x : xX} {d mc ms n0 uc us : Nat} {Q : xO → xH → Prop} {cl : Bool} {r0 : Nat} {v1 : Int32} {v2 : Int32} {v3 : Int32} {H : xH}
    (h : (¬ v2 = 0 → ∃ p1, gR H r0 4 4 p1 ∧ (xW l x d mc ms mPK_packTape n0 Q cl 53 [some (.ref r0), some (.int v1), some (.int v2), some (.int v3)] [.ref p1] H uc us)) ∧ (v2 = 0 → (32768 < v3 → ∃ p2, gR H r0 4 4 p2 ∧ (xW l x d mc ms mPK_packTape n0 Q cl 53 [some (.ref r0), some (.int v1), some (.int v2), some (.int v3)] [.ref p2] H uc us)) ∧ (¬ 32768 < v3 → xW l x d mc ms mPK_packTape n0 Q cl 25 [some (.ref r0), some (.int v1), some (.int v2), some (.int v3)] [.ref r0] H uc us))) :
    xW l x d mc ms mPK_packTape n0 Q cl 19 [some (.ref r0), some (.int v1), some (.int v2), some (.int v3)] [] H uc us := by
  refine xs_iload_n rfl rfl ?_
  refine xs_if_ne (k' := 51) rfl rfl (fun hb => ?_) (fun hb => ?_)
  · have h := h.1 hb
    refine xs_aload_n rfl rfl ?_
    obtain ⟨p1, ⟨_, h1, h2⟩, h⟩ := h
    refine xs_getf rfl fl_4_67 h1 h2 ?_
    exact h
  · have h := h.2 hb
    refine xs_iload_n rfl rfl ?_
    refine xs_ldc rfl kc_4_103 ?_
    refine xs_icmp_gt (k' := 51) rfl rfl (fun hb => ?_) (fun hb => ?_)
    · have h := h.1 hb
      refine xs_aload_n rfl rfl ?_
      obtain ⟨p2, ⟨_, h1, h2⟩, h⟩ := h
      refine xs_getf rfl fl_4_67 h1 h2 ?_
      exact h
    · have h := h.2 hb
      refine xs_aload_n rfl rfl ?_
      exact h

set_option maxRecDepth 20000 in
theorem b_PK_packTape_26 {l : Launch} {x : xX} {d mc ms n0 uc us : Nat} {Q : xO → xH → Prop} {cl : Bool} {r0 : Nat} {v1 : Int32} {v2 : Int32} {v3 : Int32} {H : xH}
    (h : ∃ a1, gI H r0 4 12 a1 ∧ ((a1 ≤ 0 → xW l x d mc ms mPK_packTape n0 Q cl 36 [some (.ref r0), some (.int v1), some (.int v2), some (.int v3)] [] H uc us) ∧ (¬ a1 ≤ 0 → ∃ p2, gR H r0 4 7 p2 ∧ (∃ p3, gR H r0 4 10 p3 ∧ (∃ p4, gR H r0 4 11 p4 ∧ (xW l x d mc ms mPK_packTape n0 Q cl 35 [some (.ref r0), some (.int v1), some (.int v2), some (.int v3)] [.ref p4, .ref p3, .ref p2] H uc us)))))) :
    xW l x d mc ms mPK_packTape n0 Q cl 26 [some (.ref r0), some (.int v1), some (.int v2), some (.int v3)] [] H uc us := by
  refine xs_aload_n rfl rfl ?_
  obtain ⟨a1, ⟨_, h1, h2⟩, h⟩ := h
  refine xs_getf rfl fl_4_107 h1 h2 ?_
  refine xs_if_le (k' := 36) rfl rfl (fun hb => ?_) (fun hb => ?_)
  · have h := h.1 hb
    exact h
  · have h := h.2 hb
    refine xs_aload_n rfl rfl ?_
    obtain ⟨p2, ⟨_, h1, h2⟩, h⟩ := h
    refine xs_getf rfl fl_4_26 h1 h2 ?_
    refine xs_aload_n rfl rfl ?_
    obtain ⟨p3, ⟨_, h1, h2⟩, h⟩ := h
    refine xs_getf rfl fl_4_37 h1 h2 ?_
    refine xs_aload_n rfl rfl ?_
    obtain ⟨p4, ⟨_, h1, h2⟩, h⟩ := h
    refine xs_getf rfl fl_4_40 h1 h2 ?_
    exact h

set_option maxRecDepth 20000 in
theorem b_PK_packTape_36 {l : Launch} {x : xX} {d mc ms n0 uc us : Nat} {Q : xO → xH → Prop} {cl : Bool} {r0 : Nat} {v1 : Int32} {v2 : Int32} {v3 : Int32} {H : xH}
    (h : ∃ a1, gI H r0 4 15 a1 ∧ (∃ p2, gR H r0 4 0 p2 ∧ (∃ a3, gI H p2 7 1 a3 ∧ ((a1 < a3 → xW l x d mc ms mPK_packTape n0 Q cl 48 [some (.ref r0), some (.int v1), some (.int 0), some (.int v3)] [.int 0, .ref r0] H uc us) ∧ (¬ a1 < a3 → xW l x d mc ms mPK_packTape n0 Q cl 48 [some (.ref r0), some (.int v1), some (.int 1), some (.int v3)] [.int 1, .ref r0] H uc us))))) :
    xW l x d mc ms mPK_packTape n0 Q cl 36 [some (.ref r0), some (.int v1), some (.int v2), some (.int v3)] [] H uc us := by
  refine xs_aload_n rfl rfl ?_
  obtain ⟨a1, ⟨_, h1, h2⟩, h⟩ := h
  refine xs_getf rfl fl_4_99 h1 h2 ?_
  refine xs_aload_n rfl rfl ?_
  obtain ⟨p2, ⟨_, h1, h2⟩, h⟩ := h
  refine xs_getf rfl fl_4_43 h1 h2 ?_
  obtain ⟨a3, ⟨_, h1, h2⟩, h⟩ := h
  refine xs_getf rfl fl_4_114 h1 h2 ?_
  refine xs_icmp_lt (k' := 44) rfl rfl (fun hb => ?_) (fun hb => ?_)
  · have h := h.1 hb
    refine xs_iconstV (v := 0) rfl rfl ?_
    refine xs_istore_n rfl (L' := [some (.ref r0), some (.int v1), some (.int 0), some (.int v3)]) rfl rfl ?_
    refine xs_aload_n rfl rfl ?_
    refine xs_iload_n rfl rfl ?_
    exact h
  · have h := h.2 hb
    refine xs_iconstV (v := 1) rfl rfl ?_
    refine xs_goto (k' := 45) rfl rfl ?_
    refine xs_istore_n rfl (L' := [some (.ref r0), some (.int v1), some (.int 1), some (.int v3)]) rfl rfl ?_
    refine xs_aload_n rfl rfl ?_
    refine xs_iload_n rfl rfl ?_
    exact h

set_option maxRecDepth 20000 in
theorem b_PK_packTape_49 {l : Launch} {x : xX} {d mc ms n0 uc us : Nat} {Q : xO → xH → Prop} {cl : Bool} {r0 : Nat} {v1 : Int32} {v2 : Int32} {v3 : Int32} {H : xH}
    (h : xW l x d mc ms mPK_packTape n0 Q cl 19 [some (.ref r0), some (.int v1), some (.int v2), some (.int (v3 + 1))] [] H uc us) :
    xW l x d mc ms mPK_packTape n0 Q cl 49 [some (.ref r0), some (.int v1), some (.int v2), some (.int v3)] [] H uc us := by
  refine xs_iincV rfl (w := 1) rfl rfl (L' := [some (.ref r0), some (.int v1), some (.int v2), some (.int (v3 + 1))]) rfl rfl ?_
  refine xs_goto (k' := 19) rfl rfl ?_
  exact h

set_option maxRecDepth 20000 in
theorem b_PK_packTape_54 {l : Launch} {x : xX} {d mc ms n0 uc us : Nat} {Q : xO → xH → Prop} {cl : Bool} {r0 : Nat} {v1 : Int32} {v2 : Int32} {v3 : Int32} {H : xH}
    (h : xW l x d mc ms mPK_packTape n0 Q cl 56 [some (.ref r0), some (.int v1), some (.int v2), some (.int v3)] [.int v1, .ref r0] H uc us) :
    xW l x d mc ms mPK_packTape n0 Q cl 54 [some (.ref r0), some (.int v1), some (.int v2), some (.int v3)] [] H uc us := by
  refine xs_aload_n rfl rfl ?_
  refine xs_iload_n rfl rfl ?_
  exact h

set_option maxRecDepth 20000 in
theorem b_PK_packTape_57 {l : Launch} {x : xX} {d mc ms n0 uc us : Nat} {Q : xO → xH → Prop} {cl : Bool} {r0 : Nat} {v1 : Int32} {v2 : Int32} {v3 : Int32} {H : xH}
    (h : uc = mc ∧ us ≤ ms ∧ Q (.inl none) H) :
    xW l x d mc ms mPK_packTape n0 Q cl 57 [some (.ref r0), some (.int v1), some (.int v2), some (.int v3)] [] H uc us := by
  exact xs_vret rfl rfl h.1 h.2.1 h.2.2

set_option maxRecDepth 20000 in
theorem b_PK_writeHead_0 {l : Launch} {x : xX} {d mc ms n0 uc us : Nat} {Q : xO → xH → Prop} {cl : Bool} {r0 : Nat} {v1 : Int32} {H : xH}
    (h : (¬ v1 = 1 → xW l x d mc ms mPK_writeHead n0 Q cl 13 [some (.ref r0), some (.int v1), none] [] H uc us) ∧ (v1 = 1 → ∃ p1, gR H r0 4 4 p1 ∧ (xW l x d mc ms mPK_writeHead n0 Q cl 7 [some (.ref r0), some (.int v1), none] [.int 8, .int 120, .ref p1] H uc us))) :
    xW l x d mc ms mPK_writeHead n0 Q cl 0 [some (.ref r0), some (.int v1), none] [] H uc us := by
  refine xs_iload_n rfl rfl ?_
  refine xs_iconstV (v := 1) rfl rfl ?_
  refine xs_icmp_ne (k' := 13) rfl rfl (fun hb => ?_) (fun hb => ?_)
  · have h := h.1 hb
    exact h
  · have h := h.2 hb
    refine xs_aload_n rfl rfl ?_
    obtain ⟨p1, ⟨_, h1, h2⟩, h⟩ := h
    refine xs_getf rfl fl_4_67 h1 h2 ?_
    refine xs_bipushV (v := 120) rfl rfl ?_
    refine xs_bipushV (v := 8) rfl rfl ?_
    exact h

set_option maxRecDepth 20000 in
theorem b_PK_writeHead_8 {l : Launch} {x : xX} {d mc ms n0 uc us : Nat} {Q : xO → xH → Prop} {cl : Bool} {r0 : Nat} {v1 : Int32} {H : xH}
    (h : ∃ p1, gR H r0 4 4 p1 ∧ (xW l x d mc ms mPK_writeHead n0 Q cl 12 [some (.ref r0), some (.int v1), none] [.int 8, .int 156, .ref p1] H uc us)) :
    xW l x d mc ms mPK_writeHead n0 Q cl 8 [some (.ref r0), some (.int v1), none] [] H uc us := by
  refine xs_aload_n rfl rfl ?_
  obtain ⟨p1, ⟨_, h1, h2⟩, h⟩ := h
  refine xs_getf rfl fl_4_67 h1 h2 ?_
  refine xs_sipushV (v := 156) rfl rfl ?_
  refine xs_bipushV (v := 8) rfl rfl ?_
  exact h

set_option maxRecDepth 20000 in
theorem b_PK_writeHead_13 {l : Launch} {x : xX} {d mc ms n0 uc us : Nat} {Q : xO → xH → Prop} {cl : Bool} {r0 : Nat} {v1 : Int32} {H : xH}
    (h : (¬ v1 = 2 → xW l x d mc ms mPK_writeHead n0 Q cl 48 [some (.ref r0), some (.int v1), none] [] H uc us) ∧ (v1 = 2 → ∃ p1, gR H r0 4 4 p1 ∧ (xW l x d mc ms mPK_writeHead n0 Q cl 20 [some (.ref r0), some (.int v1), none] [.int 8, .int 31, .ref p1] H uc us))) :
    xW l x d mc ms mPK_writeHead n0 Q cl 13 [some (.ref r0), some (.int v1), none] [] H uc us := by
  refine xs_iload_n rfl rfl ?_
  refine xs_iconstV (v := 2) rfl rfl ?_
  refine xs_icmp_ne (k' := 48) rfl rfl (fun hb => ?_) (fun hb => ?_)
  · have h := h.1 hb
    exact h
  · have h := h.2 hb
    refine xs_aload_n rfl rfl ?_
    obtain ⟨p1, ⟨_, h1, h2⟩, h⟩ := h
    refine xs_getf rfl fl_4_67 h1 h2 ?_
    refine xs_bipushV (v := 31) rfl rfl ?_
    refine xs_bipushV (v := 8) rfl rfl ?_
    exact h

set_option maxRecDepth 20000 in
theorem b_PK_writeHead_21 {l : Launch} {x : xX} {d mc ms n0 uc us : Nat} {Q : xO → xH → Prop} {cl : Bool} {r0 : Nat} {v1 : Int32} {H : xH}
    (h : ∃ p1, gR H r0 4 4 p1 ∧ (xW l x d mc ms mPK_writeHead n0 Q cl 25 [some (.ref r0), some (.int v1), none] [.int 8, .int 139, .ref p1] H uc us)) :
    xW l x d mc ms mPK_writeHead n0 Q cl 21 [some (.ref r0), some (.int v1), none] [] H uc us := by
  refine xs_aload_n rfl rfl ?_
  obtain ⟨p1, ⟨_, h1, h2⟩, h⟩ := h
  refine xs_getf rfl fl_4_67 h1 h2 ?_
  refine xs_sipushV (v := 139) rfl rfl ?_
  refine xs_bipushV (v := 8) rfl rfl ?_
  exact h

set_option maxRecDepth 20000 in
theorem b_PK_writeHead_26 {l : Launch} {x : xX} {d mc ms n0 uc us : Nat} {Q : xO → xH → Prop} {cl : Bool} {r0 : Nat} {v1 : Int32} {H : xH}
    (h : ∃ p1, gR H r0 4 4 p1 ∧ (xW l x d mc ms mPK_writeHead n0 Q cl 30 [some (.ref r0), some (.int v1), none] [.int 8, .int 8, .ref p1] H uc us)) :
    xW l x d mc ms mPK_writeHead n0 Q cl 26 [some (.ref r0), some (.int v1), none] [] H uc us := by
  refine xs_aload_n rfl rfl ?_
  obtain ⟨p1, ⟨_, h1, h2⟩, h⟩ := h
  refine xs_getf rfl fl_4_67 h1 h2 ?_
  refine xs_bipushV (v := 8) rfl rfl ?_
  refine xs_bipushV (v := 8) rfl rfl ?_
  exact h

set_option maxRecDepth 20000 in
theorem b_PK_writeHead_31 {l : Launch} {x : xX} {d mc ms n0 uc us : Nat} {Q : xO → xH → Prop} {cl : Bool} {r0 : Nat} {v1 : Int32} {H : xH}
    (h : xW l x d mc ms mPK_writeHead n0 Q cl 33 [some (.ref r0), some (.int v1), some (.int 0)] [] H uc us) :
    xW l x d mc ms mPK_writeHead n0 Q cl 31 [some (.ref r0), some (.int v1), none] [] H uc us := by
  refine xs_iconstV (v := 0) rfl rfl ?_
  refine xs_istore_n rfl (L' := [some (.ref r0), some (.int v1), some (.int 0)]) rfl rfl ?_
  exact h

set_option maxRecDepth 20000 in
theorem b_PK_writeHead_33 {l : Launch} {x : xX} {d mc ms n0 uc us : Nat} {Q : xO → xH → Prop} {cl : Bool} {r0 : Nat} {v1 : Int32} {v2 : Int32} {H : xH}
    (h : (6 ≤ v2 → ∃ p1, gR H r0 4 4 p1 ∧ (xW l x d mc ms mPK_writeHead n0 Q cl 47 [some (.ref r0), some (.int v1), some (.int v2)] [.int 8, .int 255, .ref p1] H uc us)) ∧ (¬ 6 ≤ v2 → ∃ p2, gR H r0 4 4 p2 ∧ (xW l x d mc ms mPK_writeHead n0 Q cl 40 [some (.ref r0), some (.int v1), some (.int v2)] [.int 8, .int 0, .ref p2] H uc us))) :
    xW l x d mc ms mPK_writeHead n0 Q cl 33 [some (.ref r0), some (.int v1), some (.int v2)] [] H uc us := by
  refine xs_iload_n rfl rfl ?_
  refine xs_bipushV (v := 6) rfl rfl ?_
  refine xs_icmp_ge (k' := 43) rfl rfl (fun hb => ?_) (fun hb => ?_)
  · have h := h.1 hb
    refine xs_aload_n rfl rfl ?_
    obtain ⟨p1, ⟨_, h1, h2⟩, h⟩ := h
    refine xs_getf rfl fl_4_67 h1 h2 ?_
    refine xs_sipushV (v := 255) rfl rfl ?_
    refine xs_bipushV (v := 8) rfl rfl ?_
    exact h
  · have h := h.2 hb
    refine xs_aload_n rfl rfl ?_
    obtain ⟨p2, ⟨_, h1, h2⟩, h⟩ := h
    refine xs_getf rfl fl_4_67 h1 h2 ?_
    refine xs_iconstV (v := 0) rfl rfl ?_
    refine xs_bipushV (v := 8) rfl rfl ?_
    exact h

set_option maxRecDepth 20000 in
theorem b_PK_writeHead_41 {l : Launch} {x : xX} {d mc ms n0 uc us : Nat} {Q : xO → xH → Prop} {cl : Bool} {r0 : Nat} {v1 : Int32} {v2 : Int32} {H : xH}
    (h : xW l x d mc ms mPK_writeHead n0 Q cl 33 [some (.ref r0), some (.int v1), some (.int (v2 + 1))] [] H uc us) :
    xW l x d mc ms mPK_writeHead n0 Q cl 41 [some (.ref r0), some (.int v1), some (.int v2)] [] H uc us := by
  refine xs_iincV rfl (w := 1) rfl rfl (L' := [some (.ref r0), some (.int v1), some (.int (v2 + 1))]) rfl rfl ?_
  refine xs_goto (k' := 33) rfl rfl ?_
  exact h

set_option maxRecDepth 20000 in
theorem b_PK_writeHead_48 {l : Launch} {x : xX} {d mc ms n0 uc us : Nat} {Q : xO → xH → Prop} {cl : Bool} {r0 : Nat} {v1 : Int32} {H : xH}
    (h : uc = mc ∧ us ≤ ms ∧ Q (.inl none) H) :
    xW l x d mc ms mPK_writeHead n0 Q cl 48 [some (.ref r0), some (.int v1), none] [] H uc us := by
  exact xs_vret rfl rfl h.1 h.2.1 h.2.2

set_option maxRecDepth 20000 in
theorem b_PK_takePieces_0 {l : Launch} {x : xX} {d mc ms n0 uc us : Nat} {Q : xO → xH → Prop} {cl : Bool} {r0 : Nat} {H : xH}
    (h : ∃ a1, gI H r0 4 15 a1 ∧ (∃ c2, H[(r0 : Nat)]? = some (.inr (4, c2)) ∧ 14 < c2.length ∧ (∀ H3 : xH, H3 = H.set r0 (.inr (4, c2.set 14 (.int a1))) → ∃ c4, H3[(r0 : Nat)]? = some (.inr (4, c4)) ∧ 12 < c4.length ∧ (∀ H5 : xH, H5 = H3.set r0 (.inr (4, c4.set 12 (.int 0))) → ∃ c6, H5[(r0 : Nat)]? = some (.inr (4, c6)) ∧ 13 < c6.length ∧ (∀ H7 : xH, H7 = H5.set r0 (.inr (4, c6.set 13 (.int 0))) → ∃ p8, gR H7 r0 4 10 p8 ∧ (xW l x d mc ms mPK_takePieces n0 Q false 13 [some (.ref r0)] [.int 0, .ref p8] H7 uc us)))))) :
    xW l x d mc ms mPK_takePieces n0 Q cl 0 [some (.ref r0)] [] H uc us := by
  refine xs_aload_n rfl rfl ?_
  refine xs_aload_n rfl rfl ?_
  obtain ⟨a1, ⟨_, h1, h2⟩, h⟩ := h
  refine xs_getf rfl fl_4_99 h1 h2 ?_
  obtain ⟨c2, h1, h2, h⟩ := h
  refine xs_putf rfl fl_4_146 h1 (fun q hq => by cases hq; rfl) rfl h2 ?_
  have h := h _ rfl
  generalize H.set r0 (.inr (4, c2.set 14 (.int a1))) = H3 at h ⊢
  refine xs_aload_n rfl rfl ?_
  refine xs_iconstV (v := 0) rfl rfl ?_
  obtain ⟨c4, h1, h2, h⟩ := h
  refine xs_putf rfl fl_4_107 h1 (fun q hq => by cases hq; rfl) rfl h2 ?_
  have h := h _ rfl
  generalize H3.set r0 (.inr (4, c4.set 12 (.int 0))) = H5 at h ⊢
  refine xs_aload_n rfl rfl ?_
  refine xs_iconstV (v := 0) rfl rfl ?_
  obtain ⟨c6, h1, h2, h⟩ := h
  refine xs_putf rfl fl_4_149 h1 (fun q hq => by cases hq; rfl) rfl h2 ?_
  have h := h _ rfl
  generalize H5.set r0 (.inr (4, c6.set 13 (.int 0))) = H7 at h ⊢
  refine xs_aload_n rfl rfl ?_
  obtain ⟨p8, ⟨_, h1, h2⟩, h⟩ := h
  refine xs_getf rfl fl_4_37 h1 h2 ?_
  refine xs_iconstV (v := 0) rfl rfl ?_
  exact h

set_option maxRecDepth 20000 in
theorem b_PK_takePieces_14 {l : Launch} {x : xX} {d mc ms n0 uc us : Nat} {Q : xO → xH → Prop} {cl : Bool} {r0 : Nat} {H : xH}
    (h : ∃ p1, gR H r0 4 11 p1 ∧ (xW l x d mc ms mPK_takePieces n0 Q cl 17 [some (.ref r0)] [.int 0, .ref p1] H uc us)) :
    xW l x d mc ms mPK_takePieces n0 Q cl 14 [some (.ref r0)] [] H uc us := by
  refine xs_aload_n rfl rfl ?_
  obtain ⟨p1, ⟨_, h1, h2⟩, h⟩ := h
  refine xs_getf rfl fl_4_40 h1 h2 ?_
  refine xs_iconstV (v := 0) rfl rfl ?_
  exact h

set_option maxRecDepth 20000 in
theorem b_PK_takePieces_18 {l : Launch} {x : xX} {d mc ms n0 uc us : Nat} {Q : xO → xH → Prop} {cl : Bool} {r0 : Nat} {H : xH}
    (h : ∃ p1, gR H r0 4 10 p1 ∧ (∃ n2 f3, H[(p1 : Nat)]? = some (.inl (0, n2, .inl f3)) ∧ 2 ≤ p1 ∧ vp_in 256 n2 ∧ (∀ H4 : xH, H4 = H.set p1 (.inl (0, n2, .inl (upd f3 ((256 : Int32).toNatClampNeg) (1)))) → xW l x d mc ms mPK_takePieces n0 Q false 23 [some (.ref r0)] [] H4 uc us))) :
    xW l x d mc ms mPK_takePieces n0 Q cl 18 [some (.ref r0)] [] H uc us := by
  refine xs_aload_n rfl rfl ?_
  obtain ⟨p1, ⟨_, h1, h2⟩, h⟩ := h
  refine xs_getf rfl fl_4_37 h1 h2 ?_
  refine xs_sipushV (v := 256) rfl rfl ?_
  refine xs_iconstV (v := 1) rfl rfl ?_
  obtain ⟨n2, f3, h1, h3, h2, h⟩ := h
  refine xs_iast rfl h1 h3 h2 ?_
  have h := h _ rfl
  generalize H.set p1 (.inl (0, n2, .inl (upd f3 ((256 : Int32).toNatClampNeg) (1)))) = H4 at h ⊢
  exact h

set_option maxRecDepth 20000 in
theorem b_PK_takePieces_23 {l : Launch} {x : xX} {d mc ms n0 uc us : Nat} {Q : xO → xH → Prop} {cl : Bool} {r0 : Nat} {H : xH}
    (h : ∃ a1, gI H r0 4 12 a1 ∧ ((1024 ≤ a1 → uc = mc ∧ us ≤ ms ∧ Q (.inl none) H) ∧ (¬ 1024 ≤ a1 → ∃ a2, gI H r0 4 15 a2 ∧ (∃ p3, gR H r0 4 0 p3 ∧ (∃ a4, gI H p3 7 1 a4 ∧ ((a4 ≤ a2 → uc = mc ∧ us ≤ ms ∧ Q (.inl none) H) ∧ (¬ a4 ≤ a2 → xW l x d mc ms mPK_takePieces n0 Q cl 34 [some (.ref r0)] [.ref r0] H uc us))))))) :
    xW l x d mc ms mPK_takePieces n0 Q cl 23 [some (.ref r0)] [] H uc us := by
  refine xs_aload_n rfl rfl ?_
  obtain ⟨a1, ⟨_, h1, h2⟩, h⟩ := h
  refine xs_getf rfl fl_4_107 h1 h2 ?_
  refine xs_sipushV (v := 1024) rfl rfl ?_
  refine xs_icmp_ge (k' := 42) rfl rfl (fun hb => ?_) (fun hb => ?_)
  · have h := h.1 hb
    exact xs_vret rfl rfl h.1 h.2.1 h.2.2
  · have h := h.2 hb
    refine xs_aload_n rfl rfl ?_
    obtain ⟨a2, ⟨_, h1, h2⟩, h⟩ := h
    refine xs_getf rfl fl_4_99 h1 h2 ?_
    refine xs_aload_n rfl rfl ?_
    obtain ⟨p3, ⟨_, h1, h2⟩, h⟩ := h
    refine xs_getf rfl fl_4_43 h1 h2 ?_
    obtain ⟨a4, ⟨_, h1, h2⟩, h⟩ := h
    refine xs_getf rfl fl_4_114 h1 h2 ?_
    refine xs_icmp_ge (k' := 42) rfl rfl (fun hb => ?_) (fun hb => ?_)
    · have h := h.1 hb
      exact xs_vret rfl rfl h.1 h.2.1 h.2.2
    · have h := h.2 hb
      refine xs_aload_n rfl rfl ?_
      exact h

set_option maxRecDepth 20000 in
theorem b_PK_takePieces_35 {l : Launch} {x : xX} {d mc ms n0 uc us : Nat} {Q : xO → xH → Prop} {cl : Bool} {r0 : Nat} {H : xH}
    (h : ∃ a1, gI H r0 4 12 a1 ∧ (∃ c2, H[(r0 : Nat)]? = some (.inr (4, c2)) ∧ 12 < c2.length ∧ (∀ H3 : xH, H3 = H.set r0 (.inr (4, c2.set 12 (.int (a1 + 1)))) → xW l x d mc ms mPK_takePieces n0 Q false 23 [some (.ref r0)] [] H3 uc us))) :
    xW l x d mc ms mPK_takePieces n0 Q cl 35 [some (.ref r0)] [] H uc us := by
  refine xs_aload_n rfl rfl ?_
  refine xs_dup rfl rfl ?_
  obtain ⟨a1, ⟨_, h1, h2⟩, h⟩ := h
  refine xs_getf rfl fl_4_107 h1 h2 ?_
  refine xs_iconstV (v := 1) rfl rfl ?_
  refine xs_iadd rfl ?_
  obtain ⟨c2, h1, h2, h⟩ := h
  refine xs_putf rfl fl_4_107 h1 (fun q hq => by cases hq; rfl) rfl h2 ?_
  have h := h _ rfl
  generalize H.set r0 (.inr (4, c2.set 12 (.int (a1 + 1)))) = H3 at h ⊢
  refine xs_goto (k' := 23) rfl rfl ?_
  exact h

set_option maxRecDepth 20000 in
theorem b_PK_takePiece_0 {l : Launch} {x : xX} {d mc ms n0 uc us : Nat} {Q : xO → xH → Prop} {cl : Bool} {r0 : Nat} {H : xH}
    (h : ∃ p1, gR H r0 4 3 p1 ∧ (∃ a2, gI H r0 4 15 a2 ∧ (xW l x d mc ms mPK_takePiece n0 Q cl 4 [some (.ref r0), none, none] [.int a2, .ref p1] H uc us))) :
    xW l x d mc ms mPK_takePiece n0 Q cl 0 [some (.ref r0), none, none] [] H uc us := by
  refine xs_aload_n rfl rfl ?_
  obtain ⟨p1, ⟨_, h1, h2⟩, h⟩ := h
  refine xs_getf rfl fl_4_60 h1 h2 ?_
  refine xs_aload_n rfl rfl ?_
  obtain ⟨a2, ⟨_, h1, h2⟩, h⟩ := h
  refine xs_getf rfl fl_4_99 h1 h2 ?_
  exact h

set_option maxRecDepth 20000 in
theorem b_PK_takePiece_5 {l : Launch} {x : xX} {d mc ms n0 uc us : Nat} {Q : xO → xH → Prop} {cl : Bool} {r0 : Nat} {H : xH}
    (h : ∃ p1, gR H r0 4 3 p1 ∧ (∃ a2, gI H p1 2 0 a2 ∧ (∃ p3, gR H r0 4 3 p3 ∧ (∃ a4, gI H p3 2 1 a4 ∧ ((a2 ≤ 0 → (a2 ≤ 0 → xW l x d mc ms mPK_takePiece n0 Q cl 40 [some (.ref r0), some (.int a2), some (.int a4)] [.ref r0] H uc us) ∧ (¬ a2 ≤ 0 → xW l x d mc ms mPK_takePiece n0 Q cl 37 [some (.ref r0), some (.int a2), some (.int a4)] [.int a4, .int a2, .ref r0] H uc us)) ∧ (¬ a2 ≤ 0 → (258 ≤ a2 → (a2 ≤ 0 → xW l x d mc ms mPK_takePiece n0 Q cl 40 [some (.ref r0), some (.int a2), some (.int a4)] [.ref r0] H uc us) ∧ (¬ a2 ≤ 0 → xW l x d mc ms mPK_takePiece n0 Q cl 37 [some (.ref r0), some (.int a2), some (.int a4)] [.int a4, .int a2, .ref r0] H uc us)) ∧ (¬ 258 ≤ a2 → ∃ p5, gR H r0 4 3 p5 ∧ (∃ a6, gI H r0 4 15 a6 ∧ (xW l x d mc ms mPK_takePiece n0 Q cl 24 [some (.ref r0), some (.int a2), some (.int a4)] [.int (a6 + 1), .ref p5] H uc us))))))))) :
    xW l x d mc ms mPK_takePiece n0 Q cl 5 [some (.ref r0), none, none] [] H uc us := by
  refine xs_aload_n rfl rfl ?_
  obtain ⟨p1, ⟨_, h1, h2⟩, h⟩ := h
  refine xs_getf rfl fl_4_60 h1 h2 ?_
  obtain ⟨a2, ⟨_, h1, h2⟩, h⟩ := h
  refine xs_getf rfl fl_4_158 h1 h2 ?_
  refine xs_istore_n rfl (L' := [some (.ref r0), some (.int a2), none]) rfl rfl ?_
  refine xs_aload_n rfl rfl ?_
  obtain ⟨p3, ⟨_, h1, h2⟩, h⟩ := h
  refine xs_getf rfl fl_4_60 h1 h2 ?_
  obtain ⟨a4, ⟨_, h1, h2⟩, h⟩ := h
  refine xs_getf rfl fl_4_161 h1 h2 ?_
  refine xs_istore_n rfl (L' := [some (.ref r0), some (.int a2), some (.int a4)]) rfl rfl ?_
  refine xs_iload_n rfl rfl ?_
  refine xs_if_le (k' := 32) rfl rfl (fun hb => ?_) (fun hb => ?_)
  · have h := h.1 hb
    refine xs_iload_n rfl rfl ?_
    refine xs_if_le (k' := 39) rfl rfl (fun hb => ?_) (fun hb => ?_)
    · have h := h.1 hb
      refine xs_aload_n rfl rfl ?_
      exact h
    · have h := h.2 hb
      refine xs_aload_n rfl rfl ?_
      refine xs_iload_n rfl rfl ?_
      refine xs_iload_n rfl rfl ?_
      exact h
  · have h := h.2 hb
    refine xs_iload_n rfl rfl ?_
    refine xs_sipushV (v := 258) rfl rfl ?_
    refine xs_icmp_ge (k' := 32) rfl rfl (fun hb => ?_) (fun hb => ?_)
    · have h := h.1 hb
      refine xs_iload_n rfl rfl ?_
      refine xs_if_le (k' := 39) rfl rfl (fun hb => ?_) (fun hb => ?_)
      · have h := h.1 hb
        refine xs_aload_n rfl rfl ?_
        exact h
      · have h := h.2 hb
        refine xs_aload_n rfl rfl ?_
        refine xs_iload_n rfl rfl ?_
        refine xs_iload_n rfl rfl ?_
        exact h
    · have h := h.2 hb
      refine xs_aload_n rfl rfl ?_
      obtain ⟨p5, ⟨_, h1, h2⟩, h⟩ := h
      refine xs_getf rfl fl_4_60 h1 h2 ?_
      refine xs_aload_n rfl rfl ?_
      obtain ⟨a6, ⟨_, h1, h2⟩, h⟩ := h
      refine xs_getf rfl fl_4_99 h1 h2 ?_
      refine xs_iconstV (v := 1) rfl rfl ?_
      refine xs_iadd rfl ?_
      exact h

set_option maxRecDepth 20000 in
theorem b_PK_takePiece_25 {l : Launch} {x : xX} {d mc ms n0 uc us : Nat} {Q : xO → xH → Prop} {cl : Bool} {r0 : Nat} {v1 : Int32} {v2 : Int32} {H : xH}
    (h : ∃ p1, gR H r0 4 3 p1 ∧ (∃ a2, gI H p1 2 0 a2 ∧ ((a2 ≤ v1 → (v1 ≤ 0 → xW l x d mc ms mPK_takePiece n0 Q cl 40 [some (.ref r0), some (.int v1), some (.int v2)] [.ref r0] H uc us) ∧ (¬ v1 ≤ 0 → xW l x d mc ms mPK_takePiece n0 Q cl 37 [some (.ref r0), some (.int v1), some (.int v2)] [.int v2, .int v1, .ref r0] H uc us)) ∧ (¬ a2 ≤ v1 → ((0 : Int32) ≤ 0 → xW l x d mc ms mPK_takePiece n0 Q cl 40 [some (.ref r0), some (.int 0), some (.int v2)] [.ref r0] H uc us) ∧ (¬ (0 : Int32) ≤ 0 → xW l x d mc ms mPK_takePiece n0 Q cl 37 [some (.ref r0), some (.int 0), some (.int v2)] [.int v2, .int 0, .ref r0] H uc us))))) :
    xW l x d mc ms mPK_takePiece n0 Q cl 25 [some (.ref r0), some (.int v1), some (.int v2)] [] H uc us := by
  refine xs_aload_n rfl rfl ?_
  obtain ⟨p1, ⟨_, h1, h2⟩, h⟩ := h
  refine xs_getf rfl fl_4_60 h1 h2 ?_
  obtain ⟨a2, ⟨_, h1, h2⟩, h⟩ := h
  refine xs_getf rfl fl_4_158 h1 h2 ?_
  refine xs_iload_n rfl rfl ?_
  refine xs_icmp_le (k' := 32) rfl rfl (fun hb => ?_) (fun hb => ?_)
  · have h := h.1 hb
    refine xs_iload_n rfl rfl ?_
    refine xs_if_le (k' := 39) rfl rfl (fun hb => ?_) (fun hb => ?_)
    · have h := h.1 hb
      refine xs_aload_n rfl rfl ?_
      exact h
    · have h := h.2 hb
      refine xs_aload_n rfl rfl ?_
      refine xs_iload_n rfl rfl ?_
      refine xs_iload_n rfl rfl ?_
      exact h
  · have h := h.2 hb
    refine xs_iconstV (v := 0) rfl rfl ?_
    refine xs_istore_n rfl (L' := [some (.ref r0), some (.int 0), some (.int v2)]) rfl rfl ?_
    refine xs_iload_n rfl rfl ?_
    refine xs_if_le (k' := 39) rfl rfl (fun hb => ?_) (fun hb => ?_)
    · have h := h.1 hb
      refine xs_aload_n rfl rfl ?_
      exact h
    · have h := h.2 hb
      refine xs_aload_n rfl rfl ?_
      refine xs_iload_n rfl rfl ?_
      refine xs_iload_n rfl rfl ?_
      exact h

set_option maxRecDepth 20000 in
theorem b_PK_takePiece_38 {l : Launch} {x : xX} {d mc ms n0 uc us : Nat} {Q : xO → xH → Prop} {cl : Bool} {r0 : Nat} {v1 : Int32} {v2 : Int32} {H : xH}
    (h : xW l x d mc ms mPK_takePiece n0 Q cl 41 [some (.ref r0), some (.int v1), some (.int v2)] [] H uc us) :
    xW l x d mc ms mPK_takePiece n0 Q cl 38 [some (.ref r0), some (.int v1), some (.int v2)] [] H uc us := by
  refine xs_goto (k' := 41) rfl rfl ?_
  exact h

set_option maxRecDepth 20000 in
theorem b_PK_takePiece_41 {l : Launch} {x : xX} {d mc ms n0 uc us : Nat} {Q : xO → xH → Prop} {cl : Bool} {r0 : Nat} {v1 : Int32} {v2 : Int32} {H : xH}
    (h : uc = mc ∧ us ≤ ms ∧ Q (.inl none) H) :
    xW l x d mc ms mPK_takePiece n0 Q cl 41 [some (.ref r0), some (.int v1), some (.int v2)] [] H uc us := by
  exact xs_vret rfl rfl h.1 h.2.1 h.2.2

set_option maxRecDepth 20000 in
theorem b_PK_takeStretch_0 {l : Launch} {x : xX} {d mc ms n0 uc us : Nat} {Q : xO → xH → Prop} {cl : Bool} {r0 : Nat} {v1 : Int32} {v2 : Int32} {H : xH}
    (h : xW l x d mc ms mPK_takeStretch n0 Q cl 1 [some (.ref r0), some (.int v1), some (.int v2), none, none] [.int v1] H uc us) :
    xW l x d mc ms mPK_takeStretch n0 Q cl 0 [some (.ref r0), some (.int v1), some (.int v2), none, none] [] H uc us := by
  refine xs_iload_n rfl rfl ?_
  exact h

set_option maxRecDepth 20000 in
theorem b_PK_takeStretch_2 {l : Launch} {x : xX} {d mc ms n0 uc us : Nat} {Q : xO → xH → Prop} {cl : Bool} {r0 : Nat} {v1 : Int32} {v2 : Int32} {u0 : Int32} {H : xH}
    (h : xW l x d mc ms mPK_takeStretch n0 Q cl 4 [some (.ref r0), some (.int v1), some (.int v2), some (.int u0), none] [.int v2] H uc us) :
    xW l x d mc ms mPK_takeStretch n0 Q cl 2 [some (.ref r0), some (.int v1), some (.int v2), none, none] [.int u0] H uc us := by
  refine xs_istore_n rfl (L' := [some (.ref r0), some (.int v1), some (.int v2), some (.int u0), none]) rfl rfl ?_
  refine xs_iload_n rfl rfl ?_
  exact h

set_option maxRecDepth 20000 in
theorem b_PK_takeStretch_5 {l : Launch} {x : xX} {d mc ms n0 uc us : Nat} {Q : xO → xH → Prop} {cl : Bool} {r0 : Nat} {v1 : Int32} {v2 : Int32} {v3 : Int32} {u0 : Int32} {H : xH}
    (h : ∃ p1, gR H r0 4 8 p1 ∧ (∃ a2, gI H r0 4 12 a2 ∧ (∃ n3 f4, H[(p1 : Nat)]? = some (.inl (0, n3, .inl f4)) ∧ 2 ≤ p1 ∧ vp_in a2 n3 ∧ (∀ H5 : xH, H5 = H.set p1 (.inl (0, n3, .inl (upd f4 (a2.toNatClampNeg) (v1)))) → ∃ p6, gR H5 r0 4 9 p6 ∧ (∃ a7, gI H5 r0 4 12 a7 ∧ (∃ n8 f9, H5[(p6 : Nat)]? = some (.inl (0, n8, .inl f9)) ∧ 2 ≤ p6 ∧ vp_in a7 n8 ∧ (∀ H10 : xH, H10 = H5.set p6 (.inl (0, n8, .inl (upd f9 (a7.toNatClampNeg) (v2)))) → ∃ p11, gR H10 r0 4 10 p11 ∧ (∃ n12 f13, H10[(p11 : Nat)]? = some (.inl (0, n12, .inl f13)) ∧ vp_in ((257 : Int32) + v3) n12 ∧ (∃ n14 f15, H10[(p11 : Nat)]? = some (.inl (0, n14, .inl f15)) ∧ 2 ≤ p11 ∧ vp_in ((257 : Int32) + v3) n14 ∧ (∀ H16 : xH, H16 = H10.set p11 (.inl (0, n14, .inl (upd f15 (((257 : Int32) + v3).toNatClampNeg) (((f13 ((257 : Int32) + v3).toNatClampNeg) + 1))))) → ∃ p17, gR H16 r0 4 11 p17 ∧ (∃ n18 f19, H16[(p17 : Nat)]? = some (.inl (0, n18, .inl f19)) ∧ vp_in u0 n18 ∧ (∃ n20 f21, H16[(p17 : Nat)]? = some (.inl (0, n20, .inl f21)) ∧ 2 ≤ p17 ∧ vp_in u0 n20 ∧ (∀ H22 : xH, H22 = H16.set p17 (.inl (0, n20, .inl (upd f21 (u0.toNatClampNeg) (((f19 u0.toNatClampNeg) + 1))))) → ∃ a23, gI H22 r0 4 13 a23 ∧ (xW l x d mc ms mPK_takeStretch n0 Q false 40 [some (.ref r0), some (.int v1), some (.int v2), some (.int v3), some (.int u0)] [.int v3, .int a23, .ref r0] H22 uc us)))))))))))))) :
    xW l x d mc ms mPK_takeStretch n0 Q cl 5 [some (.ref r0), some (.int v1), some (.int v2), some (.int v3), none] [.int u0] H uc us := by
  refine xs_istore rfl (L' := [some (.ref r0), some (.int v1), some (.int v2), some (.int v3), some (.int u0)]) rfl rfl ?_
  refine xs_aload_n rfl rfl ?_
  obtain ⟨p1, ⟨_, h1, h2⟩, h⟩ := h
  refine xs_getf rfl fl_4_30 h1 h2 ?_
  refine xs_aload_n rfl rfl ?_
  obtain ⟨a2, ⟨_, h1, h2⟩, h⟩ := h
  refine xs_getf rfl fl_4_107 h1 h2 ?_
  refine xs_iload_n rfl rfl ?_
  obtain ⟨n3, f4, h1, h3, h2, h⟩ := h
  refine xs_iast rfl h1 h3 h2 ?_
  have h := h _ rfl
  generalize H.set p1 (.inl (0, n3, .inl (upd f4 (a2.toNatClampNeg) (v1)))) = H5 at h ⊢
  refine xs_aload_n rfl rfl ?_
  obtain ⟨p6, ⟨_, h1, h2⟩, h⟩ := h
  refine xs_getf rfl fl_4_34 h1 h2 ?_
  refine xs_aload_n rfl rfl ?_
  obtain ⟨a7, ⟨_, h1, h2⟩, h⟩ := h
  refine xs_getf rfl fl_4_107 h1 h2 ?_
  refine xs_iload_n rfl rfl ?_
  obtain ⟨n8, f9, h1, h3, h2, h⟩ := h
  refine xs_iast rfl h1 h3 h2 ?_
  have h := h _ rfl
  generalize H5.set p6 (.inl (0, n8, .inl (upd f9 (a7.toNatClampNeg) (v2)))) = H10 at h ⊢
  refine xs_aload_n rfl rfl ?_
  obtain ⟨p11, ⟨_, h1, h2⟩, h⟩ := h
  refine xs_getf rfl fl_4_37 h1 h2 ?_
  refine xs_sipushV (v := 257) rfl rfl ?_
  refine xs_iload_n rfl rfl ?_
  refine xs_iadd rfl ?_
  refine xs_dup2 rfl rfl rfl ?_
  obtain ⟨n12, f13, h1, h2, h⟩ := h
  refine xs_iald rfl h1 h2 ?_
  refine xs_iconstV (v := 1) rfl rfl ?_
  refine xs_iadd rfl ?_
  obtain ⟨n14, f15, h1, h3, h2, h⟩ := h
  refine xs_iast rfl h1 h3 h2 ?_
  have h := h _ rfl
  generalize H10.set p11 (.inl (0, n14, .inl (upd f15 (((257 : Int32) + v3).toNatClampNeg) (((f13 ((257 : Int32) + v3).toNatClampNeg) + 1))))) = H16 at h ⊢
  refine xs_aload_n rfl rfl ?_
  obtain ⟨p17, ⟨_, h1, h2⟩, h⟩ := h
  refine xs_getf rfl fl_4_40 h1 h2 ?_
  refine xs_iload rfl rfl ?_
  refine xs_dup2 rfl rfl rfl ?_
  obtain ⟨n18, f19, h1, h2, h⟩ := h
  refine xs_iald rfl h1 h2 ?_
  refine xs_iconstV (v := 1) rfl rfl ?_
  refine xs_iadd rfl ?_
  obtain ⟨n20, f21, h1, h3, h2, h⟩ := h
  refine xs_iast rfl h1 h3 h2 ?_
  have h := h _ rfl
  generalize H16.set p17 (.inl (0, n20, .inl (upd f21 (u0.toNatClampNeg) (((f19 u0.toNatClampNeg) + 1))))) = H22 at h ⊢
  refine xs_aload_n rfl rfl ?_
  refine xs_dup rfl rfl ?_
  obtain ⟨a23, ⟨_, h1, h2⟩, h⟩ := h
  refine xs_getf rfl fl_4_149 h1 h2 ?_
  refine xs_iload_n rfl rfl ?_
  exact h

set_option maxRecDepth 20000 in
theorem b_PK_takeStretch_41 {l : Launch} {x : xX} {d mc ms n0 uc us : Nat} {Q : xO → xH → Prop} {cl : Bool} {r0 : Nat} {v1 : Int32} {v2 : Int32} {v3 : Int32} {v4 : Int32} {q0 : Nat} {u1 : Int32} {u2 : Int32} {H : xH}
    (h : xW l x d mc ms mPK_takeStretch n0 Q cl 42 [some (.ref r0), some (.int v1), some (.int v2), some (.int v3), some (.int v4)] [.int v4, .int u2, .int u1, .ref q0] H uc us) :
    xW l x d mc ms mPK_takeStretch n0 Q cl 41 [some (.ref r0), some (.int v1), some (.int v2), some (.int v3), some (.int v4)] [.int u2, .int u1, .ref q0] H uc us := by
  refine xs_iload rfl rfl ?_
  exact h

set_option maxRecDepth 20000 in
theorem b_PK_takeStretch_43 {l : Launch} {x : xX} {d mc ms n0 uc us : Nat} {Q : xO → xH → Prop} {cl : Bool} {r0 : Nat} {v1 : Int32} {v2 : Int32} {v3 : Int32} {v4 : Int32} {q0 : Nat} {u1 : Int32} {u2 : Int32} {u3 : Int32} {H : xH}
    (h : ∃ c1, H[(q0 : Nat)]? = some (.inr (4, c1)) ∧ 13 < c1.length ∧ (∀ H2 : xH, H2 = H.set q0 (.inr (4, c1.set 13 (.int (u1 + (u2 + u3))))) → ∃ a3, gI H2 r0 4 15 a3 ∧ (∃ c4, H2[(r0 : Nat)]? = some (.inr (4, c4)) ∧ 15 < c4.length ∧ (∀ H5 : xH, H5 = H2.set r0 (.inr (4, c4.set 15 (.int (a3 + v1)))) → ∃ p6, gR H5 r0 4 1 p6 ∧ (∃ a7, gI H5 p6 6 4 a7 ∧ (∃ c8, H5[(p6 : Nat)]? = some (.inr (6, c8)) ∧ 4 < c8.length ∧ (∀ H9 : xH, H9 = H5.set p6 (.inr (6, c8.set 4 (.int (a7 + 1)))) → uc = mc ∧ us ≤ ms ∧ Q (.inl none) H9))))))) :
    xW l x d mc ms mPK_takeStretch n0 Q cl 43 [some (.ref r0), some (.int v1), some (.int v2), some (.int v3), some (.int v4)] [.int u3, .int u2, .int u1, .ref q0] H uc us := by
  refine xs_iadd rfl ?_
  refine xs_iadd rfl ?_
  obtain ⟨c1, h1, h2, h⟩ := h
  refine xs_putf rfl fl_4_149 h1 (fun q hq => by cases hq; rfl) rfl h2 ?_
  have h := h _ rfl
  generalize H.set q0 (.inr (4, c1.set 13 (.int (u1 + (u2 + u3))))) = H2 at h ⊢
  refine xs_aload_n rfl rfl ?_
  refine xs_dup rfl rfl ?_
  obtain ⟨a3, ⟨_, h1, h2⟩, h⟩ := h
  refine xs_getf rfl fl_4_99 h1 h2 ?_
  refine xs_iload_n rfl rfl ?_
  refine xs_iadd rfl ?_
  obtain ⟨c4, h1, h2, h⟩ := h
  refine xs_putf rfl fl_4_99 h1 (fun q hq => by cases hq; rfl) rfl h2 ?_
  have h := h _ rfl
  generalize H2.set r0 (.inr (4, c4.set 15 (.int (a3 + v1)))) = H5 at h ⊢
  refine xs_aload_n rfl rfl ?_
  obtain ⟨p6, ⟨_, h1, h2⟩, h⟩ := h
  refine xs_getf rfl fl_4_47 h1 h2 ?_
  refine xs_dup rfl rfl ?_
  obtain ⟨a7, ⟨_, h1, h2⟩, h⟩ := h
  refine xs_getf rfl fl_4_185 h1 h2 ?_
  refine xs_iconstV (v := 1) rfl rfl ?_
  refine xs_iadd rfl ?_
  obtain ⟨c8, h1, h2, h⟩ := h
  refine xs_putf rfl fl_4_185 h1 (fun q hq => by cases hq; rfl) rfl h2 ?_
  have h := h _ rfl
  generalize H5.set p6 (.inr (6, c8.set 4 (.int (a7 + 1)))) = H9 at h ⊢
  exact xs_vret rfl rfl h.1 h.2.1 h.2.2

set_option maxRecDepth 20000 in
theorem b_PK_takeByte_0 {l : Launch} {x : xX} {d mc ms n0 uc us : Nat} {Q : xO → xH → Prop} {cl : Bool} {r0 : Nat} {H : xH}
    (h : ∃ p1, gR H r0 4 0 p1 ∧ (∃ a2, gI H r0 4 15 a2 ∧ (xW l x d mc ms mPK_takeByte n0 Q cl 4 [some (.ref r0), none] [.int a2, .ref p1] H uc us))) :
    xW l x d mc ms mPK_takeByte n0 Q cl 0 [some (.ref r0), none] [] H uc us := by
  refine xs_aload_n rfl rfl ?_
  obtain ⟨p1, ⟨_, h1, h2⟩, h⟩ := h
  refine xs_getf rfl fl_4_43 h1 h2 ?_
  refine xs_aload_n rfl rfl ?_
  obtain ⟨a2, ⟨_, h1, h2⟩, h⟩ := h
  refine xs_getf rfl fl_4_99 h1 h2 ?_
  exact h

set_option maxRecDepth 20000 in
theorem b_PK_takeByte_5 {l : Launch} {x : xX} {d mc ms n0 uc us : Nat} {Q : xO → xH → Prop} {cl : Bool} {r0 : Nat} {u0 : Int32} {H : xH}
    (h : ∃ p1, gR H r0 4 8 p1 ∧ (∃ a2, gI H r0 4 12 a2 ∧ (∃ n3 f4, H[(p1 : Nat)]? = some (.inl (0, n3, .inl f4)) ∧ 2 ≤ p1 ∧ vp_in a2 n3 ∧ (∀ H5 : xH, H5 = H.set p1 (.inl (0, n3, .inl (upd f4 (a2.toNatClampNeg) (0)))) → ∃ p6, gR H5 r0 4 9 p6 ∧ (∃ a7, gI H5 r0 4 12 a7 ∧ (∃ n8 f9, H5[(p6 : Nat)]? = some (.inl (0, n8, .inl f9)) ∧ 2 ≤ p6 ∧ vp_in a7 n8 ∧ (∀ H10 : xH, H10 = H5.set p6 (.inl (0, n8, .inl (upd f9 (a7.toNatClampNeg) (u0)))) → ∃ p11, gR H10 r0 4 10 p11 ∧ (∃ n12 f13, H10[(p11 : Nat)]? = some (.inl (0, n12, .inl f13)) ∧ vp_in u0 n12 ∧ (∃ n14 f15, H10[(p11 : Nat)]? = some (.inl (0, n14, .inl f15)) ∧ 2 ≤ p11 ∧ vp_in u0 n14 ∧ (∀ H16 : xH, H16 = H10.set p11 (.inl (0, n14, .inl (upd f15 (u0.toNatClampNeg) (((f13 u0.toNatClampNeg) + 1))))) → ∃ a17, gI H16 r0 4 15 a17 ∧ (∃ c18, H16[(r0 : Nat)]? = some (.inr (4, c18)) ∧ 15 < c18.length ∧ (∀ H19 : xH, H19 = H16.set r0 (.inr (4, c18.set 15 (.int (a17 + 1)))) → uc = mc ∧ us ≤ ms ∧ Q (.inl none) H19)))))))))))) :
    xW l x d mc ms mPK_takeByte n0 Q cl 5 [some (.ref r0), none] [.int u0] H uc us := by
  refine xs_istore_n rfl (L' := [some (.ref r0), some (.int u0)]) rfl rfl ?_
  refine xs_aload_n rfl rfl ?_
  obtain ⟨p1, ⟨_, h1, h2⟩, h⟩ := h
  refine xs_getf rfl fl_4_30 h1 h2 ?_
  refine xs_aload_n rfl rfl ?_
  obtain ⟨a2, ⟨_, h1, h2⟩, h⟩ := h
  refine xs_getf rfl fl_4_107 h1 h2 ?_
  refine xs_iconstV (v := 0) rfl rfl ?_
  obtain ⟨n3, f4, h1, h3, h2, h⟩ := h
  refine xs_iast rfl h1 h3 h2 ?_
  have h := h _ rfl
  generalize H.set p1 (.inl (0, n3, .inl (upd f4 (a2.toNatClampNeg) (0)))) = H5 at h ⊢
  refine xs_aload_n rfl rfl ?_
  obtain ⟨p6, ⟨_, h1, h2⟩, h⟩ := h
  refine xs_getf rfl fl_4_34 h1 h2 ?_
  refine xs_aload_n rfl rfl ?_
  obtain ⟨a7, ⟨_, h1, h2⟩, h⟩ := h
  refine xs_getf rfl fl_4_107 h1 h2 ?_
  refine xs_iload_n rfl rfl ?_
  obtain ⟨n8, f9, h1, h3, h2, h⟩ := h
  refine xs_iast rfl h1 h3 h2 ?_
  have h := h _ rfl
  generalize H5.set p6 (.inl (0, n8, .inl (upd f9 (a7.toNatClampNeg) (u0)))) = H10 at h ⊢
  refine xs_aload_n rfl rfl ?_
  obtain ⟨p11, ⟨_, h1, h2⟩, h⟩ := h
  refine xs_getf rfl fl_4_37 h1 h2 ?_
  refine xs_iload_n rfl rfl ?_
  refine xs_dup2 rfl rfl rfl ?_
  obtain ⟨n12, f13, h1, h2, h⟩ := h
  refine xs_iald rfl h1 h2 ?_
  refine xs_iconstV (v := 1) rfl rfl ?_
  refine xs_iadd rfl ?_
  obtain ⟨n14, f15, h1, h3, h2, h⟩ := h
  refine xs_iast rfl h1 h3 h2 ?_
  have h := h _ rfl
  generalize H10.set p11 (.inl (0, n14, .inl (upd f15 (u0.toNatClampNeg) (((f13 u0.toNatClampNeg) + 1))))) = H16 at h ⊢
  refine xs_aload_n rfl rfl ?_
  refine xs_dup rfl rfl ?_
  obtain ⟨a17, ⟨_, h1, h2⟩, h⟩ := h
  refine xs_getf rfl fl_4_99 h1 h2 ?_
  refine xs_iconstV (v := 1) rfl rfl ?_
  refine xs_iadd rfl ?_
  obtain ⟨c18, h1, h2, h⟩ := h
  refine xs_putf rfl fl_4_99 h1 (fun q hq => by cases hq; rfl) rfl h2 ?_
  have h := h _ rfl
  generalize H16.set r0 (.inr (4, c18.set 15 (.int (a17 + 1)))) = H19 at h ⊢
  exact xs_vret rfl rfl h.1 h.2.1 h.2.2

set_option maxRecDepth 20000 in
theorem b_PK_writeBlock_0 {l : Launch} {x : xX} {d mc ms n0 uc us : Nat} {Q : xO → xH → Prop} {cl : Bool} {r0 : Nat} {v1 : Int32} {H : xH}
    (h : ∃ p1, gR H r0 4 4 p1 ∧ (xW l x d mc ms mPK_writeBlock n0 Q cl 2 [some (.ref r0), some (.int v1), none, none] [.ref p1] H uc us)) :
    xW l x d mc ms mPK_writeBlock n0 Q cl 0 [some (.ref r0), some (.int v1), none, none] [] H uc us := by
  refine xs_aload_n rfl rfl ?_
  obtain ⟨p1, ⟨_, h1, h2⟩, h⟩ := h
  refine xs_getf rfl fl_4_67 h1 h2 ?_
  exact h

set_option maxRecDepth 20000 in
theorem b_PK_writeBlock_3 {l : Launch} {x : xX} {d mc ms n0 uc us : Nat} {Q : xO → xH → Prop} {cl : Bool} {r0 : Nat} {v1 : Int32} {u0 : Int32} {H : xH}
    (h : xW l x d mc ms mPK_writeBlock n0 Q cl 6 [some (.ref r0), some (.int v1), some (.int u0), none] [.int u0, .ref r0] H uc us) :
    xW l x d mc ms mPK_writeBlock n0 Q cl 3 [some (.ref r0), some (.int v1), none, none] [.int u0] H uc us := by
  refine xs_istore_n rfl (L' := [some (.ref r0), some (.int v1), some (.int u0), none]) rfl rfl ?_
  refine xs_aload_n rfl rfl ?_
  refine xs_iload_n rfl rfl ?_
  exact h

set_option maxRecDepth 20000 in
theorem b_PK_writeBlock_7 {l : Launch} {x : xX} {d mc ms n0 uc us : Nat} {Q : xO → xH → Prop} {cl : Bool} {r0 : Nat} {v1 : Int32} {v2 : Int32} {u0 : Int32} {H : xH}
    (h : ∃ p1, gR H r0 4 4 p1 ∧ ((v1 = 0 → xW l x d mc ms mPK_writeBlock n0 Q cl 16 [some (.ref r0), some (.int v1), some (.int v2), some (.int u0)] [.int 1, .int 0, .ref p1] H uc us) ∧ (¬ v1 = 0 → xW l x d mc ms mPK_writeBlock n0 Q cl 16 [some (.ref r0), some (.int v1), some (.int v2), some (.int u0)] [.int 1, .int 1, .ref p1] H uc us))) :
    xW l x d mc ms mPK_writeBlock n0 Q cl 7 [some (.ref r0), some (.int v1), some (.int v2), none] [.int u0] H uc us := by
  refine xs_istore_n rfl (L' := [some (.ref r0), some (.int v1), some (.int v2), some (.int u0)]) rfl rfl ?_
  refine xs_aload_n rfl rfl ?_
  obtain ⟨p1, ⟨_, h1, h2⟩, h⟩ := h
  refine xs_getf rfl fl_4_67 h1 h2 ?_
  refine xs_iload_n rfl rfl ?_
  refine xs_if_eq (k' := 14) rfl rfl (fun hb => ?_) (fun hb => ?_)
  · have h := h.1 hb
    refine xs_iconstV (v := 0) rfl rfl ?_
    refine xs_iconstV (v := 1) rfl rfl ?_
    exact h
  · have h := h.2 hb
    refine xs_iconstV (v := 1) rfl rfl ?_
    refine xs_goto (k' := 15) rfl rfl ?_
    refine xs_iconstV (v := 1) rfl rfl ?_
    exact h

set_option maxRecDepth 20000 in
theorem b_PK_writeBlock_17 {l : Launch} {x : xX} {d mc ms n0 uc us : Nat} {Q : xO → xH → Prop} {cl : Bool} {r0 : Nat} {v1 : Int32} {v2 : Int32} {v3 : Int32} {H : xH}
    (h : ∃ p1, gR H r0 4 4 p1 ∧ (xW l x d mc ms mPK_writeBlock n0 Q cl 21 [some (.ref r0), some (.int v1), some (.int v2), some (.int v3)] [.int 2, .int v3, .ref p1] H uc us)) :
    xW l x d mc ms mPK_writeBlock n0 Q cl 17 [some (.ref r0), some (.int v1), some (.int v2), some (.int v3)] [] H uc us := by
  refine xs_aload_n rfl rfl ?_
  obtain ⟨p1, ⟨_, h1, h2⟩, h⟩ := h
  refine xs_getf rfl fl_4_67 h1 h2 ?_
  refine xs_iload_n rfl rfl ?_
  refine xs_iconstV (v := 2) rfl rfl ?_
  exact h

set_option maxRecDepth 20000 in
theorem b_PK_writeBlock_22 {l : Launch} {x : xX} {d mc ms n0 uc us : Nat} {Q : xO → xH → Prop} {cl : Bool} {r0 : Nat} {v1 : Int32} {v2 : Int32} {v3 : Int32} {H : xH}
    (h : (¬ v3 = 0 → (¬ v3 = 1 → ∃ p1, gR H r0 4 7 p1 ∧ (∃ p2, gR H p1 3 0 p2 ∧ (xW l x d mc ms mPK_writeBlock n0 Q cl 40 [some (.ref r0), some (.int v1), some (.int v2), some (.int v3)] [.ref p2] H uc us))) ∧ (v3 = 1 → ∃ p3, gR H r0 4 5 p3 ∧ (∃ p4, gR H r0 4 6 p4 ∧ (xW l x d mc ms mPK_writeBlock n0 Q cl 35 [some (.ref r0), some (.int v1), some (.int v2), some (.int v3)] [.ref p4, .ref p3, .ref r0] H uc us)))) ∧ (v3 = 0 → xW l x d mc ms mPK_writeBlock n0 Q cl 25 [some (.ref r0), some (.int v1), some (.int v2), some (.int v3)] [.ref r0] H uc us)) :
    xW l x d mc ms mPK_writeBlock n0 Q cl 22 [some (.ref r0), some (.int v1), some (.int v2), some (.int v3)] [] H uc us := by
  refine xs_iload_n rfl rfl ?_
  refine xs_if_ne (k' := 27) rfl rfl (fun hb => ?_) (fun hb => ?_)
  · have h := h.1 hb
    refine xs_iload_n rfl rfl ?_
    refine xs_iconstV (v := 1) rfl rfl ?_
    refine xs_icmp_ne (k' := 37) rfl rfl (fun hb => ?_) (fun hb => ?_)
    · have h := h.1 hb
      refine xs_aload_n rfl rfl ?_
      obtain ⟨p1, ⟨_, h1, h2⟩, h⟩ := h
      refine xs_getf rfl fl_4_26 h1 h2 ?_
      obtain ⟨p2, ⟨_, h1, h2⟩, h⟩ := h
      refine xs_getf rfl fl_4_202 h1 h2 ?_
      exact h
    · have h := h.2 hb
      refine xs_aload_n rfl rfl ?_
      refine xs_aload_n rfl rfl ?_
      obtain ⟨p3, ⟨_, h1, h2⟩, h⟩ := h
      refine xs_getf rfl fl_4_14 h1 h2 ?_
      refine xs_aload_n rfl rfl ?_
      obtain ⟨p4, ⟨_, h1, h2⟩, h⟩ := h
      refine xs_getf rfl fl_4_20 h1 h2 ?_
      exact h
  · have h := h.2 hb
    refine xs_aload_n rfl rfl ?_
    exact h

set_option maxRecDepth 20000 in
theorem b_PK_writeBlock_26 {l : Launch} {x : xX} {d mc ms n0 uc us : Nat} {Q : xO → xH → Prop} {cl : Bool} {r0 : Nat} {v1 : Int32} {v2 : Int32} {v3 : Int32} {H : xH}
    (h : xW l x d mc ms mPK_writeBlock n0 Q cl 58 [some (.ref r0), some (.int v1), some (.int v2), some (.int v3)] [] H uc us) :
    xW l x d mc ms mPK_writeBlock n0 Q cl 26 [some (.ref r0), some (.int v1), some (.int v2), some (.int v3)] [] H uc us := by
  refine xs_goto (k' := 58) rfl rfl ?_
  exact h

set_option maxRecDepth 20000 in
theorem b_PK_writeBlock_36 {l : Launch} {x : xX} {d mc ms n0 uc us : Nat} {Q : xO → xH → Prop} {cl : Bool} {r0 : Nat} {v1 : Int32} {v2 : Int32} {v3 : Int32} {H : xH}
    (h : xW l x d mc ms mPK_writeBlock n0 Q cl 58 [some (.ref r0), some (.int v1), some (.int v2), some (.int v3)] [] H uc us) :
    xW l x d mc ms mPK_writeBlock n0 Q cl 36 [some (.ref r0), some (.int v1), some (.int v2), some (.int v3)] [] H uc us := by
  refine xs_goto (k' := 58) rfl rfl ?_
  exact h

set_option maxRecDepth 20000 in
theorem b_PK_writeBlock_41 {l : Launch} {x : xX} {d mc ms n0 uc us : Nat} {Q : xO → xH → Prop} {cl : Bool} {r0 : Nat} {v1 : Int32} {v2 : Int32} {v3 : Int32} {H : xH}
    (h : ∃ p1, gR H r0 4 7 p1 ∧ (∃ p2, gR H p1 3 1 p2 ∧ (xW l x d mc ms mPK_writeBlock n0 Q cl 44 [some (.ref r0), some (.int v1), some (.int v2), some (.int v3)] [.ref p2] H uc us))) :
    xW l x d mc ms mPK_writeBlock n0 Q cl 41 [some (.ref r0), some (.int v1), some (.int v2), some (.int v3)] [] H uc us := by
  refine xs_aload_n rfl rfl ?_
  obtain ⟨p1, ⟨_, h1, h2⟩, h⟩ := h
  refine xs_getf rfl fl_4_26 h1 h2 ?_
  obtain ⟨p2, ⟨_, h1, h2⟩, h⟩ := h
  refine xs_getf rfl fl_4_205 h1 h2 ?_
  exact h

set_option maxRecDepth 20000 in
theorem b_PK_writeBlock_45 {l : Launch} {x : xX} {d mc ms n0 uc us : Nat} {Q : xO → xH → Prop} {cl : Bool} {r0 : Nat} {v1 : Int32} {v2 : Int32} {v3 : Int32} {H : xH}
    (h : ∃ p1, gR H r0 4 7 p1 ∧ (∃ p2, gR H r0 4 4 p2 ∧ (xW l x d mc ms mPK_writeBlock n0 Q cl 49 [some (.ref r0), some (.int v1), some (.int v2), some (.int v3)] [.ref p2, .ref p1] H uc us))) :
    xW l x d mc ms mPK_writeBlock n0 Q cl 45 [some (.ref r0), some (.int v1), some (.int v2), some (.int v3)] [] H uc us := by
  refine xs_aload_n rfl rfl ?_
  obtain ⟨p1, ⟨_, h1, h2⟩, h⟩ := h
  refine xs_getf rfl fl_4_26 h1 h2 ?_
  refine xs_aload_n rfl rfl ?_
  obtain ⟨p2, ⟨_, h1, h2⟩, h⟩ := h
  refine xs_getf rfl fl_4_67 h1 h2 ?_
  exact h

set_option maxRecDepth 20000 in
theorem b_PK_writeBlock_50 {l : Launch} {x : xX} {d mc ms n0 uc us : Nat} {Q : xO → xH → Prop} {cl : Bool} {r0 : Nat} {v1 : Int32} {v2 : Int32} {v3 : Int32} {H : xH}
    (h : ∃ p1, gR H r0 4 7 p1 ∧ (∃ p2, gR H p1 3 0 p2 ∧ (∃ p3, gR H r0 4 7 p3 ∧ (∃ p4, gR H p3 3 1 p4 ∧ (xW l x d mc ms mPK_writeBlock n0 Q cl 57 [some (.ref r0), some (.int v1), some (.int v2), some (.int v3)] [.ref p4, .ref p2, .ref r0] H uc us))))) :
    xW l x d mc ms mPK_writeBlock n0 Q cl 50 [some (.ref r0), some (.int v1), some (.int v2), some (.int v3)] [] H uc us := by
  refine xs_aload_n rfl rfl ?_
  refine xs_aload_n rfl rfl ?_
  obtain ⟨p1, ⟨_, h1, h2⟩, h⟩ := h
  refine xs_getf rfl fl_4_26 h1 h2 ?_
  obtain ⟨p2, ⟨_, h1, h2⟩, h⟩ := h
  refine xs_getf rfl fl_4_202 h1 h2 ?_
  refine xs_aload_n rfl rfl ?_
  obtain ⟨p3, ⟨_, h1, h2⟩, h⟩ := h
  refine xs_getf rfl fl_4_26 h1 h2 ?_
  obtain ⟨p4, ⟨_, h1, h2⟩, h⟩ := h
  refine xs_getf rfl fl_4_205 h1 h2 ?_
  exact h

set_option maxRecDepth 20000 in
theorem b_PK_writeBlock_58 {l : Launch} {x : xX} {d mc ms n0 uc us : Nat} {Q : xO → xH → Prop} {cl : Bool} {r0 : Nat} {v1 : Int32} {v2 : Int32} {v3 : Int32} {H : xH}
    (h : ∃ p1, gR H r0 4 1 p1 ∧ (∃ p2, gR H r0 4 4 p2 ∧ (xW l x d mc ms mPK_writeBlock n0 Q cl 64 [some (.ref r0), some (.int v1), some (.int v2), some (.int v3)] [.ref p2, .int v2, .int v3, .ref p1] H uc us))) :
    xW l x d mc ms mPK_writeBlock n0 Q cl 58 [some (.ref r0), some (.int v1), some (.int v2), some (.int v3)] [] H uc us := by
  refine xs_aload_n rfl rfl ?_
  obtain ⟨p1, ⟨_, h1, h2⟩, h⟩ := h
  refine xs_getf rfl fl_4_47 h1 h2 ?_
  refine xs_iload_n rfl rfl ?_
  refine xs_iload_n rfl rfl ?_
  refine xs_aload_n rfl rfl ?_
  obtain ⟨p2, ⟨_, h1, h2⟩, h⟩ := h
  refine xs_getf rfl fl_4_67 h1 h2 ?_
  exact h

set_option maxRecDepth 20000 in
theorem b_PK_writeBlock_65 {l : Launch} {x : xX} {d mc ms n0 uc us : Nat} {Q : xO → xH → Prop} {cl : Bool} {r0 : Nat} {v1 : Int32} {v2 : Int32} {v3 : Int32} {q0 : Nat} {u1 : Int32} {u2 : Int32} {u3 : Int32} {H : xH}
    (h : ∃ a1, gI H r0 4 15 a1 ∧ (∃ a2, gI H r0 4 14 a2 ∧ (xW l x d mc ms mPK_writeBlock n0 Q cl 72 [some (.ref r0), some (.int v1), some (.int v2), some (.int v3)] [.int (a1 - a2), .int (u3 - v2), .int u2, .int u1, .ref q0] H uc us))) :
    xW l x d mc ms mPK_writeBlock n0 Q cl 65 [some (.ref r0), some (.int v1), some (.int v2), some (.int v3)] [.int u3, .int u2, .int u1, .ref q0] H uc us := by
  refine xs_iload_n rfl rfl ?_
  refine xs_isub rfl ?_
  refine xs_aload_n rfl rfl ?_
  obtain ⟨a1, ⟨_, h1, h2⟩, h⟩ := h
  refine xs_getf rfl fl_4_99 h1 h2 ?_
  refine xs_aload_n rfl rfl ?_
  obtain ⟨a2, ⟨_, h1, h2⟩, h⟩ := h
  refine xs_getf rfl fl_4_146 h1 h2 ?_
  refine xs_isub rfl ?_
  exact h

set_option maxRecDepth 20000 in
theorem b_PK_writeBlock_73 {l : Launch} {x : xX} {d mc ms n0 uc us : Nat} {Q : xO → xH → Prop} {cl : Bool} {r0 : Nat} {v1 : Int32} {v2 : Int32} {v3 : Int32} {H : xH}
    (h : uc = mc ∧ us ≤ ms ∧ Q (.inl none) H) :
    xW l x d mc ms mPK_writeBlock n0 Q cl 73 [some (.ref r0), some (.int v1), some (.int v2), some (.int v3)] [] H uc us := by
  exact xs_vret rfl rfl h.1 h.2.1 h.2.2

set_option maxRecDepth 20000 in
theorem b_PK_fewestBits_0 {l : Launch} {x : xX} {d mc ms n0 uc us : Nat} {Q : xO → xH → Prop} {cl : Bool} {r0 : Nat} {v1 : Int32} {H : xH}
    (h : ∃ a1, gI H r0 4 15 a1 ∧ (∃ a2, gI H r0 4 14 a2 ∧ (∃ a3, gI H r0 4 13 a3 ∧ (∃ p4, gR H r0 4 5 p4 ∧ (∃ p5, gR H r0 4 10 p5 ∧ (xW l x d mc ms mPK_fewestBits n0 Q cl 29 [some (.ref r0), some (.int v1), some (.int 0), some (.int ((((3 : Int32) + ((-(v1 + 3)) &&& 7)) + 32) + ((8 : Int32) * (a1 - a2)))), none, none] [.ref p5, .ref p4, .int ((3 : Int32) + a3)] H uc us)))))) :
    xW l x d mc ms mPK_fewestBits n0 Q cl 0 [some (.ref r0), some (.int v1), none, none, none, none] [] H uc us := by
  refine xs_iconstV (v := 0) rfl rfl ?_
  refine xs_istore_n rfl (L' := [some (.ref r0), some (.int v1), some (.int 0), none, none, none]) rfl rfl ?_
  refine xs_iconstV (v := 3) rfl rfl ?_
  refine xs_iload_n rfl rfl ?_
  refine xs_iconstV (v := 3) rfl rfl ?_
  refine xs_iadd rfl ?_
  refine xs_ineg rfl ?_
  refine xs_bipushV (v := 7) rfl rfl ?_
  refine xs_iand rfl ?_
  refine xs_iadd rfl ?_
  refine xs_bipushV (v := 32) rfl rfl ?_
  refine xs_iadd rfl ?_
  refine xs_bipushV (v := 8) rfl rfl ?_
  refine xs_aload_n rfl rfl ?_
  obtain ⟨a1, ⟨_, h1, h2⟩, h⟩ := h
  refine xs_getf rfl fl_4_99 h1 h2 ?_
  refine xs_aload_n rfl rfl ?_
  obtain ⟨a2, ⟨_, h1, h2⟩, h⟩ := h
  refine xs_getf rfl fl_4_146 h1 h2 ?_
  refine xs_isub rfl ?_
  refine xs_imul rfl ?_
  refine xs_iadd rfl ?_
  refine xs_istore_n rfl (L' := [some (.ref r0), some (.int v1), some (.int 0), some (.int ((((3 : Int32) + ((-(v1 + 3)) &&& 7)) + 32) + ((8 : Int32) * (a1 - a2)))), none, none]) rfl rfl ?_
  refine xs_iconstV (v := 3) rfl rfl ?_
  refine xs_aload_n rfl rfl ?_
  obtain ⟨a3, ⟨_, h1, h2⟩, h⟩ := h
  refine xs_getf rfl fl_4_149 h1 h2 ?_
  refine xs_iadd rfl ?_
  refine xs_aload_n rfl rfl ?_
  obtain ⟨p4, ⟨_, h1, h2⟩, h⟩ := h
  refine xs_getf rfl fl_4_14 h1 h2 ?_
  refine xs_aload_n rfl rfl ?_
  obtain ⟨p5, ⟨_, h1, h2⟩, h⟩ := h
  refine xs_getf rfl fl_4_37 h1 h2 ?_
  exact h

set_option maxRecDepth 20000 in
theorem b_PK_fewestBits_30 {l : Launch} {x : xX} {d mc ms n0 uc us : Nat} {Q : xO → xH → Prop} {cl : Bool} {r0 : Nat} {v1 : Int32} {v2 : Int32} {v3 : Int32} {u0 : Int32} {u1 : Int32} {H : xH}
    (h : ∃ p1, gR H r0 4 6 p1 ∧ (∃ p2, gR H r0 4 11 p2 ∧ (xW l x d mc ms mPK_fewestBits n0 Q cl 35 [some (.ref r0), some (.int v1), some (.int v2), some (.int v3), none, none] [.ref p2, .ref p1, .int (u0 + u1)] H uc us))) :
    xW l x d mc ms mPK_fewestBits n0 Q cl 30 [some (.ref r0), some (.int v1), some (.int v2), some (.int v3), none, none] [.int u1, .int u0] H uc us := by
  refine xs_iadd rfl ?_
  refine xs_aload_n rfl rfl ?_
  obtain ⟨p1, ⟨_, h1, h2⟩, h⟩ := h
  refine xs_getf rfl fl_4_20 h1 h2 ?_
  refine xs_aload_n rfl rfl ?_
  obtain ⟨p2, ⟨_, h1, h2⟩, h⟩ := h
  refine xs_getf rfl fl_4_40 h1 h2 ?_
  exact h

set_option maxRecDepth 20000 in
theorem b_PK_fewestBits_36 {l : Launch} {x : xX} {d mc ms n0 uc us : Nat} {Q : xO → xH → Prop} {cl : Bool} {r0 : Nat} {v1 : Int32} {v2 : Int32} {v3 : Int32} {u0 : Int32} {u1 : Int32} {H : xH}
    (h : (v3 ≤ (u0 + u1) → ∃ a1, gI H r0 4 12 a1 ∧ ((a1 ≤ 0 → uc = mc ∧ us ≤ ms ∧ Q (.inl (some (.int v2))) H) ∧ (¬ a1 ≤ 0 → ∃ a2, gI H r0 4 13 a2 ∧ (∃ p3, gR H r0 4 7 p3 ∧ (xW l x d mc ms mPK_fewestBits n0 Q cl 54 [some (.ref r0), some (.int v1), some (.int v2), some (.int v3), some (.int (u0 + u1)), none] [.ref p3, .int ((3 : Int32) + a2)] H uc us))))) ∧ (¬ v3 ≤ (u0 + u1) → ∃ a4, gI H r0 4 12 a4 ∧ ((a4 ≤ 0 → uc = mc ∧ us ≤ ms ∧ Q (.inl (some (.int 1))) H) ∧ (¬ a4 ≤ 0 → ∃ a5, gI H r0 4 13 a5 ∧ (∃ p6, gR H r0 4 7 p6 ∧ (xW l x d mc ms mPK_fewestBits n0 Q cl 54 [some (.ref r0), some (.int v1), some (.int 1), some (.int (u0 + u1)), some (.int (u0 + u1)), none] [.ref p6, .int ((3 : Int32) + a5)] H uc us)))))) :
    xW l x d mc ms mPK_fewestBits n0 Q cl 36 [some (.ref r0), some (.int v1), some (.int v2), some (.int v3), none, none] [.int u1, .int u0] H uc us := by
  refine xs_iadd rfl ?_
  refine xs_istore rfl (L' := [some (.ref r0), some (.int v1), some (.int v2), some (.int v3), some (.int (u0 + u1)), none]) rfl rfl ?_
  refine xs_iload rfl rfl ?_
  refine xs_iload_n rfl rfl ?_
  refine xs_icmp_ge (k' := 45) rfl rfl (fun hb => ?_) (fun hb => ?_)
  · have h := h.1 hb
    refine xs_aload_n rfl rfl ?_
    obtain ⟨a1, ⟨_, h1, h2⟩, h⟩ := h
    refine xs_getf rfl fl_4_107 h1 h2 ?_
    refine xs_if_le (k' := 76) rfl rfl (fun hb => ?_) (fun hb => ?_)
    · have h := h.1 hb
      refine xs_iload_n rfl rfl ?_
      exact xs_iret rfl rfl h.1 h.2.1 h.2.2
    · have h := h.2 hb
      refine xs_iconstV (v := 3) rfl rfl ?_
      refine xs_aload_n rfl rfl ?_
      obtain ⟨a2, ⟨_, h1, h2⟩, h⟩ := h
      refine xs_getf rfl fl_4_149 h1 h2 ?_
      refine xs_iadd rfl ?_
      refine xs_aload_n rfl rfl ?_
      obtain ⟨p3, ⟨_, h1, h2⟩, h⟩ := h
      refine xs_getf rfl fl_4_26 h1 h2 ?_
      exact h
  · have h := h.2 hb
    refine xs_iconstV (v := 1) rfl rfl ?_
    refine xs_istore_n rfl (L' := [some (.ref r0), some (.int v1), some (.int 1), some (.int v3), some (.int (u0 + u1)), none]) rfl rfl ?_
    refine xs_iload rfl rfl ?_
    refine xs_istore_n rfl (L' := [some (.ref r0), some (.int v1), some (.int 1), some (.int (u0 + u1)), some (.int (u0 + u1)), none]) rfl rfl ?_
    refine xs_aload_n rfl rfl ?_
    obtain ⟨a4, ⟨_, h1, h2⟩, h⟩ := h
    refine xs_getf rfl fl_4_107 h1 h2 ?_
    refine xs_if_le (k' := 76) rfl rfl (fun hb => ?_) (fun hb => ?_)
    · have h := h.1 hb
      refine xs_iload_n rfl rfl ?_
      exact xs_iret rfl rfl h.1 h.2.1 h.2.2
    · have h := h.2 hb
      refine xs_iconstV (v := 3) rfl rfl ?_
      refine xs_aload_n rfl rfl ?_
      obtain ⟨a5, ⟨_, h1, h2⟩, h⟩ := h
      refine xs_getf rfl fl_4_149 h1 h2 ?_
      refine xs_iadd rfl ?_
      refine xs_aload_n rfl rfl ?_
      obtain ⟨p6, ⟨_, h1, h2⟩, h⟩ := h
      refine xs_getf rfl fl_4_26 h1 h2 ?_
      exact h

set_option maxRecDepth 20000 in
theorem b_PK_fewestBits_55 {l : Launch} {x : xX} {d mc ms n0 uc us : Nat} {Q : xO → xH → Prop} {cl : Bool} {r0 : Nat} {v1 : Int32} {v2 : Int32} {v3 : Int32} {v4 : Int32} {u0 : Int32} {u1 : Int32} {H : xH}
    (h : ∃ p1, gR H r0 4 7 p1 ∧ (∃ p2, gR H p1 3 0 p2 ∧ (∃ p3, gR H r0 4 10 p3 ∧ (xW l x d mc ms mPK_fewestBits n0 Q cl 61 [some (.ref r0), some (.int v1), some (.int v2), some (.int v3), some (.int v4), none] [.ref p3, .ref p2, .int (u0 + u1)] H uc us)))) :
    xW l x d mc ms mPK_fewestBits n0 Q cl 55 [some (.ref r0), some (.int v1), some (.int v2), some (.int v3), some (.int v4), none] [.int u1, .int u0] H uc us := by
  refine xs_iadd rfl ?_
  refine xs_aload_n rfl rfl ?_
  obtain ⟨p1, ⟨_, h1, h2⟩, h⟩ := h
  refine xs_getf rfl fl_4_26 h1 h2 ?_
  obtain ⟨p2, ⟨_, h1, h2⟩, h⟩ := h
  refine xs_getf rfl fl_4_202 h1 h2 ?_
  refine xs_aload_n rfl rfl ?_
  obtain ⟨p3, ⟨_, h1, h2⟩, h⟩ := h
  refine xs_getf rfl fl_4_37 h1 h2 ?_
  exact h

set_option maxRecDepth 20000 in
theorem b_PK_fewestBits_62 {l : Launch} {x : xX} {d mc ms n0 uc us : Nat} {Q : xO → xH → Prop} {cl : Bool} {r0 : Nat} {v1 : Int32} {v2 : Int32} {v3 : Int32} {v4 : Int32} {u0 : Int32} {u1 : Int32} {H : xH}
    (h : ∃ p1, gR H r0 4 7 p1 ∧ (∃ p2, gR H p1 3 1 p2 ∧ (∃ p3, gR H r0 4 11 p3 ∧ (xW l x d mc ms mPK_fewestBits n0 Q cl 68 [some (.ref r0), some (.int v1), some (.int v2), some (.int v3), some (.int v4), none] [.ref p3, .ref p2, .int (u0 + u1)] H uc us)))) :
    xW l x d mc ms mPK_fewestBits n0 Q cl 62 [some (.ref r0), some (.int v1), some (.int v2), some (.int v3), some (.int v4), none] [.int u1, .int u0] H uc us := by
  refine xs_iadd rfl ?_
  refine xs_aload_n rfl rfl ?_
  obtain ⟨p1, ⟨_, h1, h2⟩, h⟩ := h
  refine xs_getf rfl fl_4_26 h1 h2 ?_
  obtain ⟨p2, ⟨_, h1, h2⟩, h⟩ := h
  refine xs_getf rfl fl_4_205 h1 h2 ?_
  refine xs_aload_n rfl rfl ?_
  obtain ⟨p3, ⟨_, h1, h2⟩, h⟩ := h
  refine xs_getf rfl fl_4_40 h1 h2 ?_
  exact h

set_option maxRecDepth 20000 in
theorem b_PK_fewestBits_69 {l : Launch} {x : xX} {d mc ms n0 uc us : Nat} {Q : xO → xH → Prop} {cl : Bool} {r0 : Nat} {v1 : Int32} {v2 : Int32} {v3 : Int32} {v4 : Int32} {u0 : Int32} {u1 : Int32} {H : xH}
    (h : (v3 ≤ (u0 + u1) → uc = mc ∧ us ≤ ms ∧ Q (.inl (some (.int v2))) H) ∧ (¬ v3 ≤ (u0 + u1) → uc = mc ∧ us ≤ ms ∧ Q (.inl (some (.int 2))) H)) :
    xW l x d mc ms mPK_fewestBits n0 Q cl 69 [some (.ref r0), some (.int v1), some (.int v2), some (.int v3), some (.int v4), none] [.int u1, .int u0] H uc us := by
  refine xs_iadd rfl ?_
  refine xs_istore rfl (L' := [some (.ref r0), some (.int v1), some (.int v2), some (.int v3), some (.int v4), some (.int (u0 + u1))]) rfl rfl ?_
  refine xs_iload rfl rfl ?_
  refine xs_iload_n rfl rfl ?_
  refine xs_icmp_ge (k' := 76) rfl rfl (fun hb => ?_) (fun hb => ?_)
  · have h := h.1 hb
    refine xs_iload_n rfl rfl ?_
    exact xs_iret rfl rfl h.1 h.2.1 h.2.2
  · have h := h.2 hb
    refine xs_iconstV (v := 2) rfl rfl ?_
    refine xs_istore_n rfl (L' := [some (.ref r0), some (.int v1), some (.int 2), some (.int v3), some (.int v4), some (.int (u0 + u1))]) rfl rfl ?_
    refine xs_iload_n rfl rfl ?_
    exact xs_iret rfl rfl h.1 h.2.1 h.2.2

set_option maxRecDepth 20000 in
theorem b_PK_writePlain_0 {l : Launch} {x : xX} {d mc ms n0 uc us : Nat} {Q : xO → xH → Prop} {cl : Bool} {r0 : Nat} {H : xH}
    (h : ∃ a1, gI H r0 4 15 a1 ∧ (∃ a2, gI H r0 4 14 a2 ∧ (∃ p3, gR H r0 4 4 p3 ∧ (xW l x d mc ms mPK_writePlain n0 Q cl 8 [some (.ref r0), some (.int (a1 - a2)), none] [.ref p3] H uc us)))) :
    xW l x d mc ms mPK_writePlain n0 Q cl 0 [some (.ref r0), none, none] [] H uc us := by
  refine xs_aload_n rfl rfl ?_
  obtain ⟨a1, ⟨_, h1, h2⟩, h⟩ := h
  refine xs_getf rfl fl_4_99 h1 h2 ?_
  refine xs_aload_n rfl rfl ?_
  obtain ⟨a2, ⟨_, h1, h2⟩, h⟩ := h
  refine xs_getf rfl fl_4_146 h1 h2 ?_
  refine xs_isub rfl ?_
  refine xs_istore_n rfl (L' := [some (.ref r0), some (.int (a1 - a2)), none]) rfl rfl ?_
  refine xs_aload_n rfl rfl ?_
  obtain ⟨p3, ⟨_, h1, h2⟩, h⟩ := h
  refine xs_getf rfl fl_4_67 h1 h2 ?_
  exact h

set_option maxRecDepth 20000 in
theorem b_PK_writePlain_9 {l : Launch} {x : xX} {d mc ms n0 uc us : Nat} {Q : xO → xH → Prop} {cl : Bool} {r0 : Nat} {v1 : Int32} {H : xH}
    (h : ∃ p1, gR H r0 4 4 p1 ∧ (xW l x d mc ms mPK_writePlain n0 Q cl 13 [some (.ref r0), some (.int v1), none] [.int 16, .int v1, .ref p1] H uc us)) :
    xW l x d mc ms mPK_writePlain n0 Q cl 9 [some (.ref r0), some (.int v1), none] [] H uc us := by
  refine xs_aload_n rfl rfl ?_
  obtain ⟨p1, ⟨_, h1, h2⟩, h⟩ := h
  refine xs_getf rfl fl_4_67 h1 h2 ?_
  refine xs_iload_n rfl rfl ?_
  refine xs_bipushV (v := 16) rfl rfl ?_
  exact h

set_option maxRecDepth 20000 in
theorem b_PK_writePlain_14 {l : Launch} {x : xX} {d mc ms n0 uc us : Nat} {Q : xO → xH → Prop} {cl : Bool} {r0 : Nat} {v1 : Int32} {H : xH}
    (h : ∃ p1, gR H r0 4 4 p1 ∧ (xW l x d mc ms mPK_writePlain n0 Q cl 20 [some (.ref r0), some (.int v1), none] [.int 16, .int ((65535 : Int32) - v1), .ref p1] H uc us)) :
    xW l x d mc ms mPK_writePlain n0 Q cl 14 [some (.ref r0), some (.int v1), none] [] H uc us := by
  refine xs_aload_n rfl rfl ?_
  obtain ⟨p1, ⟨_, h1, h2⟩, h⟩ := h
  refine xs_getf rfl fl_4_67 h1 h2 ?_
  refine xs_ldc rfl kc_4_223 ?_
  refine xs_iload_n rfl rfl ?_
  refine xs_isub rfl ?_
  refine xs_bipushV (v := 16) rfl rfl ?_
  exact h

set_option maxRecDepth 20000 in
theorem b_PK_writePlain_21 {l : Launch} {x : xX} {d mc ms n0 uc us : Nat} {Q : xO → xH → Prop} {cl : Bool} {r0 : Nat} {v1 : Int32} {H : xH}
    (h : ∃ a1, gI H r0 4 14 a1 ∧ (xW l x d mc ms mPK_writePlain n0 Q cl 24 [some (.ref r0), some (.int v1), some (.int a1)] [] H uc us)) :
    xW l x d mc ms mPK_writePlain n0 Q cl 21 [some (.ref r0), some (.int v1), none] [] H uc us := by
  refine xs_aload_n rfl rfl ?_
  obtain ⟨a1, ⟨_, h1, h2⟩, h⟩ := h
  refine xs_getf rfl fl_4_146 h1 h2 ?_
  refine xs_istore_n rfl (L' := [some (.ref r0), some (.int v1), some (.int a1)]) rfl rfl ?_
  exact h

set_option maxRecDepth 20000 in
theorem b_PK_writePlain_24 {l : Launch} {x : xX} {d mc ms n0 uc us : Nat} {Q : xO → xH → Prop} {cl : Bool} {r0 : Nat} {v1 : Int32} {v2 : Int32} {H : xH}
    (h : ∃ a1, gI H r0 4 15 a1 ∧ ((a1 ≤ v2 → uc = mc ∧ us ≤ ms ∧ Q (.inl none) H) ∧ (¬ a1 ≤ v2 → ∃ p2, gR H r0 4 4 p2 ∧ (∃ p3, gR H r0 4 0 p3 ∧ (xW l x d mc ms mPK_writePlain n0 Q cl 33 [some (.ref r0), some (.int v1), some (.int v2)] [.int v2, .ref p3, .ref p2] H uc us))))) :
    xW l x d mc ms mPK_writePlain n0 Q cl 24 [some (.ref r0), some (.int v1), some (.int v2)] [] H uc us := by
  refine xs_iload_n rfl rfl ?_
  refine xs_aload_n rfl rfl ?_
  obtain ⟨a1, ⟨_, h1, h2⟩, h⟩ := h
  refine xs_getf rfl fl_4_99 h1 h2 ?_
  refine xs_icmp_ge (k' := 38) rfl rfl (fun hb => ?_) (fun hb => ?_)
  · have h := h.1 hb
    exact xs_vret rfl rfl h.1 h.2.1 h.2.2
  · have h := h.2 hb
    refine xs_aload_n rfl rfl ?_
    obtain ⟨p2, ⟨_, h1, h2⟩, h⟩ := h
    refine xs_getf rfl fl_4_67 h1 h2 ?_
    refine xs_aload_n rfl rfl ?_
    obtain ⟨p3, ⟨_, h1, h2⟩, h⟩ := h
    refine xs_getf rfl fl_4_43 h1 h2 ?_
    refine xs_iload_n rfl rfl ?_
    exact h

set_option maxRecDepth 20000 in
theorem b_PK_writePlain_34 {l : Launch} {x : xX} {d mc ms n0 uc us : Nat} {Q : xO → xH → Prop} {cl : Bool} {r0 : Nat} {v1 : Int32} {v2 : Int32} {q0 : Nat} {u1 : Int32} {H : xH}
    (h : xW l x d mc ms mPK_writePlain n0 Q cl 35 [some (.ref r0), some (.int v1), some (.int v2)] [.int 8, .int u1, .ref q0] H uc us) :
    xW l x d mc ms mPK_writePlain n0 Q cl 34 [some (.ref r0), some (.int v1), some (.int v2)] [.int u1, .ref q0] H uc us := by
  refine xs_bipushV (v := 8) rfl rfl ?_
  exact h

set_option maxRecDepth 20000 in
theorem b_PK_writePlain_36 {l : Launch} {x : xX} {d mc ms n0 uc us : Nat} {Q : xO → xH → Prop} {cl : Bool} {r0 : Nat} {v1 : Int32} {v2 : Int32} {H : xH}
    (h : xW l x d mc ms mPK_writePlain n0 Q cl 24 [some (.ref r0), some (.int v1), some (.int (v2 + 1))] [] H uc us) :
    xW l x d mc ms mPK_writePlain n0 Q cl 36 [some (.ref r0), some (.int v1), some (.int v2)] [] H uc us := by
  refine xs_iincV rfl (w := 1) rfl rfl (L' := [some (.ref r0), some (.int v1), some (.int (v2 + 1))]) rfl rfl ?_
  refine xs_goto (k' := 24) rfl rfl ?_
  exact h

set_option maxRecDepth 20000 in
theorem b_PK_writePieces_0 {l : Launch} {x : xX} {d mc ms n0 uc us : Nat} {Q : xO → xH → Prop} {cl : Bool} {r0 : Nat} {r1 : Nat} {r2 : Nat} {H : xH}
    (h : xW l x d mc ms mPK_writePieces n0 Q cl 2 [some (.ref r0), some (.ref r1), some (.ref r2), some (.int 0), none, none, none, none] [] H uc us) :
    xW l x d mc ms mPK_writePieces n0 Q cl 0 [some (.ref r0), some (.ref r1), some (.ref r2), none, none, none, none, none] [] H uc us := by
  refine xs_iconstV (v := 0) rfl rfl ?_
  refine xs_istore_n rfl (L' := [some (.ref r0), some (.ref r1), some (.ref r2), some (.int 0), none, none, none, none]) rfl rfl ?_
  exact h

set_option maxRecDepth 20000 in
theorem b_PK_writePieces_2 {l : Launch} {x : xX} {d mc ms n0 uc us : Nat} {Q : xO → xH → Prop} {cl : Bool} {r0 : Nat} {r1 : Nat} {r2 : Nat} {v3 : Int32} {H : xH}
    (h : ∃ a1, gI H r0 4 12 a1 ∧ ((a1 ≤ v3 → ∃ p2, gR H r0 4 4 p2 ∧ (xW l x d mc ms mPK_writePieces n0 Q cl 66 [some (.ref r0), some (.ref r1), some (.ref r2), some (.int v3), none, none, none, none] [.int 256, .ref r1, .ref p2] H uc us)) ∧ (¬ a1 ≤ v3 → ∃ p3, gR H r0 4 8 p3 ∧ (∃ n4 f5, H[(p3 : Nat)]? = some (.inl (0, n4, .inl f5)) ∧ vp_in v3 n4 ∧ (∃ p6, gR H r0 4 9 p6 ∧ (∃ n7 f8, H[(p6 : Nat)]? = some (.inl (0, n7, .inl f8)) ∧ vp_in v3 n7 ∧ ((¬ (f5 v3.toNatClampNeg) = 0 → xW l x d mc ms mPK_writePieces n0 Q cl 25 [some (.ref r0), some (.ref r1), some (.ref r2), some (.int v3), some (.int (f5 v3.toNatClampNeg)), some (.int (f8 v3.toNatClampNeg)), none, none] [.int (f5 v3.toNatClampNeg)] H uc us) ∧ ((f5 v3.toNatClampNeg) = 0 → ∃ p9, gR H r0 4 4 p9 ∧ (xW l x d mc ms mPK_writePieces n0 Q cl 22 [some (.ref r0), some (.ref r1), some (.ref r2), some (.int v3), some (.int (f5 v3.toNatClampNeg)), some (.int (f8 v3.toNatClampNeg)), none, none] [.int (f8 v3.toNatClampNeg), .ref r1, .ref p9] H uc us))))))))) :
    xW l x d mc ms mPK_writePieces n0 Q cl 2 [some (.ref r0), some (.ref r1), some (.ref r2), some (.int v3), none, none, none, none] [] H uc us := by
  refine xs_iload_n rfl rfl ?_
  refine xs_aload_n rfl rfl ?_
  obtain ⟨a1, ⟨_, h1, h2⟩, h⟩ := h
  refine xs_getf rfl fl_4_107 h1 h2 ?_
  refine xs_icmp_ge (k' := 62) rfl rfl (fun hb => ?_) (fun hb => ?_)
  · have h := h.1 hb
    refine xs_aload_n rfl rfl ?_
    obtain ⟨p2, ⟨_, h1, h2⟩, h⟩ := h
    refine xs_getf rfl fl_4_67 h1 h2 ?_
    refine xs_aload_n rfl rfl ?_
    refine xs_sipushV (v := 256) rfl rfl ?_
    exact h
  · have h := h.2 hb
    refine xs_aload_n rfl rfl ?_
    obtain ⟨p3, ⟨_, h1, h2⟩, h⟩ := h
    refine xs_getf rfl fl_4_30 h1 h2 ?_
    refine xs_iload_n rfl rfl ?_
    obtain ⟨n4, f5, h1, h2, h⟩ := h
    refine xs_iald rfl h1 h2 ?_
    refine xs_istore rfl (L' := [some (.ref r0), some (.ref r1), some (.ref r2), some (.int v3), some (.int (f5 v3.toNatClampNeg)), none, none, none]) rfl rfl ?_
    refine xs_aload_n rfl rfl ?_
    obtain ⟨p6, ⟨_, h1, h2⟩, h⟩ := h
    refine xs_getf rfl fl_4_34 h1 h2 ?_
    refine xs_iload_n rfl rfl ?_
    obtain ⟨n7, f8, h1, h2, h⟩ := h
    refine xs_iald rfl h1 h2 ?_
    refine xs_istore rfl (L' := [some (.ref r0), some (.ref r1), some (.ref r2), some (.int v3), some (.int (f5 v3.toNatClampNeg)), some (.int (f8 v3.toNatClampNeg)), none, none]) rfl rfl ?_
    refine xs_iload rfl rfl ?_
    refine xs_if_ne (k' := 24) rfl rfl (fun hb => ?_) (fun hb => ?_)
    · have h := h.1 hb
      refine xs_iload rfl rfl ?_
      exact h
    · have h := h.2 hb
      refine xs_aload_n rfl rfl ?_
      obtain ⟨p9, ⟨_, h1, h2⟩, h⟩ := h
      refine xs_getf rfl fl_4_67 h1 h2 ?_
      refine xs_aload_n rfl rfl ?_
      refine xs_iload rfl rfl ?_
      exact h

set_option maxRecDepth 20000 in
theorem b_PK_writePieces_23 {l : Launch} {x : xX} {d mc ms n0 uc us : Nat} {Q : xO → xH → Prop} {cl : Bool} {r0 : Nat} {r1 : Nat} {r2 : Nat} {v3 : Int32} {v4 : Int32} {v5 : Int32} {H : xH}
    (h : xW l x d mc ms mPK_writePieces n0 Q cl 60 [some (.ref r0), some (.ref r1), some (.ref r2), some (.int v3), some (.int v4), some (.int v5), none, none] [] H uc us) :
    xW l x d mc ms mPK_writePieces n0 Q cl 23 [some (.ref r0), some (.ref r1), some (.ref r2), some (.int v3), some (.int v4), some (.int v5), none, none] [] H uc us := by
  refine xs_goto (k' := 60) rfl rfl ?_
  exact h

set_option maxRecDepth 20000 in
theorem b_PK_writePieces_26 {l : Launch} {x : xX} {d mc ms n0 uc us : Nat} {Q : xO → xH → Prop} {cl : Bool} {r0 : Nat} {r1 : Nat} {r2 : Nat} {v3 : Int32} {v4 : Int32} {v5 : Int32} {u0 : Int32} {H : xH}
    (h : xW l x d mc ms mPK_writePieces n0 Q cl 28 [some (.ref r0), some (.ref r1), some (.ref r2), some (.int v3), some (.int v4), some (.int v5), some (.int u0), none] [.int v5] H uc us) :
    xW l x d mc ms mPK_writePieces n0 Q cl 26 [some (.ref r0), some (.ref r1), some (.ref r2), some (.int v3), some (.int v4), some (.int v5), none, none] [.int u0] H uc us := by
  refine xs_istore rfl (L' := [some (.ref r0), some (.ref r1), some (.ref r2), some (.int v3), some (.int v4), some (.int v5), some (.int u0), none]) rfl rfl ?_
  refine xs_iload rfl rfl ?_
  exact h

set_option maxRecDepth 20000 in
theorem b_PK_writePieces_29 {l : Launch} {x : xX} {d mc ms n0 uc us : Nat} {Q : xO → xH → Prop} {cl : Bool} {r0 : Nat} {r1 : Nat} {r2 : Nat} {v3 : Int32} {v4 : Int32} {v5 : Int32} {v6 : Int32} {u0 : Int32} {H : xH}
    (h : ∃ p1, gR H r0 4 4 p1 ∧ (xW l x d mc ms mPK_writePieces n0 Q cl 36 [some (.ref r0), some (.ref r1), some (.ref r2), some (.int v3), some (.int v4), some (.int v5), some (.int v6), some (.int u0)] [.int ((257 : Int32) + v6), .ref r1, .ref p1] H uc us)) :
    xW l x d mc ms mPK_writePieces n0 Q cl 29 [some (.ref r0), some (.ref r1), some (.ref r2), some (.int v3), some (.int v4), some (.int v5), some (.int v6), none] [.int u0] H uc us := by
  refine xs_istore rfl (L' := [some (.ref r0), some (.ref r1), some (.ref r2), some (.int v3), some (.int v4), some (.int v5), some (.int v6), some (.int u0)]) rfl rfl ?_
  refine xs_aload_n rfl rfl ?_
  obtain ⟨p1, ⟨_, h1, h2⟩, h⟩ := h
  refine xs_getf rfl fl_4_67 h1 h2 ?_
  refine xs_aload_n rfl rfl ?_
  refine xs_sipushV (v := 257) rfl rfl ?_
  refine xs_iload rfl rfl ?_
  refine xs_iadd rfl ?_
  exact h

set_option maxRecDepth 20000 in
theorem b_PK_writePieces_37 {l : Launch} {x : xX} {d mc ms n0 uc us : Nat} {Q : xO → xH → Prop} {cl : Bool} {r0 : Nat} {r1 : Nat} {r2 : Nat} {v3 : Int32} {v4 : Int32} {v5 : Int32} {v6 : Int32} {v7 : Int32} {H : xH}
    (h : ∃ p1, gR H r0 4 4 p1 ∧ (xW l x d mc ms mPK_writePieces n0 Q cl 41 [some (.ref r0), some (.ref r1), some (.ref r2), some (.int v3), some (.int v4), some (.int v5), some (.int v6), some (.int v7)] [.int v6, .int v4, .ref p1] H uc us)) :
    xW l x d mc ms mPK_writePieces n0 Q cl 37 [some (.ref r0), some (.ref r1), some (.ref r2), some (.int v3), some (.int v4), some (.int v5), some (.int v6), some (.int v7)] [] H uc us := by
  refine xs_aload_n rfl rfl ?_
  obtain ⟨p1, ⟨_, h1, h2⟩, h⟩ := h
  refine xs_getf rfl fl_4_67 h1 h2 ?_
  refine xs_iload rfl rfl ?_
  refine xs_iload rfl rfl ?_
  exact h

set_option maxRecDepth 20000 in
theorem b_PK_writePieces_42 {l : Launch} {x : xX} {d mc ms n0 uc us : Nat} {Q : xO → xH → Prop} {cl : Bool} {r0 : Nat} {r1 : Nat} {r2 : Nat} {v3 : Int32} {v4 : Int32} {v5 : Int32} {v6 : Int32} {v7 : Int32} {q0 : Nat} {u1 : Int32} {u2 : Int32} {H : xH}
    (h : xW l x d mc ms mPK_writePieces n0 Q cl 44 [some (.ref r0), some (.ref r1), some (.ref r2), some (.int v3), some (.int v4), some (.int v5), some (.int v6), some (.int v7)] [.int v6, .int (u1 - u2), .ref q0] H uc us) :
    xW l x d mc ms mPK_writePieces n0 Q cl 42 [some (.ref r0), some (.ref r1), some (.ref r2), some (.int v3), some (.int v4), some (.int v5), some (.int v6), some (.int v7)] [.int u2, .int u1, .ref q0] H uc us := by
  refine xs_isub rfl ?_
  refine xs_iload rfl rfl ?_
  exact h

-- b_PK_writePieces_45: .invokevirtual 129
set_option maxRecDepth 20000 in
theorem b_PK_writePieces_46 {l : Launch} {x : xX} {d mc ms n0 uc us : Nat} {Q : xO → xH → Prop} {cl : Bool} {r0 : Nat} {r1 : Nat} {r2 : Nat} {v3 : Int32} {v4 : Int32} {v5 : Int32} {v6 : Int32} {v7 : Int32} {H : xH}
    (h : ∃ p1, gR H r0 4 4 p1 ∧ (xW l x d mc ms mPK_writePieces n0 Q cl 50 [some (.ref r0), some (.ref r1), some (.ref r2), some (.int v3), some (.int v4), some (.int v5), some (.int v6), some (.int v7)] [.int v7, .ref r2, .ref p1] H uc us)) :
    xW l x d mc ms mPK_writePieces n0 Q cl 46 [some (.ref r0), some (.ref r1), some (.ref r2), some (.int v3), some (.int v4), some (.int v5), some (.int v6), some (.int v7)] [] H uc us := by
  refine xs_aload_n rfl rfl ?_
  obtain ⟨p1, ⟨_, h1, h2⟩, h⟩ := h
  refine xs_getf rfl fl_4_67 h1 h2 ?_
  refine xs_aload_n rfl rfl ?_
  refine xs_iload rfl rfl ?_
  exact h

set_option maxRecDepth 20000 in
theorem b_PK_writePieces_51 {l : Launch} {x : xX} {d mc ms n0 uc us : Nat} {Q : xO → xH → Prop} {cl : Bool} {r0 : Nat} {r1 : Nat} {r2 : Nat} {v3 : Int32} {v4 : Int32} {v5 : Int32} {v6 : Int32} {v7 : Int32} {H : xH}
    (h : ∃ p1, gR H r0 4 4 p1 ∧ (xW l x d mc ms mPK_writePieces n0 Q cl 55 [some (.ref r0), some (.ref r1), some (.ref r2), some (.int v3), some (.int v4), some (.int v5), some (.int v6), some (.int v7)] [.int v7, .int v5, .ref p1] H uc us)) :
    xW l x d mc ms mPK_writePieces n0 Q cl 51 [some (.ref r0), some (.ref r1), some (.ref r2), some (.int v3), some (.int v4), some (.int v5), some (.int v6), some (.int v7)] [] H uc us := by
  refine xs_aload_n rfl rfl ?_
  obtain ⟨p1, ⟨_, h1, h2⟩, h⟩ := h
  refine xs_getf rfl fl_4_67 h1 h2 ?_
  refine xs_iload rfl rfl ?_
  refine xs_iload rfl rfl ?_
  exact h

set_option maxRecDepth 20000 in
theorem b_PK_writePieces_56 {l : Launch} {x : xX} {d mc ms n0 uc us : Nat} {Q : xO → xH → Prop} {cl : Bool} {r0 : Nat} {r1 : Nat} {r2 : Nat} {v3 : Int32} {v4 : Int32} {v5 : Int32} {v6 : Int32} {v7 : Int32} {q0 : Nat} {u1 : Int32} {u2 : Int32} {H : xH}
    (h : xW l x d mc ms mPK_writePieces n0 Q cl 58 [some (.ref r0), some (.ref r1), some (.ref r2), some (.int v3), some (.int v4), some (.int v5), some (.int v6), some (.int v7)] [.int v7, .int (u1 - u2), .ref q0] H uc us) :
    xW l x d mc ms mPK_writePieces n0 Q cl 56 [some (.ref r0), some (.ref r1), some (.ref r2), some (.int v3), some (.int v4), some (.int v5), some (.int v6), some (.int v7)] [.int u2, .int u1, .ref q0] H uc us := by
  refine xs_isub rfl ?_
  refine xs_iload rfl rfl ?_
  exact h

-- b_PK_writePieces_59: .invokevirtual 129
set_option maxRecDepth 20000 in
theorem b_PK_writePieces_60 {l : Launch} {x : xX} {d mc ms n0 uc us : Nat} {Q : xO → xH → Prop} {cl : Bool} {r0 : Nat} {r1 : Nat} {r2 : Nat} {v3 : Int32} {v4 : Int32} {v5 : Int32} {H : xH}
    (h : xW l x d mc ms mPK_writePieces n0 Q cl 2 [some (.ref r0), some (.ref r1), some (.ref r2), some (.int (v3 + 1)), some (.int v4), some (.int v5), none, none] [] H uc us) :
    xW l x d mc ms mPK_writePieces n0 Q cl 60 [some (.ref r0), some (.ref r1), some (.ref r2), some (.int v3), some (.int v4), some (.int v5), none, none] [] H uc us := by
  refine xs_iincV rfl (w := 1) rfl rfl (L' := [some (.ref r0), some (.ref r1), some (.ref r2), some (.int (v3 + 1)), some (.int v4), some (.int v5), none, none]) rfl rfl ?_
  refine xs_goto (k' := 2) rfl rfl ?_
  exact h

set_option maxRecDepth 20000 in
theorem b_PK_writePieces_67 {l : Launch} {x : xX} {d mc ms n0 uc us : Nat} {Q : xO → xH → Prop} {cl : Bool} {r0 : Nat} {r1 : Nat} {r2 : Nat} {v3 : Int32} {H : xH}
    (h : uc = mc ∧ us ≤ ms ∧ Q (.inl none) H) :
    xW l x d mc ms mPK_writePieces n0 Q cl 67 [some (.ref r0), some (.ref r1), some (.ref r2), some (.int v3), none, none, none, none] [] H uc us := by
  exact xs_vret rfl rfl h.1 h.2.1 h.2.2

set_option maxRecDepth 20000 in
theorem b_PK_writeTail_0 {l : Launch} {x : xX} {d mc ms n0 uc us : Nat} {Q : xO → xH → Prop} {cl : Bool} {r0 : Nat} {v1 : Int32} {H : xH}
    (h : (¬ v1 = 1 → xW l x d mc ms mPK_writeTail n0 Q cl 16 [some (.ref r0), some (.int v1)] [] H uc us) ∧ (v1 = 1 → ∃ p1, gR H r0 4 4 p1 ∧ (∃ p2, gR H r0 4 2 p2 ∧ (∃ p3, gR H r0 4 0 p3 ∧ (∃ p4, gR H r0 4 0 p4 ∧ (∃ a5, gI H p4 7 1 a5 ∧ (xW l x d mc ms mPK_writeTail n0 Q cl 13 [some (.ref r0), some (.int v1)] [.int a5, .int 0, .ref p3, .ref p2, .ref p1] H uc us))))))) :
    xW l x d mc ms mPK_writeTail n0 Q cl 0 [some (.ref r0), some (.int v1)] [] H uc us := by
  refine xs_iload_n rfl rfl ?_
  refine xs_iconstV (v := 1) rfl rfl ?_
  refine xs_icmp_ne (k' := 16) rfl rfl (fun hb => ?_) (fun hb => ?_)
  · have h := h.1 hb
    exact h
  · have h := h.2 hb
    refine xs_aload_n rfl rfl ?_
    obtain ⟨p1, ⟨_, h1, h2⟩, h⟩ := h
    refine xs_getf rfl fl_4_67 h1 h2 ?_
    refine xs_aload_n rfl rfl ?_
    obtain ⟨p2, ⟨_, h1, h2⟩, h⟩ := h
    refine xs_getf rfl fl_4_51 h1 h2 ?_
    refine xs_aload_n rfl rfl ?_
    obtain ⟨p3, ⟨_, h1, h2⟩, h⟩ := h
    refine xs_getf rfl fl_4_43 h1 h2 ?_
    refine xs_iconstV (v := 0) rfl rfl ?_
    refine xs_aload_n rfl rfl ?_
    obtain ⟨p4, ⟨_, h1, h2⟩, h⟩ := h
    refine xs_getf rfl fl_4_43 h1 h2 ?_
    obtain ⟨a5, ⟨_, h1, h2⟩, h⟩ := h
    refine xs_getf rfl fl_4_114 h1 h2 ?_
    exact h

set_option maxRecDepth 20000 in
theorem b_PK_writeTail_14 {l : Launch} {x : xX} {d mc ms n0 uc us : Nat} {Q : xO → xH → Prop} {cl : Bool} {r0 : Nat} {v1 : Int32} {q0 : Nat} {u1 : Int64} {H : xH}
    (h : xW l x d mc ms mPK_writeTail n0 Q cl 15 [some (.ref r0), some (.int v1)] [.int 1, .long u1, .ref q0] H uc us) :
    xW l x d mc ms mPK_writeTail n0 Q cl 14 [some (.ref r0), some (.int v1)] [.long u1, .ref q0] H uc us := by
  refine xs_iconstV (v := 1) rfl rfl ?_
  exact h

set_option maxRecDepth 20000 in
theorem b_PK_writeTail_16 {l : Launch} {x : xX} {d mc ms n0 uc us : Nat} {Q : xO → xH → Prop} {cl : Bool} {r0 : Nat} {v1 : Int32} {H : xH}
    (h : (¬ v1 = 2 → xW l x d mc ms mPK_writeTail n0 Q cl 40 [some (.ref r0), some (.int v1)] [] H uc us) ∧ (v1 = 2 → ∃ p1, gR H r0 4 4 p1 ∧ (∃ p2, gR H r0 4 2 p2 ∧ (∃ p3, gR H r0 4 0 p3 ∧ (∃ p4, gR H r0 4 0 p4 ∧ (∃ a5, gI H p4 7 1 a5 ∧ (xW l x d mc ms mPK_writeTail n0 Q cl 29 [some (.ref r0), some (.int v1)] [.int a5, .int 0, .ref p3, .ref p2, .ref p1] H uc us))))))) :
    xW l x d mc ms mPK_writeTail n0 Q cl 16 [some (.ref r0), some (.int v1)] [] H uc us := by
  refine xs_iload_n rfl rfl ?_
  refine xs_iconstV (v := 2) rfl rfl ?_
  refine xs_icmp_ne (k' := 40) rfl rfl (fun hb => ?_) (fun hb => ?_)
  · have h := h.1 hb
    exact h
  · have h := h.2 hb
    refine xs_aload_n rfl rfl ?_
    obtain ⟨p1, ⟨_, h1, h2⟩, h⟩ := h
    refine xs_getf rfl fl_4_67 h1 h2 ?_
    refine xs_aload_n rfl rfl ?_
    obtain ⟨p2, ⟨_, h1, h2⟩, h⟩ := h
    refine xs_getf rfl fl_4_51 h1 h2 ?_
    refine xs_aload_n rfl rfl ?_
    obtain ⟨p3, ⟨_, h1, h2⟩, h⟩ := h
    refine xs_getf rfl fl_4_43 h1 h2 ?_
    refine xs_iconstV (v := 0) rfl rfl ?_
    refine xs_aload_n rfl rfl ?_
    obtain ⟨p4, ⟨_, h1, h2⟩, h⟩ := h
    refine xs_getf rfl fl_4_43 h1 h2 ?_
    obtain ⟨a5, ⟨_, h1, h2⟩, h⟩ := h
    refine xs_getf rfl fl_4_114 h1 h2 ?_
    exact h

set_option maxRecDepth 20000 in
theorem b_PK_writeTail_30 {l : Launch} {x : xX} {d mc ms n0 uc us : Nat} {Q : xO → xH → Prop} {cl : Bool} {r0 : Nat} {v1 : Int32} {q0 : Nat} {u1 : Int64} {H : xH}
    (h : xW l x d mc ms mPK_writeTail n0 Q cl 31 [some (.ref r0), some (.int v1)] [.int 0, .long u1, .ref q0] H uc us) :
    xW l x d mc ms mPK_writeTail n0 Q cl 30 [some (.ref r0), some (.int v1)] [.long u1, .ref q0] H uc us := by
  refine xs_iconstV (v := 0) rfl rfl ?_
  exact h

set_option maxRecDepth 20000 in
theorem b_PK_writeTail_32 {l : Launch} {x : xX} {d mc ms n0 uc us : Nat} {Q : xO → xH → Prop} {cl : Bool} {r0 : Nat} {v1 : Int32} {H : xH}
    (h : ∃ p1, gR H r0 4 4 p1 ∧ (∃ p2, gR H r0 4 0 p2 ∧ (∃ a3, gI H p2 7 1 a3 ∧ (xW l x d mc ms mPK_writeTail n0 Q cl 39 [some (.ref r0), some (.int v1)] [.int 0, .long a3.toInt64, .ref p1] H uc us)))) :
    xW l x d mc ms mPK_writeTail n0 Q cl 32 [some (.ref r0), some (.int v1)] [] H uc us := by
  refine xs_aload_n rfl rfl ?_
  obtain ⟨p1, ⟨_, h1, h2⟩, h⟩ := h
  refine xs_getf rfl fl_4_67 h1 h2 ?_
  refine xs_aload_n rfl rfl ?_
  obtain ⟨p2, ⟨_, h1, h2⟩, h⟩ := h
  refine xs_getf rfl fl_4_43 h1 h2 ?_
  obtain ⟨a3, ⟨_, h1, h2⟩, h⟩ := h
  refine xs_getf rfl fl_4_114 h1 h2 ?_
  refine xs_i2l rfl ?_
  refine xs_iconstV (v := 0) rfl rfl ?_
  exact h

set_option maxRecDepth 20000 in
theorem b_PK_writeTail_40 {l : Launch} {x : xX} {d mc ms n0 uc us : Nat} {Q : xO → xH → Prop} {cl : Bool} {r0 : Nat} {v1 : Int32} {H : xH}
    (h : uc = mc ∧ us ≤ ms ∧ Q (.inl none) H) :
    xW l x d mc ms mPK_writeTail n0 Q cl 40 [some (.ref r0), some (.int v1)] [] H uc us := by
  exact xs_vret rfl rfl h.1 h.2.1 h.2.2

