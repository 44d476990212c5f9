set_option maxRecDepth 20000 in
theorem b_RP_init_0 {l : Launch} {x : xX} {d mc ms n0 uc us : Nat} {Q : xO → xH → Prop} {cl : Bool} {r0 : Nat} {H : xH}
    (h : xW l x d mc ms mRP_init n0 Q cl 1 [some (.ref r0)] [.ref r0] H uc us) :
    xW l x d mc ms mRP_init n0 Q cl 0 [some (.ref r0)] [] H uc us := by
  refine xs_aload_n rfl rfl ?_
  exact h

set_option maxRecDepth 20000 in
theorem b_RP_init_2 {l : Launch} {x : xX} {d mc ms n0 uc us : Nat} {Q : xO → xH → Prop} {cl : Bool} {r0 : Nat} {H : xH}
    (h : xW l x d mc ms mRP_init n0 Q cl 3 [some (.ref r0)] [.ref r0] H uc us) :
    xW l x d mc ms mRP_init n0 Q cl 2 [some (.ref r0)] [] H uc us := by
  refine xs_aload_n rfl rfl ?_
  exact h

set_option maxRecDepth 20000 in
theorem b_RP_init_4 {l : Launch} {x : xX} {d mc ms n0 uc us : Nat} {Q : xO → xH → Prop} {cl : Bool} {r0 : Nat} {q0 : Nat} {q1 : Nat} {H : xH}
    (h : xW l x d mc ms mRP_init n0 Q cl 6 [some (.ref r0)] [.int 32768, .ref q1, .ref q1, .ref q0] H uc us) :
    xW l x d mc ms mRP_init n0 Q cl 4 [some (.ref r0)] [.ref q1, .ref q0] H uc us := by
  refine xs_dup rfl rfl ?_
  refine xs_ldc rfl kc_0_11 ?_
  exact h

set_option maxRecDepth 20000 in
theorem b_RP_init_7 {l : Launch} {x : xX} {d mc ms n0 uc us : Nat} {Q : xO → xH → Prop} {cl : Bool} {r0 : Nat} {q0 : Nat} {q1 : Nat} {H : xH}
    (h : ∃ c1, H[(q0 : Nat)]? = some (.inr (0, c1)) ∧ 0 < c1.length ∧ (∀ H2 : xH, H2 = H.set q0 (.inr (0, c1.set 0 (.ref q1))) → xW l x d mc ms mRP_init n0 Q false 9 [some (.ref r0)] [.ref r0] H2 uc us)) :
    xW l x d mc ms mRP_init n0 Q cl 7 [some (.ref r0)] [.ref q1, .ref q0] H uc us := by
  obtain ⟨c1, h1, h2, h⟩ := h
  refine xs_putF rfl fl_0_15 h1 (fun q hq => by cases hq; exact ⟨rfl, rfl⟩) rfl rfl h2 ?_
  have h := h _ rfl
  generalize H.set q0 (.inr (0, c1.set 0 (.ref q1))) = H2 at h ⊢
  refine xs_aload_n rfl rfl ?_
  exact h

set_option maxRecDepth 20000 in
theorem b_RP_init_10 {l : Launch} {x : xX} {d mc ms n0 uc us : Nat} {Q : xO → xH → Prop} {cl : Bool} {r0 : Nat} {q0 : Nat} {q1 : Nat} {H : xH}
    (h : xW l x d mc ms mRP_init n0 Q cl 12 [some (.ref r0)] [.int 65536, .ref q1, .ref q1, .ref q0] H uc us) :
    xW l x d mc ms mRP_init n0 Q cl 10 [some (.ref r0)] [.ref q1, .ref q0] H uc us := by
  refine xs_dup rfl rfl ?_
  refine xs_ldc rfl kc_0_19 ?_
  exact h

set_option maxRecDepth 20000 in
theorem b_RP_init_13 {l : Launch} {x : xX} {d mc ms n0 uc us : Nat} {Q : xO → xH → Prop} {cl : Bool} {r0 : Nat} {q0 : Nat} {q1 : Nat} {H : xH}
    (h : ∃ c1, H[(q0 : Nat)]? = some (.inr (0, c1)) ∧ 1 < c1.length ∧ (∀ H2 : xH, H2 = H.set q0 (.inr (0, c1.set 1 (.ref q1))) → xW l x d mc ms mRP_init n0 Q false 15 [some (.ref r0)] [.ref r0] H2 uc us)) :
    xW l x d mc ms mRP_init n0 Q cl 13 [some (.ref r0)] [.ref q1, .ref q0] H uc us := by
  obtain ⟨c1, h1, h2, h⟩ := h
  refine xs_putF rfl fl_0_20 h1 (fun q hq => by cases hq; exact ⟨rfl, rfl⟩) rfl rfl h2 ?_
  have h := h _ rfl
  generalize H.set q0 (.inr (0, c1.set 1 (.ref q1))) = H2 at h ⊢
  refine xs_aload_n rfl rfl ?_
  exact h

set_option maxRecDepth 20000 in
theorem b_RP_init_16 {l : Launch} {x : xX} {d mc ms n0 uc us : Nat} {Q : xO → xH → Prop} {cl : Bool} {r0 : Nat} {q0 : Nat} {q1 : Nat} {H : xH}
    (h : xW l x d mc ms mRP_init n0 Q cl 17 [some (.ref r0)] [.ref q1, .ref q1, .ref q0] H uc us) :
    xW l x d mc ms mRP_init n0 Q cl 16 [some (.ref r0)] [.ref q1, .ref q0] H uc us := by
  refine xs_dup rfl rfl ?_
  exact h

set_option maxRecDepth 20000 in
theorem b_RP_init_18 {l : Launch} {x : xX} {d mc ms n0 uc us : Nat} {Q : xO → xH → Prop} {cl : Bool} {r0 : Nat} {q0 : Nat} {q1 : Nat} {H : xH}
    (h : ∃ c1, H[(q0 : Nat)]? = some (.inr (0, c1)) ∧ 2 < c1.length ∧ (∀ H2 : xH, H2 = H.set q0 (.inr (0, c1.set 2 (.ref q1))) → xW l x d mc ms mRP_init n0 Q false 20 [some (.ref r0)] [.ref r0] H2 uc us)) :
    xW l x d mc ms mRP_init n0 Q cl 18 [some (.ref r0)] [.ref q1, .ref q0] H uc us := by
  obtain ⟨c1, h1, h2, h⟩ := h
  refine xs_putF rfl fl_0_26 h1 (fun q hq => by cases hq; exact ⟨rfl, rfl⟩) rfl rfl h2 ?_
  have h := h _ rfl
  generalize H.set q0 (.inr (0, c1.set 2 (.ref q1))) = H2 at h ⊢
  refine xs_aload_n rfl rfl ?_
  exact h

set_option maxRecDepth 20000 in
theorem b_RP_init_21 {l : Launch} {x : xX} {d mc ms n0 uc us : Nat} {Q : xO → xH → Prop} {cl : Bool} {r0 : Nat} {q0 : Nat} {q1 : Nat} {H : xH}
    (h : xW l x d mc ms mRP_init n0 Q cl 22 [some (.ref r0)] [.ref q1, .ref q1, .ref q0] H uc us) :
    xW l x d mc ms mRP_init n0 Q cl 21 [some (.ref r0)] [.ref q1, .ref q0] H uc us := by
  refine xs_dup rfl rfl ?_
  exact h

set_option maxRecDepth 20000 in
theorem b_RP_init_23 {l : Launch} {x : xX} {d mc ms n0 uc us : Nat} {Q : xO → xH → Prop} {cl : Bool} {r0 : Nat} {q0 : Nat} {q1 : Nat} {H : xH}
    (h : ∃ c1, H[(q0 : Nat)]? = some (.inr (0, c1)) ∧ 3 < c1.length ∧ (∀ H2 : xH, H2 = H.set q0 (.inr (0, c1.set 3 (.ref q1))) → xW l x d mc ms mRP_init n0 Q false 25 [some (.ref r0)] [.ref r0] H2 uc us)) :
    xW l x d mc ms mRP_init n0 Q cl 23 [some (.ref r0)] [.ref q1, .ref q0] H uc us := by
  obtain ⟨c1, h1, h2, h⟩ := h
  refine xs_putF rfl fl_0_33 h1 (fun q hq => by cases hq; exact ⟨rfl, rfl⟩) rfl rfl h2 ?_
  have h := h _ rfl
  generalize H.set q0 (.inr (0, c1.set 3 (.ref q1))) = H2 at h ⊢
  refine xs_aload_n rfl rfl ?_
  exact h

set_option maxRecDepth 20000 in
theorem b_RP_init_26 {l : Launch} {x : xX} {d mc ms n0 uc us : Nat} {Q : xO → xH → Prop} {cl : Bool} {r0 : Nat} {q0 : Nat} {q1 : Nat} {H : xH}
    (h : ∃ p1, gR H r0 0 0 p1 ∧ (∃ p2, gR H r0 0 1 p2 ∧ (∃ p3, gR H r0 0 2 p3 ∧ (∃ p4, gR H r0 0 3 p4 ∧ (xW l x d mc ms mRP_init n0 Q cl 35 [some (.ref r0)] [.ref p4, .ref p3, .ref p2, .ref p1, .ref q1, .ref q1, .ref q0] H uc us))))) :
    xW l x d mc ms mRP_init n0 Q cl 26 [some (.ref r0)] [.ref q1, .ref q0] H uc us := by
  refine xs_dup rfl rfl ?_
  refine xs_aload_n rfl rfl ?_
  obtain ⟨p1, ⟨_, h1, h2⟩, h⟩ := h
  refine xs_getf rfl fl_0_15 h1 h2 ?_
  refine xs_aload_n rfl rfl ?_
  obtain ⟨p2, ⟨_, h1, h2⟩, h⟩ := h
  refine xs_getf rfl fl_0_20 h1 h2 ?_
  refine xs_aload_n rfl rfl ?_
  obtain ⟨p3, ⟨_, h1, h2⟩, h⟩ := h
  refine xs_getf rfl fl_0_26 h1 h2 ?_
  refine xs_aload_n rfl rfl ?_
  obtain ⟨p4, ⟨_, h1, h2⟩, h⟩ := h
  refine xs_getf rfl fl_0_33 h1 h2 ?_
  exact h

set_option maxRecDepth 20000 in
theorem b_RP_init_36 {l : Launch} {x : xX} {d mc ms n0 uc us : Nat} {Q : xO → xH → Prop} {cl : Bool} {r0 : Nat} {q0 : Nat} {q1 : Nat} {H : xH}
    (h : ∃ c1, H[(q0 : Nat)]? = some (.inr (0, c1)) ∧ 4 < c1.length ∧ (∀ H2 : xH, H2 = H.set q0 (.inr (0, c1.set 4 (.ref q1))) → xW l x d mc ms mRP_init n0 Q false 38 [some (.ref r0)] [.ref r0] H2 uc us)) :
    xW l x d mc ms mRP_init n0 Q cl 36 [some (.ref r0)] [.ref q1, .ref q0] H uc us := by
  obtain ⟨c1, h1, h2, h⟩ := h
  refine xs_putF rfl fl_0_42 h1 (fun q hq => by cases hq; exact ⟨rfl, rfl⟩) rfl rfl h2 ?_
  have h := h _ rfl
  generalize H.set q0 (.inr (0, c1.set 4 (.ref q1))) = H2 at h ⊢
  refine xs_aload_n rfl rfl ?_
  exact h

set_option maxRecDepth 20000 in
theorem b_RP_init_39 {l : Launch} {x : xX} {d mc ms n0 uc us : Nat} {Q : xO → xH → Prop} {cl : Bool} {r0 : Nat} {q0 : Nat} {q1 : Nat} {H : xH}
    (h : ∃ p1, gR H r0 0 0 p1 ∧ (∃ p2, gR H r0 0 1 p2 ∧ (∃ p3, gR H r0 0 2 p3 ∧ (∃ p4, gR H r0 0 3 p4 ∧ (xW l x d mc ms mRP_init n0 Q cl 48 [some (.ref r0)] [.ref p4, .ref p3, .ref p2, .ref p1, .ref q1, .ref q1, .ref q0] H uc us))))) :
    xW l x d mc ms mRP_init n0 Q cl 39 [some (.ref r0)] [.ref q1, .ref q0] H uc us := by
  refine xs_dup rfl rfl ?_
  refine xs_aload_n rfl rfl ?_
  obtain ⟨p1, ⟨_, h1, h2⟩, h⟩ := h
  refine xs_getf rfl fl_0_15 h1 h2 ?_
  refine xs_aload_n rfl rfl ?_
  obtain ⟨p2, ⟨_, h1, h2⟩, h⟩ := h
  refine xs_getf rfl fl_0_20 h1 h2 ?_
  refine xs_aload_n rfl rfl ?_
  obtain ⟨p3, ⟨_, h1, h2⟩, h⟩ := h
  refine xs_getf rfl fl_0_26 h1 h2 ?_
  refine xs_aload_n rfl rfl ?_
  obtain ⟨p4, ⟨_, h1, h2⟩, h⟩ := h
  refine xs_getf rfl fl_0_33 h1 h2 ?_
  exact h

set_option maxRecDepth 20000 in
theorem b_RP_init_49 {l : Launch} {x : xX} {d mc ms n0 uc us : Nat} {Q : xO → xH → Prop} {cl : Bool} {r0 : Nat} {q0 : Nat} {q1 : Nat} {H : xH}
    (h : ∃ c1, H[(q0 : Nat)]? = some (.inr (0, c1)) ∧ 5 < c1.length ∧ (∀ H2 : xH, H2 = H.set q0 (.inr (0, c1.set 5 (.ref q1))) → uc = mc ∧ us ≤ ms ∧ Q (.inl none) H2)) :
    xW l x d mc ms mRP_init n0 Q cl 49 [some (.ref r0)] [.ref q1, .ref q0] H uc us := by
  obtain ⟨c1, h1, h2, h⟩ := h
  refine xs_putF rfl fl_0_49 h1 (fun q hq => by cases hq; exact ⟨rfl, rfl⟩) rfl rfl h2 ?_
  have h := h _ rfl
  generalize H.set q0 (.inr (0, c1.set 5 (.ref q1))) = H2 at h ⊢
  exact xs_vret rfl rfl h.1 h.2.1 h.2.2

set_option maxRecDepth 20000 in
theorem b_RO_init_0 {l : Launch} {x : xX} {d mc ms n0 uc us : Nat} {Q : xO → xH → Prop} {cl : Bool} {r0 : Nat} {v1 : Int32} {H : xH}
    (h : xW l x d mc ms mRO_init n0 Q cl 1 [some (.ref r0), some (.int v1)] [.ref r0] H uc us) :
    xW l x d mc ms mRO_init n0 Q cl 0 [some (.ref r0), some (.int v1)] [] H uc us := by
  refine xs_aload_n rfl rfl ?_
  exact h

set_option maxRecDepth 20000 in
theorem b_RO_init_2 {l : Launch} {x : xX} {d mc ms n0 uc us : Nat} {Q : xO → xH → Prop} {cl : Bool} {r0 : Nat} {v1 : Int32} {H : xH}
    (h : xW l x d mc ms mRO_init n0 Q cl 4 [some (.ref r0), some (.int v1)] [.int v1, .ref r0] H uc us) :
    xW l x d mc ms mRO_init n0 Q cl 2 [some (.ref r0), some (.int v1)] [] H uc us := by
  refine xs_aload_n rfl rfl ?_
  refine xs_iload_n rfl rfl ?_
  exact h

set_option maxRecDepth 20000 in
theorem b_RO_init_5 {l : Launch} {x : xX} {d mc ms n0 uc us : Nat} {Q : xO → xH → Prop} {cl : Bool} {r0 : Nat} {v1 : Int32} {q0 : Nat} {q1 : Nat} {H : xH}
    (h : ∃ c1, H[(q0 : Nat)]? = some (.inr (7, c1)) ∧ 0 < c1.length ∧ (∀ H2 : xH, H2 = H.set q0 (.inr (7, c1.set 0 (.ref q1))) → uc = mc ∧ us ≤ ms ∧ Q (.inl none) H2)) :
    xW l x d mc ms mRO_init n0 Q cl 5 [some (.ref r0), some (.int v1)] [.ref q1, .ref q0] H uc us := by
  obtain ⟨c1, h1, h2, h⟩ := h
  refine xs_putF rfl fl_7_7 h1 (fun q hq => by cases hq; exact ⟨rfl, rfl⟩) rfl rfl h2 ?_
  have h := h _ rfl
  generalize H.set q0 (.inr (7, c1.set 0 (.ref q1))) = H2 at h ⊢
  exact xs_vret rfl rfl h.1 h.2.1 h.2.2

set_option maxRecDepth 20000 in
theorem b_RE_init_0 {l : Launch} {x : xX} {d mc ms n0 uc us : Nat} {Q : xO → xH → Prop} {cl : Bool} {r0 : Nat} {H : xH}
    (h : xW l x d mc ms mRE_init n0 Q cl 1 [some (.ref r0)] [.ref r0] H uc us) :
    xW l x d mc ms mRE_init n0 Q cl 0 [some (.ref r0)] [] H uc us := by
  refine xs_aload_n rfl rfl ?_
  exact h

set_option maxRecDepth 20000 in
theorem b_RE_init_2 {l : Launch} {x : xX} {d mc ms n0 uc us : Nat} {Q : xO → xH → Prop} {cl : Bool} {r0 : Nat} {H : xH}
    (h : xW l x d mc ms mRE_init n0 Q cl 4 [some (.ref r0)] [.int 256, .ref r0] H uc us) :
    xW l x d mc ms mRE_init n0 Q cl 2 [some (.ref r0)] [] H uc us := by
  refine xs_aload_n rfl rfl ?_
  refine xs_sipushV (v := 256) rfl rfl ?_
  exact h

set_option maxRecDepth 20000 in
theorem b_RE_init_5 {l : Launch} {x : xX} {d mc ms n0 uc us : Nat} {Q : xO → xH → Prop} {cl : Bool} {r0 : Nat} {q0 : Nat} {q1 : Nat} {H : xH}
    (h : ∃ c1, H[(q0 : Nat)]? = some (.inr (6, c1)) ∧ 0 < c1.length ∧ (∀ H2 : xH, H2 = H.set q0 (.inr (6, c1.set 0 (.ref q1))) → ∃ c3, H2[(r0 : Nat)]? = some (.inr (6, c3)) ∧ 2 < c3.length ∧ (∀ H4 : xH, H4 = H2.set r0 (.inr (6, c3.set 2 (.int (-1)))) → uc = mc ∧ us ≤ ms ∧ Q (.inl none) H4))) :
    xW l x d mc ms mRE_init n0 Q cl 5 [some (.ref r0)] [.ref q1, .ref q0] H uc us := by
  obtain ⟨c1, h1, h2, h⟩ := h
  refine xs_putF rfl fl_6_11 h1 (fun q hq => by cases hq; exact ⟨rfl, rfl⟩) rfl rfl h2 ?_
  have h := h _ rfl
  generalize H.set q0 (.inr (6, c1.set 0 (.ref q1))) = H2 at h ⊢
  refine xs_aload_n rfl rfl ?_
  refine xs_iconstV (v := (-1)) rfl rfl ?_
  obtain ⟨c3, h1, h2, h⟩ := h
  refine xs_putf rfl fl_6_15 h1 (fun q hq => by cases hq; rfl) rfl h2 ?_
  have h := h _ rfl
  generalize H2.set r0 (.inr (6, c3.set 2 (.int (-1)))) = H4 at h ⊢
  exact xs_vret rfl rfl h.1 h.2.1 h.2.2

set_option maxRecDepth 20000 in
theorem b_SU_init_0 {l : Launch} {x : xX} {d mc ms n0 uc us : Nat} {Q : xO → xH → Prop} {cl : Bool} {r0 : Nat} {H : xH}
    (h : xW l x d mc ms mSU_init n0 Q cl 1 [some (.ref r0), none, none, none] [.ref r0] H uc us) :
    xW l x d mc ms mSU_init n0 Q cl 0 [some (.ref r0), none, none, none] [] H uc us := by
  refine xs_aload_n rfl rfl ?_
  exact h

set_option maxRecDepth 20000 in
theorem b_SU_init_2 {l : Launch} {x : xX} {d mc ms n0 uc us : Nat} {Q : xO → xH → Prop} {cl : Bool} {r0 : Nat} {H : xH}
    (h : xW l x d mc ms mSU_init n0 Q cl 4 [some (.ref r0), none, none, none] [.int 256, .ref r0] H uc us) :
    xW l x d mc ms mSU_init n0 Q cl 2 [some (.ref r0), none, none, none] [] H uc us := by
  refine xs_aload_n rfl rfl ?_
  refine xs_sipushV (v := 256) rfl rfl ?_
  exact h

set_option maxRecDepth 20000 in
theorem b_SU_init_5 {l : Launch} {x : xX} {d mc ms n0 uc us : Nat} {Q : xO → xH → Prop} {cl : Bool} {r0 : Nat} {q0 : Nat} {q1 : Nat} {H : xH}
    (h : ∃ c1, H[(q0 : Nat)]? = some (.inr (8, c1)) ∧ 0 < c1.length ∧ (∀ H2 : xH, H2 = H.set q0 (.inr (8, c1.set 0 (.ref q1))) → xW l x d mc ms mSU_init n0 Q false 8 [some (.ref r0), some (.int 0), none, none] [] H2 uc us)) :
    xW l x d mc ms mSU_init n0 Q cl 5 [some (.ref r0), none, none, none] [.ref q1, .ref q0] H uc us := by
  obtain ⟨c1, h1, h2, h⟩ := h
  refine xs_putF rfl fl_8_7 h1 (fun q hq => by cases hq; exact ⟨rfl, rfl⟩) rfl rfl h2 ?_
  have h := h _ rfl
  generalize H.set q0 (.inr (8, c1.set 0 (.ref q1))) = H2 at h ⊢
  refine xs_iconstV (v := 0) rfl rfl ?_
  refine xs_istore_n rfl (L' := [some (.ref r0), some (.int 0), none, none]) rfl rfl ?_
  exact h

set_option maxRecDepth 20000 in
theorem b_SU_init_8 {l : Launch} {x : xX} {d mc ms n0 uc us : Nat} {Q : xO → xH → Prop} {cl : Bool} {r0 : Nat} {v1 : Int32} {H : xH}
    (h : (256 ≤ v1 → uc = mc ∧ us ≤ ms ∧ Q (.inl none) H) ∧ (¬ 256 ≤ v1 → xW l x d mc ms mSU_init n0 Q cl 15 [some (.ref r0), some (.int v1), some (.int v1), some (.int 0)] [] H uc us)) :
    xW l x d mc ms mSU_init n0 Q cl 8 [some (.ref r0), some (.int v1), none, none] [] H uc us := by
  refine xs_iload_n rfl rfl ?_
  refine xs_sipushV (v := 256) rfl rfl ?_
  refine xs_icmp_ge (k' := 42) rfl rfl (fun hb => ?_) (fun hb => ?_)
  · have h := h.1 hb
    exact xs_vret rfl rfl h.1 h.2.1 h.2.2
  · have h := h.2 hb
    refine xs_iload_n rfl rfl ?_
    refine xs_istore_n rfl (L' := [some (.ref r0), some (.int v1), some (.int v1), none]) rfl rfl ?_
    refine xs_iconstV (v := 0) rfl rfl ?_
    refine xs_istore_n rfl (L' := [some (.ref r0), some (.int v1), some (.int v1), some (.int 0)]) rfl rfl ?_
    exact h

set_option maxRecDepth 20000 in
theorem b_SU_init_15 {l : Launch} {x : xX} {d mc ms n0 uc us : Nat} {Q : xO → xH → Prop} {cl : Bool} {r0 : Nat} {v1 : Int32} {v2 : Int32} {v3 : Int32} {H : xH}
    (h : (8 ≤ v3 → ∃ p1, gR H r0 8 0 p1 ∧ (∃ n2 f3, H[(p1 : Nat)]? = some (.inl (0, n2, .inl f3)) ∧ 2 ≤ p1 ∧ vp_in v1 n2 ∧ (∀ H4 : xH, H4 = H.set p1 (.inl (0, n2, .inl (upd f3 (v1.toNatClampNeg) (v2)))) → xW l x d mc ms mSU_init n0 Q false 8 [some (.ref r0), some (.int (v1 + 1)), some (.int v2), some (.int v3)] [] H4 uc us))) ∧ (¬ 8 ≤ v3 → (¬ (v2 &&& 1) = 1 → xW l x d mc ms mSU_init n0 Q cl 15 [some (.ref r0), some (.int v1), some (.int (v2.toUInt32 >>> ((1 : Int32).toUInt32 &&& Int32.toUInt32 31)).toInt32), some (.int (v3 + 1))] [] H uc us) ∧ ((v2 &&& 1) = 1 → xW l x d mc ms mSU_init n0 Q cl 15 [some (.ref r0), some (.int v1), some (.int ((v2.toUInt32 >>> ((1 : Int32).toUInt32 &&& Int32.toUInt32 31)).toInt32 ^^^ (-306674912))), some (.int (v3 + 1))] [] H uc us))) :
    xW l x d mc ms mSU_init n0 Q cl 15 [some (.ref r0), some (.int v1), some (.int v2), some (.int v3)] [] H uc us := by
  refine xs_iload_n rfl rfl ?_
  refine xs_bipushV (v := 8) rfl rfl ?_
  refine xs_icmp_ge (k' := 35) rfl rfl (fun hb => ?_) (fun hb => ?_)
  · have h := h.1 hb
    refine xs_aload_n rfl rfl ?_
    obtain ⟨p1, ⟨_, h1, h2⟩, h⟩ := h
    refine xs_getf rfl fl_8_7 h1 h2 ?_
    refine xs_iload_n rfl rfl ?_
    refine xs_iload_n rfl rfl ?_
    obtain ⟨n2, f3, h1, h3, h2, h⟩ := h
    refine xs_iast rfl h1 h3 h2 ?_
    have h := h _ rfl
    generalize H.set p1 (.inl (0, n2, .inl (upd f3 (v1.toNatClampNeg) (v2)))) = H4 at h ⊢
    refine xs_iincV rfl (w := 1) rfl rfl (L' := [some (.ref r0), some (.int (v1 + 1)), some (.int v2), some (.int v3)]) rfl rfl ?_
    refine xs_goto (k' := 8) rfl rfl ?_
    exact h
  · have h := h.2 hb
    refine xs_iload_n rfl rfl ?_
    refine xs_iconstV (v := 1) rfl rfl ?_
    refine xs_iand rfl ?_
    refine xs_iconstV (v := 1) rfl rfl ?_
    refine xs_icmp_ne (k' := 29) rfl rfl (fun hb => ?_) (fun hb => ?_)
    · have h := h.1 hb
      refine xs_iload_n rfl rfl ?_
      refine xs_iconstV (v := 1) rfl rfl ?_
      refine xs_iushr rfl ?_
      refine xs_istore_n rfl (L' := [some (.ref r0), some (.int v1), some (.int (v2.toUInt32 >>> ((1 : Int32).toUInt32 &&& Int32.toUInt32 31)).toInt32), some (.int v3)]) rfl rfl ?_
      refine xs_iincV rfl (w := 1) rfl rfl (L' := [some (.ref r0), some (.int v1), some (.int (v2.toUInt32 >>> ((1 : Int32).toUInt32 &&& Int32.toUInt32 31)).toInt32), some (.int (v3 + 1))]) rfl rfl ?_
      refine xs_goto (k' := 15) rfl rfl ?_
      exact h
    · have h := h.2 hb
      refine xs_iload_n rfl rfl ?_
      refine xs_iconstV (v := 1) rfl rfl ?_
      refine xs_iushr rfl ?_
      refine xs_ldc rfl kc_8_13 ?_
      refine xs_ixor rfl ?_
      refine xs_goto (k' := 32) rfl rfl ?_
      refine xs_istore_n rfl (L' := [some (.ref r0), some (.int v1), some (.int ((v2.toUInt32 >>> ((1 : Int32).toUInt32 &&& Int32.toUInt32 31)).toInt32 ^^^ (-306674912))), some (.int v3)]) rfl rfl ?_
      refine xs_iincV rfl (w := 1) rfl rfl (L' := [some (.ref r0), some (.int v1), some (.int ((v2.toUInt32 >>> ((1 : Int32).toUInt32 &&& Int32.toUInt32 31)).toInt32 ^^^ (-306674912))), some (.int (v3 + 1))]) rfl rfl ?_
      refine xs_goto (k' := 15) rfl rfl ?_
      exact h

set_option maxRecDepth 20000 in
theorem b_BW_init_0 {l : Launch} {x : xX} {d mc ms n0 uc us : Nat} {Q : xO → xH → Prop} {cl : Bool} {r0 : Nat} {r1 : Nat} {H : xH}
    (h : xW l x d mc ms mBW_init n0 Q cl 1 [some (.ref r0), some (.ref r1)] [.ref r0] H uc us) :
    xW l x d mc ms mBW_init n0 Q cl 0 [some (.ref r0), some (.ref r1)] [] H uc us := by
  refine xs_aload_n rfl rfl ?_
  exact h

set_option maxRecDepth 20000 in
theorem b_BW_init_2 {l : Launch} {x : xX} {d mc ms n0 uc us : Nat} {Q : xO → xH → Prop} {cl : Bool} {r0 : Nat} {r1 : Nat} {H : xH}
    (h : ∃ c1, H[(r0 : Nat)]? = some (.inr (1, c1)) ∧ 0 < c1.length ∧ (∀ H2 : xH, H2 = H.set r0 (.inr (1, c1.set 0 (.ref r1))) → uc = mc ∧ us ≤ ms ∧ Q (.inl none) H2)) :
    xW l x d mc ms mBW_init n0 Q cl 2 [some (.ref r0), some (.ref r1)] [] H uc us := by
  refine xs_aload_n rfl rfl ?_
  refine xs_aload_n rfl rfl ?_
  obtain ⟨c1, h1, h2, h⟩ := h
  refine xs_putF rfl fl_1_7 h1 (fun q hq => by cases hq; exact ⟨rfl, rfl⟩) rfl rfl h2 ?_
  have h := h _ rfl
  generalize H.set r0 (.inr (1, c1.set 0 (.ref r1))) = H2 at h ⊢
  exact xs_vret rfl rfl h.1 h.2.1 h.2.2

set_option maxRecDepth 20000 in
theorem b_RP_fixedLength_0 {l : Launch} {x : xX} {d mc ms n0 uc us : Nat} {Q : xO → xH → Prop} {cl : Bool} {v0 : Int32} {H : xH}
    (h : (144 ≤ v0 → (256 ≤ v0 → (280 ≤ v0 → uc = mc ∧ us ≤ ms ∧ Q (.inl (some (.int 8))) H) ∧ (¬ 280 ≤ v0 → uc = mc ∧ us ≤ ms ∧ Q (.inl (some (.int 7))) H)) ∧ (¬ 256 ≤ v0 → uc = mc ∧ us ≤ ms ∧ Q (.inl (some (.int 9))) H)) ∧ (¬ 144 ≤ v0 → uc = mc ∧ us ≤ ms ∧ Q (.inl (some (.int 8))) H)) :
    xW l x d mc ms mRP_fixedLength n0 Q cl 0 [some (.int v0)] [] H uc us := by
  refine xs_iload_n rfl rfl ?_
  refine xs_sipushV (v := 144) rfl rfl ?_
  refine xs_icmp_ge (k' := 5) rfl rfl (fun hb => ?_) (fun hb => ?_)
  · have h := h.1 hb
    refine xs_iload_n rfl rfl ?_
    refine xs_sipushV (v := 256) rfl rfl ?_
    refine xs_icmp_ge (k' := 10) rfl rfl (fun hb => ?_) (fun hb => ?_)
    · have h := h.1 hb
      refine xs_iload_n rfl rfl ?_
      refine xs_sipushV (v := 280) rfl rfl ?_
      refine xs_icmp_ge (k' := 15) rfl rfl (fun hb => ?_) (fun hb => ?_)
      · have h := h.1 hb
        refine xs_bipushV (v := 8) rfl rfl ?_
        exact xs_iret rfl rfl h.1 h.2.1 h.2.2
      · have h := h.2 hb
        refine xs_bipushV (v := 7) rfl rfl ?_
        refine xs_goto (k' := 16) rfl rfl ?_
        exact xs_iret rfl rfl h.1 h.2.1 h.2.2
    · have h := h.2 hb
      refine xs_bipushV (v := 9) rfl rfl ?_
      exact xs_iret rfl rfl h.1 h.2.1 h.2.2
  · have h := h.2 hb
    refine xs_bipushV (v := 8) rfl rfl ?_
    exact xs_iret rfl rfl h.1 h.2.1 h.2.2

set_option maxRecDepth 20000 in
theorem b_AR_fill_0 {l : Launch} {x : xX} {d mc ms n0 uc us : Nat} {Q : xO → xH → Prop} {cl : Bool} {r0 : Nat} {v1 : Int32} {H : xH}
    (h : ∃ (t1 : Nat) (w2 : vp_A), H[(r0 : Nat)]? = some (.inl (t1, w2)) ∧ t1 < 4 ∧ (xW l x d mc ms mAR_fill n0 Q cl 5 [some (.ref r0), some (.int v1), some (.int 0), some (.int (Int32.ofNat w2.1))] [] H uc us)) :
    xW l x d mc ms mAR_fill n0 Q cl 0 [some (.ref r0), some (.int v1), none, none] [] H uc us := by
  refine xs_iconstV (v := 0) rfl rfl ?_
  refine xs_istore_n rfl (L' := [some (.ref r0), some (.int v1), some (.int 0), none]) rfl rfl ?_
  refine xs_aload_n rfl rfl ?_
  obtain ⟨t1, w2, h1, h2, h⟩ := h
  refine xs_alen rfl h1 h2 ?_
  refine xs_istore_n rfl (L' := [some (.ref r0), some (.int v1), some (.int 0), some (.int (Int32.ofNat w2.1))]) rfl rfl ?_
  exact h

set_option maxRecDepth 20000 in
theorem b_AR_fill_5 {l : Launch} {x : xX} {d mc ms n0 uc us : Nat} {Q : xO → xH → Prop} {cl : Bool} {r0 : Nat} {v1 : Int32} {v2 : Int32} {v3 : Int32} {H : xH}
    (h : (v3 ≤ v2 → uc = mc ∧ us ≤ ms ∧ Q (.inl none) H) ∧ (¬ v3 ≤ v2 → ∃ n1 f2, H[(r0 : Nat)]? = some (.inl (0, n1, .inl f2)) ∧ 2 ≤ r0 ∧ vp_in v2 n1 ∧ (∀ H3 : xH, H3 = H.set r0 (.inl (0, n1, .inl (upd f2 (v2.toNatClampNeg) (v1)))) → xW l x d mc ms mAR_fill n0 Q false 5 [some (.ref r0), some (.int v1), some (.int (v2 + 1)), some (.int v3)] [] H3 uc us))) :
    xW l x d mc ms mAR_fill n0 Q cl 5 [some (.ref r0), some (.int v1), some (.int v2), some (.int v3)] [] H uc us := by
  refine xs_iload_n rfl rfl ?_
  refine xs_iload_n rfl rfl ?_
  refine xs_icmp_ge (k' := 14) rfl rfl (fun hb => ?_) (fun hb => ?_)
  · have h := h.1 hb
    exact xs_vret rfl rfl h.1 h.2.1 h.2.2
  · have h := h.2 hb
    refine xs_aload_n rfl rfl ?_
    refine xs_iload_n rfl rfl ?_
    refine xs_iload_n rfl rfl ?_
    obtain ⟨n1, f2, h1, h3, h2, h⟩ := h
    refine xs_iast rfl h1 h3 h2 ?_
    have h := h _ rfl
    generalize H.set r0 (.inl (0, n1, .inl (upd f2 (v2.toNatClampNeg) (v1)))) = H3 at h ⊢
    refine xs_iincV rfl (w := 1) rfl rfl (L' := [some (.ref r0), some (.int v1), some (.int (v2 + 1)), some (.int v3)]) rfl rfl ?_
    refine xs_goto (k' := 5) rfl rfl ?_
    exact h

set_option maxRecDepth 20000 in
theorem b_RP_fault_0 {l : Launch} {x : xX} {d mc ms n0 uc us : Nat} {Q : xO → xH → Prop} {cl : Bool} {r0 : Nat} {H : xH}
    (h : ∃ p1, gR H r0 0 2 p1 ∧ (∃ a2, gI H p1 6 1 a2 ∧ (uc = mc ∧ us ≤ ms ∧ Q (.inl (some (.int a2))) H))) :
    xW l x d mc ms mRP_fault n0 Q cl 0 [some (.ref r0)] [] H uc us := by
  refine xs_aload_n rfl rfl ?_
  obtain ⟨p1, ⟨_, h1, h2⟩, h⟩ := h
  refine xs_getf rfl fl_0_26 h1 h2 ?_
  obtain ⟨a2, ⟨_, h1, h2⟩, h⟩ := h
  refine xs_getf rfl fl_0_87 h1 h2 ?_
  exact xs_iret rfl rfl h.1 h.2.1 h.2.2

set_option maxRecDepth 20000 in
theorem b_RP_place_0 {l : Launch} {x : xX} {d mc ms n0 uc us : Nat} {Q : xO → xH → Prop} {cl : Bool} {r0 : Nat} {H : xH}
    (h : ∃ p1, gR H r0 0 2 p1 ∧ (∃ a2, gI H p1 6 2 a2 ∧ (uc = mc ∧ us ≤ ms ∧ Q (.inl (some (.int a2))) H))) :
    xW l x d mc ms mRP_place n0 Q cl 0 [some (.ref r0)] [] H uc us := by
  refine xs_aload_n rfl rfl ?_
  obtain ⟨p1, ⟨_, h1, h2⟩, h⟩ := h
  refine xs_getf rfl fl_0_26 h1 h2 ?_
  obtain ⟨a2, ⟨_, h1, h2⟩, h⟩ := h
  refine xs_getf rfl fl_0_90 h1 h2 ?_
  exact xs_iret rfl rfl h.1 h.2.1 h.2.2

set_option maxRecDepth 20000 in
theorem b_RP_size_0 {l : Launch} {x : xX} {d mc ms n0 uc us : Nat} {Q : xO → xH → Prop} {cl : Bool} {r0 : Nat} {H : xH}
    (h : ∃ p1, gR H r0 0 1 p1 ∧ (∃ a2, gI H p1 7 1 a2 ∧ (uc = mc ∧ us ≤ ms ∧ Q (.inl (some (.int a2))) H))) :
    xW l x d mc ms mRP_size n0 Q cl 0 [some (.ref r0)] [] H uc us := by
  refine xs_aload_n rfl rfl ?_
  obtain ⟨p1, ⟨_, h1, h2⟩, h⟩ := h
  refine xs_getf rfl fl_0_20 h1 h2 ?_
  obtain ⟨a2, ⟨_, h1, h2⟩, h⟩ := h
  refine xs_getf rfl fl_0_53 h1 h2 ?_
  exact xs_iret rfl rfl h.1 h.2.1 h.2.2

set_option maxRecDepth 20000 in
theorem b_RP_blocks_0 {l : Launch} {x : xX} {d mc ms n0 uc us : Nat} {Q : xO → xH → Prop} {cl : Bool} {r0 : Nat} {H : xH}
    (h : ∃ p1, gR H r0 0 2 p1 ∧ (∃ a2, gI H p1 6 3 a2 ∧ (uc = mc ∧ us ≤ ms ∧ Q (.inl (some (.int a2))) H))) :
    xW l x d mc ms mRP_blocks n0 Q cl 0 [some (.ref r0)] [] H uc us := by
  refine xs_aload_n rfl rfl ?_
  obtain ⟨p1, ⟨_, h1, h2⟩, h⟩ := h
  refine xs_getf rfl fl_0_26 h1 h2 ?_
  obtain ⟨a2, ⟨_, h1, h2⟩, h⟩ := h
  refine xs_getf rfl fl_0_106 h1 h2 ?_
  exact xs_iret rfl rfl h.1 h.2.1 h.2.2

set_option maxRecDepth 20000 in
theorem b_RP_stretches_0 {l : Launch} {x : xX} {d mc ms n0 uc us : Nat} {Q : xO → xH → Prop} {cl : Bool} {r0 : Nat} {H : xH}
    (h : ∃ p1, gR H r0 0 2 p1 ∧ (∃ a2, gI H p1 6 4 a2 ∧ (uc = mc ∧ us ≤ ms ∧ Q (.inl (some (.int a2))) H))) :
    xW l x d mc ms mRP_stretches n0 Q cl 0 [some (.ref r0)] [] H uc us := by
  refine xs_aload_n rfl rfl ?_
  obtain ⟨p1, ⟨_, h1, h2⟩, h⟩ := h
  refine xs_getf rfl fl_0_26 h1 h2 ?_
  obtain ⟨a2, ⟨_, h1, h2⟩, h⟩ := h
  refine xs_getf rfl fl_0_113 h1 h2 ?_
  exact xs_iret rfl rfl h.1 h.2.1 h.2.2

set_option maxRecDepth 20000 in
theorem b_RP_feed_0 {l : Launch} {x : xX} {d mc ms n0 uc us : Nat} {Q : xO → xH → Prop} {cl : Bool} {r0 : Nat} {v1 : Int32} {v2 : Int32} {v3 : Int32} {v4 : Int32} {v5 : Int32} {H : xH}
    (h : ∃ p1, gR H r0 0 0 p1 ∧ (∃ a2, gI H p1 7 1 a2 ∧ ((a2 ≤ 32748 → ∃ p3, gR H r0 0 0 p3 ∧ (xW l x d mc ms mRP_feed n0 Q cl 12 [some (.ref r0), some (.int v1), some (.int v2), some (.int v3), some (.int v4), some (.int v5)] [.int v1, .ref p3] H uc us)) ∧ (¬ a2 ≤ 32748 → xW l x d mc ms mRP_feed n0 Q cl 5 [some (.ref r0), some (.int v1), some (.int v2), some (.int v3), some (.int v4), some (.int v5)] [] H uc us)))) :
    xW l x d mc ms mRP_feed n0 Q cl 0 [some (.ref r0), some (.int v1), some (.int v2), some (.int v3), some (.int v4), some (.int v5)] [] H uc us := by
  refine xs_aload_n rfl rfl ?_
  obtain ⟨p1, ⟨_, h1, h2⟩, h⟩ := h
  refine xs_getf rfl fl_0_15 h1 h2 ?_
  obtain ⟨a2, ⟨_, h1, h2⟩, h⟩ := h
  refine xs_getf rfl fl_0_53 h1 h2 ?_
  refine xs_sipushV (v := 32748) rfl rfl ?_
  refine xs_icmp_le (k' := 9) rfl rfl (fun hb => ?_) (fun hb => ?_)
  · have h := h.1 hb
    refine xs_aload_n rfl rfl ?_
    obtain ⟨p3, ⟨_, h1, h2⟩, h⟩ := h
    refine xs_getf rfl fl_0_15 h1 h2 ?_
    refine xs_iload_n rfl rfl ?_
    exact h
  · have h := h.2 hb
    exact h

set_option maxRecDepth 20000 in
theorem b_RP_feed_6 {l : Launch} {x : xX} {d mc ms n0 uc us : Nat} {Q : xO → xH → Prop} {cl : Bool} {r0 : Nat} {v1 : Int32} {v2 : Int32} {v3 : Int32} {v4 : Int32} {v5 : Int32} {q0 : Nat} {H : xH}
    (h : xW l x d mc ms mRP_feed n0 Q cl 7 [some (.ref r0), some (.int v1), some (.int v2), some (.int v3), some (.int v4), some (.int v5)] [.ref q0, .ref q0] H uc us) :
    xW l x d mc ms mRP_feed n0 Q cl 6 [some (.ref r0), some (.int v1), some (.int v2), some (.int v3), some (.int v4), some (.int v5)] [.ref q0] H uc us := by
  refine xs_dup rfl rfl ?_
  exact h

-- b_RP_feed_8: .athrow
set_option maxRecDepth 20000 in
theorem b_RP_feed_13 {l : Launch} {x : xX} {d mc ms n0 uc us : Nat} {Q : xO → xH → Prop} {cl : Bool} {r0 : Nat} {v1 : Int32} {v2 : Int32} {v3 : Int32} {v4 : Int32} {v5 : Int32} {H : xH}
    (h : ∃ p1, gR H r0 0 0 p1 ∧ (xW l x d mc ms mRP_feed n0 Q cl 16 [some (.ref r0), some (.int v1), some (.int v2), some (.int v3), some (.int v4), some (.int v5)] [.int v2, .ref p1] H uc us)) :
    xW l x d mc ms mRP_feed n0 Q cl 13 [some (.ref r0), some (.int v1), some (.int v2), some (.int v3), some (.int v4), some (.int v5)] [] H uc us := by
  refine xs_aload_n rfl rfl ?_
  obtain ⟨p1, ⟨_, h1, h2⟩, h⟩ := h
  refine xs_getf rfl fl_0_15 h1 h2 ?_
  refine xs_iload_n rfl rfl ?_
  exact h

set_option maxRecDepth 20000 in
theorem b_RP_feed_17 {l : Launch} {x : xX} {d mc ms n0 uc us : Nat} {Q : xO → xH → Prop} {cl : Bool} {r0 : Nat} {v1 : Int32} {v2 : Int32} {v3 : Int32} {v4 : Int32} {v5 : Int32} {H : xH}
    (h : ∃ p1, gR H r0 0 0 p1 ∧ (xW l x d mc ms mRP_feed n0 Q cl 20 [some (.ref r0), some (.int v1), some (.int v2), some (.int v3), some (.int v4), some (.int v5)] [.int v3, .ref p1] H uc us)) :
    xW l x d mc ms mRP_feed n0 Q cl 17 [some (.ref r0), some (.int v1), some (.int v2), some (.int v3), some (.int v4), some (.int v5)] [] H uc us := by
  refine xs_aload_n rfl rfl ?_
  obtain ⟨p1, ⟨_, h1, h2⟩, h⟩ := h
  refine xs_getf rfl fl_0_15 h1 h2 ?_
  refine xs_iload_n rfl rfl ?_
  exact h

set_option maxRecDepth 20000 in
theorem b_RP_feed_21 {l : Launch} {x : xX} {d mc ms n0 uc us : Nat} {Q : xO → xH → Prop} {cl : Bool} {r0 : Nat} {v1 : Int32} {v2 : Int32} {v3 : Int32} {v4 : Int32} {v5 : Int32} {H : xH}
    (h : ∃ p1, gR H r0 0 0 p1 ∧ (xW l x d mc ms mRP_feed n0 Q cl 24 [some (.ref r0), some (.int v1), some (.int v2), some (.int v3), some (.int v4), some (.int v5)] [.int v4, .ref p1] H uc us)) :
    xW l x d mc ms mRP_feed n0 Q cl 21 [some (.ref r0), some (.int v1), some (.int v2), some (.int v3), some (.int v4), some (.int v5)] [] H uc us := by
  refine xs_aload_n rfl rfl ?_
  obtain ⟨p1, ⟨_, h1, h2⟩, h⟩ := h
  refine xs_getf rfl fl_0_15 h1 h2 ?_
  refine xs_iload rfl rfl ?_
  exact h

set_option maxRecDepth 20000 in
theorem b_RP_feed_25 {l : Launch} {x : xX} {d mc ms n0 uc us : Nat} {Q : xO → xH → Prop} {cl : Bool} {r0 : Nat} {v1 : Int32} {v2 : Int32} {v3 : Int32} {v4 : Int32} {v5 : Int32} {H : xH}
    (h : ∃ p1, gR H r0 0 0 p1 ∧ (xW l x d mc ms mRP_feed n0 Q cl 28 [some (.ref r0), some (.int v1), some (.int v2), some (.int v3), some (.int v4), some (.int v5)] [.int v5, .ref p1] H uc us)) :
    xW l x d mc ms mRP_feed n0 Q cl 25 [some (.ref r0), some (.int v1), some (.int v2), some (.int v3), some (.int v4), some (.int v5)] [] H uc us := by
  refine xs_aload_n rfl rfl ?_
  obtain ⟨p1, ⟨_, h1, h2⟩, h⟩ := h
  refine xs_getf rfl fl_0_15 h1 h2 ?_
  refine xs_iload rfl rfl ?_
  exact h

set_option maxRecDepth 20000 in
theorem b_RP_feed_29 {l : Launch} {x : xX} {d mc ms n0 uc us : Nat} {Q : xO → xH → Prop} {cl : Bool} {r0 : Nat} {v1 : Int32} {v2 : Int32} {v3 : Int32} {v4 : Int32} {v5 : Int32} {H : xH}
    (h : ∃ p1, gR H r0 0 0 p1 ∧ (∃ a2, gI H p1 7 1 a2 ∧ (uc = mc ∧ us ≤ ms ∧ Q (.inl (some (.int a2))) H))) :
    xW l x d mc ms mRP_feed n0 Q cl 29 [some (.ref r0), some (.int v1), some (.int v2), some (.int v3), some (.int v4), some (.int v5)] [] H uc us := by
  refine xs_aload_n rfl rfl ?_
  obtain ⟨p1, ⟨_, h1, h2⟩, h⟩ := h
  refine xs_getf rfl fl_0_15 h1 h2 ?_
  obtain ⟨a2, ⟨_, h1, h2⟩, h⟩ := h
  refine xs_getf rfl fl_0_53 h1 h2 ?_
  exact xs_iret rfl rfl h.1 h.2.1 h.2.2

set_option maxRecDepth 20000 in
theorem b_RO_addFour_0 {l : Launch} {x : xX} {d mc ms n0 uc us : Nat} {Q : xO → xH → Prop} {cl : Bool} {r0 : Nat} {v1 : Int32} {H : xH}
    (h : xW l x d mc ms mRO_addFour n0 Q cl 2 [some (.ref r0), some (.int v1), some (.int 24)] [] H uc us) :
    xW l x d mc ms mRO_addFour n0 Q cl 0 [some (.ref r0), some (.int v1), none] [] H uc us := by
  refine xs_bipushV (v := 24) rfl rfl ?_
  refine xs_istore_n rfl (L' := [some (.ref r0), some (.int v1), some (.int 24)]) rfl rfl ?_
  exact h

set_option maxRecDepth 20000 in
theorem b_RO_addFour_2 {l : Launch} {x : xX} {d mc ms n0 uc us : Nat} {Q : xO → xH → Prop} {cl : Bool} {r0 : Nat} {v1 : Int32} {v2 : Int32} {H : xH}
    (h : (v2 < 0 → uc = mc ∧ us ≤ ms ∧ Q (.inl none) H) ∧ (¬ v2 < 0 → xW l x d mc ms mRO_addFour n0 Q cl 8 [some (.ref r0), some (.int v1), some (.int v2)] [.int (v1.toUInt32 >>> (v2.toUInt32 &&& Int32.toUInt32 31)).toInt32, .ref r0] H uc us)) :
    xW l x d mc ms mRO_addFour n0 Q cl 2 [some (.ref r0), some (.int v1), some (.int v2)] [] H uc us := by
  refine xs_iload_n rfl rfl ?_
  refine xs_if_lt (k' := 11) rfl rfl (fun hb => ?_) (fun hb => ?_)
  · have h := h.1 hb
    exact xs_vret rfl rfl h.1 h.2.1 h.2.2
  · have h := h.2 hb
    refine xs_aload_n rfl rfl ?_
    refine xs_iload_n rfl rfl ?_
    refine xs_iload_n rfl rfl ?_
    refine xs_iushr rfl ?_
    exact h

set_option maxRecDepth 20000 in
theorem b_RO_addFour_9 {l : Launch} {x : xX} {d mc ms n0 uc us : Nat} {Q : xO → xH → Prop} {cl : Bool} {r0 : Nat} {v1 : Int32} {v2 : Int32} {H : xH}
    (h : xW l x d mc ms mRO_addFour n0 Q cl 2 [some (.ref r0), some (.int v1), some (.int (v2 + (-8)))] [] H uc us) :
    xW l x d mc ms mRO_addFour n0 Q cl 9 [some (.ref r0), some (.int v1), some (.int v2)] [] H uc us := by
  refine xs_iincV rfl (w := (-8)) rfl rfl (L' := [some (.ref r0), some (.int v1), some (.int (v2 + (-8)))]) rfl rfl ?_
  refine xs_goto (k' := 2) rfl rfl ?_
  exact h

set_option maxRecDepth 20000 in
theorem b_RO_add_0 {l : Launch} {x : xX} {d mc ms n0 uc us : Nat} {Q : xO → xH → Prop} {cl : Bool} {r0 : Nat} {v1 : Int32} {H : xH}
    (h : ∃ a1, gI H r0 7 1 a1 ∧ (∃ p2, gR H r0 7 0 p2 ∧ (∃ (t3 : Nat) (w4 : vp_A), H[(p2 : Nat)]? = some (.inl (t3, w4)) ∧ t3 < 4 ∧ (((Int32.ofNat w4.1) ≤ a1 → uc = mc ∧ us ≤ ms ∧ Q (.inl none) H) ∧ (¬ (Int32.ofNat w4.1) ≤ a1 → ∃ p5, gR H r0 7 0 p5 ∧ (∃ a6, gI H r0 7 1 a6 ∧ (∃ n7 f8, H[(p5 : Nat)]? = some (.inl (1, n7, .inl f8)) ∧ vp_in a6 n7 ∧ (∀ H9 : xH, H9 = H.set p5 (.inl (1, n7, .inl (upd f8 (a6.toNatClampNeg) (vp_nar .byte (v1.toInt8.toInt32))))) → ∃ a10, gI H9 r0 7 1 a10 ∧ (∃ c11, H9[(r0 : Nat)]? = some (.inr (7, c11)) ∧ 1 < c11.length ∧ (∀ H12 : xH, H12 = H9.set r0 (.inr (7, c11.set 1 (.int (a10 + 1)))) → uc = mc ∧ us ≤ ms ∧ Q (.inl none) H12)))))))))) :
    xW l x d mc ms mRO_add n0 Q cl 0 [some (.ref r0), some (.int v1)] [] H uc us := by
  refine xs_aload_n rfl rfl ?_
  obtain ⟨a1, ⟨_, h1, h2⟩, h⟩ := h
  refine xs_getf rfl fl_7_13 h1 h2 ?_
  refine xs_aload_n rfl rfl ?_
  obtain ⟨p2, ⟨_, h1, h2⟩, h⟩ := h
  refine xs_getf rfl fl_7_7 h1 h2 ?_
  obtain ⟨t3, w4, h1, h2, h⟩ := h
  refine xs_alen rfl h1 h2 ?_
  refine xs_icmp_ge (k' := 19) rfl rfl (fun hb => ?_) (fun hb => ?_)
  · have h := h.1 hb
    exact xs_vret rfl rfl h.1 h.2.1 h.2.2
  · have h := h.2 hb
    refine xs_aload_n rfl rfl ?_
    obtain ⟨p5, ⟨_, h1, h2⟩, h⟩ := h
    refine xs_getf rfl fl_7_7 h1 h2 ?_
    refine xs_aload_n rfl rfl ?_
    obtain ⟨a6, ⟨_, h1, h2⟩, h⟩ := h
    refine xs_getf rfl fl_7_13 h1 h2 ?_
    refine xs_iload_n rfl rfl ?_
    refine xs_i2b rfl ?_
    obtain ⟨n7, f8, h1, h2, h⟩ := h
    refine xs_bast rfl h1 h2 ?_
    have h := h _ rfl
    generalize H.set p5 (.inl (1, n7, .inl (upd f8 (a6.toNatClampNeg) (vp_nar .byte (v1.toInt8.toInt32))))) = H9 at h ⊢
    refine xs_aload_n rfl rfl ?_
    refine xs_dup rfl rfl ?_
    obtain ⟨a10, ⟨_, h1, h2⟩, h⟩ := h
    refine xs_getf rfl fl_7_13 h1 h2 ?_
    refine xs_iconstV (v := 1) rfl rfl ?_
    refine xs_iadd rfl ?_
    obtain ⟨c11, h1, h2, h⟩ := h
    refine xs_putf rfl fl_7_13 h1 (fun q hq => by cases hq; rfl) rfl h2 ?_
    have h := h _ rfl
    generalize H9.set r0 (.inr (7, c11.set 1 (.int (a10 + 1)))) = H12 at h ⊢
    exact xs_vret rfl rfl h.1 h.2.1 h.2.2

set_option maxRecDepth 20000 in
theorem b_RP_end_0 {l : Launch} {x : xX} {d mc ms n0 uc us : Nat} {Q : xO → xH → Prop} {cl : Bool} {r0 : Nat} {v1 : Int32} {H : xH}
    (h : (v1 < 0 → xW l x d mc ms mRP_end n0 Q cl 7 [some (.ref r0), some (.int v1)] [] H uc us) ∧ (¬ v1 < 0 → ∃ p1, gR H r0 0 0 p1 ∧ (∃ a2, gI H p1 7 1 a2 ∧ ((v1 ≤ a2 → ∃ p3, gR H r0 0 0 p3 ∧ (∃ c4, H[(p3 : Nat)]? = some (.inr (7, c4)) ∧ 1 < c4.length ∧ (∀ H5 : xH, H5 = H.set p3 (.inr (7, c4.set 1 (.int v1))) → uc = mc ∧ us ≤ ms ∧ Q (.inl none) H5))) ∧ (¬ v1 ≤ a2 → xW l x d mc ms mRP_end n0 Q cl 7 [some (.ref r0), some (.int v1)] [] H uc us))))) :
    xW l x d mc ms mRP_end n0 Q cl 0 [some (.ref r0), some (.int v1)] [] H uc us := by
  refine xs_iload_n rfl rfl ?_
  refine xs_if_lt (k' := 7) rfl rfl (fun hb => ?_) (fun hb => ?_)
  · have h := h.1 hb
    exact h
  · have h := h.2 hb
    refine xs_iload_n rfl rfl ?_
    refine xs_aload_n rfl rfl ?_
    obtain ⟨p1, ⟨_, h1, h2⟩, h⟩ := h
    refine xs_getf rfl fl_0_15 h1 h2 ?_
    obtain ⟨a2, ⟨_, h1, h2⟩, h⟩ := h
    refine xs_getf rfl fl_0_53 h1 h2 ?_
    refine xs_icmp_le (k' := 11) rfl rfl (fun hb => ?_) (fun hb => ?_)
    · have h := h.1 hb
      refine xs_aload_n rfl rfl ?_
      obtain ⟨p3, ⟨_, h1, h2⟩, h⟩ := h
      refine xs_getf rfl fl_0_15 h1 h2 ?_
      refine xs_iload_n rfl rfl ?_
      obtain ⟨c4, h1, h2, h⟩ := h
      refine xs_putf rfl fl_0_53 h1 (fun q hq => by cases hq; rfl) rfl h2 ?_
      have h := h _ rfl
      generalize H.set p3 (.inr (7, c4.set 1 (.int v1))) = H5 at h ⊢
      exact xs_vret rfl rfl h.1 h.2.1 h.2.2
    · have h := h.2 hb
      exact h

set_option maxRecDepth 20000 in
theorem b_RP_end_8 {l : Launch} {x : xX} {d mc ms n0 uc us : Nat} {Q : xO → xH → Prop} {cl : Bool} {r0 : Nat} {v1 : Int32} {q0 : Nat} {H : xH}
    (h : xW l x d mc ms mRP_end n0 Q cl 9 [some (.ref r0), some (.int v1)] [.ref q0, .ref q0] H uc us) :
    xW l x d mc ms mRP_end n0 Q cl 8 [some (.ref r0), some (.int v1)] [.ref q0] H uc us := by
  refine xs_dup rfl rfl ?_
  exact h

-- b_RP_end_10: .athrow
set_option maxRecDepth 20000 in
theorem b_RP_again_0 {l : Launch} {x : xX} {d mc ms n0 uc us : Nat} {Q : xO → xH → Prop} {cl : Bool} {r0 : Nat} {v1 : Int32} {v2 : Int32} {H : xH}
    (h : (v2 < 0 → xW l x d mc ms mRP_again n0 Q cl 10 [some (.ref r0), some (.int v1), some (.int v2)] [] H uc us) ∧ (¬ v2 < 0 → (v1 < 1 → xW l x d mc ms mRP_again n0 Q cl 10 [some (.ref r0), some (.int v1), some (.int v2)] [] H uc us) ∧ (¬ v1 < 1 → ∃ p1, gR H r0 0 0 p1 ∧ (∃ a2, gI H p1 7 1 a2 ∧ ((v1 ≤ a2 → ∃ p3, gR H r0 0 0 p3 ∧ (∃ a4, gI H p3 7 1 a4 ∧ ((v2 ≤ ((32768 : Int32) - a4) → ∃ p5, gR H r0 0 0 p5 ∧ (xW l x d mc ms mRP_again n0 Q cl 29 [some (.ref r0), some (.int v1), some (.int v2)] [.int v2, .int v1, .ref p5] H uc us)) ∧ (¬ v2 ≤ ((32768 : Int32) - a4) → xW l x d mc ms mRP_again n0 Q cl 21 [some (.ref r0), some (.int v1), some (.int v2)] [] H uc us)))) ∧ (¬ v1 ≤ a2 → xW l x d mc ms mRP_again n0 Q cl 10 [some (.ref r0), some (.int v1), some (.int v2)] [] H uc us)))))) :
    xW l x d mc ms mRP_again n0 Q cl 0 [some (.ref r0), some (.int v1), some (.int v2)] [] H uc us := by
  refine xs_iload_n rfl rfl ?_
  refine xs_if_lt (k' := 10) rfl rfl (fun hb => ?_) (fun hb => ?_)
  · have h := h.1 hb
    exact h
  · have h := h.2 hb
    refine xs_iload_n rfl rfl ?_
    refine xs_iconstV (v := 1) rfl rfl ?_
    refine xs_icmp_lt (k' := 10) rfl rfl (fun hb => ?_) (fun hb => ?_)
    · have h := h.1 hb
      exact h
    · have h := h.2 hb
      refine xs_iload_n rfl rfl ?_
      refine xs_aload_n rfl rfl ?_
      obtain ⟨p1, ⟨_, h1, h2⟩, h⟩ := h
      refine xs_getf rfl fl_0_15 h1 h2 ?_
      obtain ⟨a2, ⟨_, h1, h2⟩, h⟩ := h
      refine xs_getf rfl fl_0_53 h1 h2 ?_
      refine xs_icmp_le (k' := 14) rfl rfl (fun hb => ?_) (fun hb => ?_)
      · have h := h.1 hb
        refine xs_iload_n rfl rfl ?_
        refine xs_ldc rfl kc_0_11 ?_
        refine xs_aload_n rfl rfl ?_
        obtain ⟨p3, ⟨_, h1, h2⟩, h⟩ := h
        refine xs_getf rfl fl_0_15 h1 h2 ?_
        obtain ⟨a4, ⟨_, h1, h2⟩, h⟩ := h
        refine xs_getf rfl fl_0_53 h1 h2 ?_
        refine xs_isub rfl ?_
        refine xs_icmp_le (k' := 25) rfl rfl (fun hb => ?_) (fun hb => ?_)
        · have h := h.1 hb
          refine xs_aload_n rfl rfl ?_
          obtain ⟨p5, ⟨_, h1, h2⟩, h⟩ := h
          refine xs_getf rfl fl_0_15 h1 h2 ?_
          refine xs_iload_n rfl rfl ?_
          refine xs_iload_n rfl rfl ?_
          exact h
        · have h := h.2 hb
          exact h
      · have h := h.2 hb
        exact h

set_option maxRecDepth 20000 in
theorem b_RP_again_11 {l : Launch} {x : xX} {d mc ms n0 uc us : Nat} {Q : xO → xH → Prop} {cl : Bool} {r0 : Nat} {v1 : Int32} {v2 : Int32} {q0 : Nat} {H : xH}
    (h : xW l x d mc ms mRP_again n0 Q cl 12 [some (.ref r0), some (.int v1), some (.int v2)] [.ref q0, .ref q0] H uc us) :
    xW l x d mc ms mRP_again n0 Q cl 11 [some (.ref r0), some (.int v1), some (.int v2)] [.ref q0] H uc us := by
  refine xs_dup rfl rfl ?_
  exact h

-- b_RP_again_13: .athrow
set_option maxRecDepth 20000 in
theorem b_RP_again_22 {l : Launch} {x : xX} {d mc ms n0 uc us : Nat} {Q : xO → xH → Prop} {cl : Bool} {r0 : Nat} {v1 : Int32} {v2 : Int32} {q0 : Nat} {H : xH}
    (h : xW l x d mc ms mRP_again n0 Q cl 23 [some (.ref r0), some (.int v1), some (.int v2)] [.ref q0, .ref q0] H uc us) :
    xW l x d mc ms mRP_again n0 Q cl 22 [some (.ref r0), some (.int v1), some (.int v2)] [.ref q0] H uc us := by
  refine xs_dup rfl rfl ?_
  exact h

-- b_RP_again_24: .athrow
set_option maxRecDepth 20000 in
theorem b_RP_again_30 {l : Launch} {x : xX} {d mc ms n0 uc us : Nat} {Q : xO → xH → Prop} {cl : Bool} {r0 : Nat} {v1 : Int32} {v2 : Int32} {H : xH}
    (h : ∃ p1, gR H r0 0 0 p1 ∧ (∃ a2, gI H p1 7 1 a2 ∧ (uc = mc ∧ us ≤ ms ∧ Q (.inl (some (.int a2))) H))) :
    xW l x d mc ms mRP_again n0 Q cl 30 [some (.ref r0), some (.int v1), some (.int v2)] [] H uc us := by
  refine xs_aload_n rfl rfl ?_
  obtain ⟨p1, ⟨_, h1, h2⟩, h⟩ := h
  refine xs_getf rfl fl_0_15 h1 h2 ?_
  obtain ⟨a2, ⟨_, h1, h2⟩, h⟩ := h
  refine xs_getf rfl fl_0_53 h1 h2 ?_
  exact xs_iret rfl rfl h.1 h.2.1 h.2.2

set_option maxRecDepth 20000 in
theorem b_RO_repeat_0 {l : Launch} {x : xX} {d mc ms n0 uc us : Nat} {Q : xO → xH → Prop} {cl : Bool} {r0 : Nat} {v1 : Int32} {v2 : Int32} {H : xH}
    (h : ∃ a1, gI H r0 7 1 a1 ∧ (∃ a2, gI H r0 7 1 a2 ∧ (xW l x d mc ms mRO_repeat n0 Q cl 8 [some (.ref r0), some (.int v1), some (.int v2), some (.int (a1 + v2)), some (.int a2)] [] H uc us))) :
    xW l x d mc ms mRO_repeat n0 Q cl 0 [some (.ref r0), some (.int v1), some (.int v2), none, none] [] H uc us := by
  refine xs_aload_n rfl rfl ?_
  obtain ⟨a1, ⟨_, h1, h2⟩, h⟩ := h
  refine xs_getf rfl fl_7_13 h1 h2 ?_
  refine xs_iload_n rfl rfl ?_
  refine xs_iadd rfl ?_
  refine xs_istore_n rfl (L' := [some (.ref r0), some (.int v1), some (.int v2), some (.int (a1 + v2)), none]) rfl rfl ?_
  refine xs_aload_n rfl rfl ?_
  obtain ⟨a2, ⟨_, h1, h2⟩, h⟩ := h
  refine xs_getf rfl fl_7_13 h1 h2 ?_
  refine xs_istore rfl (L' := [some (.ref r0), some (.int v1), some (.int v2), some (.int (a1 + v2)), some (.int a2)]) rfl rfl ?_
  exact h

set_option maxRecDepth 20000 in
theorem b_RO_repeat_8 {l : Launch} {x : xX} {d mc ms n0 uc us : Nat} {Q : xO → xH → Prop} {cl : Bool} {r0 : Nat} {v1 : Int32} {v2 : Int32} {v3 : Int32} {v4 : Int32} {H : xH}
    (h : (v3 ≤ v4 → ∃ c1, H[(r0 : Nat)]? = some (.inr (7, c1)) ∧ 1 < c1.length ∧ (∀ H2 : xH, H2 = H.set r0 (.inr (7, c1.set 1 (.int v3))) → uc = mc ∧ us ≤ ms ∧ Q (.inl none) H2)) ∧ (¬ v3 ≤ v4 → ∃ p3, gR H r0 7 0 p3 ∧ (∃ p4, gR H r0 7 0 p4 ∧ (∃ n5 f6, H[(p4 : Nat)]? = some (.inl (1, n5, .inl f6)) ∧ vp_in (v4 - v1) n5 ∧ (∃ n7 f8, H[(p3 : Nat)]? = some (.inl (1, n7, .inl f8)) ∧ vp_in v4 n7 ∧ (∀ H9 : xH, H9 = H.set p3 (.inl (1, n7, .inl (upd f8 (v4.toNatClampNeg) (vp_nar .byte ((f6 (v4 - v1).toNatClampNeg)))))) → xW l x d mc ms mRO_repeat n0 Q false 8 [some (.ref r0), some (.int v1), some (.int v2), some (.int v3), some (.int (v4 + 1))] [] H9 uc us)))))) :
    xW l x d mc ms mRO_repeat n0 Q cl 8 [some (.ref r0), some (.int v1), some (.int v2), some (.int v3), some (.int v4)] [] H uc us := by
  refine xs_iload rfl rfl ?_
  refine xs_iload_n rfl rfl ?_
  refine xs_icmp_ge (k' := 23) rfl rfl (fun hb => ?_) (fun hb => ?_)
  · have h := h.1 hb
    refine xs_aload_n rfl rfl ?_
    refine xs_iload_n rfl rfl ?_
    obtain ⟨c1, h1, h2, h⟩ := h
    refine xs_putf rfl fl_7_13 h1 (fun q hq => by cases hq; rfl) rfl h2 ?_
    have h := h _ rfl
    generalize H.set r0 (.inr (7, c1.set 1 (.int v3))) = H2 at h ⊢
    exact xs_vret rfl rfl h.1 h.2.1 h.2.2
  · have h := h.2 hb
    refine xs_aload_n rfl rfl ?_
    obtain ⟨p3, ⟨_, h1, h2⟩, h⟩ := h
    refine xs_getf rfl fl_7_7 h1 h2 ?_
    refine xs_iload rfl rfl ?_
    refine xs_aload_n rfl rfl ?_
    obtain ⟨p4, ⟨_, h1, h2⟩, h⟩ := h
    refine xs_getf rfl fl_7_7 h1 h2 ?_
    refine xs_iload rfl rfl ?_
    refine xs_iload_n rfl rfl ?_
    refine xs_isub rfl ?_
    obtain ⟨n5, f6, h1, h2, h⟩ := h
    refine xs_bald rfl h1 h2 ?_
    obtain ⟨n7, f8, h1, h2, h⟩ := h
    refine xs_bast rfl h1 h2 ?_
    have h := h _ rfl
    generalize H.set p3 (.inl (1, n7, .inl (upd f8 (v4.toNatClampNeg) (vp_nar .byte ((f6 (v4 - v1).toNatClampNeg)))))) = H9 at h ⊢
    refine xs_iincV rfl (w := 1) rfl rfl (L' := [some (.ref r0), some (.int v1), some (.int v2), some (.int v3), some (.int (v4 + 1))]) rfl rfl ?_
    refine xs_goto (k' := 8) rfl rfl ?_
    exact h

set_option maxRecDepth 20000 in
theorem b_RP_change_0 {l : Launch} {x : xX} {d mc ms n0 uc us : Nat} {Q : xO → xH → Prop} {cl : Bool} {r0 : Nat} {v1 : Int32} {v2 : Int32} {H : xH}
    (h : (v1 < 0 → xW l x d mc ms mRP_change n0 Q cl 7 [some (.ref r0), some (.int v1), some (.int v2)] [] H uc us) ∧ (¬ v1 < 0 → ∃ p1, gR H r0 0 0 p1 ∧ (∃ a2, gI H p1 7 1 a2 ∧ ((v1 < a2 → (v2 < 0 → xW l x d mc ms mRP_change n0 Q cl 16 [some (.ref r0), some (.int v1), some (.int v2)] [] H uc us) ∧ (¬ v2 < 0 → (v2 ≤ 255 → ∃ p3, gR H r0 0 0 p3 ∧ (∃ p4, gR H p3 7 0 p4 ∧ (∃ p5, gR H r0 0 0 p5 ∧ (∃ p6, gR H p5 7 0 p6 ∧ (∃ n7 f8, H[(p6 : Nat)]? = some (.inl (1, n7, .inl f8)) ∧ vp_in v1 n7 ∧ (∃ n9 f10, H[(p4 : Nat)]? = some (.inl (1, n9, .inl f10)) ∧ vp_in v1 n9 ∧ (∀ H11 : xH, H11 = H.set p4 (.inl (1, n9, .inl (upd f10 (v1.toNatClampNeg) (vp_nar .byte (((f8 v1.toNatClampNeg) ^^^ v2).toInt8.toInt32))))) → ∃ p12, gR H11 r0 0 0 p12 ∧ (xW l x d mc ms mRP_change n0 Q false 36 [some (.ref r0), some (.int v1), some (.int v2)] [.int v1, .ref p12] H11 uc us)))))))) ∧ (¬ v2 ≤ 255 → xW l x d mc ms mRP_change n0 Q cl 16 [some (.ref r0), some (.int v1), some (.int v2)] [] H uc us))) ∧ (¬ v1 < a2 → xW l x d mc ms mRP_change n0 Q cl 7 [some (.ref r0), some (.int v1), some (.int v2)] [] H uc us))))) :
    xW l x d mc ms mRP_change n0 Q cl 0 [some (.ref r0), some (.int v1), some (.int v2)] [] H uc us := by
  refine xs_iload_n rfl rfl ?_
  refine xs_if_lt (k' := 7) rfl rfl (fun hb => ?_) (fun hb => ?_)
  · have h := h.1 hb
    exact h
  · have h := h.2 hb
    refine xs_iload_n rfl rfl ?_
    refine xs_aload_n rfl rfl ?_
    obtain ⟨p1, ⟨_, h1, h2⟩, h⟩ := h
    refine xs_getf rfl fl_0_15 h1 h2 ?_
    obtain ⟨a2, ⟨_, h1, h2⟩, h⟩ := h
    refine xs_getf rfl fl_0_53 h1 h2 ?_
    refine xs_icmp_lt (k' := 11) rfl rfl (fun hb => ?_) (fun hb => ?_)
    · have h := h.1 hb
      refine xs_iload_n rfl rfl ?_
      refine xs_if_lt (k' := 16) rfl rfl (fun hb => ?_) (fun hb => ?_)
      · have h := h.1 hb
        exact h
      · have h := h.2 hb
        refine xs_iload_n rfl rfl ?_
        refine xs_sipushV (v := 255) rfl rfl ?_
        refine xs_icmp_le (k' := 20) rfl rfl (fun hb => ?_) (fun hb => ?_)
        · have h := h.1 hb
          refine xs_aload_n rfl rfl ?_
          obtain ⟨p3, ⟨_, h1, h2⟩, h⟩ := h
          refine xs_getf rfl fl_0_15 h1 h2 ?_
          obtain ⟨p4, ⟨_, h1, h2⟩, h⟩ := h
          refine xs_getf rfl fl_0_73 h1 h2 ?_
          refine xs_iload_n rfl rfl ?_
          refine xs_aload_n rfl rfl ?_
          obtain ⟨p5, ⟨_, h1, h2⟩, h⟩ := h
          refine xs_getf rfl fl_0_15 h1 h2 ?_
          obtain ⟨p6, ⟨_, h1, h2⟩, h⟩ := h
          refine xs_getf rfl fl_0_73 h1 h2 ?_
          refine xs_iload_n rfl rfl ?_
          obtain ⟨n7, f8, h1, h2, h⟩ := h
          refine xs_bald rfl h1 h2 ?_
          refine xs_iload_n rfl rfl ?_
          refine xs_ixor rfl ?_
          refine xs_i2b rfl ?_
          obtain ⟨n9, f10, h1, h2, h⟩ := h
          refine xs_bast rfl h1 h2 ?_
          have h := h _ rfl
          generalize H.set p4 (.inl (1, n9, .inl (upd f10 (v1.toNatClampNeg) (vp_nar .byte (((f8 v1.toNatClampNeg) ^^^ v2).toInt8.toInt32))))) = H11 at h ⊢
          refine xs_aload_n rfl rfl ?_
          obtain ⟨p12, ⟨_, h1, h2⟩, h⟩ := h
          refine xs_getf rfl fl_0_15 h1 h2 ?_
          refine xs_iload_n rfl rfl ?_
          exact h
        · have h := h.2 hb
          exact h
    · have h := h.2 hb
      exact h

set_option maxRecDepth 20000 in
theorem b_RP_change_8 {l : Launch} {x : xX} {d mc ms n0 uc us : Nat} {Q : xO → xH → Prop} {cl : Bool} {r0 : Nat} {v1 : Int32} {v2 : Int32} {q0 : Nat} {H : xH}
    (h : xW l x d mc ms mRP_change n0 Q cl 9 [some (.ref r0), some (.int v1), some (.int v2)] [.ref q0, .ref q0] H uc us) :
    xW l x d mc ms mRP_change n0 Q cl 8 [some (.ref r0), some (.int v1), some (.int v2)] [.ref q0] H uc us := by
  refine xs_dup rfl rfl ?_
  exact h

-- b_RP_change_10: .athrow
set_option maxRecDepth 20000 in
theorem b_RP_change_17 {l : Launch} {x : xX} {d mc ms n0 uc us : Nat} {Q : xO → xH → Prop} {cl : Bool} {r0 : Nat} {v1 : Int32} {v2 : Int32} {q0 : Nat} {H : xH}
    (h : xW l x d mc ms mRP_change n0 Q cl 18 [some (.ref r0), some (.int v1), some (.int v2)] [.ref q0, .ref q0] H uc us) :
    xW l x d mc ms mRP_change n0 Q cl 17 [some (.ref r0), some (.int v1), some (.int v2)] [.ref q0] H uc us := by
  refine xs_dup rfl rfl ?_
  exact h

-- b_RP_change_19: .athrow
set_option maxRecDepth 20000 in
theorem b_RP_change_37 {l : Launch} {x : xX} {d mc ms n0 uc us : Nat} {Q : xO → xH → Prop} {cl : Bool} {r0 : Nat} {v1 : Int32} {v2 : Int32} {u0 : Int32} {H : xH}
    (h : uc = mc ∧ us ≤ ms ∧ Q (.inl (some (.int u0))) H) :
    xW l x d mc ms mRP_change n0 Q cl 37 [some (.ref r0), some (.int v1), some (.int v2)] [.int u0] H uc us := by
  exact xs_iret rfl rfl h.1 h.2.1 h.2.2

set_option maxRecDepth 20000 in
theorem b_RO_byteAt_0 {l : Launch} {x : xX} {d mc ms n0 uc us : Nat} {Q : xO → xH → Prop} {cl : Bool} {r0 : Nat} {v1 : Int32} {H : xH}
    (h : ∃ p1, gR H r0 7 0 p1 ∧ (∃ n2 f3, H[(p1 : Nat)]? = some (.inl (1, n2, .inl f3)) ∧ vp_in v1 n2 ∧ (uc = mc ∧ us ≤ ms ∧ Q (.inl (some (.int ((f3 v1.toNatClampNeg) &&& 255)))) H))) :
    xW l x d mc ms mRO_byteAt n0 Q cl 0 [some (.ref r0), some (.int v1)] [] H uc us := by
  refine xs_aload_n rfl rfl ?_
  obtain ⟨p1, ⟨_, h1, h2⟩, h⟩ := h
  refine xs_getf rfl fl_7_7 h1 h2 ?_
  refine xs_iload_n rfl rfl ?_
  obtain ⟨n2, f3, h1, h2, h⟩ := h
  refine xs_bald rfl h1 h2 ?_
  refine xs_sipushV (v := 255) rfl rfl ?_
  refine xs_iand rfl ?_
  exact xs_iret rfl rfl h.1 h.2.1 h.2.2

set_option maxRecDepth 20000 in
theorem b_RP_pack_0 {l : Launch} {x : xX} {d mc ms n0 uc us : Nat} {Q : xO → xH → Prop} {cl : Bool} {r0 : Nat} {v1 : Int32} {H : xH}
    (h : (v1 < 0 → xW l x d mc ms mRP_pack n0 Q cl 5 [some (.ref r0), some (.int v1)] [] H uc us) ∧ (¬ v1 < 0 → (v1 ≤ 2 → ∃ p1, gR H r0 0 4 p1 ∧ (xW l x d mc ms mRP_pack n0 Q cl 12 [some (.ref r0), some (.int v1)] [.int v1, .ref p1] H uc us)) ∧ (¬ v1 ≤ 2 → xW l x d mc ms mRP_pack n0 Q cl 5 [some (.ref r0), some (.int v1)] [] H uc us))) :
    xW l x d mc ms mRP_pack n0 Q cl 0 [some (.ref r0), some (.int v1)] [] H uc us := by
  refine xs_iload_n rfl rfl ?_
  refine xs_if_lt (k' := 5) rfl rfl (fun hb => ?_) (fun hb => ?_)
  · have h := h.1 hb
    exact h
  · have h := h.2 hb
    refine xs_iload_n rfl rfl ?_
    refine xs_iconstV (v := 2) rfl rfl ?_
    refine xs_icmp_le (k' := 9) rfl rfl (fun hb => ?_) (fun hb => ?_)
    · have h := h.1 hb
      refine xs_aload_n rfl rfl ?_
      obtain ⟨p1, ⟨_, h1, h2⟩, h⟩ := h
      refine xs_getf rfl fl_0_42 h1 h2 ?_
      refine xs_iload_n rfl rfl ?_
      exact h
    · have h := h.2 hb
      exact h

set_option maxRecDepth 20000 in
theorem b_RP_pack_6 {l : Launch} {x : xX} {d mc ms n0 uc us : Nat} {Q : xO → xH → Prop} {cl : Bool} {r0 : Nat} {v1 : Int32} {q0 : Nat} {H : xH}
    (h : xW l x d mc ms mRP_pack n0 Q cl 7 [some (.ref r0), some (.int v1)] [.ref q0, .ref q0] H uc us) :
    xW l x d mc ms mRP_pack n0 Q cl 6 [some (.ref r0), some (.int v1)] [.ref q0] H uc us := by
  refine xs_dup rfl rfl ?_
  exact h

-- b_RP_pack_8: .athrow
set_option maxRecDepth 20000 in
theorem b_RP_pack_13 {l : Launch} {x : xX} {d mc ms n0 uc us : Nat} {Q : xO → xH → Prop} {cl : Bool} {r0 : Nat} {v1 : Int32} {H : xH}
    (h : ∃ p1, gR H r0 0 1 p1 ∧ (∃ a2, gI H p1 7 1 a2 ∧ (uc = mc ∧ us ≤ ms ∧ Q (.inl (some (.int a2))) H))) :
    xW l x d mc ms mRP_pack n0 Q cl 13 [some (.ref r0), some (.int v1)] [] H uc us := by
  refine xs_aload_n rfl rfl ?_
  obtain ⟨p1, ⟨_, h1, h2⟩, h⟩ := h
  refine xs_getf rfl fl_0_20 h1 h2 ?_
  obtain ⟨a2, ⟨_, h1, h2⟩, h⟩ := h
  refine xs_getf rfl fl_0_53 h1 h2 ?_
  exact xs_iret rfl rfl h.1 h.2.1 h.2.2

set_option maxRecDepth 20000 in
theorem b_RE_clear_0 {l : Launch} {x : xX} {d mc ms n0 uc us : Nat} {Q : xO → xH → Prop} {cl : Bool} {r0 : Nat} {H : xH}
    (h : ∃ c1, H[(r0 : Nat)]? = some (.inr (6, c1)) ∧ 1 < c1.length ∧ (∀ H2 : xH, H2 = H.set r0 (.inr (6, c1.set 1 (.int 0))) → ∃ c3, H2[(r0 : Nat)]? = some (.inr (6, c3)) ∧ 2 < c3.length ∧ (∀ H4 : xH, H4 = H2.set r0 (.inr (6, c3.set 2 (.int (-1)))) → ∃ c5, H4[(r0 : Nat)]? = some (.inr (6, c5)) ∧ 3 < c5.length ∧ (∀ H6 : xH, H6 = H4.set r0 (.inr (6, c5.set 3 (.int 0))) → ∃ c7, H6[(r0 : Nat)]? = some (.inr (6, c7)) ∧ 4 < c7.length ∧ (∀ H8 : xH, H8 = H6.set r0 (.inr (6, c7.set 4 (.int 0))) → uc = mc ∧ us ≤ ms ∧ Q (.inl none) H8))))) :
    xW l x d mc ms mRE_clear n0 Q cl 0 [some (.ref r0)] [] H uc us := by
  refine xs_aload_n rfl rfl ?_
  refine xs_iconstV (v := 0) rfl rfl ?_
  obtain ⟨c1, h1, h2, h⟩ := h
  refine xs_putf rfl fl_6_19 h1 (fun q hq => by cases hq; rfl) rfl h2 ?_
  have h := h _ rfl
  generalize H.set r0 (.inr (6, c1.set 1 (.int 0))) = H2 at h ⊢
  refine xs_aload_n rfl rfl ?_
  refine xs_iconstV (v := (-1)) rfl rfl ?_
  obtain ⟨c3, h1, h2, h⟩ := h
  refine xs_putf rfl fl_6_15 h1 (fun q hq => by cases hq; rfl) rfl h2 ?_
  have h := h _ rfl
  generalize H2.set r0 (.inr (6, c3.set 2 (.int (-1)))) = H4 at h ⊢
  refine xs_aload_n rfl rfl ?_
  refine xs_iconstV (v := 0) rfl rfl ?_
  obtain ⟨c5, h1, h2, h⟩ := h
  refine xs_putf rfl fl_6_22 h1 (fun q hq => by cases hq; rfl) rfl h2 ?_
  have h := h _ rfl
  generalize H4.set r0 (.inr (6, c5.set 3 (.int 0))) = H6 at h ⊢
  refine xs_aload_n rfl rfl ?_
  refine xs_iconstV (v := 0) rfl rfl ?_
  obtain ⟨c7, h1, h2, h⟩ := h
  refine xs_putf rfl fl_6_25 h1 (fun q hq => by cases hq; rfl) rfl h2 ?_
  have h := h _ rfl
  generalize H6.set r0 (.inr (6, c7.set 4 (.int 0))) = H8 at h ⊢
  exact xs_vret rfl rfl h.1 h.2.1 h.2.2

set_option maxRecDepth 20000 in
theorem b_BW_restart_0 {l : Launch} {x : xX} {d mc ms n0 uc us : Nat} {Q : xO → xH → Prop} {cl : Bool} {r0 : Nat} {H : xH}
    (h : ∃ p1, gR H r0 1 0 p1 ∧ (∃ c2, H[(p1 : Nat)]? = some (.inr (7, c2)) ∧ 1 < c2.length ∧ (∀ H3 : xH, H3 = H.set p1 (.inr (7, c2.set 1 (.int 0))) → ∃ c4, H3[(r0 : Nat)]? = some (.inr (1, c4)) ∧ 1 < c4.length ∧ (∀ H5 : xH, H5 = H3.set r0 (.inr (1, c4.set 1 (.int 0))) → ∃ c6, H5[(r0 : Nat)]? = some (.inr (1, c6)) ∧ 2 < c6.length ∧ (∀ H7 : xH, H7 = H5.set r0 (.inr (1, c6.set 2 (.int 0))) → uc = mc ∧ us ≤ ms ∧ Q (.inl none) H7))))) :
    xW l x d mc ms mBW_restart n0 Q cl 0 [some (.ref r0)] [] H uc us := by
  refine xs_aload_n rfl rfl ?_
  obtain ⟨p1, ⟨_, h1, h2⟩, h⟩ := h
  refine xs_getf rfl fl_1_7 h1 h2 ?_
  refine xs_iconstV (v := 0) rfl rfl ?_
  obtain ⟨c2, h1, h2, h⟩ := h
  refine xs_putf rfl fl_1_13 h1 (fun q hq => by cases hq; rfl) rfl h2 ?_
  have h := h _ rfl
  generalize H.set p1 (.inr (7, c2.set 1 (.int 0))) = H3 at h ⊢
  refine xs_aload_n rfl rfl ?_
  refine xs_iconstV (v := 0) rfl rfl ?_
  obtain ⟨c4, h1, h2, h⟩ := h
  refine xs_putf rfl fl_1_19 h1 (fun q hq => by cases hq; rfl) rfl h2 ?_
  have h := h _ rfl
  generalize H3.set r0 (.inr (1, c4.set 1 (.int 0))) = H5 at h ⊢
  refine xs_aload_n rfl rfl ?_
  refine xs_iconstV (v := 0) rfl rfl ?_
  obtain ⟨c6, h1, h2, h⟩ := h
  refine xs_putf rfl fl_1_22 h1 (fun q hq => by cases hq; rfl) rfl h2 ?_
  have h := h _ rfl
  generalize H5.set r0 (.inr (1, c6.set 2 (.int 0))) = H7 at h ⊢
  exact xs_vret rfl rfl h.1 h.2.1 h.2.2

set_option maxRecDepth 20000 in
theorem b_BW_writeNumber_0 {l : Launch} {x : xX} {d mc ms n0 uc us : Nat} {Q : xO → xH → Prop} {cl : Bool} {r0 : Nat} {v1 : Int32} {v2 : Int32} {H : xH}
    (h : ∃ a1, gI H r0 1 1 a1 ∧ (∃ a2, gI H r0 1 2 a2 ∧ (∃ c3, H[(r0 : Nat)]? = some (.inr (1, c3)) ∧ 1 < c3.length ∧ (∀ H4 : xH, H4 = H.set r0 (.inr (1, c3.set 1 (.int (a1 ||| (v1 <<< ((a2 : Int32) &&& 31)))))) → ∃ a5, gI H4 r0 1 2 a5 ∧ (∃ c6, H4[(r0 : Nat)]? = some (.inr (1, c6)) ∧ 2 < c6.length ∧ (∀ H7 : xH, H7 = H4.set r0 (.inr (1, c6.set 2 (.int (a5 + v2)))) → xW l x d mc ms mBW_writeNumber n0 Q false 17 [some (.ref r0), some (.int v1), some (.int v2), some (.int 0)] [] H7 uc us)))))) :
    xW l x d mc ms mBW_writeNumber n0 Q cl 0 [some (.ref r0), some (.int v1), some (.int v2), none] [] H uc us := by
  refine xs_aload_n rfl rfl ?_
  refine xs_dup rfl rfl ?_
  obtain ⟨a1, ⟨_, h1, h2⟩, h⟩ := h
  refine xs_getf rfl fl_1_19 h1 h2 ?_
  refine xs_iload_n rfl rfl ?_
  refine xs_aload_n rfl rfl ?_
  obtain ⟨a2, ⟨_, h1, h2⟩, h⟩ := h
  refine xs_getf rfl fl_1_22 h1 h2 ?_
  refine xs_ishl rfl ?_
  refine xs_ior rfl ?_
  obtain ⟨c3, h1, h2, h⟩ := h
  refine xs_putf rfl fl_1_19 h1 (fun q hq => by cases hq; rfl) rfl h2 ?_
  have h := h _ rfl
  generalize H.set r0 (.inr (1, c3.set 1 (.int (a1 ||| (v1 <<< ((a2 : Int32) &&& 31)))))) = H4 at h ⊢
  refine xs_aload_n rfl rfl ?_
  refine xs_dup rfl rfl ?_
  obtain ⟨a5, ⟨_, h1, h2⟩, h⟩ := h
  refine xs_getf rfl fl_1_22 h1 h2 ?_
  refine xs_iload_n rfl rfl ?_
  refine xs_iadd rfl ?_
  obtain ⟨c6, h1, h2, h⟩ := h
  refine xs_putf rfl fl_1_22 h1 (fun q hq => by cases hq; rfl) rfl h2 ?_
  have h := h _ rfl
  generalize H4.set r0 (.inr (1, c6.set 2 (.int (a5 + v2)))) = H7 at h ⊢
  refine xs_iconstV (v := 0) rfl rfl ?_
  refine xs_istore_n rfl (L' := [some (.ref r0), some (.int v1), some (.int v2), some (.int 0)]) rfl rfl ?_
  exact h

set_option maxRecDepth 20000 in
theorem b_BW_writeNumber_17 {l : Launch} {x : xX} {d mc ms n0 uc us : Nat} {Q : xO → xH → Prop} {cl : Bool} {r0 : Nat} {v1 : Int32} {v2 : Int32} {v3 : Int32} {H : xH}
    (h : (3 ≤ v3 → uc = mc ∧ us ≤ ms ∧ Q (.inl none) H) ∧ (¬ 3 ≤ v3 → ∃ a1, gI H r0 1 2 a1 ∧ ((a1 < 8 → uc = mc ∧ us ≤ ms ∧ Q (.inl none) H) ∧ (¬ a1 < 8 → ∃ p2, gR H r0 1 0 p2 ∧ (∃ a3, gI H r0 1 1 a3 ∧ (xW l x d mc ms mBW_writeNumber n0 Q cl 28 [some (.ref r0), some (.int v1), some (.int v2), some (.int v3)] [.int a3, .ref p2] H uc us)))))) :
    xW l x d mc ms mBW_writeNumber n0 Q cl 17 [some (.ref r0), some (.int v1), some (.int v2), some (.int v3)] [] H uc us := by
  refine xs_iload_n rfl rfl ?_
  refine xs_iconstV (v := 3) rfl rfl ?_
  refine xs_icmp_ge (k' := 43) rfl rfl (fun hb => ?_) (fun hb => ?_)
  · have h := h.1 hb
    exact xs_vret rfl rfl h.1 h.2.1 h.2.2
  · have h := h.2 hb
    refine xs_aload_n rfl rfl ?_
    obtain ⟨a1, ⟨_, h1, h2⟩, h⟩ := h
    refine xs_getf rfl fl_1_22 h1 h2 ?_
    refine xs_bipushV (v := 8) rfl rfl ?_
    refine xs_icmp_lt (k' := 43) rfl rfl (fun hb => ?_) (fun hb => ?_)
    · have h := h.1 hb
      exact xs_vret rfl rfl h.1 h.2.1 h.2.2
    · have h := h.2 hb
      refine xs_aload_n rfl rfl ?_
      obtain ⟨p2, ⟨_, h1, h2⟩, h⟩ := h
      refine xs_getf rfl fl_1_7 h1 h2 ?_
      refine xs_aload_n rfl rfl ?_
      obtain ⟨a3, ⟨_, h1, h2⟩, h⟩ := h
      refine xs_getf rfl fl_1_19 h1 h2 ?_
      exact h

set_option maxRecDepth 20000 in
theorem b_BW_writeNumber_29 {l : Launch} {x : xX} {d mc ms n0 uc us : Nat} {Q : xO → xH → Prop} {cl : Bool} {r0 : Nat} {v1 : Int32} {v2 : Int32} {v3 : Int32} {H : xH}
    (h : ∃ a1, gI H r0 1 1 a1 ∧ (∃ c2, H[(r0 : Nat)]? = some (.inr (1, c2)) ∧ 1 < c2.length ∧ (∀ H3 : xH, H3 = H.set r0 (.inr (1, c2.set 1 (.int (a1.toUInt32 >>> ((8 : Int32).toUInt32 &&& Int32.toUInt32 31)).toInt32))) → ∃ a4, gI H3 r0 1 2 a4 ∧ (∃ c5, H3[(r0 : Nat)]? = some (.inr (1, c5)) ∧ 2 < c5.length ∧ (∀ H6 : xH, H6 = H3.set r0 (.inr (1, c5.set 2 (.int (a4 - 8)))) → xW l x d mc ms mBW_writeNumber n0 Q false 17 [some (.ref r0), some (.int v1), some (.int v2), some (.int (v3 + 1))] [] H6 uc us))))) :
    xW l x d mc ms mBW_writeNumber n0 Q cl 29 [some (.ref r0), some (.int v1), some (.int v2), some (.int v3)] [] H uc us := by
  refine xs_aload_n rfl rfl ?_
  refine xs_dup rfl rfl ?_
  obtain ⟨a1, ⟨_, h1, h2⟩, h⟩ := h
  refine xs_getf rfl fl_1_19 h1 h2 ?_
  refine xs_bipushV (v := 8) rfl rfl ?_
  refine xs_iushr rfl ?_
  obtain ⟨c2, h1, h2, h⟩ := h
  refine xs_putf rfl fl_1_19 h1 (fun q hq => by cases hq; rfl) rfl h2 ?_
  have h := h _ rfl
  generalize H.set r0 (.inr (1, c2.set 1 (.int (a1.toUInt32 >>> ((8 : Int32).toUInt32 &&& Int32.toUInt32 31)).toInt32))) = H3 at h ⊢
  refine xs_aload_n rfl rfl ?_
  refine xs_dup rfl rfl ?_
  obtain ⟨a4, ⟨_, h1, h2⟩, h⟩ := h
  refine xs_getf rfl fl_1_22 h1 h2 ?_
  refine xs_bipushV (v := 8) rfl rfl ?_
  refine xs_isub rfl ?_
  obtain ⟨c5, h1, h2, h⟩ := h
  refine xs_putf rfl fl_1_22 h1 (fun q hq => by cases hq; rfl) rfl h2 ?_
  have h := h _ rfl
  generalize H3.set r0 (.inr (1, c5.set 2 (.int (a4 - 8)))) = H6 at h ⊢
  refine xs_iincV rfl (w := 1) rfl rfl (L' := [some (.ref r0), some (.int v1), some (.int v2), some (.int (v3 + 1))]) rfl rfl ?_
  refine xs_goto (k' := 17) rfl rfl ?_
  exact h

set_option maxRecDepth 20000 in
theorem b_MA_min_0 {l : Launch} {x : xX} {d mc ms n0 uc us : Nat} {Q : xO → xH → Prop} {cl : Bool} {v0 : Int32} {v1 : Int32} {H : xH}
    (h : (v1 < v0 → uc = mc ∧ us ≤ ms ∧ Q (.inl (some (.int v1))) H) ∧ (¬ v1 < v0 → uc = mc ∧ us ≤ ms ∧ Q (.inl (some (.int v0))) H)) :
    xW l x d mc ms mMA_min n0 Q cl 0 [some (.int v0), some (.int v1)] [] H uc us := by
  refine xs_iload_n rfl rfl ?_
  refine xs_iload_n rfl rfl ?_
  refine xs_icmp_gt (k' := 5) rfl rfl (fun hb => ?_) (fun hb => ?_)
  · have h := h.1 hb
    refine xs_iload_n rfl rfl ?_
    exact xs_iret rfl rfl h.1 h.2.1 h.2.2
  · have h := h.2 hb
    refine xs_iload_n rfl rfl ?_
    refine xs_goto (k' := 6) rfl rfl ?_
    exact xs_iret rfl rfl h.1 h.2.1 h.2.2

set_option maxRecDepth 20000 in
theorem b_MA_max_0 {l : Launch} {x : xX} {d mc ms n0 uc us : Nat} {Q : xO → xH → Prop} {cl : Bool} {v0 : Int32} {v1 : Int32} {H : xH}
    (h : (v0 < v1 → uc = mc ∧ us ≤ ms ∧ Q (.inl (some (.int v1))) H) ∧ (¬ v0 < v1 → uc = mc ∧ us ≤ ms ∧ Q (.inl (some (.int v0))) H)) :
    xW l x d mc ms mMA_max n0 Q cl 0 [some (.int v0), some (.int v1)] [] H uc us := by
  refine xs_iload_n rfl rfl ?_
  refine xs_iload_n rfl rfl ?_
  refine xs_icmp_lt (k' := 5) rfl rfl (fun hb => ?_) (fun hb => ?_)
  · have h := h.1 hb
    refine xs_iload_n rfl rfl ?_
    exact xs_iret rfl rfl h.1 h.2.1 h.2.2
  · have h := h.2 hb
    refine xs_iload_n rfl rfl ?_
    refine xs_goto (k' := 6) rfl rfl ?_
    exact xs_iret rfl rfl h.1 h.2.1 h.2.2

set_option maxRecDepth 20000 in
theorem b_RP_lengthSymbol_0 {l : Launch} {x : xX} {d mc ms n0 uc us : Nat} {Q : xO → xH → Prop} {cl : Bool} {v0 : Int32} {H : xH}
    (h : (¬ v0 = 258 → xW l x d mc ms mRP_lengthSymbol n0 Q cl 11 [some (.int v0), some (.int (v0 - 3)), none] [.int 8, .int (v0 - 3)] H uc us) ∧ (v0 = 258 → uc = mc ∧ us ≤ ms ∧ Q (.inl (some (.int 28))) H)) :
    xW l x d mc ms mRP_lengthSymbol n0 Q cl 0 [some (.int v0), none, none] [] H uc us := by
  refine xs_iload_n rfl rfl ?_
  refine xs_sipushV (v := 258) rfl rfl ?_
  refine xs_icmp_ne (k' := 5) rfl rfl (fun hb => ?_) (fun hb => ?_)
  · have h := h.1 hb
    refine xs_iload_n rfl rfl ?_
    refine xs_iconstV (v := 3) rfl rfl ?_
    refine xs_isub rfl ?_
    refine xs_istore_n rfl (L' := [some (.int v0), some (.int (v0 - 3)), none]) rfl rfl ?_
    refine xs_iload_n rfl rfl ?_
    refine xs_bipushV (v := 8) rfl rfl ?_
    exact h
  · have h := h.2 hb
    refine xs_bipushV (v := 28) rfl rfl ?_
    exact xs_iret rfl rfl h.1 h.2.1 h.2.2

set_option maxRecDepth 20000 in
theorem b_RP_lengthSymbol_12 {l : Launch} {x : xX} {d mc ms n0 uc us : Nat} {Q : xO → xH → Prop} {cl : Bool} {v0 : Int32} {v1 : Int32} {u0 : Int32} {H : xH}
    (h : uc = mc ∧ us ≤ ms ∧ Q (.inl (some (.int (((4 : Int32) * u0) + (v1 >>> ((u0 : Int32) &&& 31)))))) H) :
    xW l x d mc ms mRP_lengthSymbol n0 Q cl 12 [some (.int v0), some (.int v1), none] [.int u0] H uc us := by
  refine xs_istore_n rfl (L' := [some (.int v0), some (.int v1), some (.int u0)]) rfl rfl ?_
  refine xs_iconstV (v := 4) rfl rfl ?_
  refine xs_iload_n rfl rfl ?_
  refine xs_imul rfl ?_
  refine xs_iload_n rfl rfl ?_
  refine xs_iload_n rfl rfl ?_
  refine xs_ishr rfl ?_
  refine xs_iadd rfl ?_
  exact xs_iret rfl rfl h.1 h.2.1 h.2.2

set_option maxRecDepth 20000 in
theorem b_RP_bitsAbove_0 {l : Launch} {x : xX} {d mc ms n0 uc us : Nat} {Q : xO → xH → Prop} {cl : Bool} {v0 : Int32} {v1 : Int32} {H : xH}
    (h : xW l x d mc ms mRP_bitsAbove n0 Q cl 2 [some (.int v0), some (.int v1), some (.int 0)] [] H uc us) :
    xW l x d mc ms mRP_bitsAbove n0 Q cl 0 [some (.int v0), some (.int v1), none] [] H uc us := by
  refine xs_iconstV (v := 0) rfl rfl ?_
  refine xs_istore_n rfl (L' := [some (.int v0), some (.int v1), some (.int 0)]) rfl rfl ?_
  exact h

set_option maxRecDepth 20000 in
theorem b_RP_bitsAbove_2 {l : Launch} {x : xX} {d mc ms n0 uc us : Nat} {Q : xO → xH → Prop} {cl : Bool} {v0 : Int32} {v1 : Int32} {v2 : Int32} {H : xH}
    (h : (16 ≤ v2 → uc = mc ∧ us ≤ ms ∧ Q (.inl (some (.int v2))) H) ∧ (¬ 16 ≤ v2 → ((v0 >>> ((v2 : Int32) &&& 31)) < v1 → uc = mc ∧ us ≤ ms ∧ Q (.inl (some (.int v2))) H) ∧ (¬ (v0 >>> ((v2 : Int32) &&& 31)) < v1 → xW l x d mc ms mRP_bitsAbove n0 Q cl 2 [some (.int v0), some (.int v1), some (.int (v2 + 1))] [] H uc us))) :
    xW l x d mc ms mRP_bitsAbove n0 Q cl 2 [some (.int v0), some (.int v1), some (.int v2)] [] H uc us := by
  refine xs_iload_n rfl rfl ?_
  refine xs_bipushV (v := 16) rfl rfl ?_
  refine xs_icmp_ge (k' := 12) rfl rfl (fun hb => ?_) (fun hb => ?_)
  · have h := h.1 hb
    refine xs_iload_n rfl rfl ?_
    exact xs_iret rfl rfl h.1 h.2.1 h.2.2
  · have h := h.2 hb
    refine xs_iload_n rfl rfl ?_
    refine xs_iload_n rfl rfl ?_
    refine xs_ishr rfl ?_
    refine xs_iload_n rfl rfl ?_
    refine xs_icmp_lt (k' := 12) rfl rfl (fun hb => ?_) (fun hb => ?_)
    · have h := h.1 hb
      refine xs_iload_n rfl rfl ?_
      exact xs_iret rfl rfl h.1 h.2.1 h.2.2
    · have h := h.2 hb
      refine xs_iincV rfl (w := 1) rfl rfl (L' := [some (.int v0), some (.int v1), some (.int (v2 + 1))]) rfl rfl ?_
      refine xs_goto (k' := 2) rfl rfl ?_
      exact h

set_option maxRecDepth 20000 in
theorem b_RP_distanceSymbol_0 {l : Launch} {x : xX} {d mc ms n0 uc us : Nat} {Q : xO → xH → Prop} {cl : Bool} {v0 : Int32} {H : xH}
    (h : xW l x d mc ms mRP_distanceSymbol n0 Q cl 6 [some (.int v0), some (.int (v0 - 1)), none] [.int 4, .int (v0 - 1)] H uc us) :
    xW l x d mc ms mRP_distanceSymbol n0 Q cl 0 [some (.int v0), none, none] [] H uc us := by
  refine xs_iload_n rfl rfl ?_
  refine xs_iconstV (v := 1) rfl rfl ?_
  refine xs_isub rfl ?_
  refine xs_istore_n rfl (L' := [some (.int v0), some (.int (v0 - 1)), none]) rfl rfl ?_
  refine xs_iload_n rfl rfl ?_
  refine xs_iconstV (v := 4) rfl rfl ?_
  exact h

set_option maxRecDepth 20000 in
theorem b_RP_distanceSymbol_7 {l : Launch} {x : xX} {d mc ms n0 uc us : Nat} {Q : xO → xH → Prop} {cl : Bool} {v0 : Int32} {v1 : Int32} {u0 : Int32} {H : xH}
    (h : uc = mc ∧ us ≤ ms ∧ Q (.inl (some (.int (((2 : Int32) * u0) + (v1 >>> ((u0 : Int32) &&& 31)))))) H) :
    xW l x d mc ms mRP_distanceSymbol n0 Q cl 7 [some (.int v0), some (.int v1), none] [.int u0] H uc us := by
  refine xs_istore_n rfl (L' := [some (.int v0), some (.int v1), some (.int u0)]) rfl rfl ?_
  refine xs_iconstV (v := 2) rfl rfl ?_
  refine xs_iload_n rfl rfl ?_
  refine xs_imul rfl ?_
  refine xs_iload_n rfl rfl ?_
  refine xs_iload_n rfl rfl ?_
  refine xs_ishr rfl ?_
  refine xs_iadd rfl ?_
  exact xs_iret rfl rfl h.1 h.2.1 h.2.2

set_option maxRecDepth 20000 in
theorem b_RP_lengthBits_0 {l : Launch} {x : xX} {d mc ms n0 uc us : Nat} {Q : xO → xH → Prop} {cl : Bool} {v0 : Int32} {H : xH}
    (h : (v0 < 8 → uc = mc ∧ us ≤ ms ∧ Q (.inl (some (.int 0))) H) ∧ (¬ v0 < 8 → (¬ v0 = 28 → uc = mc ∧ us ≤ ms ∧ Q (.inl (some (.int ((v0 / 4) - 1)))) H) ∧ (v0 = 28 → uc = mc ∧ us ≤ ms ∧ Q (.inl (some (.int 0))) H))) :
    xW l x d mc ms mRP_lengthBits n0 Q cl 0 [some (.int v0)] [] H uc us := by
  refine xs_iload_n rfl rfl ?_
  refine xs_bipushV (v := 8) rfl rfl ?_
  refine xs_icmp_lt (k' := 6) rfl rfl (fun hb => ?_) (fun hb => ?_)
  · have h := h.1 hb
    refine xs_iconstV (v := 0) rfl rfl ?_
    refine xs_goto (k' := 13) rfl rfl ?_
    exact xs_iret rfl rfl h.1 h.2.1 h.2.2
  · have h := h.2 hb
    refine xs_iload_n rfl rfl ?_
    refine xs_bipushV (v := 28) rfl rfl ?_
    refine xs_icmp_ne (k' := 8) rfl rfl (fun hb => ?_) (fun hb => ?_)
    · have h := h.1 hb
      refine xs_iload_n rfl rfl ?_
      refine xs_iconstV (v := 4) rfl rfl ?_
      refine xs_idiv rfl (by decide) ?_
      refine xs_iconstV (v := 1) rfl rfl ?_
      refine xs_isub rfl ?_
      exact xs_iret rfl rfl h.1 h.2.1 h.2.2
    · have h := h.2 hb
      refine xs_iconstV (v := 0) rfl rfl ?_
      refine xs_goto (k' := 13) rfl rfl ?_
      exact xs_iret rfl rfl h.1 h.2.1 h.2.2

set_option maxRecDepth 20000 in
theorem b_RP_distanceBits_0 {l : Launch} {x : xX} {d mc ms n0 uc us : Nat} {Q : xO → xH → Prop} {cl : Bool} {v0 : Int32} {H : xH}
    (h : (4 ≤ v0 → uc = mc ∧ us ≤ ms ∧ Q (.inl (some (.int ((v0 / 2) - 1)))) H) ∧ (¬ 4 ≤ v0 → uc = mc ∧ us ≤ ms ∧ Q (.inl (some (.int 0))) H)) :
    xW l x d mc ms mRP_distanceBits n0 Q cl 0 [some (.int v0)] [] H uc us := by
  refine xs_iload_n rfl rfl ?_
  refine xs_iconstV (v := 4) rfl rfl ?_
  refine xs_icmp_ge (k' := 5) rfl rfl (fun hb => ?_) (fun hb => ?_)
  · have h := h.1 hb
    refine xs_iload_n rfl rfl ?_
    refine xs_iconstV (v := 2) rfl rfl ?_
    refine xs_idiv rfl (by decide) ?_
    refine xs_iconstV (v := 1) rfl rfl ?_
    refine xs_isub rfl ?_
    exact xs_iret rfl rfl h.1 h.2.1 h.2.2
  · have h := h.2 hb
    refine xs_iconstV (v := 0) rfl rfl ?_
    refine xs_goto (k' := 10) rfl rfl ?_
    exact xs_iret rfl rfl h.1 h.2.1 h.2.2

set_option maxRecDepth 20000 in
theorem b_BW_bitsWritten_0 {l : Launch} {x : xX} {d mc ms n0 uc us : Nat} {Q : xO → xH → Prop} {cl : Bool} {r0 : Nat} {H : xH}
    (h : ∃ p1, gR H r0 1 0 p1 ∧ (∃ a2, gI H p1 7 1 a2 ∧ (∃ a3, gI H r0 1 2 a3 ∧ (uc = mc ∧ us ≤ ms ∧ Q (.inl (some (.int (((8 : Int32) * a2) + a3)))) H)))) :
    xW l x d mc ms mBW_bitsWritten n0 Q cl 0 [some (.ref r0)] [] H uc us := by
  refine xs_bipushV (v := 8) rfl rfl ?_
  refine xs_aload_n rfl rfl ?_
  obtain ⟨p1, ⟨_, h1, h2⟩, h⟩ := h
  refine xs_getf rfl fl_1_7 h1 h2 ?_
  obtain ⟨a2, ⟨_, h1, h2⟩, h⟩ := h
  refine xs_getf rfl fl_1_13 h1 h2 ?_
  refine xs_imul rfl ?_
  refine xs_aload_n rfl rfl ?_
  obtain ⟨a3, ⟨_, h1, h2⟩, h⟩ := h
  refine xs_getf rfl fl_1_22 h1 h2 ?_
  refine xs_iadd rfl ?_
  exact xs_iret rfl rfl h.1 h.2.1 h.2.2

set_option maxRecDepth 20000 in
theorem b_BW_fillByte_0 {l : Launch} {x : xX} {d mc ms n0 uc us : Nat} {Q : xO → xH → Prop} {cl : Bool} {r0 : Nat} {H : xH}
    (h : ∃ a1, gI H r0 1 2 a1 ∧ (xW l x d mc ms mBW_fillByte n0 Q cl 7 [some (.ref r0)] [.int ((-a1) &&& 7), .int 0, .ref r0] H uc us)) :
    xW l x d mc ms mBW_fillByte n0 Q cl 0 [some (.ref r0)] [] H uc us := by
  refine xs_aload_n rfl rfl ?_
  refine xs_iconstV (v := 0) rfl rfl ?_
  refine xs_aload_n rfl rfl ?_
  obtain ⟨a1, ⟨_, h1, h2⟩, h⟩ := h
  refine xs_getf rfl fl_1_22 h1 h2 ?_
  refine xs_ineg rfl ?_
  refine xs_bipushV (v := 7) rfl rfl ?_
  refine xs_iand rfl ?_
  exact h

set_option maxRecDepth 20000 in
theorem b_BW_fillByte_8 {l : Launch} {x : xX} {d mc ms n0 uc us : Nat} {Q : xO → xH → Prop} {cl : Bool} {r0 : Nat} {H : xH}
    (h : uc = mc ∧ us ≤ ms ∧ Q (.inl none) H) :
    xW l x d mc ms mBW_fillByte n0 Q cl 8 [some (.ref r0)] [] H uc us := by
  exact xs_vret rfl rfl h.1 h.2.1 h.2.2

set_option maxRecDepth 20000 in
theorem b_BW_writeSymbol_0 {l : Launch} {x : xX} {d mc ms n0 uc us : Nat} {Q : xO → xH → Prop} {cl : Bool} {r0 : Nat} {r1 : Nat} {v2 : Int32} {H : xH}
    (h : ∃ p1, gR H r1 11 1 p1 ∧ (∃ n2 f3, H[(p1 : Nat)]? = some (.inl (0, n2, .inl f3)) ∧ vp_in v2 n2 ∧ (∃ p4, gR H r1 11 0 p4 ∧ (∃ n5 f6, H[(p4 : Nat)]? = some (.inl (0, n5, .inl f6)) ∧ vp_in v2 n5 ∧ (xW l x d mc ms mBW_writeSymbol n0 Q cl 9 [some (.ref r0), some (.ref r1), some (.int v2)] [.int (f6 v2.toNatClampNeg), .int (f3 v2.toNatClampNeg), .ref r0] H uc us))))) :
    xW l x d mc ms mBW_writeSymbol n0 Q cl 0 [some (.ref r0), some (.ref r1), some (.int v2)] [] H uc us := by
  refine xs_aload_n rfl rfl ?_
  refine xs_aload_n rfl rfl ?_
  obtain ⟨p1, ⟨_, h1, h2⟩, h⟩ := h
  refine xs_getf rfl fl_1_33 h1 h2 ?_
  refine xs_iload_n rfl rfl ?_
  obtain ⟨n2, f3, h1, h2, h⟩ := h
  refine xs_iald rfl h1 h2 ?_
  refine xs_aload_n rfl rfl ?_
  obtain ⟨p4, ⟨_, h1, h2⟩, h⟩ := h
  refine xs_getf rfl fl_1_39 h1 h2 ?_
  refine xs_iload_n rfl rfl ?_
  obtain ⟨n5, f6, h1, h2, h⟩ := h
  refine xs_iald rfl h1 h2 ?_
  exact h

set_option maxRecDepth 20000 in
theorem b_BW_writeSymbol_10 {l : Launch} {x : xX} {d mc ms n0 uc us : Nat} {Q : xO → xH → Prop} {cl : Bool} {r0 : Nat} {r1 : Nat} {v2 : Int32} {H : xH}
    (h : uc = mc ∧ us ≤ ms ∧ Q (.inl none) H) :
    xW l x d mc ms mBW_writeSymbol n0 Q cl 10 [some (.ref r0), some (.ref r1), some (.int v2)] [] H uc us := by
  exact xs_vret rfl rfl h.1 h.2.1 h.2.2

set_option maxRecDepth 20000 in
theorem b_RP_lengthBase_0 {l : Launch} {x : xX} {d mc ms n0 uc us : Nat} {Q : xO → xH → Prop} {cl : Bool} {v0 : Int32} {H : xH}
    (h : (8 ≤ v0 → (¬ v0 = 28 → xW l x d mc ms mRP_lengthBase n0 Q cl 18 [some (.int v0)] [.int v0, .int ((4 : Int32) + (v0 - v0 / 4 * 4))] H uc us) ∧ (v0 = 28 → uc = mc ∧ us ≤ ms ∧ Q (.inl (some (.int 258))) H)) ∧ (¬ 8 ≤ v0 → uc = mc ∧ us ≤ ms ∧ Q (.inl (some (.int ((3 : Int32) + v0)))) H)) :
    xW l x d mc ms mRP_lengthBase n0 Q cl 0 [some (.int v0)] [] H uc us := by
  refine xs_iload_n rfl rfl ?_
  refine xs_bipushV (v := 8) rfl rfl ?_
  refine xs_icmp_ge (k' := 7) rfl rfl (fun hb => ?_) (fun hb => ?_)
  · have h := h.1 hb
    refine xs_iload_n rfl rfl ?_
    refine xs_bipushV (v := 28) rfl rfl ?_
    refine xs_icmp_ne (k' := 12) rfl rfl (fun hb => ?_) (fun hb => ?_)
    · have h := h.1 hb
      refine xs_iconstV (v := 4) rfl rfl ?_
      refine xs_iload_n rfl rfl ?_
      refine xs_iconstV (v := 4) rfl rfl ?_
      refine xs_irem rfl (by decide) ?_
      refine xs_iadd rfl ?_
      refine xs_iload_n rfl rfl ?_
      exact h
    · have h := h.2 hb
      refine xs_sipushV (v := 258) rfl rfl ?_
      refine xs_goto (k' := 22) rfl rfl ?_
      exact xs_iret rfl rfl h.1 h.2.1 h.2.2
  · have h := h.2 hb
    refine xs_iconstV (v := 3) rfl rfl ?_
    refine xs_iload_n rfl rfl ?_
    refine xs_iadd rfl ?_
    exact xs_iret rfl rfl h.1 h.2.1 h.2.2

set_option maxRecDepth 20000 in
theorem b_RP_lengthBase_19 {l : Launch} {x : xX} {d mc ms n0 uc us : Nat} {Q : xO → xH → Prop} {cl : Bool} {v0 : Int32} {u0 : Int32} {u1 : Int32} {H : xH}
    (h : uc = mc ∧ us ≤ ms ∧ Q (.inl (some (.int ((u0 <<< ((u1 : Int32) &&& 31)) + 3)))) H) :
    xW l x d mc ms mRP_lengthBase n0 Q cl 19 [some (.int v0)] [.int u1, .int u0] H uc us := by
  refine xs_ishl rfl ?_
  refine xs_iconstV (v := 3) rfl rfl ?_
  refine xs_iadd rfl ?_
  exact xs_iret rfl rfl h.1 h.2.1 h.2.2

set_option maxRecDepth 20000 in
theorem b_RP_distanceBase_0 {l : Launch} {x : xX} {d mc ms n0 uc us : Nat} {Q : xO → xH → Prop} {cl : Bool} {v0 : Int32} {H : xH}
    (h : (4 ≤ v0 → xW l x d mc ms mRP_distanceBase n0 Q cl 13 [some (.int v0)] [.int v0, .int ((2 : Int32) + (v0 - v0 / 2 * 2))] H uc us) ∧ (¬ 4 ≤ v0 → uc = mc ∧ us ≤ ms ∧ Q (.inl (some (.int ((1 : Int32) + v0)))) H)) :
    xW l x d mc ms mRP_distanceBase n0 Q cl 0 [some (.int v0)] [] H uc us := by
  refine xs_iload_n rfl rfl ?_
  refine xs_iconstV (v := 4) rfl rfl ?_
  refine xs_icmp_ge (k' := 7) rfl rfl (fun hb => ?_) (fun hb => ?_)
  · have h := h.1 hb
    refine xs_iconstV (v := 2) rfl rfl ?_
    refine xs_iload_n rfl rfl ?_
    refine xs_iconstV (v := 2) rfl rfl ?_
    refine xs_irem rfl (by decide) ?_
    refine xs_iadd rfl ?_
    refine xs_iload_n rfl rfl ?_
    exact h
  · have h := h.2 hb
    refine xs_iconstV (v := 1) rfl rfl ?_
    refine xs_iload_n rfl rfl ?_
    refine xs_iadd rfl ?_
    refine xs_goto (k' := 17) rfl rfl ?_
    exact xs_iret rfl rfl h.1 h.2.1 h.2.2

set_option maxRecDepth 20000 in
theorem b_RP_distanceBase_14 {l : Launch} {x : xX} {d mc ms n0 uc us : Nat} {Q : xO → xH → Prop} {cl : Bool} {v0 : Int32} {u0 : Int32} {u1 : Int32} {H : xH}
    (h : uc = mc ∧ us ≤ ms ∧ Q (.inl (some (.int ((u0 <<< ((u1 : Int32) &&& 31)) + 1)))) H) :
    xW l x d mc ms mRP_distanceBase n0 Q cl 14 [some (.int v0)] [.int u1, .int u0] H uc us := by
  refine xs_ishl rfl ?_
  refine xs_iconstV (v := 1) rfl rfl ?_
  refine xs_iadd rfl ?_
  exact xs_iret rfl rfl h.1 h.2.1 h.2.2

set_option maxRecDepth 20000 in
theorem b_RE_addBlock_0 {l : Launch} {x : xX} {d mc ms n0 uc us : Nat} {Q : xO → xH → Prop} {cl : Bool} {r0 : Nat} {v1 : Int32} {v2 : Int32} {v3 : Int32} {v4 : Int32} {H : xH}
    (h : ∃ a1, gI H r0 6 3 a1 ∧ ((64 ≤ a1 → ∃ a2, gI H r0 6 3 a2 ∧ (∃ c3, H[(r0 : Nat)]? = some (.inr (6, c3)) ∧ 3 < c3.length ∧ (∀ H4 : xH, H4 = H.set r0 (.inr (6, c3.set 3 (.int (a2 + 1)))) → uc = mc ∧ us ≤ ms ∧ Q (.inl none) H4))) ∧ (¬ 64 ≤ a1 → ∃ a5, gI H r0 6 3 a5 ∧ (∃ p6, gR H r0 6 0 p6 ∧ (∃ n7 f8, H[(p6 : Nat)]? = some (.inl (0, n7, .inl f8)) ∧ 2 ≤ p6 ∧ vp_in ((4 : Int32) * a5) n7 ∧ (∀ H9 : xH, H9 = H.set p6 (.inl (0, n7, .inl (upd f8 (((4 : Int32) * a5).toNatClampNeg) (v1)))) → ∃ p10, gR H9 r0 6 0 p10 ∧ (∃ n11 f12, H9[(p10 : Nat)]? = some (.inl (0, n11, .inl f12)) ∧ 2 ≤ p10 ∧ vp_in (((4 : Int32) * a5) + 1) n11 ∧ (∀ H13 : xH, H13 = H9.set p10 (.inl (0, n11, .inl (upd f12 ((((4 : Int32) * a5) + 1).toNatClampNeg) (v2)))) → ∃ p14, gR H13 r0 6 0 p14 ∧ (∃ n15 f16, H13[(p14 : Nat)]? = some (.inl (0, n15, .inl f16)) ∧ 2 ≤ p14 ∧ vp_in (((4 : Int32) * a5) + 2) n15 ∧ (∀ H17 : xH, H17 = H13.set p14 (.inl (0, n15, .inl (upd f16 ((((4 : Int32) * a5) + 2).toNatClampNeg) (v3)))) → ∃ p18, gR H17 r0 6 0 p18 ∧ (∃ n19 f20, H17[(p18 : Nat)]? = some (.inl (0, n19, .inl f20)) ∧ 2 ≤ p18 ∧ vp_in (((4 : Int32) * a5) + 3) n19 ∧ (∀ H21 : xH, H21 = H17.set p18 (.inl (0, n19, .inl (upd f20 ((((4 : Int32) * a5) + 3).toNatClampNeg) (v4)))) → ∃ a22, gI H21 r0 6 3 a22 ∧ (∃ c23, H21[(r0 : Nat)]? = some (.inr (6, c23)) ∧ 3 < c23.length ∧ (∀ H24 : xH, H24 = H21.set r0 (.inr (6, c23.set 3 (.int (a22 + 1)))) → uc = mc ∧ us ≤ ms ∧ Q (.inl none) H24)))))))))))))) :
    xW l x d mc ms mRE_addBlock n0 Q cl 0 [some (.ref r0), some (.int v1), some (.int v2), some (.int v3), some (.int v4), none] [] H uc us := by
  refine xs_aload_n rfl rfl ?_
  obtain ⟨a1, ⟨_, h1, h2⟩, h⟩ := h
  refine xs_getf rfl fl_6_22 h1 h2 ?_
  refine xs_bipushV (v := 64) rfl rfl ?_
  refine xs_icmp_ge (k' := 35) rfl rfl (fun hb => ?_) (fun hb => ?_)
  · have h := h.1 hb
    refine xs_aload_n rfl rfl ?_
    refine xs_dup rfl rfl ?_
    obtain ⟨a2, ⟨_, h1, h2⟩, h⟩ := h
    refine xs_getf rfl fl_6_22 h1 h2 ?_
    refine xs_iconstV (v := 1) rfl rfl ?_
    refine xs_iadd rfl ?_
    obtain ⟨c3, h1, h2, h⟩ := h
    refine xs_putf rfl fl_6_22 h1 (fun q hq => by cases hq; rfl) rfl h2 ?_
    have h := h _ rfl
    generalize H.set r0 (.inr (6, c3.set 3 (.int (a2 + 1)))) = H4 at h ⊢
    exact xs_vret rfl rfl h.1 h.2.1 h.2.2
  · have h := h.2 hb
    refine xs_iconstV (v := 4) rfl rfl ?_
    refine xs_aload_n rfl rfl ?_
    obtain ⟨a5, ⟨_, h1, h2⟩, h⟩ := h
    refine xs_getf rfl fl_6_22 h1 h2 ?_
    refine xs_imul rfl ?_
    refine xs_istore rfl (L' := [some (.ref r0), some (.int v1), some (.int v2), some (.int v3), some (.int v4), some (.int ((4 : Int32) * a5))]) rfl rfl ?_
    refine xs_aload_n rfl rfl ?_
    obtain ⟨p6, ⟨_, h1, h2⟩, h⟩ := h
    refine xs_getf rfl fl_6_11 h1 h2 ?_
    refine xs_iload rfl rfl ?_
    refine xs_iload_n rfl rfl ?_
    obtain ⟨n7, f8, h1, h3, h2, h⟩ := h
    refine xs_iast rfl h1 h3 h2 ?_
    have h := h _ rfl
    generalize H.set p6 (.inl (0, n7, .inl (upd f8 (((4 : Int32) * a5).toNatClampNeg) (v1)))) = H9 at h ⊢
    refine xs_aload_n rfl rfl ?_
    obtain ⟨p10, ⟨_, h1, h2⟩, h⟩ := h
    refine xs_getf rfl fl_6_11 h1 h2 ?_
    refine xs_iload rfl rfl ?_
    refine xs_iconstV (v := 1) rfl rfl ?_
    refine xs_iadd rfl ?_
    refine xs_iload_n rfl rfl ?_
    obtain ⟨n11, f12, h1, h3, h2, h⟩ := h
    refine xs_iast rfl h1 h3 h2 ?_
    have h := h _ rfl
    generalize H9.set p10 (.inl (0, n11, .inl (upd f12 ((((4 : Int32) * a5) + 1).toNatClampNeg) (v2)))) = H13 at h ⊢
    refine xs_aload_n rfl rfl ?_
    obtain ⟨p14, ⟨_, h1, h2⟩, h⟩ := h
    refine xs_getf rfl fl_6_11 h1 h2 ?_
    refine xs_iload rfl rfl ?_
    refine xs_iconstV (v := 2) rfl rfl ?_
    refine xs_iadd rfl ?_
    refine xs_iload_n rfl rfl ?_
    obtain ⟨n15, f16, h1, h3, h2, h⟩ := h
    refine xs_iast rfl h1 h3 h2 ?_
    have h := h _ rfl
    generalize H13.set p14 (.inl (0, n15, .inl (upd f16 ((((4 : Int32) * a5) + 2).toNatClampNeg) (v3)))) = H17 at h ⊢
    refine xs_aload_n rfl rfl ?_
    obtain ⟨p18, ⟨_, h1, h2⟩, h⟩ := h
    refine xs_getf rfl fl_6_11 h1 h2 ?_
    refine xs_iload rfl rfl ?_
    refine xs_iconstV (v := 3) rfl rfl ?_
    refine xs_iadd rfl ?_
    refine xs_iload rfl rfl ?_
    obtain ⟨n19, f20, h1, h3, h2, h⟩ := h
    refine xs_iast rfl h1 h3 h2 ?_
    have h := h _ rfl
    generalize H17.set p18 (.inl (0, n19, .inl (upd f20 ((((4 : Int32) * a5) + 3).toNatClampNeg) (v4)))) = H21 at h ⊢
    refine xs_aload_n rfl rfl ?_
    refine xs_dup rfl rfl ?_
    obtain ⟨a22, ⟨_, h1, h2⟩, h⟩ := h
    refine xs_getf rfl fl_6_22 h1 h2 ?_
    refine xs_iconstV (v := 1) rfl rfl ?_
    refine xs_iadd rfl ?_
    obtain ⟨c23, h1, h2, h⟩ := h
    refine xs_putf rfl fl_6_22 h1 (fun q hq => by cases hq; rfl) rfl h2 ?_
    have h := h _ rfl
    generalize H21.set r0 (.inr (6, c23.set 3 (.int (a22 + 1)))) = H24 at h ⊢
    exact xs_vret rfl rfl h.1 h.2.1 h.2.2

set_option maxRecDepth 20000 in
theorem b_SU_sumA_0 {l : Launch} {x : xX} {d mc ms n0 uc us : Nat} {Q : xO → xH → Prop} {cl : Bool} {r0 : Nat} {r1 : Nat} {v2 : Int32} {v3 : Int32} {H : xH}
    (h : xW l x d mc ms mSU_sumA n0 Q cl 6 [some (.ref r0), some (.ref r1), some (.int v2), some (.int v3), some (.int 1), some (.int 0), some (.int v2)] [] H uc us) :
    xW l x d mc ms mSU_sumA n0 Q cl 0 [some (.ref r0), some (.ref r1), some (.int v2), some (.int v3), none, none, none] [] H uc us := by
  refine xs_iconstV (v := 1) rfl rfl ?_
  refine xs_istore rfl (L' := [some (.ref r0), some (.ref r1), some (.int v2), some (.int v3), some (.int 1), none, none]) rfl rfl ?_
  refine xs_iconstV (v := 0) rfl rfl ?_
  refine xs_istore rfl (L' := [some (.ref r0), some (.ref r1), some (.int v2), some (.int v3), some (.int 1), some (.int 0), none]) rfl rfl ?_
  refine xs_iload_n rfl rfl ?_
  refine xs_istore rfl (L' := [some (.ref r0), some (.ref r1), some (.int v2), some (.int v3), some (.int 1), some (.int 0), some (.int v2)]) rfl rfl ?_
  exact h

set_option maxRecDepth 20000 in
theorem b_SU_sumA_6 {l : Launch} {x : xX} {d mc ms n0 uc us : Nat} {Q : xO → xH → Prop} {cl : Bool} {r0 : Nat} {r1 : Nat} {v2 : Int32} {v3 : Int32} {v4 : Int32} {v5 : Int32} {v6 : Int32} {H : xH}
    (h : (v3 ≤ v6 → uc = mc ∧ us ≤ ms ∧ Q (.inl (some (.long (((65536 : Int64) * v5.toInt64) + v4.toInt64)))) H) ∧ (¬ v3 ≤ v6 → xW l x d mc ms mSU_sumA n0 Q cl 12 [some (.ref r0), some (.ref r1), some (.int v2), some (.int v3), some (.int v4), some (.int v5), some (.int v6)] [.int v6, .ref r1, .int v4] H uc us)) :
    xW l x d mc ms mSU_sumA n0 Q cl 6 [some (.ref r0), some (.ref r1), some (.int v2), some (.int v3), some (.int v4), some (.int v5), some (.int v6)] [] H uc us := by
  refine xs_iload rfl rfl ?_
  refine xs_iload_n rfl rfl ?_
  refine xs_icmp_ge (k' := 35) rfl rfl (fun hb => ?_) (fun hb => ?_)
  · have h := h.1 hb
    refine xs_ldc2 rfl kl_8_21 ?_
    refine xs_iload rfl rfl ?_
    refine xs_i2l rfl ?_
    refine xs_lmul rfl ?_
    refine xs_iload rfl rfl ?_
    refine xs_i2l rfl ?_
    refine xs_ladd rfl ?_
    exact xs_lret rfl rfl h.1 h.2.1 h.2.2
  · have h := h.2 hb
    refine xs_iload rfl rfl ?_
    refine xs_aload_n rfl rfl ?_
    refine xs_iload rfl rfl ?_
    exact h

set_option maxRecDepth 20000 in
theorem b_SU_sumA_13 {l : Launch} {x : xX} {d mc ms n0 uc us : Nat} {Q : xO → xH → Prop} {cl : Bool} {r0 : Nat} {r1 : Nat} {v2 : Int32} {v3 : Int32} {v4 : Int32} {v5 : Int32} {v6 : Int32} {u0 : Int32} {u1 : Int32} {H : xH}
    (h : ((u0 + u1) < 65521 → ((v5 + (u0 + u1)) < 65521 → xW l x d mc ms mSU_sumA n0 Q cl 6 [some (.ref r0), some (.ref r1), some (.int v2), some (.int v3), some (.int (u0 + u1)), some (.int (v5 + (u0 + u1))), some (.int (v6 + 1))] [] H uc us) ∧ (¬ (v5 + (u0 + u1)) < 65521 → xW l x d mc ms mSU_sumA n0 Q cl 6 [some (.ref r0), some (.ref r1), some (.int v2), some (.int v3), some (.int (u0 + u1)), some (.int ((v5 + (u0 + u1)) - 65521)), some (.int (v6 + 1))] [] H uc us)) ∧ (¬ (u0 + u1) < 65521 → ((v5 + ((u0 + u1) - 65521)) < 65521 → xW l x d mc ms mSU_sumA n0 Q cl 6 [some (.ref r0), some (.ref r1), some (.int v2), some (.int v3), some (.int ((u0 + u1) - 65521)), some (.int (v5 + ((u0 + u1) - 65521))), some (.int (v6 + 1))] [] H uc us) ∧ (¬ (v5 + ((u0 + u1) - 65521)) < 65521 → xW l x d mc ms mSU_sumA n0 Q cl 6 [some (.ref r0), some (.ref r1), some (.int v2), some (.int v3), some (.int ((u0 + u1) - 65521)), some (.int ((v5 + ((u0 + u1) - 65521)) - 65521)), some (.int (v6 + 1))] [] H uc us))) :
    xW l x d mc ms mSU_sumA n0 Q cl 13 [some (.ref r0), some (.ref r1), some (.int v2), some (.int v3), some (.int v4), some (.int v5), some (.int v6)] [.int u1, .int u0] H uc us := by
  refine xs_iadd rfl ?_
  refine xs_istore rfl (L' := [some (.ref r0), some (.ref r1), some (.int v2), some (.int v3), some (.int (u0 + u1)), some (.int v5), some (.int v6)]) rfl rfl ?_
  refine xs_iload rfl rfl ?_
  refine xs_ldc rfl kc_8_20 ?_
  refine xs_icmp_lt (k' := 22) rfl rfl (fun hb => ?_) (fun hb => ?_)
  · have h := h.1 hb
    refine xs_iload rfl rfl ?_
    refine xs_iload rfl rfl ?_
    refine xs_iadd rfl ?_
    refine xs_istore rfl (L' := [some (.ref r0), some (.ref r1), some (.int v2), some (.int v3), some (.int (u0 + u1)), some (.int (v5 + (u0 + u1))), some (.int v6)]) rfl rfl ?_
    refine xs_iload rfl rfl ?_
    refine xs_ldc rfl kc_8_20 ?_
    refine xs_icmp_lt (k' := 33) rfl rfl (fun hb => ?_) (fun hb => ?_)
    · have h := h.1 hb
      refine xs_iincV rfl (w := 1) rfl rfl (L' := [some (.ref r0), some (.ref r1), some (.int v2), some (.int v3), some (.int (u0 + u1)), some (.int (v5 + (u0 + u1))), some (.int (v6 + 1))]) rfl rfl ?_
      refine xs_goto (k' := 6) rfl rfl ?_
      exact h
    · have h := h.2 hb
      refine xs_iload rfl rfl ?_
      refine xs_ldc rfl kc_8_20 ?_
      refine xs_isub rfl ?_
      refine xs_istore rfl (L' := [some (.ref r0), some (.ref r1), some (.int v2), some (.int v3), some (.int (u0 + u1)), some (.int ((v5 + (u0 + u1)) - 65521)), some (.int v6)]) rfl rfl ?_
      refine xs_iincV rfl (w := 1) rfl rfl (L' := [some (.ref r0), some (.ref r1), some (.int v2), some (.int v3), some (.int (u0 + u1)), some (.int ((v5 + (u0 + u1)) - 65521)), some (.int (v6 + 1))]) rfl rfl ?_
      refine xs_goto (k' := 6) rfl rfl ?_
      exact h
  · have h := h.2 hb
    refine xs_iload rfl rfl ?_
    refine xs_ldc rfl kc_8_20 ?_
    refine xs_isub rfl ?_
    refine xs_istore rfl (L' := [some (.ref r0), some (.ref r1), some (.int v2), some (.int v3), some (.int ((u0 + u1) - 65521)), some (.int v5), some (.int v6)]) rfl rfl ?_
    refine xs_iload rfl rfl ?_
    refine xs_iload rfl rfl ?_
    refine xs_iadd rfl ?_
    refine xs_istore rfl (L' := [some (.ref r0), some (.ref r1), some (.int v2), some (.int v3), some (.int ((u0 + u1) - 65521)), some (.int (v5 + ((u0 + u1) - 65521))), some (.int v6)]) rfl rfl ?_
    refine xs_iload rfl rfl ?_
    refine xs_ldc rfl kc_8_20 ?_
    refine xs_icmp_lt (k' := 33) rfl rfl (fun hb => ?_) (fun hb => ?_)
    · have h := h.1 hb
      refine xs_iincV rfl (w := 1) rfl rfl (L' := [some (.ref r0), some (.ref r1), some (.int v2), some (.int v3), some (.int ((u0 + u1) - 65521)), some (.int (v5 + ((u0 + u1) - 65521))), some (.int (v6 + 1))]) rfl rfl ?_
      refine xs_goto (k' := 6) rfl rfl ?_
      exact h
    · have h := h.2 hb
      refine xs_iload rfl rfl ?_
      refine xs_ldc rfl kc_8_20 ?_
      refine xs_isub rfl ?_
      refine xs_istore rfl (L' := [some (.ref r0), some (.ref r1), some (.int v2), some (.int v3), some (.int ((u0 + u1) - 65521)), some (.int ((v5 + ((u0 + u1) - 65521)) - 65521)), some (.int v6)]) rfl rfl ?_
      refine xs_iincV rfl (w := 1) rfl rfl (L' := [some (.ref r0), some (.ref r1), some (.int v2), some (.int v3), some (.int ((u0 + u1) - 65521)), some (.int ((v5 + ((u0 + u1) - 65521)) - 65521)), some (.int (v6 + 1))]) rfl rfl ?_
      refine xs_goto (k' := 6) rfl rfl ?_
      exact h

set_option maxRecDepth 20000 in
theorem b_BW_writeFour_0 {l : Launch} {x : xX} {d mc ms n0 uc us : Nat} {Q : xO → xH → Prop} {cl : Bool} {r0 : Nat} {v1 : Int64} {v3 : Int32} {H : xH}
    (h : xW l x d mc ms mBW_writeFour n0 Q cl 2 [some (.ref r0), some (.long v1), none, some (.int v3), some (.int 0), none] [] H uc us) :
    xW l x d mc ms mBW_writeFour n0 Q cl 0 [some (.ref r0), some (.long v1), none, some (.int v3), none, none] [] H uc us := by
  refine xs_iconstV (v := 0) rfl rfl ?_
  refine xs_istore rfl (L' := [some (.ref r0), some (.long v1), none, some (.int v3), some (.int 0), none]) rfl rfl ?_
  exact h

set_option maxRecDepth 20000 in
theorem b_BW_writeFour_2 {l : Launch} {x : xX} {d mc ms n0 uc us : Nat} {Q : xO → xH → Prop} {cl : Bool} {r0 : Nat} {v1 : Int64} {v3 : Int32} {v4 : Int32} {H : xH}
    (h : (4 ≤ v4 → uc = mc ∧ us ≤ ms ∧ Q (.inl none) H) ∧ (¬ 4 ≤ v4 → (v3 = 0 → xW l x d mc ms mBW_writeFour n0 Q cl 25 [some (.ref r0), some (.long v1), none, some (.int v3), some (.int v4), some (.int ((8 : Int32) * v4))] [.int 8, .int ((v1 >>> (((8 : Int32) * v4).toInt64 &&& 63)).toInt32 &&& 255), .ref r0] H uc us) ∧ (¬ v3 = 0 → xW l x d mc ms mBW_writeFour n0 Q cl 25 [some (.ref r0), some (.long v1), none, some (.int v3), some (.int v4), some (.int ((24 : Int32) - ((8 : Int32) * v4)))] [.int 8, .int ((v1 >>> (((24 : Int32) - ((8 : Int32) * v4)).toInt64 &&& 63)).toInt32 &&& 255), .ref r0] H uc us))) :
    xW l x d mc ms mBW_writeFour n0 Q cl 2 [some (.ref r0), some (.long v1), none, some (.int v3), some (.int v4), none] [] H uc us := by
  refine xs_iload rfl rfl ?_
  refine xs_iconstV (v := 4) rfl rfl ?_
  refine xs_icmp_ge (k' := 28) rfl rfl (fun hb => ?_) (fun hb => ?_)
  · have h := h.1 hb
    exact xs_vret rfl rfl h.1 h.2.1 h.2.2
  · have h := h.2 hb
    refine xs_iload_n rfl rfl ?_
    refine xs_if_eq (k' := 13) rfl rfl (fun hb => ?_) (fun hb => ?_)
    · have h := h.1 hb
      refine xs_bipushV (v := 8) rfl rfl ?_
      refine xs_iload rfl rfl ?_
      refine xs_imul rfl ?_
      refine xs_istore rfl (L' := [some (.ref r0), some (.long v1), none, some (.int v3), some (.int v4), some (.int ((8 : Int32) * v4))]) rfl rfl ?_
      refine xs_aload_n rfl rfl ?_
      refine xs_lload_n rfl rfl ?_
      refine xs_iload rfl rfl ?_
      refine xs_lshr rfl ?_
      refine xs_l2i rfl ?_
      refine xs_sipushV (v := 255) rfl rfl ?_
      refine xs_iand rfl ?_
      refine xs_bipushV (v := 8) rfl rfl ?_
      exact h
    · have h := h.2 hb
      refine xs_bipushV (v := 24) rfl rfl ?_
      refine xs_bipushV (v := 8) rfl rfl ?_
      refine xs_iload rfl rfl ?_
      refine xs_imul rfl ?_
      refine xs_isub rfl ?_
      refine xs_goto (k' := 16) rfl rfl ?_
      refine xs_istore rfl (L' := [some (.ref r0), some (.long v1), none, some (.int v3), some (.int v4), some (.int ((24 : Int32) - ((8 : Int32) * v4)))]) rfl rfl ?_
      refine xs_aload_n rfl rfl ?_
      refine xs_lload_n rfl rfl ?_
      refine xs_iload rfl rfl ?_
      refine xs_lshr rfl ?_
      refine xs_l2i rfl ?_
      refine xs_sipushV (v := 255) rfl rfl ?_
      refine xs_iand rfl ?_
      refine xs_bipushV (v := 8) rfl rfl ?_
      exact h

set_option maxRecDepth 20000 in
theorem b_BW_writeFour_26 {l : Launch} {x : xX} {d mc ms n0 uc us : Nat} {Q : xO → xH → Prop} {cl : Bool} {r0 : Nat} {v1 : Int64} {v3 : Int32} {v4 : Int32} {v5 : Int32} {H : xH}
    (h : xW l x d mc ms mBW_writeFour n0 Q cl 2 [some (.ref r0), some (.long v1), none, some (.int v3), some (.int (v4 + 1)), some (.int v5)] [] H uc us) :
    xW l x d mc ms mBW_writeFour n0 Q cl 26 [some (.ref r0), some (.long v1), none, some (.int v3), some (.int v4), some (.int v5)] [] H uc us := by
  refine xs_iincV rfl (w := 1) rfl rfl (L' := [some (.ref r0), some (.long v1), none, some (.int v3), some (.int (v4 + 1)), some (.int v5)]) rfl rfl ?_
  refine xs_goto (k' := 2) rfl rfl ?_
  exact h

set_option maxRecDepth 20000 in
theorem b_SU_sumB_0 {l : Launch} {x : xX} {d mc ms n0 uc us : Nat} {Q : xO → xH → Prop} {cl : Bool} {r0 : Nat} {r1 : Nat} {v2 : Int32} {v3 : Int32} {H : xH}
    (h : xW l x d mc ms mSU_sumB n0 Q cl 4 [some (.ref r0), some (.ref r1), some (.int v2), some (.int v3), some (.int (-1)), some (.int v2)] [] H uc us) :
    xW l x d mc ms mSU_sumB n0 Q cl 0 [some (.ref r0), some (.ref r1), some (.int v2), some (.int v3), none, none] [] H uc us := by
  refine xs_iconstV (v := (-1)) rfl rfl ?_
  refine xs_istore rfl (L' := [some (.ref r0), some (.ref r1), some (.int v2), some (.int v3), some (.int (-1)), none]) rfl rfl ?_
  refine xs_iload_n rfl rfl ?_
  refine xs_istore rfl (L' := [some (.ref r0), some (.ref r1), some (.int v2), some (.int v3), some (.int (-1)), some (.int v2)]) rfl rfl ?_
  exact h

set_option maxRecDepth 20000 in
theorem b_SU_sumB_4 {l : Launch} {x : xX} {d mc ms n0 uc us : Nat} {Q : xO → xH → Prop} {cl : Bool} {r0 : Nat} {r1 : Nat} {v2 : Int32} {v3 : Int32} {v4 : Int32} {v5 : Int32} {H : xH}
    (h : (v3 ≤ v5 → uc = mc ∧ us ≤ ms ∧ Q (.inl (some (.long ((v4 ^^^ (-1)).toInt64 &&& 4294967295)))) H) ∧ (¬ v3 ≤ v5 → ∃ p1, gR H r0 8 0 p1 ∧ (xW l x d mc ms mSU_sumB n0 Q cl 15 [some (.ref r0), some (.ref r1), some (.int v2), some (.int v3), some (.int v4), some (.int v5)] [.int v5, .ref r1, .int v4, .ref p1, .int (v4.toUInt32 >>> ((8 : Int32).toUInt32 &&& Int32.toUInt32 31)).toInt32] H uc us))) :
    xW l x d mc ms mSU_sumB n0 Q cl 4 [some (.ref r0), some (.ref r1), some (.int v2), some (.int v3), some (.int v4), some (.int v5)] [] H uc us := by
  refine xs_iload rfl rfl ?_
  refine xs_iload_n rfl rfl ?_
  refine xs_icmp_ge (k' := 24) rfl rfl (fun hb => ?_) (fun hb => ?_)
  · have h := h.1 hb
    refine xs_iload rfl rfl ?_
    refine xs_iconstV (v := (-1)) rfl rfl ?_
    refine xs_ixor rfl ?_
    refine xs_i2l rfl ?_
    refine xs_ldc2 rfl kl_8_23 ?_
    refine xs_land rfl ?_
    exact xs_lret rfl rfl h.1 h.2.1 h.2.2
  · have h := h.2 hb
    refine xs_iload rfl rfl ?_
    refine xs_bipushV (v := 8) rfl rfl ?_
    refine xs_iushr rfl ?_
    refine xs_aload_n rfl rfl ?_
    obtain ⟨p1, ⟨_, h1, h2⟩, h⟩ := h
    refine xs_getf rfl fl_8_7 h1 h2 ?_
    refine xs_iload rfl rfl ?_
    refine xs_aload_n rfl rfl ?_
    refine xs_iload rfl rfl ?_
    exact h

set_option maxRecDepth 20000 in
theorem b_SU_sumB_16 {l : Launch} {x : xX} {d mc ms n0 uc us : Nat} {Q : xO → xH → Prop} {cl : Bool} {r0 : Nat} {r1 : Nat} {v2 : Int32} {v3 : Int32} {v4 : Int32} {v5 : Int32} {u0 : Int32} {q1 : Nat} {u2 : Int32} {u3 : Int32} {H : xH}
    (h : ∃ n1 f2, H[(q1 : Nat)]? = some (.inl (0, n1, .inl f2)) ∧ vp_in ((u2 ^^^ u3) &&& 255) n1 ∧ (xW l x d mc ms mSU_sumB n0 Q cl 4 [some (.ref r0), some (.ref r1), some (.int v2), some (.int v3), some (.int (u0 ^^^ (f2 ((u2 ^^^ u3) &&& 255).toNatClampNeg))), some (.int (v5 + 1))] [] H uc us)) :
    xW l x d mc ms mSU_sumB n0 Q cl 16 [some (.ref r0), some (.ref r1), some (.int v2), some (.int v3), some (.int v4), some (.int v5)] [.int u3, .int u2, .ref q1, .int u0] H uc us := by
  refine xs_ixor rfl ?_
  refine xs_sipushV (v := 255) rfl rfl ?_
  refine xs_iand rfl ?_
  obtain ⟨n1, f2, h1, h2, h⟩ := h
  refine xs_iald rfl h1 h2 ?_
  refine xs_ixor rfl ?_
  refine xs_istore rfl (L' := [some (.ref r0), some (.ref r1), some (.int v2), some (.int v3), some (.int (u0 ^^^ (f2 ((u2 ^^^ u3) &&& 255).toNatClampNeg))), some (.int v5)]) rfl rfl ?_
  refine xs_iincV rfl (w := 1) rfl rfl (L' := [some (.ref r0), some (.ref r1), some (.int v2), some (.int v3), some (.int (u0 ^^^ (f2 ((u2 ^^^ u3) &&& 255).toNatClampNeg))), some (.int (v5 + 1))]) rfl rfl ?_
  refine xs_goto (k' := 4) rfl rfl ?_
  exact h

set_option maxRecDepth 20000 in
theorem b_RP_unpack_0 {l : Launch} {x : xX} {d mc ms n0 uc us : Nat} {Q : xO → xH → Prop} {cl : Bool} {r0 : Nat} {v1 : Int32} {H : xH}
    (h : (v1 < 0 → xW l x d mc ms mRP_unpack n0 Q cl 5 [some (.ref r0), some (.int v1)] [] H uc us) ∧ (¬ v1 < 0 → (v1 ≤ 2 → ∃ p1, gR H r0 0 5 p1 ∧ (xW l x d mc ms mRP_unpack n0 Q cl 12 [some (.ref r0), some (.int v1)] [.int v1, .ref p1] H uc us)) ∧ (¬ v1 ≤ 2 → xW l x d mc ms mRP_unpack n0 Q cl 5 [some (.ref r0), some (.int v1)] [] H uc us))) :
    xW l x d mc ms mRP_unpack n0 Q cl 0 [some (.ref r0), some (.int v1)] [] H uc us := by
  refine xs_iload_n rfl rfl ?_
  refine xs_if_lt (k' := 5) rfl rfl (fun hb => ?_) (fun hb => ?_)
  · have h := h.1 hb
    exact h
  · have h := h.2 hb
    refine xs_iload_n rfl rfl ?_
    refine xs_iconstV (v := 2) rfl rfl ?_
    refine xs_icmp_le (k' := 9) rfl rfl (fun hb => ?_) (fun hb => ?_)
    · have h := h.1 hb
      refine xs_aload_n rfl rfl ?_
      obtain ⟨p1, ⟨_, h1, h2⟩, h⟩ := h
      refine xs_getf rfl fl_0_49 h1 h2 ?_
      refine xs_iload_n rfl rfl ?_
      exact h
    · have h := h.2 hb
      exact h

set_option maxRecDepth 20000 in
theorem b_RP_unpack_6 {l : Launch} {x : xX} {d mc ms n0 uc us : Nat} {Q : xO → xH → Prop} {cl : Bool} {r0 : Nat} {v1 : Int32} {q0 : Nat} {H : xH}
    (h : xW l x d mc ms mRP_unpack n0 Q cl 7 [some (.ref r0), some (.int v1)] [.ref q0, .ref q0] H uc us) :
    xW l x d mc ms mRP_unpack n0 Q cl 6 [some (.ref r0), some (.int v1)] [.ref q0] H uc us := by
  refine xs_dup rfl rfl ?_
  exact h

-- b_RP_unpack_8: .athrow
set_option maxRecDepth 20000 in
theorem b_RP_unpack_13 {l : Launch} {x : xX} {d mc ms n0 uc us : Nat} {Q : xO → xH → Prop} {cl : Bool} {r0 : Nat} {v1 : Int32} {H : xH}
    (h : ∃ p1, gR H r0 0 2 p1 ∧ (∃ a2, gI H p1 6 1 a2 ∧ ((¬ a2 = 0 → uc = mc ∧ us ≤ ms ∧ Q (.inl (some (.int (-1)))) H) ∧ (a2 = 0 → ∃ p3, gR H r0 0 1 p3 ∧ (∃ a4, gI H p3 7 1 a4 ∧ (uc = mc ∧ us ≤ ms ∧ Q (.inl (some (.int a4))) H)))))) :
    xW l x d mc ms mRP_unpack n0 Q cl 13 [some (.ref r0), some (.int v1)] [] H uc us := by
  refine xs_aload_n rfl rfl ?_
  obtain ⟨p1, ⟨_, h1, h2⟩, h⟩ := h
  refine xs_getf rfl fl_0_26 h1 h2 ?_
  obtain ⟨a2, ⟨_, h1, h2⟩, h⟩ := h
  refine xs_getf rfl fl_0_87 h1 h2 ?_
  refine xs_if_ne (k' := 21) rfl rfl (fun hb => ?_) (fun hb => ?_)
  · have h := h.1 hb
    refine xs_iconstV (v := (-1)) rfl rfl ?_
    exact xs_iret rfl rfl h.1 h.2.1 h.2.2
  · have h := h.2 hb
    refine xs_aload_n rfl rfl ?_
    obtain ⟨p3, ⟨_, h1, h2⟩, h⟩ := h
    refine xs_getf rfl fl_0_20 h1 h2 ?_
    obtain ⟨a4, ⟨_, h1, h2⟩, h⟩ := h
    refine xs_getf rfl fl_0_53 h1 h2 ?_
    refine xs_goto (k' := 22) rfl rfl ?_
    exact xs_iret rfl rfl h.1 h.2.1 h.2.2

set_option maxRecDepth 20000 in
theorem b_AR_fill2_0 {l : Launch} {x : xX} {d mc ms n0 uc us : Nat} {Q : xO → xH → Prop} {cl : Bool} {r0 : Nat} {v1 : Int32} {v2 : Int32} {v3 : Int32} {H : xH}
    (h : ∃ (t1 : Nat) (w2 : vp_A), H[(r0 : Nat)]? = some (.inl (t1, w2)) ∧ t1 < 4 ∧ (xW l x d mc ms mAR_fill2 n0 Q cl 4 [some (.ref r0), some (.int v1), some (.int v2), some (.int v3), none] [.int v2, .int v1, .int (Int32.ofNat w2.1)] H uc us)) :
    xW l x d mc ms mAR_fill2 n0 Q cl 0 [some (.ref r0), some (.int v1), some (.int v2), some (.int v3), none] [] H uc us := by
  refine xs_aload_n rfl rfl ?_
  obtain ⟨t1, w2, h1, h2, h⟩ := h
  refine xs_alen rfl h1 h2 ?_
  refine xs_iload_n rfl rfl ?_
  refine xs_iload_n rfl rfl ?_
  exact h

set_option maxRecDepth 20000 in
theorem b_AR_fill2_5 {l : Launch} {x : xX} {d mc ms n0 uc us : Nat} {Q : xO → xH → Prop} {cl : Bool} {r0 : Nat} {v1 : Int32} {v2 : Int32} {v3 : Int32} {H : xH}
    (h : xW l x d mc ms mAR_fill2 n0 Q cl 7 [some (.ref r0), some (.int v1), some (.int v2), some (.int v3), some (.int v1)] [] H uc us) :
    xW l x d mc ms mAR_fill2 n0 Q cl 5 [some (.ref r0), some (.int v1), some (.int v2), some (.int v3), none] [] H uc us := by
  refine xs_iload_n rfl rfl ?_
  refine xs_istore rfl (L' := [some (.ref r0), some (.int v1), some (.int v2), some (.int v3), some (.int v1)]) rfl rfl ?_
  exact h

set_option maxRecDepth 20000 in
theorem b_AR_fill2_7 {l : Launch} {x : xX} {d mc ms n0 uc us : Nat} {Q : xO → xH → Prop} {cl : Bool} {r0 : Nat} {v1 : Int32} {v2 : Int32} {v3 : Int32} {v4 : Int32} {H : xH}
    (h : (v2 ≤ v4 → uc = mc ∧ us ≤ ms ∧ Q (.inl none) H) ∧ (¬ v2 ≤ v4 → ∃ n1 f2, H[(r0 : Nat)]? = some (.inl (0, n1, .inl f2)) ∧ 2 ≤ r0 ∧ vp_in v4 n1 ∧ (∀ H3 : xH, H3 = H.set r0 (.inl (0, n1, .inl (upd f2 (v4.toNatClampNeg) (v3)))) → xW l x d mc ms mAR_fill2 n0 Q false 7 [some (.ref r0), some (.int v1), some (.int v2), some (.int v3), some (.int (v4 + 1))] [] H3 uc us))) :
    xW l x d mc ms mAR_fill2 n0 Q cl 7 [some (.ref r0), some (.int v1), some (.int v2), some (.int v3), some (.int v4)] [] H uc us := by
  refine xs_iload rfl rfl ?_
  refine xs_iload_n rfl rfl ?_
  refine xs_icmp_ge (k' := 16) rfl rfl (fun hb => ?_) (fun hb => ?_)
  · have h := h.1 hb
    exact xs_vret rfl rfl h.1 h.2.1 h.2.2
  · have h := h.2 hb
    refine xs_aload_n rfl rfl ?_
    refine xs_iload rfl rfl ?_
    refine xs_iload_n rfl rfl ?_
    obtain ⟨n1, f2, h1, h3, h2, h⟩ := h
    refine xs_iast rfl h1 h3 h2 ?_
    have h := h _ rfl
    generalize H.set r0 (.inl (0, n1, .inl (upd f2 (v4.toNatClampNeg) (v3)))) = H3 at h ⊢
    refine xs_iincV rfl (w := 1) rfl rfl (L' := [some (.ref r0), some (.int v1), some (.int v2), some (.int v3), some (.int (v4 + 1))]) rfl rfl ?_
    refine xs_goto (k' := 7) rfl rfl ?_
    exact h

set_option maxRecDepth 20000 in
theorem b_RP_out_0 {l : Launch} {x : xX} {d mc ms n0 uc us : Nat} {Q : xO → xH → Prop} {cl : Bool} {r0 : Nat} {v1 : Int32} {H : xH}
    (h : (v1 < 0 → xW l x d mc ms mRP_out n0 Q cl 7 [some (.ref r0), some (.int v1)] [] H uc us) ∧ (¬ v1 < 0 → ∃ p1, gR H r0 0 1 p1 ∧ (∃ a2, gI H p1 7 1 a2 ∧ ((v1 < a2 → ∃ p3, gR H r0 0 1 p3 ∧ (xW l x d mc ms mRP_out n0 Q cl 14 [some (.ref r0), some (.int v1)] [.int v1, .ref p3] H uc us)) ∧ (¬ v1 < a2 → xW l x d mc ms mRP_out n0 Q cl 7 [some (.ref r0), some (.int v1)] [] H uc us))))) :
    xW l x d mc ms mRP_out n0 Q cl 0 [some (.ref r0), some (.int v1)] [] H uc us := by
  refine xs_iload_n rfl rfl ?_
  refine xs_if_lt (k' := 7) rfl rfl (fun hb => ?_) (fun hb => ?_)
  · have h := h.1 hb
    exact h
  · have h := h.2 hb
    refine xs_iload_n rfl rfl ?_
    refine xs_aload_n rfl rfl ?_
    obtain ⟨p1, ⟨_, h1, h2⟩, h⟩ := h
    refine xs_getf rfl fl_0_20 h1 h2 ?_
    obtain ⟨a2, ⟨_, h1, h2⟩, h⟩ := h
    refine xs_getf rfl fl_0_53 h1 h2 ?_
    refine xs_icmp_lt (k' := 11) rfl rfl (fun hb => ?_) (fun hb => ?_)
    · have h := h.1 hb
      refine xs_aload_n rfl rfl ?_
      obtain ⟨p3, ⟨_, h1, h2⟩, h⟩ := h
      refine xs_getf rfl fl_0_20 h1 h2 ?_
      refine xs_iload_n rfl rfl ?_
      exact h
    · have h := h.2 hb
      exact h

set_option maxRecDepth 20000 in
theorem b_RP_out_8 {l : Launch} {x : xX} {d mc ms n0 uc us : Nat} {Q : xO → xH → Prop} {cl : Bool} {r0 : Nat} {v1 : Int32} {q0 : Nat} {H : xH}
    (h : xW l x d mc ms mRP_out n0 Q cl 9 [some (.ref r0), some (.int v1)] [.ref q0, .ref q0] H uc us) :
    xW l x d mc ms mRP_out n0 Q cl 8 [some (.ref r0), some (.int v1)] [.ref q0] H uc us := by
  refine xs_dup rfl rfl ?_
  exact h

-- b_RP_out_10: .athrow
set_option maxRecDepth 20000 in
theorem b_RP_out_15 {l : Launch} {x : xX} {d mc ms n0 uc us : Nat} {Q : xO → xH → Prop} {cl : Bool} {r0 : Nat} {v1 : Int32} {u0 : Int32} {H : xH}
    (h : uc = mc ∧ us ≤ ms ∧ Q (.inl (some (.int u0))) H) :
    xW l x d mc ms mRP_out n0 Q cl 15 [some (.ref r0), some (.int v1)] [.int u0] H uc us := by
  exact xs_iret rfl rfl h.1 h.2.1 h.2.2

set_option maxRecDepth 20000 in
theorem b_RP_turn_0 {l : Launch} {x : xX} {d mc ms n0 uc us : Nat} {Q : xO → xH → Prop} {cl : Bool} {r0 : Nat} {H : xH}
    (h : ∃ p1, gR H r0 0 1 p1 ∧ (∃ a2, gI H p1 7 1 a2 ∧ ((a2 ≤ 32768 → ∃ p3, gR H r0 0 1 p3 ∧ (∃ p4, gR H p3 7 0 p4 ∧ (∃ p5, gR H r0 0 0 p5 ∧ (∃ p6, gR H p5 7 0 p6 ∧ (∃ p7, gR H r0 0 1 p7 ∧ (∃ a8, gI H p7 7 1 a8 ∧ (xW l x d mc ms mRP_turn n0 Q cl 20 [some (.ref r0)] [.int a8, .int 0, .ref p6, .int 0, .ref p4] H uc us))))))) ∧ (¬ a2 ≤ 32768 → xW l x d mc ms mRP_turn n0 Q cl 5 [some (.ref r0)] [] H uc us)))) :
    xW l x d mc ms mRP_turn n0 Q cl 0 [some (.ref r0)] [] H uc us := by
  refine xs_aload_n rfl rfl ?_
  obtain ⟨p1, ⟨_, h1, h2⟩, h⟩ := h
  refine xs_getf rfl fl_0_20 h1 h2 ?_
  obtain ⟨a2, ⟨_, h1, h2⟩, h⟩ := h
  refine xs_getf rfl fl_0_53 h1 h2 ?_
  refine xs_ldc rfl kc_0_11 ?_
  refine xs_icmp_le (k' := 9) rfl rfl (fun hb => ?_) (fun hb => ?_)
  · have h := h.1 hb
    refine xs_aload_n rfl rfl ?_
    obtain ⟨p3, ⟨_, h1, h2⟩, h⟩ := h
    refine xs_getf rfl fl_0_20 h1 h2 ?_
    obtain ⟨p4, ⟨_, h1, h2⟩, h⟩ := h
    refine xs_getf rfl fl_0_73 h1 h2 ?_
    refine xs_iconstV (v := 0) rfl rfl ?_
    refine xs_aload_n rfl rfl ?_
    obtain ⟨p5, ⟨_, h1, h2⟩, h⟩ := h
    refine xs_getf rfl fl_0_15 h1 h2 ?_
    obtain ⟨p6, ⟨_, h1, h2⟩, h⟩ := h
    refine xs_getf rfl fl_0_73 h1 h2 ?_
    refine xs_iconstV (v := 0) rfl rfl ?_
    refine xs_aload_n rfl rfl ?_
    obtain ⟨p7, ⟨_, h1, h2⟩, h⟩ := h
    refine xs_getf rfl fl_0_20 h1 h2 ?_
    obtain ⟨a8, ⟨_, h1, h2⟩, h⟩ := h
    refine xs_getf rfl fl_0_53 h1 h2 ?_
    exact h
  · have h := h.2 hb
    exact h

set_option maxRecDepth 20000 in
theorem b_RP_turn_6 {l : Launch} {x : xX} {d mc ms n0 uc us : Nat} {Q : xO → xH → Prop} {cl : Bool} {r0 : Nat} {q0 : Nat} {H : xH}
    (h : xW l x d mc ms mRP_turn n0 Q cl 7 [some (.ref r0)] [.ref q0, .ref q0] H uc us) :
    xW l x d mc ms mRP_turn n0 Q cl 6 [some (.ref r0)] [.ref q0] H uc us := by
  refine xs_dup rfl rfl ?_
  exact h

-- b_RP_turn_8: .athrow
set_option maxRecDepth 20000 in
theorem b_RP_turn_21 {l : Launch} {x : xX} {d mc ms n0 uc us : Nat} {Q : xO → xH → Prop} {cl : Bool} {r0 : Nat} {H : xH}
    (h : ∃ p1, gR H r0 0 0 p1 ∧ (∃ p2, gR H r0 0 1 p2 ∧ (∃ a3, gI H p2 7 1 a3 ∧ (∃ c4, H[(p1 : Nat)]? = some (.inr (7, c4)) ∧ 1 < c4.length ∧ (∀ H5 : xH, H5 = H.set p1 (.inr (7, c4.set 1 (.int a3))) → ∃ p6, gR H5 r0 0 0 p6 ∧ (∃ a7, gI H5 p6 7 1 a7 ∧ (uc = mc ∧ us ≤ ms ∧ Q (.inl (some (.int a7))) H5))))))) :
    xW l x d mc ms mRP_turn n0 Q cl 21 [some (.ref r0)] [] H uc us := by
  refine xs_aload_n rfl rfl ?_
  obtain ⟨p1, ⟨_, h1, h2⟩, h⟩ := h
  refine xs_getf rfl fl_0_15 h1 h2 ?_
  refine xs_aload_n rfl rfl ?_
  obtain ⟨p2, ⟨_, h1, h2⟩, h⟩ := h
  refine xs_getf rfl fl_0_20 h1 h2 ?_
  obtain ⟨a3, ⟨_, h1, h2⟩, h⟩ := h
  refine xs_getf rfl fl_0_53 h1 h2 ?_
  obtain ⟨c4, h1, h2, h⟩ := h
  refine xs_putf rfl fl_0_53 h1 (fun q hq => by cases hq; rfl) rfl h2 ?_
  have h := h _ rfl
  generalize H.set p1 (.inr (7, c4.set 1 (.int a3))) = H5 at h ⊢
  refine xs_aload_n rfl rfl ?_
  obtain ⟨p6, ⟨_, h1, h2⟩, h⟩ := h
  refine xs_getf rfl fl_0_15 h1 h2 ?_
  obtain ⟨a7, ⟨_, h1, h2⟩, h⟩ := h
  refine xs_getf rfl fl_0_53 h1 h2 ?_
  exact xs_iret rfl rfl h.1 h.2.1 h.2.2

set_option maxRecDepth 20000 in
theorem b_RP_sum_0 {l : Launch} {x : xX} {d mc ms n0 uc us : Nat} {Q : xO → xH → Prop} {cl : Bool} {r0 : Nat} {v1 : Int32} {H : xH}
    (h : (v1 < 0 → xW l x d mc ms mRP_sum n0 Q cl 5 [some (.ref r0), some (.int v1)] [] H uc us) ∧ (¬ v1 < 0 → (v1 ≤ 1 → (¬ v1 = 0 → ∃ p1, gR H r0 0 3 p1 ∧ (∃ p2, gR H r0 0 0 p2 ∧ (∃ p3, gR H r0 0 0 p3 ∧ (∃ a4, gI H p3 7 1 a4 ∧ (xW l x d mc ms mRP_sum n0 Q cl 29 [some (.ref r0), some (.int v1)] [.int a4, .int 0, .ref p2, .ref p1] H uc us))))) ∧ (v1 = 0 → ∃ p5, gR H r0 0 3 p5 ∧ (∃ p6, gR H r0 0 0 p6 ∧ (∃ p7, gR H r0 0 0 p7 ∧ (∃ a8, gI H p7 7 1 a8 ∧ (xW l x d mc ms mRP_sum n0 Q cl 19 [some (.ref r0), some (.int v1)] [.int a8, .int 0, .ref p6, .ref p5] H uc us)))))) ∧ (¬ v1 ≤ 1 → xW l x d mc ms mRP_sum n0 Q cl 5 [some (.ref r0), some (.int v1)] [] H uc us))) :
    xW l x d mc ms mRP_sum n0 Q cl 0 [some (.ref r0), some (.int v1)] [] H uc us := by
  refine xs_iload_n rfl rfl ?_
  refine xs_if_lt (k' := 5) rfl rfl (fun hb => ?_) (fun hb => ?_)
  · have h := h.1 hb
    exact h
  · have h := h.2 hb
    refine xs_iload_n rfl rfl ?_
    refine xs_iconstV (v := 1) rfl rfl ?_
    refine xs_icmp_le (k' := 9) rfl rfl (fun hb => ?_) (fun hb => ?_)
    · have h := h.1 hb
      refine xs_iload_n rfl rfl ?_
      refine xs_if_ne (k' := 21) rfl rfl (fun hb => ?_) (fun hb => ?_)
      · have h := h.1 hb
        refine xs_aload_n rfl rfl ?_
        obtain ⟨p1, ⟨_, h1, h2⟩, h⟩ := h
        refine xs_getf rfl fl_0_33 h1 h2 ?_
        refine xs_aload_n rfl rfl ?_
        obtain ⟨p2, ⟨_, h1, h2⟩, h⟩ := h
        refine xs_getf rfl fl_0_15 h1 h2 ?_
        refine xs_iconstV (v := 0) rfl rfl ?_
        refine xs_aload_n rfl rfl ?_
        obtain ⟨p3, ⟨_, h1, h2⟩, h⟩ := h
        refine xs_getf rfl fl_0_15 h1 h2 ?_
        obtain ⟨a4, ⟨_, h1, h2⟩, h⟩ := h
        refine xs_getf rfl fl_0_53 h1 h2 ?_
        exact h
      · have h := h.2 hb
        refine xs_aload_n rfl rfl ?_
        obtain ⟨p5, ⟨_, h1, h2⟩, h⟩ := h
        refine xs_getf rfl fl_0_33 h1 h2 ?_
        refine xs_aload_n rfl rfl ?_
        obtain ⟨p6, ⟨_, h1, h2⟩, h⟩ := h
        refine xs_getf rfl fl_0_15 h1 h2 ?_
        refine xs_iconstV (v := 0) rfl rfl ?_
        refine xs_aload_n rfl rfl ?_
        obtain ⟨p7, ⟨_, h1, h2⟩, h⟩ := h
        refine xs_getf rfl fl_0_15 h1 h2 ?_
        obtain ⟨a8, ⟨_, h1, h2⟩, h⟩ := h
        refine xs_getf rfl fl_0_53 h1 h2 ?_
        exact h
    · have h := h.2 hb
      exact h

set_option maxRecDepth 20000 in
theorem b_RP_sum_6 {l : Launch} {x : xX} {d mc ms n0 uc us : Nat} {Q : xO → xH → Prop} {cl : Bool} {r0 : Nat} {v1 : Int32} {q0 : Nat} {H : xH}
    (h : xW l x d mc ms mRP_sum n0 Q cl 7 [some (.ref r0), some (.int v1)] [.ref q0, .ref q0] H uc us) :
    xW l x d mc ms mRP_sum n0 Q cl 6 [some (.ref r0), some (.int v1)] [.ref q0] H uc us := by
  refine xs_dup rfl rfl ?_
  exact h

-- b_RP_sum_8: .athrow
set_option maxRecDepth 20000 in
theorem b_RP_sum_20 {l : Launch} {x : xX} {d mc ms n0 uc us : Nat} {Q : xO → xH → Prop} {cl : Bool} {r0 : Nat} {v1 : Int32} {u0 : Int64} {H : xH}
    (h : xW l x d mc ms mRP_sum n0 Q cl 30 [some (.ref r0), some (.int v1)] [.long u0] H uc us) :
    xW l x d mc ms mRP_sum n0 Q cl 20 [some (.ref r0), some (.int v1)] [.long u0] H uc us := by
  refine xs_goto (k' := 30) rfl rfl ?_
  exact h

set_option maxRecDepth 20000 in
theorem b_RP_sum_30 {l : Launch} {x : xX} {d mc ms n0 uc us : Nat} {Q : xO → xH → Prop} {cl : Bool} {r0 : Nat} {v1 : Int32} {u0 : Int64} {H : xH}
    (h : uc = mc ∧ us ≤ ms ∧ Q (.inl (some (.long u0))) H) :
    xW l x d mc ms mRP_sum n0 Q cl 30 [some (.ref r0), some (.int v1)] [.long u0] H uc us := by
  exact xs_lret rfl rfl h.1 h.2.1 h.2.2

set_option maxRecDepth 20000 in
theorem b_RP_block_0 {l : Launch} {x : xX} {d mc ms n0 uc us : Nat} {Q : xO → xH → Prop} {cl : Bool} {r0 : Nat} {v1 : Int32} {v2 : Int32} {H : xH}
    (h : (v1 < 0 → xW l x d mc ms mRP_block n0 Q cl 10 [some (.ref r0), some (.int v1), some (.int v2)] [] H uc us) ∧ (¬ v1 < 0 → ∃ p1, gR H r0 0 2 p1 ∧ (∃ a2, gI H p1 6 3 a2 ∧ ((a2 ≤ v1 → xW l x d mc ms mRP_block n0 Q cl 10 [some (.ref r0), some (.int v1), some (.int v2)] [] H uc us) ∧ (¬ a2 ≤ v1 → (v1 < 64 → (v2 < 0 → xW l x d mc ms mRP_block n0 Q cl 19 [some (.ref r0), some (.int v1), some (.int v2)] [] H uc us) ∧ (¬ v2 < 0 → (v2 < 4 → ∃ p3, gR H r0 0 2 p3 ∧ (∃ p4, gR H p3 6 0 p4 ∧ (∃ n5 f6, H[(p4 : Nat)]? = some (.inl (0, n5, .inl f6)) ∧ vp_in (((4 : Int32) * v1) + v2) n5 ∧ (uc = mc ∧ us ≤ ms ∧ Q (.inl (some (.int (f6 (((4 : Int32) * v1) + v2).toNatClampNeg)))) H)))) ∧ (¬ v2 < 4 → xW l x d mc ms mRP_block n0 Q cl 19 [some (.ref r0), some (.int v1), some (.int v2)] [] H uc us))) ∧ (¬ v1 < 64 → xW l x d mc ms mRP_block n0 Q cl 10 [some (.ref r0), some (.int v1), some (.int v2)] [] H uc us)))))) :
    xW l x d mc ms mRP_block n0 Q cl 0 [some (.ref r0), some (.int v1), some (.int v2)] [] H uc us := by
  refine xs_iload_n rfl rfl ?_
  refine xs_if_lt (k' := 10) rfl rfl (fun hb => ?_) (fun hb => ?_)
  · have h := h.1 hb
    exact h
  · have h := h.2 hb
    refine xs_iload_n rfl rfl ?_
    refine xs_aload_n rfl rfl ?_
    obtain ⟨p1, ⟨_, h1, h2⟩, h⟩ := h
    refine xs_getf rfl fl_0_26 h1 h2 ?_
    obtain ⟨a2, ⟨_, h1, h2⟩, h⟩ := h
    refine xs_getf rfl fl_0_106 h1 h2 ?_
    refine xs_icmp_ge (k' := 10) rfl rfl (fun hb => ?_) (fun hb => ?_)
    · have h := h.1 hb
      exact h
    · have h := h.2 hb
      refine xs_iload_n rfl rfl ?_
      refine xs_bipushV (v := 64) rfl rfl ?_
      refine xs_icmp_lt (k' := 14) rfl rfl (fun hb => ?_) (fun hb => ?_)
      · have h := h.1 hb
        refine xs_iload_n rfl rfl ?_
        refine xs_if_lt (k' := 19) rfl rfl (fun hb => ?_) (fun hb => ?_)
        · have h := h.1 hb
          exact h
        · have h := h.2 hb
          refine xs_iload_n rfl rfl ?_
          refine xs_iconstV (v := 4) rfl rfl ?_
          refine xs_icmp_lt (k' := 23) rfl rfl (fun hb => ?_) (fun hb => ?_)
          · have h := h.1 hb
            refine xs_aload_n rfl rfl ?_
            obtain ⟨p3, ⟨_, h1, h2⟩, h⟩ := h
            refine xs_getf rfl fl_0_26 h1 h2 ?_
            obtain ⟨p4, ⟨_, h1, h2⟩, h⟩ := h
            refine xs_getf rfl fl_0_109 h1 h2 ?_
            refine xs_iconstV (v := 4) rfl rfl ?_
            refine xs_iload_n rfl rfl ?_
            refine xs_imul rfl ?_
            refine xs_iload_n rfl rfl ?_
            refine xs_iadd rfl ?_
            obtain ⟨n5, f6, h1, h2, h⟩ := h
            refine xs_iald rfl h1 h2 ?_
            exact xs_iret rfl rfl h.1 h.2.1 h.2.2
          · have h := h.2 hb
            exact h
      · have h := h.2 hb
        exact h

set_option maxRecDepth 20000 in
theorem b_RP_block_11 {l : Launch} {x : xX} {d mc ms n0 uc us : Nat} {Q : xO → xH → Prop} {cl : Bool} {r0 : Nat} {v1 : Int32} {v2 : Int32} {q0 : Nat} {H : xH}
    (h : xW l x d mc ms mRP_block n0 Q cl 12 [some (.ref r0), some (.int v1), some (.int v2)] [.ref q0, .ref q0] H uc us) :
    xW l x d mc ms mRP_block n0 Q cl 11 [some (.ref r0), some (.int v1), some (.int v2)] [.ref q0] H uc us := by
  refine xs_dup rfl rfl ?_
  exact h

-- b_RP_block_13: .athrow
set_option maxRecDepth 20000 in
theorem b_RP_block_20 {l : Launch} {x : xX} {d mc ms n0 uc us : Nat} {Q : xO → xH → Prop} {cl : Bool} {r0 : Nat} {v1 : Int32} {v2 : Int32} {q0 : Nat} {H : xH}
    (h : xW l x d mc ms mRP_block n0 Q cl 21 [some (.ref r0), some (.int v1), some (.int v2)] [.ref q0, .ref q0] H uc us) :
    xW l x d mc ms mRP_block n0 Q cl 20 [some (.ref r0), some (.int v1), some (.int v2)] [.ref q0] H uc us := by
  refine xs_dup rfl rfl ?_
  exact h

-- b_RP_block_22: .athrow
