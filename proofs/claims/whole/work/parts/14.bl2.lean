set_option maxRecDepth 20000 in
theorem b_WC_init_0 {l : Launch} {x : xX} {d mc ms n0 uc us : Nat} {Q : xO → xH → Prop} {cl : Bool} {r0 : Nat} {v1 : Int32} {H : xH}
    (h : xW l x d mc ms mWC_init n0 Q cl 1 [some (.ref r0), some (.int v1)] [.ref r0] H uc us) :
    xW l x d mc ms mWC_init n0 Q cl 0 [some (.ref r0), some (.int v1)] [] H uc us := by
  refine xs_aload_n rfl rfl ?_
  exact h

set_option maxRecDepth 20000 in
theorem b_WC_init_2 {l : Launch} {x : xX} {d mc ms n0 uc us : Nat} {Q : xO → xH → Prop} {cl : Bool} {r0 : Nat} {v1 : Int32} {H : xH}
    (h : xW l x d mc ms mWC_init n0 Q cl 4 [some (.ref r0), some (.int v1)] [.int 17, .ref r0] H uc us) :
    xW l x d mc ms mWC_init n0 Q cl 2 [some (.ref r0), some (.int v1)] [] H uc us := by
  refine xs_aload_n rfl rfl ?_
  refine xs_bipushV (v := 17) rfl rfl ?_
  exact h

set_option maxRecDepth 20000 in
theorem b_WC_init_5 {l : Launch} {x : xX} {d mc ms n0 uc us : Nat} {Q : xO → xH → Prop} {cl : Bool} {r0 : Nat} {v1 : Int32} {q0 : Nat} {q1 : Nat} {H : xH}
    (h : ∃ c1, H[(q0 : Nat)]? = some (.inr (11, c1)) ∧ 2 < c1.length ∧ (∀ H2 : xH, H2 = H.set q0 (.inr (11, c1.set 2 (.ref q1))) → xW l x d mc ms mWC_init n0 Q false 8 [some (.ref r0), some (.int v1)] [.int v1, .ref r0] H2 uc us)) :
    xW l x d mc ms mWC_init n0 Q cl 5 [some (.ref r0), some (.int v1)] [.ref q1, .ref q0] H uc us := by
  obtain ⟨c1, h1, h2, h⟩ := h
  refine xs_putF rfl fl_11_9 h1 (fun q hq => by cases hq; exact ⟨rfl, rfl⟩) rfl rfl h2 ?_
  have h := h _ rfl
  generalize H.set q0 (.inr (11, c1.set 2 (.ref q1))) = H2 at h ⊢
  refine xs_aload_n rfl rfl ?_
  refine xs_iload_n rfl rfl ?_
  exact h

set_option maxRecDepth 20000 in
theorem b_WC_init_9 {l : Launch} {x : xX} {d mc ms n0 uc us : Nat} {Q : xO → xH → Prop} {cl : Bool} {r0 : Nat} {v1 : Int32} {q0 : Nat} {q1 : Nat} {H : xH}
    (h : ∃ c1, H[(q0 : Nat)]? = some (.inr (11, c1)) ∧ 0 < c1.length ∧ (∀ H2 : xH, H2 = H.set q0 (.inr (11, c1.set 0 (.ref q1))) → xW l x d mc ms mWC_init n0 Q false 12 [some (.ref r0), some (.int v1)] [.int v1, .ref r0] H2 uc us)) :
    xW l x d mc ms mWC_init n0 Q cl 9 [some (.ref r0), some (.int v1)] [.ref q1, .ref q0] H uc us := by
  obtain ⟨c1, h1, h2, h⟩ := h
  refine xs_putF rfl fl_11_15 h1 (fun q hq => by cases hq; exact ⟨rfl, rfl⟩) rfl rfl h2 ?_
  have h := h _ rfl
  generalize H.set q0 (.inr (11, c1.set 0 (.ref q1))) = H2 at h ⊢
  refine xs_aload_n rfl rfl ?_
  refine xs_iload_n rfl rfl ?_
  exact h

set_option maxRecDepth 20000 in
theorem b_WC_init_13 {l : Launch} {x : xX} {d mc ms n0 uc us : Nat} {Q : xO → xH → Prop} {cl : Bool} {r0 : Nat} {v1 : Int32} {q0 : Nat} {q1 : Nat} {H : xH}
    (h : ∃ c1, H[(q0 : Nat)]? = some (.inr (11, c1)) ∧ 1 < c1.length ∧ (∀ H2 : xH, H2 = H.set q0 (.inr (11, c1.set 1 (.ref q1))) → uc = mc ∧ us ≤ ms ∧ Q (.inl none) H2)) :
    xW l x d mc ms mWC_init n0 Q cl 13 [some (.ref r0), some (.int v1)] [.ref q1, .ref q0] H uc us := by
  obtain ⟨c1, h1, h2, h⟩ := h
  refine xs_putF rfl fl_11_18 h1 (fun q hq => by cases hq; exact ⟨rfl, rfl⟩) rfl rfl h2 ?_
  have h := h _ rfl
  generalize H.set q0 (.inr (11, c1.set 1 (.ref q1))) = H2 at h ⊢
  exact xs_vret rfl rfl h.1 h.2.1 h.2.2

set_option maxRecDepth 20000 in
theorem b_MC_init_0 {l : Launch} {x : xX} {d mc ms n0 uc us : Nat} {Q : xO → xH → Prop} {cl : Bool} {r0 : Nat} {H : xH}
    (h : xW l x d mc ms mMC_init n0 Q cl 1 [some (.ref r0)] [.ref r0] H uc us) :
    xW l x d mc ms mMC_init n0 Q cl 0 [some (.ref r0)] [] H uc us := by
  refine xs_aload_n rfl rfl ?_
  exact h

set_option maxRecDepth 20000 in
theorem b_MC_init_2 {l : Launch} {x : xX} {d mc ms n0 uc us : Nat} {Q : xO → xH → Prop} {cl : Bool} {r0 : Nat} {H : xH}
    (h : xW l x d mc ms mMC_init n0 Q cl 3 [some (.ref r0)] [.ref r0] H uc us) :
    xW l x d mc ms mMC_init n0 Q cl 2 [some (.ref r0)] [] H uc us := by
  refine xs_aload_n rfl rfl ?_
  exact h

set_option maxRecDepth 20000 in
theorem b_MC_init_4 {l : Launch} {x : xX} {d mc ms n0 uc us : Nat} {Q : xO → xH → Prop} {cl : Bool} {r0 : Nat} {q0 : Nat} {q1 : Nat} {H : xH}
    (h : xW l x d mc ms mMC_init n0 Q cl 6 [some (.ref r0)] [.int 286, .ref q1, .ref q1, .ref q0] H uc us) :
    xW l x d mc ms mMC_init n0 Q cl 4 [some (.ref r0)] [.ref q1, .ref q0] H uc us := by
  refine xs_dup rfl rfl ?_
  refine xs_sipushV (v := 286) rfl rfl ?_
  exact h

set_option maxRecDepth 20000 in
theorem b_MC_init_7 {l : Launch} {x : xX} {d mc ms n0 uc us : Nat} {Q : xO → xH → Prop} {cl : Bool} {r0 : Nat} {q0 : Nat} {q1 : Nat} {H : xH}
    (h : ∃ c1, H[(q0 : Nat)]? = some (.inr (3, c1)) ∧ 0 < c1.length ∧ (∀ H2 : xH, H2 = H.set q0 (.inr (3, c1.set 0 (.ref q1))) → xW l x d mc ms mMC_init n0 Q false 9 [some (.ref r0)] [.ref r0] H2 uc us)) :
    xW l x d mc ms mMC_init n0 Q cl 7 [some (.ref r0)] [.ref q1, .ref q0] H uc us := by
  obtain ⟨c1, h1, h2, h⟩ := h
  refine xs_putF rfl fl_3_14 h1 (fun q hq => by cases hq; exact ⟨rfl, rfl⟩) rfl rfl h2 ?_
  have h := h _ rfl
  generalize H.set q0 (.inr (3, c1.set 0 (.ref q1))) = H2 at h ⊢
  refine xs_aload_n rfl rfl ?_
  exact h

set_option maxRecDepth 20000 in
theorem b_MC_init_10 {l : Launch} {x : xX} {d mc ms n0 uc us : Nat} {Q : xO → xH → Prop} {cl : Bool} {r0 : Nat} {q0 : Nat} {q1 : Nat} {H : xH}
    (h : xW l x d mc ms mMC_init n0 Q cl 12 [some (.ref r0)] [.int 30, .ref q1, .ref q1, .ref q0] H uc us) :
    xW l x d mc ms mMC_init n0 Q cl 10 [some (.ref r0)] [.ref q1, .ref q0] H uc us := by
  refine xs_dup rfl rfl ?_
  refine xs_bipushV (v := 30) rfl rfl ?_
  exact h

set_option maxRecDepth 20000 in
theorem b_MC_init_13 {l : Launch} {x : xX} {d mc ms n0 uc us : Nat} {Q : xO → xH → Prop} {cl : Bool} {r0 : Nat} {q0 : Nat} {q1 : Nat} {H : xH}
    (h : ∃ c1, H[(q0 : Nat)]? = some (.inr (3, c1)) ∧ 1 < c1.length ∧ (∀ H2 : xH, H2 = H.set q0 (.inr (3, c1.set 1 (.ref q1))) → xW l x d mc ms mMC_init n0 Q false 15 [some (.ref r0)] [.ref r0] H2 uc us)) :
    xW l x d mc ms mMC_init n0 Q cl 13 [some (.ref r0)] [.ref q1, .ref q0] H uc us := by
  obtain ⟨c1, h1, h2, h⟩ := h
  refine xs_putF rfl fl_3_20 h1 (fun q hq => by cases hq; exact ⟨rfl, rfl⟩) rfl rfl h2 ?_
  have h := h _ rfl
  generalize H.set q0 (.inr (3, c1.set 1 (.ref q1))) = H2 at h ⊢
  refine xs_aload_n rfl rfl ?_
  exact h

set_option maxRecDepth 20000 in
theorem b_MC_init_16 {l : Launch} {x : xX} {d mc ms n0 uc us : Nat} {Q : xO → xH → Prop} {cl : Bool} {r0 : Nat} {q0 : Nat} {q1 : Nat} {H : xH}
    (h : xW l x d mc ms mMC_init n0 Q cl 18 [some (.ref r0)] [.int 19, .ref q1, .ref q1, .ref q0] H uc us) :
    xW l x d mc ms mMC_init n0 Q cl 16 [some (.ref r0)] [.ref q1, .ref q0] H uc us := by
  refine xs_dup rfl rfl ?_
  refine xs_bipushV (v := 19) rfl rfl ?_
  exact h

set_option maxRecDepth 20000 in
theorem b_MC_init_19 {l : Launch} {x : xX} {d mc ms n0 uc us : Nat} {Q : xO → xH → Prop} {cl : Bool} {r0 : Nat} {q0 : Nat} {q1 : Nat} {H : xH}
    (h : ∃ c1, H[(q0 : Nat)]? = some (.inr (3, c1)) ∧ 2 < c1.length ∧ (∀ H2 : xH, H2 = H.set q0 (.inr (3, c1.set 2 (.ref q1))) → xW l x d mc ms mMC_init n0 Q false 21 [some (.ref r0)] [.ref r0] H2 uc us)) :
    xW l x d mc ms mMC_init n0 Q cl 19 [some (.ref r0)] [.ref q1, .ref q0] H uc us := by
  obtain ⟨c1, h1, h2, h⟩ := h
  refine xs_putF rfl fl_3_23 h1 (fun q hq => by cases hq; exact ⟨rfl, rfl⟩) rfl rfl h2 ?_
  have h := h _ rfl
  generalize H.set q0 (.inr (3, c1.set 2 (.ref q1))) = H2 at h ⊢
  refine xs_aload_n rfl rfl ?_
  exact h

set_option maxRecDepth 20000 in
theorem b_MC_init_22 {l : Launch} {x : xX} {d mc ms n0 uc us : Nat} {Q : xO → xH → Prop} {cl : Bool} {r0 : Nat} {q0 : Nat} {q1 : Nat} {H : xH}
    (h : xW l x d mc ms mMC_init n0 Q cl 23 [some (.ref r0)] [.ref q1, .ref q1, .ref q0] H uc us) :
    xW l x d mc ms mMC_init n0 Q cl 22 [some (.ref r0)] [.ref q1, .ref q0] H uc us := by
  refine xs_dup rfl rfl ?_
  exact h

set_option maxRecDepth 20000 in
theorem b_MC_init_24 {l : Launch} {x : xX} {d mc ms n0 uc us : Nat} {Q : xO → xH → Prop} {cl : Bool} {r0 : Nat} {q0 : Nat} {q1 : Nat} {H : xH}
    (h : ∃ c1, H[(q0 : Nat)]? = some (.inr (3, c1)) ∧ 3 < c1.length ∧ (∀ H2 : xH, H2 = H.set q0 (.inr (3, c1.set 3 (.ref q1))) → xW l x d mc ms mMC_init n0 Q false 27 [some (.ref r0)] [.int 316, .ref r0] H2 uc us)) :
    xW l x d mc ms mMC_init n0 Q cl 24 [some (.ref r0)] [.ref q1, .ref q0] H uc us := by
  obtain ⟨c1, h1, h2, h⟩ := h
  refine xs_putF rfl fl_3_29 h1 (fun q hq => by cases hq; exact ⟨rfl, rfl⟩) rfl rfl h2 ?_
  have h := h _ rfl
  generalize H.set q0 (.inr (3, c1.set 3 (.ref q1))) = H2 at h ⊢
  refine xs_aload_n rfl rfl ?_
  refine xs_sipushV (v := 316) rfl rfl ?_
  exact h

set_option maxRecDepth 20000 in
theorem b_MC_init_28 {l : Launch} {x : xX} {d mc ms n0 uc us : Nat} {Q : xO → xH → Prop} {cl : Bool} {r0 : Nat} {q0 : Nat} {q1 : Nat} {H : xH}
    (h : ∃ c1, H[(q0 : Nat)]? = some (.inr (3, c1)) ∧ 4 < c1.length ∧ (∀ H2 : xH, H2 = H.set q0 (.inr (3, c1.set 4 (.ref q1))) → xW l x d mc ms mMC_init n0 Q false 31 [some (.ref r0)] [.int 316, .ref r0] H2 uc us)) :
    xW l x d mc ms mMC_init n0 Q cl 28 [some (.ref r0)] [.ref q1, .ref q0] H uc us := by
  obtain ⟨c1, h1, h2, h⟩ := h
  refine xs_putF rfl fl_3_33 h1 (fun q hq => by cases hq; exact ⟨rfl, rfl⟩) rfl rfl h2 ?_
  have h := h _ rfl
  generalize H.set q0 (.inr (3, c1.set 4 (.ref q1))) = H2 at h ⊢
  refine xs_aload_n rfl rfl ?_
  refine xs_sipushV (v := 316) rfl rfl ?_
  exact h

set_option maxRecDepth 20000 in
theorem b_MC_init_32 {l : Launch} {x : xX} {d mc ms n0 uc us : Nat} {Q : xO → xH → Prop} {cl : Bool} {r0 : Nat} {q0 : Nat} {q1 : Nat} {H : xH}
    (h : ∃ c1, H[(q0 : Nat)]? = some (.inr (3, c1)) ∧ 5 < c1.length ∧ (∀ H2 : xH, H2 = H.set q0 (.inr (3, c1.set 5 (.ref q1))) → xW l x d mc ms mMC_init n0 Q false 35 [some (.ref r0)] [.int 316, .ref r0] H2 uc us)) :
    xW l x d mc ms mMC_init n0 Q cl 32 [some (.ref r0)] [.ref q1, .ref q0] H uc us := by
  obtain ⟨c1, h1, h2, h⟩ := h
  refine xs_putF rfl fl_3_37 h1 (fun q hq => by cases hq; exact ⟨rfl, rfl⟩) rfl rfl h2 ?_
  have h := h _ rfl
  generalize H.set q0 (.inr (3, c1.set 5 (.ref q1))) = H2 at h ⊢
  refine xs_aload_n rfl rfl ?_
  refine xs_sipushV (v := 316) rfl rfl ?_
  exact h

set_option maxRecDepth 20000 in
theorem b_MC_init_36 {l : Launch} {x : xX} {d mc ms n0 uc us : Nat} {Q : xO → xH → Prop} {cl : Bool} {r0 : Nat} {q0 : Nat} {q1 : Nat} {H : xH}
    (h : ∃ c1, H[(q0 : Nat)]? = some (.inr (3, c1)) ∧ 6 < c1.length ∧ (∀ H2 : xH, H2 = H.set q0 (.inr (3, c1.set 6 (.ref q1))) → xW l x d mc ms mMC_init n0 Q false 39 [some (.ref r0)] [.int 19, .ref r0] H2 uc us)) :
    xW l x d mc ms mMC_init n0 Q cl 36 [some (.ref r0)] [.ref q1, .ref q0] H uc us := by
  obtain ⟨c1, h1, h2, h⟩ := h
  refine xs_putF rfl fl_3_40 h1 (fun q hq => by cases hq; exact ⟨rfl, rfl⟩) rfl rfl h2 ?_
  have h := h _ rfl
  generalize H.set q0 (.inr (3, c1.set 6 (.ref q1))) = H2 at h ⊢
  refine xs_aload_n rfl rfl ?_
  refine xs_bipushV (v := 19) rfl rfl ?_
  exact h

set_option maxRecDepth 20000 in
theorem b_MC_init_40 {l : Launch} {x : xX} {d mc ms n0 uc us : Nat} {Q : xO → xH → Prop} {cl : Bool} {r0 : Nat} {q0 : Nat} {q1 : Nat} {H : xH}
    (h : ∃ c1, H[(q0 : Nat)]? = some (.inr (3, c1)) ∧ 7 < c1.length ∧ (∀ H2 : xH, H2 = H.set q0 (.inr (3, c1.set 7 (.ref q1))) → uc = mc ∧ us ≤ ms ∧ Q (.inl none) H2)) :
    xW l x d mc ms mMC_init n0 Q cl 40 [some (.ref r0)] [.ref q1, .ref q0] H uc us := by
  obtain ⟨c1, h1, h2, h⟩ := h
  refine xs_putF rfl fl_3_43 h1 (fun q hq => by cases hq; exact ⟨rfl, rfl⟩) rfl rfl h2 ?_
  have h := h _ rfl
  generalize H.set q0 (.inr (3, c1.set 7 (.ref q1))) = H2 at h ⊢
  exact xs_vret rfl rfl h.1 h.2.1 h.2.2

set_option maxRecDepth 20000 in
theorem b_WE_init_0 {l : Launch} {x : xX} {d mc ms n0 uc us : Nat} {Q : xO → xH → Prop} {cl : Bool} {r0 : Nat} {H : xH}
    (h : xW l x d mc ms mWE_init n0 Q cl 1 [some (.ref r0)] [.ref r0] H uc us) :
    xW l x d mc ms mWE_init n0 Q cl 0 [some (.ref r0)] [] H uc us := by
  refine xs_aload_n rfl rfl ?_
  exact h

set_option maxRecDepth 20000 in
theorem b_WE_init_2 {l : Launch} {x : xX} {d mc ms n0 uc us : Nat} {Q : xO → xH → Prop} {cl : Bool} {r0 : Nat} {H : xH}
    (h : xW l x d mc ms mWE_init n0 Q cl 4 [some (.ref r0)] [.int 286, .ref r0] H uc us) :
    xW l x d mc ms mWE_init n0 Q cl 2 [some (.ref r0)] [] H uc us := by
  refine xs_aload_n rfl rfl ?_
  refine xs_sipushV (v := 286) rfl rfl ?_
  exact h

set_option maxRecDepth 20000 in
theorem b_WE_init_5 {l : Launch} {x : xX} {d mc ms n0 uc us : Nat} {Q : xO → xH → Prop} {cl : Bool} {r0 : Nat} {q0 : Nat} {q1 : Nat} {H : xH}
    (h : ∃ c1, H[(q0 : Nat)]? = some (.inr (10, c1)) ∧ 0 < c1.length ∧ (∀ H2 : xH, H2 = H.set q0 (.inr (10, c1.set 0 (.ref q1))) → xW l x d mc ms mWE_init n0 Q false 8 [some (.ref r0)] [.int 286, .ref r0] H2 uc us)) :
    xW l x d mc ms mWE_init n0 Q cl 5 [some (.ref r0)] [.ref q1, .ref q0] H uc us := by
  obtain ⟨c1, h1, h2, h⟩ := h
  refine xs_putF rfl fl_10_9 h1 (fun q hq => by cases hq; exact ⟨rfl, rfl⟩) rfl rfl h2 ?_
  have h := h _ rfl
  generalize H.set q0 (.inr (10, c1.set 0 (.ref q1))) = H2 at h ⊢
  refine xs_aload_n rfl rfl ?_
  refine xs_sipushV (v := 286) rfl rfl ?_
  exact h

set_option maxRecDepth 20000 in
theorem b_WE_init_9 {l : Launch} {x : xX} {d mc ms n0 uc us : Nat} {Q : xO → xH → Prop} {cl : Bool} {r0 : Nat} {q0 : Nat} {q1 : Nat} {H : xH}
    (h : ∃ c1, H[(q0 : Nat)]? = some (.inr (10, c1)) ∧ 1 < c1.length ∧ (∀ H2 : xH, H2 = H.set q0 (.inr (10, c1.set 1 (.ref q1))) → xW l x d mc ms mWE_init n0 Q false 12 [some (.ref r0)] [.int 572, .ref r0] H2 uc us)) :
    xW l x d mc ms mWE_init n0 Q cl 9 [some (.ref r0)] [.ref q1, .ref q0] H uc us := by
  obtain ⟨c1, h1, h2, h⟩ := h
  refine xs_putF rfl fl_10_15 h1 (fun q hq => by cases hq; exact ⟨rfl, rfl⟩) rfl rfl h2 ?_
  have h := h _ rfl
  generalize H.set q0 (.inr (10, c1.set 1 (.ref q1))) = H2 at h ⊢
  refine xs_aload_n rfl rfl ?_
  refine xs_sipushV (v := 572) rfl rfl ?_
  exact h

set_option maxRecDepth 20000 in
theorem b_WE_init_13 {l : Launch} {x : xX} {d mc ms n0 uc us : Nat} {Q : xO → xH → Prop} {cl : Bool} {r0 : Nat} {q0 : Nat} {q1 : Nat} {H : xH}
    (h : ∃ c1, H[(q0 : Nat)]? = some (.inr (10, c1)) ∧ 3 < c1.length ∧ (∀ H2 : xH, H2 = H.set q0 (.inr (10, c1.set 3 (.ref q1))) → xW l x d mc ms mWE_init n0 Q false 16 [some (.ref r0)] [.int 572, .ref r0] H2 uc us)) :
    xW l x d mc ms mWE_init n0 Q cl 13 [some (.ref r0)] [.ref q1, .ref q0] H uc us := by
  obtain ⟨c1, h1, h2, h⟩ := h
  refine xs_putf rfl fl_10_18 h1 (fun q hq => by cases hq; rfl) rfl h2 ?_
  have h := h _ rfl
  generalize H.set q0 (.inr (10, c1.set 3 (.ref q1))) = H2 at h ⊢
  refine xs_aload_n rfl rfl ?_
  refine xs_sipushV (v := 572) rfl rfl ?_
  exact h

set_option maxRecDepth 20000 in
theorem b_WE_init_17 {l : Launch} {x : xX} {d mc ms n0 uc us : Nat} {Q : xO → xH → Prop} {cl : Bool} {r0 : Nat} {q0 : Nat} {q1 : Nat} {H : xH}
    (h : ∃ c1, H[(q0 : Nat)]? = some (.inr (10, c1)) ∧ 4 < c1.length ∧ (∀ H2 : xH, H2 = H.set q0 (.inr (10, c1.set 4 (.ref q1))) → xW l x d mc ms mWE_init n0 Q false 20 [some (.ref r0)] [.int 8580, .ref r0] H2 uc us)) :
    xW l x d mc ms mWE_init n0 Q cl 17 [some (.ref r0)] [.ref q1, .ref q0] H uc us := by
  obtain ⟨c1, h1, h2, h⟩ := h
  refine xs_putf rfl fl_10_21 h1 (fun q hq => by cases hq; rfl) rfl h2 ?_
  have h := h _ rfl
  generalize H.set q0 (.inr (10, c1.set 4 (.ref q1))) = H2 at h ⊢
  refine xs_aload_n rfl rfl ?_
  refine xs_sipushV (v := 8580) rfl rfl ?_
  exact h

set_option maxRecDepth 20000 in
theorem b_WE_init_21 {l : Launch} {x : xX} {d mc ms n0 uc us : Nat} {Q : xO → xH → Prop} {cl : Bool} {r0 : Nat} {q0 : Nat} {q1 : Nat} {H : xH}
    (h : ∃ c1, H[(q0 : Nat)]? = some (.inr (10, c1)) ∧ 5 < c1.length ∧ (∀ H2 : xH, H2 = H.set q0 (.inr (10, c1.set 5 (.ref q1))) → uc = mc ∧ us ≤ ms ∧ Q (.inl none) H2)) :
    xW l x d mc ms mWE_init n0 Q cl 21 [some (.ref r0)] [.ref q1, .ref q0] H uc us := by
  obtain ⟨c1, h1, h2, h⟩ := h
  refine xs_putF rfl fl_10_24 h1 (fun q hq => by cases hq; exact ⟨rfl, rfl⟩) rfl rfl h2 ?_
  have h := h _ rfl
  generalize H.set q0 (.inr (10, c1.set 5 (.ref q1))) = H2 at h ⊢
  exact xs_vret rfl rfl h.1 h.2.1 h.2.2

set_option maxRecDepth 20000 in
theorem b_FI_init_0 {l : Launch} {x : xX} {d mc ms n0 uc us : Nat} {Q : xO → xH → Prop} {cl : Bool} {r0 : Nat} {r1 : Nat} {H : xH}
    (h : xW l x d mc ms mFI_init n0 Q cl 1 [some (.ref r0), some (.ref r1)] [.ref r0] H uc us) :
    xW l x d mc ms mFI_init n0 Q cl 0 [some (.ref r0), some (.ref r1)] [] H uc us := by
  refine xs_aload_n rfl rfl ?_
  exact h

set_option maxRecDepth 20000 in
theorem b_FI_init_2 {l : Launch} {x : xX} {d mc ms n0 uc us : Nat} {Q : xO → xH → Prop} {cl : Bool} {r0 : Nat} {r1 : Nat} {H : xH}
    (h : xW l x d mc ms mFI_init n0 Q cl 4 [some (.ref r0), some (.ref r1)] [.int 4096, .ref r0] H uc us) :
    xW l x d mc ms mFI_init n0 Q cl 2 [some (.ref r0), some (.ref r1)] [] H uc us := by
  refine xs_aload_n rfl rfl ?_
  refine xs_sipushV (v := 4096) rfl rfl ?_
  exact h

set_option maxRecDepth 20000 in
theorem b_FI_init_5 {l : Launch} {x : xX} {d mc ms n0 uc us : Nat} {Q : xO → xH → Prop} {cl : Bool} {r0 : Nat} {r1 : Nat} {q0 : Nat} {q1 : Nat} {H : xH}
    (h : ∃ c1, H[(q0 : Nat)]? = some (.inr (2, c1)) ∧ 3 < c1.length ∧ (∀ H2 : xH, H2 = H.set q0 (.inr (2, c1.set 3 (.ref q1))) → xW l x d mc ms mFI_init n0 Q false 8 [some (.ref r0), some (.ref r1)] [.int 32768, .ref r0] H2 uc us)) :
    xW l x d mc ms mFI_init n0 Q cl 5 [some (.ref r0), some (.ref r1)] [.ref q1, .ref q0] H uc us := by
  obtain ⟨c1, h1, h2, h⟩ := h
  refine xs_putF rfl fl_2_11 h1 (fun q hq => by cases hq; exact ⟨rfl, rfl⟩) rfl rfl h2 ?_
  have h := h _ rfl
  generalize H.set q0 (.inr (2, c1.set 3 (.ref q1))) = H2 at h ⊢
  refine xs_aload_n rfl rfl ?_
  refine xs_ldc rfl kc_2_15 ?_
  exact h

set_option maxRecDepth 20000 in
theorem b_FI_init_9 {l : Launch} {x : xX} {d mc ms n0 uc us : Nat} {Q : xO → xH → Prop} {cl : Bool} {r0 : Nat} {r1 : Nat} {q0 : Nat} {q1 : Nat} {H : xH}
    (h : ∃ c1, H[(q0 : Nat)]? = some (.inr (2, c1)) ∧ 4 < c1.length ∧ (∀ H2 : xH, H2 = H.set q0 (.inr (2, c1.set 4 (.ref q1))) → ∃ c3, H2[(r0 : Nat)]? = some (.inr (2, c3)) ∧ 2 < c3.length ∧ (∀ H4 : xH, H4 = H2.set r0 (.inr (2, c3.set 2 (.ref r1))) → uc = mc ∧ us ≤ ms ∧ Q (.inl none) H4))) :
    xW l x d mc ms mFI_init n0 Q cl 9 [some (.ref r0), some (.ref r1)] [.ref q1, .ref q0] H uc us := by
  obtain ⟨c1, h1, h2, h⟩ := h
  refine xs_putF rfl fl_2_16 h1 (fun q hq => by cases hq; exact ⟨rfl, rfl⟩) rfl rfl h2 ?_
  have h := h _ rfl
  generalize H.set q0 (.inr (2, c1.set 4 (.ref q1))) = H2 at h ⊢
  refine xs_aload_n rfl rfl ?_
  refine xs_aload_n rfl rfl ?_
  obtain ⟨c3, h1, h2, h⟩ := h
  refine xs_putF rfl fl_2_19 h1 (fun q hq => by cases hq; exact ⟨rfl, rfl⟩) rfl rfl h2 ?_
  have h := h _ rfl
  generalize H2.set r0 (.inr (2, c3.set 2 (.ref r1))) = H4 at h ⊢
  exact xs_vret rfl rfl h.1 h.2.1 h.2.2

set_option maxRecDepth 20000 in
theorem b_WC_makeWords_0 {l : Launch} {x : xX} {d mc ms n0 uc us : Nat} {Q : xO → xH → Prop} {cl : Bool} {r0 : Nat} {H : xH}
    (h : ∃ p1, gR H r0 11 2 p1 ∧ (xW l x d mc ms mWC_makeWords n0 Q cl 3 [some (.ref r0), none] [.int 0, .ref p1] H uc us)) :
    xW l x d mc ms mWC_makeWords n0 Q cl 0 [some (.ref r0), none] [] H uc us := by
  refine xs_aload_n rfl rfl ?_
  obtain ⟨p1, ⟨_, h1, h2⟩, h⟩ := h
  refine xs_getf rfl fl_11_9 h1 h2 ?_
  refine xs_iconstV (v := 0) rfl rfl ?_
  exact h

set_option maxRecDepth 20000 in
theorem b_WC_makeWords_4 {l : Launch} {x : xX} {d mc ms n0 uc us : Nat} {Q : xO → xH → Prop} {cl : Bool} {r0 : Nat} {H : xH}
    (h : xW l x d mc ms mWC_makeWords n0 Q cl 6 [some (.ref r0), some (.int 0)] [] H uc us) :
    xW l x d mc ms mWC_makeWords n0 Q cl 4 [some (.ref r0), none] [] H uc us := by
  refine xs_iconstV (v := 0) rfl rfl ?_
  refine xs_istore_n rfl (L' := [some (.ref r0), some (.int 0)]) rfl rfl ?_
  exact h

set_option maxRecDepth 20000 in
theorem b_WC_makeWords_6 {l : Launch} {x : xX} {d mc ms n0 uc us : Nat} {Q : xO → xH → Prop} {cl : Bool} {r0 : Nat} {v1 : Int32} {H : xH}
    (h : ∃ p1, gR H r0 11 0 p1 ∧ (∃ (t2 : Nat) (w3 : vp_A), H[(p1 : Nat)]? = some (.inl (t2, w3)) ∧ t2 < 4 ∧ (((Int32.ofNat w3.1) ≤ v1 → xW l x d mc ms mWC_makeWords n0 Q cl 33 [some (.ref r0), some (.int 1)] [] H uc us) ∧ (¬ (Int32.ofNat w3.1) ≤ v1 → ∃ p4, gR H r0 11 0 p4 ∧ (∃ n5 f6, H[(p4 : Nat)]? = some (.inl (0, n5, .inl f6)) ∧ vp_in v1 n5 ∧ (((f6 v1.toNatClampNeg) ≤ 0 → xW l x d mc ms mWC_makeWords n0 Q cl 6 [some (.ref r0), some (.int (v1 + 1))] [] H uc us) ∧ (¬ (f6 v1.toNatClampNeg) ≤ 0 → ∃ p7, gR H r0 11 2 p7 ∧ (∃ p8, gR H r0 11 0 p8 ∧ (∃ n9 f10, H[(p8 : Nat)]? = some (.inl (0, n9, .inl f10)) ∧ vp_in v1 n9 ∧ (∃ n11 f12, H[(p7 : Nat)]? = some (.inl (0, n11, .inl f12)) ∧ vp_in ((f10 v1.toNatClampNeg) + 1) n11 ∧ (∃ n13 f14, H[(p7 : Nat)]? = some (.inl (0, n13, .inl f14)) ∧ 2 ≤ p7 ∧ vp_in ((f10 v1.toNatClampNeg) + 1) n13 ∧ (∀ H15 : xH, H15 = H.set p7 (.inl (0, n13, .inl (upd f14 (((f10 v1.toNatClampNeg) + 1).toNatClampNeg) (((f12 ((f10 v1.toNatClampNeg) + 1).toNatClampNeg) + 1))))) → xW l x d mc ms mWC_makeWords n0 Q false 6 [some (.ref r0), some (.int (v1 + 1))] [] H15 uc us)))))))))))) :
    xW l x d mc ms mWC_makeWords n0 Q cl 6 [some (.ref r0), some (.int v1)] [] H uc us := by
  refine xs_iload_n rfl rfl ?_
  refine xs_aload_n rfl rfl ?_
  obtain ⟨p1, ⟨_, h1, h2⟩, h⟩ := h
  refine xs_getf rfl fl_11_15 h1 h2 ?_
  obtain ⟨t2, w3, h1, h2, h⟩ := h
  refine xs_alen rfl h1 h2 ?_
  refine xs_icmp_ge (k' := 31) rfl rfl (fun hb => ?_) (fun hb => ?_)
  · have h := h.1 hb
    refine xs_iconstV (v := 1) rfl rfl ?_
    refine xs_istore_n rfl (L' := [some (.ref r0), some (.int 1)]) rfl rfl ?_
    exact h
  · have h := h.2 hb
    refine xs_aload_n rfl rfl ?_
    obtain ⟨p4, ⟨_, h1, h2⟩, h⟩ := h
    refine xs_getf rfl fl_11_15 h1 h2 ?_
    refine xs_iload_n rfl rfl ?_
    obtain ⟨n5, f6, h1, h2, h⟩ := h
    refine xs_iald rfl h1 h2 ?_
    refine xs_if_le (k' := 29) rfl rfl (fun hb => ?_) (fun hb => ?_)
    · have h := h.1 hb
      refine xs_iincV rfl (w := 1) rfl rfl (L' := [some (.ref r0), some (.int (v1 + 1))]) rfl rfl ?_
      refine xs_goto (k' := 6) rfl rfl ?_
      exact h
    · have h := h.2 hb
      refine xs_aload_n rfl rfl ?_
      obtain ⟨p7, ⟨_, h1, h2⟩, h⟩ := h
      refine xs_getf rfl fl_11_9 h1 h2 ?_
      refine xs_aload_n rfl rfl ?_
      obtain ⟨p8, ⟨_, h1, h2⟩, h⟩ := h
      refine xs_getf rfl fl_11_15 h1 h2 ?_
      refine xs_iload_n rfl rfl ?_
      obtain ⟨n9, f10, h1, h2, h⟩ := h
      refine xs_iald rfl h1 h2 ?_
      refine xs_iconstV (v := 1) rfl rfl ?_
      refine xs_iadd rfl ?_
      refine xs_dup2 rfl rfl rfl ?_
      obtain ⟨n11, f12, h1, h2, h⟩ := h
      refine xs_iald rfl h1 h2 ?_
      refine xs_iconstV (v := 1) rfl rfl ?_
      refine xs_iadd rfl ?_
      obtain ⟨n13, f14, h1, h3, h2, h⟩ := h
      refine xs_iast rfl h1 h3 h2 ?_
      have h := h _ rfl
      generalize H.set p7 (.inl (0, n13, .inl (upd f14 (((f10 v1.toNatClampNeg) + 1).toNatClampNeg) (((f12 ((f10 v1.toNatClampNeg) + 1).toNatClampNeg) + 1))))) = H15 at h ⊢
      refine xs_iincV rfl (w := 1) rfl rfl (L' := [some (.ref r0), some (.int (v1 + 1))]) rfl rfl ?_
      refine xs_goto (k' := 6) rfl rfl ?_
      exact h

set_option maxRecDepth 20000 in
theorem b_WC_makeWords_33 {l : Launch} {x : xX} {d mc ms n0 uc us : Nat} {Q : xO → xH → Prop} {cl : Bool} {r0 : Nat} {v1 : Int32} {H : xH}
    (h : (15 < v1 → xW l x d mc ms mWC_makeWords n0 Q cl 57 [some (.ref r0), some (.int 0)] [] H uc us) ∧ (¬ 15 < v1 → ∃ p1, gR H r0 11 2 p1 ∧ (∃ p2, gR H r0 11 2 p2 ∧ (∃ n3 f4, H[(p2 : Nat)]? = some (.inl (0, n3, .inl f4)) ∧ vp_in (v1 - 1) n3 ∧ (∃ p5, gR H r0 11 2 p5 ∧ (∃ n6 f7, H[(p5 : Nat)]? = some (.inl (0, n6, .inl f7)) ∧ vp_in v1 n6 ∧ (∃ n8 f9, H[(p1 : Nat)]? = some (.inl (0, n8, .inl f9)) ∧ 2 ≤ p1 ∧ vp_in v1 n8 ∧ (∀ H10 : xH, H10 = H.set p1 (.inl (0, n8, .inl (upd f9 (v1.toNatClampNeg) (((2 : Int32) * ((f4 (v1 - 1).toNatClampNeg) + (f7 v1.toNatClampNeg))))))) → xW l x d mc ms mWC_makeWords n0 Q false 33 [some (.ref r0), some (.int (v1 + 1))] [] H10 uc us)))))))) :
    xW l x d mc ms mWC_makeWords n0 Q cl 33 [some (.ref r0), some (.int v1)] [] H uc us := by
  refine xs_iload_n rfl rfl ?_
  refine xs_bipushV (v := 15) rfl rfl ?_
  refine xs_icmp_gt (k' := 55) rfl rfl (fun hb => ?_) (fun hb => ?_)
  · have h := h.1 hb
    refine xs_iconstV (v := 0) rfl rfl ?_
    refine xs_istore_n rfl (L' := [some (.ref r0), some (.int 0)]) rfl rfl ?_
    exact h
  · have h := h.2 hb
    refine xs_aload_n rfl rfl ?_
    obtain ⟨p1, ⟨_, h1, h2⟩, h⟩ := h
    refine xs_getf rfl fl_11_9 h1 h2 ?_
    refine xs_iload_n rfl rfl ?_
    refine xs_iconstV (v := 2) rfl rfl ?_
    refine xs_aload_n rfl rfl ?_
    obtain ⟨p2, ⟨_, h1, h2⟩, h⟩ := h
    refine xs_getf rfl fl_11_9 h1 h2 ?_
    refine xs_iload_n rfl rfl ?_
    refine xs_iconstV (v := 1) rfl rfl ?_
    refine xs_isub rfl ?_
    obtain ⟨n3, f4, h1, h2, h⟩ := h
    refine xs_iald rfl h1 h2 ?_
    refine xs_aload_n rfl rfl ?_
    obtain ⟨p5, ⟨_, h1, h2⟩, h⟩ := h
    refine xs_getf rfl fl_11_9 h1 h2 ?_
    refine xs_iload_n rfl rfl ?_
    obtain ⟨n6, f7, h1, h2, h⟩ := h
    refine xs_iald rfl h1 h2 ?_
    refine xs_iadd rfl ?_
    refine xs_imul rfl ?_
    obtain ⟨n8, f9, h1, h3, h2, h⟩ := h
    refine xs_iast rfl h1 h3 h2 ?_
    have h := h _ rfl
    generalize H.set p1 (.inl (0, n8, .inl (upd f9 (v1.toNatClampNeg) (((2 : Int32) * ((f4 (v1 - 1).toNatClampNeg) + (f7 v1.toNatClampNeg))))))) = H10 at h ⊢
    refine xs_iincV rfl (w := 1) rfl rfl (L' := [some (.ref r0), some (.int (v1 + 1))]) rfl rfl ?_
    refine xs_goto (k' := 33) rfl rfl ?_
    exact h

set_option maxRecDepth 20000 in
theorem b_WC_makeWords_57 {l : Launch} {x : xX} {d mc ms n0 uc us : Nat} {Q : xO → xH → Prop} {cl : Bool} {r0 : Nat} {v1 : Int32} {H : xH}
    (h : ∃ p1, gR H r0 11 0 p1 ∧ (∃ (t2 : Nat) (w3 : vp_A), H[(p1 : Nat)]? = some (.inl (t2, w3)) ∧ t2 < 4 ∧ (((Int32.ofNat w3.1) ≤ v1 → uc = mc ∧ us ≤ ms ∧ Q (.inl none) H) ∧ (¬ (Int32.ofNat w3.1) ≤ v1 → ∃ p4, gR H r0 11 1 p4 ∧ (∃ p5, gR H r0 11 2 p5 ∧ (∃ p6, gR H r0 11 0 p6 ∧ (∃ n7 f8, H[(p6 : Nat)]? = some (.inl (0, n7, .inl f8)) ∧ vp_in v1 n7 ∧ (∃ n9 f10, H[(p5 : Nat)]? = some (.inl (0, n9, .inl f10)) ∧ vp_in (f8 v1.toNatClampNeg) n9 ∧ (∃ p11, gR H r0 11 0 p11 ∧ (∃ n12 f13, H[(p11 : Nat)]? = some (.inl (0, n12, .inl f13)) ∧ vp_in v1 n12 ∧ (xW l x d mc ms mWC_makeWords n0 Q cl 76 [some (.ref r0), some (.int v1)] [.int (f13 v1.toNatClampNeg), .int (f10 (f8 v1.toNatClampNeg).toNatClampNeg), .int v1, .ref p4] H uc us))))))))))) :
    xW l x d mc ms mWC_makeWords n0 Q cl 57 [some (.ref r0), some (.int v1)] [] H uc us := by
  refine xs_iload_n rfl rfl ?_
  refine xs_aload_n rfl rfl ?_
  obtain ⟨p1, ⟨_, h1, h2⟩, h⟩ := h
  refine xs_getf rfl fl_11_15 h1 h2 ?_
  obtain ⟨t2, w3, h1, h2, h⟩ := h
  refine xs_alen rfl h1 h2 ?_
  refine xs_icmp_ge (k' := 91) rfl rfl (fun hb => ?_) (fun hb => ?_)
  · have h := h.1 hb
    exact xs_vret rfl rfl h.1 h.2.1 h.2.2
  · have h := h.2 hb
    refine xs_aload_n rfl rfl ?_
    obtain ⟨p4, ⟨_, h1, h2⟩, h⟩ := h
    refine xs_getf rfl fl_11_18 h1 h2 ?_
    refine xs_iload_n rfl rfl ?_
    refine xs_aload_n rfl rfl ?_
    obtain ⟨p5, ⟨_, h1, h2⟩, h⟩ := h
    refine xs_getf rfl fl_11_9 h1 h2 ?_
    refine xs_aload_n rfl rfl ?_
    obtain ⟨p6, ⟨_, h1, h2⟩, h⟩ := h
    refine xs_getf rfl fl_11_15 h1 h2 ?_
    refine xs_iload_n rfl rfl ?_
    obtain ⟨n7, f8, h1, h2, h⟩ := h
    refine xs_iald rfl h1 h2 ?_
    obtain ⟨n9, f10, h1, h2, h⟩ := h
    refine xs_iald rfl h1 h2 ?_
    refine xs_aload_n rfl rfl ?_
    obtain ⟨p11, ⟨_, h1, h2⟩, h⟩ := h
    refine xs_getf rfl fl_11_15 h1 h2 ?_
    refine xs_iload_n rfl rfl ?_
    obtain ⟨n12, f13, h1, h2, h⟩ := h
    refine xs_iald rfl h1 h2 ?_
    exact h

set_option maxRecDepth 20000 in
theorem b_WC_makeWords_77 {l : Launch} {x : xX} {d mc ms n0 uc us : Nat} {Q : xO → xH → Prop} {cl : Bool} {r0 : Nat} {v1 : Int32} {q0 : Nat} {u1 : Int32} {u2 : Int32} {H : xH}
    (h : ∃ n1 f2, H[(q0 : Nat)]? = some (.inl (0, n1, .inl f2)) ∧ 2 ≤ q0 ∧ vp_in u1 n1 ∧ (∀ H3 : xH, H3 = H.set q0 (.inl (0, n1, .inl (upd f2 (u1.toNatClampNeg) (u2)))) → ∃ p4, gR H3 r0 11 2 p4 ∧ (∃ p5, gR H3 r0 11 0 p5 ∧ (∃ n6 f7, H3[(p5 : Nat)]? = some (.inl (0, n6, .inl f7)) ∧ vp_in v1 n6 ∧ (∃ n8 f9, H3[(p4 : Nat)]? = some (.inl (0, n8, .inl f9)) ∧ vp_in (f7 v1.toNatClampNeg) n8 ∧ (∃ n10 f11, H3[(p4 : Nat)]? = some (.inl (0, n10, .inl f11)) ∧ 2 ≤ p4 ∧ vp_in (f7 v1.toNatClampNeg) n10 ∧ (∀ H12 : xH, H12 = H3.set p4 (.inl (0, n10, .inl (upd f11 ((f7 v1.toNatClampNeg).toNatClampNeg) (((f9 (f7 v1.toNatClampNeg).toNatClampNeg) + 1))))) → xW l x d mc ms mWC_makeWords n0 Q false 57 [some (.ref r0), some (.int (v1 + 1))] [] H12 uc us))))))) :
    xW l x d mc ms mWC_makeWords n0 Q cl 77 [some (.ref r0), some (.int v1)] [.int u2, .int u1, .ref q0] H uc us := by
  obtain ⟨n1, f2, h1, h3, h2, h⟩ := h
  refine xs_iast rfl h1 h3 h2 ?_
  have h := h _ rfl
  generalize H.set q0 (.inl (0, n1, .inl (upd f2 (u1.toNatClampNeg) (u2)))) = H3 at h ⊢
  refine xs_aload_n rfl rfl ?_
  obtain ⟨p4, ⟨_, h1, h2⟩, h⟩ := h
  refine xs_getf rfl fl_11_9 h1 h2 ?_
  refine xs_aload_n rfl rfl ?_
  obtain ⟨p5, ⟨_, h1, h2⟩, h⟩ := h
  refine xs_getf rfl fl_11_15 h1 h2 ?_
  refine xs_iload_n rfl rfl ?_
  obtain ⟨n6, f7, h1, h2, h⟩ := h
  refine xs_iald rfl h1 h2 ?_
  refine xs_dup2 rfl rfl rfl ?_
  obtain ⟨n8, f9, h1, h2, h⟩ := h
  refine xs_iald rfl h1 h2 ?_
  refine xs_iconstV (v := 1) rfl rfl ?_
  refine xs_iadd rfl ?_
  obtain ⟨n10, f11, h1, h3, h2, h⟩ := h
  refine xs_iast rfl h1 h3 h2 ?_
  have h := h _ rfl
  generalize H3.set p4 (.inl (0, n10, .inl (upd f11 ((f7 v1.toNatClampNeg).toNatClampNeg) (((f9 (f7 v1.toNatClampNeg).toNatClampNeg) + 1))))) = H12 at h ⊢
  refine xs_iincV rfl (w := 1) rfl rfl (L' := [some (.ref r0), some (.int (v1 + 1))]) rfl rfl ?_
  refine xs_goto (k' := 57) rfl rfl ?_
  exact h

set_option maxRecDepth 20000 in
theorem b_WC_turnedRound_0 {l : Launch} {x : xX} {d mc ms n0 uc us : Nat} {Q : xO → xH → Prop} {cl : Bool} {v0 : Int32} {v1 : Int32} {H : xH}
    (h : xW l x d mc ms mWC_turnedRound n0 Q cl 4 [some (.int v0), some (.int v1), some (.int 0), some (.int 0)] [] H uc us) :
    xW l x d mc ms mWC_turnedRound n0 Q cl 0 [some (.int v0), some (.int v1), none, none] [] H uc us := by
  refine xs_iconstV (v := 0) rfl rfl ?_
  refine xs_istore_n rfl (L' := [some (.int v0), some (.int v1), some (.int 0), none]) rfl rfl ?_
  refine xs_iconstV (v := 0) rfl rfl ?_
  refine xs_istore_n rfl (L' := [some (.int v0), some (.int v1), some (.int 0), some (.int 0)]) rfl rfl ?_
  exact h

set_option maxRecDepth 20000 in
theorem b_WC_turnedRound_4 {l : Launch} {x : xX} {d mc ms n0 uc us : Nat} {Q : xO → xH → Prop} {cl : Bool} {v0 : Int32} {v1 : Int32} {v2 : Int32} {v3 : Int32} {H : xH}
    (h : (v1 ≤ v3 → uc = mc ∧ us ≤ ms ∧ Q (.inl (some (.int v2))) H) ∧ (¬ v1 ≤ v3 → xW l x d mc ms mWC_turnedRound n0 Q cl 4 [some (.int v0), some (.int v1), some (.int (((2 : Int32) * v2) + ((v0 >>> ((v3 : Int32) &&& 31)) &&& 1))), some (.int (v3 + 1))] [] H uc us)) :
    xW l x d mc ms mWC_turnedRound n0 Q cl 4 [some (.int v0), some (.int v1), some (.int v2), some (.int v3)] [] H uc us := by
  refine xs_iload_n rfl rfl ?_
  refine xs_iload_n rfl rfl ?_
  refine xs_icmp_ge (k' := 19) rfl rfl (fun hb => ?_) (fun hb => ?_)
  · have h := h.1 hb
    refine xs_iload_n rfl rfl ?_
    exact xs_iret rfl rfl h.1 h.2.1 h.2.2
  · have h := h.2 hb
    refine xs_iconstV (v := 2) rfl rfl ?_
    refine xs_iload_n rfl rfl ?_
    refine xs_imul rfl ?_
    refine xs_iload_n rfl rfl ?_
    refine xs_iload_n rfl rfl ?_
    refine xs_ishr rfl ?_
    refine xs_iconstV (v := 1) rfl rfl ?_
    refine xs_iand rfl ?_
    refine xs_iadd rfl ?_
    refine xs_istore_n rfl (L' := [some (.int v0), some (.int v1), some (.int (((2 : Int32) * v2) + ((v0 >>> ((v3 : Int32) &&& 31)) &&& 1))), some (.int v3)]) rfl rfl ?_
    refine xs_iincV rfl (w := 1) rfl rfl (L' := [some (.int v0), some (.int v1), some (.int (((2 : Int32) * v2) + ((v0 >>> ((v3 : Int32) &&& 31)) &&& 1))), some (.int (v3 + 1))]) rfl rfl ?_
    refine xs_goto (k' := 4) rfl rfl ?_
    exact h

set_option maxRecDepth 20000 in
theorem b_RC_init_0 {l : Launch} {x : xX} {d mc ms n0 uc us : Nat} {Q : xO → xH → Prop} {cl : Bool} {r0 : Nat} {H : xH}
    (h : xW l x d mc ms mRC_init n0 Q cl 1 [some (.ref r0)] [.ref r0] H uc us) :
    xW l x d mc ms mRC_init n0 Q cl 0 [some (.ref r0)] [] H uc us := by
  refine xs_aload_n rfl rfl ?_
  exact h

set_option maxRecDepth 20000 in
theorem b_RC_init_2 {l : Launch} {x : xX} {d mc ms n0 uc us : Nat} {Q : xO → xH → Prop} {cl : Bool} {r0 : Nat} {H : xH}
    (h : xW l x d mc ms mRC_init n0 Q cl 4 [some (.ref r0)] [.int 16, .ref r0] H uc us) :
    xW l x d mc ms mRC_init n0 Q cl 2 [some (.ref r0)] [] H uc us := by
  refine xs_aload_n rfl rfl ?_
  refine xs_bipushV (v := 16) rfl rfl ?_
  exact h

set_option maxRecDepth 20000 in
theorem b_RC_init_5 {l : Launch} {x : xX} {d mc ms n0 uc us : Nat} {Q : xO → xH → Prop} {cl : Bool} {r0 : Nat} {q0 : Nat} {q1 : Nat} {H : xH}
    (h : ∃ c1, H[(q0 : Nat)]? = some (.inr (5, c1)) ∧ 0 < c1.length ∧ (∀ H2 : xH, H2 = H.set q0 (.inr (5, c1.set 0 (.ref q1))) → xW l x d mc ms mRC_init n0 Q false 8 [some (.ref r0)] [.int 288, .ref r0] H2 uc us)) :
    xW l x d mc ms mRC_init n0 Q cl 5 [some (.ref r0)] [.ref q1, .ref q0] H uc us := by
  obtain ⟨c1, h1, h2, h⟩ := h
  refine xs_putF rfl fl_5_9 h1 (fun q hq => by cases hq; exact ⟨rfl, rfl⟩) rfl rfl h2 ?_
  have h := h _ rfl
  generalize H.set q0 (.inr (5, c1.set 0 (.ref q1))) = H2 at h ⊢
  refine xs_aload_n rfl rfl ?_
  refine xs_sipushV (v := 288) rfl rfl ?_
  exact h

set_option maxRecDepth 20000 in
theorem b_RC_init_9 {l : Launch} {x : xX} {d mc ms n0 uc us : Nat} {Q : xO → xH → Prop} {cl : Bool} {r0 : Nat} {q0 : Nat} {q1 : Nat} {H : xH}
    (h : ∃ c1, H[(q0 : Nat)]? = some (.inr (5, c1)) ∧ 1 < c1.length ∧ (∀ H2 : xH, H2 = H.set q0 (.inr (5, c1.set 1 (.ref q1))) → xW l x d mc ms mRC_init n0 Q false 12 [some (.ref r0)] [.int 17, .ref r0] H2 uc us)) :
    xW l x d mc ms mRC_init n0 Q cl 9 [some (.ref r0)] [.ref q1, .ref q0] H uc us := by
  obtain ⟨c1, h1, h2, h⟩ := h
  refine xs_putF rfl fl_5_15 h1 (fun q hq => by cases hq; exact ⟨rfl, rfl⟩) rfl rfl h2 ?_
  have h := h _ rfl
  generalize H.set q0 (.inr (5, c1.set 1 (.ref q1))) = H2 at h ⊢
  refine xs_aload_n rfl rfl ?_
  refine xs_bipushV (v := 17) rfl rfl ?_
  exact h

set_option maxRecDepth 20000 in
theorem b_RC_init_13 {l : Launch} {x : xX} {d mc ms n0 uc us : Nat} {Q : xO → xH → Prop} {cl : Bool} {r0 : Nat} {q0 : Nat} {q1 : Nat} {H : xH}
    (h : ∃ c1, H[(q0 : Nat)]? = some (.inr (5, c1)) ∧ 3 < c1.length ∧ (∀ H2 : xH, H2 = H.set q0 (.inr (5, c1.set 3 (.ref q1))) → uc = mc ∧ us ≤ ms ∧ Q (.inl none) H2)) :
    xW l x d mc ms mRC_init n0 Q cl 13 [some (.ref r0)] [.ref q1, .ref q0] H uc us := by
  obtain ⟨c1, h1, h2, h⟩ := h
  refine xs_putF rfl fl_5_18 h1 (fun q hq => by cases hq; exact ⟨rfl, rfl⟩) rfl rfl h2 ?_
  have h := h _ rfl
  generalize H.set q0 (.inr (5, c1.set 3 (.ref q1))) = H2 at h ⊢
  exact xs_vret rfl rfl h.1 h.2.1 h.2.2

set_option maxRecDepth 20000 in
theorem b_RC_make_0 {l : Launch} {x : xX} {d mc ms n0 uc us : Nat} {Q : xO → xH → Prop} {cl : Bool} {r0 : Nat} {r1 : Nat} {v2 : Int32} {v3 : Int32} {H : xH}
    (h : ∃ p1, gR H r0 5 0 p1 ∧ (xW l x d mc ms mRC_make n0 Q cl 3 [some (.ref r0), some (.ref r1), some (.int v2), some (.int v3), none, none] [.int 0, .ref p1] H uc us)) :
    xW l x d mc ms mRC_make n0 Q cl 0 [some (.ref r0), some (.ref r1), some (.int v2), some (.int v3), none, none] [] H uc us := by
  refine xs_aload_n rfl rfl ?_
  obtain ⟨p1, ⟨_, h1, h2⟩, h⟩ := h
  refine xs_getf rfl fl_5_9 h1 h2 ?_
  refine xs_iconstV (v := 0) rfl rfl ?_
  exact h

set_option maxRecDepth 20000 in
theorem b_RC_make_4 {l : Launch} {x : xX} {d mc ms n0 uc us : Nat} {Q : xO → xH → Prop} {cl : Bool} {r0 : Nat} {r1 : Nat} {v2 : Int32} {v3 : Int32} {H : xH}
    (h : xW l x d mc ms mRC_make n0 Q cl 6 [some (.ref r0), some (.ref r1), some (.int v2), some (.int v3), some (.int 0), none] [] H uc us) :
    xW l x d mc ms mRC_make n0 Q cl 4 [some (.ref r0), some (.ref r1), some (.int v2), some (.int v3), none, none] [] H uc us := by
  refine xs_iconstV (v := 0) rfl rfl ?_
  refine xs_istore rfl (L' := [some (.ref r0), some (.ref r1), some (.int v2), some (.int v3), some (.int 0), none]) rfl rfl ?_
  exact h

set_option maxRecDepth 20000 in
theorem b_RC_make_6 {l : Launch} {x : xX} {d mc ms n0 uc us : Nat} {Q : xO → xH → Prop} {cl : Bool} {r0 : Nat} {r1 : Nat} {v2 : Int32} {v3 : Int32} {v4 : Int32} {H : xH}
    (h : (v3 ≤ v4 → ∃ p1, gR H r0 5 0 p1 ∧ (∃ n2 f3, H[(p1 : Nat)]? = some (.inl (0, n2, .inl f3)) ∧ vp_in 0 n2 ∧ (∃ c4, H[(r0 : Nat)]? = some (.inr (5, c4)) ∧ 2 < c4.length ∧ (∀ H5 : xH, H5 = H.set r0 (.inr (5, c4.set 2 (.int (v3 - (f3 (0 : Int32).toNatClampNeg))))) → ∃ p6, gR H5 r0 5 0 p6 ∧ (∃ n7 f8, H5[(p6 : Nat)]? = some (.inl (0, n7, .inl f8)) ∧ 2 ≤ p6 ∧ vp_in 0 n7 ∧ (∀ H9 : xH, H9 = H5.set p6 (.inl (0, n7, .inl (upd f8 ((0 : Int32).toNatClampNeg) (0)))) → ∃ p10, gR H9 r0 5 3 p10 ∧ (∃ n11 f12, H9[(p10 : Nat)]? = some (.inl (0, n11, .inl f12)) ∧ 2 ≤ p10 ∧ vp_in 1 n11 ∧ (∀ H13 : xH, H13 = H9.set p10 (.inl (0, n11, .inl (upd f12 ((1 : Int32).toNatClampNeg) (0)))) → xW l x d mc ms mRC_make n0 Q false 43 [some (.ref r0), some (.ref r1), some (.int v2), some (.int v3), some (.int 1), none] [] H13 uc us)))))))) ∧ (¬ v3 ≤ v4 → ∃ p14, gR H r0 5 0 p14 ∧ (∃ n15 f16, H[(r1 : Nat)]? = some (.inl (0, n15, .inl f16)) ∧ vp_in (v2 + v4) n15 ∧ (∃ n17 f18, H[(p14 : Nat)]? = some (.inl (0, n17, .inl f18)) ∧ vp_in (f16 (v2 + v4).toNatClampNeg) n17 ∧ (∃ n19 f20, H[(p14 : Nat)]? = some (.inl (0, n19, .inl f20)) ∧ 2 ≤ p14 ∧ vp_in (f16 (v2 + v4).toNatClampNeg) n19 ∧ (∀ H21 : xH, H21 = H.set p14 (.inl (0, n19, .inl (upd f20 ((f16 (v2 + v4).toNatClampNeg).toNatClampNeg) (((f18 (f16 (v2 + v4).toNatClampNeg).toNatClampNeg) + 1))))) → xW l x d mc ms mRC_make n0 Q false 6 [some (.ref r0), some (.ref r1), some (.int v2), some (.int v3), some (.int (v4 + 1)), none] [] H21 uc us)))))) :
    xW l x d mc ms mRC_make n0 Q cl 6 [some (.ref r0), some (.ref r1), some (.int v2), some (.int v3), some (.int v4), none] [] H uc us := by
  refine xs_iload rfl rfl ?_
  refine xs_iload_n rfl rfl ?_
  refine xs_icmp_ge (k' := 23) rfl rfl (fun hb => ?_) (fun hb => ?_)
  · have h := h.1 hb
    refine xs_aload_n rfl rfl ?_
    refine xs_iload_n rfl rfl ?_
    refine xs_aload_n rfl rfl ?_
    obtain ⟨p1, ⟨_, h1, h2⟩, h⟩ := h
    refine xs_getf rfl fl_5_9 h1 h2 ?_
    refine xs_iconstV (v := 0) rfl rfl ?_
    obtain ⟨n2, f3, h1, h2, h⟩ := h
    refine xs_iald rfl h1 h2 ?_
    refine xs_isub rfl ?_
    obtain ⟨c4, h1, h2, h⟩ := h
    refine xs_putf rfl fl_5_27 h1 (fun q hq => by cases hq; rfl) rfl h2 ?_
    have h := h _ rfl
    generalize H.set r0 (.inr (5, c4.set 2 (.int (v3 - (f3 (0 : Int32).toNatClampNeg))))) = H5 at h ⊢
    refine xs_aload_n rfl rfl ?_
    obtain ⟨p6, ⟨_, h1, h2⟩, h⟩ := h
    refine xs_getf rfl fl_5_9 h1 h2 ?_
    refine xs_iconstV (v := 0) rfl rfl ?_
    refine xs_iconstV (v := 0) rfl rfl ?_
    obtain ⟨n7, f8, h1, h3, h2, h⟩ := h
    refine xs_iast rfl h1 h3 h2 ?_
    have h := h _ rfl
    generalize H5.set p6 (.inl (0, n7, .inl (upd f8 ((0 : Int32).toNatClampNeg) (0)))) = H9 at h ⊢
    refine xs_aload_n rfl rfl ?_
    obtain ⟨p10, ⟨_, h1, h2⟩, h⟩ := h
    refine xs_getf rfl fl_5_18 h1 h2 ?_
    refine xs_iconstV (v := 1) rfl rfl ?_
    refine xs_iconstV (v := 0) rfl rfl ?_
    obtain ⟨n11, f12, h1, h3, h2, h⟩ := h
    refine xs_iast rfl h1 h3 h2 ?_
    have h := h _ rfl
    generalize H9.set p10 (.inl (0, n11, .inl (upd f12 ((1 : Int32).toNatClampNeg) (0)))) = H13 at h ⊢
    refine xs_iconstV (v := 1) rfl rfl ?_
    refine xs_istore rfl (L' := [some (.ref r0), some (.ref r1), some (.int v2), some (.int v3), some (.int 1), none]) rfl rfl ?_
    exact h
  · have h := h.2 hb
    refine xs_aload_n rfl rfl ?_
    obtain ⟨p14, ⟨_, h1, h2⟩, h⟩ := h
    refine xs_getf rfl fl_5_9 h1 h2 ?_
    refine xs_aload_n rfl rfl ?_
    refine xs_iload_n rfl rfl ?_
    refine xs_iload rfl rfl ?_
    refine xs_iadd rfl ?_
    obtain ⟨n15, f16, h1, h2, h⟩ := h
    refine xs_iald rfl h1 h2 ?_
    refine xs_dup2 rfl rfl rfl ?_
    obtain ⟨n17, f18, h1, h2, h⟩ := h
    refine xs_iald rfl h1 h2 ?_
    refine xs_iconstV (v := 1) rfl rfl ?_
    refine xs_iadd rfl ?_
    obtain ⟨n19, f20, h1, h3, h2, h⟩ := h
    refine xs_iast rfl h1 h3 h2 ?_
    have h := h _ rfl
    generalize H.set p14 (.inl (0, n19, .inl (upd f20 ((f16 (v2 + v4).toNatClampNeg).toNatClampNeg) (((f18 (f16 (v2 + v4).toNatClampNeg).toNatClampNeg) + 1))))) = H21 at h ⊢
    refine xs_iincV rfl (w := 1) rfl rfl (L' := [some (.ref r0), some (.ref r1), some (.int v2), some (.int v3), some (.int (v4 + 1)), none]) rfl rfl ?_
    refine xs_goto (k' := 6) rfl rfl ?_
    exact h

set_option maxRecDepth 20000 in
theorem b_RC_make_43 {l : Launch} {x : xX} {d mc ms n0 uc us : Nat} {Q : xO → xH → Prop} {cl : Bool} {r0 : Nat} {r1 : Nat} {v2 : Int32} {v3 : Int32} {v4 : Int32} {H : xH}
    (h : (15 < v4 → xW l x d mc ms mRC_make n0 Q cl 65 [some (.ref r0), some (.ref r1), some (.int v2), some (.int v3), some (.int 0), none] [] H uc us) ∧ (¬ 15 < v4 → ∃ p1, gR H r0 5 3 p1 ∧ (∃ p2, gR H r0 5 3 p2 ∧ (∃ n3 f4, H[(p2 : Nat)]? = some (.inl (0, n3, .inl f4)) ∧ vp_in v4 n3 ∧ (∃ p5, gR H r0 5 0 p5 ∧ (∃ n6 f7, H[(p5 : Nat)]? = some (.inl (0, n6, .inl f7)) ∧ vp_in v4 n6 ∧ (∃ n8 f9, H[(p1 : Nat)]? = some (.inl (0, n8, .inl f9)) ∧ 2 ≤ p1 ∧ vp_in (v4 + 1) n8 ∧ (∀ H10 : xH, H10 = H.set p1 (.inl (0, n8, .inl (upd f9 ((v4 + 1).toNatClampNeg) (((f4 v4.toNatClampNeg) + (f7 v4.toNatClampNeg)))))) → xW l x d mc ms mRC_make n0 Q false 43 [some (.ref r0), some (.ref r1), some (.int v2), some (.int v3), some (.int (v4 + 1)), none] [] H10 uc us)))))))) :
    xW l x d mc ms mRC_make n0 Q cl 43 [some (.ref r0), some (.ref r1), some (.int v2), some (.int v3), some (.int v4), none] [] H uc us := by
  refine xs_iload rfl rfl ?_
  refine xs_bipushV (v := 15) rfl rfl ?_
  refine xs_icmp_gt (k' := 63) rfl rfl (fun hb => ?_) (fun hb => ?_)
  · have h := h.1 hb
    refine xs_iconstV (v := 0) rfl rfl ?_
    refine xs_istore rfl (L' := [some (.ref r0), some (.ref r1), some (.int v2), some (.int v3), some (.int 0), none]) rfl rfl ?_
    exact h
  · have h := h.2 hb
    refine xs_aload_n rfl rfl ?_
    obtain ⟨p1, ⟨_, h1, h2⟩, h⟩ := h
    refine xs_getf rfl fl_5_18 h1 h2 ?_
    refine xs_iload rfl rfl ?_
    refine xs_iconstV (v := 1) rfl rfl ?_
    refine xs_iadd rfl ?_
    refine xs_aload_n rfl rfl ?_
    obtain ⟨p2, ⟨_, h1, h2⟩, h⟩ := h
    refine xs_getf rfl fl_5_18 h1 h2 ?_
    refine xs_iload rfl rfl ?_
    obtain ⟨n3, f4, h1, h2, h⟩ := h
    refine xs_iald rfl h1 h2 ?_
    refine xs_aload_n rfl rfl ?_
    obtain ⟨p5, ⟨_, h1, h2⟩, h⟩ := h
    refine xs_getf rfl fl_5_9 h1 h2 ?_
    refine xs_iload rfl rfl ?_
    obtain ⟨n6, f7, h1, h2, h⟩ := h
    refine xs_iald rfl h1 h2 ?_
    refine xs_iadd rfl ?_
    obtain ⟨n8, f9, h1, h3, h2, h⟩ := h
    refine xs_iast rfl h1 h3 h2 ?_
    have h := h _ rfl
    generalize H.set p1 (.inl (0, n8, .inl (upd f9 ((v4 + 1).toNatClampNeg) (((f4 v4.toNatClampNeg) + (f7 v4.toNatClampNeg)))))) = H10 at h ⊢
    refine xs_iincV rfl (w := 1) rfl rfl (L' := [some (.ref r0), some (.ref r1), some (.int v2), some (.int v3), some (.int (v4 + 1)), none]) rfl rfl ?_
    refine xs_goto (k' := 43) rfl rfl ?_
    exact h

set_option maxRecDepth 20000 in
theorem b_RC_make_65 {l : Launch} {x : xX} {d mc ms n0 uc us : Nat} {Q : xO → xH → Prop} {cl : Bool} {r0 : Nat} {r1 : Nat} {v2 : Int32} {v3 : Int32} {v4 : Int32} {H : xH}
    (h : (v3 ≤ v4 → uc = mc ∧ us ≤ ms ∧ Q (.inl none) H) ∧ (¬ v3 ≤ v4 → ∃ n1 f2, H[(r1 : Nat)]? = some (.inl (0, n1, .inl f2)) ∧ vp_in (v2 + v4) n1 ∧ (((f2 (v2 + v4).toNatClampNeg) ≤ 0 → xW l x d mc ms mRC_make n0 Q cl 65 [some (.ref r0), some (.ref r1), some (.int v2), some (.int v3), some (.int (v4 + 1)), some (.int (f2 (v2 + v4).toNatClampNeg))] [] H uc us) ∧ (¬ (f2 (v2 + v4).toNatClampNeg) ≤ 0 → ∃ p3, gR H r0 5 1 p3 ∧ (∃ p4, gR H r0 5 3 p4 ∧ (∃ n5 f6, H[(p4 : Nat)]? = some (.inl (0, n5, .inl f6)) ∧ vp_in (f2 (v2 + v4).toNatClampNeg) n5 ∧ (∃ n7 f8, H[(p3 : Nat)]? = some (.inl (0, n7, .inl f8)) ∧ 2 ≤ p3 ∧ vp_in (f6 (f2 (v2 + v4).toNatClampNeg).toNatClampNeg) n7 ∧ (∀ H9 : xH, H9 = H.set p3 (.inl (0, n7, .inl (upd f8 ((f6 (f2 (v2 + v4).toNatClampNeg).toNatClampNeg).toNatClampNeg) (v4)))) → ∃ p10, gR H9 r0 5 3 p10 ∧ (∃ n11 f12, H9[(p10 : Nat)]? = some (.inl (0, n11, .inl f12)) ∧ vp_in (f2 (v2 + v4).toNatClampNeg) n11 ∧ (∃ n13 f14, H9[(p10 : Nat)]? = some (.inl (0, n13, .inl f14)) ∧ 2 ≤ p10 ∧ vp_in (f2 (v2 + v4).toNatClampNeg) n13 ∧ (∀ H15 : xH, H15 = H9.set p10 (.inl (0, n13, .inl (upd f14 ((f2 (v2 + v4).toNatClampNeg).toNatClampNeg) (((f12 (f2 (v2 + v4).toNatClampNeg).toNatClampNeg) + 1))))) → xW l x d mc ms mRC_make n0 Q false 65 [some (.ref r0), some (.ref r1), some (.int v2), some (.int v3), some (.int (v4 + 1)), some (.int (f2 (v2 + v4).toNatClampNeg))] [] H15 uc us))))))))))) :
    xW l x d mc ms mRC_make n0 Q cl 65 [some (.ref r0), some (.ref r1), some (.int v2), some (.int v3), some (.int v4), none] [] H uc us := by
  refine xs_iload rfl rfl ?_
  refine xs_iload_n rfl rfl ?_
  refine xs_icmp_ge (k' := 94) rfl rfl (fun hb => ?_) (fun hb => ?_)
  · have h := h.1 hb
    exact xs_vret rfl rfl h.1 h.2.1 h.2.2
  · have h := h.2 hb
    refine xs_aload_n rfl rfl ?_
    refine xs_iload_n rfl rfl ?_
    refine xs_iload rfl rfl ?_
    refine xs_iadd rfl ?_
    obtain ⟨n1, f2, h1, h2, h⟩ := h
    refine xs_iald rfl h1 h2 ?_
    refine xs_istore rfl (L' := [some (.ref r0), some (.ref r1), some (.int v2), some (.int v3), some (.int v4), some (.int (f2 (v2 + v4).toNatClampNeg))]) rfl rfl ?_
    refine xs_iload rfl rfl ?_
    refine xs_if_le (k' := 92) rfl rfl (fun hb => ?_) (fun hb => ?_)
    · have h := h.1 hb
      refine xs_iincV rfl (w := 1) rfl rfl (L' := [some (.ref r0), some (.ref r1), some (.int v2), some (.int v3), some (.int (v4 + 1)), some (.int (f2 (v2 + v4).toNatClampNeg))]) rfl rfl ?_
      refine xs_goto (k' := 65) rfl rfl ?_
      exact h
    · have h := h.2 hb
      refine xs_aload_n rfl rfl ?_
      obtain ⟨p3, ⟨_, h1, h2⟩, h⟩ := h
      refine xs_getf rfl fl_5_15 h1 h2 ?_
      refine xs_aload_n rfl rfl ?_
      obtain ⟨p4, ⟨_, h1, h2⟩, h⟩ := h
      refine xs_getf rfl fl_5_18 h1 h2 ?_
      refine xs_iload rfl rfl ?_
      obtain ⟨n5, f6, h1, h2, h⟩ := h
      refine xs_iald rfl h1 h2 ?_
      refine xs_iload rfl rfl ?_
      obtain ⟨n7, f8, h1, h3, h2, h⟩ := h
      refine xs_iast rfl h1 h3 h2 ?_
      have h := h _ rfl
      generalize H.set p3 (.inl (0, n7, .inl (upd f8 ((f6 (f2 (v2 + v4).toNatClampNeg).toNatClampNeg).toNatClampNeg) (v4)))) = H9 at h ⊢
      refine xs_aload_n rfl rfl ?_
      obtain ⟨p10, ⟨_, h1, h2⟩, h⟩ := h
      refine xs_getf rfl fl_5_18 h1 h2 ?_
      refine xs_iload rfl rfl ?_
      refine xs_dup2 rfl rfl rfl ?_
      obtain ⟨n11, f12, h1, h2, h⟩ := h
      refine xs_iald rfl h1 h2 ?_
      refine xs_iconstV (v := 1) rfl rfl ?_
      refine xs_iadd rfl ?_
      obtain ⟨n13, f14, h1, h3, h2, h⟩ := h
      refine xs_iast rfl h1 h3 h2 ?_
      have h := h _ rfl
      generalize H9.set p10 (.inl (0, n13, .inl (upd f14 ((f2 (v2 + v4).toNatClampNeg).toNatClampNeg) (((f12 (f2 (v2 + v4).toNatClampNeg).toNatClampNeg) + 1))))) = H15 at h ⊢
      refine xs_iincV rfl (w := 1) rfl rfl (L' := [some (.ref r0), some (.ref r1), some (.int v2), some (.int v3), some (.int (v4 + 1)), some (.int (f2 (v2 + v4).toNatClampNeg))]) rfl rfl ?_
      refine xs_goto (k' := 65) rfl rfl ?_
      exact h

set_option maxRecDepth 20000 in
theorem b_FI_restart_0 {l : Launch} {x : xX} {d mc ms n0 uc us : Nat} {Q : xO → xH → Prop} {cl : Bool} {r0 : Nat} {H : xH}
    (h : ∃ p1, gR H r0 2 3 p1 ∧ (xW l x d mc ms mFI_restart n0 Q cl 3 [some (.ref r0)] [.int (-1), .ref p1] H uc us)) :
    xW l x d mc ms mFI_restart n0 Q cl 0 [some (.ref r0)] [] H uc us := by
  refine xs_aload_n rfl rfl ?_
  obtain ⟨p1, ⟨_, h1, h2⟩, h⟩ := h
  refine xs_getf rfl fl_2_11 h1 h2 ?_
  refine xs_iconstV (v := (-1)) rfl rfl ?_
  exact h

set_option maxRecDepth 20000 in
theorem b_FI_restart_4 {l : Launch} {x : xX} {d mc ms n0 uc us : Nat} {Q : xO → xH → Prop} {cl : Bool} {r0 : Nat} {H : xH}
    (h : ∃ c1, H[(r0 : Nat)]? = some (.inr (2, c1)) ∧ 5 < c1.length ∧ (∀ H2 : xH, H2 = H.set r0 (.inr (2, c1.set 5 (.int 0))) → ∃ c3, H2[(r0 : Nat)]? = some (.inr (2, c3)) ∧ 6 < c3.length ∧ (∀ H4 : xH, H4 = H2.set r0 (.inr (2, c3.set 6 (.int (-1)))) → uc = mc ∧ us ≤ ms ∧ Q (.inl none) H4))) :
    xW l x d mc ms mFI_restart n0 Q cl 4 [some (.ref r0)] [] H uc us := by
  refine xs_aload_n rfl rfl ?_
  refine xs_iconstV (v := 0) rfl rfl ?_
  obtain ⟨c1, h1, h2, h⟩ := h
  refine xs_putf rfl fl_2_29 h1 (fun q hq => by cases hq; rfl) rfl h2 ?_
  have h := h _ rfl
  generalize H.set r0 (.inr (2, c1.set 5 (.int 0))) = H2 at h ⊢
  refine xs_aload_n rfl rfl ?_
  refine xs_iconstV (v := (-1)) rfl rfl ?_
  obtain ⟨c3, h1, h2, h⟩ := h
  refine xs_putf rfl fl_2_33 h1 (fun q hq => by cases hq; rfl) rfl h2 ?_
  have h := h _ rfl
  generalize H2.set r0 (.inr (2, c3.set 6 (.int (-1)))) = H4 at h ⊢
  exact xs_vret rfl rfl h.1 h.2.1 h.2.2

set_option maxRecDepth 20000 in
theorem b_FI_find_0 {l : Launch} {x : xX} {d mc ms n0 uc us : Nat} {Q : xO → xH → Prop} {cl : Bool} {r0 : Nat} {v1 : Int32} {H : xH}
    (h : ∃ a1, gI H r0 2 6 a1 ∧ ((¬ v1 = a1 → ∃ c2, H[(r0 : Nat)]? = some (.inr (2, c2)) ∧ 6 < c2.length ∧ (∀ H3 : xH, H3 = H.set r0 (.inr (2, c2.set 6 (.int v1))) → ∃ c4, H3[(r0 : Nat)]? = some (.inr (2, c4)) ∧ 0 < c4.length ∧ (∀ H5 : xH, H5 = H3.set r0 (.inr (2, c4.set 0 (.int 0))) → xW l x d mc ms mFI_find n0 Q false 13 [some (.ref r0), some (.int v1), none] [.int v1, .ref r0] H5 uc us))) ∧ (v1 = a1 → uc = mc ∧ us ≤ ms ∧ Q (.inl none) H))) :
    xW l x d mc ms mFI_find n0 Q cl 0 [some (.ref r0), some (.int v1), none] [] H uc us := by
  refine xs_iload_n rfl rfl ?_
  refine xs_aload_n rfl rfl ?_
  obtain ⟨a1, ⟨_, h1, h2⟩, h⟩ := h
  refine xs_getf rfl fl_2_33 h1 h2 ?_
  refine xs_icmp_ne (k' := 5) rfl rfl (fun hb => ?_) (fun hb => ?_)
  · have h := h.1 hb
    refine xs_aload_n rfl rfl ?_
    refine xs_iload_n rfl rfl ?_
    obtain ⟨c2, h1, h2, h⟩ := h
    refine xs_putf rfl fl_2_33 h1 (fun q hq => by cases hq; rfl) rfl h2 ?_
    have h := h _ rfl
    generalize H.set r0 (.inr (2, c2.set 6 (.int v1))) = H3 at h ⊢
    refine xs_aload_n rfl rfl ?_
    refine xs_iconstV (v := 0) rfl rfl ?_
    obtain ⟨c4, h1, h2, h⟩ := h
    refine xs_putf rfl fl_2_36 h1 (fun q hq => by cases hq; rfl) rfl h2 ?_
    have h := h _ rfl
    generalize H3.set r0 (.inr (2, c4.set 0 (.int 0))) = H5 at h ⊢
    refine xs_aload_n rfl rfl ?_
    refine xs_iload_n rfl rfl ?_
    exact h
  · have h := h.2 hb
    exact xs_vret rfl rfl h.1 h.2.1 h.2.2

set_option maxRecDepth 20000 in
theorem b_FI_find_14 {l : Launch} {x : xX} {d mc ms n0 uc us : Nat} {Q : xO → xH → Prop} {cl : Bool} {r0 : Nat} {v1 : Int32} {H : xH}
    (h : ∃ p1, gR H r0 2 2 p1 ∧ (∃ a2, gI H p1 7 1 a2 ∧ (xW l x d mc ms mFI_find n0 Q cl 20 [some (.ref r0), some (.int v1), none] [.int (a2 - v1), .int 258] H uc us))) :
    xW l x d mc ms mFI_find n0 Q cl 14 [some (.ref r0), some (.int v1), none] [] H uc us := by
  refine xs_sipushV (v := 258) rfl rfl ?_
  refine xs_aload_n rfl rfl ?_
  obtain ⟨p1, ⟨_, h1, h2⟩, h⟩ := h
  refine xs_getf rfl fl_2_19 h1 h2 ?_
  obtain ⟨a2, ⟨_, h1, h2⟩, h⟩ := h
  refine xs_getf rfl fl_2_43 h1 h2 ?_
  refine xs_iload_n rfl rfl ?_
  refine xs_isub rfl ?_
  exact h

set_option maxRecDepth 20000 in
theorem b_FI_find_21 {l : Launch} {x : xX} {d mc ms n0 uc us : Nat} {Q : xO → xH → Prop} {cl : Bool} {r0 : Nat} {v1 : Int32} {u0 : Int32} {H : xH}
    (h : (u0 < 3 → xW l x d mc ms mFI_find n0 Q cl 29 [some (.ref r0), some (.int v1), some (.int u0)] [] H uc us) ∧ (¬ u0 < 3 → xW l x d mc ms mFI_find n0 Q cl 28 [some (.ref r0), some (.int v1), some (.int u0)] [.int u0, .int v1, .ref r0] H uc us)) :
    xW l x d mc ms mFI_find n0 Q cl 21 [some (.ref r0), some (.int v1), none] [.int u0] H uc us := by
  refine xs_istore_n rfl (L' := [some (.ref r0), some (.int v1), some (.int u0)]) rfl rfl ?_
  refine xs_iload_n rfl rfl ?_
  refine xs_iconstV (v := 3) rfl rfl ?_
  refine xs_icmp_lt (k' := 29) rfl rfl (fun hb => ?_) (fun hb => ?_)
  · have h := h.1 hb
    exact h
  · have h := h.2 hb
    refine xs_aload_n rfl rfl ?_
    refine xs_iload_n rfl rfl ?_
    refine xs_iload_n rfl rfl ?_
    exact h

set_option maxRecDepth 20000 in
theorem b_FI_find_29 {l : Launch} {x : xX} {d mc ms n0 uc us : Nat} {Q : xO → xH → Prop} {cl : Bool} {r0 : Nat} {v1 : Int32} {v2 : Int32} {H : xH}
    (h : uc = mc ∧ us ≤ ms ∧ Q (.inl none) H) :
    xW l x d mc ms mFI_find n0 Q cl 29 [some (.ref r0), some (.int v1), some (.int v2)] [] H uc us := by
  exact xs_vret rfl rfl h.1 h.2.1 h.2.2

set_option maxRecDepth 20000 in
theorem b_FI_enterPlacesBefore_0 {l : Launch} {x : xX} {d mc ms n0 uc us : Nat} {Q : xO → xH → Prop} {cl : Bool} {r0 : Nat} {v1 : Int32} {H : xH}
    (h : ∃ a1, gI H r0 2 5 a1 ∧ ((v1 ≤ a1 → uc = mc ∧ us ≤ ms ∧ Q (.inl none) H) ∧ (¬ v1 ≤ a1 → ∃ a2, gI H r0 2 5 a2 ∧ (∃ p3, gR H r0 2 2 p3 ∧ (∃ a4, gI H p3 7 1 a4 ∧ ((a4 < (a2 + 3) → uc = mc ∧ us ≤ ms ∧ Q (.inl none) H) ∧ (¬ a4 < (a2 + 3) → ∃ a5, gI H r0 2 5 a5 ∧ (xW l x d mc ms mFI_enterPlacesBefore n0 Q cl 15 [some (.ref r0), some (.int v1), none] [.int a5, .ref r0] H uc us)))))))) :
    xW l x d mc ms mFI_enterPlacesBefore n0 Q cl 0 [some (.ref r0), some (.int v1), none] [] H uc us := by
  refine xs_aload_n rfl rfl ?_
  obtain ⟨a1, ⟨_, h1, h2⟩, h⟩ := h
  refine xs_getf rfl fl_2_29 h1 h2 ?_
  refine xs_iload_n rfl rfl ?_
  refine xs_icmp_ge (k' := 39) rfl rfl (fun hb => ?_) (fun hb => ?_)
  · have h := h.1 hb
    exact xs_vret rfl rfl h.1 h.2.1 h.2.2
  · have h := h.2 hb
    refine xs_aload_n rfl rfl ?_
    obtain ⟨a2, ⟨_, h1, h2⟩, h⟩ := h
    refine xs_getf rfl fl_2_29 h1 h2 ?_
    refine xs_iconstV (v := 3) rfl rfl ?_
    refine xs_iadd rfl ?_
    refine xs_aload_n rfl rfl ?_
    obtain ⟨p3, ⟨_, h1, h2⟩, h⟩ := h
    refine xs_getf rfl fl_2_19 h1 h2 ?_
    obtain ⟨a4, ⟨_, h1, h2⟩, h⟩ := h
    refine xs_getf rfl fl_2_43 h1 h2 ?_
    refine xs_icmp_gt (k' := 39) rfl rfl (fun hb => ?_) (fun hb => ?_)
    · have h := h.1 hb
      exact xs_vret rfl rfl h.1 h.2.1 h.2.2
    · have h := h.2 hb
      refine xs_aload_n rfl rfl ?_
      refine xs_aload_n rfl rfl ?_
      obtain ⟨a5, ⟨_, h1, h2⟩, h⟩ := h
      refine xs_getf rfl fl_2_29 h1 h2 ?_
      exact h

set_option maxRecDepth 20000 in
theorem b_FI_enterPlacesBefore_16 {l : Launch} {x : xX} {d mc ms n0 uc us : Nat} {Q : xO → xH → Prop} {cl : Bool} {r0 : Nat} {v1 : Int32} {u0 : Int32} {H : xH}
    (h : ∃ p1, gR H r0 2 4 p1 ∧ (∃ a2, gI H r0 2 5 a2 ∧ (∃ p3, gR H r0 2 3 p3 ∧ (∃ n4 f5, H[(p3 : Nat)]? = some (.inl (0, n4, .inl f5)) ∧ vp_in u0 n4 ∧ (∃ n6 f7, H[(p1 : Nat)]? = some (.inl (0, n6, .inl f7)) ∧ 2 ≤ p1 ∧ vp_in a2 n6 ∧ (∀ H8 : xH, H8 = H.set p1 (.inl (0, n6, .inl (upd f7 (a2.toNatClampNeg) ((f5 u0.toNatClampNeg))))) → ∃ p9, gR H8 r0 2 3 p9 ∧ (∃ a10, gI H8 r0 2 5 a10 ∧ (∃ n11 f12, H8[(p9 : Nat)]? = some (.inl (0, n11, .inl f12)) ∧ 2 ≤ p9 ∧ vp_in u0 n11 ∧ (∀ H13 : xH, H13 = H8.set p9 (.inl (0, n11, .inl (upd f12 (u0.toNatClampNeg) (a10)))) → ∃ a14, gI H13 r0 2 5 a14 ∧ (∃ c15, H13[(r0 : Nat)]? = some (.inr (2, c15)) ∧ 5 < c15.length ∧ (∀ H16 : xH, H16 = H13.set r0 (.inr (2, c15.set 5 (.int (a14 + 1)))) → xW l x d mc ms mFI_enterPlacesBefore n0 Q false 0 [some (.ref r0), some (.int v1), some (.int u0)] [] H16 uc us))))))))))) :
    xW l x d mc ms mFI_enterPlacesBefore n0 Q cl 16 [some (.ref r0), some (.int v1), none] [.int u0] H uc us := by
  refine xs_istore_n rfl (L' := [some (.ref r0), some (.int v1), some (.int u0)]) rfl rfl ?_
  refine xs_aload_n rfl rfl ?_
  obtain ⟨p1, ⟨_, h1, h2⟩, h⟩ := h
  refine xs_getf rfl fl_2_16 h1 h2 ?_
  refine xs_aload_n rfl rfl ?_
  obtain ⟨a2, ⟨_, h1, h2⟩, h⟩ := h
  refine xs_getf rfl fl_2_29 h1 h2 ?_
  refine xs_aload_n rfl rfl ?_
  obtain ⟨p3, ⟨_, h1, h2⟩, h⟩ := h
  refine xs_getf rfl fl_2_11 h1 h2 ?_
  refine xs_iload_n rfl rfl ?_
  obtain ⟨n4, f5, h1, h2, h⟩ := h
  refine xs_iald rfl h1 h2 ?_
  obtain ⟨n6, f7, h1, h3, h2, h⟩ := h
  refine xs_iast rfl h1 h3 h2 ?_
  have h := h _ rfl
  generalize H.set p1 (.inl (0, n6, .inl (upd f7 (a2.toNatClampNeg) ((f5 u0.toNatClampNeg))))) = H8 at h ⊢
  refine xs_aload_n rfl rfl ?_
  obtain ⟨p9, ⟨_, h1, h2⟩, h⟩ := h
  refine xs_getf rfl fl_2_11 h1 h2 ?_
  refine xs_iload_n rfl rfl ?_
  refine xs_aload_n rfl rfl ?_
  obtain ⟨a10, ⟨_, h1, h2⟩, h⟩ := h
  refine xs_getf rfl fl_2_29 h1 h2 ?_
  obtain ⟨n11, f12, h1, h3, h2, h⟩ := h
  refine xs_iast rfl h1 h3 h2 ?_
  have h := h _ rfl
  generalize H8.set p9 (.inl (0, n11, .inl (upd f12 (u0.toNatClampNeg) (a10)))) = H13 at h ⊢
  refine xs_aload_n rfl rfl ?_
  refine xs_dup rfl rfl ?_
  obtain ⟨a14, ⟨_, h1, h2⟩, h⟩ := h
  refine xs_getf rfl fl_2_29 h1 h2 ?_
  refine xs_iconstV (v := 1) rfl rfl ?_
  refine xs_iadd rfl ?_
  obtain ⟨c15, h1, h2, h⟩ := h
  refine xs_putf rfl fl_2_29 h1 (fun q hq => by cases hq; rfl) rfl h2 ?_
  have h := h _ rfl
  generalize H13.set r0 (.inr (2, c15.set 5 (.int (a14 + 1)))) = H16 at h ⊢
  refine xs_goto (k' := 0) rfl rfl ?_
  exact h

set_option maxRecDepth 20000 in
theorem b_FI_keyAt_0 {l : Launch} {x : xX} {d mc ms n0 uc us : Nat} {Q : xO → xH → Prop} {cl : Bool} {r0 : Nat} {v1 : Int32} {H : xH}
    (h : ∃ p1, gR H r0 2 2 p1 ∧ (∃ p2, gR H p1 7 0 p2 ∧ (∃ n3 f4, H[(p2 : Nat)]? = some (.inl (1, n3, .inl f4)) ∧ vp_in v1 n3 ∧ (∃ n5 f6, H[(p2 : Nat)]? = some (.inl (1, n5, .inl f6)) ∧ vp_in (v1 + 1) n5 ∧ (∃ n7 f8, H[(p2 : Nat)]? = some (.inl (1, n7, .inl f8)) ∧ vp_in (v1 + 2) n7 ∧ (uc = mc ∧ us ≤ ms ∧ Q (.inl (some (.int ((((((f4 v1.toNatClampNeg) &&& 255) ||| (((f6 (v1 + 1).toNatClampNeg) &&& 255) <<< ((8 : Int32) &&& 31))) ||| (((f8 (v1 + 2).toNatClampNeg) &&& 255) <<< ((16 : Int32) &&& 31))) * (-1640531535)).toUInt32 >>> ((20 : Int32).toUInt32 &&& Int32.toUInt32 31)).toInt32))) H)))))) :
    xW l x d mc ms mFI_keyAt n0 Q cl 0 [some (.ref r0), some (.int v1), none, none] [] H uc us := by
  refine xs_aload_n rfl rfl ?_
  obtain ⟨p1, ⟨_, h1, h2⟩, h⟩ := h
  refine xs_getf rfl fl_2_19 h1 h2 ?_
  obtain ⟨p2, ⟨_, h1, h2⟩, h⟩ := h
  refine xs_getf rfl fl_2_62 h1 h2 ?_
  refine xs_astore_n rfl (L' := [some (.ref r0), some (.int v1), some (.ref p2), none]) rfl rfl ?_
  refine xs_aload_n rfl rfl ?_
  refine xs_iload_n rfl rfl ?_
  obtain ⟨n3, f4, h1, h2, h⟩ := h
  refine xs_bald rfl h1 h2 ?_
  refine xs_sipushV (v := 255) rfl rfl ?_
  refine xs_iand rfl ?_
  refine xs_aload_n rfl rfl ?_
  refine xs_iload_n rfl rfl ?_
  refine xs_iconstV (v := 1) rfl rfl ?_
  refine xs_iadd rfl ?_
  obtain ⟨n5, f6, h1, h2, h⟩ := h
  refine xs_bald rfl h1 h2 ?_
  refine xs_sipushV (v := 255) rfl rfl ?_
  refine xs_iand rfl ?_
  refine xs_bipushV (v := 8) rfl rfl ?_
  refine xs_ishl rfl ?_
  refine xs_ior rfl ?_
  refine xs_aload_n rfl rfl ?_
  refine xs_iload_n rfl rfl ?_
  refine xs_iconstV (v := 2) rfl rfl ?_
  refine xs_iadd rfl ?_
  obtain ⟨n7, f8, h1, h2, h⟩ := h
  refine xs_bald rfl h1 h2 ?_
  refine xs_sipushV (v := 255) rfl rfl ?_
  refine xs_iand rfl ?_
  refine xs_bipushV (v := 16) rfl rfl ?_
  refine xs_ishl rfl ?_
  refine xs_ior rfl ?_
  refine xs_istore_n rfl (L' := [some (.ref r0), some (.int v1), some (.ref p2), some (.int ((((f4 v1.toNatClampNeg) &&& 255) ||| (((f6 (v1 + 1).toNatClampNeg) &&& 255) <<< ((8 : Int32) &&& 31))) ||| (((f8 (v1 + 2).toNatClampNeg) &&& 255) <<< ((16 : Int32) &&& 31))))]) rfl rfl ?_
  refine xs_iload_n rfl rfl ?_
  refine xs_ldc rfl kc_2_66 ?_
  refine xs_imul rfl ?_
  refine xs_bipushV (v := 20) rfl rfl ?_
  refine xs_iushr rfl ?_
  exact xs_iret rfl rfl h.1 h.2.1 h.2.2

set_option maxRecDepth 20000 in
theorem b_FI_search_0 {l : Launch} {x : xX} {d mc ms n0 uc us : Nat} {Q : xO → xH → Prop} {cl : Bool} {r0 : Nat} {v1 : Int32} {v2 : Int32} {H : xH}
    (h : ∃ p1, gR H r0 2 2 p1 ∧ (∃ p2, gR H p1 7 0 p2 ∧ (xW l x d mc ms mFI_search n0 Q cl 8 [some (.ref r0), some (.int v1), some (.int v2), some (.ref p2), none, none, none, none, none] [.int (v1 - 4096), .int 0] H uc us))) :
    xW l x d mc ms mFI_search n0 Q cl 0 [some (.ref r0), some (.int v1), some (.int v2), none, none, none, none, none, none] [] H uc us := by
  refine xs_aload_n rfl rfl ?_
  obtain ⟨p1, ⟨_, h1, h2⟩, h⟩ := h
  refine xs_getf rfl fl_2_19 h1 h2 ?_
  obtain ⟨p2, ⟨_, h1, h2⟩, h⟩ := h
  refine xs_getf rfl fl_2_62 h1 h2 ?_
  refine xs_astore_n rfl (L' := [some (.ref r0), some (.int v1), some (.int v2), some (.ref p2), none, none, none, none, none]) rfl rfl ?_
  refine xs_iconstV (v := 0) rfl rfl ?_
  refine xs_iload_n rfl rfl ?_
  refine xs_sipushV (v := 4096) rfl rfl ?_
  refine xs_isub rfl ?_
  exact h

set_option maxRecDepth 20000 in
theorem b_FI_search_9 {l : Launch} {x : xX} {d mc ms n0 uc us : Nat} {Q : xO → xH → Prop} {cl : Bool} {r0 : Nat} {v1 : Int32} {v2 : Int32} {r3 : Nat} {u0 : Int32} {H : xH}
    (h : ∃ p1, gR H r0 2 3 p1 ∧ (xW l x d mc ms mFI_search n0 Q cl 16 [some (.ref r0), some (.int v1), some (.int v2), some (.ref r3), some (.int u0), some (.int 2), none, none, none] [.int v1, .ref r0, .ref p1] H uc us)) :
    xW l x d mc ms mFI_search n0 Q cl 9 [some (.ref r0), some (.int v1), some (.int v2), some (.ref r3), none, none, none, none, none] [.int u0] H uc us := by
  refine xs_istore rfl (L' := [some (.ref r0), some (.int v1), some (.int v2), some (.ref r3), some (.int u0), none, none, none, none]) rfl rfl ?_
  refine xs_iconstV (v := 2) rfl rfl ?_
  refine xs_istore rfl (L' := [some (.ref r0), some (.int v1), some (.int v2), some (.ref r3), some (.int u0), some (.int 2), none, none, none]) rfl rfl ?_
  refine xs_aload_n rfl rfl ?_
  obtain ⟨p1, ⟨_, h1, h2⟩, h⟩ := h
  refine xs_getf rfl fl_2_11 h1 h2 ?_
  refine xs_aload_n rfl rfl ?_
  refine xs_iload_n rfl rfl ?_
  exact h

set_option maxRecDepth 20000 in
theorem b_FI_search_17 {l : Launch} {x : xX} {d mc ms n0 uc us : Nat} {Q : xO → xH → Prop} {cl : Bool} {r0 : Nat} {v1 : Int32} {v2 : Int32} {r3 : Nat} {v4 : Int32} {v5 : Int32} {q0 : Nat} {u1 : Int32} {H : xH}
    (h : ∃ n1 f2, H[(q0 : Nat)]? = some (.inl (0, n1, .inl f2)) ∧ vp_in u1 n1 ∧ (xW l x d mc ms mFI_search n0 Q cl 21 [some (.ref r0), some (.int v1), some (.int v2), some (.ref r3), some (.int v4), some (.int v5), some (.int (f2 u1.toNatClampNeg)), some (.int 0), none] [] H uc us)) :
    xW l x d mc ms mFI_search n0 Q cl 17 [some (.ref r0), some (.int v1), some (.int v2), some (.ref r3), some (.int v4), some (.int v5), none, none, none] [.int u1, .ref q0] H uc us := by
  obtain ⟨n1, f2, h1, h2, h⟩ := h
  refine xs_iald rfl h1 h2 ?_
  refine xs_istore rfl (L' := [some (.ref r0), some (.int v1), some (.int v2), some (.ref r3), some (.int v4), some (.int v5), some (.int (f2 u1.toNatClampNeg)), none, none]) rfl rfl ?_
  refine xs_iconstV (v := 0) rfl rfl ?_
  refine xs_istore rfl (L' := [some (.ref r0), some (.int v1), some (.int v2), some (.ref r3), some (.int v4), some (.int v5), some (.int (f2 u1.toNatClampNeg)), some (.int 0), none]) rfl rfl ?_
  exact h

set_option maxRecDepth 20000 in
theorem b_FI_search_21 {l : Launch} {x : xX} {d mc ms n0 uc us : Nat} {Q : xO → xH → Prop} {cl : Bool} {r0 : Nat} {v1 : Int32} {v2 : Int32} {r3 : Nat} {v4 : Int32} {v5 : Int32} {v6 : Int32} {v7 : Int32} {H : xH}
    (h : (4096 ≤ v7 → uc = mc ∧ us ≤ ms ∧ Q (.inl none) H) ∧ (¬ 4096 ≤ v7 → (v6 < v4 → uc = mc ∧ us ≤ ms ∧ Q (.inl none) H) ∧ (¬ v6 < v4 → (v2 ≤ v5 → uc = mc ∧ us ≤ ms ∧ Q (.inl none) H) ∧ (¬ v2 ≤ v5 → ∃ n1 f2, H[(r3 : Nat)]? = some (.inl (1, n1, .inl f2)) ∧ vp_in (v6 + v5) n1 ∧ (∃ n3 f4, H[(r3 : Nat)]? = some (.inl (1, n3, .inl f4)) ∧ vp_in (v1 + v5) n3 ∧ ((¬ (f2 (v6 + v5).toNatClampNeg) = (f4 (v1 + v5).toNatClampNeg) → ∃ p5, gR H r0 2 4 p5 ∧ (∃ n6 f7, H[(p5 : Nat)]? = some (.inl (0, n6, .inl f7)) ∧ vp_in v6 n6 ∧ (xW l x d mc ms mFI_search n0 Q cl 21 [some (.ref r0), some (.int v1), some (.int v2), some (.ref r3), some (.int v4), some (.int v5), some (.int (f7 v6.toNatClampNeg)), some (.int (v7 + 1)), none] [] H uc us))) ∧ ((f2 (v6 + v5).toNatClampNeg) = (f4 (v1 + v5).toNatClampNeg) → xW l x d mc ms mFI_search n0 Q cl 45 [some (.ref r0), some (.int v1), some (.int v2), some (.ref r3), some (.int v4), some (.int v5), some (.int v6), some (.int v7), none] [.int v2, .int v1, .int v6, .ref r0] H uc us))))))) :
    xW l x d mc ms mFI_search n0 Q cl 21 [some (.ref r0), some (.int v1), some (.int v2), some (.ref r3), some (.int v4), some (.int v5), some (.int v6), some (.int v7), none] [] H uc us := by
  refine xs_iload rfl rfl ?_
  refine xs_sipushV (v := 4096) rfl rfl ?_
  refine xs_icmp_ge (k' := 67) rfl rfl (fun hb => ?_) (fun hb => ?_)
  · have h := h.1 hb
    exact xs_vret rfl rfl h.1 h.2.1 h.2.2
  · have h := h.2 hb
    refine xs_iload rfl rfl ?_
    refine xs_iload rfl rfl ?_
    refine xs_icmp_lt (k' := 67) rfl rfl (fun hb => ?_) (fun hb => ?_)
    · have h := h.1 hb
      exact xs_vret rfl rfl h.1 h.2.1 h.2.2
    · have h := h.2 hb
      refine xs_iload rfl rfl ?_
      refine xs_iload_n rfl rfl ?_
      refine xs_icmp_ge (k' := 67) rfl rfl (fun hb => ?_) (fun hb => ?_)
      · have h := h.1 hb
        exact xs_vret rfl rfl h.1 h.2.1 h.2.2
      · have h := h.2 hb
        refine xs_aload_n rfl rfl ?_
        refine xs_iload rfl rfl ?_
        refine xs_iload rfl rfl ?_
        refine xs_iadd rfl ?_
        obtain ⟨n1, f2, h1, h2, h⟩ := h
        refine xs_bald rfl h1 h2 ?_
        refine xs_aload_n rfl rfl ?_
        refine xs_iload_n rfl rfl ?_
        refine xs_iload rfl rfl ?_
        refine xs_iadd rfl ?_
        obtain ⟨n3, f4, h1, h2, h⟩ := h
        refine xs_bald rfl h1 h2 ?_
        refine xs_icmp_ne (k' := 60) rfl rfl (fun hb => ?_) (fun hb => ?_)
        · have h := h.1 hb
          refine xs_aload_n rfl rfl ?_
          obtain ⟨p5, ⟨_, h1, h2⟩, h⟩ := h
          refine xs_getf rfl fl_2_16 h1 h2 ?_
          refine xs_iload rfl rfl ?_
          obtain ⟨n6, f7, h1, h2, h⟩ := h
          refine xs_iald rfl h1 h2 ?_
          refine xs_istore rfl (L' := [some (.ref r0), some (.int v1), some (.int v2), some (.ref r3), some (.int v4), some (.int v5), some (.int (f7 v6.toNatClampNeg)), some (.int v7), none]) rfl rfl ?_
          refine xs_iincV rfl (w := 1) rfl rfl (L' := [some (.ref r0), some (.int v1), some (.int v2), some (.ref r3), some (.int v4), some (.int v5), some (.int (f7 v6.toNatClampNeg)), some (.int (v7 + 1)), none]) rfl rfl ?_
          refine xs_goto (k' := 21) rfl rfl ?_
          exact h
        · have h := h.2 hb
          refine xs_aload_n rfl rfl ?_
          refine xs_iload rfl rfl ?_
          refine xs_iload_n rfl rfl ?_
          refine xs_iload_n rfl rfl ?_
          exact h

set_option maxRecDepth 20000 in
theorem b_FI_search_46 {l : Launch} {x : xX} {d mc ms n0 uc us : Nat} {Q : xO → xH → Prop} {cl : Bool} {r0 : Nat} {v1 : Int32} {v2 : Int32} {r3 : Nat} {v4 : Int32} {v5 : Int32} {v6 : Int32} {v7 : Int32} {u0 : Int32} {H : xH}
    (h : (u0 ≤ v5 → ∃ p1, gR H r0 2 4 p1 ∧ (∃ n2 f3, H[(p1 : Nat)]? = some (.inl (0, n2, .inl f3)) ∧ vp_in v6 n2 ∧ (xW l x d mc ms mFI_search n0 Q cl 21 [some (.ref r0), some (.int v1), some (.int v2), some (.ref r3), some (.int v4), some (.int v5), some (.int (f3 v6.toNatClampNeg)), some (.int (v7 + 1)), some (.int u0)] [] H uc us))) ∧ (¬ u0 ≤ v5 → ∃ c4, H[(r0 : Nat)]? = some (.inr (2, c4)) ∧ 0 < c4.length ∧ (∀ H5 : xH, H5 = H.set r0 (.inr (2, c4.set 0 (.int u0))) → ∃ c6, H5[(r0 : Nat)]? = some (.inr (2, c6)) ∧ 1 < c6.length ∧ (∀ H7 : xH, H7 = H5.set r0 (.inr (2, c6.set 1 (.int (v1 - v6)))) → ∃ p8, gR H7 r0 2 4 p8 ∧ (∃ n9 f10, H7[(p8 : Nat)]? = some (.inl (0, n9, .inl f10)) ∧ vp_in v6 n9 ∧ (xW l x d mc ms mFI_search n0 Q false 21 [some (.ref r0), some (.int v1), some (.int v2), some (.ref r3), some (.int v4), some (.int u0), some (.int (f10 v6.toNatClampNeg)), some (.int (v7 + 1)), some (.int u0)] [] H7 uc us)))))) :
    xW l x d mc ms mFI_search n0 Q cl 46 [some (.ref r0), some (.int v1), some (.int v2), some (.ref r3), some (.int v4), some (.int v5), some (.int v6), some (.int v7), none] [.int u0] H uc us := by
  refine xs_istore rfl (L' := [some (.ref r0), some (.int v1), some (.int v2), some (.ref r3), some (.int v4), some (.int v5), some (.int v6), some (.int v7), some (.int u0)]) rfl rfl ?_
  refine xs_iload rfl rfl ?_
  refine xs_iload rfl rfl ?_
  refine xs_icmp_le (k' := 60) rfl rfl (fun hb => ?_) (fun hb => ?_)
  · have h := h.1 hb
    refine xs_aload_n rfl rfl ?_
    obtain ⟨p1, ⟨_, h1, h2⟩, h⟩ := h
    refine xs_getf rfl fl_2_16 h1 h2 ?_
    refine xs_iload rfl rfl ?_
    obtain ⟨n2, f3, h1, h2, h⟩ := h
    refine xs_iald rfl h1 h2 ?_
    refine xs_istore rfl (L' := [some (.ref r0), some (.int v1), some (.int v2), some (.ref r3), some (.int v4), some (.int v5), some (.int (f3 v6.toNatClampNeg)), some (.int v7), some (.int u0)]) rfl rfl ?_
    refine xs_iincV rfl (w := 1) rfl rfl (L' := [some (.ref r0), some (.int v1), some (.int v2), some (.ref r3), some (.int v4), some (.int v5), some (.int (f3 v6.toNatClampNeg)), some (.int (v7 + 1)), some (.int u0)]) rfl rfl ?_
    refine xs_goto (k' := 21) rfl rfl ?_
    exact h
  · have h := h.2 hb
    refine xs_iload rfl rfl ?_
    refine xs_istore rfl (L' := [some (.ref r0), some (.int v1), some (.int v2), some (.ref r3), some (.int v4), some (.int u0), some (.int v6), some (.int v7), some (.int u0)]) rfl rfl ?_
    refine xs_aload_n rfl rfl ?_
    refine xs_iload rfl rfl ?_
    obtain ⟨c4, h1, h2, h⟩ := h
    refine xs_putf rfl fl_2_36 h1 (fun q hq => by cases hq; rfl) rfl h2 ?_
    have h := h _ rfl
    generalize H.set r0 (.inr (2, c4.set 0 (.int u0))) = H5 at h ⊢
    refine xs_aload_n rfl rfl ?_
    refine xs_iload_n rfl rfl ?_
    refine xs_iload rfl rfl ?_
    refine xs_isub rfl ?_
    obtain ⟨c6, h1, h2, h⟩ := h
    refine xs_putf rfl fl_2_74 h1 (fun q hq => by cases hq; rfl) rfl h2 ?_
    have h := h _ rfl
    generalize H5.set r0 (.inr (2, c6.set 1 (.int (v1 - v6)))) = H7 at h ⊢
    refine xs_aload_n rfl rfl ?_
    obtain ⟨p8, ⟨_, h1, h2⟩, h⟩ := h
    refine xs_getf rfl fl_2_16 h1 h2 ?_
    refine xs_iload rfl rfl ?_
    obtain ⟨n9, f10, h1, h2, h⟩ := h
    refine xs_iald rfl h1 h2 ?_
    refine xs_istore rfl (L' := [some (.ref r0), some (.int v1), some (.int v2), some (.ref r3), some (.int v4), some (.int u0), some (.int (f10 v6.toNatClampNeg)), some (.int v7), some (.int u0)]) rfl rfl ?_
    refine xs_iincV rfl (w := 1) rfl rfl (L' := [some (.ref r0), some (.int v1), some (.int v2), some (.ref r3), some (.int v4), some (.int u0), some (.int (f10 v6.toNatClampNeg)), some (.int (v7 + 1)), some (.int u0)]) rfl rfl ?_
    refine xs_goto (k' := 21) rfl rfl ?_
    exact h

set_option maxRecDepth 20000 in
theorem b_FI_sameBytes_0 {l : Launch} {x : xX} {d mc ms n0 uc us : Nat} {Q : xO → xH → Prop} {cl : Bool} {r0 : Nat} {v1 : Int32} {v2 : Int32} {v3 : Int32} {H : xH}
    (h : ∃ p1, gR H r0 2 2 p1 ∧ (∃ p2, gR H p1 7 0 p2 ∧ (xW l x d mc ms mFI_sameBytes n0 Q cl 6 [some (.ref r0), some (.int v1), some (.int v2), some (.int v3), some (.ref p2), some (.int 0)] [] H uc us))) :
    xW l x d mc ms mFI_sameBytes n0 Q cl 0 [some (.ref r0), some (.int v1), some (.int v2), some (.int v3), none, none] [] H uc us := by
  refine xs_aload_n rfl rfl ?_
  obtain ⟨p1, ⟨_, h1, h2⟩, h⟩ := h
  refine xs_getf rfl fl_2_19 h1 h2 ?_
  obtain ⟨p2, ⟨_, h1, h2⟩, h⟩ := h
  refine xs_getf rfl fl_2_62 h1 h2 ?_
  refine xs_astore rfl (L' := [some (.ref r0), some (.int v1), some (.int v2), some (.int v3), some (.ref p2), none]) rfl rfl ?_
  refine xs_iconstV (v := 0) rfl rfl ?_
  refine xs_istore rfl (L' := [some (.ref r0), some (.int v1), some (.int v2), some (.int v3), some (.ref p2), some (.int 0)]) rfl rfl ?_
  exact h

set_option maxRecDepth 20000 in
theorem b_FI_sameBytes_6 {l : Launch} {x : xX} {d mc ms n0 uc us : Nat} {Q : xO → xH → Prop} {cl : Bool} {r0 : Nat} {v1 : Int32} {v2 : Int32} {v3 : Int32} {r4 : Nat} {v5 : Int32} {H : xH}
    (h : (v3 ≤ v5 → uc = mc ∧ us ≤ ms ∧ Q (.inl (some (.int v5))) H) ∧ (¬ v3 ≤ v5 → ∃ n1 f2, H[(r4 : Nat)]? = some (.inl (1, n1, .inl f2)) ∧ vp_in (v1 + v5) n1 ∧ (∃ n3 f4, H[(r4 : Nat)]? = some (.inl (1, n3, .inl f4)) ∧ vp_in (v2 + v5) n3 ∧ ((¬ (f2 (v1 + v5).toNatClampNeg) = (f4 (v2 + v5).toNatClampNeg) → uc = mc ∧ us ≤ ms ∧ Q (.inl (some (.int v5))) H) ∧ ((f2 (v1 + v5).toNatClampNeg) = (f4 (v2 + v5).toNatClampNeg) → xW l x d mc ms mFI_sameBytes n0 Q cl 6 [some (.ref r0), some (.int v1), some (.int v2), some (.int v3), some (.ref r4), some (.int (v5 + 1))] [] H uc us))))) :
    xW l x d mc ms mFI_sameBytes n0 Q cl 6 [some (.ref r0), some (.int v1), some (.int v2), some (.int v3), some (.ref r4), some (.int v5)] [] H uc us := by
  refine xs_iload rfl rfl ?_
  refine xs_iload_n rfl rfl ?_
  refine xs_icmp_ge (k' := 22) rfl rfl (fun hb => ?_) (fun hb => ?_)
  · have h := h.1 hb
    refine xs_iload rfl rfl ?_
    exact xs_iret rfl rfl h.1 h.2.1 h.2.2
  · have h := h.2 hb
    refine xs_aload rfl rfl ?_
    refine xs_iload_n rfl rfl ?_
    refine xs_iload rfl rfl ?_
    refine xs_iadd rfl ?_
    obtain ⟨n1, f2, h1, h2, h⟩ := h
    refine xs_bald rfl h1 h2 ?_
    refine xs_aload rfl rfl ?_
    refine xs_iload_n rfl rfl ?_
    refine xs_iload rfl rfl ?_
    refine xs_iadd rfl ?_
    obtain ⟨n3, f4, h1, h2, h⟩ := h
    refine xs_bald rfl h1 h2 ?_
    refine xs_icmp_ne (k' := 22) rfl rfl (fun hb => ?_) (fun hb => ?_)
    · have h := h.1 hb
      refine xs_iload rfl rfl ?_
      exact xs_iret rfl rfl h.1 h.2.1 h.2.2
    · have h := h.2 hb
      refine xs_iincV rfl (w := 1) rfl rfl (L' := [some (.ref r0), some (.int v1), some (.int v2), some (.int v3), some (.ref r4), some (.int (v5 + 1))]) rfl rfl ?_
      refine xs_goto (k' := 6) rfl rfl ?_
      exact h

set_option maxRecDepth 20000 in
theorem b_MC_make_0 {l : Launch} {x : xX} {d mc ms n0 uc us : Nat} {Q : xO → xH → Prop} {cl : Bool} {r0 : Nat} {r1 : Nat} {r2 : Nat} {H : xH}
    (h : ∃ p1, gR H r0 3 3 p1 ∧ (∃ p2, gR H r0 3 0 p2 ∧ (∃ p3, gR H p2 11 0 p3 ∧ (xW l x d mc ms mMC_make n0 Q cl 7 [some (.ref r0), some (.ref r1), some (.ref r2)] [.ref p3, .int 15, .ref r1, .ref p1] H uc us)))) :
    xW l x d mc ms mMC_make n0 Q cl 0 [some (.ref r0), some (.ref r1), some (.ref r2)] [] H uc us := by
  refine xs_aload_n rfl rfl ?_
  obtain ⟨p1, ⟨_, h1, h2⟩, h⟩ := h
  refine xs_getf rfl fl_3_29 h1 h2 ?_
  refine xs_aload_n rfl rfl ?_
  refine xs_bipushV (v := 15) rfl rfl ?_
  refine xs_aload_n rfl rfl ?_
  obtain ⟨p2, ⟨_, h1, h2⟩, h⟩ := h
  refine xs_getf rfl fl_3_14 h1 h2 ?_
  obtain ⟨p3, ⟨_, h1, h2⟩, h⟩ := h
  refine xs_getf rfl fl_3_46 h1 h2 ?_
  exact h

set_option maxRecDepth 20000 in
theorem b_MC_make_8 {l : Launch} {x : xX} {d mc ms n0 uc us : Nat} {Q : xO → xH → Prop} {cl : Bool} {r0 : Nat} {r1 : Nat} {r2 : Nat} {H : xH}
    (h : ∃ p1, gR H r0 3 3 p1 ∧ (∃ p2, gR H r0 3 1 p2 ∧ (∃ p3, gR H p2 11 0 p3 ∧ (xW l x d mc ms mMC_make n0 Q cl 15 [some (.ref r0), some (.ref r1), some (.ref r2)] [.ref p3, .int 15, .ref r2, .ref p1] H uc us)))) :
    xW l x d mc ms mMC_make n0 Q cl 8 [some (.ref r0), some (.ref r1), some (.ref r2)] [] H uc us := by
  refine xs_aload_n rfl rfl ?_
  obtain ⟨p1, ⟨_, h1, h2⟩, h⟩ := h
  refine xs_getf rfl fl_3_29 h1 h2 ?_
  refine xs_aload_n rfl rfl ?_
  refine xs_bipushV (v := 15) rfl rfl ?_
  refine xs_aload_n rfl rfl ?_
  obtain ⟨p2, ⟨_, h1, h2⟩, h⟩ := h
  refine xs_getf rfl fl_3_20 h1 h2 ?_
  obtain ⟨p3, ⟨_, h1, h2⟩, h⟩ := h
  refine xs_getf rfl fl_3_46 h1 h2 ?_
  exact h

set_option maxRecDepth 20000 in
theorem b_MC_make_16 {l : Launch} {x : xX} {d mc ms n0 uc us : Nat} {Q : xO → xH → Prop} {cl : Bool} {r0 : Nat} {r1 : Nat} {r2 : Nat} {H : xH}
    (h : ∃ p1, gR H r0 3 0 p1 ∧ (xW l x d mc ms mMC_make n0 Q cl 19 [some (.ref r0), some (.ref r1), some (.ref r2)] [.ref p1, .ref r0] H uc us)) :
    xW l x d mc ms mMC_make n0 Q cl 16 [some (.ref r0), some (.ref r1), some (.ref r2)] [] H uc us := by
  refine xs_aload_n rfl rfl ?_
  refine xs_aload_n rfl rfl ?_
  obtain ⟨p1, ⟨_, h1, h2⟩, h⟩ := h
  refine xs_getf rfl fl_3_14 h1 h2 ?_
  exact h

set_option maxRecDepth 20000 in
theorem b_MC_make_20 {l : Launch} {x : xX} {d mc ms n0 uc us : Nat} {Q : xO → xH → Prop} {cl : Bool} {r0 : Nat} {r1 : Nat} {r2 : Nat} {q0 : Nat} {u1 : Int32} {H : xH}
    (h : ∃ c1, H[(q0 : Nat)]? = some (.inr (3, c1)) ∧ 9 < c1.length ∧ (∀ H2 : xH, H2 = H.set q0 (.inr (3, c1.set 9 (.int u1))) → ∃ p3, gR H2 r0 3 1 p3 ∧ (xW l x d mc ms mMC_make n0 Q false 25 [some (.ref r0), some (.ref r1), some (.ref r2)] [.ref p3, .int 1, .ref r0] H2 uc us))) :
    xW l x d mc ms mMC_make n0 Q cl 20 [some (.ref r0), some (.ref r1), some (.ref r2)] [.int u1, .ref q0] H uc us := by
  obtain ⟨c1, h1, h2, h⟩ := h
  refine xs_putf rfl fl_3_56 h1 (fun q hq => by cases hq; rfl) rfl h2 ?_
  have h := h _ rfl
  generalize H.set q0 (.inr (3, c1.set 9 (.int u1))) = H2 at h ⊢
  refine xs_aload_n rfl rfl ?_
  refine xs_iconstV (v := 1) rfl rfl ?_
  refine xs_aload_n rfl rfl ?_
  obtain ⟨p3, ⟨_, h1, h2⟩, h⟩ := h
  refine xs_getf rfl fl_3_20 h1 h2 ?_
  exact h

-- b_MC_make_26: .invokestatic 60
set_option maxRecDepth 20000 in
theorem b_MC_make_27 {l : Launch} {x : xX} {d mc ms n0 uc us : Nat} {Q : xO → xH → Prop} {cl : Bool} {r0 : Nat} {r1 : Nat} {r2 : Nat} {q0 : Nat} {u1 : Int32} {H : xH}
    (h : ∃ c1, H[(q0 : Nat)]? = some (.inr (3, c1)) ∧ 10 < c1.length ∧ (∀ H2 : xH, H2 = H.set q0 (.inr (3, c1.set 10 (.int u1))) → ∃ p3, gR H2 r0 3 0 p3 ∧ (∃ p4, gR H2 p3 11 0 p4 ∧ (∃ p5, gR H2 r0 3 4 p5 ∧ (∃ a6, gI H2 r0 3 9 a6 ∧ (xW l x d mc ms mMC_make n0 Q false 37 [some (.ref r0), some (.ref r1), some (.ref r2)] [.int a6, .int 0, .ref p5, .int 0, .ref p4] H2 uc us)))))) :
    xW l x d mc ms mMC_make n0 Q cl 27 [some (.ref r0), some (.ref r1), some (.ref r2)] [.int u1, .ref q0] H uc us := by
  obtain ⟨c1, h1, h2, h⟩ := h
  refine xs_putf rfl fl_3_66 h1 (fun q hq => by cases hq; rfl) rfl h2 ?_
  have h := h _ rfl
  generalize H.set q0 (.inr (3, c1.set 10 (.int u1))) = H2 at h ⊢
  refine xs_aload_n rfl rfl ?_
  obtain ⟨p3, ⟨_, h1, h2⟩, h⟩ := h
  refine xs_getf rfl fl_3_14 h1 h2 ?_
  obtain ⟨p4, ⟨_, h1, h2⟩, h⟩ := h
  refine xs_getf rfl fl_3_46 h1 h2 ?_
  refine xs_iconstV (v := 0) rfl rfl ?_
  refine xs_aload_n rfl rfl ?_
  obtain ⟨p5, ⟨_, h1, h2⟩, h⟩ := h
  refine xs_getf rfl fl_3_33 h1 h2 ?_
  refine xs_iconstV (v := 0) rfl rfl ?_
  refine xs_aload_n rfl rfl ?_
  obtain ⟨a6, ⟨_, h1, h2⟩, h⟩ := h
  refine xs_getf rfl fl_3_56 h1 h2 ?_
  exact h

set_option maxRecDepth 20000 in
theorem b_MC_make_38 {l : Launch} {x : xX} {d mc ms n0 uc us : Nat} {Q : xO → xH → Prop} {cl : Bool} {r0 : Nat} {r1 : Nat} {r2 : Nat} {H : xH}
    (h : ∃ p1, gR H r0 3 1 p1 ∧ (∃ p2, gR H p1 11 0 p2 ∧ (∃ p3, gR H r0 3 4 p3 ∧ (∃ a4, gI H r0 3 9 a4 ∧ (∃ a5, gI H r0 3 10 a5 ∧ (xW l x d mc ms mMC_make n0 Q cl 48 [some (.ref r0), some (.ref r1), some (.ref r2)] [.int a5, .int a4, .ref p3, .int 0, .ref p2] H uc us)))))) :
    xW l x d mc ms mMC_make n0 Q cl 38 [some (.ref r0), some (.ref r1), some (.ref r2)] [] H uc us := by
  refine xs_aload_n rfl rfl ?_
  obtain ⟨p1, ⟨_, h1, h2⟩, h⟩ := h
  refine xs_getf rfl fl_3_20 h1 h2 ?_
  obtain ⟨p2, ⟨_, h1, h2⟩, h⟩ := h
  refine xs_getf rfl fl_3_46 h1 h2 ?_
  refine xs_iconstV (v := 0) rfl rfl ?_
  refine xs_aload_n rfl rfl ?_
  obtain ⟨p3, ⟨_, h1, h2⟩, h⟩ := h
  refine xs_getf rfl fl_3_33 h1 h2 ?_
  refine xs_aload_n rfl rfl ?_
  obtain ⟨a4, ⟨_, h1, h2⟩, h⟩ := h
  refine xs_getf rfl fl_3_56 h1 h2 ?_
  refine xs_aload_n rfl rfl ?_
  obtain ⟨a5, ⟨_, h1, h2⟩, h⟩ := h
  refine xs_getf rfl fl_3_66 h1 h2 ?_
  exact h

set_option maxRecDepth 20000 in
theorem b_MC_make_49 {l : Launch} {x : xX} {d mc ms n0 uc us : Nat} {Q : xO → xH → Prop} {cl : Bool} {r0 : Nat} {r1 : Nat} {r2 : Nat} {H : xH}
    (h : ∃ a1, gI H r0 3 9 a1 ∧ (∃ a2, gI H r0 3 10 a2 ∧ (xW l x d mc ms mMC_make n0 Q cl 55 [some (.ref r0), some (.ref r1), some (.ref r2)] [.int (a1 + a2), .ref r0] H uc us))) :
    xW l x d mc ms mMC_make n0 Q cl 49 [some (.ref r0), some (.ref r1), some (.ref r2)] [] H uc us := by
  refine xs_aload_n rfl rfl ?_
  refine xs_aload_n rfl rfl ?_
  obtain ⟨a1, ⟨_, h1, h2⟩, h⟩ := h
  refine xs_getf rfl fl_3_56 h1 h2 ?_
  refine xs_aload_n rfl rfl ?_
  obtain ⟨a2, ⟨_, h1, h2⟩, h⟩ := h
  refine xs_getf rfl fl_3_66 h1 h2 ?_
  refine xs_iadd rfl ?_
  exact h

set_option maxRecDepth 20000 in
theorem b_MC_make_56 {l : Launch} {x : xX} {d mc ms n0 uc us : Nat} {Q : xO → xH → Prop} {cl : Bool} {r0 : Nat} {r1 : Nat} {r2 : Nat} {H : xH}
    (h : xW l x d mc ms mMC_make n0 Q cl 57 [some (.ref r0), some (.ref r1), some (.ref r2)] [.ref r0] H uc us) :
    xW l x d mc ms mMC_make n0 Q cl 56 [some (.ref r0), some (.ref r1), some (.ref r2)] [] H uc us := by
  refine xs_aload_n rfl rfl ?_
  exact h

set_option maxRecDepth 20000 in
theorem b_MC_make_58 {l : Launch} {x : xX} {d mc ms n0 uc us : Nat} {Q : xO → xH → Prop} {cl : Bool} {r0 : Nat} {r1 : Nat} {r2 : Nat} {H : xH}
    (h : ∃ p1, gR H r0 3 3 p1 ∧ (∃ p2, gR H r0 3 7 p2 ∧ (∃ p3, gR H r0 3 2 p3 ∧ (∃ p4, gR H p3 11 0 p4 ∧ (xW l x d mc ms mMC_make n0 Q cl 66 [some (.ref r0), some (.ref r1), some (.ref r2)] [.ref p4, .int 7, .ref p2, .ref p1] H uc us))))) :
    xW l x d mc ms mMC_make n0 Q cl 58 [some (.ref r0), some (.ref r1), some (.ref r2)] [] H uc us := by
  refine xs_aload_n rfl rfl ?_
  obtain ⟨p1, ⟨_, h1, h2⟩, h⟩ := h
  refine xs_getf rfl fl_3_29 h1 h2 ?_
  refine xs_aload_n rfl rfl ?_
  obtain ⟨p2, ⟨_, h1, h2⟩, h⟩ := h
  refine xs_getf rfl fl_3_43 h1 h2 ?_
  refine xs_bipushV (v := 7) rfl rfl ?_
  refine xs_aload_n rfl rfl ?_
  obtain ⟨p3, ⟨_, h1, h2⟩, h⟩ := h
  refine xs_getf rfl fl_3_23 h1 h2 ?_
  obtain ⟨p4, ⟨_, h1, h2⟩, h⟩ := h
  refine xs_getf rfl fl_3_46 h1 h2 ?_
  exact h

set_option maxRecDepth 20000 in
theorem b_MC_make_67 {l : Launch} {x : xX} {d mc ms n0 uc us : Nat} {Q : xO → xH → Prop} {cl : Bool} {r0 : Nat} {r1 : Nat} {r2 : Nat} {H : xH}
    (h : ∃ c1, H[(r0 : Nat)]? = some (.inr (3, c1)) ∧ 11 < c1.length ∧ (∀ H2 : xH, H2 = H.set r0 (.inr (3, c1.set 11 (.int 19))) → xW l x d mc ms mMC_make n0 Q false 70 [some (.ref r0), some (.ref r1), some (.ref r2)] [] H2 uc us)) :
    xW l x d mc ms mMC_make n0 Q cl 67 [some (.ref r0), some (.ref r1), some (.ref r2)] [] H uc us := by
  refine xs_aload_n rfl rfl ?_
  refine xs_bipushV (v := 19) rfl rfl ?_
  obtain ⟨c1, h1, h2, h⟩ := h
  refine xs_putf rfl fl_3_81 h1 (fun q hq => by cases hq; rfl) rfl h2 ?_
  have h := h _ rfl
  generalize H.set r0 (.inr (3, c1.set 11 (.int 19))) = H2 at h ⊢
  exact h

set_option maxRecDepth 20000 in
theorem b_MC_make_70 {l : Launch} {x : xX} {d mc ms n0 uc us : Nat} {Q : xO → xH → Prop} {cl : Bool} {r0 : Nat} {r1 : Nat} {r2 : Nat} {H : xH}
    (h : ∃ a1, gI H r0 3 11 a1 ∧ ((a1 ≤ 4 → uc = mc ∧ us ≤ ms ∧ Q (.inl none) H) ∧ (¬ a1 ≤ 4 → ∃ p2, gR H r0 3 2 p2 ∧ (∃ p3, gR H p2 11 0 p3 ∧ (∃ a4, gI H r0 3 11 a4 ∧ (∃ n5 f6, H[(1 : Nat)]? = some (.inl (0, n5, .inl f6)) ∧ vp_in (a4 - 1) n5 ∧ (∃ n7 f8, H[(p3 : Nat)]? = some (.inl (0, n7, .inl f8)) ∧ vp_in (f6 (a4 - 1).toNatClampNeg) n7 ∧ ((¬ (f8 (f6 (a4 - 1).toNatClampNeg).toNatClampNeg) = 0 → uc = mc ∧ us ≤ ms ∧ Q (.inl none) H) ∧ ((f8 (f6 (a4 - 1).toNatClampNeg).toNatClampNeg) = 0 → ∃ a9, gI H r0 3 11 a9 ∧ (∃ c10, H[(r0 : Nat)]? = some (.inr (3, c10)) ∧ 11 < c10.length ∧ (∀ H11 : xH, H11 = H.set r0 (.inr (3, c10.set 11 (.int (a9 - 1)))) → xW l x d mc ms mMC_make n0 Q false 70 [some (.ref r0), some (.ref r1), some (.ref r2)] [] H11 uc us))))))))))) :
    xW l x d mc ms mMC_make n0 Q cl 70 [some (.ref r0), some (.ref r1), some (.ref r2)] [] H uc us := by
  refine xs_aload_n rfl rfl ?_
  obtain ⟨a1, ⟨_, h1, h2⟩, h⟩ := h
  refine xs_getf rfl fl_3_81 h1 h2 ?_
  refine xs_iconstV (v := 4) rfl rfl ?_
  refine xs_icmp_le (k' := 92) rfl rfl (fun hb => ?_) (fun hb => ?_)
  · have h := h.1 hb
    exact xs_vret rfl rfl h.1 h.2.1 h.2.2
  · have h := h.2 hb
    refine xs_aload_n rfl rfl ?_
    obtain ⟨p2, ⟨_, h1, h2⟩, h⟩ := h
    refine xs_getf rfl fl_3_23 h1 h2 ?_
    obtain ⟨p3, ⟨_, h1, h2⟩, h⟩ := h
    refine xs_getf rfl fl_3_46 h1 h2 ?_
    refine xs_gets rfl sl_3_84 ?_
    refine xs_aload_n rfl rfl ?_
    obtain ⟨a4, ⟨_, h1, h2⟩, h⟩ := h
    refine xs_getf rfl fl_3_81 h1 h2 ?_
    refine xs_iconstV (v := 1) rfl rfl ?_
    refine xs_isub rfl ?_
    obtain ⟨n5, f6, h1, h2, h⟩ := h
    refine xs_iald rfl h1 h2 ?_
    obtain ⟨n7, f8, h1, h2, h⟩ := h
    refine xs_iald rfl h1 h2 ?_
    refine xs_if_ne (k' := 92) rfl rfl (fun hb => ?_) (fun hb => ?_)
    · have h := h.1 hb
      exact xs_vret rfl rfl h.1 h.2.1 h.2.2
    · have h := h.2 hb
      refine xs_aload_n rfl rfl ?_
      refine xs_dup rfl rfl ?_
      obtain ⟨a9, ⟨_, h1, h2⟩, h⟩ := h
      refine xs_getf rfl fl_3_81 h1 h2 ?_
      refine xs_iconstV (v := 1) rfl rfl ?_
      refine xs_isub rfl ?_
      obtain ⟨c10, h1, h2, h⟩ := h
      refine xs_putf rfl fl_3_81 h1 (fun q hq => by cases hq; rfl) rfl h2 ?_
      have h := h _ rfl
      generalize H.set r0 (.inr (3, c10.set 11 (.int (a9 - 1)))) = H11 at h ⊢
      refine xs_goto (k' := 70) rfl rfl ?_
      exact h

set_option maxRecDepth 20000 in
theorem b_WE_makeLengths_0 {l : Launch} {x : xX} {d mc ms n0 uc us : Nat} {Q : xO → xH → Prop} {cl : Bool} {r0 : Nat} {r1 : Nat} {v2 : Int32} {r3 : Nat} {H : xH}
    (h : xW l x d mc ms mWE_makeLengths n0 Q cl 2 [some (.ref r0), some (.ref r1), some (.int v2), some (.ref r3), none, none] [.ref r1, .ref r0] H uc us) :
    xW l x d mc ms mWE_makeLengths n0 Q cl 0 [some (.ref r0), some (.ref r1), some (.int v2), some (.ref r3), none, none] [] H uc us := by
  refine xs_aload_n rfl rfl ?_
  refine xs_aload_n rfl rfl ?_
  exact h

set_option maxRecDepth 20000 in
theorem b_WE_makeLengths_3 {l : Launch} {x : xX} {d mc ms n0 uc us : Nat} {Q : xO → xH → Prop} {cl : Bool} {r0 : Nat} {r1 : Nat} {v2 : Int32} {r3 : Nat} {H : xH}
    (h : xW l x d mc ms mWE_makeLengths n0 Q cl 5 [some (.ref r0), some (.ref r1), some (.int v2), some (.ref r3), none, none] [.int 0, .ref r3] H uc us) :
    xW l x d mc ms mWE_makeLengths n0 Q cl 3 [some (.ref r0), some (.ref r1), some (.int v2), some (.ref r3), none, none] [] H uc us := by
  refine xs_aload_n rfl rfl ?_
  refine xs_iconstV (v := 0) rfl rfl ?_
  exact h

set_option maxRecDepth 20000 in
theorem b_WE_makeLengths_6 {l : Launch} {x : xX} {d mc ms n0 uc us : Nat} {Q : xO → xH → Prop} {cl : Bool} {r0 : Nat} {r1 : Nat} {v2 : Int32} {r3 : Nat} {H : xH}
    (h : ∃ a1, gI H r0 10 2 a1 ∧ ((¬ a1 = 1 → ∃ a2, gI H r0 10 2 a2 ∧ ((2 ≤ a2 → xW l x d mc ms mWE_makeLengths n0 Q cl 26 [some (.ref r0), some (.ref r1), some (.int v2), some (.ref r3), some (.int 0), some (.int 0)] [] H uc us) ∧ (¬ 2 ≤ a2 → uc = mc ∧ us ≤ ms ∧ Q (.inl none) H))) ∧ (a1 = 1 → ∃ p3, gR H r0 10 0 p3 ∧ (∃ n4 f5, H[(p3 : Nat)]? = some (.inl (0, n4, .inl f5)) ∧ vp_in 0 n4 ∧ (∃ n6 f7, H[(r3 : Nat)]? = some (.inl (0, n6, .inl f7)) ∧ 2 ≤ r3 ∧ vp_in (f5 (0 : Int32).toNatClampNeg) n6 ∧ (∀ H8 : xH, H8 = H.set r3 (.inl (0, n6, .inl (upd f7 ((f5 (0 : Int32).toNatClampNeg).toNatClampNeg) (1)))) → ∃ a9, gI H8 r0 10 2 a9 ∧ ((2 ≤ a9 → xW l x d mc ms mWE_makeLengths n0 Q false 26 [some (.ref r0), some (.ref r1), some (.int v2), some (.ref r3), some (.int 0), some (.int 0)] [] H8 uc us) ∧ (¬ 2 ≤ a9 → uc = mc ∧ us ≤ ms ∧ Q (.inl none) H8)))))))) :
    xW l x d mc ms mWE_makeLengths n0 Q cl 6 [some (.ref r0), some (.ref r1), some (.int v2), some (.ref r3), none, none] [] H uc us := by
  refine xs_aload_n rfl rfl ?_
  obtain ⟨a1, ⟨_, h1, h2⟩, h⟩ := h
  refine xs_getf rfl fl_10_38 h1 h2 ?_
  refine xs_iconstV (v := 1) rfl rfl ?_
  refine xs_icmp_ne (k' := 17) rfl rfl (fun hb => ?_) (fun hb => ?_)
  · have h := h.1 hb
    refine xs_aload_n rfl rfl ?_
    obtain ⟨a2, ⟨_, h1, h2⟩, h⟩ := h
    refine xs_getf rfl fl_10_38 h1 h2 ?_
    refine xs_iconstV (v := 2) rfl rfl ?_
    refine xs_icmp_ge (k' := 22) rfl rfl (fun hb => ?_) (fun hb => ?_)
    · have h := h.1 hb
      refine xs_iconstV (v := 0) rfl rfl ?_
      refine xs_istore rfl (L' := [some (.ref r0), some (.ref r1), some (.int v2), some (.ref r3), some (.int 0), none]) rfl rfl ?_
      refine xs_iconstV (v := 0) rfl rfl ?_
      refine xs_istore rfl (L' := [some (.ref r0), some (.ref r1), some (.int v2), some (.ref r3), some (.int 0), some (.int 0)]) rfl rfl ?_
      exact h
    · have h := h.2 hb
      exact xs_vret rfl rfl h.1 h.2.1 h.2.2
  · have h := h.2 hb
    refine xs_aload_n rfl rfl ?_
    refine xs_aload_n rfl rfl ?_
    obtain ⟨p3, ⟨_, h1, h2⟩, h⟩ := h
    refine xs_getf rfl fl_10_9 h1 h2 ?_
    refine xs_iconstV (v := 0) rfl rfl ?_
    obtain ⟨n4, f5, h1, h2, h⟩ := h
    refine xs_iald rfl h1 h2 ?_
    refine xs_iconstV (v := 1) rfl rfl ?_
    obtain ⟨n6, f7, h1, h3, h2, h⟩ := h
    refine xs_iast rfl h1 h3 h2 ?_
    have h := h _ rfl
    generalize H.set r3 (.inl (0, n6, .inl (upd f7 ((f5 (0 : Int32).toNatClampNeg).toNatClampNeg) (1)))) = H8 at h ⊢
    refine xs_aload_n rfl rfl ?_
    obtain ⟨a9, ⟨_, h1, h2⟩, h⟩ := h
    refine xs_getf rfl fl_10_38 h1 h2 ?_
    refine xs_iconstV (v := 2) rfl rfl ?_
    refine xs_icmp_ge (k' := 22) rfl rfl (fun hb => ?_) (fun hb => ?_)
    · have h := h.1 hb
      refine xs_iconstV (v := 0) rfl rfl ?_
      refine xs_istore rfl (L' := [some (.ref r0), some (.ref r1), some (.int v2), some (.ref r3), some (.int 0), none]) rfl rfl ?_
      refine xs_iconstV (v := 0) rfl rfl ?_
      refine xs_istore rfl (L' := [some (.ref r0), some (.ref r1), some (.int v2), some (.ref r3), some (.int 0), some (.int 0)]) rfl rfl ?_
      exact h
    · have h := h.2 hb
      exact xs_vret rfl rfl h.1 h.2.1 h.2.2

set_option maxRecDepth 20000 in
theorem b_WE_makeLengths_26 {l : Launch} {x : xX} {d mc ms n0 uc us : Nat} {Q : xO → xH → Prop} {cl : Bool} {r0 : Nat} {r1 : Nat} {v2 : Int32} {r3 : Nat} {v4 : Int32} {v5 : Int32} {H : xH}
    (h : (v2 ≤ v5 → xW l x d mc ms mWE_makeLengths n0 Q cl 41 [some (.ref r0), some (.ref r1), some (.int v2), some (.ref r3), some (.int v4), some (.int v5)] [.ref r3, .int v2, .ref r0] H uc us) ∧ (¬ v2 ≤ v5 → xW l x d mc ms mWE_makeLengths n0 Q cl 34 [some (.ref r0), some (.ref r1), some (.int v2), some (.ref r3), some (.int v4), some (.int v5)] [.int (v4 / 2), .int v5, .ref r0] H uc us)) :
    xW l x d mc ms mWE_makeLengths n0 Q cl 26 [some (.ref r0), some (.ref r1), some (.int v2), some (.ref r3), some (.int v4), some (.int v5)] [] H uc us := by
  refine xs_iload rfl rfl ?_
  refine xs_iload_n rfl rfl ?_
  refine xs_icmp_ge (k' := 38) rfl rfl (fun hb => ?_) (fun hb => ?_)
  · have h := h.1 hb
    refine xs_aload_n rfl rfl ?_
    refine xs_iload_n rfl rfl ?_
    refine xs_aload_n rfl rfl ?_
    exact h
  · have h := h.2 hb
    refine xs_aload_n rfl rfl ?_
    refine xs_iload rfl rfl ?_
    refine xs_iload rfl rfl ?_
    refine xs_iconstV (v := 2) rfl rfl ?_
    refine xs_idiv rfl (by decide) ?_
    exact h

set_option maxRecDepth 20000 in
theorem b_WE_makeLengths_35 {l : Launch} {x : xX} {d mc ms n0 uc us : Nat} {Q : xO → xH → Prop} {cl : Bool} {r0 : Nat} {r1 : Nat} {v2 : Int32} {r3 : Nat} {v4 : Int32} {v5 : Int32} {u0 : Int32} {H : xH}
    (h : xW l x d mc ms mWE_makeLengths n0 Q cl 26 [some (.ref r0), some (.ref r1), some (.int v2), some (.ref r3), some (.int u0), some (.int (v5 + 1))] [] H uc us) :
    xW l x d mc ms mWE_makeLengths n0 Q cl 35 [some (.ref r0), some (.ref r1), some (.int v2), some (.ref r3), some (.int v4), some (.int v5)] [.int u0] H uc us := by
  refine xs_istore rfl (L' := [some (.ref r0), some (.ref r1), some (.int v2), some (.ref r3), some (.int u0), some (.int v5)]) rfl rfl ?_
  refine xs_iincV rfl (w := 1) rfl rfl (L' := [some (.ref r0), some (.ref r1), some (.int v2), some (.ref r3), some (.int u0), some (.int (v5 + 1))]) rfl rfl ?_
  refine xs_goto (k' := 26) rfl rfl ?_
  exact h

set_option maxRecDepth 20000 in
theorem b_WE_makeLengths_42 {l : Launch} {x : xX} {d mc ms n0 uc us : Nat} {Q : xO → xH → Prop} {cl : Bool} {r0 : Nat} {r1 : Nat} {v2 : Int32} {r3 : Nat} {v4 : Int32} {v5 : Int32} {H : xH}
    (h : uc = mc ∧ us ≤ ms ∧ Q (.inl none) H) :
    xW l x d mc ms mWE_makeLengths n0 Q cl 42 [some (.ref r0), some (.ref r1), some (.int v2), some (.ref r3), some (.int v4), some (.int v5)] [] H uc us := by
  exact xs_vret rfl rfl h.1 h.2.1 h.2.2

set_option maxRecDepth 20000 in
theorem b_WE_sortSymbols_0 {l : Launch} {x : xX} {d mc ms n0 uc us : Nat} {Q : xO → xH → Prop} {cl : Bool} {r0 : Nat} {r1 : Nat} {H : xH}
    (h : ∃ c1, H[(r0 : Nat)]? = some (.inr (10, c1)) ∧ 2 < c1.length ∧ (∀ H2 : xH, H2 = H.set r0 (.inr (10, c1.set 2 (.int 0))) → xW l x d mc ms mWE_sortSymbols n0 Q false 5 [some (.ref r0), some (.ref r1), some (.int 0), none, none] [] H2 uc us)) :
    xW l x d mc ms mWE_sortSymbols n0 Q cl 0 [some (.ref r0), some (.ref r1), none, none, none] [] H uc us := by
  refine xs_aload_n rfl rfl ?_
  refine xs_iconstV (v := 0) rfl rfl ?_
  obtain ⟨c1, h1, h2, h⟩ := h
  refine xs_putf rfl fl_10_38 h1 (fun q hq => by cases hq; rfl) rfl h2 ?_
  have h := h _ rfl
  generalize H.set r0 (.inr (10, c1.set 2 (.int 0))) = H2 at h ⊢
  refine xs_iconstV (v := 0) rfl rfl ?_
  refine xs_istore_n rfl (L' := [some (.ref r0), some (.ref r1), some (.int 0), none, none]) rfl rfl ?_
  exact h

set_option maxRecDepth 20000 in
theorem b_WE_sortSymbols_5 {l : Launch} {x : xX} {d mc ms n0 uc us : Nat} {Q : xO → xH → Prop} {cl : Bool} {r0 : Nat} {r1 : Nat} {v2 : Int32} {H : xH}
    (h : ∃ (t1 : Nat) (w2 : vp_A), H[(r1 : Nat)]? = some (.inl (t1, w2)) ∧ t1 < 4 ∧ (((Int32.ofNat w2.1) ≤ v2 → uc = mc ∧ us ≤ ms ∧ Q (.inl none) H) ∧ (¬ (Int32.ofNat w2.1) ≤ v2 → ∃ n3 f4, H[(r1 : Nat)]? = some (.inl (0, n3, .inl f4)) ∧ vp_in v2 n3 ∧ (((f4 v2.toNatClampNeg) ≤ 0 → xW l x d mc ms mWE_sortSymbols n0 Q cl 5 [some (.ref r0), some (.ref r1), some (.int (v2 + 1)), some (.int (f4 v2.toNatClampNeg)), none] [] H uc us) ∧ (¬ (f4 v2.toNatClampNeg) ≤ 0 → ∃ a5, gI H r0 10 2 a5 ∧ (xW l x d mc ms mWE_sortSymbols n0 Q cl 18 [some (.ref r0), some (.ref r1), some (.int v2), some (.int (f4 v2.toNatClampNeg)), some (.int a5)] [] H uc us)))))) :
    xW l x d mc ms mWE_sortSymbols n0 Q cl 5 [some (.ref r0), some (.ref r1), some (.int v2), none, none] [] H uc us := by
  refine xs_iload_n rfl rfl ?_
  refine xs_aload_n rfl rfl ?_
  obtain ⟨t1, w2, h1, h2, h⟩ := h
  refine xs_alen rfl h1 h2 ?_
  refine xs_icmp_ge (k' := 68) rfl rfl (fun hb => ?_) (fun hb => ?_)
  · have h := h.1 hb
    exact xs_vret rfl rfl h.1 h.2.1 h.2.2
  · have h := h.2 hb
    refine xs_aload_n rfl rfl ?_
    refine xs_iload_n rfl rfl ?_
    obtain ⟨n3, f4, h1, h2, h⟩ := h
    refine xs_iald rfl h1 h2 ?_
    refine xs_istore_n rfl (L' := [some (.ref r0), some (.ref r1), some (.int v2), some (.int (f4 v2.toNatClampNeg)), none]) rfl rfl ?_
    refine xs_iload_n rfl rfl ?_
    refine xs_if_le (k' := 66) rfl rfl (fun hb => ?_) (fun hb => ?_)
    · have h := h.1 hb
      refine xs_iincV rfl (w := 1) rfl rfl (L' := [some (.ref r0), some (.ref r1), some (.int (v2 + 1)), some (.int (f4 v2.toNatClampNeg)), none]) rfl rfl ?_
      refine xs_goto (k' := 5) rfl rfl ?_
      exact h
    · have h := h.2 hb
      refine xs_aload_n rfl rfl ?_
      obtain ⟨a5, ⟨_, h1, h2⟩, h⟩ := h
      refine xs_getf rfl fl_10_38 h1 h2 ?_
      refine xs_istore rfl (L' := [some (.ref r0), some (.ref r1), some (.int v2), some (.int (f4 v2.toNatClampNeg)), some (.int a5)]) rfl rfl ?_
      exact h

set_option maxRecDepth 20000 in
theorem b_WE_sortSymbols_18 {l : Launch} {x : xX} {d mc ms n0 uc us : Nat} {Q : xO → xH → Prop} {cl : Bool} {r0 : Nat} {r1 : Nat} {v2 : Int32} {v3 : Int32} {v4 : Int32} {H : xH}
    (h : (v4 ≤ 0 → ∃ p1, gR H r0 10 1 p1 ∧ (∃ n2 f3, H[(p1 : Nat)]? = some (.inl (0, n2, .inl f3)) ∧ 2 ≤ p1 ∧ vp_in v4 n2 ∧ (∀ H4 : xH, H4 = H.set p1 (.inl (0, n2, .inl (upd f3 (v4.toNatClampNeg) (v3)))) → ∃ p5, gR H4 r0 10 0 p5 ∧ (∃ n6 f7, H4[(p5 : Nat)]? = some (.inl (0, n6, .inl f7)) ∧ 2 ≤ p5 ∧ vp_in v4 n6 ∧ (∀ H8 : xH, H8 = H4.set p5 (.inl (0, n6, .inl (upd f7 (v4.toNatClampNeg) (v2)))) → ∃ a9, gI H8 r0 10 2 a9 ∧ (∃ c10, H8[(r0 : Nat)]? = some (.inr (10, c10)) ∧ 2 < c10.length ∧ (∀ H11 : xH, H11 = H8.set r0 (.inr (10, c10.set 2 (.int (a9 + 1)))) → xW l x d mc ms mWE_sortSymbols n0 Q false 5 [some (.ref r0), some (.ref r1), some (.int (v2 + 1)), some (.int v3), some (.int v4)] [] H11 uc us))))))) ∧ (¬ v4 ≤ 0 → ∃ p12, gR H r0 10 1 p12 ∧ (∃ n13 f14, H[(p12 : Nat)]? = some (.inl (0, n13, .inl f14)) ∧ vp_in (v4 - 1) n13 ∧ (((f14 (v4 - 1).toNatClampNeg) ≤ v3 → ∃ p15, gR H r0 10 1 p15 ∧ (∃ n16 f17, H[(p15 : Nat)]? = some (.inl (0, n16, .inl f17)) ∧ 2 ≤ p15 ∧ vp_in v4 n16 ∧ (∀ H18 : xH, H18 = H.set p15 (.inl (0, n16, .inl (upd f17 (v4.toNatClampNeg) (v3)))) → ∃ p19, gR H18 r0 10 0 p19 ∧ (∃ n20 f21, H18[(p19 : Nat)]? = some (.inl (0, n20, .inl f21)) ∧ 2 ≤ p19 ∧ vp_in v4 n20 ∧ (∀ H22 : xH, H22 = H18.set p19 (.inl (0, n20, .inl (upd f21 (v4.toNatClampNeg) (v2)))) → ∃ a23, gI H22 r0 10 2 a23 ∧ (∃ c24, H22[(r0 : Nat)]? = some (.inr (10, c24)) ∧ 2 < c24.length ∧ (∀ H25 : xH, H25 = H22.set r0 (.inr (10, c24.set 2 (.int (a23 + 1)))) → xW l x d mc ms mWE_sortSymbols n0 Q false 5 [some (.ref r0), some (.ref r1), some (.int (v2 + 1)), some (.int v3), some (.int v4)] [] H25 uc us))))))) ∧ (¬ (f14 (v4 - 1).toNatClampNeg) ≤ v3 → ∃ p26, gR H r0 10 1 p26 ∧ (∃ p27, gR H r0 10 1 p27 ∧ (∃ n28 f29, H[(p27 : Nat)]? = some (.inl (0, n28, .inl f29)) ∧ vp_in (v4 - 1) n28 ∧ (∃ n30 f31, H[(p26 : Nat)]? = some (.inl (0, n30, .inl f31)) ∧ 2 ≤ p26 ∧ vp_in v4 n30 ∧ (∀ H32 : xH, H32 = H.set p26 (.inl (0, n30, .inl (upd f31 (v4.toNatClampNeg) ((f29 (v4 - 1).toNatClampNeg))))) → ∃ p33, gR H32 r0 10 0 p33 ∧ (∃ p34, gR H32 r0 10 0 p34 ∧ (∃ n35 f36, H32[(p34 : Nat)]? = some (.inl (0, n35, .inl f36)) ∧ vp_in (v4 - 1) n35 ∧ (∃ n37 f38, H32[(p33 : Nat)]? = some (.inl (0, n37, .inl f38)) ∧ 2 ≤ p33 ∧ vp_in v4 n37 ∧ (∀ H39 : xH, H39 = H32.set p33 (.inl (0, n37, .inl (upd f38 (v4.toNatClampNeg) ((f36 (v4 - 1).toNatClampNeg))))) → xW l x d mc ms mWE_sortSymbols n0 Q false 18 [some (.ref r0), some (.ref r1), some (.int v2), some (.int v3), some (.int (v4 + (-1)))] [] H39 uc us))))))))))))) :
    xW l x d mc ms mWE_sortSymbols n0 Q cl 18 [some (.ref r0), some (.ref r1), some (.int v2), some (.int v3), some (.int v4)] [] H uc us := by
  refine xs_iload rfl rfl ?_
  refine xs_if_le (k' := 50) rfl rfl (fun hb => ?_) (fun hb => ?_)
  · have h := h.1 hb
    refine xs_aload_n rfl rfl ?_
    obtain ⟨p1, ⟨_, h1, h2⟩, h⟩ := h
    refine xs_getf rfl fl_10_15 h1 h2 ?_
    refine xs_iload rfl rfl ?_
    refine xs_iload_n rfl rfl ?_
    obtain ⟨n2, f3, h1, h3, h2, h⟩ := h
    refine xs_iast rfl h1 h3 h2 ?_
    have h := h _ rfl
    generalize H.set p1 (.inl (0, n2, .inl (upd f3 (v4.toNatClampNeg) (v3)))) = H4 at h ⊢
    refine xs_aload_n rfl rfl ?_
    obtain ⟨p5, ⟨_, h1, h2⟩, h⟩ := h
    refine xs_getf rfl fl_10_9 h1 h2 ?_
    refine xs_iload rfl rfl ?_
    refine xs_iload_n rfl rfl ?_
    obtain ⟨n6, f7, h1, h3, h2, h⟩ := h
    refine xs_iast rfl h1 h3 h2 ?_
    have h := h _ rfl
    generalize H4.set p5 (.inl (0, n6, .inl (upd f7 (v4.toNatClampNeg) (v2)))) = H8 at h ⊢
    refine xs_aload_n rfl rfl ?_
    refine xs_dup rfl rfl ?_
    obtain ⟨a9, ⟨_, h1, h2⟩, h⟩ := h
    refine xs_getf rfl fl_10_38 h1 h2 ?_
    refine xs_iconstV (v := 1) rfl rfl ?_
    refine xs_iadd rfl ?_
    obtain ⟨c10, h1, h2, h⟩ := h
    refine xs_putf rfl fl_10_38 h1 (fun q hq => by cases hq; rfl) rfl h2 ?_
    have h := h _ rfl
    generalize H8.set r0 (.inr (10, c10.set 2 (.int (a9 + 1)))) = H11 at h ⊢
    refine xs_iincV rfl (w := 1) rfl rfl (L' := [some (.ref r0), some (.ref r1), some (.int (v2 + 1)), some (.int v3), some (.int v4)]) rfl rfl ?_
    refine xs_goto (k' := 5) rfl rfl ?_
    exact h
  · have h := h.2 hb
    refine xs_aload_n rfl rfl ?_
    obtain ⟨p12, ⟨_, h1, h2⟩, h⟩ := h
    refine xs_getf rfl fl_10_15 h1 h2 ?_
    refine xs_iload rfl rfl ?_
    refine xs_iconstV (v := 1) rfl rfl ?_
    refine xs_isub rfl ?_
    obtain ⟨n13, f14, h1, h2, h⟩ := h
    refine xs_iald rfl h1 h2 ?_
    refine xs_iload_n rfl rfl ?_
    refine xs_icmp_le (k' := 50) rfl rfl (fun hb => ?_) (fun hb => ?_)
    · have h := h.1 hb
      refine xs_aload_n rfl rfl ?_
      obtain ⟨p15, ⟨_, h1, h2⟩, h⟩ := h
      refine xs_getf rfl fl_10_15 h1 h2 ?_
      refine xs_iload rfl rfl ?_
      refine xs_iload_n rfl rfl ?_
      obtain ⟨n16, f17, h1, h3, h2, h⟩ := h
      refine xs_iast rfl h1 h3 h2 ?_
      have h := h _ rfl
      generalize H.set p15 (.inl (0, n16, .inl (upd f17 (v4.toNatClampNeg) (v3)))) = H18 at h ⊢
      refine xs_aload_n rfl rfl ?_
      obtain ⟨p19, ⟨_, h1, h2⟩, h⟩ := h
      refine xs_getf rfl fl_10_9 h1 h2 ?_
      refine xs_iload rfl rfl ?_
      refine xs_iload_n rfl rfl ?_
      obtain ⟨n20, f21, h1, h3, h2, h⟩ := h
      refine xs_iast rfl h1 h3 h2 ?_
      have h := h _ rfl
      generalize H18.set p19 (.inl (0, n20, .inl (upd f21 (v4.toNatClampNeg) (v2)))) = H22 at h ⊢
      refine xs_aload_n rfl rfl ?_
      refine xs_dup rfl rfl ?_
      obtain ⟨a23, ⟨_, h1, h2⟩, h⟩ := h
      refine xs_getf rfl fl_10_38 h1 h2 ?_
      refine xs_iconstV (v := 1) rfl rfl ?_
      refine xs_iadd rfl ?_
      obtain ⟨c24, h1, h2, h⟩ := h
      refine xs_putf rfl fl_10_38 h1 (fun q hq => by cases hq; rfl) rfl h2 ?_
      have h := h _ rfl
      generalize H22.set r0 (.inr (10, c24.set 2 (.int (a23 + 1)))) = H25 at h ⊢
      refine xs_iincV rfl (w := 1) rfl rfl (L' := [some (.ref r0), some (.ref r1), some (.int (v2 + 1)), some (.int v3), some (.int v4)]) rfl rfl ?_
      refine xs_goto (k' := 5) rfl rfl ?_
      exact h
    · have h := h.2 hb
      refine xs_aload_n rfl rfl ?_
      obtain ⟨p26, ⟨_, h1, h2⟩, h⟩ := h
      refine xs_getf rfl fl_10_15 h1 h2 ?_
      refine xs_iload rfl rfl ?_
      refine xs_aload_n rfl rfl ?_
      obtain ⟨p27, ⟨_, h1, h2⟩, h⟩ := h
      refine xs_getf rfl fl_10_15 h1 h2 ?_
      refine xs_iload rfl rfl ?_
      refine xs_iconstV (v := 1) rfl rfl ?_
      refine xs_isub rfl ?_
      obtain ⟨n28, f29, h1, h2, h⟩ := h
      refine xs_iald rfl h1 h2 ?_
      obtain ⟨n30, f31, h1, h3, h2, h⟩ := h
      refine xs_iast rfl h1 h3 h2 ?_
      have h := h _ rfl
      generalize H.set p26 (.inl (0, n30, .inl (upd f31 (v4.toNatClampNeg) ((f29 (v4 - 1).toNatClampNeg))))) = H32 at h ⊢
      refine xs_aload_n rfl rfl ?_
      obtain ⟨p33, ⟨_, h1, h2⟩, h⟩ := h
      refine xs_getf rfl fl_10_9 h1 h2 ?_
      refine xs_iload rfl rfl ?_
      refine xs_aload_n rfl rfl ?_
      obtain ⟨p34, ⟨_, h1, h2⟩, h⟩ := h
      refine xs_getf rfl fl_10_9 h1 h2 ?_
      refine xs_iload rfl rfl ?_
      refine xs_iconstV (v := 1) rfl rfl ?_
      refine xs_isub rfl ?_
      obtain ⟨n35, f36, h1, h2, h⟩ := h
      refine xs_iald rfl h1 h2 ?_
      obtain ⟨n37, f38, h1, h3, h2, h⟩ := h
      refine xs_iast rfl h1 h3 h2 ?_
      have h := h _ rfl
      generalize H32.set p33 (.inl (0, n37, .inl (upd f38 (v4.toNatClampNeg) ((f36 (v4 - 1).toNatClampNeg))))) = H39 at h ⊢
      refine xs_iincV rfl (w := (-1)) rfl rfl (L' := [some (.ref r0), some (.ref r1), some (.int v2), some (.int v3), some (.int (v4 + (-1)))]) rfl rfl ?_
      refine xs_goto (k' := 18) rfl rfl ?_
      exact h

set_option maxRecDepth 20000 in
theorem b_WE_makeRow_0 {l : Launch} {x : xX} {d mc ms n0 uc us : Nat} {Q : xO → xH → Prop} {cl : Bool} {r0 : Nat} {v1 : Int32} {v2 : Int32} {H : xH}
    (h : ∃ a1, gI H r0 10 2 a1 ∧ (xW l x d mc ms mWE_makeRow n0 Q cl 11 [some (.ref r0), some (.int v1), some (.int v2), some (.int (a1 + v2)), some (.int 0), some (.int 0), some (.int 0), none, none] [] H uc us)) :
    xW l x d mc ms mWE_makeRow n0 Q cl 0 [some (.ref r0), some (.int v1), some (.int v2), none, none, none, none, none, none] [] H uc us := by
  refine xs_aload_n rfl rfl ?_
  obtain ⟨a1, ⟨_, h1, h2⟩, h⟩ := h
  refine xs_getf rfl fl_10_38 h1 h2 ?_
  refine xs_iload_n rfl rfl ?_
  refine xs_iadd rfl ?_
  refine xs_istore_n rfl (L' := [some (.ref r0), some (.int v1), some (.int v2), some (.int (a1 + v2)), none, none, none, none, none]) rfl rfl ?_
  refine xs_iconstV (v := 0) rfl rfl ?_
  refine xs_istore rfl (L' := [some (.ref r0), some (.int v1), some (.int v2), some (.int (a1 + v2)), some (.int 0), none, none, none, none]) rfl rfl ?_
  refine xs_iconstV (v := 0) rfl rfl ?_
  refine xs_istore rfl (L' := [some (.ref r0), some (.int v1), some (.int v2), some (.int (a1 + v2)), some (.int 0), some (.int 0), none, none, none]) rfl rfl ?_
  refine xs_iconstV (v := 0) rfl rfl ?_
  refine xs_istore rfl (L' := [some (.ref r0), some (.int v1), some (.int v2), some (.int (a1 + v2)), some (.int 0), some (.int 0), some (.int 0), none, none]) rfl rfl ?_
  exact h

set_option maxRecDepth 20000 in
theorem b_WE_makeRow_11 {l : Launch} {x : xX} {d mc ms n0 uc us : Nat} {Q : xO → xH → Prop} {cl : Bool} {r0 : Nat} {v1 : Int32} {v2 : Int32} {v3 : Int32} {v4 : Int32} {v5 : Int32} {v6 : Int32} {H : xH}
    (h : (v3 ≤ v6 → ∃ p1, gR H r0 10 3 p1 ∧ (∃ p2, gR H r0 10 4 p2 ∧ (∃ c3, H[(r0 : Nat)]? = some (.inr (10, c3)) ∧ 3 < c3.length ∧ (∀ H4 : xH, H4 = H.set r0 (.inr (10, c3.set 3 (.ref p2))) → ∃ c5, H4[(r0 : Nat)]? = some (.inr (10, c5)) ∧ 4 < c5.length ∧ (∀ H6 : xH, H6 = H4.set r0 (.inr (10, c5.set 4 (.ref p1))) → uc = mc ∧ us ≤ ms ∧ Q (.inl (some (.int v3))) H6))))) ∧ (¬ v3 ≤ v6 → (v2 ≤ v5 → (v2 ≤ v5 → xW l x d mc ms mWE_makeRow n0 Q cl 51 [some (.ref r0), some (.int v1), some (.int v2), some (.int v3), some (.int v4), some (.int v5), some (.int v6), some (.int 0), none] [.int 1] H uc us) ∧ (¬ v2 ≤ v5 → ∃ a7, gI H r0 10 2 a7 ∧ ((a7 ≤ v4 → xW l x d mc ms mWE_makeRow n0 Q cl 51 [some (.ref r0), some (.int v1), some (.int v2), some (.int v3), some (.int v4), some (.int v5), some (.int v6), some (.int 0), none] [.int 0] H uc us) ∧ (¬ a7 ≤ v4 → ∃ p8, gR H r0 10 1 p8 ∧ (∃ n9 f10, H[(p8 : Nat)]? = some (.inl (0, n9, .inl f10)) ∧ vp_in v4 n9 ∧ ((0 < (f10 v4.toNatClampNeg) → xW l x d mc ms mWE_makeRow n0 Q cl 51 [some (.ref r0), some (.int v1), some (.int v2), some (.int v3), some (.int v4), some (.int v5), some (.int v6), some (.int 0), none] [.int 0] H uc us) ∧ (¬ 0 < (f10 v4.toNatClampNeg) → xW l x d mc ms mWE_makeRow n0 Q cl 51 [some (.ref r0), some (.int v1), some (.int v2), some (.int v3), some (.int v4), some (.int v5), some (.int v6), some (.int 0), none] [.int 1] H uc us))))))) ∧ (¬ v2 ≤ v5 → ∃ p11, gR H r0 10 3 p11 ∧ (∃ n12 f13, H[(p11 : Nat)]? = some (.inl (0, n12, .inl f13)) ∧ vp_in ((2 : Int32) * v5) n12 ∧ (∃ p14, gR H r0 10 3 p14 ∧ (∃ n15 f16, H[(p14 : Nat)]? = some (.inl (0, n15, .inl f16)) ∧ vp_in (((2 : Int32) * v5) + 1) n15 ∧ ((v2 ≤ v5 → xW l x d mc ms mWE_makeRow n0 Q cl 51 [some (.ref r0), some (.int v1), some (.int v2), some (.int v3), some (.int v4), some (.int v5), some (.int v6), some (.int ((f13 ((2 : Int32) * v5).toNatClampNeg) + (f16 (((2 : Int32) * v5) + 1).toNatClampNeg))), none] [.int 1] H uc us) ∧ (¬ v2 ≤ v5 → ∃ a17, gI H r0 10 2 a17 ∧ ((a17 ≤ v4 → xW l x d mc ms mWE_makeRow n0 Q cl 51 [some (.ref r0), some (.int v1), some (.int v2), some (.int v3), some (.int v4), some (.int v5), some (.int v6), some (.int ((f13 ((2 : Int32) * v5).toNatClampNeg) + (f16 (((2 : Int32) * v5) + 1).toNatClampNeg))), none] [.int 0] H uc us) ∧ (¬ a17 ≤ v4 → ∃ p18, gR H r0 10 1 p18 ∧ (∃ n19 f20, H[(p18 : Nat)]? = some (.inl (0, n19, .inl f20)) ∧ vp_in v4 n19 ∧ ((((f13 ((2 : Int32) * v5).toNatClampNeg) + (f16 (((2 : Int32) * v5) + 1).toNatClampNeg)) < (f20 v4.toNatClampNeg) → xW l x d mc ms mWE_makeRow n0 Q cl 51 [some (.ref r0), some (.int v1), some (.int v2), some (.int v3), some (.int v4), some (.int v5), some (.int v6), some (.int ((f13 ((2 : Int32) * v5).toNatClampNeg) + (f16 (((2 : Int32) * v5) + 1).toNatClampNeg))), none] [.int 0] H uc us) ∧ (¬ ((f13 ((2 : Int32) * v5).toNatClampNeg) + (f16 (((2 : Int32) * v5) + 1).toNatClampNeg)) < (f20 v4.toNatClampNeg) → xW l x d mc ms mWE_makeRow n0 Q cl 51 [some (.ref r0), some (.int v1), some (.int v2), some (.int v3), some (.int v4), some (.int v5), some (.int v6), some (.int ((f13 ((2 : Int32) * v5).toNatClampNeg) + (f16 (((2 : Int32) * v5) + 1).toNatClampNeg))), none] [.int 1] H uc us))))))))))))) :
    xW l x d mc ms mWE_makeRow n0 Q cl 11 [some (.ref r0), some (.int v1), some (.int v2), some (.int v3), some (.int v4), some (.int v5), some (.int v6), none, none] [] H uc us := by
  refine xs_iload rfl rfl ?_
  refine xs_iload_n rfl rfl ?_
  refine xs_icmp_ge (k' := 81) rfl rfl (fun hb => ?_) (fun hb => ?_)
  · have h := h.1 hb
    refine xs_aload_n rfl rfl ?_
    obtain ⟨p1, ⟨_, h1, h2⟩, h⟩ := h
    refine xs_getf rfl fl_10_18 h1 h2 ?_
    refine xs_astore rfl (L' := [some (.ref r0), some (.int v1), some (.int v2), some (.int v3), some (.int v4), some (.int v5), some (.ref p1), none, none]) rfl rfl ?_
    refine xs_aload_n rfl rfl ?_
    refine xs_aload_n rfl rfl ?_
    obtain ⟨p2, ⟨_, h1, h2⟩, h⟩ := h
    refine xs_getf rfl fl_10_21 h1 h2 ?_
    obtain ⟨c3, h1, h2, h⟩ := h
    refine xs_putf rfl fl_10_18 h1 (fun q hq => by cases hq; rfl) rfl h2 ?_
    have h := h _ rfl
    generalize H.set r0 (.inr (10, c3.set 3 (.ref p2))) = H4 at h ⊢
    refine xs_aload_n rfl rfl ?_
    refine xs_aload rfl rfl ?_
    obtain ⟨c5, h1, h2, h⟩ := h
    refine xs_putf rfl fl_10_21 h1 (fun q hq => by cases hq; rfl) rfl h2 ?_
    have h := h _ rfl
    generalize H4.set r0 (.inr (10, c5.set 4 (.ref p1))) = H6 at h ⊢
    refine xs_iload_n rfl rfl ?_
    exact xs_iret rfl rfl h.1 h.2.1 h.2.2
  · have h := h.2 hb
    refine xs_iload rfl rfl ?_
    refine xs_iload_n rfl rfl ?_
    refine xs_icmp_ge (k' := 33) rfl rfl (fun hb => ?_) (fun hb => ?_)
    · have h := h.1 hb
      refine xs_iconstV (v := 0) rfl rfl ?_
      refine xs_istore rfl (L' := [some (.ref r0), some (.int v1), some (.int v2), some (.int v3), some (.int v4), some (.int v5), some (.int v6), some (.int 0), none]) rfl rfl ?_
      refine xs_iload rfl rfl ?_
      refine xs_iload_n rfl rfl ?_
      refine xs_icmp_ge (k' := 48) rfl rfl (fun hb => ?_) (fun hb => ?_)
      · have h := h.1 hb
        refine xs_iconstV (v := 1) rfl rfl ?_
        refine xs_goto (k' := 51) rfl rfl ?_
        exact h
      · have h := h.2 hb
        refine xs_iload rfl rfl ?_
        refine xs_aload_n rfl rfl ?_
        obtain ⟨a7, ⟨_, h1, h2⟩, h⟩ := h
        refine xs_getf rfl fl_10_38 h1 h2 ?_
        refine xs_icmp_ge (k' := 50) rfl rfl (fun hb => ?_) (fun hb => ?_)
        · have h := h.1 hb
          refine xs_iconstV (v := 0) rfl rfl ?_
          exact h
        · have h := h.2 hb
          refine xs_aload_n rfl rfl ?_
          obtain ⟨p8, ⟨_, h1, h2⟩, h⟩ := h
          refine xs_getf rfl fl_10_15 h1 h2 ?_
          refine xs_iload rfl rfl ?_
          obtain ⟨n9, f10, h1, h2, h⟩ := h
          refine xs_iald rfl h1 h2 ?_
          refine xs_iload rfl rfl ?_
          refine xs_icmp_gt (k' := 50) rfl rfl (fun hb => ?_) (fun hb => ?_)
          · have h := h.1 hb
            refine xs_iconstV (v := 0) rfl rfl ?_
            exact h
          · have h := h.2 hb
            refine xs_iconstV (v := 1) rfl rfl ?_
            refine xs_goto (k' := 51) rfl rfl ?_
            exact h
    · have h := h.2 hb
      refine xs_aload_n rfl rfl ?_
      obtain ⟨p11, ⟨_, h1, h2⟩, h⟩ := h
      refine xs_getf rfl fl_10_18 h1 h2 ?_
      refine xs_iconstV (v := 2) rfl rfl ?_
      refine xs_iload rfl rfl ?_
      refine xs_imul rfl ?_
      obtain ⟨n12, f13, h1, h2, h⟩ := h
      refine xs_iald rfl h1 h2 ?_
      refine xs_aload_n rfl rfl ?_
      obtain ⟨p14, ⟨_, h1, h2⟩, h⟩ := h
      refine xs_getf rfl fl_10_18 h1 h2 ?_
      refine xs_iconstV (v := 2) rfl rfl ?_
      refine xs_iload rfl rfl ?_
      refine xs_imul rfl ?_
      refine xs_iconstV (v := 1) rfl rfl ?_
      refine xs_iadd rfl ?_
      obtain ⟨n15, f16, h1, h2, h⟩ := h
      refine xs_iald rfl h1 h2 ?_
      refine xs_iadd rfl ?_
      refine xs_goto (k' := 34) rfl rfl ?_
      refine xs_istore rfl (L' := [some (.ref r0), some (.int v1), some (.int v2), some (.int v3), some (.int v4), some (.int v5), some (.int v6), some (.int ((f13 ((2 : Int32) * v5).toNatClampNeg) + (f16 (((2 : Int32) * v5) + 1).toNatClampNeg))), none]) rfl rfl ?_
      refine xs_iload rfl rfl ?_
      refine xs_iload_n rfl rfl ?_
      refine xs_icmp_ge (k' := 48) rfl rfl (fun hb => ?_) (fun hb => ?_)
      · have h := h.1 hb
        refine xs_iconstV (v := 1) rfl rfl ?_
        refine xs_goto (k' := 51) rfl rfl ?_
        exact h
      · have h := h.2 hb
        refine xs_iload rfl rfl ?_
        refine xs_aload_n rfl rfl ?_
        obtain ⟨a17, ⟨_, h1, h2⟩, h⟩ := h
        refine xs_getf rfl fl_10_38 h1 h2 ?_
        refine xs_icmp_ge (k' := 50) rfl rfl (fun hb => ?_) (fun hb => ?_)
        · have h := h.1 hb
          refine xs_iconstV (v := 0) rfl rfl ?_
          exact h
        · have h := h.2 hb
          refine xs_aload_n rfl rfl ?_
          obtain ⟨p18, ⟨_, h1, h2⟩, h⟩ := h
          refine xs_getf rfl fl_10_15 h1 h2 ?_
          refine xs_iload rfl rfl ?_
          obtain ⟨n19, f20, h1, h2, h⟩ := h
          refine xs_iald rfl h1 h2 ?_
          refine xs_iload rfl rfl ?_
          refine xs_icmp_gt (k' := 50) rfl rfl (fun hb => ?_) (fun hb => ?_)
          · have h := h.1 hb
            refine xs_iconstV (v := 0) rfl rfl ?_
            exact h
          · have h := h.2 hb
            refine xs_iconstV (v := 1) rfl rfl ?_
            refine xs_goto (k' := 51) rfl rfl ?_
            exact h

set_option maxRecDepth 20000 in
theorem b_WE_makeRow_51 {l : Launch} {x : xX} {d mc ms n0 uc us : Nat} {Q : xO → xH → Prop} {cl : Bool} {r0 : Nat} {v1 : Int32} {v2 : Int32} {v3 : Int32} {v4 : Int32} {v5 : Int32} {v6 : Int32} {v7 : Int32} {u0 : Int32} {H : xH}
    (h : ∃ p1, gR H r0 10 5 p1 ∧ (∃ n2 f3, H[(p1 : Nat)]? = some (.inl (3, n2, .inl f3)) ∧ vp_in ((v1 * 572) + v6) n2 ∧ (∀ H4 : xH, H4 = H.set p1 (.inl (3, n2, .inl (upd f3 (((v1 * 572) + v6).toNatClampNeg) (vp_nar .boolean (u0))))) → (u0 = 0 → ∃ p5, gR H4 r0 10 4 p5 ∧ (∃ n6 f7, H4[(p5 : Nat)]? = some (.inl (0, n6, .inl f7)) ∧ 2 ≤ p5 ∧ vp_in v6 n6 ∧ (∀ H8 : xH, H8 = H4.set p5 (.inl (0, n6, .inl (upd f7 (v6.toNatClampNeg) (v7)))) → xW l x d mc ms mWE_makeRow n0 Q false 79 [some (.ref r0), some (.int v1), some (.int v2), some (.int v3), some (.int v4), some (.int (v5 + 1)), some (.int v6), some (.int v7), some (.int u0)] [] H8 uc us))) ∧ (¬ u0 = 0 → ∃ p9, gR H4 r0 10 4 p9 ∧ (∃ p10, gR H4 r0 10 1 p10 ∧ (∃ n11 f12, H4[(p10 : Nat)]? = some (.inl (0, n11, .inl f12)) ∧ vp_in v4 n11 ∧ (∃ n13 f14, H4[(p9 : Nat)]? = some (.inl (0, n13, .inl f14)) ∧ 2 ≤ p9 ∧ vp_in v6 n13 ∧ (∀ H15 : xH, H15 = H4.set p9 (.inl (0, n13, .inl (upd f14 (v6.toNatClampNeg) ((f12 v4.toNatClampNeg))))) → xW l x d mc ms mWE_makeRow n0 Q false 79 [some (.ref r0), some (.int v1), some (.int v2), some (.int v3), some (.int (v4 + 1)), some (.int v5), some (.int v6), some (.int v7), some (.int u0)] [] H15 uc us)))))))) :
    xW l x d mc ms mWE_makeRow n0 Q cl 51 [some (.ref r0), some (.int v1), some (.int v2), some (.int v3), some (.int v4), some (.int v5), some (.int v6), some (.int v7), none] [.int u0] H uc us := by
  refine xs_istore rfl (L' := [some (.ref r0), some (.int v1), some (.int v2), some (.int v3), some (.int v4), some (.int v5), some (.int v6), some (.int v7), some (.int u0)]) rfl rfl ?_
  refine xs_aload_n rfl rfl ?_
  obtain ⟨p1, ⟨_, h1, h2⟩, h⟩ := h
  refine xs_getf rfl fl_10_24 h1 h2 ?_
  refine xs_iload_n rfl rfl ?_
  refine xs_sipushV (v := 572) rfl rfl ?_
  refine xs_imul rfl ?_
  refine xs_iload rfl rfl ?_
  refine xs_iadd rfl ?_
  refine xs_iload rfl rfl ?_
  obtain ⟨n2, f3, h1, h2, h⟩ := h
  refine xs_zast rfl h1 h2 ?_
  have h := h _ rfl
  generalize H.set p1 (.inl (3, n2, .inl (upd f3 (((v1 * 572) + v6).toNatClampNeg) (vp_nar .boolean (u0))))) = H4 at h ⊢
  refine xs_iload rfl rfl ?_
  refine xs_if_eq (k' := 73) rfl rfl (fun hb => ?_) (fun hb => ?_)
  · have h := h.1 hb
    refine xs_aload_n rfl rfl ?_
    obtain ⟨p5, ⟨_, h1, h2⟩, h⟩ := h
    refine xs_getf rfl fl_10_21 h1 h2 ?_
    refine xs_iload rfl rfl ?_
    refine xs_iload rfl rfl ?_
    obtain ⟨n6, f7, h1, h3, h2, h⟩ := h
    refine xs_iast rfl h1 h3 h2 ?_
    have h := h _ rfl
    generalize H4.set p5 (.inl (0, n6, .inl (upd f7 (v6.toNatClampNeg) (v7)))) = H8 at h ⊢
    refine xs_iincV rfl (w := 1) rfl rfl (L' := [some (.ref r0), some (.int v1), some (.int v2), some (.int v3), some (.int v4), some (.int (v5 + 1)), some (.int v6), some (.int v7), some (.int u0)]) rfl rfl ?_
    exact h
  · have h := h.2 hb
    refine xs_aload_n rfl rfl ?_
    obtain ⟨p9, ⟨_, h1, h2⟩, h⟩ := h
    refine xs_getf rfl fl_10_21 h1 h2 ?_
    refine xs_iload rfl rfl ?_
    refine xs_aload_n rfl rfl ?_
    obtain ⟨p10, ⟨_, h1, h2⟩, h⟩ := h
    refine xs_getf rfl fl_10_15 h1 h2 ?_
    refine xs_iload rfl rfl ?_
    obtain ⟨n11, f12, h1, h2, h⟩ := h
    refine xs_iald rfl h1 h2 ?_
    obtain ⟨n13, f14, h1, h3, h2, h⟩ := h
    refine xs_iast rfl h1 h3 h2 ?_
    have h := h _ rfl
    generalize H4.set p9 (.inl (0, n13, .inl (upd f14 (v6.toNatClampNeg) ((f12 v4.toNatClampNeg))))) = H15 at h ⊢
    refine xs_iincV rfl (w := 1) rfl rfl (L' := [some (.ref r0), some (.int v1), some (.int v2), some (.int v3), some (.int (v4 + 1)), some (.int v5), some (.int v6), some (.int v7), some (.int u0)]) rfl rfl ?_
    refine xs_goto (k' := 79) rfl rfl ?_
    exact h

set_option maxRecDepth 20000 in
theorem b_WE_makeRow_79 {l : Launch} {x : xX} {d mc ms n0 uc us : Nat} {Q : xO → xH → Prop} {cl : Bool} {r0 : Nat} {v1 : Int32} {v2 : Int32} {v3 : Int32} {v4 : Int32} {v5 : Int32} {v6 : Int32} {v7 : Int32} {v8 : Int32} {H : xH}
    (h : xW l x d mc ms mWE_makeRow n0 Q cl 11 [some (.ref r0), some (.int v1), some (.int v2), some (.int v3), some (.int v4), some (.int v5), some (.int (v6 + 1)), some (.int v7), some (.int v8)] [] H uc us) :
    xW l x d mc ms mWE_makeRow n0 Q cl 79 [some (.ref r0), some (.int v1), some (.int v2), some (.int v3), some (.int v4), some (.int v5), some (.int v6), some (.int v7), some (.int v8)] [] H uc us := by
  refine xs_iincV rfl (w := 1) rfl rfl (L' := [some (.ref r0), some (.int v1), some (.int v2), some (.int v3), some (.int v4), some (.int v5), some (.int (v6 + 1)), some (.int v7), some (.int v8)]) rfl rfl ?_
  refine xs_goto (k' := 11) rfl rfl ?_
  exact h

set_option maxRecDepth 20000 in
theorem b_WE_countSymbols_0 {l : Launch} {x : xX} {d mc ms n0 uc us : Nat} {Q : xO → xH → Prop} {cl : Bool} {r0 : Nat} {v1 : Int32} {r2 : Nat} {H : xH}
    (h : ∃ a1, gI H r0 10 2 a1 ∧ (xW l x d mc ms mWE_countSymbols n0 Q cl 11 [some (.ref r0), some (.int v1), some (.ref r2), some (.int (((2 : Int32) * a1) - 2)), some (.int (v1 - 1)), none, none] [] H uc us)) :
    xW l x d mc ms mWE_countSymbols n0 Q cl 0 [some (.ref r0), some (.int v1), some (.ref r2), none, none, none, none] [] H uc us := by
  refine xs_iconstV (v := 2) rfl rfl ?_
  refine xs_aload_n rfl rfl ?_
  obtain ⟨a1, ⟨_, h1, h2⟩, h⟩ := h
  refine xs_getf rfl fl_10_38 h1 h2 ?_
  refine xs_imul rfl ?_
  refine xs_iconstV (v := 2) rfl rfl ?_
  refine xs_isub rfl ?_
  refine xs_istore_n rfl (L' := [some (.ref r0), some (.int v1), some (.ref r2), some (.int (((2 : Int32) * a1) - 2)), none, none, none]) rfl rfl ?_
  refine xs_iload_n rfl rfl ?_
  refine xs_iconstV (v := 1) rfl rfl ?_
  refine xs_isub rfl ?_
  refine xs_istore rfl (L' := [some (.ref r0), some (.int v1), some (.ref r2), some (.int (((2 : Int32) * a1) - 2)), some (.int (v1 - 1)), none, none]) rfl rfl ?_
  exact h

set_option maxRecDepth 20000 in
theorem b_WE_countSymbols_11 {l : Launch} {x : xX} {d mc ms n0 uc us : Nat} {Q : xO → xH → Prop} {cl : Bool} {r0 : Nat} {v1 : Int32} {r2 : Nat} {v3 : Int32} {v4 : Int32} {H : xH}
    (h : (v4 < 0 → uc = mc ∧ us ≤ ms ∧ Q (.inl none) H) ∧ (¬ v4 < 0 → xW l x d mc ms mWE_countSymbols n0 Q cl 17 [some (.ref r0), some (.int v1), some (.ref r2), some (.int v3), some (.int v4), some (.int 0), some (.int 0)] [] H uc us)) :
    xW l x d mc ms mWE_countSymbols n0 Q cl 11 [some (.ref r0), some (.int v1), some (.ref r2), some (.int v3), some (.int v4), none, none] [] H uc us := by
  refine xs_iload rfl rfl ?_
  refine xs_if_lt (k' := 50) rfl rfl (fun hb => ?_) (fun hb => ?_)
  · have h := h.1 hb
    exact xs_vret rfl rfl h.1 h.2.1 h.2.2
  · have h := h.2 hb
    refine xs_iconstV (v := 0) rfl rfl ?_
    refine xs_istore rfl (L' := [some (.ref r0), some (.int v1), some (.ref r2), some (.int v3), some (.int v4), some (.int 0), none]) rfl rfl ?_
    refine xs_iconstV (v := 0) rfl rfl ?_
    refine xs_istore rfl (L' := [some (.ref r0), some (.int v1), some (.ref r2), some (.int v3), some (.int v4), some (.int 0), some (.int 0)]) rfl rfl ?_
    exact h

set_option maxRecDepth 20000 in
theorem b_WE_countSymbols_17 {l : Launch} {x : xX} {d mc ms n0 uc us : Nat} {Q : xO → xH → Prop} {cl : Bool} {r0 : Nat} {v1 : Int32} {r2 : Nat} {v3 : Int32} {v4 : Int32} {v5 : Int32} {v6 : Int32} {H : xH}
    (h : (v3 ≤ v6 → xW l x d mc ms mWE_countSymbols n0 Q cl 11 [some (.ref r0), some (.int v1), some (.ref r2), some (.int ((2 : Int32) * (v3 - v5))), some (.int (v4 + (-1))), some (.int v5), some (.int v6)] [] H uc us) ∧ (¬ v3 ≤ v6 → ∃ p1, gR H r0 10 5 p1 ∧ (∃ n2 f3, H[(p1 : Nat)]? = some (.inl (3, n2, .inl f3)) ∧ vp_in ((v4 * 572) + v6) n2 ∧ (((f3 ((v4 * 572) + v6).toNatClampNeg) = 0 → xW l x d mc ms mWE_countSymbols n0 Q cl 17 [some (.ref r0), some (.int v1), some (.ref r2), some (.int v3), some (.int v4), some (.int v5), some (.int (v6 + 1))] [] H uc us) ∧ (¬ (f3 ((v4 * 572) + v6).toNatClampNeg) = 0 → ∃ p4, gR H r0 10 0 p4 ∧ (∃ n5 f6, H[(p4 : Nat)]? = some (.inl (0, n5, .inl f6)) ∧ vp_in v5 n5 ∧ (∃ n7 f8, H[(r2 : Nat)]? = some (.inl (0, n7, .inl f8)) ∧ vp_in (f6 v5.toNatClampNeg) n7 ∧ (∃ n9 f10, H[(r2 : Nat)]? = some (.inl (0, n9, .inl f10)) ∧ 2 ≤ r2 ∧ vp_in (f6 v5.toNatClampNeg) n9 ∧ (∀ H11 : xH, H11 = H.set r2 (.inl (0, n9, .inl (upd f10 ((f6 v5.toNatClampNeg).toNatClampNeg) (((f8 (f6 v5.toNatClampNeg).toNatClampNeg) + 1))))) → xW l x d mc ms mWE_countSymbols n0 Q false 17 [some (.ref r0), some (.int v1), some (.ref r2), some (.int v3), some (.int v4), some (.int (v5 + 1)), some (.int (v6 + 1))] [] H11 uc us))))))))) :
    xW l x d mc ms mWE_countSymbols n0 Q cl 17 [some (.ref r0), some (.int v1), some (.ref r2), some (.int v3), some (.int v4), some (.int v5), some (.int v6)] [] H uc us := by
  refine xs_iload rfl rfl ?_
  refine xs_iload_n rfl rfl ?_
  refine xs_icmp_ge (k' := 42) rfl rfl (fun hb => ?_) (fun hb => ?_)
  · have h := h.1 hb
    refine xs_iconstV (v := 2) rfl rfl ?_
    refine xs_iload_n rfl rfl ?_
    refine xs_iload rfl rfl ?_
    refine xs_isub rfl ?_
    refine xs_imul rfl ?_
    refine xs_istore_n rfl (L' := [some (.ref r0), some (.int v1), some (.ref r2), some (.int ((2 : Int32) * (v3 - v5))), some (.int v4), some (.int v5), some (.int v6)]) rfl rfl ?_
    refine xs_iincV rfl (w := (-1)) rfl rfl (L' := [some (.ref r0), some (.int v1), some (.ref r2), some (.int ((2 : Int32) * (v3 - v5))), some (.int (v4 + (-1))), some (.int v5), some (.int v6)]) rfl rfl ?_
    refine xs_goto (k' := 11) rfl rfl ?_
    exact h
  · have h := h.2 hb
    refine xs_aload_n rfl rfl ?_
    obtain ⟨p1, ⟨_, h1, h2⟩, h⟩ := h
    refine xs_getf rfl fl_10_24 h1 h2 ?_
    refine xs_iload rfl rfl ?_
    refine xs_sipushV (v := 572) rfl rfl ?_
    refine xs_imul rfl ?_
    refine xs_iload rfl rfl ?_
    refine xs_iadd rfl ?_
    obtain ⟨n2, f3, h1, h2, h⟩ := h
    refine xs_zald rfl h1 h2 ?_
    refine xs_if_eq (k' := 40) rfl rfl (fun hb => ?_) (fun hb => ?_)
    · have h := h.1 hb
      refine xs_iincV rfl (w := 1) rfl rfl (L' := [some (.ref r0), some (.int v1), some (.ref r2), some (.int v3), some (.int v4), some (.int v5), some (.int (v6 + 1))]) rfl rfl ?_
      refine xs_goto (k' := 17) rfl rfl ?_
      exact h
    · have h := h.2 hb
      refine xs_aload_n rfl rfl ?_
      refine xs_aload_n rfl rfl ?_
      obtain ⟨p4, ⟨_, h1, h2⟩, h⟩ := h
      refine xs_getf rfl fl_10_9 h1 h2 ?_
      refine xs_iload rfl rfl ?_
      obtain ⟨n5, f6, h1, h2, h⟩ := h
      refine xs_iald rfl h1 h2 ?_
      refine xs_dup2 rfl rfl rfl ?_
      obtain ⟨n7, f8, h1, h2, h⟩ := h
      refine xs_iald rfl h1 h2 ?_
      refine xs_iconstV (v := 1) rfl rfl ?_
      refine xs_iadd rfl ?_
      obtain ⟨n9, f10, h1, h3, h2, h⟩ := h
      refine xs_iast rfl h1 h3 h2 ?_
      have h := h _ rfl
      generalize H.set r2 (.inl (0, n9, .inl (upd f10 ((f6 v5.toNatClampNeg).toNatClampNeg) (((f8 (f6 v5.toNatClampNeg).toNatClampNeg) + 1))))) = H11 at h ⊢
      refine xs_iincV rfl (w := 1) rfl rfl (L' := [some (.ref r0), some (.int v1), some (.ref r2), some (.int v3), some (.int v4), some (.int (v5 + 1)), some (.int v6)]) rfl rfl ?_
      refine xs_iincV rfl (w := 1) rfl rfl (L' := [some (.ref r0), some (.int v1), some (.ref r2), some (.int v3), some (.int v4), some (.int (v5 + 1)), some (.int (v6 + 1))]) rfl rfl ?_
      refine xs_goto (k' := 17) rfl rfl ?_
      exact h

set_option maxRecDepth 20000 in
theorem b_WC_manyWithCode_0 {l : Launch} {x : xX} {d mc ms n0 uc us : Nat} {Q : xO → xH → Prop} {cl : Bool} {r0 : Nat} {H : xH}
    (h : ∃ p1, gR H r0 11 0 p1 ∧ (∃ (t2 : Nat) (w3 : vp_A), H[(p1 : Nat)]? = some (.inl (t2, w3)) ∧ t2 < 4 ∧ (xW l x d mc ms mWC_manyWithCode n0 Q cl 4 [some (.ref r0), some (.int (Int32.ofNat w3.1))] [] H uc us))) :
    xW l x d mc ms mWC_manyWithCode n0 Q cl 0 [some (.ref r0), none] [] H uc us := by
  refine xs_aload_n rfl rfl ?_
  obtain ⟨p1, ⟨_, h1, h2⟩, h⟩ := h
  refine xs_getf rfl fl_11_15 h1 h2 ?_
  obtain ⟨t2, w3, h1, h2, h⟩ := h
  refine xs_alen rfl h1 h2 ?_
  refine xs_istore_n rfl (L' := [some (.ref r0), some (.int (Int32.ofNat w3.1))]) rfl rfl ?_
  exact h

set_option maxRecDepth 20000 in
theorem b_WC_manyWithCode_4 {l : Launch} {x : xX} {d mc ms n0 uc us : Nat} {Q : xO → xH → Prop} {cl : Bool} {r0 : Nat} {v1 : Int32} {H : xH}
    (h : (v1 ≤ 0 → uc = mc ∧ us ≤ ms ∧ Q (.inl (some (.int v1))) H) ∧ (¬ v1 ≤ 0 → ∃ p1, gR H r0 11 0 p1 ∧ (∃ n2 f3, H[(p1 : Nat)]? = some (.inl (0, n2, .inl f3)) ∧ vp_in (v1 - 1) n2 ∧ ((¬ (f3 (v1 - 1).toNatClampNeg) = 0 → uc = mc ∧ us ≤ ms ∧ Q (.inl (some (.int v1))) H) ∧ ((f3 (v1 - 1).toNatClampNeg) = 0 → xW l x d mc ms mWC_manyWithCode n0 Q cl 4 [some (.ref r0), some (.int (v1 + (-1)))] [] H uc us))))) :
    xW l x d mc ms mWC_manyWithCode n0 Q cl 4 [some (.ref r0), some (.int v1)] [] H uc us := by
  refine xs_iload_n rfl rfl ?_
  refine xs_if_le (k' := 15) rfl rfl (fun hb => ?_) (fun hb => ?_)
  · have h := h.1 hb
    refine xs_iload_n rfl rfl ?_
    exact xs_iret rfl rfl h.1 h.2.1 h.2.2
  · have h := h.2 hb
    refine xs_aload_n rfl rfl ?_
    obtain ⟨p1, ⟨_, h1, h2⟩, h⟩ := h
    refine xs_getf rfl fl_11_15 h1 h2 ?_
    refine xs_iload_n rfl rfl ?_
    refine xs_iconstV (v := 1) rfl rfl ?_
    refine xs_isub rfl ?_
    obtain ⟨n2, f3, h1, h2, h⟩ := h
    refine xs_iald rfl h1 h2 ?_
    refine xs_if_ne (k' := 15) rfl rfl (fun hb => ?_) (fun hb => ?_)
    · have h := h.1 hb
      refine xs_iload_n rfl rfl ?_
      exact xs_iret rfl rfl h.1 h.2.1 h.2.2
    · have h := h.2 hb
      refine xs_iincV rfl (w := (-1)) rfl rfl (L' := [some (.ref r0), some (.int (v1 + (-1)))]) rfl rfl ?_
      refine xs_goto (k' := 4) rfl rfl ?_
      exact h

set_option maxRecDepth 20000 in
theorem b_MC_tellRow_0 {l : Launch} {x : xX} {d mc ms n0 uc us : Nat} {Q : xO → xH → Prop} {cl : Bool} {r0 : Nat} {v1 : Int32} {H : xH}
    (h : ∃ c1, H[(r0 : Nat)]? = some (.inr (3, c1)) ∧ 8 < c1.length ∧ (∀ H2 : xH, H2 = H.set r0 (.inr (3, c1.set 8 (.int 0))) → xW l x d mc ms mMC_tellRow n0 Q false 7 [some (.ref r0), some (.int v1), some (.int 0), some (.int 1)] [] H2 uc us)) :
    xW l x d mc ms mMC_tellRow n0 Q cl 0 [some (.ref r0), some (.int v1), none, none] [] H uc us := by
  refine xs_aload_n rfl rfl ?_
  refine xs_iconstV (v := 0) rfl rfl ?_
  obtain ⟨c1, h1, h2, h⟩ := h
  refine xs_putf rfl fl_3_87 h1 (fun q hq => by cases hq; rfl) rfl h2 ?_
  have h := h _ rfl
  generalize H.set r0 (.inr (3, c1.set 8 (.int 0))) = H2 at h ⊢
  refine xs_iconstV (v := 0) rfl rfl ?_
  refine xs_istore_n rfl (L' := [some (.ref r0), some (.int v1), some (.int 0), none]) rfl rfl ?_
  refine xs_iconstV (v := 1) rfl rfl ?_
  refine xs_istore_n rfl (L' := [some (.ref r0), some (.int v1), some (.int 0), some (.int 1)]) rfl rfl ?_
  exact h

set_option maxRecDepth 20000 in
theorem b_MC_tellRow_7 {l : Launch} {x : xX} {d mc ms n0 uc us : Nat} {Q : xO → xH → Prop} {cl : Bool} {r0 : Nat} {v1 : Int32} {v2 : Int32} {v3 : Int32} {H : xH}
    (h : (v1 < v3 → uc = mc ∧ us ≤ ms ∧ Q (.inl none) H) ∧ (¬ v1 < v3 → (v3 = v1 → ∃ p1, gR H r0 3 4 p1 ∧ (∃ n2 f3, H[(p1 : Nat)]? = some (.inl (0, n2, .inl f3)) ∧ vp_in v2 n2 ∧ (xW l x d mc ms mMC_tellRow n0 Q cl 30 [some (.ref r0), some (.int v1), some (.int v2), some (.int v3)] [.int (v3 - v2), .int (f3 v2.toNatClampNeg), .ref r0] H uc us))) ∧ (¬ v3 = v1 → ∃ p4, gR H r0 3 4 p4 ∧ (∃ n5 f6, H[(p4 : Nat)]? = some (.inl (0, n5, .inl f6)) ∧ vp_in v3 n5 ∧ (∃ p7, gR H r0 3 4 p7 ∧ (∃ n8 f9, H[(p7 : Nat)]? = some (.inl (0, n8, .inl f9)) ∧ vp_in v2 n8 ∧ (((f6 v3.toNatClampNeg) = (f9 v2.toNatClampNeg) → xW l x d mc ms mMC_tellRow n0 Q cl 7 [some (.ref r0), some (.int v1), some (.int v2), some (.int (v3 + 1))] [] H uc us) ∧ (¬ (f6 v3.toNatClampNeg) = (f9 v2.toNatClampNeg) → ∃ p10, gR H r0 3 4 p10 ∧ (∃ n11 f12, H[(p10 : Nat)]? = some (.inl (0, n11, .inl f12)) ∧ vp_in v2 n11 ∧ (xW l x d mc ms mMC_tellRow n0 Q cl 30 [some (.ref r0), some (.int v1), some (.int v2), some (.int v3)] [.int (v3 - v2), .int (f12 v2.toNatClampNeg), .ref r0] H uc us)))))))))) :
    xW l x d mc ms mMC_tellRow n0 Q cl 7 [some (.ref r0), some (.int v1), some (.int v2), some (.int v3)] [] H uc us := by
  refine xs_iload_n rfl rfl ?_
  refine xs_iload_n rfl rfl ?_
  refine xs_icmp_gt (k' := 35) rfl rfl (fun hb => ?_) (fun hb => ?_)
  · have h := h.1 hb
    exact xs_vret rfl rfl h.1 h.2.1 h.2.2
  · have h := h.2 hb
    refine xs_iload_n rfl rfl ?_
    refine xs_iload_n rfl rfl ?_
    refine xs_icmp_eq (k' := 22) rfl rfl (fun hb => ?_) (fun hb => ?_)
    · have h := h.1 hb
      refine xs_aload_n rfl rfl ?_
      refine xs_aload_n rfl rfl ?_
      obtain ⟨p1, ⟨_, h1, h2⟩, h⟩ := h
      refine xs_getf rfl fl_3_33 h1 h2 ?_
      refine xs_iload_n rfl rfl ?_
      obtain ⟨n2, f3, h1, h2, h⟩ := h
      refine xs_iald rfl h1 h2 ?_
      refine xs_iload_n rfl rfl ?_
      refine xs_iload_n rfl rfl ?_
      refine xs_isub rfl ?_
      exact h
    · have h := h.2 hb
      refine xs_aload_n rfl rfl ?_
      obtain ⟨p4, ⟨_, h1, h2⟩, h⟩ := h
      refine xs_getf rfl fl_3_33 h1 h2 ?_
      refine xs_iload_n rfl rfl ?_
      obtain ⟨n5, f6, h1, h2, h⟩ := h
      refine xs_iald rfl h1 h2 ?_
      refine xs_aload_n rfl rfl ?_
      obtain ⟨p7, ⟨_, h1, h2⟩, h⟩ := h
      refine xs_getf rfl fl_3_33 h1 h2 ?_
      refine xs_iload_n rfl rfl ?_
      obtain ⟨n8, f9, h1, h2, h⟩ := h
      refine xs_iald rfl h1 h2 ?_
      refine xs_icmp_eq (k' := 33) rfl rfl (fun hb => ?_) (fun hb => ?_)
      · have h := h.1 hb
        refine xs_iincV rfl (w := 1) rfl rfl (L' := [some (.ref r0), some (.int v1), some (.int v2), some (.int (v3 + 1))]) rfl rfl ?_
        refine xs_goto (k' := 7) rfl rfl ?_
        exact h
      · have h := h.2 hb
        refine xs_aload_n rfl rfl ?_
        refine xs_aload_n rfl rfl ?_
        obtain ⟨p10, ⟨_, h1, h2⟩, h⟩ := h
        refine xs_getf rfl fl_3_33 h1 h2 ?_
        refine xs_iload_n rfl rfl ?_
        obtain ⟨n11, f12, h1, h2, h⟩ := h
        refine xs_iald rfl h1 h2 ?_
        refine xs_iload_n rfl rfl ?_
        refine xs_iload_n rfl rfl ?_
        refine xs_isub rfl ?_
        exact h

set_option maxRecDepth 20000 in
theorem b_MC_tellRow_31 {l : Launch} {x : xX} {d mc ms n0 uc us : Nat} {Q : xO → xH → Prop} {cl : Bool} {r0 : Nat} {v1 : Int32} {v2 : Int32} {v3 : Int32} {H : xH}
    (h : xW l x d mc ms mMC_tellRow n0 Q cl 7 [some (.ref r0), some (.int v1), some (.int v3), some (.int (v3 + 1))] [] H uc us) :
    xW l x d mc ms mMC_tellRow n0 Q cl 31 [some (.ref r0), some (.int v1), some (.int v2), some (.int v3)] [] H uc us := by
  refine xs_iload_n rfl rfl ?_
  refine xs_istore_n rfl (L' := [some (.ref r0), some (.int v1), some (.int v3), some (.int v3)]) rfl rfl ?_
  refine xs_iincV rfl (w := 1) rfl rfl (L' := [some (.ref r0), some (.int v1), some (.int v3), some (.int (v3 + 1))]) rfl rfl ?_
  refine xs_goto (k' := 7) rfl rfl ?_
  exact h

set_option maxRecDepth 20000 in
theorem b_MC_tellRun_0 {l : Launch} {x : xX} {d mc ms n0 uc us : Nat} {Q : xO → xH → Prop} {cl : Bool} {r0 : Nat} {v1 : Int32} {v2 : Int32} {H : xH}
    (h : (v1 = 0 → xW l x d mc ms mMC_tellRun n0 Q cl 9 [some (.ref r0), some (.int v1), some (.int v2), some (.int v2), none] [] H uc us) ∧ (¬ v1 = 0 → xW l x d mc ms mMC_tellRun n0 Q cl 7 [some (.ref r0), some (.int v1), some (.int v2), some (.int v2), none] [.int 0, .int v1, .ref r0] H uc us)) :
    xW l x d mc ms mMC_tellRun n0 Q cl 0 [some (.ref r0), some (.int v1), some (.int v2), none, none] [] H uc us := by
  refine xs_iload_n rfl rfl ?_
  refine xs_istore_n rfl (L' := [some (.ref r0), some (.int v1), some (.int v2), some (.int v2), none]) rfl rfl ?_
  refine xs_iload_n rfl rfl ?_
  refine xs_if_eq (k' := 9) rfl rfl (fun hb => ?_) (fun hb => ?_)
  · have h := h.1 hb
    exact h
  · have h := h.2 hb
    refine xs_aload_n rfl rfl ?_
    refine xs_iload_n rfl rfl ?_
    refine xs_iconstV (v := 0) rfl rfl ?_
    exact h

set_option maxRecDepth 20000 in
theorem b_MC_tellRun_8 {l : Launch} {x : xX} {d mc ms n0 uc us : Nat} {Q : xO → xH → Prop} {cl : Bool} {r0 : Nat} {v1 : Int32} {v2 : Int32} {v3 : Int32} {H : xH}
    (h : xW l x d mc ms mMC_tellRun n0 Q cl 9 [some (.ref r0), some (.int v1), some (.int v2), some (.int (v3 + (-1))), none] [] H uc us) :
    xW l x d mc ms mMC_tellRun n0 Q cl 8 [some (.ref r0), some (.int v1), some (.int v2), some (.int v3), none] [] H uc us := by
  refine xs_iincV rfl (w := (-1)) rfl rfl (L' := [some (.ref r0), some (.int v1), some (.int v2), some (.int (v3 + (-1))), none]) rfl rfl ?_
  exact h

set_option maxRecDepth 20000 in
theorem b_MC_tellRun_9 {l : Launch} {x : xX} {d mc ms n0 uc us : Nat} {Q : xO → xH → Prop} {cl : Bool} {r0 : Nat} {v1 : Int32} {v2 : Int32} {v3 : Int32} {H : xH}
    (h : (v3 < 3 → xW l x d mc ms mMC_tellRun n0 Q cl 58 [some (.ref r0), some (.int v1), some (.int v2), some (.int v3), some (.int 0)] [] H uc us) ∧ (¬ v3 < 3 → (v1 = 0 → (v3 < 11 → xW l x d mc ms mMC_tellRun n0 Q cl 52 [some (.ref r0), some (.int v1), some (.int v2), some (.int v3), none] [.int (v3 - 3), .int 17, .ref r0] H uc us) ∧ (¬ v3 < 11 → xW l x d mc ms mMC_tellRun n0 Q cl 34 [some (.ref r0), some (.int v1), some (.int v2), some (.int v3), none] [.int 138, .int v3] H uc us)) ∧ (¬ v1 = 0 → xW l x d mc ms mMC_tellRun n0 Q cl 16 [some (.ref r0), some (.int v1), some (.int v2), some (.int v3), none] [.int 6, .int v3] H uc us))) :
    xW l x d mc ms mMC_tellRun n0 Q cl 9 [some (.ref r0), some (.int v1), some (.int v2), some (.int v3), none] [] H uc us := by
  refine xs_iload_n rfl rfl ?_
  refine xs_iconstV (v := 3) rfl rfl ?_
  refine xs_icmp_lt (k' := 56) rfl rfl (fun hb => ?_) (fun hb => ?_)
  · have h := h.1 hb
    refine xs_iconstV (v := 0) rfl rfl ?_
    refine xs_istore rfl (L' := [some (.ref r0), some (.int v1), some (.int v2), some (.int v3), some (.int 0)]) rfl rfl ?_
    exact h
  · have h := h.2 hb
    refine xs_iload_n rfl rfl ?_
    refine xs_if_eq (k' := 29) rfl rfl (fun hb => ?_) (fun hb => ?_)
    · have h := h.1 hb
      refine xs_iload_n rfl rfl ?_
      refine xs_bipushV (v := 11) rfl rfl ?_
      refine xs_icmp_lt (k' := 47) rfl rfl (fun hb => ?_) (fun hb => ?_)
      · have h := h.1 hb
        refine xs_aload_n rfl rfl ?_
        refine xs_bipushV (v := 17) rfl rfl ?_
        refine xs_iload_n rfl rfl ?_
        refine xs_iconstV (v := 3) rfl rfl ?_
        refine xs_isub rfl ?_
        exact h
      · have h := h.2 hb
        refine xs_iload_n rfl rfl ?_
        refine xs_sipushV (v := 138) rfl rfl ?_
        exact h
    · have h := h.2 hb
      refine xs_iload_n rfl rfl ?_
      refine xs_bipushV (v := 6) rfl rfl ?_
      exact h

set_option maxRecDepth 20000 in
theorem b_MC_tellRun_17 {l : Launch} {x : xX} {d mc ms n0 uc us : Nat} {Q : xO → xH → Prop} {cl : Bool} {r0 : Nat} {v1 : Int32} {v2 : Int32} {v3 : Int32} {u0 : Int32} {H : xH}
    (h : xW l x d mc ms mMC_tellRun n0 Q cl 23 [some (.ref r0), some (.int v1), some (.int v2), some (.int v3), some (.int u0)] [.int (u0 - 3), .int 16, .ref r0] H uc us) :
    xW l x d mc ms mMC_tellRun n0 Q cl 17 [some (.ref r0), some (.int v1), some (.int v2), some (.int v3), none] [.int u0] H uc us := by
  refine xs_istore rfl (L' := [some (.ref r0), some (.int v1), some (.int v2), some (.int v3), some (.int u0)]) rfl rfl ?_
  refine xs_aload_n rfl rfl ?_
  refine xs_bipushV (v := 16) rfl rfl ?_
  refine xs_iload rfl rfl ?_
  refine xs_iconstV (v := 3) rfl rfl ?_
  refine xs_isub rfl ?_
  exact h

set_option maxRecDepth 20000 in
theorem b_MC_tellRun_24 {l : Launch} {x : xX} {d mc ms n0 uc us : Nat} {Q : xO → xH → Prop} {cl : Bool} {r0 : Nat} {v1 : Int32} {v2 : Int32} {v3 : Int32} {v4 : Int32} {H : xH}
    (h : xW l x d mc ms mMC_tellRun n0 Q cl 9 [some (.ref r0), some (.int v1), some (.int v2), some (.int (v3 - v4)), some (.int v4)] [] H uc us) :
    xW l x d mc ms mMC_tellRun n0 Q cl 24 [some (.ref r0), some (.int v1), some (.int v2), some (.int v3), some (.int v4)] [] H uc us := by
  refine xs_iload_n rfl rfl ?_
  refine xs_iload rfl rfl ?_
  refine xs_isub rfl ?_
  refine xs_istore_n rfl (L' := [some (.ref r0), some (.int v1), some (.int v2), some (.int (v3 - v4)), some (.int v4)]) rfl rfl ?_
  refine xs_goto (k' := 9) rfl rfl ?_
  exact h

set_option maxRecDepth 20000 in
theorem b_MC_tellRun_35 {l : Launch} {x : xX} {d mc ms n0 uc us : Nat} {Q : xO → xH → Prop} {cl : Bool} {r0 : Nat} {v1 : Int32} {v2 : Int32} {v3 : Int32} {u0 : Int32} {H : xH}
    (h : xW l x d mc ms mMC_tellRun n0 Q cl 41 [some (.ref r0), some (.int v1), some (.int v2), some (.int v3), some (.int u0)] [.int (u0 - 11), .int 18, .ref r0] H uc us) :
    xW l x d mc ms mMC_tellRun n0 Q cl 35 [some (.ref r0), some (.int v1), some (.int v2), some (.int v3), none] [.int u0] H uc us := by
  refine xs_istore rfl (L' := [some (.ref r0), some (.int v1), some (.int v2), some (.int v3), some (.int u0)]) rfl rfl ?_
  refine xs_aload_n rfl rfl ?_
  refine xs_bipushV (v := 18) rfl rfl ?_
  refine xs_iload rfl rfl ?_
  refine xs_bipushV (v := 11) rfl rfl ?_
  refine xs_isub rfl ?_
  exact h

set_option maxRecDepth 20000 in
theorem b_MC_tellRun_42 {l : Launch} {x : xX} {d mc ms n0 uc us : Nat} {Q : xO → xH → Prop} {cl : Bool} {r0 : Nat} {v1 : Int32} {v2 : Int32} {v3 : Int32} {v4 : Int32} {H : xH}
    (h : xW l x d mc ms mMC_tellRun n0 Q cl 9 [some (.ref r0), some (.int v1), some (.int v2), some (.int (v3 - v4)), some (.int v4)] [] H uc us) :
    xW l x d mc ms mMC_tellRun n0 Q cl 42 [some (.ref r0), some (.int v1), some (.int v2), some (.int v3), some (.int v4)] [] H uc us := by
  refine xs_iload_n rfl rfl ?_
  refine xs_iload rfl rfl ?_
  refine xs_isub rfl ?_
  refine xs_istore_n rfl (L' := [some (.ref r0), some (.int v1), some (.int v2), some (.int (v3 - v4)), some (.int v4)]) rfl rfl ?_
  refine xs_goto (k' := 9) rfl rfl ?_
  exact h

set_option maxRecDepth 20000 in
theorem b_MC_tellRun_53 {l : Launch} {x : xX} {d mc ms n0 uc us : Nat} {Q : xO → xH → Prop} {cl : Bool} {r0 : Nat} {v1 : Int32} {v2 : Int32} {v3 : Int32} {H : xH}
    (h : xW l x d mc ms mMC_tellRun n0 Q cl 9 [some (.ref r0), some (.int v1), some (.int v2), some (.int 0), none] [] H uc us) :
    xW l x d mc ms mMC_tellRun n0 Q cl 53 [some (.ref r0), some (.int v1), some (.int v2), some (.int v3), none] [] H uc us := by
  refine xs_iconstV (v := 0) rfl rfl ?_
  refine xs_istore_n rfl (L' := [some (.ref r0), some (.int v1), some (.int v2), some (.int 0), none]) rfl rfl ?_
  refine xs_goto (k' := 9) rfl rfl ?_
  exact h

set_option maxRecDepth 20000 in
theorem b_MC_tellRun_58 {l : Launch} {x : xX} {d mc ms n0 uc us : Nat} {Q : xO → xH → Prop} {cl : Bool} {r0 : Nat} {v1 : Int32} {v2 : Int32} {v3 : Int32} {v4 : Int32} {H : xH}
    (h : (v3 ≤ v4 → uc = mc ∧ us ≤ ms ∧ Q (.inl none) H) ∧ (¬ v3 ≤ v4 → xW l x d mc ms mMC_tellRun n0 Q cl 64 [some (.ref r0), some (.int v1), some (.int v2), some (.int v3), some (.int v4)] [.int 0, .int v1, .ref r0] H uc us)) :
    xW l x d mc ms mMC_tellRun n0 Q cl 58 [some (.ref r0), some (.int v1), some (.int v2), some (.int v3), some (.int v4)] [] H uc us := by
  refine xs_iload rfl rfl ?_
  refine xs_iload_n rfl rfl ?_
  refine xs_icmp_ge (k' := 67) rfl rfl (fun hb => ?_) (fun hb => ?_)
  · have h := h.1 hb
    exact xs_vret rfl rfl h.1 h.2.1 h.2.2
  · have h := h.2 hb
    refine xs_aload_n rfl rfl ?_
    refine xs_iload_n rfl rfl ?_
    refine xs_iconstV (v := 0) rfl rfl ?_
    exact h

set_option maxRecDepth 20000 in
theorem b_MC_tellRun_65 {l : Launch} {x : xX} {d mc ms n0 uc us : Nat} {Q : xO → xH → Prop} {cl : Bool} {r0 : Nat} {v1 : Int32} {v2 : Int32} {v3 : Int32} {v4 : Int32} {H : xH}
    (h : xW l x d mc ms mMC_tellRun n0 Q cl 58 [some (.ref r0), some (.int v1), some (.int v2), some (.int v3), some (.int (v4 + 1))] [] H uc us) :
    xW l x d mc ms mMC_tellRun n0 Q cl 65 [some (.ref r0), some (.int v1), some (.int v2), some (.int v3), some (.int v4)] [] H uc us := by
  refine xs_iincV rfl (w := 1) rfl rfl (L' := [some (.ref r0), some (.int v1), some (.int v2), some (.int v3), some (.int (v4 + 1))]) rfl rfl ?_
  refine xs_goto (k' := 58) rfl rfl ?_
  exact h

set_option maxRecDepth 20000 in
theorem b_MC_tell_0 {l : Launch} {x : xX} {d mc ms n0 uc us : Nat} {Q : xO → xH → Prop} {cl : Bool} {r0 : Nat} {v1 : Int32} {v2 : Int32} {H : xH}
    (h : ∃ p1, gR H r0 3 5 p1 ∧ (∃ a2, gI H r0 3 8 a2 ∧ (∃ n3 f4, H[(p1 : Nat)]? = some (.inl (0, n3, .inl f4)) ∧ 2 ≤ p1 ∧ vp_in a2 n3 ∧ (∀ H5 : xH, H5 = H.set p1 (.inl (0, n3, .inl (upd f4 (a2.toNatClampNeg) (v1)))) → ∃ p6, gR H5 r0 3 6 p6 ∧ (∃ a7, gI H5 r0 3 8 a7 ∧ (∃ n8 f9, H5[(p6 : Nat)]? = some (.inl (0, n8, .inl f9)) ∧ 2 ≤ p6 ∧ vp_in a7 n8 ∧ (∀ H10 : xH, H10 = H5.set p6 (.inl (0, n8, .inl (upd f9 (a7.toNatClampNeg) (v2)))) → ∃ a11, gI H10 r0 3 8 a11 ∧ (∃ c12, H10[(r0 : Nat)]? = some (.inr (3, c12)) ∧ 8 < c12.length ∧ (∀ H13 : xH, H13 = H10.set r0 (.inr (3, c12.set 8 (.int (a11 + 1)))) → uc = mc ∧ us ≤ ms ∧ Q (.inl none) H13))))))))) :
    xW l x d mc ms mMC_tell n0 Q cl 0 [some (.ref r0), some (.int v1), some (.int v2)] [] H uc us := by
  refine xs_aload_n rfl rfl ?_
  obtain ⟨p1, ⟨_, h1, h2⟩, h⟩ := h
  refine xs_getf rfl fl_3_37 h1 h2 ?_
  refine xs_aload_n rfl rfl ?_
  obtain ⟨a2, ⟨_, h1, h2⟩, h⟩ := h
  refine xs_getf rfl fl_3_87 h1 h2 ?_
  refine xs_iload_n rfl rfl ?_
  obtain ⟨n3, f4, h1, h3, h2, h⟩ := h
  refine xs_iast rfl h1 h3 h2 ?_
  have h := h _ rfl
  generalize H.set p1 (.inl (0, n3, .inl (upd f4 (a2.toNatClampNeg) (v1)))) = H5 at h ⊢
  refine xs_aload_n rfl rfl ?_
  obtain ⟨p6, ⟨_, h1, h2⟩, h⟩ := h
  refine xs_getf rfl fl_3_40 h1 h2 ?_
  refine xs_aload_n rfl rfl ?_
  obtain ⟨a7, ⟨_, h1, h2⟩, h⟩ := h
  refine xs_getf rfl fl_3_87 h1 h2 ?_
  refine xs_iload_n rfl rfl ?_
  obtain ⟨n8, f9, h1, h3, h2, h⟩ := h
  refine xs_iast rfl h1 h3 h2 ?_
  have h := h _ rfl
  generalize H5.set p6 (.inl (0, n8, .inl (upd f9 (a7.toNatClampNeg) (v2)))) = H10 at h ⊢
  refine xs_aload_n rfl rfl ?_
  refine xs_dup rfl rfl ?_
  obtain ⟨a11, ⟨_, h1, h2⟩, h⟩ := h
  refine xs_getf rfl fl_3_87 h1 h2 ?_
  refine xs_iconstV (v := 1) rfl rfl ?_
  refine xs_iadd rfl ?_
  obtain ⟨c12, h1, h2, h⟩ := h
  refine xs_putf rfl fl_3_87 h1 (fun q hq => by cases hq; rfl) rfl h2 ?_
  have h := h _ rfl
  generalize H10.set r0 (.inr (3, c12.set 8 (.int (a11 + 1)))) = H13 at h ⊢
  exact xs_vret rfl rfl h.1 h.2.1 h.2.2

set_option maxRecDepth 20000 in
theorem b_MC_weighTold_0 {l : Launch} {x : xX} {d mc ms n0 uc us : Nat} {Q : xO → xH → Prop} {cl : Bool} {r0 : Nat} {H : xH}
    (h : ∃ p1, gR H r0 3 7 p1 ∧ (xW l x d mc ms mMC_weighTold n0 Q cl 3 [some (.ref r0), none, none] [.int 0, .ref p1] H uc us)) :
    xW l x d mc ms mMC_weighTold n0 Q cl 0 [some (.ref r0), none, none] [] H uc us := by
  refine xs_aload_n rfl rfl ?_
  obtain ⟨p1, ⟨_, h1, h2⟩, h⟩ := h
  refine xs_getf rfl fl_3_43 h1 h2 ?_
  refine xs_iconstV (v := 0) rfl rfl ?_
  exact h

set_option maxRecDepth 20000 in
theorem b_MC_weighTold_4 {l : Launch} {x : xX} {d mc ms n0 uc us : Nat} {Q : xO → xH → Prop} {cl : Bool} {r0 : Nat} {H : xH}
    (h : xW l x d mc ms mMC_weighTold n0 Q cl 8 [some (.ref r0), some (.int 0), some (.int 0)] [] H uc us) :
    xW l x d mc ms mMC_weighTold n0 Q cl 4 [some (.ref r0), none, none] [] H uc us := by
  refine xs_iconstV (v := 0) rfl rfl ?_
  refine xs_istore_n rfl (L' := [some (.ref r0), some (.int 0), none]) rfl rfl ?_
  refine xs_iconstV (v := 0) rfl rfl ?_
  refine xs_istore_n rfl (L' := [some (.ref r0), some (.int 0), some (.int 0)]) rfl rfl ?_
  exact h

set_option maxRecDepth 20000 in
theorem b_MC_weighTold_8 {l : Launch} {x : xX} {d mc ms n0 uc us : Nat} {Q : xO → xH → Prop} {cl : Bool} {r0 : Nat} {v1 : Int32} {v2 : Int32} {H : xH}
    (h : ∃ a1, gI H r0 3 8 a1 ∧ ((a1 ≤ v2 → (¬ v1 = 1 → uc = mc ∧ us ≤ ms ∧ Q (.inl none) H) ∧ (v1 = 1 → ∃ p2, gR H r0 3 7 p2 ∧ (∃ p3, gR H r0 3 7 p3 ∧ (∃ n4 f5, H[(p3 : Nat)]? = some (.inl (0, n4, .inl f5)) ∧ vp_in 0 n4 ∧ ((¬ (f5 (0 : Int32).toNatClampNeg) = 0 → ∃ n6 f7, H[(p2 : Nat)]? = some (.inl (0, n6, .inl f7)) ∧ 2 ≤ p2 ∧ vp_in 1 n6 ∧ (∀ H8 : xH, H8 = H.set p2 (.inl (0, n6, .inl (upd f7 ((1 : Int32).toNatClampNeg) (1)))) → uc = mc ∧ us ≤ ms ∧ Q (.inl none) H8)) ∧ ((f5 (0 : Int32).toNatClampNeg) = 0 → ∃ n9 f10, H[(p2 : Nat)]? = some (.inl (0, n9, .inl f10)) ∧ 2 ≤ p2 ∧ vp_in 0 n9 ∧ (∀ H11 : xH, H11 = H.set p2 (.inl (0, n9, .inl (upd f10 ((0 : Int32).toNatClampNeg) (1)))) → uc = mc ∧ us ≤ ms ∧ Q (.inl none) H11))))))) ∧ (¬ a1 ≤ v2 → ∃ p12, gR H r0 3 7 p12 ∧ (∃ p13, gR H r0 3 5 p13 ∧ (∃ n14 f15, H[(p13 : Nat)]? = some (.inl (0, n14, .inl f15)) ∧ vp_in v2 n14 ∧ (∃ n16 f17, H[(p12 : Nat)]? = some (.inl (0, n16, .inl f17)) ∧ vp_in (f15 v2.toNatClampNeg) n16 ∧ ((¬ (f17 (f15 v2.toNatClampNeg).toNatClampNeg) = 0 → ∃ p18, gR H r0 3 7 p18 ∧ (∃ p19, gR H r0 3 5 p19 ∧ (∃ n20 f21, H[(p19 : Nat)]? = some (.inl (0, n20, .inl f21)) ∧ vp_in v2 n20 ∧ (∃ n22 f23, H[(p18 : Nat)]? = some (.inl (0, n22, .inl f23)) ∧ vp_in (f21 v2.toNatClampNeg) n22 ∧ (∃ n24 f25, H[(p18 : Nat)]? = some (.inl (0, n24, .inl f25)) ∧ 2 ≤ p18 ∧ vp_in (f21 v2.toNatClampNeg) n24 ∧ (∀ H26 : xH, H26 = H.set p18 (.inl (0, n24, .inl (upd f25 ((f21 v2.toNatClampNeg).toNatClampNeg) (((f23 (f21 v2.toNatClampNeg).toNatClampNeg) + 1))))) → xW l x d mc ms mMC_weighTold n0 Q false 8 [some (.ref r0), some (.int v1), some (.int (v2 + 1))] [] H26 uc us)))))) ∧ ((f17 (f15 v2.toNatClampNeg).toNatClampNeg) = 0 → ∃ p27, gR H r0 3 7 p27 ∧ (∃ p28, gR H r0 3 5 p28 ∧ (∃ n29 f30, H[(p28 : Nat)]? = some (.inl (0, n29, .inl f30)) ∧ vp_in v2 n29 ∧ (∃ n31 f32, H[(p27 : Nat)]? = some (.inl (0, n31, .inl f32)) ∧ vp_in (f30 v2.toNatClampNeg) n31 ∧ (∃ n33 f34, H[(p27 : Nat)]? = some (.inl (0, n33, .inl f34)) ∧ 2 ≤ p27 ∧ vp_in (f30 v2.toNatClampNeg) n33 ∧ (∀ H35 : xH, H35 = H.set p27 (.inl (0, n33, .inl (upd f34 ((f30 v2.toNatClampNeg).toNatClampNeg) (((f32 (f30 v2.toNatClampNeg).toNatClampNeg) + 1))))) → xW l x d mc ms mMC_weighTold n0 Q false 8 [some (.ref r0), some (.int (v1 + 1)), some (.int (v2 + 1))] [] H35 uc us))))))))))))) :
    xW l x d mc ms mMC_weighTold n0 Q cl 8 [some (.ref r0), some (.int v1), some (.int v2)] [] H uc us := by
  refine xs_iload_n rfl rfl ?_
  refine xs_aload_n rfl rfl ?_
  obtain ⟨a1, ⟨_, h1, h2⟩, h⟩ := h
  refine xs_getf rfl fl_3_87 h1 h2 ?_
  refine xs_icmp_ge (k' := 34) rfl rfl (fun hb => ?_) (fun hb => ?_)
  · have h := h.1 hb
    refine xs_iload_n rfl rfl ?_
    refine xs_iconstV (v := 1) rfl rfl ?_
    refine xs_icmp_ne (k' := 49) rfl rfl (fun hb => ?_) (fun hb => ?_)
    · have h := h.1 hb
      exact xs_vret rfl rfl h.1 h.2.1 h.2.2
    · have h := h.2 hb
      refine xs_aload_n rfl rfl ?_
      obtain ⟨p2, ⟨_, h1, h2⟩, h⟩ := h
      refine xs_getf rfl fl_3_43 h1 h2 ?_
      refine xs_aload_n rfl rfl ?_
      obtain ⟨p3, ⟨_, h1, h2⟩, h⟩ := h
      refine xs_getf rfl fl_3_43 h1 h2 ?_
      refine xs_iconstV (v := 0) rfl rfl ?_
      obtain ⟨n4, f5, h1, h2, h⟩ := h
      refine xs_iald rfl h1 h2 ?_
      refine xs_if_ne (k' := 46) rfl rfl (fun hb => ?_) (fun hb => ?_)
      · have h := h.1 hb
        refine xs_iconstV (v := 1) rfl rfl ?_
        refine xs_iconstV (v := 1) rfl rfl ?_
        obtain ⟨n6, f7, h1, h3, h2, h⟩ := h
        refine xs_iast rfl h1 h3 h2 ?_
        have h := h _ rfl
        generalize H.set p2 (.inl (0, n6, .inl (upd f7 ((1 : Int32).toNatClampNeg) (1)))) = H8 at h ⊢
        exact xs_vret rfl rfl h.1 h.2.1 h.2.2
      · have h := h.2 hb
        refine xs_iconstV (v := 0) rfl rfl ?_
        refine xs_goto (k' := 47) rfl rfl ?_
        refine xs_iconstV (v := 1) rfl rfl ?_
        obtain ⟨n9, f10, h1, h3, h2, h⟩ := h
        refine xs_iast rfl h1 h3 h2 ?_
        have h := h _ rfl
        generalize H.set p2 (.inl (0, n9, .inl (upd f10 ((0 : Int32).toNatClampNeg) (1)))) = H11 at h ⊢
        exact xs_vret rfl rfl h.1 h.2.1 h.2.2
  · have h := h.2 hb
    refine xs_aload_n rfl rfl ?_
    obtain ⟨p12, ⟨_, h1, h2⟩, h⟩ := h
    refine xs_getf rfl fl_3_43 h1 h2 ?_
    refine xs_aload_n rfl rfl ?_
    obtain ⟨p13, ⟨_, h1, h2⟩, h⟩ := h
    refine xs_getf rfl fl_3_37 h1 h2 ?_
    refine xs_iload_n rfl rfl ?_
    obtain ⟨n14, f15, h1, h2, h⟩ := h
    refine xs_iald rfl h1 h2 ?_
    obtain ⟨n16, f17, h1, h2, h⟩ := h
    refine xs_iald rfl h1 h2 ?_
    refine xs_if_ne (k' := 21) rfl rfl (fun hb => ?_) (fun hb => ?_)
    · have h := h.1 hb
      refine xs_aload_n rfl rfl ?_
      obtain ⟨p18, ⟨_, h1, h2⟩, h⟩ := h
      refine xs_getf rfl fl_3_43 h1 h2 ?_
      refine xs_aload_n rfl rfl ?_
      obtain ⟨p19, ⟨_, h1, h2⟩, h⟩ := h
      refine xs_getf rfl fl_3_37 h1 h2 ?_
      refine xs_iload_n rfl rfl ?_
      obtain ⟨n20, f21, h1, h2, h⟩ := h
      refine xs_iald rfl h1 h2 ?_
      refine xs_dup2 rfl rfl rfl ?_
      obtain ⟨n22, f23, h1, h2, h⟩ := h
      refine xs_iald rfl h1 h2 ?_
      refine xs_iconstV (v := 1) rfl rfl ?_
      refine xs_iadd rfl ?_
      obtain ⟨n24, f25, h1, h3, h2, h⟩ := h
      refine xs_iast rfl h1 h3 h2 ?_
      have h := h _ rfl
      generalize H.set p18 (.inl (0, n24, .inl (upd f25 ((f21 v2.toNatClampNeg).toNatClampNeg) (((f23 (f21 v2.toNatClampNeg).toNatClampNeg) + 1))))) = H26 at h ⊢
      refine xs_iincV rfl (w := 1) rfl rfl (L' := [some (.ref r0), some (.int v1), some (.int (v2 + 1))]) rfl rfl ?_
      refine xs_goto (k' := 8) rfl rfl ?_
      exact h
    · have h := h.2 hb
      refine xs_iincV rfl (w := 1) rfl rfl (L' := [some (.ref r0), some (.int (v1 + 1)), some (.int v2)]) rfl rfl ?_
      refine xs_aload_n rfl rfl ?_
      obtain ⟨p27, ⟨_, h1, h2⟩, h⟩ := h
      refine xs_getf rfl fl_3_43 h1 h2 ?_
      refine xs_aload_n rfl rfl ?_
      obtain ⟨p28, ⟨_, h1, h2⟩, h⟩ := h
      refine xs_getf rfl fl_3_37 h1 h2 ?_
      refine xs_iload_n rfl rfl ?_
      obtain ⟨n29, f30, h1, h2, h⟩ := h
      refine xs_iald rfl h1 h2 ?_
      refine xs_dup2 rfl rfl rfl ?_
      obtain ⟨n31, f32, h1, h2, h⟩ := h
      refine xs_iald rfl h1 h2 ?_
      refine xs_iconstV (v := 1) rfl rfl ?_
      refine xs_iadd rfl ?_
      obtain ⟨n33, f34, h1, h3, h2, h⟩ := h
      refine xs_iast rfl h1 h3 h2 ?_
      have h := h _ rfl
      generalize H.set p27 (.inl (0, n33, .inl (upd f34 ((f30 v2.toNatClampNeg).toNatClampNeg) (((f32 (f30 v2.toNatClampNeg).toNatClampNeg) + 1))))) = H35 at h ⊢
      refine xs_iincV rfl (w := 1) rfl rfl (L' := [some (.ref r0), some (.int (v1 + 1)), some (.int (v2 + 1))]) rfl rfl ?_
      refine xs_goto (k' := 8) rfl rfl ?_
      exact h

set_option maxRecDepth 20000 in
theorem b_WC_bitsFor_0 {l : Launch} {x : xX} {d mc ms n0 uc us : Nat} {Q : xO → xH → Prop} {cl : Bool} {r0 : Nat} {r1 : Nat} {H : xH}
    (h : xW l x d mc ms mWC_bitsFor n0 Q cl 4 [some (.ref r0), some (.ref r1), some (.int 0), some (.int 0)] [] H uc us) :
    xW l x d mc ms mWC_bitsFor n0 Q cl 0 [some (.ref r0), some (.ref r1), none, none] [] H uc us := by
  refine xs_iconstV (v := 0) rfl rfl ?_
  refine xs_istore_n rfl (L' := [some (.ref r0), some (.ref r1), some (.int 0), none]) rfl rfl ?_
  refine xs_iconstV (v := 0) rfl rfl ?_
  refine xs_istore_n rfl (L' := [some (.ref r0), some (.ref r1), some (.int 0), some (.int 0)]) rfl rfl ?_
  exact h

set_option maxRecDepth 20000 in
theorem b_WC_bitsFor_4 {l : Launch} {x : xX} {d mc ms n0 uc us : Nat} {Q : xO → xH → Prop} {cl : Bool} {r0 : Nat} {r1 : Nat} {v2 : Int32} {v3 : Int32} {H : xH}
    (h : ∃ (t1 : Nat) (w2 : vp_A), H[(r1 : Nat)]? = some (.inl (t1, w2)) ∧ t1 < 4 ∧ (((Int32.ofNat w2.1) ≤ v3 → uc = mc ∧ us ≤ ms ∧ Q (.inl (some (.int v2))) H) ∧ (¬ (Int32.ofNat w2.1) ≤ v3 → ∃ p3, gR H r0 11 0 p3 ∧ (∃ (t4 : Nat) (w5 : vp_A), H[(p3 : Nat)]? = some (.inl (t4, w5)) ∧ t4 < 4 ∧ (((Int32.ofNat w5.1) ≤ v3 → uc = mc ∧ us ≤ ms ∧ Q (.inl (some (.int v2))) H) ∧ (¬ (Int32.ofNat w5.1) ≤ v3 → ∃ n6 f7, H[(r1 : Nat)]? = some (.inl (0, n6, .inl f7)) ∧ vp_in v3 n6 ∧ (∃ p8, gR H r0 11 0 p8 ∧ (∃ n9 f10, H[(p8 : Nat)]? = some (.inl (0, n9, .inl f10)) ∧ vp_in v3 n9 ∧ (xW l x d mc ms mWC_bitsFor n0 Q cl 4 [some (.ref r0), some (.ref r1), some (.int (v2 + ((f7 v3.toNatClampNeg) * (f10 v3.toNatClampNeg)))), some (.int (v3 + 1))] [] H uc us))))))))) :
    xW l x d mc ms mWC_bitsFor n0 Q cl 4 [some (.ref r0), some (.ref r1), some (.int v2), some (.int v3)] [] H uc us := by
  refine xs_iload_n rfl rfl ?_
  refine xs_aload_n rfl rfl ?_
  obtain ⟨t1, w2, h1, h2, h⟩ := h
  refine xs_alen rfl h1 h2 ?_
  refine xs_icmp_ge (k' := 26) rfl rfl (fun hb => ?_) (fun hb => ?_)
  · have h := h.1 hb
    refine xs_iload_n rfl rfl ?_
    exact xs_iret rfl rfl h.1 h.2.1 h.2.2
  · have h := h.2 hb
    refine xs_iload_n rfl rfl ?_
    refine xs_aload_n rfl rfl ?_
    obtain ⟨p3, ⟨_, h1, h2⟩, h⟩ := h
    refine xs_getf rfl fl_11_15 h1 h2 ?_
    obtain ⟨t4, w5, h1, h2, h⟩ := h
    refine xs_alen rfl h1 h2 ?_
    refine xs_icmp_ge (k' := 26) rfl rfl (fun hb => ?_) (fun hb => ?_)
    · have h := h.1 hb
      refine xs_iload_n rfl rfl ?_
      exact xs_iret rfl rfl h.1 h.2.1 h.2.2
    · have h := h.2 hb
      refine xs_iload_n rfl rfl ?_
      refine xs_aload_n rfl rfl ?_
      refine xs_iload_n rfl rfl ?_
      obtain ⟨n6, f7, h1, h2, h⟩ := h
      refine xs_iald rfl h1 h2 ?_
      refine xs_aload_n rfl rfl ?_
      obtain ⟨p8, ⟨_, h1, h2⟩, h⟩ := h
      refine xs_getf rfl fl_11_15 h1 h2 ?_
      refine xs_iload_n rfl rfl ?_
      obtain ⟨n9, f10, h1, h2, h⟩ := h
      refine xs_iald rfl h1 h2 ?_
      refine xs_imul rfl ?_
      refine xs_iadd rfl ?_
      refine xs_istore_n rfl (L' := [some (.ref r0), some (.ref r1), some (.int (v2 + ((f7 v3.toNatClampNeg) * (f10 v3.toNatClampNeg)))), some (.int v3)]) rfl rfl ?_
      refine xs_iincV rfl (w := 1) rfl rfl (L' := [some (.ref r0), some (.ref r1), some (.int (v2 + ((f7 v3.toNatClampNeg) * (f10 v3.toNatClampNeg)))), some (.int (v3 + 1))]) rfl rfl ?_
      refine xs_goto (k' := 4) rfl rfl ?_
      exact h

set_option maxRecDepth 20000 in
theorem b_MC_bitsOfTelling_0 {l : Launch} {x : xX} {d mc ms n0 uc us : Nat} {Q : xO → xH → Prop} {cl : Bool} {r0 : Nat} {H : xH}
    (h : ∃ a1, gI H r0 3 11 a1 ∧ (xW l x d mc ms mMC_bitsOfTelling n0 Q cl 9 [some (.ref r0), some (.int ((14 : Int32) + ((3 : Int32) * a1))), some (.int 0)] [] H uc us)) :
    xW l x d mc ms mMC_bitsOfTelling n0 Q cl 0 [some (.ref r0), none, none] [] H uc us := by
  refine xs_bipushV (v := 14) rfl rfl ?_
  refine xs_iconstV (v := 3) rfl rfl ?_
  refine xs_aload_n rfl rfl ?_
  obtain ⟨a1, ⟨_, h1, h2⟩, h⟩ := h
  refine xs_getf rfl fl_3_81 h1 h2 ?_
  refine xs_imul rfl ?_
  refine xs_iadd rfl ?_
  refine xs_istore_n rfl (L' := [some (.ref r0), some (.int ((14 : Int32) + ((3 : Int32) * a1))), none]) rfl rfl ?_
  refine xs_iconstV (v := 0) rfl rfl ?_
  refine xs_istore_n rfl (L' := [some (.ref r0), some (.int ((14 : Int32) + ((3 : Int32) * a1))), some (.int 0)]) rfl rfl ?_
  exact h

set_option maxRecDepth 20000 in
theorem b_MC_bitsOfTelling_9 {l : Launch} {x : xX} {d mc ms n0 uc us : Nat} {Q : xO → xH → Prop} {cl : Bool} {r0 : Nat} {v1 : Int32} {v2 : Int32} {H : xH}
    (h : ∃ a1, gI H r0 3 8 a1 ∧ ((a1 ≤ v2 → uc = mc ∧ us ≤ ms ∧ Q (.inl (some (.int v1))) H) ∧ (¬ a1 ≤ v2 → ∃ p2, gR H r0 3 2 p2 ∧ (∃ p3, gR H p2 11 0 p3 ∧ (∃ p4, gR H r0 3 5 p4 ∧ (∃ n5 f6, H[(p4 : Nat)]? = some (.inl (0, n5, .inl f6)) ∧ vp_in v2 n5 ∧ (∃ n7 f8, H[(p3 : Nat)]? = some (.inl (0, n7, .inl f8)) ∧ vp_in (f6 v2.toNatClampNeg) n7 ∧ (∃ p9, gR H r0 3 5 p9 ∧ (∃ n10 f11, H[(p9 : Nat)]? = some (.inl (0, n10, .inl f11)) ∧ vp_in v2 n10 ∧ (xW l x d mc ms mMC_bitsOfTelling n0 Q cl 26 [some (.ref r0), some (.int v1), some (.int v2)] [.int (f11 v2.toNatClampNeg), .int (f8 (f6 v2.toNatClampNeg).toNatClampNeg), .int v1] H uc us)))))))))) :
    xW l x d mc ms mMC_bitsOfTelling n0 Q cl 9 [some (.ref r0), some (.int v1), some (.int v2)] [] H uc us := by
  refine xs_iload_n rfl rfl ?_
  refine xs_aload_n rfl rfl ?_
  obtain ⟨a1, ⟨_, h1, h2⟩, h⟩ := h
  refine xs_getf rfl fl_3_87 h1 h2 ?_
  refine xs_icmp_ge (k' := 32) rfl rfl (fun hb => ?_) (fun hb => ?_)
  · have h := h.1 hb
    refine xs_iload_n rfl rfl ?_
    exact xs_iret rfl rfl h.1 h.2.1 h.2.2
  · have h := h.2 hb
    refine xs_iload_n rfl rfl ?_
    refine xs_aload_n rfl rfl ?_
    obtain ⟨p2, ⟨_, h1, h2⟩, h⟩ := h
    refine xs_getf rfl fl_3_23 h1 h2 ?_
    obtain ⟨p3, ⟨_, h1, h2⟩, h⟩ := h
    refine xs_getf rfl fl_3_46 h1 h2 ?_
    refine xs_aload_n rfl rfl ?_
    obtain ⟨p4, ⟨_, h1, h2⟩, h⟩ := h
    refine xs_getf rfl fl_3_37 h1 h2 ?_
    refine xs_iload_n rfl rfl ?_
    obtain ⟨n5, f6, h1, h2, h⟩ := h
    refine xs_iald rfl h1 h2 ?_
    obtain ⟨n7, f8, h1, h2, h⟩ := h
    refine xs_iald rfl h1 h2 ?_
    refine xs_aload_n rfl rfl ?_
    obtain ⟨p9, ⟨_, h1, h2⟩, h⟩ := h
    refine xs_getf rfl fl_3_37 h1 h2 ?_
    refine xs_iload_n rfl rfl ?_
    obtain ⟨n10, f11, h1, h2, h⟩ := h
    refine xs_iald rfl h1 h2 ?_
    exact h

set_option maxRecDepth 20000 in
theorem b_MC_bitsOfTelling_27 {l : Launch} {x : xX} {d mc ms n0 uc us : Nat} {Q : xO → xH → Prop} {cl : Bool} {r0 : Nat} {v1 : Int32} {v2 : Int32} {u0 : Int32} {u1 : Int32} {u2 : Int32} {H : xH}
    (h : xW l x d mc ms mMC_bitsOfTelling n0 Q cl 9 [some (.ref r0), some (.int (u0 + (u1 + u2))), some (.int (v2 + 1))] [] H uc us) :
    xW l x d mc ms mMC_bitsOfTelling n0 Q cl 27 [some (.ref r0), some (.int v1), some (.int v2)] [.int u2, .int u1, .int u0] H uc us := by
  refine xs_iadd rfl ?_
  refine xs_iadd rfl ?_
  refine xs_istore_n rfl (L' := [some (.ref r0), some (.int (u0 + (u1 + u2))), some (.int v2)]) rfl rfl ?_
  refine xs_iincV rfl (w := 1) rfl rfl (L' := [some (.ref r0), some (.int (u0 + (u1 + u2))), some (.int (v2 + 1))]) rfl rfl ?_
  refine xs_goto (k' := 9) rfl rfl ?_
  exact h

set_option maxRecDepth 20000 in
theorem b_MC_numberBits_0 {l : Launch} {x : xX} {d mc ms n0 uc us : Nat} {Q : xO → xH → Prop} {cl : Bool} {v0 : Int32} {H : xH}
    (h : (16 ≤ v0 → (¬ v0 = 16 → (¬ v0 = 17 → uc = mc ∧ us ≤ ms ∧ Q (.inl (some (.int 7))) H) ∧ (v0 = 17 → uc = mc ∧ us ≤ ms ∧ Q (.inl (some (.int 3))) H)) ∧ (v0 = 16 → uc = mc ∧ us ≤ ms ∧ Q (.inl (some (.int 2))) H)) ∧ (¬ 16 ≤ v0 → uc = mc ∧ us ≤ ms ∧ Q (.inl (some (.int 0))) H)) :
    xW l x d mc ms mMC_numberBits n0 Q cl 0 [some (.int v0)] [] H uc us := by
  refine xs_iload_n rfl rfl ?_
  refine xs_bipushV (v := 16) rfl rfl ?_
  refine xs_icmp_ge (k' := 5) rfl rfl (fun hb => ?_) (fun hb => ?_)
  · have h := h.1 hb
    refine xs_iload_n rfl rfl ?_
    refine xs_bipushV (v := 16) rfl rfl ?_
    refine xs_icmp_ne (k' := 10) rfl rfl (fun hb => ?_) (fun hb => ?_)
    · have h := h.1 hb
      refine xs_iload_n rfl rfl ?_
      refine xs_bipushV (v := 17) rfl rfl ?_
      refine xs_icmp_ne (k' := 15) rfl rfl (fun hb => ?_) (fun hb => ?_)
      · have h := h.1 hb
        refine xs_bipushV (v := 7) rfl rfl ?_
        exact xs_iret rfl rfl h.1 h.2.1 h.2.2
      · have h := h.2 hb
        refine xs_iconstV (v := 3) rfl rfl ?_
        refine xs_goto (k' := 16) rfl rfl ?_
        exact xs_iret rfl rfl h.1 h.2.1 h.2.2
    · have h := h.2 hb
      refine xs_iconstV (v := 2) rfl rfl ?_
      refine xs_goto (k' := 16) rfl rfl ?_
      exact xs_iret rfl rfl h.1 h.2.1 h.2.2
  · have h := h.2 hb
    refine xs_iconstV (v := 0) rfl rfl ?_
    exact xs_iret rfl rfl h.1 h.2.1 h.2.2

set_option maxRecDepth 20000 in
theorem b_MC_writeTelling_0 {l : Launch} {x : xX} {d mc ms n0 uc us : Nat} {Q : xO → xH → Prop} {cl : Bool} {r0 : Nat} {r1 : Nat} {H : xH}
    (h : ∃ p1, gR H r0 3 2 p1 ∧ (xW l x d mc ms mMC_writeTelling n0 Q cl 2 [some (.ref r0), some (.ref r1), none] [.ref p1] H uc us)) :
    xW l x d mc ms mMC_writeTelling n0 Q cl 0 [some (.ref r0), some (.ref r1), none] [] H uc us := by
  refine xs_aload_n rfl rfl ?_
  obtain ⟨p1, ⟨_, h1, h2⟩, h⟩ := h
  refine xs_getf rfl fl_3_23 h1 h2 ?_
  exact h

set_option maxRecDepth 20000 in
theorem b_MC_writeTelling_3 {l : Launch} {x : xX} {d mc ms n0 uc us : Nat} {Q : xO → xH → Prop} {cl : Bool} {r0 : Nat} {r1 : Nat} {H : xH}
    (h : ∃ a1, gI H r0 3 9 a1 ∧ (xW l x d mc ms mMC_writeTelling n0 Q cl 9 [some (.ref r0), some (.ref r1), none] [.int 5, .int (a1 - 257), .ref r1] H uc us)) :
    xW l x d mc ms mMC_writeTelling n0 Q cl 3 [some (.ref r0), some (.ref r1), none] [] H uc us := by
  refine xs_aload_n rfl rfl ?_
  refine xs_aload_n rfl rfl ?_
  obtain ⟨a1, ⟨_, h1, h2⟩, h⟩ := h
  refine xs_getf rfl fl_3_56 h1 h2 ?_
  refine xs_sipushV (v := 257) rfl rfl ?_
  refine xs_isub rfl ?_
  refine xs_iconstV (v := 5) rfl rfl ?_
  exact h

set_option maxRecDepth 20000 in
theorem b_MC_writeTelling_10 {l : Launch} {x : xX} {d mc ms n0 uc us : Nat} {Q : xO → xH → Prop} {cl : Bool} {r0 : Nat} {r1 : Nat} {H : xH}
    (h : ∃ a1, gI H r0 3 10 a1 ∧ (xW l x d mc ms mMC_writeTelling n0 Q cl 16 [some (.ref r0), some (.ref r1), none] [.int 5, .int (a1 - 1), .ref r1] H uc us)) :
    xW l x d mc ms mMC_writeTelling n0 Q cl 10 [some (.ref r0), some (.ref r1), none] [] H uc us := by
  refine xs_aload_n rfl rfl ?_
  refine xs_aload_n rfl rfl ?_
  obtain ⟨a1, ⟨_, h1, h2⟩, h⟩ := h
  refine xs_getf rfl fl_3_66 h1 h2 ?_
  refine xs_iconstV (v := 1) rfl rfl ?_
  refine xs_isub rfl ?_
  refine xs_iconstV (v := 5) rfl rfl ?_
  exact h

set_option maxRecDepth 20000 in
theorem b_MC_writeTelling_17 {l : Launch} {x : xX} {d mc ms n0 uc us : Nat} {Q : xO → xH → Prop} {cl : Bool} {r0 : Nat} {r1 : Nat} {H : xH}
    (h : ∃ a1, gI H r0 3 11 a1 ∧ (xW l x d mc ms mMC_writeTelling n0 Q cl 23 [some (.ref r0), some (.ref r1), none] [.int 4, .int (a1 - 4), .ref r1] H uc us)) :
    xW l x d mc ms mMC_writeTelling n0 Q cl 17 [some (.ref r0), some (.ref r1), none] [] H uc us := by
  refine xs_aload_n rfl rfl ?_
  refine xs_aload_n rfl rfl ?_
  obtain ⟨a1, ⟨_, h1, h2⟩, h⟩ := h
  refine xs_getf rfl fl_3_81 h1 h2 ?_
  refine xs_iconstV (v := 4) rfl rfl ?_
  refine xs_isub rfl ?_
  refine xs_iconstV (v := 4) rfl rfl ?_
  exact h

set_option maxRecDepth 20000 in
theorem b_MC_writeTelling_24 {l : Launch} {x : xX} {d mc ms n0 uc us : Nat} {Q : xO → xH → Prop} {cl : Bool} {r0 : Nat} {r1 : Nat} {H : xH}
    (h : xW l x d mc ms mMC_writeTelling n0 Q cl 26 [some (.ref r0), some (.ref r1), some (.int 0)] [] H uc us) :
    xW l x d mc ms mMC_writeTelling n0 Q cl 24 [some (.ref r0), some (.ref r1), none] [] H uc us := by
  refine xs_iconstV (v := 0) rfl rfl ?_
  refine xs_istore_n rfl (L' := [some (.ref r0), some (.ref r1), some (.int 0)]) rfl rfl ?_
  exact h

set_option maxRecDepth 20000 in
theorem b_MC_writeTelling_26 {l : Launch} {x : xX} {d mc ms n0 uc us : Nat} {Q : xO → xH → Prop} {cl : Bool} {r0 : Nat} {r1 : Nat} {v2 : Int32} {H : xH}
    (h : ∃ a1, gI H r0 3 11 a1 ∧ ((a1 ≤ v2 → xW l x d mc ms mMC_writeTelling n0 Q cl 44 [some (.ref r0), some (.ref r1), some (.int 0)] [] H uc us) ∧ (¬ a1 ≤ v2 → ∃ p2, gR H r0 3 2 p2 ∧ (∃ p3, gR H p2 11 0 p3 ∧ (∃ n4 f5, H[(1 : Nat)]? = some (.inl (0, n4, .inl f5)) ∧ vp_in v2 n4 ∧ (∃ n6 f7, H[(p3 : Nat)]? = some (.inl (0, n6, .inl f7)) ∧ vp_in (f5 v2.toNatClampNeg) n6 ∧ (xW l x d mc ms mMC_writeTelling n0 Q cl 39 [some (.ref r0), some (.ref r1), some (.int v2)] [.int 3, .int (f7 (f5 v2.toNatClampNeg).toNatClampNeg), .ref r1] H uc us))))))) :
    xW l x d mc ms mMC_writeTelling n0 Q cl 26 [some (.ref r0), some (.ref r1), some (.int v2)] [] H uc us := by
  refine xs_iload_n rfl rfl ?_
  refine xs_aload_n rfl rfl ?_
  obtain ⟨a1, ⟨_, h1, h2⟩, h⟩ := h
  refine xs_getf rfl fl_3_81 h1 h2 ?_
  refine xs_icmp_ge (k' := 42) rfl rfl (fun hb => ?_) (fun hb => ?_)
  · have h := h.1 hb
    refine xs_iconstV (v := 0) rfl rfl ?_
    refine xs_istore_n rfl (L' := [some (.ref r0), some (.ref r1), some (.int 0)]) rfl rfl ?_
    exact h
  · have h := h.2 hb
    refine xs_aload_n rfl rfl ?_
    refine xs_aload_n rfl rfl ?_
    obtain ⟨p2, ⟨_, h1, h2⟩, h⟩ := h
    refine xs_getf rfl fl_3_23 h1 h2 ?_
    obtain ⟨p3, ⟨_, h1, h2⟩, h⟩ := h
    refine xs_getf rfl fl_3_46 h1 h2 ?_
    refine xs_gets rfl sl_3_84 ?_
    refine xs_iload_n rfl rfl ?_
    obtain ⟨n4, f5, h1, h2, h⟩ := h
    refine xs_iald rfl h1 h2 ?_
    obtain ⟨n6, f7, h1, h2, h⟩ := h
    refine xs_iald rfl h1 h2 ?_
    refine xs_iconstV (v := 3) rfl rfl ?_
    exact h

set_option maxRecDepth 20000 in
theorem b_MC_writeTelling_40 {l : Launch} {x : xX} {d mc ms n0 uc us : Nat} {Q : xO → xH → Prop} {cl : Bool} {r0 : Nat} {r1 : Nat} {v2 : Int32} {H : xH}
    (h : xW l x d mc ms mMC_writeTelling n0 Q cl 26 [some (.ref r0), some (.ref r1), some (.int (v2 + 1))] [] H uc us) :
    xW l x d mc ms mMC_writeTelling n0 Q cl 40 [some (.ref r0), some (.ref r1), some (.int v2)] [] H uc us := by
  refine xs_iincV rfl (w := 1) rfl rfl (L' := [some (.ref r0), some (.ref r1), some (.int (v2 + 1))]) rfl rfl ?_
  refine xs_goto (k' := 26) rfl rfl ?_
  exact h

set_option maxRecDepth 20000 in
theorem b_MC_writeTelling_44 {l : Launch} {x : xX} {d mc ms n0 uc us : Nat} {Q : xO → xH → Prop} {cl : Bool} {r0 : Nat} {r1 : Nat} {v2 : Int32} {H : xH}
    (h : ∃ a1, gI H r0 3 8 a1 ∧ ((a1 ≤ v2 → uc = mc ∧ us ≤ ms ∧ Q (.inl none) H) ∧ (¬ a1 ≤ v2 → ∃ p2, gR H r0 3 2 p2 ∧ (∃ p3, gR H r0 3 5 p3 ∧ (∃ n4 f5, H[(p3 : Nat)]? = some (.inl (0, n4, .inl f5)) ∧ vp_in v2 n4 ∧ (xW l x d mc ms mMC_writeTelling n0 Q cl 55 [some (.ref r0), some (.ref r1), some (.int v2)] [.int (f5 v2.toNatClampNeg), .ref p2, .ref r1] H uc us)))))) :
    xW l x d mc ms mMC_writeTelling n0 Q cl 44 [some (.ref r0), some (.ref r1), some (.int v2)] [] H uc us := by
  refine xs_iload_n rfl rfl ?_
  refine xs_aload_n rfl rfl ?_
  obtain ⟨a1, ⟨_, h1, h2⟩, h⟩ := h
  refine xs_getf rfl fl_3_87 h1 h2 ?_
  refine xs_icmp_ge (k' := 69) rfl rfl (fun hb => ?_) (fun hb => ?_)
  · have h := h.1 hb
    exact xs_vret rfl rfl h.1 h.2.1 h.2.2
  · have h := h.2 hb
    refine xs_aload_n rfl rfl ?_
    refine xs_aload_n rfl rfl ?_
    obtain ⟨p2, ⟨_, h1, h2⟩, h⟩ := h
    refine xs_getf rfl fl_3_23 h1 h2 ?_
    refine xs_aload_n rfl rfl ?_
    obtain ⟨p3, ⟨_, h1, h2⟩, h⟩ := h
    refine xs_getf rfl fl_3_37 h1 h2 ?_
    refine xs_iload_n rfl rfl ?_
    obtain ⟨n4, f5, h1, h2, h⟩ := h
    refine xs_iald rfl h1 h2 ?_
    exact h

set_option maxRecDepth 20000 in
theorem b_MC_writeTelling_56 {l : Launch} {x : xX} {d mc ms n0 uc us : Nat} {Q : xO → xH → Prop} {cl : Bool} {r0 : Nat} {r1 : Nat} {v2 : Int32} {H : xH}
    (h : ∃ p1, gR H r0 3 6 p1 ∧ (∃ n2 f3, H[(p1 : Nat)]? = some (.inl (0, n2, .inl f3)) ∧ vp_in v2 n2 ∧ (∃ p4, gR H r0 3 5 p4 ∧ (∃ n5 f6, H[(p4 : Nat)]? = some (.inl (0, n5, .inl f6)) ∧ vp_in v2 n5 ∧ (xW l x d mc ms mMC_writeTelling n0 Q cl 65 [some (.ref r0), some (.ref r1), some (.int v2)] [.int (f6 v2.toNatClampNeg), .int (f3 v2.toNatClampNeg), .ref r1] H uc us))))) :
    xW l x d mc ms mMC_writeTelling n0 Q cl 56 [some (.ref r0), some (.ref r1), some (.int v2)] [] H uc us := by
  refine xs_aload_n rfl rfl ?_
  refine xs_aload_n rfl rfl ?_
  obtain ⟨p1, ⟨_, h1, h2⟩, h⟩ := h
  refine xs_getf rfl fl_3_40 h1 h2 ?_
  refine xs_iload_n rfl rfl ?_
  obtain ⟨n2, f3, h1, h2, h⟩ := h
  refine xs_iald rfl h1 h2 ?_
  refine xs_aload_n rfl rfl ?_
  obtain ⟨p4, ⟨_, h1, h2⟩, h⟩ := h
  refine xs_getf rfl fl_3_37 h1 h2 ?_
  refine xs_iload_n rfl rfl ?_
  obtain ⟨n5, f6, h1, h2, h⟩ := h
  refine xs_iald rfl h1 h2 ?_
  exact h

-- b_MC_writeTelling_66: .invokevirtual 97
set_option maxRecDepth 20000 in
theorem b_MC_writeTelling_67 {l : Launch} {x : xX} {d mc ms n0 uc us : Nat} {Q : xO → xH → Prop} {cl : Bool} {r0 : Nat} {r1 : Nat} {v2 : Int32} {H : xH}
    (h : xW l x d mc ms mMC_writeTelling n0 Q cl 44 [some (.ref r0), some (.ref r1), some (.int (v2 + 1))] [] H uc us) :
    xW l x d mc ms mMC_writeTelling n0 Q cl 67 [some (.ref r0), some (.ref r1), some (.int v2)] [] H uc us := by
  refine xs_iincV rfl (w := 1) rfl rfl (L' := [some (.ref r0), some (.ref r1), some (.int (v2 + 1))]) rfl rfl ?_
  refine xs_goto (k' := 44) rfl rfl ?_
  exact h

set_option maxRecDepth 20000 in
theorem b_RC_isFull_0 {l : Launch} {x : xX} {d mc ms n0 uc us : Nat} {Q : xO → xH → Prop} {cl : Bool} {r0 : Nat} {H : xH}
    (h : xW l x d mc ms mRC_isFull n0 Q cl 4 [some (.ref r0), some (.int 0), some (.int 1)] [] H uc us) :
    xW l x d mc ms mRC_isFull n0 Q cl 0 [some (.ref r0), none, none] [] H uc us := by
  refine xs_iconstV (v := 0) rfl rfl ?_
  refine xs_istore_n rfl (L' := [some (.ref r0), some (.int 0), none]) rfl rfl ?_
  refine xs_iconstV (v := 1) rfl rfl ?_
  refine xs_istore_n rfl (L' := [some (.ref r0), some (.int 0), some (.int 1)]) rfl rfl ?_
  exact h

set_option maxRecDepth 20000 in
theorem b_RC_isFull_4 {l : Launch} {x : xX} {d mc ms n0 uc us : Nat} {Q : xO → xH → Prop} {cl : Bool} {r0 : Nat} {v1 : Int32} {v2 : Int32} {H : xH}
    (h : (15 < v2 → (¬ v1 = 32768 → narrow .boolean (.int 0) = .int 0 ∧ uc = mc ∧ us ≤ ms ∧ Q (.inl (some (.int 0))) H) ∧ (v1 = 32768 → narrow .boolean (.int 1) = .int 1 ∧ uc = mc ∧ us ≤ ms ∧ Q (.inl (some (.int 1))) H)) ∧ (¬ 15 < v2 → ∃ p1, gR H r0 5 0 p1 ∧ (∃ n2 f3, H[(p1 : Nat)]? = some (.inl (0, n2, .inl f3)) ∧ vp_in v2 n2 ∧ (xW l x d mc ms mRC_isFull n0 Q cl 4 [some (.ref r0), some (.int (v1 + ((f3 v2.toNatClampNeg) <<< ((((15 : Int32) - v2) : Int32) &&& 31)))), some (.int (v2 + 1))] [] H uc us)))) :
    xW l x d mc ms mRC_isFull n0 Q cl 4 [some (.ref r0), some (.int v1), some (.int v2)] [] H uc us := by
  refine xs_iload_n rfl rfl ?_
  refine xs_bipushV (v := 15) rfl rfl ?_
  refine xs_icmp_gt (k' := 20) rfl rfl (fun hb => ?_) (fun hb => ?_)
  · have h := h.1 hb
    refine xs_iload_n rfl rfl ?_
    refine xs_ldc rfl kc_5_31 ?_
    refine xs_icmp_ne (k' := 25) rfl rfl (fun hb => ?_) (fun hb => ?_)
    · have h := h.1 hb
      refine xs_iconstV (v := 0) rfl rfl ?_
      exact xs_zret rfl rfl h.1 h.2.1 h.2.2.1 h.2.2.2
    · have h := h.2 hb
      refine xs_iconstV (v := 1) rfl rfl ?_
      refine xs_goto (k' := 26) rfl rfl ?_
      exact xs_zret rfl rfl h.1 h.2.1 h.2.2.1 h.2.2.2
  · have h := h.2 hb
    refine xs_iload_n rfl rfl ?_
    refine xs_aload_n rfl rfl ?_
    obtain ⟨p1, ⟨_, h1, h2⟩, h⟩ := h
    refine xs_getf rfl fl_5_9 h1 h2 ?_
    refine xs_iload_n rfl rfl ?_
    obtain ⟨n2, f3, h1, h2, h⟩ := h
    refine xs_iald rfl h1 h2 ?_
    refine xs_bipushV (v := 15) rfl rfl ?_
    refine xs_iload_n rfl rfl ?_
    refine xs_isub rfl ?_
    refine xs_ishl rfl ?_
    refine xs_iadd rfl ?_
    refine xs_istore_n rfl (L' := [some (.ref r0), some (.int (v1 + ((f3 v2.toNatClampNeg) <<< ((((15 : Int32) - v2) : Int32) &&& 31)))), some (.int v2)]) rfl rfl ?_
    refine xs_iincV rfl (w := 1) rfl rfl (L' := [some (.ref r0), some (.int (v1 + ((f3 v2.toNatClampNeg) <<< ((((15 : Int32) - v2) : Int32) &&& 31)))), some (.int (v2 + 1))]) rfl rfl ?_
    refine xs_goto (k' := 4) rfl rfl ?_
    exact h

set_option maxRecDepth 20000 in
theorem b_RC_servesDistances_0 {l : Launch} {x : xX} {d mc ms n0 uc us : Nat} {Q : xO → xH → Prop} {cl : Bool} {r0 : Nat} {H : xH}
    (h : ∃ a1, gI H r0 5 2 a1 ∧ ((a1 = 0 → narrow .boolean (.int 1) = .int 1 ∧ uc = mc ∧ us ≤ ms ∧ Q (.inl (some (.int 1))) H) ∧ (¬ a1 = 0 → ∃ a2, gI H r0 5 2 a2 ∧ ((¬ a2 = 1 → xW l x d mc ms mRC_servesDistances n0 Q cl 14 [some (.ref r0)] [.ref r0] H uc us) ∧ (a2 = 1 → ∃ p3, gR H r0 5 0 p3 ∧ (∃ n4 f5, H[(p3 : Nat)]? = some (.inl (0, n4, .inl f5)) ∧ vp_in 1 n4 ∧ (((f5 (1 : Int32).toNatClampNeg) = 1 → narrow .boolean (.int 1) = .int 1 ∧ uc = mc ∧ us ≤ ms ∧ Q (.inl (some (.int 1))) H) ∧ (¬ (f5 (1 : Int32).toNatClampNeg) = 1 → xW l x d mc ms mRC_servesDistances n0 Q cl 14 [some (.ref r0)] [.ref r0] H uc us)))))))) :
    xW l x d mc ms mRC_servesDistances n0 Q cl 0 [some (.ref r0)] [] H uc us := by
  refine xs_aload_n rfl rfl ?_
  obtain ⟨a1, ⟨_, h1, h2⟩, h⟩ := h
  refine xs_getf rfl fl_5_27 h1 h2 ?_
  refine xs_if_eq (k' := 16) rfl rfl (fun hb => ?_) (fun hb => ?_)
  · have h := h.1 hb
    refine xs_iconstV (v := 1) rfl rfl ?_
    refine xs_goto (k' := 19) rfl rfl ?_
    exact xs_zret rfl rfl h.1 h.2.1 h.2.2.1 h.2.2.2
  · have h := h.2 hb
    refine xs_aload_n rfl rfl ?_
    obtain ⟨a2, ⟨_, h1, h2⟩, h⟩ := h
    refine xs_getf rfl fl_5_27 h1 h2 ?_
    refine xs_iconstV (v := 1) rfl rfl ?_
    refine xs_icmp_ne (k' := 13) rfl rfl (fun hb => ?_) (fun hb => ?_)
    · have h := h.1 hb
      refine xs_aload_n rfl rfl ?_
      exact h
    · have h := h.2 hb
      refine xs_aload_n rfl rfl ?_
      obtain ⟨p3, ⟨_, h1, h2⟩, h⟩ := h
      refine xs_getf rfl fl_5_9 h1 h2 ?_
      refine xs_iconstV (v := 1) rfl rfl ?_
      obtain ⟨n4, f5, h1, h2, h⟩ := h
      refine xs_iald rfl h1 h2 ?_
      refine xs_iconstV (v := 1) rfl rfl ?_
      refine xs_icmp_eq (k' := 16) rfl rfl (fun hb => ?_) (fun hb => ?_)
      · have h := h.1 hb
        refine xs_iconstV (v := 1) rfl rfl ?_
        refine xs_goto (k' := 19) rfl rfl ?_
        exact xs_zret rfl rfl h.1 h.2.1 h.2.2.1 h.2.2.2
      · have h := h.2 hb
        refine xs_aload_n rfl rfl ?_
        exact h

set_option maxRecDepth 20000 in
theorem b_RC_servesDistances_15 {l : Launch} {x : xX} {d mc ms n0 uc us : Nat} {Q : xO → xH → Prop} {cl : Bool} {r0 : Nat} {u0 : Int32} {H : xH}
    (h : (u0 = 0 → narrow .boolean (.int 0) = .int 0 ∧ uc = mc ∧ us ≤ ms ∧ Q (.inl (some (.int 0))) H) ∧ (¬ u0 = 0 → narrow .boolean (.int 1) = .int 1 ∧ uc = mc ∧ us ≤ ms ∧ Q (.inl (some (.int 1))) H)) :
    xW l x d mc ms mRC_servesDistances n0 Q cl 15 [some (.ref r0)] [.int u0] H uc us := by
  refine xs_if_eq (k' := 18) rfl rfl (fun hb => ?_) (fun hb => ?_)
  · have h := h.1 hb
    refine xs_iconstV (v := 0) rfl rfl ?_
    exact xs_zret rfl rfl h.1 h.2.1 h.2.2.1 h.2.2.2
  · have h := h.2 hb
    refine xs_iconstV (v := 1) rfl rfl ?_
    refine xs_goto (k' := 19) rfl rfl ?_
    exact xs_zret rfl rfl h.1 h.2.1 h.2.2.1 h.2.2.2

