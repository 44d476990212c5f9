set_option maxRecDepth 20000 in
theorem b_MO_init_0 {l : Launch} {x : xX} {d mc ms n0 uc us : Nat} {Q : xO → xH → Prop} {cl : Bool} {r0 : Nat} {H : xH}
    (h : xW l x d mc ms mMO_init n0 Q cl 1 [some (.ref r0)] [.ref r0] H uc us) :
    xW l x d mc ms mMO_init n0 Q cl 0 [some (.ref r0)] [] H uc us := by
  refine xs_aload_n rfl rfl ?_
  exact h

set_option maxRecDepth 20000 in
theorem b_MO_init_2 {l : Launch} {x : xX} {d mc ms n0 uc us : Nat} {Q : xO → xH → Prop} {cl : Bool} {r0 : Nat} {H : xH}
    (h : xW l x d mc ms mMO_init n0 Q cl 4 [some (.ref r0)] [.int 32768, .ref r0] H uc us) :
    xW l x d mc ms mMO_init n0 Q cl 2 [some (.ref r0)] [] H uc us := by
  refine xs_aload_n rfl rfl ?_
  refine xs_ldc rfl kc_12_7 ?_
  exact h

set_option maxRecDepth 20000 in
theorem b_MO_init_5 {l : Launch} {x : xX} {d mc ms n0 uc us : Nat} {Q : xO → xH → Prop} {cl : Bool} {r0 : Nat} {q0 : Nat} {q1 : Nat} {H : xH}
    (h : ∃ c1, H[(q0 : Nat)]? = some (.inr (12, c1)) ∧ 1 < c1.length ∧ (∀ H2 : xH, H2 = H.set q0 (.inr (12, c1.set 1 (.ref q1))) → xW l x d mc ms mMO_init n0 Q false 8 [some (.ref r0)] [.int 65536, .ref r0] H2 uc us)) :
    xW l x d mc ms mMO_init n0 Q cl 5 [some (.ref r0)] [.ref q1, .ref q0] H uc us := by
  obtain ⟨c1, h1, h2, h⟩ := h
  refine xs_putF rfl fl_12_8 h1 (fun q hq => by cases hq; exact ⟨rfl, rfl⟩) rfl rfl h2 ?_
  have h := h _ rfl
  generalize H.set q0 (.inr (12, c1.set 1 (.ref q1))) = H2 at h ⊢
  refine xs_aload_n rfl rfl ?_
  refine xs_ldc rfl kc_12_14 ?_
  exact h

set_option maxRecDepth 20000 in
theorem b_MO_init_9 {l : Launch} {x : xX} {d mc ms n0 uc us : Nat} {Q : xO → xH → Prop} {cl : Bool} {r0 : Nat} {q0 : Nat} {q1 : Nat} {H : xH}
    (h : ∃ c1, H[(q0 : Nat)]? = some (.inr (12, c1)) ∧ 3 < c1.length ∧ (∀ H2 : xH, H2 = H.set q0 (.inr (12, c1.set 3 (.ref q1))) → ∃ c3, H2[(r0 : Nat)]? = some (.inr (12, c3)) ∧ 6 < c3.length ∧ (∀ H4 : xH, H4 = H2.set r0 (.inr (12, c3.set 6 (.int (-1)))) → xW l x d mc ms mMO_init n0 Q false 15 [some (.ref r0)] [.int 64, .ref r0] H4 uc us))) :
    xW l x d mc ms mMO_init n0 Q cl 9 [some (.ref r0)] [.ref q1, .ref q0] H uc us := by
  obtain ⟨c1, h1, h2, h⟩ := h
  refine xs_putF rfl fl_12_15 h1 (fun q hq => by cases hq; exact ⟨rfl, rfl⟩) rfl rfl h2 ?_
  have h := h _ rfl
  generalize H.set q0 (.inr (12, c1.set 3 (.ref q1))) = H2 at h ⊢
  refine xs_aload_n rfl rfl ?_
  refine xs_iconstV (v := (-1)) rfl rfl ?_
  obtain ⟨c3, h1, h2, h⟩ := h
  refine xs_putf rfl fl_12_18 h1 (fun q hq => by cases hq; rfl) rfl h2 ?_
  have h := h _ rfl
  generalize H2.set r0 (.inr (12, c3.set 6 (.int (-1)))) = H4 at h ⊢
  refine xs_aload_n rfl rfl ?_
  refine xs_bipushV (v := 64) rfl rfl ?_
  exact h

set_option maxRecDepth 20000 in
theorem b_MO_init_16 {l : Launch} {x : xX} {d mc ms n0 uc us : Nat} {Q : xO → xH → Prop} {cl : Bool} {r0 : Nat} {q0 : Nat} {q1 : Nat} {H : xH}
    (h : ∃ c1, H[(q0 : Nat)]? = some (.inr (12, c1)) ∧ 9 < c1.length ∧ (∀ H2 : xH, H2 = H.set q0 (.inr (12, c1.set 9 (.ref q1))) → xW l x d mc ms mMO_init n0 Q false 19 [some (.ref r0)] [.int 64, .ref r0] H2 uc us)) :
    xW l x d mc ms mMO_init n0 Q cl 16 [some (.ref r0)] [.ref q1, .ref q0] H uc us := by
  obtain ⟨c1, h1, h2, h⟩ := h
  refine xs_putF rfl fl_12_22 h1 (fun q hq => by cases hq; exact ⟨rfl, rfl⟩) rfl rfl h2 ?_
  have h := h _ rfl
  generalize H.set q0 (.inr (12, c1.set 9 (.ref q1))) = H2 at h ⊢
  refine xs_aload_n rfl rfl ?_
  refine xs_bipushV (v := 64) rfl rfl ?_
  exact h

set_option maxRecDepth 20000 in
theorem b_MO_init_20 {l : Launch} {x : xX} {d mc ms n0 uc us : Nat} {Q : xO → xH → Prop} {cl : Bool} {r0 : Nat} {q0 : Nat} {q1 : Nat} {H : xH}
    (h : ∃ c1, H[(q0 : Nat)]? = some (.inr (12, c1)) ∧ 10 < c1.length ∧ (∀ H2 : xH, H2 = H.set q0 (.inr (12, c1.set 10 (.ref q1))) → xW l x d mc ms mMO_init n0 Q false 23 [some (.ref r0)] [.int 64, .ref r0] H2 uc us)) :
    xW l x d mc ms mMO_init n0 Q cl 20 [some (.ref r0)] [.ref q1, .ref q0] H uc us := by
  obtain ⟨c1, h1, h2, h⟩ := h
  refine xs_putF rfl fl_12_26 h1 (fun q hq => by cases hq; exact ⟨rfl, rfl⟩) rfl rfl h2 ?_
  have h := h _ rfl
  generalize H.set q0 (.inr (12, c1.set 10 (.ref q1))) = H2 at h ⊢
  refine xs_aload_n rfl rfl ?_
  refine xs_bipushV (v := 64) rfl rfl ?_
  exact h

set_option maxRecDepth 20000 in
theorem b_MO_init_24 {l : Launch} {x : xX} {d mc ms n0 uc us : Nat} {Q : xO → xH → Prop} {cl : Bool} {r0 : Nat} {q0 : Nat} {q1 : Nat} {H : xH}
    (h : ∃ c1, H[(q0 : Nat)]? = some (.inr (12, c1)) ∧ 11 < c1.length ∧ (∀ H2 : xH, H2 = H.set q0 (.inr (12, c1.set 11 (.ref q1))) → xW l x d mc ms mMO_init n0 Q false 27 [some (.ref r0)] [.int 64, .ref r0] H2 uc us)) :
    xW l x d mc ms mMO_init n0 Q cl 24 [some (.ref r0)] [.ref q1, .ref q0] H uc us := by
  obtain ⟨c1, h1, h2, h⟩ := h
  refine xs_putF rfl fl_12_29 h1 (fun q hq => by cases hq; exact ⟨rfl, rfl⟩) rfl rfl h2 ?_
  have h := h _ rfl
  generalize H.set q0 (.inr (12, c1.set 11 (.ref q1))) = H2 at h ⊢
  refine xs_aload_n rfl rfl ?_
  refine xs_bipushV (v := 64) rfl rfl ?_
  exact h

set_option maxRecDepth 20000 in
theorem b_MO_init_28 {l : Launch} {x : xX} {d mc ms n0 uc us : Nat} {Q : xO → xH → Prop} {cl : Bool} {r0 : Nat} {q0 : Nat} {q1 : Nat} {H : xH}
    (h : ∃ c1, H[(q0 : Nat)]? = some (.inr (12, c1)) ∧ 12 < c1.length ∧ (∀ H2 : xH, H2 = H.set q0 (.inr (12, c1.set 12 (.ref q1))) → xW l x d mc ms mMO_init n0 Q false 31 [some (.ref r0)] [.int 48, .ref r0] H2 uc us)) :
    xW l x d mc ms mMO_init n0 Q cl 28 [some (.ref r0)] [.ref q1, .ref q0] H uc us := by
  obtain ⟨c1, h1, h2, h⟩ := h
  refine xs_putF rfl fl_12_32 h1 (fun q hq => by cases hq; exact ⟨rfl, rfl⟩) rfl rfl h2 ?_
  have h := h _ rfl
  generalize H.set q0 (.inr (12, c1.set 12 (.ref q1))) = H2 at h ⊢
  refine xs_aload_n rfl rfl ?_
  refine xs_bipushV (v := 48) rfl rfl ?_
  exact h

set_option maxRecDepth 20000 in
theorem b_MO_init_32 {l : Launch} {x : xX} {d mc ms n0 uc us : Nat} {Q : xO → xH → Prop} {cl : Bool} {r0 : Nat} {q0 : Nat} {q1 : Nat} {H : xH}
    (h : ∃ c1, H[(q0 : Nat)]? = some (.inr (12, c1)) ∧ 15 < c1.length ∧ (∀ H2 : xH, H2 = H.set q0 (.inr (12, c1.set 15 (.ref q1))) → xW l x d mc ms mMO_init n0 Q false 35 [some (.ref r0)] [.int 600, .ref r0] H2 uc us)) :
    xW l x d mc ms mMO_init n0 Q cl 32 [some (.ref r0)] [.ref q1, .ref q0] H uc us := by
  obtain ⟨c1, h1, h2, h⟩ := h
  refine xs_putF rfl fl_12_35 h1 (fun q hq => by cases hq; exact ⟨rfl, rfl⟩) rfl rfl h2 ?_
  have h := h _ rfl
  generalize H.set q0 (.inr (12, c1.set 15 (.ref q1))) = H2 at h ⊢
  refine xs_aload_n rfl rfl ?_
  refine xs_sipushV (v := 600) rfl rfl ?_
  exact h

set_option maxRecDepth 20000 in
theorem b_MO_init_36 {l : Launch} {x : xX} {d mc ms n0 uc us : Nat} {Q : xO → xH → Prop} {cl : Bool} {r0 : Nat} {q0 : Nat} {q1 : Nat} {H : xH}
    (h : ∃ c1, H[(q0 : Nat)]? = some (.inr (12, c1)) ∧ 16 < c1.length ∧ (∀ H2 : xH, H2 = H.set q0 (.inr (12, c1.set 16 (.ref q1))) → xW l x d mc ms mMO_init n0 Q false 39 [some (.ref r0)] [.int 600, .ref r0] H2 uc us)) :
    xW l x d mc ms mMO_init n0 Q cl 36 [some (.ref r0)] [.ref q1, .ref q0] H uc us := by
  obtain ⟨c1, h1, h2, h⟩ := h
  refine xs_putF rfl fl_12_38 h1 (fun q hq => by cases hq; exact ⟨rfl, rfl⟩) rfl rfl h2 ?_
  have h := h _ rfl
  generalize H.set q0 (.inr (12, c1.set 16 (.ref q1))) = H2 at h ⊢
  refine xs_aload_n rfl rfl ?_
  refine xs_sipushV (v := 600) rfl rfl ?_
  exact h

set_option maxRecDepth 20000 in
theorem b_MO_init_40 {l : Launch} {x : xX} {d mc ms n0 uc us : Nat} {Q : xO → xH → Prop} {cl : Bool} {r0 : Nat} {q0 : Nat} {q1 : Nat} {H : xH}
    (h : ∃ c1, H[(q0 : Nat)]? = some (.inr (12, c1)) ∧ 17 < c1.length ∧ (∀ H2 : xH, H2 = H.set q0 (.inr (12, c1.set 17 (.ref q1))) → xW l x d mc ms mMO_init n0 Q false 43 [some (.ref r0)] [.int 400, .ref r0] H2 uc us)) :
    xW l x d mc ms mMO_init n0 Q cl 40 [some (.ref r0)] [.ref q1, .ref q0] H uc us := by
  obtain ⟨c1, h1, h2, h⟩ := h
  refine xs_putF rfl fl_12_41 h1 (fun q hq => by cases hq; exact ⟨rfl, rfl⟩) rfl rfl h2 ?_
  have h := h _ rfl
  generalize H.set q0 (.inr (12, c1.set 17 (.ref q1))) = H2 at h ⊢
  refine xs_aload_n rfl rfl ?_
  refine xs_sipushV (v := 400) rfl rfl ?_
  exact h

set_option maxRecDepth 20000 in
theorem b_MO_init_44 {l : Launch} {x : xX} {d mc ms n0 uc us : Nat} {Q : xO → xH → Prop} {cl : Bool} {r0 : Nat} {q0 : Nat} {q1 : Nat} {H : xH}
    (h : ∃ c1, H[(q0 : Nat)]? = some (.inr (12, c1)) ∧ 18 < c1.length ∧ (∀ H2 : xH, H2 = H.set q0 (.inr (12, c1.set 18 (.ref q1))) → xW l x d mc ms mMO_init n0 Q false 47 [some (.ref r0)] [.int 1024, .ref r0] H2 uc us)) :
    xW l x d mc ms mMO_init n0 Q cl 44 [some (.ref r0)] [.ref q1, .ref q0] H uc us := by
  obtain ⟨c1, h1, h2, h⟩ := h
  refine xs_putF rfl fl_12_44 h1 (fun q hq => by cases hq; exact ⟨rfl, rfl⟩) rfl rfl h2 ?_
  have h := h _ rfl
  generalize H.set q0 (.inr (12, c1.set 18 (.ref q1))) = H2 at h ⊢
  refine xs_aload_n rfl rfl ?_
  refine xs_sipushV (v := 1024) rfl rfl ?_
  exact h

set_option maxRecDepth 20000 in
theorem b_MO_init_48 {l : Launch} {x : xX} {d mc ms n0 uc us : Nat} {Q : xO → xH → Prop} {cl : Bool} {r0 : Nat} {q0 : Nat} {q1 : Nat} {H : xH}
    (h : ∃ c1, H[(q0 : Nat)]? = some (.inr (12, c1)) ∧ 19 < c1.length ∧ (∀ H2 : xH, H2 = H.set q0 (.inr (12, c1.set 19 (.ref q1))) → xW l x d mc ms mMO_init n0 Q false 51 [some (.ref r0)] [.int 1024, .ref r0] H2 uc us)) :
    xW l x d mc ms mMO_init n0 Q cl 48 [some (.ref r0)] [.ref q1, .ref q0] H uc us := by
  obtain ⟨c1, h1, h2, h⟩ := h
  refine xs_putF rfl fl_12_47 h1 (fun q hq => by cases hq; exact ⟨rfl, rfl⟩) rfl rfl h2 ?_
  have h := h _ rfl
  generalize H.set q0 (.inr (12, c1.set 19 (.ref q1))) = H2 at h ⊢
  refine xs_aload_n rfl rfl ?_
  refine xs_sipushV (v := 1024) rfl rfl ?_
  exact h

set_option maxRecDepth 20000 in
theorem b_MO_init_52 {l : Launch} {x : xX} {d mc ms n0 uc us : Nat} {Q : xO → xH → Prop} {cl : Bool} {r0 : Nat} {q0 : Nat} {q1 : Nat} {H : xH}
    (h : ∃ c1, H[(q0 : Nat)]? = some (.inr (12, c1)) ∧ 20 < c1.length ∧ (∀ H2 : xH, H2 = H.set q0 (.inr (12, c1.set 20 (.ref q1))) → xW l x d mc ms mMO_init n0 Q false 55 [some (.ref r0)] [.int 600, .ref r0] H2 uc us)) :
    xW l x d mc ms mMO_init n0 Q cl 52 [some (.ref r0)] [.ref q1, .ref q0] H uc us := by
  obtain ⟨c1, h1, h2, h⟩ := h
  refine xs_putF rfl fl_12_50 h1 (fun q hq => by cases hq; exact ⟨rfl, rfl⟩) rfl rfl h2 ?_
  have h := h _ rfl
  generalize H.set q0 (.inr (12, c1.set 20 (.ref q1))) = H2 at h ⊢
  refine xs_aload_n rfl rfl ?_
  refine xs_sipushV (v := 600) rfl rfl ?_
  exact h

set_option maxRecDepth 20000 in
theorem b_MO_init_56 {l : Launch} {x : xX} {d mc ms n0 uc us : Nat} {Q : xO → xH → Prop} {cl : Bool} {r0 : Nat} {q0 : Nat} {q1 : Nat} {H : xH}
    (h : ∃ c1, H[(q0 : Nat)]? = some (.inr (12, c1)) ∧ 22 < c1.length ∧ (∀ H2 : xH, H2 = H.set q0 (.inr (12, c1.set 22 (.ref q1))) → xW l x d mc ms mMO_init n0 Q false 59 [some (.ref r0)] [.int 600, .ref r0] H2 uc us)) :
    xW l x d mc ms mMO_init n0 Q cl 56 [some (.ref r0)] [.ref q1, .ref q0] H uc us := by
  obtain ⟨c1, h1, h2, h⟩ := h
  refine xs_putF rfl fl_12_53 h1 (fun q hq => by cases hq; exact ⟨rfl, rfl⟩) rfl rfl h2 ?_
  have h := h _ rfl
  generalize H.set q0 (.inr (12, c1.set 22 (.ref q1))) = H2 at h ⊢
  refine xs_aload_n rfl rfl ?_
  refine xs_sipushV (v := 600) rfl rfl ?_
  exact h

set_option maxRecDepth 20000 in
theorem b_MO_init_60 {l : Launch} {x : xX} {d mc ms n0 uc us : Nat} {Q : xO → xH → Prop} {cl : Bool} {r0 : Nat} {q0 : Nat} {q1 : Nat} {H : xH}
    (h : ∃ c1, H[(q0 : Nat)]? = some (.inr (12, c1)) ∧ 23 < c1.length ∧ (∀ H2 : xH, H2 = H.set q0 (.inr (12, c1.set 23 (.ref q1))) → xW l x d mc ms mMO_init n0 Q false 63 [some (.ref r0)] [.int 9600, .ref r0] H2 uc us)) :
    xW l x d mc ms mMO_init n0 Q cl 60 [some (.ref r0)] [.ref q1, .ref q0] H uc us := by
  obtain ⟨c1, h1, h2, h⟩ := h
  refine xs_putF rfl fl_12_57 h1 (fun q hq => by cases hq; exact ⟨rfl, rfl⟩) rfl rfl h2 ?_
  have h := h _ rfl
  generalize H.set q0 (.inr (12, c1.set 23 (.ref q1))) = H2 at h ⊢
  refine xs_aload_n rfl rfl ?_
  refine xs_sipushV (v := 9600) rfl rfl ?_
  exact h

set_option maxRecDepth 20000 in
theorem b_MO_init_64 {l : Launch} {x : xX} {d mc ms n0 uc us : Nat} {Q : xO → xH → Prop} {cl : Bool} {r0 : Nat} {q0 : Nat} {q1 : Nat} {H : xH}
    (h : ∃ c1, H[(q0 : Nat)]? = some (.inr (12, c1)) ∧ 24 < c1.length ∧ (∀ H2 : xH, H2 = H.set q0 (.inr (12, c1.set 24 (.ref q1))) → xW l x d mc ms mMO_init n0 Q false 67 [some (.ref r0)] [.int 9600, .ref r0] H2 uc us)) :
    xW l x d mc ms mMO_init n0 Q cl 64 [some (.ref r0)] [.ref q1, .ref q0] H uc us := by
  obtain ⟨c1, h1, h2, h⟩ := h
  refine xs_putF rfl fl_12_60 h1 (fun q hq => by cases hq; exact ⟨rfl, rfl⟩) rfl rfl h2 ?_
  have h := h _ rfl
  generalize H.set q0 (.inr (12, c1.set 24 (.ref q1))) = H2 at h ⊢
  refine xs_aload_n rfl rfl ?_
  refine xs_sipushV (v := 9600) rfl rfl ?_
  exact h

set_option maxRecDepth 20000 in
theorem b_MO_init_68 {l : Launch} {x : xX} {d mc ms n0 uc us : Nat} {Q : xO → xH → Prop} {cl : Bool} {r0 : Nat} {q0 : Nat} {q1 : Nat} {H : xH}
    (h : ∃ c1, H[(q0 : Nat)]? = some (.inr (12, c1)) ∧ 25 < c1.length ∧ (∀ H2 : xH, H2 = H.set q0 (.inr (12, c1.set 25 (.ref q1))) → xW l x d mc ms mMO_init n0 Q false 71 [some (.ref r0)] [.int 16, .ref r0] H2 uc us)) :
    xW l x d mc ms mMO_init n0 Q cl 68 [some (.ref r0)] [.ref q1, .ref q0] H uc us := by
  obtain ⟨c1, h1, h2, h⟩ := h
  refine xs_putF rfl fl_12_63 h1 (fun q hq => by cases hq; exact ⟨rfl, rfl⟩) rfl rfl h2 ?_
  have h := h _ rfl
  generalize H.set q0 (.inr (12, c1.set 25 (.ref q1))) = H2 at h ⊢
  refine xs_aload_n rfl rfl ?_
  refine xs_bipushV (v := 16) rfl rfl ?_
  exact h

set_option maxRecDepth 20000 in
theorem b_MO_init_72 {l : Launch} {x : xX} {d mc ms n0 uc us : Nat} {Q : xO → xH → Prop} {cl : Bool} {r0 : Nat} {q0 : Nat} {q1 : Nat} {H : xH}
    (h : ∃ c1, H[(q0 : Nat)]? = some (.inr (12, c1)) ∧ 26 < c1.length ∧ (∀ H2 : xH, H2 = H.set q0 (.inr (12, c1.set 26 (.ref q1))) → xW l x d mc ms mMO_init n0 Q false 75 [some (.ref r0)] [.int 300, .ref r0] H2 uc us)) :
    xW l x d mc ms mMO_init n0 Q cl 72 [some (.ref r0)] [.ref q1, .ref q0] H uc us := by
  obtain ⟨c1, h1, h2, h⟩ := h
  refine xs_putF rfl fl_12_67 h1 (fun q hq => by cases hq; exact ⟨rfl, rfl⟩) rfl rfl h2 ?_
  have h := h _ rfl
  generalize H.set q0 (.inr (12, c1.set 26 (.ref q1))) = H2 at h ⊢
  refine xs_aload_n rfl rfl ?_
  refine xs_sipushV (v := 300) rfl rfl ?_
  exact h

set_option maxRecDepth 20000 in
theorem b_MO_init_76 {l : Launch} {x : xX} {d mc ms n0 uc us : Nat} {Q : xO → xH → Prop} {cl : Bool} {r0 : Nat} {q0 : Nat} {q1 : Nat} {H : xH}
    (h : ∃ c1, H[(q0 : Nat)]? = some (.inr (12, c1)) ∧ 27 < c1.length ∧ (∀ H2 : xH, H2 = H.set q0 (.inr (12, c1.set 27 (.ref q1))) → xW l x d mc ms mMO_init n0 Q false 79 [some (.ref r0)] [.int 400, .ref r0] H2 uc us)) :
    xW l x d mc ms mMO_init n0 Q cl 76 [some (.ref r0)] [.ref q1, .ref q0] H uc us := by
  obtain ⟨c1, h1, h2, h⟩ := h
  refine xs_putF rfl fl_12_70 h1 (fun q hq => by cases hq; exact ⟨rfl, rfl⟩) rfl rfl h2 ?_
  have h := h _ rfl
  generalize H.set q0 (.inr (12, c1.set 27 (.ref q1))) = H2 at h ⊢
  refine xs_aload_n rfl rfl ?_
  refine xs_sipushV (v := 400) rfl rfl ?_
  exact h

set_option maxRecDepth 20000 in
theorem b_MO_init_80 {l : Launch} {x : xX} {d mc ms n0 uc us : Nat} {Q : xO → xH → Prop} {cl : Bool} {r0 : Nat} {q0 : Nat} {q1 : Nat} {H : xH}
    (h : ∃ c1, H[(q0 : Nat)]? = some (.inr (12, c1)) ∧ 28 < c1.length ∧ (∀ H2 : xH, H2 = H.set q0 (.inr (12, c1.set 28 (.ref q1))) → xW l x d mc ms mMO_init n0 Q false 83 [some (.ref r0)] [.int 400, .ref r0] H2 uc us)) :
    xW l x d mc ms mMO_init n0 Q cl 80 [some (.ref r0)] [.ref q1, .ref q0] H uc us := by
  obtain ⟨c1, h1, h2, h⟩ := h
  refine xs_putF rfl fl_12_73 h1 (fun q hq => by cases hq; exact ⟨rfl, rfl⟩) rfl rfl h2 ?_
  have h := h _ rfl
  generalize H.set q0 (.inr (12, c1.set 28 (.ref q1))) = H2 at h ⊢
  refine xs_aload_n rfl rfl ?_
  refine xs_sipushV (v := 400) rfl rfl ?_
  exact h

set_option maxRecDepth 20000 in
theorem b_MO_init_84 {l : Launch} {x : xX} {d mc ms n0 uc us : Nat} {Q : xO → xH → Prop} {cl : Bool} {r0 : Nat} {q0 : Nat} {q1 : Nat} {H : xH}
    (h : ∃ c1, H[(q0 : Nat)]? = some (.inr (12, c1)) ∧ 29 < c1.length ∧ (∀ H2 : xH, H2 = H.set q0 (.inr (12, c1.set 29 (.ref q1))) → uc = mc ∧ us ≤ ms ∧ Q (.inl none) H2)) :
    xW l x d mc ms mMO_init n0 Q cl 84 [some (.ref r0)] [.ref q1, .ref q0] H uc us := by
  obtain ⟨c1, h1, h2, h⟩ := h
  refine xs_putF rfl fl_12_76 h1 (fun q hq => by cases hq; exact ⟨rfl, rfl⟩) rfl rfl h2 ?_
  have h := h _ rfl
  generalize H.set q0 (.inr (12, c1.set 29 (.ref q1))) = H2 at h ⊢
  exact xs_vret rfl rfl h.1 h.2.1 h.2.2

set_option maxRecDepth 20000 in
theorem b_MO_thrown_0 {l : Launch} {x : xX} {d mc ms n0 uc us : Nat} {Q : xO → xH → Prop} {cl : Bool} {r0 : Nat} {H : xH}
    (h : ∃ a1, gI H r0 12 0 a1 ∧ (uc = mc ∧ us ≤ ms ∧ Q (.inl (some (.int a1))) H)) :
    xW l x d mc ms mMO_thrown n0 Q cl 0 [some (.ref r0)] [] H uc us := by
  refine xs_aload_n rfl rfl ?_
  obtain ⟨a1, ⟨_, h1, h2⟩, h⟩ := h
  refine xs_getf rfl fl_12_79 h1 h2 ?_
  exact xs_iret rfl rfl h.1 h.2.1 h.2.2

set_option maxRecDepth 20000 in
theorem b_MO_feed_0 {l : Launch} {x : xX} {d mc ms n0 uc us : Nat} {Q : xO → xH → Prop} {cl : Bool} {r0 : Nat} {v1 : Int32} {v2 : Int32} {v3 : Int32} {v4 : Int32} {v5 : Int32} {H : xH}
    (h : ∃ a1, gI H r0 12 2 a1 ∧ (((a1 + 20) ≤ 32768 → ∃ c2, H[(r0 : Nat)]? = some (.inr (12, c2)) ∧ 0 < c2.length ∧ (∀ H3 : xH, H3 = H.set r0 (.inr (12, c2.set 0 (.int 0))) → ∃ a4, gI H3 r0 12 0 a4 ∧ ((a4 ≤ 0 → xW l x d mc ms mMO_feed n0 Q false 18 [some (.ref r0), some (.int v1), some (.int v2), some (.int v3), some (.int v4), some (.int v5)] [.int v1, .ref r0] H3 uc us) ∧ (¬ a4 ≤ 0 → uc = mc ∧ us ≤ ms ∧ Q (.inl (some (.int 0))) H3)))) ∧ (¬ (a1 + 20) ≤ 32768 → ∃ c5, H[(r0 : Nat)]? = some (.inr (12, c5)) ∧ 0 < c5.length ∧ (∀ H6 : xH, H6 = H.set r0 (.inr (12, c5.set 0 (.int 1))) → ∃ a7, gI H6 r0 12 0 a7 ∧ ((a7 ≤ 0 → xW l x d mc ms mMO_feed n0 Q false 18 [some (.ref r0), some (.int v1), some (.int v2), some (.int v3), some (.int v4), some (.int v5)] [.int v1, .ref r0] H6 uc us) ∧ (¬ a7 ≤ 0 → uc = mc ∧ us ≤ ms ∧ Q (.inl (some (.int 0))) H6)))))) :
    xW l x d mc ms mMO_feed n0 Q cl 0 [some (.ref r0), some (.int v1), some (.int v2), some (.int v3), some (.int v4), some (.int v5)] [] H uc us := by
  refine xs_aload_n rfl rfl ?_
  refine xs_aload_n rfl rfl ?_
  obtain ⟨a1, ⟨_, h1, h2⟩, h⟩ := h
  refine xs_getf rfl fl_12_82 h1 h2 ?_
  refine xs_bipushV (v := 20) rfl rfl ?_
  refine xs_iadd rfl ?_
  refine xs_ldc rfl kc_12_7 ?_
  refine xs_icmp_le (k' := 9) rfl rfl (fun hb => ?_) (fun hb => ?_)
  · have h := h.1 hb
    refine xs_iconstV (v := 0) rfl rfl ?_
    obtain ⟨c2, h1, h2, h⟩ := h
    refine xs_putf rfl fl_12_79 h1 (fun q hq => by cases hq; rfl) rfl h2 ?_
    have h := h _ rfl
    generalize H.set r0 (.inr (12, c2.set 0 (.int 0))) = H3 at h ⊢
    refine xs_aload_n rfl rfl ?_
    obtain ⟨a4, ⟨_, h1, h2⟩, h⟩ := h
    refine xs_getf rfl fl_12_79 h1 h2 ?_
    refine xs_if_le (k' := 16) rfl rfl (fun hb => ?_) (fun hb => ?_)
    · have h := h.1 hb
      refine xs_aload_n rfl rfl ?_
      refine xs_iload_n rfl rfl ?_
      exact h
    · have h := h.2 hb
      refine xs_iconstV (v := 0) rfl rfl ?_
      exact xs_iret rfl rfl h.1 h.2.1 h.2.2
  · have h := h.2 hb
    refine xs_iconstV (v := 1) rfl rfl ?_
    refine xs_goto (k' := 10) rfl rfl ?_
    obtain ⟨c5, h1, h2, h⟩ := h
    refine xs_putf rfl fl_12_79 h1 (fun q hq => by cases hq; rfl) rfl h2 ?_
    have h := h _ rfl
    generalize H.set r0 (.inr (12, c5.set 0 (.int 1))) = H6 at h ⊢
    refine xs_aload_n rfl rfl ?_
    obtain ⟨a7, ⟨_, h1, h2⟩, h⟩ := h
    refine xs_getf rfl fl_12_79 h1 h2 ?_
    refine xs_if_le (k' := 16) rfl rfl (fun hb => ?_) (fun hb => ?_)
    · have h := h.1 hb
      refine xs_aload_n rfl rfl ?_
      refine xs_iload_n rfl rfl ?_
      exact h
    · have h := h.2 hb
      refine xs_iconstV (v := 0) rfl rfl ?_
      exact xs_iret rfl rfl h.1 h.2.1 h.2.2

set_option maxRecDepth 20000 in
theorem b_MO_feed_19 {l : Launch} {x : xX} {d mc ms n0 uc us : Nat} {Q : xO → xH → Prop} {cl : Bool} {r0 : Nat} {v1 : Int32} {v2 : Int32} {v3 : Int32} {v4 : Int32} {v5 : Int32} {H : xH}
    (h : xW l x d mc ms mMO_feed n0 Q cl 21 [some (.ref r0), some (.int v1), some (.int v2), some (.int v3), some (.int v4), some (.int v5)] [.int v2, .ref r0] H uc us) :
    xW l x d mc ms mMO_feed n0 Q cl 19 [some (.ref r0), some (.int v1), some (.int v2), some (.int v3), some (.int v4), some (.int v5)] [] H uc us := by
  refine xs_aload_n rfl rfl ?_
  refine xs_iload_n rfl rfl ?_
  exact h

set_option maxRecDepth 20000 in
theorem b_MO_feed_22 {l : Launch} {x : xX} {d mc ms n0 uc us : Nat} {Q : xO → xH → Prop} {cl : Bool} {r0 : Nat} {v1 : Int32} {v2 : Int32} {v3 : Int32} {v4 : Int32} {v5 : Int32} {H : xH}
    (h : xW l x d mc ms mMO_feed n0 Q cl 24 [some (.ref r0), some (.int v1), some (.int v2), some (.int v3), some (.int v4), some (.int v5)] [.int v3, .ref r0] H uc us) :
    xW l x d mc ms mMO_feed n0 Q cl 22 [some (.ref r0), some (.int v1), some (.int v2), some (.int v3), some (.int v4), some (.int v5)] [] H uc us := by
  refine xs_aload_n rfl rfl ?_
  refine xs_iload_n rfl rfl ?_
  exact h

set_option maxRecDepth 20000 in
theorem b_MO_feed_25 {l : Launch} {x : xX} {d mc ms n0 uc us : Nat} {Q : xO → xH → Prop} {cl : Bool} {r0 : Nat} {v1 : Int32} {v2 : Int32} {v3 : Int32} {v4 : Int32} {v5 : Int32} {H : xH}
    (h : xW l x d mc ms mMO_feed n0 Q cl 27 [some (.ref r0), some (.int v1), some (.int v2), some (.int v3), some (.int v4), some (.int v5)] [.int v4, .ref r0] H uc us) :
    xW l x d mc ms mMO_feed n0 Q cl 25 [some (.ref r0), some (.int v1), some (.int v2), some (.int v3), some (.int v4), some (.int v5)] [] H uc us := by
  refine xs_aload_n rfl rfl ?_
  refine xs_iload rfl rfl ?_
  exact h

set_option maxRecDepth 20000 in
theorem b_MO_feed_28 {l : Launch} {x : xX} {d mc ms n0 uc us : Nat} {Q : xO → xH → Prop} {cl : Bool} {r0 : Nat} {v1 : Int32} {v2 : Int32} {v3 : Int32} {v4 : Int32} {v5 : Int32} {H : xH}
    (h : xW l x d mc ms mMO_feed n0 Q cl 30 [some (.ref r0), some (.int v1), some (.int v2), some (.int v3), some (.int v4), some (.int v5)] [.int v5, .ref r0] H uc us) :
    xW l x d mc ms mMO_feed n0 Q cl 28 [some (.ref r0), some (.int v1), some (.int v2), some (.int v3), some (.int v4), some (.int v5)] [] H uc us := by
  refine xs_aload_n rfl rfl ?_
  refine xs_iload rfl rfl ?_
  exact h

set_option maxRecDepth 20000 in
theorem b_MO_feed_31 {l : Launch} {x : xX} {d mc ms n0 uc us : Nat} {Q : xO → xH → Prop} {cl : Bool} {r0 : Nat} {v1 : Int32} {v2 : Int32} {v3 : Int32} {v4 : Int32} {v5 : Int32} {H : xH}
    (h : ∃ a1, gI H r0 12 2 a1 ∧ (uc = mc ∧ us ≤ ms ∧ Q (.inl (some (.int a1))) H)) :
    xW l x d mc ms mMO_feed n0 Q cl 31 [some (.ref r0), some (.int v1), some (.int v2), some (.int v3), some (.int v4), some (.int v5)] [] H uc us := by
  refine xs_aload_n rfl rfl ?_
  obtain ⟨a1, ⟨_, h1, h2⟩, h⟩ := h
  refine xs_getf rfl fl_12_82 h1 h2 ?_
  exact xs_iret rfl rfl h.1 h.2.1 h.2.2

set_option maxRecDepth 20000 in
theorem b_MO_type_0 {l : Launch} {x : xX} {d mc ms n0 uc us : Nat} {Q : xO → xH → Prop} {cl : Bool} {r0 : Nat} {v1 : Int32} {H : xH}
    (h : xW l x d mc ms mMO_type n0 Q cl 2 [some (.ref r0), some (.int v1), some (.int 24)] [] H uc us) :
    xW l x d mc ms mMO_type n0 Q cl 0 [some (.ref r0), some (.int v1), none] [] H uc us := by
  refine xs_bipushV (v := 24) rfl rfl ?_
  refine xs_istore_n rfl (L' := [some (.ref r0), some (.int v1), some (.int 24)]) rfl rfl ?_
  exact h

set_option maxRecDepth 20000 in
theorem b_MO_type_2 {l : Launch} {x : xX} {d mc ms n0 uc us : Nat} {Q : xO → xH → Prop} {cl : Bool} {r0 : Nat} {v1 : Int32} {v2 : Int32} {H : xH}
    (h : (v2 < 0 → uc = mc ∧ us ≤ ms ∧ Q (.inl none) H) ∧ (¬ v2 < 0 → ∃ p1, gR H r0 12 1 p1 ∧ (∃ a2, gI H r0 12 2 a2 ∧ (∃ n3 f4, H[(p1 : Nat)]? = some (.inl (1, n3, .inl f4)) ∧ vp_in a2 n3 ∧ (∀ H5 : xH, H5 = H.set p1 (.inl (1, n3, .inl (upd f4 (a2.toNatClampNeg) (vp_nar .byte ((v1 >>> ((v2 : Int32) &&& 31)).toInt8.toInt32))))) → ∃ a6, gI H5 r0 12 2 a6 ∧ (∃ c7, H5[(r0 : Nat)]? = some (.inr (12, c7)) ∧ 2 < c7.length ∧ (∀ H8 : xH, H8 = H5.set r0 (.inr (12, c7.set 2 (.int (a6 + 1)))) → xW l x d mc ms mMO_type n0 Q false 2 [some (.ref r0), some (.int v1), some (.int (v2 + (-8)))] [] H8 uc us))))))) :
    xW l x d mc ms mMO_type n0 Q cl 2 [some (.ref r0), some (.int v1), some (.int v2)] [] H uc us := by
  refine xs_iload_n rfl rfl ?_
  refine xs_if_lt (k' := 21) rfl rfl (fun hb => ?_) (fun hb => ?_)
  · have h := h.1 hb
    exact xs_vret rfl rfl h.1 h.2.1 h.2.2
  · have h := h.2 hb
    refine xs_aload_n rfl rfl ?_
    obtain ⟨p1, ⟨_, h1, h2⟩, h⟩ := h
    refine xs_getf rfl fl_12_8 h1 h2 ?_
    refine xs_aload_n rfl rfl ?_
    obtain ⟨a2, ⟨_, h1, h2⟩, h⟩ := h
    refine xs_getf rfl fl_12_82 h1 h2 ?_
    refine xs_iload_n rfl rfl ?_
    refine xs_iload_n rfl rfl ?_
    refine xs_ishr rfl ?_
    refine xs_i2b rfl ?_
    obtain ⟨n3, f4, h1, h2, h⟩ := h
    refine xs_bast rfl h1 h2 ?_
    have h := h _ rfl
    generalize H.set p1 (.inl (1, n3, .inl (upd f4 (a2.toNatClampNeg) (vp_nar .byte ((v1 >>> ((v2 : Int32) &&& 31)).toInt8.toInt32))))) = H5 at h ⊢
    refine xs_aload_n rfl rfl ?_
    refine xs_dup rfl rfl ?_
    obtain ⟨a6, ⟨_, h1, h2⟩, h⟩ := h
    refine xs_getf rfl fl_12_82 h1 h2 ?_
    refine xs_iconstV (v := 1) rfl rfl ?_
    refine xs_iadd rfl ?_
    obtain ⟨c7, h1, h2, h⟩ := h
    refine xs_putf rfl fl_12_82 h1 (fun q hq => by cases hq; rfl) rfl h2 ?_
    have h := h _ rfl
    generalize H5.set r0 (.inr (12, c7.set 2 (.int (a6 + 1)))) = H8 at h ⊢
    refine xs_iincV rfl (w := (-8)) rfl rfl (L' := [some (.ref r0), some (.int v1), some (.int (v2 + (-8)))]) rfl rfl ?_
    refine xs_goto (k' := 2) rfl rfl ?_
    exact h

set_option maxRecDepth 20000 in
theorem b_MO_end_0 {l : Launch} {x : xX} {d mc ms n0 uc us : Nat} {Q : xO → xH → Prop} {cl : Bool} {r0 : Nat} {v1 : Int32} {H : xH}
    (h : (v1 < 0 → ∃ c1, H[(r0 : Nat)]? = some (.inr (12, c1)) ∧ 0 < c1.length ∧ (∀ H2 : xH, H2 = H.set r0 (.inr (12, c1.set 0 (.int 1))) → ∃ a3, gI H2 r0 12 0 a3 ∧ ((¬ a3 = 0 → uc = mc ∧ us ≤ ms ∧ Q (.inl none) H2) ∧ (a3 = 0 → ∃ c4, H2[(r0 : Nat)]? = some (.inr (12, c4)) ∧ 2 < c4.length ∧ (∀ H5 : xH, H5 = H2.set r0 (.inr (12, c4.set 2 (.int v1))) → uc = mc ∧ us ≤ ms ∧ Q (.inl none) H5))))) ∧ (¬ v1 < 0 → ∃ a6, gI H r0 12 2 a6 ∧ ((v1 ≤ a6 → ∃ c7, H[(r0 : Nat)]? = some (.inr (12, c7)) ∧ 0 < c7.length ∧ (∀ H8 : xH, H8 = H.set r0 (.inr (12, c7.set 0 (.int 0))) → ∃ a9, gI H8 r0 12 0 a9 ∧ ((¬ a9 = 0 → uc = mc ∧ us ≤ ms ∧ Q (.inl none) H8) ∧ (a9 = 0 → ∃ c10, H8[(r0 : Nat)]? = some (.inr (12, c10)) ∧ 2 < c10.length ∧ (∀ H11 : xH, H11 = H8.set r0 (.inr (12, c10.set 2 (.int v1))) → uc = mc ∧ us ≤ ms ∧ Q (.inl none) H11))))) ∧ (¬ v1 ≤ a6 → ∃ c12, H[(r0 : Nat)]? = some (.inr (12, c12)) ∧ 0 < c12.length ∧ (∀ H13 : xH, H13 = H.set r0 (.inr (12, c12.set 0 (.int 1))) → ∃ a14, gI H13 r0 12 0 a14 ∧ ((¬ a14 = 0 → uc = mc ∧ us ≤ ms ∧ Q (.inl none) H13) ∧ (a14 = 0 → ∃ c15, H13[(r0 : Nat)]? = some (.inr (12, c15)) ∧ 2 < c15.length ∧ (∀ H16 : xH, H16 = H13.set r0 (.inr (12, c15.set 2 (.int v1))) → uc = mc ∧ us ≤ ms ∧ Q (.inl none) H16)))))))) :
    xW l x d mc ms mMO_end n0 Q cl 0 [some (.ref r0), some (.int v1)] [] H uc us := by
  refine xs_aload_n rfl rfl ?_
  refine xs_iload_n rfl rfl ?_
  refine xs_if_lt (k' := 7) rfl rfl (fun hb => ?_) (fun hb => ?_)
  · have h := h.1 hb
    refine xs_iconstV (v := 1) rfl rfl ?_
    refine xs_goto (k' := 10) rfl rfl ?_
    obtain ⟨c1, h1, h2, h⟩ := h
    refine xs_putf rfl fl_12_79 h1 (fun q hq => by cases hq; rfl) rfl h2 ?_
    have h := h _ rfl
    generalize H.set r0 (.inr (12, c1.set 0 (.int 1))) = H2 at h ⊢
    refine xs_aload_n rfl rfl ?_
    obtain ⟨a3, ⟨_, h1, h2⟩, h⟩ := h
    refine xs_getf rfl fl_12_79 h1 h2 ?_
    refine xs_if_ne (k' := 17) rfl rfl (fun hb => ?_) (fun hb => ?_)
    · have h := h.1 hb
      exact xs_vret rfl rfl h.1 h.2.1 h.2.2
    · have h := h.2 hb
      refine xs_aload_n rfl rfl ?_
      refine xs_iload_n rfl rfl ?_
      obtain ⟨c4, h1, h2, h⟩ := h
      refine xs_putf rfl fl_12_82 h1 (fun q hq => by cases hq; rfl) rfl h2 ?_
      have h := h _ rfl
      generalize H2.set r0 (.inr (12, c4.set 2 (.int v1))) = H5 at h ⊢
      exact xs_vret rfl rfl h.1 h.2.1 h.2.2
  · have h := h.2 hb
    refine xs_iload_n rfl rfl ?_
    refine xs_aload_n rfl rfl ?_
    obtain ⟨a6, ⟨_, h1, h2⟩, h⟩ := h
    refine xs_getf rfl fl_12_82 h1 h2 ?_
    refine xs_icmp_le (k' := 9) rfl rfl (fun hb => ?_) (fun hb => ?_)
    · have h := h.1 hb
      refine xs_iconstV (v := 0) rfl rfl ?_
      obtain ⟨c7, h1, h2, h⟩ := h
      refine xs_putf rfl fl_12_79 h1 (fun q hq => by cases hq; rfl) rfl h2 ?_
      have h := h _ rfl
      generalize H.set r0 (.inr (12, c7.set 0 (.int 0))) = H8 at h ⊢
      refine xs_aload_n rfl rfl ?_
      obtain ⟨a9, ⟨_, h1, h2⟩, h⟩ := h
      refine xs_getf rfl fl_12_79 h1 h2 ?_
      refine xs_if_ne (k' := 17) rfl rfl (fun hb => ?_) (fun hb => ?_)
      · have h := h.1 hb
        exact xs_vret rfl rfl h.1 h.2.1 h.2.2
      · have h := h.2 hb
        refine xs_aload_n rfl rfl ?_
        refine xs_iload_n rfl rfl ?_
        obtain ⟨c10, h1, h2, h⟩ := h
        refine xs_putf rfl fl_12_82 h1 (fun q hq => by cases hq; rfl) rfl h2 ?_
        have h := h _ rfl
        generalize H8.set r0 (.inr (12, c10.set 2 (.int v1))) = H11 at h ⊢
        exact xs_vret rfl rfl h.1 h.2.1 h.2.2
    · have h := h.2 hb
      refine xs_iconstV (v := 1) rfl rfl ?_
      refine xs_goto (k' := 10) rfl rfl ?_
      obtain ⟨c12, h1, h2, h⟩ := h
      refine xs_putf rfl fl_12_79 h1 (fun q hq => by cases hq; rfl) rfl h2 ?_
      have h := h _ rfl
      generalize H.set r0 (.inr (12, c12.set 0 (.int 1))) = H13 at h ⊢
      refine xs_aload_n rfl rfl ?_
      obtain ⟨a14, ⟨_, h1, h2⟩, h⟩ := h
      refine xs_getf rfl fl_12_79 h1 h2 ?_
      refine xs_if_ne (k' := 17) rfl rfl (fun hb => ?_) (fun hb => ?_)
      · have h := h.1 hb
        exact xs_vret rfl rfl h.1 h.2.1 h.2.2
      · have h := h.2 hb
        refine xs_aload_n rfl rfl ?_
        refine xs_iload_n rfl rfl ?_
        obtain ⟨c15, h1, h2, h⟩ := h
        refine xs_putf rfl fl_12_82 h1 (fun q hq => by cases hq; rfl) rfl h2 ?_
        have h := h _ rfl
        generalize H13.set r0 (.inr (12, c15.set 2 (.int v1))) = H16 at h ⊢
        exact xs_vret rfl rfl h.1 h.2.1 h.2.2

set_option maxRecDepth 20000 in
theorem b_MO_again_0 {l : Launch} {x : xX} {d mc ms n0 uc us : Nat} {Q : xO → xH → Prop} {cl : Bool} {r0 : Nat} {v1 : Int32} {v2 : Int32} {H : xH}
    (h : (v2 < 0 → ∃ c1, H[(r0 : Nat)]? = some (.inr (12, c1)) ∧ 0 < c1.length ∧ (∀ H2 : xH, H2 = H.set r0 (.inr (12, c1.set 0 (.int 1))) → ∃ a3, gI H2 r0 12 0 a3 ∧ ((a3 ≤ 0 → xW l x d mc ms mMO_again n0 Q false 29 [some (.ref r0), some (.int v1), some (.int v2), some (.int 0)] [] H2 uc us) ∧ (¬ a3 ≤ 0 → uc = mc ∧ us ≤ ms ∧ Q (.inl (some (.int 0))) H2)))) ∧ (¬ v2 < 0 → (v1 < 1 → ∃ c4, H[(r0 : Nat)]? = some (.inr (12, c4)) ∧ 0 < c4.length ∧ (∀ H5 : xH, H5 = H.set r0 (.inr (12, c4.set 0 (.int 1))) → ∃ a6, gI H5 r0 12 0 a6 ∧ ((a6 ≤ 0 → xW l x d mc ms mMO_again n0 Q false 29 [some (.ref r0), some (.int v1), some (.int v2), some (.int 0)] [] H5 uc us) ∧ (¬ a6 ≤ 0 → uc = mc ∧ us ≤ ms ∧ Q (.inl (some (.int 0))) H5)))) ∧ (¬ v1 < 1 → ∃ a7, gI H r0 12 2 a7 ∧ ((v1 ≤ a7 → ∃ a8, gI H r0 12 2 a8 ∧ ((v2 ≤ ((32768 : Int32) - a8) → ∃ c9, H[(r0 : Nat)]? = some (.inr (12, c9)) ∧ 0 < c9.length ∧ (∀ H10 : xH, H10 = H.set r0 (.inr (12, c9.set 0 (.int 0))) → ∃ a11, gI H10 r0 12 0 a11 ∧ ((a11 ≤ 0 → xW l x d mc ms mMO_again n0 Q false 29 [some (.ref r0), some (.int v1), some (.int v2), some (.int 0)] [] H10 uc us) ∧ (¬ a11 ≤ 0 → uc = mc ∧ us ≤ ms ∧ Q (.inl (some (.int 0))) H10)))) ∧ (¬ v2 ≤ ((32768 : Int32) - a8) → ∃ c12, H[(r0 : Nat)]? = some (.inr (12, c12)) ∧ 0 < c12.length ∧ (∀ H13 : xH, H13 = H.set r0 (.inr (12, c12.set 0 (.int 2))) → ∃ a14, gI H13 r0 12 0 a14 ∧ ((a14 ≤ 0 → xW l x d mc ms mMO_again n0 Q false 29 [some (.ref r0), some (.int v1), some (.int v2), some (.int 0)] [] H13 uc us) ∧ (¬ a14 ≤ 0 → uc = mc ∧ us ≤ ms ∧ Q (.inl (some (.int 0))) H13)))))) ∧ (¬ v1 ≤ a7 → ∃ c15, H[(r0 : Nat)]? = some (.inr (12, c15)) ∧ 0 < c15.length ∧ (∀ H16 : xH, H16 = H.set r0 (.inr (12, c15.set 0 (.int 1))) → ∃ a17, gI H16 r0 12 0 a17 ∧ ((a17 ≤ 0 → xW l x d mc ms mMO_again n0 Q false 29 [some (.ref r0), some (.int v1), some (.int v2), some (.int 0)] [] H16 uc us) ∧ (¬ a17 ≤ 0 → uc = mc ∧ us ≤ ms ∧ Q (.inl (some (.int 0))) H16)))))))) :
    xW l x d mc ms mMO_again n0 Q cl 0 [some (.ref r0), some (.int v1), some (.int v2), none] [] H uc us := by
  refine xs_aload_n rfl rfl ?_
  refine xs_iload_n rfl rfl ?_
  refine xs_if_lt (k' := 10) rfl rfl (fun hb => ?_) (fun hb => ?_)
  · have h := h.1 hb
    refine xs_iconstV (v := 1) rfl rfl ?_
    refine xs_goto (k' := 21) rfl rfl ?_
    obtain ⟨c1, h1, h2, h⟩ := h
    refine xs_putf rfl fl_12_79 h1 (fun q hq => by cases hq; rfl) rfl h2 ?_
    have h := h _ rfl
    generalize H.set r0 (.inr (12, c1.set 0 (.int 1))) = H2 at h ⊢
    refine xs_aload_n rfl rfl ?_
    obtain ⟨a3, ⟨_, h1, h2⟩, h⟩ := h
    refine xs_getf rfl fl_12_79 h1 h2 ?_
    refine xs_if_le (k' := 27) rfl rfl (fun hb => ?_) (fun hb => ?_)
    · have h := h.1 hb
      refine xs_iconstV (v := 0) rfl rfl ?_
      refine xs_istore_n rfl (L' := [some (.ref r0), some (.int v1), some (.int v2), some (.int 0)]) rfl rfl ?_
      exact h
    · have h := h.2 hb
      refine xs_iconstV (v := 0) rfl rfl ?_
      exact xs_iret rfl rfl h.1 h.2.1 h.2.2
  · have h := h.2 hb
    refine xs_iload_n rfl rfl ?_
    refine xs_iconstV (v := 1) rfl rfl ?_
    refine xs_icmp_lt (k' := 10) rfl rfl (fun hb => ?_) (fun hb => ?_)
    · have h := h.1 hb
      refine xs_iconstV (v := 1) rfl rfl ?_
      refine xs_goto (k' := 21) rfl rfl ?_
      obtain ⟨c4, h1, h2, h⟩ := h
      refine xs_putf rfl fl_12_79 h1 (fun q hq => by cases hq; rfl) rfl h2 ?_
      have h := h _ rfl
      generalize H.set r0 (.inr (12, c4.set 0 (.int 1))) = H5 at h ⊢
      refine xs_aload_n rfl rfl ?_
      obtain ⟨a6, ⟨_, h1, h2⟩, h⟩ := h
      refine xs_getf rfl fl_12_79 h1 h2 ?_
      refine xs_if_le (k' := 27) rfl rfl (fun hb => ?_) (fun hb => ?_)
      · have h := h.1 hb
        refine xs_iconstV (v := 0) rfl rfl ?_
        refine xs_istore_n rfl (L' := [some (.ref r0), some (.int v1), some (.int v2), some (.int 0)]) rfl rfl ?_
        exact h
      · have h := h.2 hb
        refine xs_iconstV (v := 0) rfl rfl ?_
        exact xs_iret rfl rfl h.1 h.2.1 h.2.2
    · have h := h.2 hb
      refine xs_iload_n rfl rfl ?_
      refine xs_aload_n rfl rfl ?_
      obtain ⟨a7, ⟨_, h1, h2⟩, h⟩ := h
      refine xs_getf rfl fl_12_82 h1 h2 ?_
      refine xs_icmp_le (k' := 12) rfl rfl (fun hb => ?_) (fun hb => ?_)
      · have h := h.1 hb
        refine xs_iload_n rfl rfl ?_
        refine xs_ldc rfl kc_12_7 ?_
        refine xs_aload_n rfl rfl ?_
        obtain ⟨a8, ⟨_, h1, h2⟩, h⟩ := h
        refine xs_getf rfl fl_12_82 h1 h2 ?_
        refine xs_isub rfl ?_
        refine xs_icmp_le (k' := 20) rfl rfl (fun hb => ?_) (fun hb => ?_)
        · have h := h.1 hb
          refine xs_iconstV (v := 0) rfl rfl ?_
          obtain ⟨c9, h1, h2, h⟩ := h
          refine xs_putf rfl fl_12_79 h1 (fun q hq => by cases hq; rfl) rfl h2 ?_
          have h := h _ rfl
          generalize H.set r0 (.inr (12, c9.set 0 (.int 0))) = H10 at h ⊢
          refine xs_aload_n rfl rfl ?_
          obtain ⟨a11, ⟨_, h1, h2⟩, h⟩ := h
          refine xs_getf rfl fl_12_79 h1 h2 ?_
          refine xs_if_le (k' := 27) rfl rfl (fun hb => ?_) (fun hb => ?_)
          · have h := h.1 hb
            refine xs_iconstV (v := 0) rfl rfl ?_
            refine xs_istore_n rfl (L' := [some (.ref r0), some (.int v1), some (.int v2), some (.int 0)]) rfl rfl ?_
            exact h
          · have h := h.2 hb
            refine xs_iconstV (v := 0) rfl rfl ?_
            exact xs_iret rfl rfl h.1 h.2.1 h.2.2
        · have h := h.2 hb
          refine xs_iconstV (v := 2) rfl rfl ?_
          refine xs_goto (k' := 21) rfl rfl ?_
          obtain ⟨c12, h1, h2, h⟩ := h
          refine xs_putf rfl fl_12_79 h1 (fun q hq => by cases hq; rfl) rfl h2 ?_
          have h := h _ rfl
          generalize H.set r0 (.inr (12, c12.set 0 (.int 2))) = H13 at h ⊢
          refine xs_aload_n rfl rfl ?_
          obtain ⟨a14, ⟨_, h1, h2⟩, h⟩ := h
          refine xs_getf rfl fl_12_79 h1 h2 ?_
          refine xs_if_le (k' := 27) rfl rfl (fun hb => ?_) (fun hb => ?_)
          · have h := h.1 hb
            refine xs_iconstV (v := 0) rfl rfl ?_
            refine xs_istore_n rfl (L' := [some (.ref r0), some (.int v1), some (.int v2), some (.int 0)]) rfl rfl ?_
            exact h
          · have h := h.2 hb
            refine xs_iconstV (v := 0) rfl rfl ?_
            exact xs_iret rfl rfl h.1 h.2.1 h.2.2
      · have h := h.2 hb
        refine xs_iconstV (v := 1) rfl rfl ?_
        refine xs_goto (k' := 21) rfl rfl ?_
        obtain ⟨c15, h1, h2, h⟩ := h
        refine xs_putf rfl fl_12_79 h1 (fun q hq => by cases hq; rfl) rfl h2 ?_
        have h := h _ rfl
        generalize H.set r0 (.inr (12, c15.set 0 (.int 1))) = H16 at h ⊢
        refine xs_aload_n rfl rfl ?_
        obtain ⟨a17, ⟨_, h1, h2⟩, h⟩ := h
        refine xs_getf rfl fl_12_79 h1 h2 ?_
        refine xs_if_le (k' := 27) rfl rfl (fun hb => ?_) (fun hb => ?_)
        · have h := h.1 hb
          refine xs_iconstV (v := 0) rfl rfl ?_
          refine xs_istore_n rfl (L' := [some (.ref r0), some (.int v1), some (.int v2), some (.int 0)]) rfl rfl ?_
          exact h
        · have h := h.2 hb
          refine xs_iconstV (v := 0) rfl rfl ?_
          exact xs_iret rfl rfl h.1 h.2.1 h.2.2

set_option maxRecDepth 20000 in
theorem b_MO_again_29 {l : Launch} {x : xX} {d mc ms n0 uc us : Nat} {Q : xO → xH → Prop} {cl : Bool} {r0 : Nat} {v1 : Int32} {v2 : Int32} {v3 : Int32} {H : xH}
    (h : (v2 ≤ v3 → ∃ a1, gI H r0 12 2 a1 ∧ (uc = mc ∧ us ≤ ms ∧ Q (.inl (some (.int a1))) H)) ∧ (¬ v2 ≤ v3 → ∃ p2, gR H r0 12 1 p2 ∧ (∃ a3, gI H r0 12 2 a3 ∧ (∃ p4, gR H r0 12 1 p4 ∧ (∃ a5, gI H r0 12 2 a5 ∧ (∃ n6 f7, H[(p4 : Nat)]? = some (.inl (1, n6, .inl f7)) ∧ vp_in (a5 - v1) n6 ∧ (∃ n8 f9, H[(p2 : Nat)]? = some (.inl (1, n8, .inl f9)) ∧ vp_in a3 n8 ∧ (∀ H10 : xH, H10 = H.set p2 (.inl (1, n8, .inl (upd f9 (a3.toNatClampNeg) (vp_nar .byte ((f7 (a5 - v1).toNatClampNeg)))))) → ∃ a11, gI H10 r0 12 2 a11 ∧ (∃ c12, H10[(r0 : Nat)]? = some (.inr (12, c12)) ∧ 2 < c12.length ∧ (∀ H13 : xH, H13 = H10.set r0 (.inr (12, c12.set 2 (.int (a11 + 1)))) → xW l x d mc ms mMO_again n0 Q false 29 [some (.ref r0), some (.int v1), some (.int v2), some (.int (v3 + 1))] [] H13 uc us)))))))))) :
    xW l x d mc ms mMO_again n0 Q cl 29 [some (.ref r0), some (.int v1), some (.int v2), some (.int v3)] [] H uc us := by
  refine xs_iload_n rfl rfl ?_
  refine xs_iload_n rfl rfl ?_
  refine xs_icmp_ge (k' := 52) rfl rfl (fun hb => ?_) (fun hb => ?_)
  · have h := h.1 hb
    refine xs_aload_n rfl rfl ?_
    obtain ⟨a1, ⟨_, h1, h2⟩, h⟩ := h
    refine xs_getf rfl fl_12_82 h1 h2 ?_
    exact xs_iret rfl rfl h.1 h.2.1 h.2.2
  · have h := h.2 hb
    refine xs_aload_n rfl rfl ?_
    obtain ⟨p2, ⟨_, h1, h2⟩, h⟩ := h
    refine xs_getf rfl fl_12_8 h1 h2 ?_
    refine xs_aload_n rfl rfl ?_
    obtain ⟨a3, ⟨_, h1, h2⟩, h⟩ := h
    refine xs_getf rfl fl_12_82 h1 h2 ?_
    refine xs_aload_n rfl rfl ?_
    obtain ⟨p4, ⟨_, h1, h2⟩, h⟩ := h
    refine xs_getf rfl fl_12_8 h1 h2 ?_
    refine xs_aload_n rfl rfl ?_
    obtain ⟨a5, ⟨_, h1, h2⟩, h⟩ := h
    refine xs_getf rfl fl_12_82 h1 h2 ?_
    refine xs_iload_n rfl rfl ?_
    refine xs_isub rfl ?_
    obtain ⟨n6, f7, h1, h2, h⟩ := h
    refine xs_bald rfl h1 h2 ?_
    obtain ⟨n8, f9, h1, h2, h⟩ := h
    refine xs_bast rfl h1 h2 ?_
    have h := h _ rfl
    generalize H.set p2 (.inl (1, n8, .inl (upd f9 (a3.toNatClampNeg) (vp_nar .byte ((f7 (a5 - v1).toNatClampNeg)))))) = H10 at h ⊢
    refine xs_aload_n rfl rfl ?_
    refine xs_dup rfl rfl ?_
    obtain ⟨a11, ⟨_, h1, h2⟩, h⟩ := h
    refine xs_getf rfl fl_12_82 h1 h2 ?_
    refine xs_iconstV (v := 1) rfl rfl ?_
    refine xs_iadd rfl ?_
    obtain ⟨c12, h1, h2, h⟩ := h
    refine xs_putf rfl fl_12_82 h1 (fun q hq => by cases hq; rfl) rfl h2 ?_
    have h := h _ rfl
    generalize H10.set r0 (.inr (12, c12.set 2 (.int (a11 + 1)))) = H13 at h ⊢
    refine xs_iincV rfl (w := 1) rfl rfl (L' := [some (.ref r0), some (.int v1), some (.int v2), some (.int (v3 + 1))]) rfl rfl ?_
    refine xs_goto (k' := 29) rfl rfl ?_
    exact h

set_option maxRecDepth 20000 in
theorem b_MO_change_0 {l : Launch} {x : xX} {d mc ms n0 uc us : Nat} {Q : xO → xH → Prop} {cl : Bool} {r0 : Nat} {v1 : Int32} {v2 : Int32} {H : xH}
    (h : (v1 < 0 → xW l x d mc ms mMO_change n0 Q cl 17 [some (.ref r0), some (.int v1), some (.int v2)] [.int 1, .ref r0] H uc us) ∧ (¬ v1 < 0 → ∃ a1, gI H r0 12 2 a1 ∧ ((v1 < a1 → (v2 < 0 → xW l x d mc ms mMO_change n0 Q cl 17 [some (.ref r0), some (.int v1), some (.int v2)] [.int 2, .ref r0] H uc us) ∧ (¬ v2 < 0 → (v2 ≤ 255 → xW l x d mc ms mMO_change n0 Q cl 17 [some (.ref r0), some (.int v1), some (.int v2)] [.int 0, .ref r0] H uc us) ∧ (¬ v2 ≤ 255 → xW l x d mc ms mMO_change n0 Q cl 17 [some (.ref r0), some (.int v1), some (.int v2)] [.int 2, .ref r0] H uc us))) ∧ (¬ v1 < a1 → xW l x d mc ms mMO_change n0 Q cl 17 [some (.ref r0), some (.int v1), some (.int v2)] [.int 1, .ref r0] H uc us)))) :
    xW l x d mc ms mMO_change n0 Q cl 0 [some (.ref r0), some (.int v1), some (.int v2)] [] H uc us := by
  refine xs_aload_n rfl rfl ?_
  refine xs_iload_n rfl rfl ?_
  refine xs_if_lt (k' := 7) rfl rfl (fun hb => ?_) (fun hb => ?_)
  · have h := h.1 hb
    refine xs_iconstV (v := 1) rfl rfl ?_
    refine xs_goto (k' := 17) rfl rfl ?_
    exact h
  · have h := h.2 hb
    refine xs_iload_n rfl rfl ?_
    refine xs_aload_n rfl rfl ?_
    obtain ⟨a1, ⟨_, h1, h2⟩, h⟩ := h
    refine xs_getf rfl fl_12_82 h1 h2 ?_
    refine xs_icmp_lt (k' := 9) rfl rfl (fun hb => ?_) (fun hb => ?_)
    · have h := h.1 hb
      refine xs_iload_n rfl rfl ?_
      refine xs_if_lt (k' := 14) rfl rfl (fun hb => ?_) (fun hb => ?_)
      · have h := h.1 hb
        refine xs_iconstV (v := 2) rfl rfl ?_
        refine xs_goto (k' := 17) rfl rfl ?_
        exact h
      · have h := h.2 hb
        refine xs_iload_n rfl rfl ?_
        refine xs_sipushV (v := 255) rfl rfl ?_
        refine xs_icmp_le (k' := 16) rfl rfl (fun hb => ?_) (fun hb => ?_)
        · have h := h.1 hb
          refine xs_iconstV (v := 0) rfl rfl ?_
          exact h
        · have h := h.2 hb
          refine xs_iconstV (v := 2) rfl rfl ?_
          refine xs_goto (k' := 17) rfl rfl ?_
          exact h
    · have h := h.2 hb
      refine xs_iconstV (v := 1) rfl rfl ?_
      refine xs_goto (k' := 17) rfl rfl ?_
      exact h

set_option maxRecDepth 20000 in
theorem b_MO_change_17 {l : Launch} {x : xX} {d mc ms n0 uc us : Nat} {Q : xO → xH → Prop} {cl : Bool} {r0 : Nat} {v1 : Int32} {v2 : Int32} {q0 : Nat} {u1 : Int32} {H : xH}
    (h : ∃ c1, H[(q0 : Nat)]? = some (.inr (12, c1)) ∧ 0 < c1.length ∧ (∀ H2 : xH, H2 = H.set q0 (.inr (12, c1.set 0 (.int u1))) → ∃ a3, gI H2 r0 12 0 a3 ∧ ((a3 ≤ 0 → ∃ p4, gR H2 r0 12 1 p4 ∧ (∃ p5, gR H2 r0 12 1 p5 ∧ (∃ n6 f7, H2[(p5 : Nat)]? = some (.inl (1, n6, .inl f7)) ∧ vp_in v1 n6 ∧ (∃ n8 f9, H2[(p4 : Nat)]? = some (.inl (1, n8, .inl f9)) ∧ vp_in v1 n8 ∧ (∀ H10 : xH, H10 = H2.set p4 (.inl (1, n8, .inl (upd f9 (v1.toNatClampNeg) (vp_nar .byte (((f7 v1.toNatClampNeg) ^^^ v2).toInt8.toInt32))))) → ∃ p11, gR H10 r0 12 1 p11 ∧ (∃ n12 f13, H10[(p11 : Nat)]? = some (.inl (1, n12, .inl f13)) ∧ vp_in v1 n12 ∧ (uc = mc ∧ us ≤ ms ∧ Q (.inl (some (.int ((f13 v1.toNatClampNeg) &&& 255)))) H10))))))) ∧ (¬ a3 ≤ 0 → uc = mc ∧ us ≤ ms ∧ Q (.inl (some (.int 0))) H2)))) :
    xW l x d mc ms mMO_change n0 Q cl 17 [some (.ref r0), some (.int v1), some (.int v2)] [.int u1, .ref q0] H uc us := by
  obtain ⟨c1, h1, h2, h⟩ := h
  refine xs_putf rfl fl_12_79 h1 (fun q hq => by cases hq; rfl) rfl h2 ?_
  have h := h _ rfl
  generalize H.set q0 (.inr (12, c1.set 0 (.int u1))) = H2 at h ⊢
  refine xs_aload_n rfl rfl ?_
  obtain ⟨a3, ⟨_, h1, h2⟩, h⟩ := h
  refine xs_getf rfl fl_12_79 h1 h2 ?_
  refine xs_if_le (k' := 23) rfl rfl (fun hb => ?_) (fun hb => ?_)
  · have h := h.1 hb
    refine xs_aload_n rfl rfl ?_
    obtain ⟨p4, ⟨_, h1, h2⟩, h⟩ := h
    refine xs_getf rfl fl_12_8 h1 h2 ?_
    refine xs_iload_n rfl rfl ?_
    refine xs_aload_n rfl rfl ?_
    obtain ⟨p5, ⟨_, h1, h2⟩, h⟩ := h
    refine xs_getf rfl fl_12_8 h1 h2 ?_
    refine xs_iload_n rfl rfl ?_
    obtain ⟨n6, f7, h1, h2, h⟩ := h
    refine xs_bald rfl h1 h2 ?_
    refine xs_iload_n rfl rfl ?_
    refine xs_ixor rfl ?_
    refine xs_i2b rfl ?_
    obtain ⟨n8, f9, h1, h2, h⟩ := h
    refine xs_bast rfl h1 h2 ?_
    have h := h _ rfl
    generalize H2.set p4 (.inl (1, n8, .inl (upd f9 (v1.toNatClampNeg) (vp_nar .byte (((f7 v1.toNatClampNeg) ^^^ v2).toInt8.toInt32))))) = H10 at h ⊢
    refine xs_aload_n rfl rfl ?_
    obtain ⟨p11, ⟨_, h1, h2⟩, h⟩ := h
    refine xs_getf rfl fl_12_8 h1 h2 ?_
    refine xs_iload_n rfl rfl ?_
    obtain ⟨n12, f13, h1, h2, h⟩ := h
    refine xs_bald rfl h1 h2 ?_
    refine xs_sipushV (v := 255) rfl rfl ?_
    refine xs_iand rfl ?_
    exact xs_iret rfl rfl h.1 h.2.1 h.2.2
  · have h := h.2 hb
    refine xs_iconstV (v := 0) rfl rfl ?_
    exact xs_iret rfl rfl h.1 h.2.1 h.2.2

set_option maxRecDepth 20000 in
theorem b_MO_sum_0 {l : Launch} {x : xX} {d mc ms n0 uc us : Nat} {Q : xO → xH → Prop} {cl : Bool} {r0 : Nat} {v1 : Int32} {H : xH}
    (h : (v1 < 0 → ∃ c1, H[(r0 : Nat)]? = some (.inr (12, c1)) ∧ 0 < c1.length ∧ (∀ H2 : xH, H2 = H.set r0 (.inr (12, c1.set 0 (.int 1))) → ∃ a3, gI H2 r0 12 0 a3 ∧ ((a3 ≤ 0 → (¬ v1 = 0 → ∃ p4, gR H2 r0 12 1 p4 ∧ (∃ a5, gI H2 r0 12 2 a5 ∧ (xW l x d mc ms mMO_sum n0 Q false 29 [some (.ref r0), some (.int v1)] [.int a5, .int 0, .ref p4] H2 uc us))) ∧ (v1 = 0 → ∃ p6, gR H2 r0 12 1 p6 ∧ (∃ a7, gI H2 r0 12 2 a7 ∧ (xW l x d mc ms mMO_sum n0 Q false 22 [some (.ref r0), some (.int v1)] [.int a7, .int 0, .ref p6] H2 uc us)))) ∧ (¬ a3 ≤ 0 → xW l x d mc ms mMO_sum n0 Q false 30 [some (.ref r0), some (.int v1)] [.long 0] H2 uc us)))) ∧ (¬ v1 < 0 → (v1 ≤ 1 → ∃ c8, H[(r0 : Nat)]? = some (.inr (12, c8)) ∧ 0 < c8.length ∧ (∀ H9 : xH, H9 = H.set r0 (.inr (12, c8.set 0 (.int 0))) → ∃ a10, gI H9 r0 12 0 a10 ∧ ((a10 ≤ 0 → (¬ v1 = 0 → ∃ p11, gR H9 r0 12 1 p11 ∧ (∃ a12, gI H9 r0 12 2 a12 ∧ (xW l x d mc ms mMO_sum n0 Q false 29 [some (.ref r0), some (.int v1)] [.int a12, .int 0, .ref p11] H9 uc us))) ∧ (v1 = 0 → ∃ p13, gR H9 r0 12 1 p13 ∧ (∃ a14, gI H9 r0 12 2 a14 ∧ (xW l x d mc ms mMO_sum n0 Q false 22 [some (.ref r0), some (.int v1)] [.int a14, .int 0, .ref p13] H9 uc us)))) ∧ (¬ a10 ≤ 0 → xW l x d mc ms mMO_sum n0 Q false 30 [some (.ref r0), some (.int v1)] [.long 0] H9 uc us)))) ∧ (¬ v1 ≤ 1 → ∃ c15, H[(r0 : Nat)]? = some (.inr (12, c15)) ∧ 0 < c15.length ∧ (∀ H16 : xH, H16 = H.set r0 (.inr (12, c15.set 0 (.int 1))) → ∃ a17, gI H16 r0 12 0 a17 ∧ ((a17 ≤ 0 → (¬ v1 = 0 → ∃ p18, gR H16 r0 12 1 p18 ∧ (∃ a19, gI H16 r0 12 2 a19 ∧ (xW l x d mc ms mMO_sum n0 Q false 29 [some (.ref r0), some (.int v1)] [.int a19, .int 0, .ref p18] H16 uc us))) ∧ (v1 = 0 → ∃ p20, gR H16 r0 12 1 p20 ∧ (∃ a21, gI H16 r0 12 2 a21 ∧ (xW l x d mc ms mMO_sum n0 Q false 22 [some (.ref r0), some (.int v1)] [.int a21, .int 0, .ref p20] H16 uc us)))) ∧ (¬ a17 ≤ 0 → xW l x d mc ms mMO_sum n0 Q false 30 [some (.ref r0), some (.int v1)] [.long 0] H16 uc us)))))) :
    xW l x d mc ms mMO_sum n0 Q cl 0 [some (.ref r0), some (.int v1)] [] H uc us := by
  refine xs_aload_n rfl rfl ?_
  refine xs_iload_n rfl rfl ?_
  refine xs_if_lt (k' := 6) rfl rfl (fun hb => ?_) (fun hb => ?_)
  · have h := h.1 hb
    refine xs_iconstV (v := 1) rfl rfl ?_
    refine xs_goto (k' := 9) rfl rfl ?_
    obtain ⟨c1, h1, h2, h⟩ := h
    refine xs_putf rfl fl_12_79 h1 (fun q hq => by cases hq; rfl) rfl h2 ?_
    have h := h _ rfl
    generalize H.set r0 (.inr (12, c1.set 0 (.int 1))) = H2 at h ⊢
    refine xs_aload_n rfl rfl ?_
    obtain ⟨a3, ⟨_, h1, h2⟩, h⟩ := h
    refine xs_getf rfl fl_12_79 h1 h2 ?_
    refine xs_if_le (k' := 15) rfl rfl (fun hb => ?_) (fun hb => ?_)
    · have h := h.1 hb
      refine xs_iload_n rfl rfl ?_
      refine xs_if_ne (k' := 24) rfl rfl (fun hb => ?_) (fun hb => ?_)
      · have h := h.1 hb
        refine xs_aload_n rfl rfl ?_
        obtain ⟨p4, ⟨_, h1, h2⟩, h⟩ := h
        refine xs_getf rfl fl_12_8 h1 h2 ?_
        refine xs_iconstV (v := 0) rfl rfl ?_
        refine xs_aload_n rfl rfl ?_
        obtain ⟨a5, ⟨_, h1, h2⟩, h⟩ := h
        refine xs_getf rfl fl_12_82 h1 h2 ?_
        exact h
      · have h := h.2 hb
        refine xs_aload_n rfl rfl ?_
        obtain ⟨p6, ⟨_, h1, h2⟩, h⟩ := h
        refine xs_getf rfl fl_12_8 h1 h2 ?_
        refine xs_iconstV (v := 0) rfl rfl ?_
        refine xs_aload_n rfl rfl ?_
        obtain ⟨a7, ⟨_, h1, h2⟩, h⟩ := h
        refine xs_getf rfl fl_12_82 h1 h2 ?_
        exact h
    · have h := h.2 hb
      refine xs_lconstV (v := 0) rfl rfl ?_
      refine xs_goto (k' := 30) rfl rfl ?_
      exact h
  · have h := h.2 hb
    refine xs_iload_n rfl rfl ?_
    refine xs_iconstV (v := 1) rfl rfl ?_
    refine xs_icmp_le (k' := 8) rfl rfl (fun hb => ?_) (fun hb => ?_)
    · have h := h.1 hb
      refine xs_iconstV (v := 0) rfl rfl ?_
      obtain ⟨c8, h1, h2, h⟩ := h
      refine xs_putf rfl fl_12_79 h1 (fun q hq => by cases hq; rfl) rfl h2 ?_
      have h := h _ rfl
      generalize H.set r0 (.inr (12, c8.set 0 (.int 0))) = H9 at h ⊢
      refine xs_aload_n rfl rfl ?_
      obtain ⟨a10, ⟨_, h1, h2⟩, h⟩ := h
      refine xs_getf rfl fl_12_79 h1 h2 ?_
      refine xs_if_le (k' := 15) rfl rfl (fun hb => ?_) (fun hb => ?_)
      · have h := h.1 hb
        refine xs_iload_n rfl rfl ?_
        refine xs_if_ne (k' := 24) rfl rfl (fun hb => ?_) (fun hb => ?_)
        · have h := h.1 hb
          refine xs_aload_n rfl rfl ?_
          obtain ⟨p11, ⟨_, h1, h2⟩, h⟩ := h
          refine xs_getf rfl fl_12_8 h1 h2 ?_
          refine xs_iconstV (v := 0) rfl rfl ?_
          refine xs_aload_n rfl rfl ?_
          obtain ⟨a12, ⟨_, h1, h2⟩, h⟩ := h
          refine xs_getf rfl fl_12_82 h1 h2 ?_
          exact h
        · have h := h.2 hb
          refine xs_aload_n rfl rfl ?_
          obtain ⟨p13, ⟨_, h1, h2⟩, h⟩ := h
          refine xs_getf rfl fl_12_8 h1 h2 ?_
          refine xs_iconstV (v := 0) rfl rfl ?_
          refine xs_aload_n rfl rfl ?_
          obtain ⟨a14, ⟨_, h1, h2⟩, h⟩ := h
          refine xs_getf rfl fl_12_82 h1 h2 ?_
          exact h
      · have h := h.2 hb
        refine xs_lconstV (v := 0) rfl rfl ?_
        refine xs_goto (k' := 30) rfl rfl ?_
        exact h
    · have h := h.2 hb
      refine xs_iconstV (v := 1) rfl rfl ?_
      refine xs_goto (k' := 9) rfl rfl ?_
      obtain ⟨c15, h1, h2, h⟩ := h
      refine xs_putf rfl fl_12_79 h1 (fun q hq => by cases hq; rfl) rfl h2 ?_
      have h := h _ rfl
      generalize H.set r0 (.inr (12, c15.set 0 (.int 1))) = H16 at h ⊢
      refine xs_aload_n rfl rfl ?_
      obtain ⟨a17, ⟨_, h1, h2⟩, h⟩ := h
      refine xs_getf rfl fl_12_79 h1 h2 ?_
      refine xs_if_le (k' := 15) rfl rfl (fun hb => ?_) (fun hb => ?_)
      · have h := h.1 hb
        refine xs_iload_n rfl rfl ?_
        refine xs_if_ne (k' := 24) rfl rfl (fun hb => ?_) (fun hb => ?_)
        · have h := h.1 hb
          refine xs_aload_n rfl rfl ?_
          obtain ⟨p18, ⟨_, h1, h2⟩, h⟩ := h
          refine xs_getf rfl fl_12_8 h1 h2 ?_
          refine xs_iconstV (v := 0) rfl rfl ?_
          refine xs_aload_n rfl rfl ?_
          obtain ⟨a19, ⟨_, h1, h2⟩, h⟩ := h
          refine xs_getf rfl fl_12_82 h1 h2 ?_
          exact h
        · have h := h.2 hb
          refine xs_aload_n rfl rfl ?_
          obtain ⟨p20, ⟨_, h1, h2⟩, h⟩ := h
          refine xs_getf rfl fl_12_8 h1 h2 ?_
          refine xs_iconstV (v := 0) rfl rfl ?_
          refine xs_aload_n rfl rfl ?_
          obtain ⟨a21, ⟨_, h1, h2⟩, h⟩ := h
          refine xs_getf rfl fl_12_82 h1 h2 ?_
          exact h
      · have h := h.2 hb
        refine xs_lconstV (v := 0) rfl rfl ?_
        refine xs_goto (k' := 30) rfl rfl ?_
        exact h

set_option maxRecDepth 20000 in
theorem b_MO_sum_23 {l : Launch} {x : xX} {d mc ms n0 uc us : Nat} {Q : xO → xH → Prop} {cl : Bool} {r0 : Nat} {v1 : Int32} {u0 : Int64} {H : xH}
    (h : xW l x d mc ms mMO_sum n0 Q cl 30 [some (.ref r0), some (.int v1)] [.long u0] H uc us) :
    xW l x d mc ms mMO_sum n0 Q cl 23 [some (.ref r0), some (.int v1)] [.long u0] H uc us := by
  refine xs_goto (k' := 30) rfl rfl ?_
  exact h

set_option maxRecDepth 20000 in
theorem b_MO_sum_30 {l : Launch} {x : xX} {d mc ms n0 uc us : Nat} {Q : xO → xH → Prop} {cl : Bool} {r0 : Nat} {v1 : Int32} {u0 : Int64} {H : xH}
    (h : uc = mc ∧ us ≤ ms ∧ Q (.inl (some (.long u0))) H) :
    xW l x d mc ms mMO_sum n0 Q cl 30 [some (.ref r0), some (.int v1)] [.long u0] H uc us := by
  exact xs_lret rfl rfl h.1 h.2.1 h.2.2

set_option maxRecDepth 20000 in
theorem b_MO_sumA_0 {l : Launch} {x : xX} {d mc ms n0 uc us : Nat} {Q : xO → xH → Prop} {cl : Bool} {r0 : Nat} {v1 : Int32} {v2 : Int32} {H : xH}
    (h : xW l x d mc ms mMO_sumA n0 Q cl 6 [some (.ref r0), some (.int v1), some (.int v2), some (.long 1), none, some (.long 0), none, some (.int v1)] [] H uc us) :
    xW l x d mc ms mMO_sumA n0 Q cl 0 [some (.ref r0), some (.int v1), some (.int v2), none, none, none, none, none] [] H uc us := by
  refine xs_lconstV (v := 1) rfl rfl ?_
  refine xs_lstore_n rfl (L' := [some (.ref r0), some (.int v1), some (.int v2), some (.long 1), none, none, none, none]) rfl rfl ?_
  refine xs_lconstV (v := 0) rfl rfl ?_
  refine xs_lstore rfl (L' := [some (.ref r0), some (.int v1), some (.int v2), some (.long 1), none, some (.long 0), none, none]) rfl rfl ?_
  refine xs_iload_n rfl rfl ?_
  refine xs_istore rfl (L' := [some (.ref r0), some (.int v1), some (.int v2), some (.long 1), none, some (.long 0), none, some (.int v1)]) rfl rfl ?_
  exact h

set_option maxRecDepth 20000 in
theorem b_MO_sumA_6 {l : Launch} {x : xX} {d mc ms n0 uc us : Nat} {Q : xO → xH → Prop} {cl : Bool} {r0 : Nat} {v1 : Int32} {v2 : Int32} {v3 : Int64} {v5 : Int64} {v7 : Int32} {H : xH}
    (h : (v2 ≤ v7 → uc = mc ∧ us ≤ ms ∧ Q (.inl (some (.long (((65536 : Int64) * v5) + v3)))) H) ∧ (¬ v2 ≤ v7 → ∃ n1 f2, H[(r0 : Nat)]? = some (.inl (1, n1, .inl f2)) ∧ vp_in v7 n1 ∧ (xW l x d mc ms mMO_sumA n0 Q cl 6 [some (.ref r0), some (.int v1), some (.int v2), some (.long ((v3 + ((f2 v7.toNatClampNeg) &&& 255).toInt64) - (v3 + ((f2 v7.toNatClampNeg) &&& 255).toInt64) / 65521 * 65521)), none, some (.long ((v5 + ((v3 + ((f2 v7.toNatClampNeg) &&& 255).toInt64) - (v3 + ((f2 v7.toNatClampNeg) &&& 255).toInt64) / 65521 * 65521)) - (v5 + ((v3 + ((f2 v7.toNatClampNeg) &&& 255).toInt64) - (v3 + ((f2 v7.toNatClampNeg) &&& 255).toInt64) / 65521 * 65521)) / 65521 * 65521)), none, some (.int (v7 + 1))] [] H uc us))) :
    xW l x d mc ms mMO_sumA n0 Q cl 6 [some (.ref r0), some (.int v1), some (.int v2), some (.long v3), none, some (.long v5), none, some (.int v7)] [] H uc us := by
  refine xs_iload rfl rfl ?_
  refine xs_iload_n rfl rfl ?_
  refine xs_icmp_ge (k' := 28) rfl rfl (fun hb => ?_) (fun hb => ?_)
  · have h := h.1 hb
    refine xs_ldc2 rfl kl_12_91 ?_
    refine xs_lload rfl rfl ?_
    refine xs_lmul rfl ?_
    refine xs_lload_n rfl rfl ?_
    refine xs_ladd rfl ?_
    exact xs_lret rfl rfl h.1 h.2.1 h.2.2
  · have h := h.2 hb
    refine xs_lload_n rfl rfl ?_
    refine xs_aload_n rfl rfl ?_
    refine xs_iload rfl rfl ?_
    obtain ⟨n1, f2, h1, h2, h⟩ := h
    refine xs_bald rfl h1 h2 ?_
    refine xs_sipushV (v := 255) rfl rfl ?_
    refine xs_iand rfl ?_
    refine xs_i2l rfl ?_
    refine xs_ladd rfl ?_
    refine xs_ldc2 rfl kl_12_89 ?_
    refine xs_lrem rfl (by decide) ?_
    refine xs_lstore_n rfl (L' := [some (.ref r0), some (.int v1), some (.int v2), some (.long ((v3 + ((f2 v7.toNatClampNeg) &&& 255).toInt64) - (v3 + ((f2 v7.toNatClampNeg) &&& 255).toInt64) / 65521 * 65521)), none, some (.long v5), none, some (.int v7)]) rfl rfl ?_
    refine xs_lload rfl rfl ?_
    refine xs_lload_n rfl rfl ?_
    refine xs_ladd rfl ?_
    refine xs_ldc2 rfl kl_12_89 ?_
    refine xs_lrem rfl (by decide) ?_
    refine xs_lstore rfl (L' := [some (.ref r0), some (.int v1), some (.int v2), some (.long ((v3 + ((f2 v7.toNatClampNeg) &&& 255).toInt64) - (v3 + ((f2 v7.toNatClampNeg) &&& 255).toInt64) / 65521 * 65521)), none, some (.long ((v5 + ((v3 + ((f2 v7.toNatClampNeg) &&& 255).toInt64) - (v3 + ((f2 v7.toNatClampNeg) &&& 255).toInt64) / 65521 * 65521)) - (v5 + ((v3 + ((f2 v7.toNatClampNeg) &&& 255).toInt64) - (v3 + ((f2 v7.toNatClampNeg) &&& 255).toInt64) / 65521 * 65521)) / 65521 * 65521)), none, some (.int v7)]) rfl rfl ?_
    refine xs_iincV rfl (w := 1) rfl rfl (L' := [some (.ref r0), some (.int v1), some (.int v2), some (.long ((v3 + ((f2 v7.toNatClampNeg) &&& 255).toInt64) - (v3 + ((f2 v7.toNatClampNeg) &&& 255).toInt64) / 65521 * 65521)), none, some (.long ((v5 + ((v3 + ((f2 v7.toNatClampNeg) &&& 255).toInt64) - (v3 + ((f2 v7.toNatClampNeg) &&& 255).toInt64) / 65521 * 65521)) - (v5 + ((v3 + ((f2 v7.toNatClampNeg) &&& 255).toInt64) - (v3 + ((f2 v7.toNatClampNeg) &&& 255).toInt64) / 65521 * 65521)) / 65521 * 65521)), none, some (.int (v7 + 1))]) rfl rfl ?_
    refine xs_goto (k' := 6) rfl rfl ?_
    exact h

set_option maxRecDepth 20000 in
theorem b_MO_sumB_0 {l : Launch} {x : xX} {d mc ms n0 uc us : Nat} {Q : xO → xH → Prop} {cl : Bool} {r0 : Nat} {v1 : Int32} {v2 : Int32} {H : xH}
    (h : xW l x d mc ms mMO_sumB n0 Q cl 4 [some (.ref r0), some (.int v1), some (.int v2), some (.long 4294967295), none, some (.int v1), none] [] H uc us) :
    xW l x d mc ms mMO_sumB n0 Q cl 0 [some (.ref r0), some (.int v1), some (.int v2), none, none, none, none] [] H uc us := by
  refine xs_ldc2 rfl kl_12_93 ?_
  refine xs_lstore_n rfl (L' := [some (.ref r0), some (.int v1), some (.int v2), some (.long 4294967295), none, none, none]) rfl rfl ?_
  refine xs_iload_n rfl rfl ?_
  refine xs_istore rfl (L' := [some (.ref r0), some (.int v1), some (.int v2), some (.long 4294967295), none, some (.int v1), none]) rfl rfl ?_
  exact h

set_option maxRecDepth 20000 in
theorem b_MO_sumB_4 {l : Launch} {x : xX} {d mc ms n0 uc us : Nat} {Q : xO → xH → Prop} {cl : Bool} {r0 : Nat} {v1 : Int32} {v2 : Int32} {v3 : Int64} {v5 : Int32} {H : xH}
    (h : (v2 ≤ v5 → uc = mc ∧ us ≤ ms ∧ Q (.inl (some (.long (v3 ^^^ 4294967295)))) H) ∧ (¬ v2 ≤ v5 → ∃ n1 f2, H[(r0 : Nat)]? = some (.inl (1, n1, .inl f2)) ∧ vp_in v5 n1 ∧ (xW l x d mc ms mMO_sumB n0 Q cl 18 [some (.ref r0), some (.int v1), some (.int v2), some (.long (v3 ^^^ ((f2 v5.toNatClampNeg).toInt64 &&& 255))), none, some (.int v5), some (.int 0)] [] H uc us))) :
    xW l x d mc ms mMO_sumB n0 Q cl 4 [some (.ref r0), some (.int v1), some (.int v2), some (.long v3), none, some (.int v5), none] [] H uc us := by
  refine xs_iload rfl rfl ?_
  refine xs_iload_n rfl rfl ?_
  refine xs_icmp_ge (k' := 41) rfl rfl (fun hb => ?_) (fun hb => ?_)
  · have h := h.1 hb
    refine xs_lload_n rfl rfl ?_
    refine xs_ldc2 rfl kl_12_93 ?_
    refine xs_lxor rfl ?_
    exact xs_lret rfl rfl h.1 h.2.1 h.2.2
  · have h := h.2 hb
    refine xs_lload_n rfl rfl ?_
    refine xs_aload_n rfl rfl ?_
    refine xs_iload rfl rfl ?_
    obtain ⟨n1, f2, h1, h2, h⟩ := h
    refine xs_bald rfl h1 h2 ?_
    refine xs_i2l rfl ?_
    refine xs_ldc2 rfl kl_12_95 ?_
    refine xs_land rfl ?_
    refine xs_lxor rfl ?_
    refine xs_lstore_n rfl (L' := [some (.ref r0), some (.int v1), some (.int v2), some (.long (v3 ^^^ ((f2 v5.toNatClampNeg).toInt64 &&& 255))), none, some (.int v5), none]) rfl rfl ?_
    refine xs_iconstV (v := 0) rfl rfl ?_
    refine xs_istore rfl (L' := [some (.ref r0), some (.int v1), some (.int v2), some (.long (v3 ^^^ ((f2 v5.toNatClampNeg).toInt64 &&& 255))), none, some (.int v5), some (.int 0)]) rfl rfl ?_
    exact h

set_option maxRecDepth 20000 in
theorem b_MO_sumB_18 {l : Launch} {x : xX} {d mc ms n0 uc us : Nat} {Q : xO → xH → Prop} {cl : Bool} {r0 : Nat} {v1 : Int32} {v2 : Int32} {v3 : Int64} {v5 : Int32} {v6 : Int32} {H : xH}
    (h : (8 ≤ v6 → xW l x d mc ms mMO_sumB n0 Q cl 4 [some (.ref r0), some (.int v1), some (.int v2), some (.long v3), none, some (.int (v5 + 1)), some (.int v6)] [] H uc us) ∧ (¬ 8 ≤ v6 → (¬ (lg_cmp (v3 - v3 / 2 * 2) 1) = 0 → xW l x d mc ms mMO_sumB n0 Q cl 18 [some (.ref r0), some (.int v1), some (.int v2), some (.long (v3 / 2)), none, some (.int v5), some (.int (v6 + 1))] [] H uc us) ∧ ((lg_cmp (v3 - v3 / 2 * 2) 1) = 0 → xW l x d mc ms mMO_sumB n0 Q cl 18 [some (.ref r0), some (.int v1), some (.int v2), some (.long ((v3 / 2) ^^^ 3988292384)), none, some (.int v5), some (.int (v6 + 1))] [] H uc us))) :
    xW l x d mc ms mMO_sumB n0 Q cl 18 [some (.ref r0), some (.int v1), some (.int v2), some (.long v3), none, some (.int v5), some (.int v6)] [] H uc us := by
  refine xs_iload rfl rfl ?_
  refine xs_bipushV (v := 8) rfl rfl ?_
  refine xs_icmp_ge (k' := 39) rfl rfl (fun hb => ?_) (fun hb => ?_)
  · have h := h.1 hb
    refine xs_iincV rfl (w := 1) rfl rfl (L' := [some (.ref r0), some (.int v1), some (.int v2), some (.long v3), none, some (.int (v5 + 1)), some (.int v6)]) rfl rfl ?_
    refine xs_goto (k' := 4) rfl rfl ?_
    exact h
  · have h := h.2 hb
    refine xs_lload_n rfl rfl ?_
    refine xs_ldc2 rfl kl_12_97 ?_
    refine xs_lrem rfl (by decide) ?_
    refine xs_lconstV (v := 1) rfl rfl ?_
    refine xs_lcmp rfl ?_
    refine xs_if_ne (k' := 33) rfl rfl (fun hb => ?_) (fun hb => ?_)
    · have h := h.1 hb
      refine xs_lload_n rfl rfl ?_
      refine xs_ldc2 rfl kl_12_97 ?_
      refine xs_ldiv rfl (by decide) ?_
      refine xs_lstore_n rfl (L' := [some (.ref r0), some (.int v1), some (.int v2), some (.long (v3 / 2)), none, some (.int v5), some (.int v6)]) rfl rfl ?_
      refine xs_iincV rfl (w := 1) rfl rfl (L' := [some (.ref r0), some (.int v1), some (.int v2), some (.long (v3 / 2)), none, some (.int v5), some (.int (v6 + 1))]) rfl rfl ?_
      refine xs_goto (k' := 18) rfl rfl ?_
      exact h
    · have h := h.2 hb
      refine xs_lload_n rfl rfl ?_
      refine xs_ldc2 rfl kl_12_97 ?_
      refine xs_ldiv rfl (by decide) ?_
      refine xs_ldc2 rfl kl_12_99 ?_
      refine xs_lxor rfl ?_
      refine xs_goto (k' := 36) rfl rfl ?_
      refine xs_lstore_n rfl (L' := [some (.ref r0), some (.int v1), some (.int v2), some (.long ((v3 / 2) ^^^ 3988292384)), none, some (.int v5), some (.int v6)]) rfl rfl ?_
      refine xs_iincV rfl (w := 1) rfl rfl (L' := [some (.ref r0), some (.int v1), some (.int v2), some (.long ((v3 / 2) ^^^ 3988292384)), none, some (.int v5), some (.int (v6 + 1))]) rfl rfl ?_
      refine xs_goto (k' := 18) rfl rfl ?_
      exact h

set_option maxRecDepth 20000 in
theorem b_MO_unpack_0 {l : Launch} {x : xX} {d mc ms n0 uc us : Nat} {Q : xO → xH → Prop} {cl : Bool} {r0 : Nat} {v1 : Int32} {H : xH}
    (h : (v1 < 0 → ∃ c1, H[(r0 : Nat)]? = some (.inr (12, c1)) ∧ 0 < c1.length ∧ (∀ H2 : xH, H2 = H.set r0 (.inr (12, c1.set 0 (.int 1))) → ∃ a3, gI H2 r0 12 0 a3 ∧ ((a3 ≤ 0 → xW l x d mc ms mMO_unpack n0 Q false 16 [some (.ref r0), some (.int v1)] [.ref r0] H2 uc us) ∧ (¬ a3 ≤ 0 → uc = mc ∧ us ≤ ms ∧ Q (.inl (some (.int 0))) H2)))) ∧ (¬ v1 < 0 → (v1 ≤ 2 → ∃ c4, H[(r0 : Nat)]? = some (.inr (12, c4)) ∧ 0 < c4.length ∧ (∀ H5 : xH, H5 = H.set r0 (.inr (12, c4.set 0 (.int 0))) → ∃ a6, gI H5 r0 12 0 a6 ∧ ((a6 ≤ 0 → xW l x d mc ms mMO_unpack n0 Q false 16 [some (.ref r0), some (.int v1)] [.ref r0] H5 uc us) ∧ (¬ a6 ≤ 0 → uc = mc ∧ us ≤ ms ∧ Q (.inl (some (.int 0))) H5)))) ∧ (¬ v1 ≤ 2 → ∃ c7, H[(r0 : Nat)]? = some (.inr (12, c7)) ∧ 0 < c7.length ∧ (∀ H8 : xH, H8 = H.set r0 (.inr (12, c7.set 0 (.int 1))) → ∃ a9, gI H8 r0 12 0 a9 ∧ ((a9 ≤ 0 → xW l x d mc ms mMO_unpack n0 Q false 16 [some (.ref r0), some (.int v1)] [.ref r0] H8 uc us) ∧ (¬ a9 ≤ 0 → uc = mc ∧ us ≤ ms ∧ Q (.inl (some (.int 0))) H8)))))) :
    xW l x d mc ms mMO_unpack n0 Q cl 0 [some (.ref r0), some (.int v1)] [] H uc us := by
  refine xs_aload_n rfl rfl ?_
  refine xs_iload_n rfl rfl ?_
  refine xs_if_lt (k' := 6) rfl rfl (fun hb => ?_) (fun hb => ?_)
  · have h := h.1 hb
    refine xs_iconstV (v := 1) rfl rfl ?_
    refine xs_goto (k' := 9) rfl rfl ?_
    obtain ⟨c1, h1, h2, h⟩ := h
    refine xs_putf rfl fl_12_79 h1 (fun q hq => by cases hq; rfl) rfl h2 ?_
    have h := h _ rfl
    generalize H.set r0 (.inr (12, c1.set 0 (.int 1))) = H2 at h ⊢
    refine xs_aload_n rfl rfl ?_
    obtain ⟨a3, ⟨_, h1, h2⟩, h⟩ := h
    refine xs_getf rfl fl_12_79 h1 h2 ?_
    refine xs_if_le (k' := 15) rfl rfl (fun hb => ?_) (fun hb => ?_)
    · have h := h.1 hb
      refine xs_aload_n rfl rfl ?_
      exact h
    · have h := h.2 hb
      refine xs_iconstV (v := 0) rfl rfl ?_
      exact xs_iret rfl rfl h.1 h.2.1 h.2.2
  · have h := h.2 hb
    refine xs_iload_n rfl rfl ?_
    refine xs_iconstV (v := 2) rfl rfl ?_
    refine xs_icmp_le (k' := 8) rfl rfl (fun hb => ?_) (fun hb => ?_)
    · have h := h.1 hb
      refine xs_iconstV (v := 0) rfl rfl ?_
      obtain ⟨c4, h1, h2, h⟩ := h
      refine xs_putf rfl fl_12_79 h1 (fun q hq => by cases hq; rfl) rfl h2 ?_
      have h := h _ rfl
      generalize H.set r0 (.inr (12, c4.set 0 (.int 0))) = H5 at h ⊢
      refine xs_aload_n rfl rfl ?_
      obtain ⟨a6, ⟨_, h1, h2⟩, h⟩ := h
      refine xs_getf rfl fl_12_79 h1 h2 ?_
      refine xs_if_le (k' := 15) rfl rfl (fun hb => ?_) (fun hb => ?_)
      · have h := h.1 hb
        refine xs_aload_n rfl rfl ?_
        exact h
      · have h := h.2 hb
        refine xs_iconstV (v := 0) rfl rfl ?_
        exact xs_iret rfl rfl h.1 h.2.1 h.2.2
    · have h := h.2 hb
      refine xs_iconstV (v := 1) rfl rfl ?_
      refine xs_goto (k' := 9) rfl rfl ?_
      obtain ⟨c7, h1, h2, h⟩ := h
      refine xs_putf rfl fl_12_79 h1 (fun q hq => by cases hq; rfl) rfl h2 ?_
      have h := h _ rfl
      generalize H.set r0 (.inr (12, c7.set 0 (.int 1))) = H8 at h ⊢
      refine xs_aload_n rfl rfl ?_
      obtain ⟨a9, ⟨_, h1, h2⟩, h⟩ := h
      refine xs_getf rfl fl_12_79 h1 h2 ?_
      refine xs_if_le (k' := 15) rfl rfl (fun hb => ?_) (fun hb => ?_)
      · have h := h.1 hb
        refine xs_aload_n rfl rfl ?_
        exact h
      · have h := h.2 hb
        refine xs_iconstV (v := 0) rfl rfl ?_
        exact xs_iret rfl rfl h.1 h.2.1 h.2.2

set_option maxRecDepth 20000 in
theorem b_MO_unpack_17 {l : Launch} {x : xX} {d mc ms n0 uc us : Nat} {Q : xO → xH → Prop} {cl : Bool} {r0 : Nat} {v1 : Int32} {H : xH}
    (h : (¬ v1 = 0 → (¬ v1 = 1 → xW l x d mc ms mMO_unpack n0 Q cl 33 [some (.ref r0), some (.int v1)] [.ref r0] H uc us) ∧ (v1 = 1 → xW l x d mc ms mMO_unpack n0 Q cl 30 [some (.ref r0), some (.int v1)] [.ref r0] H uc us)) ∧ (v1 = 0 → xW l x d mc ms mMO_unpack n0 Q cl 20 [some (.ref r0), some (.int v1)] [.ref r0] H uc us)) :
    xW l x d mc ms mMO_unpack n0 Q cl 17 [some (.ref r0), some (.int v1)] [] H uc us := by
  refine xs_iload_n rfl rfl ?_
  refine xs_if_ne (k' := 26) rfl rfl (fun hb => ?_) (fun hb => ?_)
  · have h := h.1 hb
    refine xs_iload_n rfl rfl ?_
    refine xs_iconstV (v := 1) rfl rfl ?_
    refine xs_icmp_ne (k' := 32) rfl rfl (fun hb => ?_) (fun hb => ?_)
    · have h := h.1 hb
      refine xs_aload_n rfl rfl ?_
      exact h
    · have h := h.2 hb
      refine xs_aload_n rfl rfl ?_
      exact h
  · have h := h.2 hb
    refine xs_aload_n rfl rfl ?_
    exact h

set_option maxRecDepth 20000 in
theorem b_MO_unpack_21 {l : Launch} {x : xX} {d mc ms n0 uc us : Nat} {Q : xO → xH → Prop} {cl : Bool} {r0 : Nat} {v1 : Int32} {H : xH}
    (h : xW l x d mc ms mMO_unpack n0 Q cl 22 [some (.ref r0), some (.int v1)] [.ref r0] H uc us) :
    xW l x d mc ms mMO_unpack n0 Q cl 21 [some (.ref r0), some (.int v1)] [] H uc us := by
  refine xs_aload_n rfl rfl ?_
  exact h

set_option maxRecDepth 20000 in
theorem b_MO_unpack_23 {l : Launch} {x : xX} {d mc ms n0 uc us : Nat} {Q : xO → xH → Prop} {cl : Bool} {r0 : Nat} {v1 : Int32} {H : xH}
    (h : xW l x d mc ms mMO_unpack n0 Q cl 24 [some (.ref r0), some (.int v1)] [.ref r0] H uc us) :
    xW l x d mc ms mMO_unpack n0 Q cl 23 [some (.ref r0), some (.int v1)] [] H uc us := by
  refine xs_aload_n rfl rfl ?_
  exact h

set_option maxRecDepth 20000 in
theorem b_MO_unpack_25 {l : Launch} {x : xX} {d mc ms n0 uc us : Nat} {Q : xO → xH → Prop} {cl : Bool} {r0 : Nat} {v1 : Int32} {H : xH}
    (h : xW l x d mc ms mMO_unpack n0 Q cl 34 [some (.ref r0), some (.int v1)] [] H uc us) :
    xW l x d mc ms mMO_unpack n0 Q cl 25 [some (.ref r0), some (.int v1)] [] H uc us := by
  refine xs_goto (k' := 34) rfl rfl ?_
  exact h

set_option maxRecDepth 20000 in
theorem b_MO_unpack_31 {l : Launch} {x : xX} {d mc ms n0 uc us : Nat} {Q : xO → xH → Prop} {cl : Bool} {r0 : Nat} {v1 : Int32} {H : xH}
    (h : xW l x d mc ms mMO_unpack n0 Q cl 34 [some (.ref r0), some (.int v1)] [] H uc us) :
    xW l x d mc ms mMO_unpack n0 Q cl 31 [some (.ref r0), some (.int v1)] [] H uc us := by
  refine xs_goto (k' := 34) rfl rfl ?_
  exact h

set_option maxRecDepth 20000 in
theorem b_MO_unpack_34 {l : Launch} {x : xX} {d mc ms n0 uc us : Nat} {Q : xO → xH → Prop} {cl : Bool} {r0 : Nat} {v1 : Int32} {H : xH}
    (h : ∃ a1, gI H r0 12 5 a1 ∧ ((a1 ≤ 0 → ∃ a2, gI H r0 12 4 a2 ∧ (∃ c3, H[(r0 : Nat)]? = some (.inr (12, c3)) ∧ 4 < c3.length ∧ (∀ H4 : xH, H4 = H.set r0 (.inr (12, c3.set 4 (.int a2))) → ∃ a5, gI H4 r0 12 5 a5 ∧ ((a5 ≤ 0 → ∃ a6, gI H4 r0 12 4 a6 ∧ (uc = mc ∧ us ≤ ms ∧ Q (.inl (some (.int a6))) H4)) ∧ (¬ a5 ≤ 0 → uc = mc ∧ us ≤ ms ∧ Q (.inl (some (.int (-1)))) H4))))) ∧ (¬ a1 ≤ 0 → ∃ c7, H[(r0 : Nat)]? = some (.inr (12, c7)) ∧ 4 < c7.length ∧ (∀ H8 : xH, H8 = H.set r0 (.inr (12, c7.set 4 (.int 0))) → ∃ a9, gI H8 r0 12 5 a9 ∧ ((a9 ≤ 0 → ∃ a10, gI H8 r0 12 4 a10 ∧ (uc = mc ∧ us ≤ ms ∧ Q (.inl (some (.int a10))) H8)) ∧ (¬ a9 ≤ 0 → uc = mc ∧ us ≤ ms ∧ Q (.inl (some (.int (-1)))) H8)))))) :
    xW l x d mc ms mMO_unpack n0 Q cl 34 [some (.ref r0), some (.int v1)] [] H uc us := by
  refine xs_aload_n rfl rfl ?_
  refine xs_aload_n rfl rfl ?_
  obtain ⟨a1, ⟨_, h1, h2⟩, h⟩ := h
  refine xs_getf rfl fl_12_115 h1 h2 ?_
  refine xs_if_le (k' := 40) rfl rfl (fun hb => ?_) (fun hb => ?_)
  · have h := h.1 hb
    refine xs_aload_n rfl rfl ?_
    obtain ⟨a2, ⟨_, h1, h2⟩, h⟩ := h
    refine xs_getf rfl fl_12_146 h1 h2 ?_
    obtain ⟨c3, h1, h2, h⟩ := h
    refine xs_putf rfl fl_12_146 h1 (fun q hq => by cases hq; rfl) rfl h2 ?_
    have h := h _ rfl
    generalize H.set r0 (.inr (12, c3.set 4 (.int a2))) = H4 at h ⊢
    refine xs_aload_n rfl rfl ?_
    obtain ⟨a5, ⟨_, h1, h2⟩, h⟩ := h
    refine xs_getf rfl fl_12_115 h1 h2 ?_
    refine xs_if_le (k' := 48) rfl rfl (fun hb => ?_) (fun hb => ?_)
    · have h := h.1 hb
      refine xs_aload_n rfl rfl ?_
      obtain ⟨a6, ⟨_, h1, h2⟩, h⟩ := h
      refine xs_getf rfl fl_12_146 h1 h2 ?_
      exact xs_iret rfl rfl h.1 h.2.1 h.2.2
    · have h := h.2 hb
      refine xs_iconstV (v := (-1)) rfl rfl ?_
      refine xs_goto (k' := 50) rfl rfl ?_
      exact xs_iret rfl rfl h.1 h.2.1 h.2.2
  · have h := h.2 hb
    refine xs_iconstV (v := 0) rfl rfl ?_
    refine xs_goto (k' := 42) rfl rfl ?_
    obtain ⟨c7, h1, h2, h⟩ := h
    refine xs_putf rfl fl_12_146 h1 (fun q hq => by cases hq; rfl) rfl h2 ?_
    have h := h _ rfl
    generalize H.set r0 (.inr (12, c7.set 4 (.int 0))) = H8 at h ⊢
    refine xs_aload_n rfl rfl ?_
    obtain ⟨a9, ⟨_, h1, h2⟩, h⟩ := h
    refine xs_getf rfl fl_12_115 h1 h2 ?_
    refine xs_if_le (k' := 48) rfl rfl (fun hb => ?_) (fun hb => ?_)
    · have h := h.1 hb
      refine xs_aload_n rfl rfl ?_
      obtain ⟨a10, ⟨_, h1, h2⟩, h⟩ := h
      refine xs_getf rfl fl_12_146 h1 h2 ?_
      exact xs_iret rfl rfl h.1 h.2.1 h.2.2
    · have h := h.2 hb
      refine xs_iconstV (v := (-1)) rfl rfl ?_
      refine xs_goto (k' := 50) rfl rfl ?_
      exact xs_iret rfl rfl h.1 h.2.1 h.2.2

set_option maxRecDepth 20000 in
theorem b_MO_clear_0 {l : Launch} {x : xX} {d mc ms n0 uc us : Nat} {Q : xO → xH → Prop} {cl : Bool} {r0 : Nat} {H : xH}
    (h : ∃ c1, H[(r0 : Nat)]? = some (.inr (12, c1)) ∧ 4 < c1.length ∧ (∀ H2 : xH, H2 = H.set r0 (.inr (12, c1.set 4 (.int 0))) → ∃ c3, H2[(r0 : Nat)]? = some (.inr (12, c3)) ∧ 5 < c3.length ∧ (∀ H4 : xH, H4 = H2.set r0 (.inr (12, c3.set 5 (.int 0))) → ∃ c5, H4[(r0 : Nat)]? = some (.inr (12, c5)) ∧ 6 < c5.length ∧ (∀ H6 : xH, H6 = H4.set r0 (.inr (12, c5.set 6 (.int (-1)))) → ∃ c7, H6[(r0 : Nat)]? = some (.inr (12, c7)) ∧ 7 < c7.length ∧ (∀ H8 : xH, H8 = H6.set r0 (.inr (12, c7.set 7 (.int 0))) → ∃ c9, H8[(r0 : Nat)]? = some (.inr (12, c9)) ∧ 8 < c9.length ∧ (∀ H10 : xH, H10 = H8.set r0 (.inr (12, c9.set 8 (.int 0))) → ∃ c11, H10[(r0 : Nat)]? = some (.inr (12, c11)) ∧ 13 < c11.length ∧ (∀ H12 : xH, H12 = H10.set r0 (.inr (12, c11.set 13 (.int 0))) → ∃ c13, H12[(r0 : Nat)]? = some (.inr (12, c13)) ∧ 14 < c13.length ∧ (∀ H14 : xH, H14 = H12.set r0 (.inr (12, c13.set 14 (.int 0))) → uc = mc ∧ us ≤ ms ∧ Q (.inl none) H14)))))))) :
    xW l x d mc ms mMO_clear n0 Q cl 0 [some (.ref r0)] [] H uc us := by
  refine xs_aload_n rfl rfl ?_
  refine xs_iconstV (v := 0) rfl rfl ?_
  obtain ⟨c1, h1, h2, h⟩ := h
  refine xs_putf rfl fl_12_146 h1 (fun q hq => by cases hq; rfl) rfl h2 ?_
  have h := h _ rfl
  generalize H.set r0 (.inr (12, c1.set 4 (.int 0))) = H2 at h ⊢
  refine xs_aload_n rfl rfl ?_
  refine xs_iconstV (v := 0) rfl rfl ?_
  obtain ⟨c3, h1, h2, h⟩ := h
  refine xs_putf rfl fl_12_115 h1 (fun q hq => by cases hq; rfl) rfl h2 ?_
  have h := h _ rfl
  generalize H2.set r0 (.inr (12, c3.set 5 (.int 0))) = H4 at h ⊢
  refine xs_aload_n rfl rfl ?_
  refine xs_iconstV (v := (-1)) rfl rfl ?_
  obtain ⟨c5, h1, h2, h⟩ := h
  refine xs_putf rfl fl_12_18 h1 (fun q hq => by cases hq; rfl) rfl h2 ?_
  have h := h _ rfl
  generalize H4.set r0 (.inr (12, c5.set 6 (.int (-1)))) = H6 at h ⊢
  refine xs_aload_n rfl rfl ?_
  refine xs_iconstV (v := 0) rfl rfl ?_
  obtain ⟨c7, h1, h2, h⟩ := h
  refine xs_putf rfl fl_12_171 h1 (fun q hq => by cases hq; rfl) rfl h2 ?_
  have h := h _ rfl
  generalize H6.set r0 (.inr (12, c7.set 7 (.int 0))) = H8 at h ⊢
  refine xs_aload_n rfl rfl ?_
  refine xs_iconstV (v := 0) rfl rfl ?_
  obtain ⟨c9, h1, h2, h⟩ := h
  refine xs_putf rfl fl_12_164 h1 (fun q hq => by cases hq; rfl) rfl h2 ?_
  have h := h _ rfl
  generalize H8.set r0 (.inr (12, c9.set 8 (.int 0))) = H10 at h ⊢
  refine xs_aload_n rfl rfl ?_
  refine xs_iconstV (v := 0) rfl rfl ?_
  obtain ⟨c11, h1, h2, h⟩ := h
  refine xs_putf rfl fl_12_118 h1 (fun q hq => by cases hq; rfl) rfl h2 ?_
  have h := h _ rfl
  generalize H10.set r0 (.inr (12, c11.set 13 (.int 0))) = H12 at h ⊢
  refine xs_aload_n rfl rfl ?_
  refine xs_iconstV (v := 0) rfl rfl ?_
  obtain ⟨c13, h1, h2, h⟩ := h
  refine xs_putf rfl fl_12_152 h1 (fun q hq => by cases hq; rfl) rfl h2 ?_
  have h := h _ rfl
  generalize H12.set r0 (.inr (12, c13.set 14 (.int 0))) = H14 at h ⊢
  exact xs_vret rfl rfl h.1 h.2.1 h.2.2

set_option maxRecDepth 20000 in
theorem b_MO_readBlocks_0 {l : Launch} {x : xX} {d mc ms n0 uc us : Nat} {Q : xO → xH → Prop} {cl : Bool} {r0 : Nat} {H : xH}
    (h : xW l x d mc ms mMO_readBlocks n0 Q cl 2 [some (.ref r0), some (.int 1), none, none, none, none, none] [] H uc us) :
    xW l x d mc ms mMO_readBlocks n0 Q cl 0 [some (.ref r0), none, none, none, none, none, none] [] H uc us := by
  refine xs_iconstV (v := 1) rfl rfl ?_
  refine xs_istore_n rfl (L' := [some (.ref r0), some (.int 1), none, none, none, none, none]) rfl rfl ?_
  exact h

set_option maxRecDepth 20000 in
theorem b_MO_readBlocks_2 {l : Launch} {x : xX} {d mc ms n0 uc us : Nat} {Q : xO → xH → Prop} {cl : Bool} {r0 : Nat} {v1 : Int32} {H : xH}
    (h : (v1 = 0 → uc = mc ∧ us ≤ ms ∧ Q (.inl none) H) ∧ (¬ v1 = 0 → ∃ a1, gI H r0 12 5 a1 ∧ ((¬ a1 = 0 → uc = mc ∧ us ≤ ms ∧ Q (.inl none) H) ∧ (a1 = 0 → ∃ a2, gI H r0 12 13 a2 ∧ (∃ a3, gI H r0 12 4 a3 ∧ (xW l x d mc ms mMO_readBlocks n0 Q cl 14 [some (.ref r0), some (.int v1), some (.int a2), some (.int a3), none, none, none] [.ref r0] H uc us)))))) :
    xW l x d mc ms mMO_readBlocks n0 Q cl 2 [some (.ref r0), some (.int v1), none, none, none, none, none] [] H uc us := by
  refine xs_iload_n rfl rfl ?_
  refine xs_if_eq (k' := 90) rfl rfl (fun hb => ?_) (fun hb => ?_)
  · have h := h.1 hb
    exact xs_vret rfl rfl h.1 h.2.1 h.2.2
  · have h := h.2 hb
    refine xs_aload_n rfl rfl ?_
    obtain ⟨a1, ⟨_, h1, h2⟩, h⟩ := h
    refine xs_getf rfl fl_12_115 h1 h2 ?_
    refine xs_if_ne (k' := 90) rfl rfl (fun hb => ?_) (fun hb => ?_)
    · have h := h.1 hb
      exact xs_vret rfl rfl h.1 h.2.1 h.2.2
    · have h := h.2 hb
      refine xs_aload_n rfl rfl ?_
      obtain ⟨a2, ⟨_, h1, h2⟩, h⟩ := h
      refine xs_getf rfl fl_12_118 h1 h2 ?_
      refine xs_istore_n rfl (L' := [some (.ref r0), some (.int v1), some (.int a2), none, none, none, none]) rfl rfl ?_
      refine xs_aload_n rfl rfl ?_
      obtain ⟨a3, ⟨_, h1, h2⟩, h⟩ := h
      refine xs_getf rfl fl_12_146 h1 h2 ?_
      refine xs_istore_n rfl (L' := [some (.ref r0), some (.int v1), some (.int a2), some (.int a3), none, none, none]) rfl rfl ?_
      refine xs_aload_n rfl rfl ?_
      exact h

set_option maxRecDepth 20000 in
theorem b_MO_readBlocks_15 {l : Launch} {x : xX} {d mc ms n0 uc us : Nat} {Q : xO → xH → Prop} {cl : Bool} {r0 : Nat} {v1 : Int32} {v2 : Int32} {v3 : Int32} {u0 : Int32} {H : xH}
    (h : (¬ u0 = 0 → ∃ a1, gI H r0 12 13 a1 ∧ (xW l x d mc ms mMO_readBlocks n0 Q cl 25 [some (.ref r0), some (.int 0), some (.int v2), some (.int v3), some (.int a1), none, none] [.int 2, .ref r0] H uc us)) ∧ (u0 = 0 → ∃ a2, gI H r0 12 13 a2 ∧ (xW l x d mc ms mMO_readBlocks n0 Q cl 25 [some (.ref r0), some (.int 1), some (.int v2), some (.int v3), some (.int a2), none, none] [.int 2, .ref r0] H uc us))) :
    xW l x d mc ms mMO_readBlocks n0 Q cl 15 [some (.ref r0), some (.int v1), some (.int v2), some (.int v3), none, none, none] [.int u0] H uc us := by
  refine xs_if_ne (k' := 18) rfl rfl (fun hb => ?_) (fun hb => ?_)
  · have h := h.1 hb
    refine xs_iconstV (v := 0) rfl rfl ?_
    refine xs_istore_n rfl (L' := [some (.ref r0), some (.int 0), some (.int v2), some (.int v3), none, none, none]) rfl rfl ?_
    refine xs_aload_n rfl rfl ?_
    obtain ⟨a1, ⟨_, h1, h2⟩, h⟩ := h
    refine xs_getf rfl fl_12_118 h1 h2 ?_
    refine xs_istore rfl (L' := [some (.ref r0), some (.int 0), some (.int v2), some (.int v3), some (.int a1), none, none]) rfl rfl ?_
    refine xs_aload_n rfl rfl ?_
    refine xs_iconstV (v := 2) rfl rfl ?_
    exact h
  · have h := h.2 hb
    refine xs_iconstV (v := 1) rfl rfl ?_
    refine xs_goto (k' := 19) rfl rfl ?_
    refine xs_istore_n rfl (L' := [some (.ref r0), some (.int 1), some (.int v2), some (.int v3), none, none, none]) rfl rfl ?_
    refine xs_aload_n rfl rfl ?_
    obtain ⟨a2, ⟨_, h1, h2⟩, h⟩ := h
    refine xs_getf rfl fl_12_118 h1 h2 ?_
    refine xs_istore rfl (L' := [some (.ref r0), some (.int 1), some (.int v2), some (.int v3), some (.int a2), none, none]) rfl rfl ?_
    refine xs_aload_n rfl rfl ?_
    refine xs_iconstV (v := 2) rfl rfl ?_
    exact h

set_option maxRecDepth 20000 in
theorem b_MO_readBlocks_26 {l : Launch} {x : xX} {d mc ms n0 uc us : Nat} {Q : xO → xH → Prop} {cl : Bool} {r0 : Nat} {v1 : Int32} {v2 : Int32} {v3 : Int32} {v4 : Int32} {u0 : Int32} {H : xH}
    (h : ∃ a1, gI H r0 12 5 a1 ∧ ((¬ a1 = 0 → xW l x d mc ms mMO_readBlocks n0 Q cl 37 [some (.ref r0), some (.int v1), some (.int v2), some (.int v3), some (.int v4), some (.int u0), none] [] H uc us) ∧ (a1 = 0 → (¬ u0 = 3 → xW l x d mc ms mMO_readBlocks n0 Q cl 37 [some (.ref r0), some (.int v1), some (.int v2), some (.int v3), some (.int v4), some (.int u0), none] [] H uc us) ∧ (u0 = 3 → xW l x d mc ms mMO_readBlocks n0 Q cl 36 [some (.ref r0), some (.int v1), some (.int v2), some (.int v3), some (.int v4), some (.int u0), none] [.int v4, .int 2, .ref r0] H uc us)))) :
    xW l x d mc ms mMO_readBlocks n0 Q cl 26 [some (.ref r0), some (.int v1), some (.int v2), some (.int v3), some (.int v4), none, none] [.int u0] H uc us := by
  refine xs_istore rfl (L' := [some (.ref r0), some (.int v1), some (.int v2), some (.int v3), some (.int v4), some (.int u0), none]) rfl rfl ?_
  refine xs_aload_n rfl rfl ?_
  obtain ⟨a1, ⟨_, h1, h2⟩, h⟩ := h
  refine xs_getf rfl fl_12_115 h1 h2 ?_
  refine xs_if_ne (k' := 37) rfl rfl (fun hb => ?_) (fun hb => ?_)
  · have h := h.1 hb
    exact h
  · have h := h.2 hb
    refine xs_iload rfl rfl ?_
    refine xs_iconstV (v := 3) rfl rfl ?_
    refine xs_icmp_ne (k' := 37) rfl rfl (fun hb => ?_) (fun hb => ?_)
    · have h := h.1 hb
      exact h
    · have h := h.2 hb
      refine xs_aload_n rfl rfl ?_
      refine xs_iconstV (v := 2) rfl rfl ?_
      refine xs_iload rfl rfl ?_
      exact h

set_option maxRecDepth 20000 in
theorem b_MO_readBlocks_37 {l : Launch} {x : xX} {d mc ms n0 uc us : Nat} {Q : xO → xH → Prop} {cl : Bool} {r0 : Nat} {v1 : Int32} {v2 : Int32} {v3 : Int32} {v4 : Int32} {v5 : Int32} {H : xH}
    (h : ∃ a1, gI H r0 12 5 a1 ∧ ((¬ a1 = 0 → ∃ a2, gI H r0 12 5 a2 ∧ ((¬ a2 = 0 → xW l x d mc ms mMO_readBlocks n0 Q cl 74 [some (.ref r0), some (.int v1), some (.int v2), some (.int v3), some (.int v4), some (.int v5), none] [] H uc us) ∧ (a2 = 0 → (¬ v5 = 1 → xW l x d mc ms mMO_readBlocks n0 Q cl 69 [some (.ref r0), some (.int v1), some (.int v2), some (.int v3), some (.int v4), some (.int v5), some (.int 2)] [.ref r0] H uc us) ∧ (v5 = 1 → xW l x d mc ms mMO_readBlocks n0 Q cl 54 [some (.ref r0), some (.int v1), some (.int v2), some (.int v3), some (.int v4), some (.int v5), some (.int 2)] [.ref r0] H uc us)))) ∧ (a1 = 0 → (¬ v5 = 0 → ∃ a3, gI H r0 12 5 a3 ∧ ((¬ a3 = 0 → xW l x d mc ms mMO_readBlocks n0 Q cl 74 [some (.ref r0), some (.int v1), some (.int v2), some (.int v3), some (.int v4), some (.int v5), none] [] H uc us) ∧ (a3 = 0 → (¬ v5 = 1 → xW l x d mc ms mMO_readBlocks n0 Q cl 69 [some (.ref r0), some (.int v1), some (.int v2), some (.int v3), some (.int v4), some (.int v5), some (.int 2)] [.ref r0] H uc us) ∧ (v5 = 1 → xW l x d mc ms mMO_readBlocks n0 Q cl 54 [some (.ref r0), some (.int v1), some (.int v2), some (.int v3), some (.int v4), some (.int v5), some (.int 2)] [.ref r0] H uc us)))) ∧ (v5 = 0 → xW l x d mc ms mMO_readBlocks n0 Q cl 43 [some (.ref r0), some (.int v1), some (.int v2), some (.int v3), some (.int v4), some (.int v5), none] [.ref r0] H uc us)))) :
    xW l x d mc ms mMO_readBlocks n0 Q cl 37 [some (.ref r0), some (.int v1), some (.int v2), some (.int v3), some (.int v4), some (.int v5), none] [] H uc us := by
  refine xs_aload_n rfl rfl ?_
  obtain ⟨a1, ⟨_, h1, h2⟩, h⟩ := h
  refine xs_getf rfl fl_12_115 h1 h2 ?_
  refine xs_if_ne (k' := 45) rfl rfl (fun hb => ?_) (fun hb => ?_)
  · have h := h.1 hb
    refine xs_aload_n rfl rfl ?_
    obtain ⟨a2, ⟨_, h1, h2⟩, h⟩ := h
    refine xs_getf rfl fl_12_115 h1 h2 ?_
    refine xs_if_ne (k' := 74) rfl rfl (fun hb => ?_) (fun hb => ?_)
    · have h := h.1 hb
      exact h
    · have h := h.2 hb
      refine xs_iconstV (v := 2) rfl rfl ?_
      refine xs_istore rfl (L' := [some (.ref r0), some (.int v1), some (.int v2), some (.int v3), some (.int v4), some (.int v5), some (.int 2)]) rfl rfl ?_
      refine xs_iload rfl rfl ?_
      refine xs_iconstV (v := 1) rfl rfl ?_
      refine xs_icmp_ne (k' := 68) rfl rfl (fun hb => ?_) (fun hb => ?_)
      · have h := h.1 hb
        refine xs_aload_n rfl rfl ?_
        exact h
      · have h := h.2 hb
        refine xs_aload_n rfl rfl ?_
        exact h
  · have h := h.2 hb
    refine xs_iload rfl rfl ?_
    refine xs_if_ne (k' := 45) rfl rfl (fun hb => ?_) (fun hb => ?_)
    · have h := h.1 hb
      refine xs_aload_n rfl rfl ?_
      obtain ⟨a3, ⟨_, h1, h2⟩, h⟩ := h
      refine xs_getf rfl fl_12_115 h1 h2 ?_
      refine xs_if_ne (k' := 74) rfl rfl (fun hb => ?_) (fun hb => ?_)
      · have h := h.1 hb
        exact h
      · have h := h.2 hb
        refine xs_iconstV (v := 2) rfl rfl ?_
        refine xs_istore rfl (L' := [some (.ref r0), some (.int v1), some (.int v2), some (.int v3), some (.int v4), some (.int v5), some (.int 2)]) rfl rfl ?_
        refine xs_iload rfl rfl ?_
        refine xs_iconstV (v := 1) rfl rfl ?_
        refine xs_icmp_ne (k' := 68) rfl rfl (fun hb => ?_) (fun hb => ?_)
        · have h := h.1 hb
          refine xs_aload_n rfl rfl ?_
          exact h
        · have h := h.2 hb
          refine xs_aload_n rfl rfl ?_
          exact h
    · have h := h.2 hb
      refine xs_aload_n rfl rfl ?_
      exact h

set_option maxRecDepth 20000 in
theorem b_MO_readBlocks_44 {l : Launch} {x : xX} {d mc ms n0 uc us : Nat} {Q : xO → xH → Prop} {cl : Bool} {r0 : Nat} {v1 : Int32} {v2 : Int32} {v3 : Int32} {v4 : Int32} {v5 : Int32} {H : xH}
    (h : xW l x d mc ms mMO_readBlocks n0 Q cl 74 [some (.ref r0), some (.int v1), some (.int v2), some (.int v3), some (.int v4), some (.int v5), none] [] H uc us) :
    xW l x d mc ms mMO_readBlocks n0 Q cl 44 [some (.ref r0), some (.int v1), some (.int v2), some (.int v3), some (.int v4), some (.int v5), none] [] H uc us := by
  refine xs_goto (k' := 74) rfl rfl ?_
  exact h

set_option maxRecDepth 20000 in
theorem b_MO_readBlocks_55 {l : Launch} {x : xX} {d mc ms n0 uc us : Nat} {Q : xO → xH → Prop} {cl : Bool} {r0 : Nat} {v1 : Int32} {v2 : Int32} {v3 : Int32} {v4 : Int32} {v5 : Int32} {v6 : Int32} {H : xH}
    (h : xW l x d mc ms mMO_readBlocks n0 Q cl 59 [some (.ref r0), some (.int v1), some (.int v2), some (.int v3), some (.int v4), some (.int v5), some (.int v6)] [.int 0, .int 288, .int 0, .ref r0] H uc us) :
    xW l x d mc ms mMO_readBlocks n0 Q cl 55 [some (.ref r0), some (.int v1), some (.int v2), some (.int v3), some (.int v4), some (.int v5), some (.int v6)] [] H uc us := by
  refine xs_aload_n rfl rfl ?_
  refine xs_iconstV (v := 0) rfl rfl ?_
  refine xs_sipushV (v := 288) rfl rfl ?_
  refine xs_iconstV (v := 0) rfl rfl ?_
  exact h

set_option maxRecDepth 20000 in
theorem b_MO_readBlocks_60 {l : Launch} {x : xX} {d mc ms n0 uc us : Nat} {Q : xO → xH → Prop} {cl : Bool} {r0 : Nat} {v1 : Int32} {v2 : Int32} {v3 : Int32} {v4 : Int32} {v5 : Int32} {v6 : Int32} {u0 : Int32} {H : xH}
    (h : xW l x d mc ms mMO_readBlocks n0 Q cl 65 [some (.ref r0), some (.int v1), some (.int v2), some (.int v3), some (.int v4), some (.int v5), some (.int u0)] [.int 16, .int 32, .int 400, .ref r0] H uc us) :
    xW l x d mc ms mMO_readBlocks n0 Q cl 60 [some (.ref r0), some (.int v1), some (.int v2), some (.int v3), some (.int v4), some (.int v5), some (.int v6)] [.int u0] H uc us := by
  refine xs_istore rfl (L' := [some (.ref r0), some (.int v1), some (.int v2), some (.int v3), some (.int v4), some (.int v5), some (.int u0)]) rfl rfl ?_
  refine xs_aload_n rfl rfl ?_
  refine xs_sipushV (v := 400) rfl rfl ?_
  refine xs_bipushV (v := 32) rfl rfl ?_
  refine xs_bipushV (v := 16) rfl rfl ?_
  exact h

set_option maxRecDepth 20000 in
theorem b_MO_readBlocks_66 {l : Launch} {x : xX} {d mc ms n0 uc us : Nat} {Q : xO → xH → Prop} {cl : Bool} {r0 : Nat} {v1 : Int32} {v2 : Int32} {v3 : Int32} {v4 : Int32} {v5 : Int32} {v6 : Int32} {u0 : Int32} {H : xH}
    (h : xW l x d mc ms mMO_readBlocks n0 Q cl 73 [some (.ref r0), some (.int v1), some (.int v2), some (.int v3), some (.int v4), some (.int v5), some (.int u0)] [.int u0, .ref r0] H uc us) :
    xW l x d mc ms mMO_readBlocks n0 Q cl 66 [some (.ref r0), some (.int v1), some (.int v2), some (.int v3), some (.int v4), some (.int v5), some (.int v6)] [.int u0] H uc us := by
  refine xs_istore rfl (L' := [some (.ref r0), some (.int v1), some (.int v2), some (.int v3), some (.int v4), some (.int v5), some (.int u0)]) rfl rfl ?_
  refine xs_goto (k' := 71) rfl rfl ?_
  refine xs_aload_n rfl rfl ?_
  refine xs_iload rfl rfl ?_
  exact h

set_option maxRecDepth 20000 in
theorem b_MO_readBlocks_70 {l : Launch} {x : xX} {d mc ms n0 uc us : Nat} {Q : xO → xH → Prop} {cl : Bool} {r0 : Nat} {v1 : Int32} {v2 : Int32} {v3 : Int32} {v4 : Int32} {v5 : Int32} {v6 : Int32} {u0 : Int32} {H : xH}
    (h : xW l x d mc ms mMO_readBlocks n0 Q cl 73 [some (.ref r0), some (.int v1), some (.int v2), some (.int v3), some (.int v4), some (.int v5), some (.int u0)] [.int u0, .ref r0] H uc us) :
    xW l x d mc ms mMO_readBlocks n0 Q cl 70 [some (.ref r0), some (.int v1), some (.int v2), some (.int v3), some (.int v4), some (.int v5), some (.int v6)] [.int u0] H uc us := by
  refine xs_istore rfl (L' := [some (.ref r0), some (.int v1), some (.int v2), some (.int v3), some (.int v4), some (.int v5), some (.int u0)]) rfl rfl ?_
  refine xs_aload_n rfl rfl ?_
  refine xs_iload rfl rfl ?_
  exact h

set_option maxRecDepth 20000 in
theorem b_MO_readBlocks_74 {l : Launch} {x : xX} {d mc ms n0 uc us : Nat} {Q : xO → xH → Prop} {cl : Bool} {r0 : Nat} {v1 : Int32} {v2 : Int32} {v3 : Int32} {v4 : Int32} {v5 : Int32} {H : xH}
    (h : ∃ a1, gI H r0 12 5 a1 ∧ ((¬ a1 = 0 → xW l x d mc ms mMO_readBlocks n0 Q cl 89 [some (.ref r0), some (.int v1), some (.int v2), some (.int v3), some (.int v4), some (.int v5), none] [] H uc us) ∧ (a1 = 0 → ∃ a2, gI H r0 12 13 a2 ∧ (∃ a3, gI H r0 12 4 a3 ∧ (xW l x d mc ms mMO_readBlocks n0 Q cl 88 [some (.ref r0), some (.int v1), some (.int v2), some (.int v3), some (.int v4), some (.int v5), none] [.int (a3 - v3), .int (a2 - v2), .int v2, .int v5, .ref r0] H uc us))))) :
    xW l x d mc ms mMO_readBlocks n0 Q cl 74 [some (.ref r0), some (.int v1), some (.int v2), some (.int v3), some (.int v4), some (.int v5), none] [] H uc us := by
  refine xs_aload_n rfl rfl ?_
  obtain ⟨a1, ⟨_, h1, h2⟩, h⟩ := h
  refine xs_getf rfl fl_12_115 h1 h2 ?_
  refine xs_if_ne (k' := 89) rfl rfl (fun hb => ?_) (fun hb => ?_)
  · have h := h.1 hb
    exact h
  · have h := h.2 hb
    refine xs_aload_n rfl rfl ?_
    refine xs_iload rfl rfl ?_
    refine xs_iload_n rfl rfl ?_
    refine xs_aload_n rfl rfl ?_
    obtain ⟨a2, ⟨_, h1, h2⟩, h⟩ := h
    refine xs_getf rfl fl_12_118 h1 h2 ?_
    refine xs_iload_n rfl rfl ?_
    refine xs_isub rfl ?_
    refine xs_aload_n rfl rfl ?_
    obtain ⟨a3, ⟨_, h1, h2⟩, h⟩ := h
    refine xs_getf rfl fl_12_146 h1 h2 ?_
    refine xs_iload_n rfl rfl ?_
    refine xs_isub rfl ?_
    exact h

set_option maxRecDepth 20000 in
theorem b_MO_readBlocks_89 {l : Launch} {x : xX} {d mc ms n0 uc us : Nat} {Q : xO → xH → Prop} {cl : Bool} {r0 : Nat} {v1 : Int32} {v2 : Int32} {v3 : Int32} {v4 : Int32} {v5 : Int32} {H : xH}
    (h : xW l x d mc ms mMO_readBlocks n0 Q cl 2 [some (.ref r0), some (.int v1), some (.int v2), some (.int v3), some (.int v4), some (.int v5), none] [] H uc us) :
    xW l x d mc ms mMO_readBlocks n0 Q cl 89 [some (.ref r0), some (.int v1), some (.int v2), some (.int v3), some (.int v4), some (.int v5), none] [] H uc us := by
  refine xs_goto (k' := 2) rfl rfl ?_
  exact h

set_option maxRecDepth 20000 in
theorem b_MO_bit_0 {l : Launch} {x : xX} {d mc ms n0 uc us : Nat} {Q : xO → xH → Prop} {cl : Bool} {r0 : Nat} {H : xH}
    (h : ∃ a1, gI H r0 12 13 a1 ∧ (∃ a2, gI H r0 12 2 a2 ∧ ((a1 < ((8 : Int32) * a2) → ∃ p3, gR H r0 12 1 p3 ∧ (∃ a4, gI H r0 12 13 a4 ∧ (∃ n5 f6, H[(p3 : Nat)]? = some (.inl (1, n5, .inl f6)) ∧ vp_in (a4 / 8) n5 ∧ (∃ a7, gI H r0 12 13 a7 ∧ (∃ a8, gI H r0 12 13 a8 ∧ (∃ c9, H[(r0 : Nat)]? = some (.inr (12, c9)) ∧ 13 < c9.length ∧ (∀ H10 : xH, H10 = H.set r0 (.inr (12, c9.set 13 (.int (a8 + 1)))) → uc = mc ∧ us ≤ ms ∧ Q (.inl (some (.int (((f6 (a4 / 8).toNatClampNeg) >>> (((a7 - a7 / 8 * 8) : Int32) &&& 31)) &&& 1)))) H10))))))) ∧ (¬ a1 < ((8 : Int32) * a2) → ∃ a11, gI H r0 12 2 a11 ∧ (xW l x d mc ms mMO_bit n0 Q cl 13 [some (.ref r0), none] [.int ((8 : Int32) * a11), .int 1, .ref r0] H uc us))))) :
    xW l x d mc ms mMO_bit n0 Q cl 0 [some (.ref r0), none] [] H uc us := by
  refine xs_aload_n rfl rfl ?_
  obtain ⟨a1, ⟨_, h1, h2⟩, h⟩ := h
  refine xs_getf rfl fl_12_118 h1 h2 ?_
  refine xs_bipushV (v := 8) rfl rfl ?_
  refine xs_aload_n rfl rfl ?_
  obtain ⟨a2, ⟨_, h1, h2⟩, h⟩ := h
  refine xs_getf rfl fl_12_82 h1 h2 ?_
  refine xs_imul rfl ?_
  refine xs_icmp_lt (k' := 16) rfl rfl (fun hb => ?_) (fun hb => ?_)
  · have h := h.1 hb
    refine xs_aload_n rfl rfl ?_
    obtain ⟨p3, ⟨_, h1, h2⟩, h⟩ := h
    refine xs_getf rfl fl_12_8 h1 h2 ?_
    refine xs_aload_n rfl rfl ?_
    obtain ⟨a4, ⟨_, h1, h2⟩, h⟩ := h
    refine xs_getf rfl fl_12_118 h1 h2 ?_
    refine xs_bipushV (v := 8) rfl rfl ?_
    refine xs_idiv rfl (by decide) ?_
    obtain ⟨n5, f6, h1, h2, h⟩ := h
    refine xs_bald rfl h1 h2 ?_
    refine xs_aload_n rfl rfl ?_
    obtain ⟨a7, ⟨_, h1, h2⟩, h⟩ := h
    refine xs_getf rfl fl_12_118 h1 h2 ?_
    refine xs_bipushV (v := 8) rfl rfl ?_
    refine xs_irem rfl (by decide) ?_
    refine xs_ishr rfl ?_
    refine xs_iconstV (v := 1) rfl rfl ?_
    refine xs_iand rfl ?_
    refine xs_istore_n rfl (L' := [some (.ref r0), some (.int (((f6 (a4 / 8).toNatClampNeg) >>> (((a7 - a7 / 8 * 8) : Int32) &&& 31)) &&& 1))]) rfl rfl ?_
    refine xs_aload_n rfl rfl ?_
    refine xs_dup rfl rfl ?_
    obtain ⟨a8, ⟨_, h1, h2⟩, h⟩ := h
    refine xs_getf rfl fl_12_118 h1 h2 ?_
    refine xs_iconstV (v := 1) rfl rfl ?_
    refine xs_iadd rfl ?_
    obtain ⟨c9, h1, h2, h⟩ := h
    refine xs_putf rfl fl_12_118 h1 (fun q hq => by cases hq; rfl) rfl h2 ?_
    have h := h _ rfl
    generalize H.set r0 (.inr (12, c9.set 13 (.int (a8 + 1)))) = H10 at h ⊢
    refine xs_iload_n rfl rfl ?_
    exact xs_iret rfl rfl h.1 h.2.1 h.2.2
  · have h := h.2 hb
    refine xs_aload_n rfl rfl ?_
    refine xs_iconstV (v := 1) rfl rfl ?_
    refine xs_bipushV (v := 8) rfl rfl ?_
    refine xs_aload_n rfl rfl ?_
    obtain ⟨a11, ⟨_, h1, h2⟩, h⟩ := h
    refine xs_getf rfl fl_12_82 h1 h2 ?_
    refine xs_imul rfl ?_
    exact h

set_option maxRecDepth 20000 in
theorem b_MO_bit_14 {l : Launch} {x : xX} {d mc ms n0 uc us : Nat} {Q : xO → xH → Prop} {cl : Bool} {r0 : Nat} {H : xH}
    (h : uc = mc ∧ us ≤ ms ∧ Q (.inl (some (.int 0))) H) :
    xW l x d mc ms mMO_bit n0 Q cl 14 [some (.ref r0), none] [] H uc us := by
  refine xs_iconstV (v := 0) rfl rfl ?_
  exact xs_iret rfl rfl h.1 h.2.1 h.2.2

set_option maxRecDepth 20000 in
theorem b_MO_fail_0 {l : Launch} {x : xX} {d mc ms n0 uc us : Nat} {Q : xO → xH → Prop} {cl : Bool} {r0 : Nat} {v1 : Int32} {v2 : Int32} {H : xH}
    (h : ∃ a1, gI H r0 12 5 a1 ∧ ((¬ a1 = 0 → uc = mc ∧ us ≤ ms ∧ Q (.inl none) H) ∧ (a1 = 0 → ∃ c2, H[(r0 : Nat)]? = some (.inr (12, c2)) ∧ 5 < c2.length ∧ (∀ H3 : xH, H3 = H.set r0 (.inr (12, c2.set 5 (.int v1))) → ∃ c4, H3[(r0 : Nat)]? = some (.inr (12, c4)) ∧ 6 < c4.length ∧ (∀ H5 : xH, H5 = H3.set r0 (.inr (12, c4.set 6 (.int v2))) → uc = mc ∧ us ≤ ms ∧ Q (.inl none) H5))))) :
    xW l x d mc ms mMO_fail n0 Q cl 0 [some (.ref r0), some (.int v1), some (.int v2)] [] H uc us := by
  refine xs_aload_n rfl rfl ?_
  obtain ⟨a1, ⟨_, h1, h2⟩, h⟩ := h
  refine xs_getf rfl fl_12_115 h1 h2 ?_
  refine xs_if_ne (k' := 9) rfl rfl (fun hb => ?_) (fun hb => ?_)
  · have h := h.1 hb
    exact xs_vret rfl rfl h.1 h.2.1 h.2.2
  · have h := h.2 hb
    refine xs_aload_n rfl rfl ?_
    refine xs_iload_n rfl rfl ?_
    obtain ⟨c2, h1, h2, h⟩ := h
    refine xs_putf rfl fl_12_115 h1 (fun q hq => by cases hq; rfl) rfl h2 ?_
    have h := h _ rfl
    generalize H.set r0 (.inr (12, c2.set 5 (.int v1))) = H3 at h ⊢
    refine xs_aload_n rfl rfl ?_
    refine xs_iload_n rfl rfl ?_
    obtain ⟨c4, h1, h2, h⟩ := h
    refine xs_putf rfl fl_12_18 h1 (fun q hq => by cases hq; rfl) rfl h2 ?_
    have h := h _ rfl
    generalize H3.set r0 (.inr (12, c4.set 6 (.int v2))) = H5 at h ⊢
    exact xs_vret rfl rfl h.1 h.2.1 h.2.2

set_option maxRecDepth 20000 in
theorem b_MO_number_0 {l : Launch} {x : xX} {d mc ms n0 uc us : Nat} {Q : xO → xH → Prop} {cl : Bool} {r0 : Nat} {v1 : Int32} {H : xH}
    (h : xW l x d mc ms mMO_number n0 Q cl 4 [some (.ref r0), some (.int v1), some (.int 0), some (.int 0)] [] H uc us) :
    xW l x d mc ms mMO_number n0 Q cl 0 [some (.ref r0), some (.int v1), none, none] [] H uc us := by
  refine xs_iconstV (v := 0) rfl rfl ?_
  refine xs_istore_n rfl (L' := [some (.ref r0), some (.int v1), some (.int 0), none]) rfl rfl ?_
  refine xs_iconstV (v := 0) rfl rfl ?_
  refine xs_istore_n rfl (L' := [some (.ref r0), some (.int v1), some (.int 0), some (.int 0)]) rfl rfl ?_
  exact h

set_option maxRecDepth 20000 in
theorem b_MO_number_4 {l : Launch} {x : xX} {d mc ms n0 uc us : Nat} {Q : xO → xH → Prop} {cl : Bool} {r0 : Nat} {v1 : Int32} {v2 : Int32} {v3 : Int32} {H : xH}
    (h : (v1 ≤ v3 → uc = mc ∧ us ≤ ms ∧ Q (.inl (some (.int v2))) H) ∧ (¬ v1 ≤ v3 → ∃ a1, gI H r0 12 5 a1 ∧ ((¬ a1 = 0 → uc = mc ∧ us ≤ ms ∧ Q (.inl (some (.int v2))) H) ∧ (a1 = 0 → xW l x d mc ms mMO_number n0 Q cl 12 [some (.ref r0), some (.int v1), some (.int v2), some (.int v3)] [.ref r0, .int v2] H uc us)))) :
    xW l x d mc ms mMO_number n0 Q cl 4 [some (.ref r0), some (.int v1), some (.int v2), some (.int v3)] [] H uc us := by
  refine xs_iload_n rfl rfl ?_
  refine xs_iload_n rfl rfl ?_
  refine xs_icmp_ge (k' := 19) rfl rfl (fun hb => ?_) (fun hb => ?_)
  · have h := h.1 hb
    refine xs_iload_n rfl rfl ?_
    exact xs_iret rfl rfl h.1 h.2.1 h.2.2
  · have h := h.2 hb
    refine xs_aload_n rfl rfl ?_
    obtain ⟨a1, ⟨_, h1, h2⟩, h⟩ := h
    refine xs_getf rfl fl_12_115 h1 h2 ?_
    refine xs_if_ne (k' := 19) rfl rfl (fun hb => ?_) (fun hb => ?_)
    · have h := h.1 hb
      refine xs_iload_n rfl rfl ?_
      exact xs_iret rfl rfl h.1 h.2.1 h.2.2
    · have h := h.2 hb
      refine xs_iload_n rfl rfl ?_
      refine xs_aload_n rfl rfl ?_
      exact h

set_option maxRecDepth 20000 in
theorem b_MO_number_13 {l : Launch} {x : xX} {d mc ms n0 uc us : Nat} {Q : xO → xH → Prop} {cl : Bool} {r0 : Nat} {v1 : Int32} {v2 : Int32} {v3 : Int32} {u0 : Int32} {u1 : Int32} {H : xH}
    (h : xW l x d mc ms mMO_number n0 Q cl 4 [some (.ref r0), some (.int v1), some (.int (u0 ||| (u1 <<< ((v3 : Int32) &&& 31)))), some (.int (v3 + 1))] [] H uc us) :
    xW l x d mc ms mMO_number n0 Q cl 13 [some (.ref r0), some (.int v1), some (.int v2), some (.int v3)] [.int u1, .int u0] H uc us := by
  refine xs_iload_n rfl rfl ?_
  refine xs_ishl rfl ?_
  refine xs_ior rfl ?_
  refine xs_istore_n rfl (L' := [some (.ref r0), some (.int v1), some (.int (u0 ||| (u1 <<< ((v3 : Int32) &&& 31)))), some (.int v3)]) rfl rfl ?_
  refine xs_iincV rfl (w := 1) rfl rfl (L' := [some (.ref r0), some (.int v1), some (.int (u0 ||| (u1 <<< ((v3 : Int32) &&& 31)))), some (.int (v3 + 1))]) rfl rfl ?_
  refine xs_goto (k' := 4) rfl rfl ?_
  exact h

set_option maxRecDepth 20000 in
theorem b_MO_readPlain_0 {l : Launch} {x : xX} {d mc ms n0 uc us : Nat} {Q : xO → xH → Prop} {cl : Bool} {r0 : Nat} {H : xH}
    (h : xW l x d mc ms mMO_readPlain n0 Q cl 1 [some (.ref r0), none, none, none, none, none, none] [.ref r0] H uc us) :
    xW l x d mc ms mMO_readPlain n0 Q cl 0 [some (.ref r0), none, none, none, none, none, none] [] H uc us := by
  refine xs_aload_n rfl rfl ?_
  exact h

set_option maxRecDepth 20000 in
theorem b_MO_readPlain_2 {l : Launch} {x : xX} {d mc ms n0 uc us : Nat} {Q : xO → xH → Prop} {cl : Bool} {r0 : Nat} {H : xH}
    (h : ∃ a1, gI H r0 12 13 a1 ∧ (xW l x d mc ms mMO_readPlain n0 Q cl 7 [some (.ref r0), some (.int a1), none, none, none, none, none] [.int 16, .ref r0] H uc us)) :
    xW l x d mc ms mMO_readPlain n0 Q cl 2 [some (.ref r0), none, none, none, none, none, none] [] H uc us := by
  refine xs_aload_n rfl rfl ?_
  obtain ⟨a1, ⟨_, h1, h2⟩, h⟩ := h
  refine xs_getf rfl fl_12_118 h1 h2 ?_
  refine xs_istore_n rfl (L' := [some (.ref r0), some (.int a1), none, none, none, none, none]) rfl rfl ?_
  refine xs_aload_n rfl rfl ?_
  refine xs_bipushV (v := 16) rfl rfl ?_
  exact h

set_option maxRecDepth 20000 in
theorem b_MO_readPlain_8 {l : Launch} {x : xX} {d mc ms n0 uc us : Nat} {Q : xO → xH → Prop} {cl : Bool} {r0 : Nat} {v1 : Int32} {u0 : Int32} {H : xH}
    (h : ∃ a1, gI H r0 12 13 a1 ∧ (xW l x d mc ms mMO_readPlain n0 Q cl 14 [some (.ref r0), some (.int v1), some (.int u0), some (.int a1), none, none, none] [.int 16, .ref r0] H uc us)) :
    xW l x d mc ms mMO_readPlain n0 Q cl 8 [some (.ref r0), some (.int v1), none, none, none, none, none] [.int u0] H uc us := by
  refine xs_istore_n rfl (L' := [some (.ref r0), some (.int v1), some (.int u0), none, none, none, none]) rfl rfl ?_
  refine xs_aload_n rfl rfl ?_
  obtain ⟨a1, ⟨_, h1, h2⟩, h⟩ := h
  refine xs_getf rfl fl_12_118 h1 h2 ?_
  refine xs_istore_n rfl (L' := [some (.ref r0), some (.int v1), some (.int u0), some (.int a1), none, none, none]) rfl rfl ?_
  refine xs_aload_n rfl rfl ?_
  refine xs_bipushV (v := 16) rfl rfl ?_
  exact h

set_option maxRecDepth 20000 in
theorem b_MO_readPlain_15 {l : Launch} {x : xX} {d mc ms n0 uc us : Nat} {Q : xO → xH → Prop} {cl : Bool} {r0 : Nat} {v1 : Int32} {v2 : Int32} {v3 : Int32} {u0 : Int32} {H : xH}
    (h : ∃ a1, gI H r0 12 5 a1 ∧ ((¬ a1 = 0 → xW l x d mc ms mMO_readPlain n0 Q cl 28 [some (.ref r0), some (.int v1), some (.int v2), some (.int v3), some (.int u0), none, none] [] H uc us) ∧ (a1 = 0 → (u0 = ((65535 : Int32) - v2) → xW l x d mc ms mMO_readPlain n0 Q cl 28 [some (.ref r0), some (.int v1), some (.int v2), some (.int v3), some (.int u0), none, none] [] H uc us) ∧ (¬ u0 = ((65535 : Int32) - v2) → xW l x d mc ms mMO_readPlain n0 Q cl 27 [some (.ref r0), some (.int v1), some (.int v2), some (.int v3), some (.int u0), none, none] [.int v3, .int 3, .ref r0] H uc us)))) :
    xW l x d mc ms mMO_readPlain n0 Q cl 15 [some (.ref r0), some (.int v1), some (.int v2), some (.int v3), none, none, none] [.int u0] H uc us := by
  refine xs_istore rfl (L' := [some (.ref r0), some (.int v1), some (.int v2), some (.int v3), some (.int u0), none, none]) rfl rfl ?_
  refine xs_aload_n rfl rfl ?_
  obtain ⟨a1, ⟨_, h1, h2⟩, h⟩ := h
  refine xs_getf rfl fl_12_115 h1 h2 ?_
  refine xs_if_ne (k' := 28) rfl rfl (fun hb => ?_) (fun hb => ?_)
  · have h := h.1 hb
    exact h
  · have h := h.2 hb
    refine xs_iload rfl rfl ?_
    refine xs_ldc rfl kc_12_170 ?_
    refine xs_iload_n rfl rfl ?_
    refine xs_isub rfl ?_
    refine xs_icmp_eq (k' := 28) rfl rfl (fun hb => ?_) (fun hb => ?_)
    · have h := h.1 hb
      exact h
    · have h := h.2 hb
      refine xs_aload_n rfl rfl ?_
      refine xs_iconstV (v := 3) rfl rfl ?_
      refine xs_iload_n rfl rfl ?_
      exact h

set_option maxRecDepth 20000 in
theorem b_MO_readPlain_28 {l : Launch} {x : xX} {d mc ms n0 uc us : Nat} {Q : xO → xH → Prop} {cl : Bool} {r0 : Nat} {v1 : Int32} {v2 : Int32} {v3 : Int32} {v4 : Int32} {H : xH}
    (h : ∃ a1, gI H r0 12 5 a1 ∧ ((¬ a1 = 0 → xW l x d mc ms mMO_readPlain n0 Q cl 41 [some (.ref r0), some (.int v1), some (.int v2), some (.int v3), some (.int v4), none, none] [] H uc us) ∧ (a1 = 0 → ∃ a2, gI H r0 12 4 a2 ∧ ((v2 ≤ ((65536 : Int32) - a2) → xW l x d mc ms mMO_readPlain n0 Q cl 41 [some (.ref r0), some (.int v1), some (.int v2), some (.int v3), some (.int v4), none, none] [] H uc us) ∧ (¬ v2 ≤ ((65536 : Int32) - a2) → xW l x d mc ms mMO_readPlain n0 Q cl 40 [some (.ref r0), some (.int v1), some (.int v2), some (.int v3), some (.int v4), none, none] [.int v1, .int 10, .ref r0] H uc us))))) :
    xW l x d mc ms mMO_readPlain n0 Q cl 28 [some (.ref r0), some (.int v1), some (.int v2), some (.int v3), some (.int v4), none, none] [] H uc us := by
  refine xs_aload_n rfl rfl ?_
  obtain ⟨a1, ⟨_, h1, h2⟩, h⟩ := h
  refine xs_getf rfl fl_12_115 h1 h2 ?_
  refine xs_if_ne (k' := 41) rfl rfl (fun hb => ?_) (fun hb => ?_)
  · have h := h.1 hb
    exact h
  · have h := h.2 hb
    refine xs_iload_n rfl rfl ?_
    refine xs_ldc rfl kc_12_14 ?_
    refine xs_aload_n rfl rfl ?_
    obtain ⟨a2, ⟨_, h1, h2⟩, h⟩ := h
    refine xs_getf rfl fl_12_146 h1 h2 ?_
    refine xs_isub rfl ?_
    refine xs_icmp_le (k' := 41) rfl rfl (fun hb => ?_) (fun hb => ?_)
    · have h := h.1 hb
      exact h
    · have h := h.2 hb
      refine xs_aload_n rfl rfl ?_
      refine xs_bipushV (v := 10) rfl rfl ?_
      refine xs_iload_n rfl rfl ?_
      exact h

set_option maxRecDepth 20000 in
theorem b_MO_readPlain_41 {l : Launch} {x : xX} {d mc ms n0 uc us : Nat} {Q : xO → xH → Prop} {cl : Bool} {r0 : Nat} {v1 : Int32} {v2 : Int32} {v3 : Int32} {v4 : Int32} {H : xH}
    (h : xW l x d mc ms mMO_readPlain n0 Q cl 43 [some (.ref r0), some (.int v1), some (.int v2), some (.int v3), some (.int v4), some (.int 0), none] [] H uc us) :
    xW l x d mc ms mMO_readPlain n0 Q cl 41 [some (.ref r0), some (.int v1), some (.int v2), some (.int v3), some (.int v4), none, none] [] H uc us := by
  refine xs_iconstV (v := 0) rfl rfl ?_
  refine xs_istore rfl (L' := [some (.ref r0), some (.int v1), some (.int v2), some (.int v3), some (.int v4), some (.int 0), none]) rfl rfl ?_
  exact h

set_option maxRecDepth 20000 in
theorem b_MO_readPlain_43 {l : Launch} {x : xX} {d mc ms n0 uc us : Nat} {Q : xO → xH → Prop} {cl : Bool} {r0 : Nat} {v1 : Int32} {v2 : Int32} {v3 : Int32} {v4 : Int32} {v5 : Int32} {H : xH}
    (h : (v2 ≤ v5 → uc = mc ∧ us ≤ ms ∧ Q (.inl none) H) ∧ (¬ v2 ≤ v5 → ∃ a1, gI H r0 12 5 a1 ∧ ((¬ a1 = 0 → uc = mc ∧ us ≤ ms ∧ Q (.inl none) H) ∧ (a1 = 0 → xW l x d mc ms mMO_readPlain n0 Q cl 51 [some (.ref r0), some (.int v1), some (.int v2), some (.int v3), some (.int v4), some (.int v5), none] [.int 8, .ref r0] H uc us)))) :
    xW l x d mc ms mMO_readPlain n0 Q cl 43 [some (.ref r0), some (.int v1), some (.int v2), some (.int v3), some (.int v4), some (.int v5), none] [] H uc us := by
  refine xs_iload rfl rfl ?_
  refine xs_iload_n rfl rfl ?_
  refine xs_icmp_ge (k' := 61) rfl rfl (fun hb => ?_) (fun hb => ?_)
  · have h := h.1 hb
    exact xs_vret rfl rfl h.1 h.2.1 h.2.2
  · have h := h.2 hb
    refine xs_aload_n rfl rfl ?_
    obtain ⟨a1, ⟨_, h1, h2⟩, h⟩ := h
    refine xs_getf rfl fl_12_115 h1 h2 ?_
    refine xs_if_ne (k' := 61) rfl rfl (fun hb => ?_) (fun hb => ?_)
    · have h := h.1 hb
      exact xs_vret rfl rfl h.1 h.2.1 h.2.2
    · have h := h.2 hb
      refine xs_aload_n rfl rfl ?_
      refine xs_bipushV (v := 8) rfl rfl ?_
      exact h

set_option maxRecDepth 20000 in
theorem b_MO_readPlain_52 {l : Launch} {x : xX} {d mc ms n0 uc us : Nat} {Q : xO → xH → Prop} {cl : Bool} {r0 : Nat} {v1 : Int32} {v2 : Int32} {v3 : Int32} {v4 : Int32} {v5 : Int32} {u0 : Int32} {H : xH}
    (h : ∃ a1, gI H r0 12 5 a1 ∧ ((¬ a1 = 0 → xW l x d mc ms mMO_readPlain n0 Q cl 59 [some (.ref r0), some (.int v1), some (.int v2), some (.int v3), some (.int v4), some (.int v5), some (.int u0)] [] H uc us) ∧ (a1 = 0 → xW l x d mc ms mMO_readPlain n0 Q cl 58 [some (.ref r0), some (.int v1), some (.int v2), some (.int v3), some (.int v4), some (.int v5), some (.int u0)] [.int u0, .ref r0] H uc us))) :
    xW l x d mc ms mMO_readPlain n0 Q cl 52 [some (.ref r0), some (.int v1), some (.int v2), some (.int v3), some (.int v4), some (.int v5), none] [.int u0] H uc us := by
  refine xs_istore rfl (L' := [some (.ref r0), some (.int v1), some (.int v2), some (.int v3), some (.int v4), some (.int v5), some (.int u0)]) rfl rfl ?_
  refine xs_aload_n rfl rfl ?_
  obtain ⟨a1, ⟨_, h1, h2⟩, h⟩ := h
  refine xs_getf rfl fl_12_115 h1 h2 ?_
  refine xs_if_ne (k' := 59) rfl rfl (fun hb => ?_) (fun hb => ?_)
  · have h := h.1 hb
    exact h
  · have h := h.2 hb
    refine xs_aload_n rfl rfl ?_
    refine xs_iload rfl rfl ?_
    exact h

set_option maxRecDepth 20000 in
theorem b_MO_readPlain_59 {l : Launch} {x : xX} {d mc ms n0 uc us : Nat} {Q : xO → xH → Prop} {cl : Bool} {r0 : Nat} {v1 : Int32} {v2 : Int32} {v3 : Int32} {v4 : Int32} {v5 : Int32} {v6 : Int32} {H : xH}
    (h : xW l x d mc ms mMO_readPlain n0 Q cl 43 [some (.ref r0), some (.int v1), some (.int v2), some (.int v3), some (.int v4), some (.int (v5 + 1)), some (.int v6)] [] H uc us) :
    xW l x d mc ms mMO_readPlain n0 Q cl 59 [some (.ref r0), some (.int v1), some (.int v2), some (.int v3), some (.int v4), some (.int v5), some (.int v6)] [] H uc us := by
  refine xs_iincV rfl (w := 1) rfl rfl (L' := [some (.ref r0), some (.int v1), some (.int v2), some (.int v3), some (.int v4), some (.int (v5 + 1)), some (.int v6)]) rfl rfl ?_
  refine xs_goto (k' := 43) rfl rfl ?_
  exact h

set_option maxRecDepth 20000 in
theorem b_MO_toByte_0 {l : Launch} {x : xX} {d mc ms n0 uc us : Nat} {Q : xO → xH → Prop} {cl : Bool} {r0 : Nat} {H : xH}
    (h : ∃ a1, gI H r0 12 13 a1 ∧ (∃ c2, H[(r0 : Nat)]? = some (.inr (12, c2)) ∧ 13 < c2.length ∧ (∀ H3 : xH, H3 = H.set r0 (.inr (12, c2.set 13 (.int (((a1 + 7) / 8) * 8)))) → uc = mc ∧ us ≤ ms ∧ Q (.inl none) H3))) :
    xW l x d mc ms mMO_toByte n0 Q cl 0 [some (.ref r0)] [] H uc us := by
  refine xs_aload_n rfl rfl ?_
  refine xs_aload_n rfl rfl ?_
  obtain ⟨a1, ⟨_, h1, h2⟩, h⟩ := h
  refine xs_getf rfl fl_12_118 h1 h2 ?_
  refine xs_bipushV (v := 7) rfl rfl ?_
  refine xs_iadd rfl ?_
  refine xs_bipushV (v := 8) rfl rfl ?_
  refine xs_idiv rfl (by decide) ?_
  refine xs_bipushV (v := 8) rfl rfl ?_
  refine xs_imul rfl ?_
  obtain ⟨c2, h1, h2, h⟩ := h
  refine xs_putf rfl fl_12_118 h1 (fun q hq => by cases hq; rfl) rfl h2 ?_
  have h := h _ rfl
  generalize H.set r0 (.inr (12, c2.set 13 (.int (((a1 + 7) / 8) * 8)))) = H3 at h ⊢
  exact xs_vret rfl rfl h.1 h.2.1 h.2.2

set_option maxRecDepth 20000 in
theorem b_MO_put_0 {l : Launch} {x : xX} {d mc ms n0 uc us : Nat} {Q : xO → xH → Prop} {cl : Bool} {r0 : Nat} {v1 : Int32} {H : xH}
    (h : ∃ p1, gR H r0 12 3 p1 ∧ (∃ a2, gI H r0 12 4 a2 ∧ (∃ n3 f4, H[(p1 : Nat)]? = some (.inl (1, n3, .inl f4)) ∧ vp_in a2 n3 ∧ (∀ H5 : xH, H5 = H.set p1 (.inl (1, n3, .inl (upd f4 (a2.toNatClampNeg) (vp_nar .byte (v1.toInt8.toInt32))))) → ∃ a6, gI H5 r0 12 4 a6 ∧ (∃ c7, H5[(r0 : Nat)]? = some (.inr (12, c7)) ∧ 4 < c7.length ∧ (∀ H8 : xH, H8 = H5.set r0 (.inr (12, c7.set 4 (.int (a6 + 1)))) → uc = mc ∧ us ≤ ms ∧ Q (.inl none) H8)))))) :
    xW l x d mc ms mMO_put n0 Q cl 0 [some (.ref r0), some (.int v1)] [] H uc us := by
  refine xs_aload_n rfl rfl ?_
  obtain ⟨p1, ⟨_, h1, h2⟩, h⟩ := h
  refine xs_getf rfl fl_12_15 h1 h2 ?_
  refine xs_aload_n rfl rfl ?_
  obtain ⟨a2, ⟨_, h1, h2⟩, h⟩ := h
  refine xs_getf rfl fl_12_146 h1 h2 ?_
  refine xs_iload_n rfl rfl ?_
  refine xs_i2b rfl ?_
  obtain ⟨n3, f4, h1, h2, h⟩ := h
  refine xs_bast rfl h1 h2 ?_
  have h := h _ rfl
  generalize H.set p1 (.inl (1, n3, .inl (upd f4 (a2.toNatClampNeg) (vp_nar .byte (v1.toInt8.toInt32))))) = H5 at h ⊢
  refine xs_aload_n rfl rfl ?_
  refine xs_dup rfl rfl ?_
  obtain ⟨a6, ⟨_, h1, h2⟩, h⟩ := h
  refine xs_getf rfl fl_12_146 h1 h2 ?_
  refine xs_iconstV (v := 1) rfl rfl ?_
  refine xs_iadd rfl ?_
  obtain ⟨c7, h1, h2, h⟩ := h
  refine xs_putf rfl fl_12_146 h1 (fun q hq => by cases hq; rfl) rfl h2 ?_
  have h := h _ rfl
  generalize H5.set r0 (.inr (12, c7.set 4 (.int (a6 + 1)))) = H8 at h ⊢
  exact xs_vret rfl rfl h.1 h.2.1 h.2.2

set_option maxRecDepth 20000 in
theorem b_MO_plainLengths_0 {l : Launch} {x : xX} {d mc ms n0 uc us : Nat} {Q : xO → xH → Prop} {cl : Bool} {r0 : Nat} {H : xH}
    (h : xW l x d mc ms mMO_plainLengths n0 Q cl 2 [some (.ref r0), some (.int 0)] [] H uc us) :
    xW l x d mc ms mMO_plainLengths n0 Q cl 0 [some (.ref r0), none] [] H uc us := by
  refine xs_iconstV (v := 0) rfl rfl ?_
  refine xs_istore_n rfl (L' := [some (.ref r0), some (.int 0)]) rfl rfl ?_
  exact h

set_option maxRecDepth 20000 in
theorem b_MO_plainLengths_2 {l : Launch} {x : xX} {d mc ms n0 uc us : Nat} {Q : xO → xH → Prop} {cl : Bool} {r0 : Nat} {v1 : Int32} {H : xH}
    (h : (288 ≤ v1 → xW l x d mc ms mMO_plainLengths n0 Q cl 29 [some (.ref r0), some (.int 0)] [] H uc us) ∧ (¬ 288 ≤ v1 → ∃ p1, gR H r0 12 17 p1 ∧ ((144 ≤ v1 → (256 ≤ v1 → (280 ≤ v1 → ∃ n2 f3, H[(p1 : Nat)]? = some (.inl (0, n2, .inl f3)) ∧ 2 ≤ p1 ∧ vp_in v1 n2 ∧ (∀ H4 : xH, H4 = H.set p1 (.inl (0, n2, .inl (upd f3 (v1.toNatClampNeg) (8)))) → xW l x d mc ms mMO_plainLengths n0 Q false 2 [some (.ref r0), some (.int (v1 + 1))] [] H4 uc us)) ∧ (¬ 280 ≤ v1 → ∃ n5 f6, H[(p1 : Nat)]? = some (.inl (0, n5, .inl f6)) ∧ 2 ≤ p1 ∧ vp_in v1 n5 ∧ (∀ H7 : xH, H7 = H.set p1 (.inl (0, n5, .inl (upd f6 (v1.toNatClampNeg) (7)))) → xW l x d mc ms mMO_plainLengths n0 Q false 2 [some (.ref r0), some (.int (v1 + 1))] [] H7 uc us))) ∧ (¬ 256 ≤ v1 → ∃ n8 f9, H[(p1 : Nat)]? = some (.inl (0, n8, .inl f9)) ∧ 2 ≤ p1 ∧ vp_in v1 n8 ∧ (∀ H10 : xH, H10 = H.set p1 (.inl (0, n8, .inl (upd f9 (v1.toNatClampNeg) (9)))) → xW l x d mc ms mMO_plainLengths n0 Q false 2 [some (.ref r0), some (.int (v1 + 1))] [] H10 uc us))) ∧ (¬ 144 ≤ v1 → ∃ n11 f12, H[(p1 : Nat)]? = some (.inl (0, n11, .inl f12)) ∧ 2 ≤ p1 ∧ vp_in v1 n11 ∧ (∀ H13 : xH, H13 = H.set p1 (.inl (0, n11, .inl (upd f12 (v1.toNatClampNeg) (8)))) → xW l x d mc ms mMO_plainLengths n0 Q false 2 [some (.ref r0), some (.int (v1 + 1))] [] H13 uc us))))) :
    xW l x d mc ms mMO_plainLengths n0 Q cl 2 [some (.ref r0), some (.int v1)] [] H uc us := by
  refine xs_iload_n rfl rfl ?_
  refine xs_sipushV (v := 288) rfl rfl ?_
  refine xs_icmp_ge (k' := 27) rfl rfl (fun hb => ?_) (fun hb => ?_)
  · have h := h.1 hb
    refine xs_iconstV (v := 0) rfl rfl ?_
    refine xs_istore_n rfl (L' := [some (.ref r0), some (.int 0)]) rfl rfl ?_
    exact h
  · have h := h.2 hb
    refine xs_aload_n rfl rfl ?_
    obtain ⟨p1, ⟨_, h1, h2⟩, h⟩ := h
    refine xs_getf rfl fl_12_41 h1 h2 ?_
    refine xs_iload_n rfl rfl ?_
    refine xs_iload_n rfl rfl ?_
    refine xs_sipushV (v := 144) rfl rfl ?_
    refine xs_icmp_ge (k' := 13) rfl rfl (fun hb => ?_) (fun hb => ?_)
    · have h := h.1 hb
      refine xs_iload_n rfl rfl ?_
      refine xs_sipushV (v := 256) rfl rfl ?_
      refine xs_icmp_ge (k' := 18) rfl rfl (fun hb => ?_) (fun hb => ?_)
      · have h := h.1 hb
        refine xs_iload_n rfl rfl ?_
        refine xs_sipushV (v := 280) rfl rfl ?_
        refine xs_icmp_ge (k' := 23) rfl rfl (fun hb => ?_) (fun hb => ?_)
        · have h := h.1 hb
          refine xs_bipushV (v := 8) rfl rfl ?_
          obtain ⟨n2, f3, h1, h3, h2, h⟩ := h
          refine xs_iast rfl h1 h3 h2 ?_
          have h := h _ rfl
          generalize H.set p1 (.inl (0, n2, .inl (upd f3 (v1.toNatClampNeg) (8)))) = H4 at h ⊢
          refine xs_iincV rfl (w := 1) rfl rfl (L' := [some (.ref r0), some (.int (v1 + 1))]) rfl rfl ?_
          refine xs_goto (k' := 2) rfl rfl ?_
          exact h
        · have h := h.2 hb
          refine xs_bipushV (v := 7) rfl rfl ?_
          refine xs_goto (k' := 24) rfl rfl ?_
          obtain ⟨n5, f6, h1, h3, h2, h⟩ := h
          refine xs_iast rfl h1 h3 h2 ?_
          have h := h _ rfl
          generalize H.set p1 (.inl (0, n5, .inl (upd f6 (v1.toNatClampNeg) (7)))) = H7 at h ⊢
          refine xs_iincV rfl (w := 1) rfl rfl (L' := [some (.ref r0), some (.int (v1 + 1))]) rfl rfl ?_
          refine xs_goto (k' := 2) rfl rfl ?_
          exact h
      · have h := h.2 hb
        refine xs_bipushV (v := 9) rfl rfl ?_
        refine xs_goto (k' := 24) rfl rfl ?_
        obtain ⟨n8, f9, h1, h3, h2, h⟩ := h
        refine xs_iast rfl h1 h3 h2 ?_
        have h := h _ rfl
        generalize H.set p1 (.inl (0, n8, .inl (upd f9 (v1.toNatClampNeg) (9)))) = H10 at h ⊢
        refine xs_iincV rfl (w := 1) rfl rfl (L' := [some (.ref r0), some (.int (v1 + 1))]) rfl rfl ?_
        refine xs_goto (k' := 2) rfl rfl ?_
        exact h
    · have h := h.2 hb
      refine xs_bipushV (v := 8) rfl rfl ?_
      refine xs_goto (k' := 24) rfl rfl ?_
      obtain ⟨n11, f12, h1, h3, h2, h⟩ := h
      refine xs_iast rfl h1 h3 h2 ?_
      have h := h _ rfl
      generalize H.set p1 (.inl (0, n11, .inl (upd f12 (v1.toNatClampNeg) (8)))) = H13 at h ⊢
      refine xs_iincV rfl (w := 1) rfl rfl (L' := [some (.ref r0), some (.int (v1 + 1))]) rfl rfl ?_
      refine xs_goto (k' := 2) rfl rfl ?_
      exact h

set_option maxRecDepth 20000 in
theorem b_MO_plainLengths_29 {l : Launch} {x : xX} {d mc ms n0 uc us : Nat} {Q : xO → xH → Prop} {cl : Bool} {r0 : Nat} {v1 : Int32} {H : xH}
    (h : (32 ≤ v1 → uc = mc ∧ us ≤ ms ∧ Q (.inl none) H) ∧ (¬ 32 ≤ v1 → ∃ p1, gR H r0 12 17 p1 ∧ (∃ n2 f3, H[(p1 : Nat)]? = some (.inl (0, n2, .inl f3)) ∧ 2 ≤ p1 ∧ vp_in ((400 : Int32) + v1) n2 ∧ (∀ H4 : xH, H4 = H.set p1 (.inl (0, n2, .inl (upd f3 (((400 : Int32) + v1).toNatClampNeg) (5)))) → xW l x d mc ms mMO_plainLengths n0 Q false 29 [some (.ref r0), some (.int (v1 + 1))] [] H4 uc us)))) :
    xW l x d mc ms mMO_plainLengths n0 Q cl 29 [some (.ref r0), some (.int v1)] [] H uc us := by
  refine xs_iload_n rfl rfl ?_
  refine xs_bipushV (v := 32) rfl rfl ?_
  refine xs_icmp_ge (k' := 41) rfl rfl (fun hb => ?_) (fun hb => ?_)
  · have h := h.1 hb
    exact xs_vret rfl rfl h.1 h.2.1 h.2.2
  · have h := h.2 hb
    refine xs_aload_n rfl rfl ?_
    obtain ⟨p1, ⟨_, h1, h2⟩, h⟩ := h
    refine xs_getf rfl fl_12_41 h1 h2 ?_
    refine xs_sipushV (v := 400) rfl rfl ?_
    refine xs_iload_n rfl rfl ?_
    refine xs_iadd rfl ?_
    refine xs_iconstV (v := 5) rfl rfl ?_
    obtain ⟨n2, f3, h1, h3, h2, h⟩ := h
    refine xs_iast rfl h1 h3 h2 ?_
    have h := h _ rfl
    generalize H.set p1 (.inl (0, n2, .inl (upd f3 (((400 : Int32) + v1).toNatClampNeg) (5)))) = H4 at h ⊢
    refine xs_iincV rfl (w := 1) rfl rfl (L' := [some (.ref r0), some (.int (v1 + 1))]) rfl rfl ?_
    refine xs_goto (k' := 29) rfl rfl ?_
    exact h

set_option maxRecDepth 20000 in
theorem b_MO_prepare_0 {l : Launch} {x : xX} {d mc ms n0 uc us : Nat} {Q : xO → xH → Prop} {cl : Bool} {r0 : Nat} {v1 : Int32} {v2 : Int32} {v3 : Int32} {H : xH}
    (h : xW l x d mc ms mMO_prepare n0 Q cl 2 [some (.ref r0), some (.int v1), some (.int v2), some (.int v3), some (.int 0), none, none] [] H uc us) :
    xW l x d mc ms mMO_prepare n0 Q cl 0 [some (.ref r0), some (.int v1), some (.int v2), some (.int v3), none, none, none] [] H uc us := by
  refine xs_iconstV (v := 0) rfl rfl ?_
  refine xs_istore rfl (L' := [some (.ref r0), some (.int v1), some (.int v2), some (.int v3), some (.int 0), none, none]) rfl rfl ?_
  exact h

set_option maxRecDepth 20000 in
theorem b_MO_prepare_2 {l : Launch} {x : xX} {d mc ms n0 uc us : Nat} {Q : xO → xH → Prop} {cl : Bool} {r0 : Nat} {v1 : Int32} {v2 : Int32} {v3 : Int32} {v4 : Int32} {H : xH}
    (h : (16 ≤ v4 → xW l x d mc ms mMO_prepare n0 Q cl 16 [some (.ref r0), some (.int v1), some (.int v2), some (.int v3), some (.int 0), none, none] [] H uc us) ∧ (¬ 16 ≤ v4 → ∃ p1, gR H r0 12 15 p1 ∧ (∃ n2 f3, H[(p1 : Nat)]? = some (.inl (0, n2, .inl f3)) ∧ 2 ≤ p1 ∧ vp_in (v3 + v4) n2 ∧ (∀ H4 : xH, H4 = H.set p1 (.inl (0, n2, .inl (upd f3 ((v3 + v4).toNatClampNeg) (0)))) → xW l x d mc ms mMO_prepare n0 Q false 2 [some (.ref r0), some (.int v1), some (.int v2), some (.int v3), some (.int (v4 + 1)), none, none] [] H4 uc us)))) :
    xW l x d mc ms mMO_prepare n0 Q cl 2 [some (.ref r0), some (.int v1), some (.int v2), some (.int v3), some (.int v4), none, none] [] H uc us := by
  refine xs_iload rfl rfl ?_
  refine xs_bipushV (v := 16) rfl rfl ?_
  refine xs_icmp_ge (k' := 14) rfl rfl (fun hb => ?_) (fun hb => ?_)
  · have h := h.1 hb
    refine xs_iconstV (v := 0) rfl rfl ?_
    refine xs_istore rfl (L' := [some (.ref r0), some (.int v1), some (.int v2), some (.int v3), some (.int 0), none, none]) rfl rfl ?_
    exact h
  · have h := h.2 hb
    refine xs_aload_n rfl rfl ?_
    obtain ⟨p1, ⟨_, h1, h2⟩, h⟩ := h
    refine xs_getf rfl fl_12_35 h1 h2 ?_
    refine xs_iload_n rfl rfl ?_
    refine xs_iload rfl rfl ?_
    refine xs_iadd rfl ?_
    refine xs_iconstV (v := 0) rfl rfl ?_
    obtain ⟨n2, f3, h1, h3, h2, h⟩ := h
    refine xs_iast rfl h1 h3 h2 ?_
    have h := h _ rfl
    generalize H.set p1 (.inl (0, n2, .inl (upd f3 ((v3 + v4).toNatClampNeg) (0)))) = H4 at h ⊢
    refine xs_iincV rfl (w := 1) rfl rfl (L' := [some (.ref r0), some (.int v1), some (.int v2), some (.int v3), some (.int (v4 + 1)), none, none]) rfl rfl ?_
    refine xs_goto (k' := 2) rfl rfl ?_
    exact h

set_option maxRecDepth 20000 in
theorem b_MO_prepare_16 {l : Launch} {x : xX} {d mc ms n0 uc us : Nat} {Q : xO → xH → Prop} {cl : Bool} {r0 : Nat} {v1 : Int32} {v2 : Int32} {v3 : Int32} {v4 : Int32} {H : xH}
    (h : (v2 ≤ v4 → xW l x d mc ms mMO_prepare n0 Q cl 40 [some (.ref r0), some (.int v1), some (.int v2), some (.int v3), some (.int v1), some (.int 1), none] [] H uc us) ∧ (¬ v2 ≤ v4 → ∃ p1, gR H r0 12 15 p1 ∧ (∃ p2, gR H r0 12 17 p2 ∧ (∃ n3 f4, H[(p2 : Nat)]? = some (.inl (0, n3, .inl f4)) ∧ vp_in (v1 + v4) n3 ∧ (∃ n5 f6, H[(p1 : Nat)]? = some (.inl (0, n5, .inl f6)) ∧ vp_in (v3 + (f4 (v1 + v4).toNatClampNeg)) n5 ∧ (∃ n7 f8, H[(p1 : Nat)]? = some (.inl (0, n7, .inl f8)) ∧ 2 ≤ p1 ∧ vp_in (v3 + (f4 (v1 + v4).toNatClampNeg)) n7 ∧ (∀ H9 : xH, H9 = H.set p1 (.inl (0, n7, .inl (upd f8 ((v3 + (f4 (v1 + v4).toNatClampNeg)).toNatClampNeg) (((f6 (v3 + (f4 (v1 + v4).toNatClampNeg)).toNatClampNeg) + 1))))) → xW l x d mc ms mMO_prepare n0 Q false 16 [some (.ref r0), some (.int v1), some (.int v2), some (.int v3), some (.int (v4 + 1)), none, none] [] H9 uc us))))))) :
    xW l x d mc ms mMO_prepare n0 Q cl 16 [some (.ref r0), some (.int v1), some (.int v2), some (.int v3), some (.int v4), none, none] [] H uc us := by
  refine xs_iload rfl rfl ?_
  refine xs_iload_n rfl rfl ?_
  refine xs_icmp_ge (k' := 36) rfl rfl (fun hb => ?_) (fun hb => ?_)
  · have h := h.1 hb
    refine xs_iload_n rfl rfl ?_
    refine xs_istore rfl (L' := [some (.ref r0), some (.int v1), some (.int v2), some (.int v3), some (.int v1), none, none]) rfl rfl ?_
    refine xs_iconstV (v := 1) rfl rfl ?_
    refine xs_istore rfl (L' := [some (.ref r0), some (.int v1), some (.int v2), some (.int v3), some (.int v1), some (.int 1), none]) rfl rfl ?_
    exact h
  · have h := h.2 hb
    refine xs_aload_n rfl rfl ?_
    obtain ⟨p1, ⟨_, h1, h2⟩, h⟩ := h
    refine xs_getf rfl fl_12_35 h1 h2 ?_
    refine xs_iload_n rfl rfl ?_
    refine xs_aload_n rfl rfl ?_
    obtain ⟨p2, ⟨_, h1, h2⟩, h⟩ := h
    refine xs_getf rfl fl_12_41 h1 h2 ?_
    refine xs_iload_n rfl rfl ?_
    refine xs_iload rfl rfl ?_
    refine xs_iadd rfl ?_
    obtain ⟨n3, f4, h1, h2, h⟩ := h
    refine xs_iald rfl h1 h2 ?_
    refine xs_iadd rfl ?_
    refine xs_dup2 rfl rfl rfl ?_
    obtain ⟨n5, f6, h1, h2, h⟩ := h
    refine xs_iald rfl h1 h2 ?_
    refine xs_iconstV (v := 1) rfl rfl ?_
    refine xs_iadd rfl ?_
    obtain ⟨n7, f8, h1, h3, h2, h⟩ := h
    refine xs_iast rfl h1 h3 h2 ?_
    have h := h _ rfl
    generalize H.set p1 (.inl (0, n7, .inl (upd f8 ((v3 + (f4 (v1 + v4).toNatClampNeg)).toNatClampNeg) (((f6 (v3 + (f4 (v1 + v4).toNatClampNeg)).toNatClampNeg) + 1))))) = H9 at h ⊢
    refine xs_iincV rfl (w := 1) rfl rfl (L' := [some (.ref r0), some (.int v1), some (.int v2), some (.int v3), some (.int (v4 + 1)), none, none]) rfl rfl ?_
    refine xs_goto (k' := 16) rfl rfl ?_
    exact h

set_option maxRecDepth 20000 in
theorem b_MO_prepare_40 {l : Launch} {x : xX} {d mc ms n0 uc us : Nat} {Q : xO → xH → Prop} {cl : Bool} {r0 : Nat} {v1 : Int32} {v2 : Int32} {v3 : Int32} {v4 : Int32} {v5 : Int32} {H : xH}
    (h : (16 ≤ v5 → xW l x d mc ms mMO_prepare n0 Q cl 70 [some (.ref r0), some (.int v1), some (.int v2), some (.int v3), some (.int v4), some (.int 0), some (.int 1)] [] H uc us) ∧ (¬ 16 ≤ v5 → xW l x d mc ms mMO_prepare n0 Q cl 45 [some (.ref r0), some (.int v1), some (.int v2), some (.int v3), some (.int v4), some (.int v5), some (.int 0)] [] H uc us)) :
    xW l x d mc ms mMO_prepare n0 Q cl 40 [some (.ref r0), some (.int v1), some (.int v2), some (.int v3), some (.int v4), some (.int v5), none] [] H uc us := by
  refine xs_iload rfl rfl ?_
  refine xs_bipushV (v := 16) rfl rfl ?_
  refine xs_icmp_ge (k' := 66) rfl rfl (fun hb => ?_) (fun hb => ?_)
  · have h := h.1 hb
    refine xs_iconstV (v := 0) rfl rfl ?_
    refine xs_istore rfl (L' := [some (.ref r0), some (.int v1), some (.int v2), some (.int v3), some (.int v4), some (.int 0), none]) rfl rfl ?_
    refine xs_iconstV (v := 1) rfl rfl ?_
    refine xs_istore rfl (L' := [some (.ref r0), some (.int v1), some (.int v2), some (.int v3), some (.int v4), some (.int 0), some (.int 1)]) rfl rfl ?_
    exact h
  · have h := h.2 hb
    refine xs_iconstV (v := 0) rfl rfl ?_
    refine xs_istore rfl (L' := [some (.ref r0), some (.int v1), some (.int v2), some (.int v3), some (.int v4), some (.int v5), some (.int 0)]) rfl rfl ?_
    exact h

set_option maxRecDepth 20000 in
theorem b_MO_prepare_45 {l : Launch} {x : xX} {d mc ms n0 uc us : Nat} {Q : xO → xH → Prop} {cl : Bool} {r0 : Nat} {v1 : Int32} {v2 : Int32} {v3 : Int32} {v4 : Int32} {v5 : Int32} {v6 : Int32} {H : xH}
    (h : (v2 ≤ v6 → xW l x d mc ms mMO_prepare n0 Q cl 40 [some (.ref r0), some (.int v1), some (.int v2), some (.int v3), some (.int v4), some (.int (v5 + 1)), some (.int v6)] [] H uc us) ∧ (¬ v2 ≤ v6 → ∃ p1, gR H r0 12 17 p1 ∧ (∃ n2 f3, H[(p1 : Nat)]? = some (.inl (0, n2, .inl f3)) ∧ vp_in (v1 + v6) n2 ∧ ((¬ (f3 (v1 + v6).toNatClampNeg) = v5 → xW l x d mc ms mMO_prepare n0 Q cl 45 [some (.ref r0), some (.int v1), some (.int v2), some (.int v3), some (.int v4), some (.int v5), some (.int (v6 + 1))] [] H uc us) ∧ ((f3 (v1 + v6).toNatClampNeg) = v5 → ∃ p4, gR H r0 12 16 p4 ∧ (∃ n5 f6, H[(p4 : Nat)]? = some (.inl (0, n5, .inl f6)) ∧ 2 ≤ p4 ∧ vp_in v4 n5 ∧ (∀ H7 : xH, H7 = H.set p4 (.inl (0, n5, .inl (upd f6 (v4.toNatClampNeg) (v6)))) → xW l x d mc ms mMO_prepare n0 Q false 45 [some (.ref r0), some (.int v1), some (.int v2), some (.int v3), some (.int (v4 + 1)), some (.int v5), some (.int (v6 + 1))] [] H7 uc us))))))) :
    xW l x d mc ms mMO_prepare n0 Q cl 45 [some (.ref r0), some (.int v1), some (.int v2), some (.int v3), some (.int v4), some (.int v5), some (.int v6)] [] H uc us := by
  refine xs_iload rfl rfl ?_
  refine xs_iload_n rfl rfl ?_
  refine xs_icmp_ge (k' := 64) rfl rfl (fun hb => ?_) (fun hb => ?_)
  · have h := h.1 hb
    refine xs_iincV rfl (w := 1) rfl rfl (L' := [some (.ref r0), some (.int v1), some (.int v2), some (.int v3), some (.int v4), some (.int (v5 + 1)), some (.int v6)]) rfl rfl ?_
    refine xs_goto (k' := 40) rfl rfl ?_
    exact h
  · have h := h.2 hb
    refine xs_aload_n rfl rfl ?_
    obtain ⟨p1, ⟨_, h1, h2⟩, h⟩ := h
    refine xs_getf rfl fl_12_41 h1 h2 ?_
    refine xs_iload_n rfl rfl ?_
    refine xs_iload rfl rfl ?_
    refine xs_iadd rfl ?_
    obtain ⟨n2, f3, h1, h2, h⟩ := h
    refine xs_iald rfl h1 h2 ?_
    refine xs_iload rfl rfl ?_
    refine xs_icmp_ne (k' := 62) rfl rfl (fun hb => ?_) (fun hb => ?_)
    · have h := h.1 hb
      refine xs_iincV rfl (w := 1) rfl rfl (L' := [some (.ref r0), some (.int v1), some (.int v2), some (.int v3), some (.int v4), some (.int v5), some (.int (v6 + 1))]) rfl rfl ?_
      refine xs_goto (k' := 45) rfl rfl ?_
      exact h
    · have h := h.2 hb
      refine xs_aload_n rfl rfl ?_
      obtain ⟨p4, ⟨_, h1, h2⟩, h⟩ := h
      refine xs_getf rfl fl_12_38 h1 h2 ?_
      refine xs_iload rfl rfl ?_
      refine xs_iload rfl rfl ?_
      obtain ⟨n5, f6, h1, h3, h2, h⟩ := h
      refine xs_iast rfl h1 h3 h2 ?_
      have h := h _ rfl
      generalize H.set p4 (.inl (0, n5, .inl (upd f6 (v4.toNatClampNeg) (v6)))) = H7 at h ⊢
      refine xs_iincV rfl (w := 1) rfl rfl (L' := [some (.ref r0), some (.int v1), some (.int v2), some (.int v3), some (.int (v4 + 1)), some (.int v5), some (.int v6)]) rfl rfl ?_
      refine xs_iincV rfl (w := 1) rfl rfl (L' := [some (.ref r0), some (.int v1), some (.int v2), some (.int v3), some (.int (v4 + 1)), some (.int v5), some (.int (v6 + 1))]) rfl rfl ?_
      refine xs_goto (k' := 45) rfl rfl ?_
      exact h

set_option maxRecDepth 20000 in
theorem b_MO_prepare_70 {l : Launch} {x : xX} {d mc ms n0 uc us : Nat} {Q : xO → xH → Prop} {cl : Bool} {r0 : Nat} {v1 : Int32} {v2 : Int32} {v3 : Int32} {v4 : Int32} {v5 : Int32} {v6 : Int32} {H : xH}
    (h : (16 ≤ v6 → (¬ v5 = 32768 → (¬ v5 = 0 → (¬ v5 = 16384 → uc = mc ∧ us ≤ ms ∧ Q (.inl (some (.int 3))) H) ∧ (v5 = 16384 → ∃ p1, gR H r0 12 15 p1 ∧ (∃ n2 f3, H[(p1 : Nat)]? = some (.inl (0, n2, .inl f3)) ∧ vp_in (v3 + 1) n2 ∧ ((¬ (f3 (v3 + 1).toNatClampNeg) = 1 → uc = mc ∧ us ≤ ms ∧ Q (.inl (some (.int 3))) H) ∧ ((f3 (v3 + 1).toNatClampNeg) = 1 → uc = mc ∧ us ≤ ms ∧ Q (.inl (some (.int 1))) H))))) ∧ (v5 = 0 → uc = mc ∧ us ≤ ms ∧ Q (.inl (some (.int 0))) H)) ∧ (v5 = 32768 → uc = mc ∧ us ≤ ms ∧ Q (.inl (some (.int 2))) H)) ∧ (¬ 16 ≤ v6 → ∃ p4, gR H r0 12 15 p4 ∧ (∃ n5 f6, H[(p4 : Nat)]? = some (.inl (0, n5, .inl f6)) ∧ vp_in (v3 + v6) n5 ∧ (xW l x d mc ms mMO_prepare n0 Q cl 70 [some (.ref r0), some (.int v1), some (.int v2), some (.int v3), some (.int v4), some (.int (v5 + ((f6 (v3 + v6).toNatClampNeg) <<< ((((15 : Int32) - v6) : Int32) &&& 31)))), some (.int (v6 + 1))] [] H uc us)))) :
    xW l x d mc ms mMO_prepare n0 Q cl 70 [some (.ref r0), some (.int v1), some (.int v2), some (.int v3), some (.int v4), some (.int v5), some (.int v6)] [] H uc us := by
  refine xs_iload rfl rfl ?_
  refine xs_bipushV (v := 16) rfl rfl ?_
  refine xs_icmp_ge (k' := 88) rfl rfl (fun hb => ?_) (fun hb => ?_)
  · have h := h.1 hb
    refine xs_iload rfl rfl ?_
    refine xs_ldc rfl kc_12_7 ?_
    refine xs_icmp_ne (k' := 93) rfl rfl (fun hb => ?_) (fun hb => ?_)
    · have h := h.1 hb
      refine xs_iload rfl rfl ?_
      refine xs_if_ne (k' := 97) rfl rfl (fun hb => ?_) (fun hb => ?_)
      · have h := h.1 hb
        refine xs_iload rfl rfl ?_
        refine xs_sipushV (v := 16384) rfl rfl ?_
        refine xs_icmp_ne (k' := 110) rfl rfl (fun hb => ?_) (fun hb => ?_)
        · have h := h.1 hb
          refine xs_iconstV (v := 3) rfl rfl ?_
          exact xs_iret rfl rfl h.1 h.2.1 h.2.2
        · have h := h.2 hb
          refine xs_aload_n rfl rfl ?_
          obtain ⟨p1, ⟨_, h1, h2⟩, h⟩ := h
          refine xs_getf rfl fl_12_35 h1 h2 ?_
          refine xs_iload_n rfl rfl ?_
          refine xs_iconstV (v := 1) rfl rfl ?_
          refine xs_iadd rfl ?_
          obtain ⟨n2, f3, h1, h2, h⟩ := h
          refine xs_iald rfl h1 h2 ?_
          refine xs_iconstV (v := 1) rfl rfl ?_
          refine xs_icmp_ne (k' := 110) rfl rfl (fun hb => ?_) (fun hb => ?_)
          · have h := h.1 hb
            refine xs_iconstV (v := 3) rfl rfl ?_
            exact xs_iret rfl rfl h.1 h.2.1 h.2.2
          · have h := h.2 hb
            refine xs_iconstV (v := 1) rfl rfl ?_
            refine xs_goto (k' := 111) rfl rfl ?_
            exact xs_iret rfl rfl h.1 h.2.1 h.2.2
      · have h := h.2 hb
        refine xs_iconstV (v := 0) rfl rfl ?_
        refine xs_goto (k' := 111) rfl rfl ?_
        exact xs_iret rfl rfl h.1 h.2.1 h.2.2
    · have h := h.2 hb
      refine xs_iconstV (v := 2) rfl rfl ?_
      refine xs_goto (k' := 111) rfl rfl ?_
      exact xs_iret rfl rfl h.1 h.2.1 h.2.2
  · have h := h.2 hb
    refine xs_iload rfl rfl ?_
    refine xs_aload_n rfl rfl ?_
    obtain ⟨p4, ⟨_, h1, h2⟩, h⟩ := h
    refine xs_getf rfl fl_12_35 h1 h2 ?_
    refine xs_iload_n rfl rfl ?_
    refine xs_iload rfl rfl ?_
    refine xs_iadd rfl ?_
    obtain ⟨n5, f6, h1, h2, h⟩ := h
    refine xs_iald rfl h1 h2 ?_
    refine xs_bipushV (v := 15) rfl rfl ?_
    refine xs_iload rfl rfl ?_
    refine xs_isub rfl ?_
    refine xs_ishl rfl ?_
    refine xs_iadd rfl ?_
    refine xs_istore rfl (L' := [some (.ref r0), some (.int v1), some (.int v2), some (.int v3), some (.int v4), some (.int (v5 + ((f6 (v3 + v6).toNatClampNeg) <<< ((((15 : Int32) - v6) : Int32) &&& 31)))), some (.int v6)]) rfl rfl ?_
    refine xs_iincV rfl (w := 1) rfl rfl (L' := [some (.ref r0), some (.int v1), some (.int v2), some (.int v3), some (.int v4), some (.int (v5 + ((f6 (v3 + v6).toNatClampNeg) <<< ((((15 : Int32) - v6) : Int32) &&& 31)))), some (.int (v6 + 1))]) rfl rfl ?_
    refine xs_goto (k' := 70) rfl rfl ?_
    exact h

set_option maxRecDepth 20000 in
theorem b_MO_readCodes_0 {l : Launch} {x : xX} {d mc ms n0 uc us : Nat} {Q : xO → xH → Prop} {cl : Bool} {r0 : Nat} {H : xH}
    (h : ∃ a1, gI H r0 12 13 a1 ∧ (xW l x d mc ms mMO_readCodes n0 Q cl 6 [some (.ref r0), some (.int a1), none, none, none, none, none] [.int 5, .ref r0, .int 257] H uc us)) :
    xW l x d mc ms mMO_readCodes n0 Q cl 0 [some (.ref r0), none, none, none, none, none, none] [] H uc us := by
  refine xs_aload_n rfl rfl ?_
  obtain ⟨a1, ⟨_, h1, h2⟩, h⟩ := h
  refine xs_getf rfl fl_12_118 h1 h2 ?_
  refine xs_istore_n rfl (L' := [some (.ref r0), some (.int a1), none, none, none, none, none]) rfl rfl ?_
  refine xs_sipushV (v := 257) rfl rfl ?_
  refine xs_aload_n rfl rfl ?_
  refine xs_iconstV (v := 5) rfl rfl ?_
  exact h

set_option maxRecDepth 20000 in
theorem b_MO_readCodes_7 {l : Launch} {x : xX} {d mc ms n0 uc us : Nat} {Q : xO → xH → Prop} {cl : Bool} {r0 : Nat} {v1 : Int32} {u0 : Int32} {u1 : Int32} {H : xH}
    (h : ∃ a1, gI H r0 12 5 a1 ∧ ((¬ a1 = 0 → xW l x d mc ms mMO_readCodes n0 Q cl 19 [some (.ref r0), some (.int v1), some (.int (u0 + u1)), none, none, none, none] [] H uc us) ∧ (a1 = 0 → ((u0 + u1) ≤ 286 → xW l x d mc ms mMO_readCodes n0 Q cl 19 [some (.ref r0), some (.int v1), some (.int (u0 + u1)), none, none, none, none] [] H uc us) ∧ (¬ (u0 + u1) ≤ 286 → xW l x d mc ms mMO_readCodes n0 Q cl 18 [some (.ref r0), some (.int v1), some (.int (u0 + u1)), none, none, none, none] [.int v1, .int 4, .ref r0] H uc us)))) :
    xW l x d mc ms mMO_readCodes n0 Q cl 7 [some (.ref r0), some (.int v1), none, none, none, none, none] [.int u1, .int u0] H uc us := by
  refine xs_iadd rfl ?_
  refine xs_istore_n rfl (L' := [some (.ref r0), some (.int v1), some (.int (u0 + u1)), none, none, none, none]) rfl rfl ?_
  refine xs_aload_n rfl rfl ?_
  obtain ⟨a1, ⟨_, h1, h2⟩, h⟩ := h
  refine xs_getf rfl fl_12_115 h1 h2 ?_
  refine xs_if_ne (k' := 19) rfl rfl (fun hb => ?_) (fun hb => ?_)
  · have h := h.1 hb
    exact h
  · have h := h.2 hb
    refine xs_iload_n rfl rfl ?_
    refine xs_sipushV (v := 286) rfl rfl ?_
    refine xs_icmp_le (k' := 19) rfl rfl (fun hb => ?_) (fun hb => ?_)
    · have h := h.1 hb
      exact h
    · have h := h.2 hb
      refine xs_aload_n rfl rfl ?_
      refine xs_iconstV (v := 4) rfl rfl ?_
      refine xs_iload_n rfl rfl ?_
      exact h

set_option maxRecDepth 20000 in
theorem b_MO_readCodes_19 {l : Launch} {x : xX} {d mc ms n0 uc us : Nat} {Q : xO → xH → Prop} {cl : Bool} {r0 : Nat} {v1 : Int32} {v2 : Int32} {H : xH}
    (h : ∃ a1, gI H r0 12 13 a1 ∧ (xW l x d mc ms mMO_readCodes n0 Q cl 25 [some (.ref r0), some (.int a1), some (.int v2), none, none, none, none] [.int 5, .ref r0, .int 1] H uc us)) :
    xW l x d mc ms mMO_readCodes n0 Q cl 19 [some (.ref r0), some (.int v1), some (.int v2), none, none, none, none] [] H uc us := by
  refine xs_aload_n rfl rfl ?_
  obtain ⟨a1, ⟨_, h1, h2⟩, h⟩ := h
  refine xs_getf rfl fl_12_118 h1 h2 ?_
  refine xs_istore_n rfl (L' := [some (.ref r0), some (.int a1), some (.int v2), none, none, none, none]) rfl rfl ?_
  refine xs_iconstV (v := 1) rfl rfl ?_
  refine xs_aload_n rfl rfl ?_
  refine xs_iconstV (v := 5) rfl rfl ?_
  exact h

set_option maxRecDepth 20000 in
theorem b_MO_readCodes_26 {l : Launch} {x : xX} {d mc ms n0 uc us : Nat} {Q : xO → xH → Prop} {cl : Bool} {r0 : Nat} {v1 : Int32} {v2 : Int32} {u0 : Int32} {u1 : Int32} {H : xH}
    (h : ∃ a1, gI H r0 12 5 a1 ∧ ((¬ a1 = 0 → xW l x d mc ms mMO_readCodes n0 Q cl 38 [some (.ref r0), some (.int v1), some (.int v2), some (.int (u0 + u1)), none, none, none] [] H uc us) ∧ (a1 = 0 → ((u0 + u1) ≤ 30 → xW l x d mc ms mMO_readCodes n0 Q cl 38 [some (.ref r0), some (.int v1), some (.int v2), some (.int (u0 + u1)), none, none, none] [] H uc us) ∧ (¬ (u0 + u1) ≤ 30 → xW l x d mc ms mMO_readCodes n0 Q cl 37 [some (.ref r0), some (.int v1), some (.int v2), some (.int (u0 + u1)), none, none, none] [.int v1, .int 4, .ref r0] H uc us)))) :
    xW l x d mc ms mMO_readCodes n0 Q cl 26 [some (.ref r0), some (.int v1), some (.int v2), none, none, none, none] [.int u1, .int u0] H uc us := by
  refine xs_iadd rfl ?_
  refine xs_istore_n rfl (L' := [some (.ref r0), some (.int v1), some (.int v2), some (.int (u0 + u1)), none, none, none]) rfl rfl ?_
  refine xs_aload_n rfl rfl ?_
  obtain ⟨a1, ⟨_, h1, h2⟩, h⟩ := h
  refine xs_getf rfl fl_12_115 h1 h2 ?_
  refine xs_if_ne (k' := 38) rfl rfl (fun hb => ?_) (fun hb => ?_)
  · have h := h.1 hb
    exact h
  · have h := h.2 hb
    refine xs_iload_n rfl rfl ?_
    refine xs_bipushV (v := 30) rfl rfl ?_
    refine xs_icmp_le (k' := 38) rfl rfl (fun hb => ?_) (fun hb => ?_)
    · have h := h.1 hb
      exact h
    · have h := h.2 hb
      refine xs_aload_n rfl rfl ?_
      refine xs_iconstV (v := 4) rfl rfl ?_
      refine xs_iload_n rfl rfl ?_
      exact h

set_option maxRecDepth 20000 in
theorem b_MO_readCodes_38 {l : Launch} {x : xX} {d mc ms n0 uc us : Nat} {Q : xO → xH → Prop} {cl : Bool} {r0 : Nat} {v1 : Int32} {v2 : Int32} {v3 : Int32} {H : xH}
    (h : xW l x d mc ms mMO_readCodes n0 Q cl 41 [some (.ref r0), some (.int v1), some (.int v2), some (.int v3), none, none, none] [.int 4, .ref r0, .int 4] H uc us) :
    xW l x d mc ms mMO_readCodes n0 Q cl 38 [some (.ref r0), some (.int v1), some (.int v2), some (.int v3), none, none, none] [] H uc us := by
  refine xs_iconstV (v := 4) rfl rfl ?_
  refine xs_aload_n rfl rfl ?_
  refine xs_iconstV (v := 4) rfl rfl ?_
  exact h

set_option maxRecDepth 20000 in
theorem b_MO_readCodes_42 {l : Launch} {x : xX} {d mc ms n0 uc us : Nat} {Q : xO → xH → Prop} {cl : Bool} {r0 : Nat} {v1 : Int32} {v2 : Int32} {v3 : Int32} {u0 : Int32} {u1 : Int32} {H : xH}
    (h : xW l x d mc ms mMO_readCodes n0 Q cl 46 [some (.ref r0), some (.int v1), some (.int v2), some (.int v3), some (.int (u0 + u1)), some (.int 0), none] [] H uc us) :
    xW l x d mc ms mMO_readCodes n0 Q cl 42 [some (.ref r0), some (.int v1), some (.int v2), some (.int v3), none, none, none] [.int u1, .int u0] H uc us := by
  refine xs_iadd rfl ?_
  refine xs_istore rfl (L' := [some (.ref r0), some (.int v1), some (.int v2), some (.int v3), some (.int (u0 + u1)), none, none]) rfl rfl ?_
  refine xs_iconstV (v := 0) rfl rfl ?_
  refine xs_istore rfl (L' := [some (.ref r0), some (.int v1), some (.int v2), some (.int v3), some (.int (u0 + u1)), some (.int 0), none]) rfl rfl ?_
  exact h

set_option maxRecDepth 20000 in
theorem b_MO_readCodes_46 {l : Launch} {x : xX} {d mc ms n0 uc us : Nat} {Q : xO → xH → Prop} {cl : Bool} {r0 : Nat} {v1 : Int32} {v2 : Int32} {v3 : Int32} {v4 : Int32} {v5 : Int32} {H : xH}
    (h : (19 ≤ v5 → xW l x d mc ms mMO_readCodes n0 Q cl 60 [some (.ref r0), some (.int v1), some (.int v2), some (.int v3), some (.int v4), some (.int 0), none] [] H uc us) ∧ (¬ 19 ≤ v5 → ∃ p1, gR H r0 12 17 p1 ∧ (∃ n2 f3, H[(p1 : Nat)]? = some (.inl (0, n2, .inl f3)) ∧ 2 ≤ p1 ∧ vp_in ((500 : Int32) + v5) n2 ∧ (∀ H4 : xH, H4 = H.set p1 (.inl (0, n2, .inl (upd f3 (((500 : Int32) + v5).toNatClampNeg) (0)))) → xW l x d mc ms mMO_readCodes n0 Q false 46 [some (.ref r0), some (.int v1), some (.int v2), some (.int v3), some (.int v4), some (.int (v5 + 1)), none] [] H4 uc us)))) :
    xW l x d mc ms mMO_readCodes n0 Q cl 46 [some (.ref r0), some (.int v1), some (.int v2), some (.int v3), some (.int v4), some (.int v5), none] [] H uc us := by
  refine xs_iload rfl rfl ?_
  refine xs_bipushV (v := 19) rfl rfl ?_
  refine xs_icmp_ge (k' := 58) rfl rfl (fun hb => ?_) (fun hb => ?_)
  · have h := h.1 hb
    refine xs_iconstV (v := 0) rfl rfl ?_
    refine xs_istore rfl (L' := [some (.ref r0), some (.int v1), some (.int v2), some (.int v3), some (.int v4), some (.int 0), none]) rfl rfl ?_
    exact h
  · have h := h.2 hb
    refine xs_aload_n rfl rfl ?_
    obtain ⟨p1, ⟨_, h1, h2⟩, h⟩ := h
    refine xs_getf rfl fl_12_41 h1 h2 ?_
    refine xs_sipushV (v := 500) rfl rfl ?_
    refine xs_iload rfl rfl ?_
    refine xs_iadd rfl ?_
    refine xs_iconstV (v := 0) rfl rfl ?_
    obtain ⟨n2, f3, h1, h3, h2, h⟩ := h
    refine xs_iast rfl h1 h3 h2 ?_
    have h := h _ rfl
    generalize H.set p1 (.inl (0, n2, .inl (upd f3 (((500 : Int32) + v5).toNatClampNeg) (0)))) = H4 at h ⊢
    refine xs_iincV rfl (w := 1) rfl rfl (L' := [some (.ref r0), some (.int v1), some (.int v2), some (.int v3), some (.int v4), some (.int (v5 + 1)), none]) rfl rfl ?_
    refine xs_goto (k' := 46) rfl rfl ?_
    exact h

set_option maxRecDepth 20000 in
theorem b_MO_readCodes_60 {l : Launch} {x : xX} {d mc ms n0 uc us : Nat} {Q : xO → xH → Prop} {cl : Bool} {r0 : Nat} {v1 : Int32} {v2 : Int32} {v3 : Int32} {v4 : Int32} {v5 : Int32} {H : xH}
    (h : (v4 ≤ v5 → ∃ a1, gI H r0 12 5 a1 ∧ ((a1 ≤ 0 → xW l x d mc ms mMO_readCodes n0 Q cl 87 [some (.ref r0), some (.int v1), some (.int v2), some (.int v3), some (.int v4), some (.int v5), none] [.int 32, .int 19, .int 500, .ref r0] H uc us) ∧ (¬ a1 ≤ 0 → uc = mc ∧ us ≤ ms ∧ Q (.inl (some (.int 0))) H))) ∧ (¬ v4 ≤ v5 → ∃ a2, gI H r0 12 5 a2 ∧ ((¬ a2 = 0 → ∃ a3, gI H r0 12 5 a3 ∧ ((a3 ≤ 0 → xW l x d mc ms mMO_readCodes n0 Q cl 87 [some (.ref r0), some (.int v1), some (.int v2), some (.int v3), some (.int v4), some (.int v5), none] [.int 32, .int 19, .int 500, .ref r0] H uc us) ∧ (¬ a3 ≤ 0 → uc = mc ∧ us ≤ ms ∧ Q (.inl (some (.int 0))) H))) ∧ (a2 = 0 → ∃ p4, gR H r0 12 17 p4 ∧ (xW l x d mc ms mMO_readCodes n0 Q cl 70 [some (.ref r0), some (.int v1), some (.int v2), some (.int v3), some (.int v4), some (.int v5), none] [.int v5, .int 500, .ref p4] H uc us))))) :
    xW l x d mc ms mMO_readCodes n0 Q cl 60 [some (.ref r0), some (.int v1), some (.int v2), some (.int v3), some (.int v4), some (.int v5), none] [] H uc us := by
  refine xs_iload rfl rfl ?_
  refine xs_iload rfl rfl ?_
  refine xs_icmp_ge (k' := 78) rfl rfl (fun hb => ?_) (fun hb => ?_)
  · have h := h.1 hb
    refine xs_aload_n rfl rfl ?_
    obtain ⟨a1, ⟨_, h1, h2⟩, h⟩ := h
    refine xs_getf rfl fl_12_115 h1 h2 ?_
    refine xs_if_le (k' := 83) rfl rfl (fun hb => ?_) (fun hb => ?_)
    · have h := h.1 hb
      refine xs_aload_n rfl rfl ?_
      refine xs_sipushV (v := 500) rfl rfl ?_
      refine xs_bipushV (v := 19) rfl rfl ?_
      refine xs_bipushV (v := 32) rfl rfl ?_
      exact h
    · have h := h.2 hb
      refine xs_iconstV (v := 0) rfl rfl ?_
      exact xs_iret rfl rfl h.1 h.2.1 h.2.2
  · have h := h.2 hb
    refine xs_aload_n rfl rfl ?_
    obtain ⟨a2, ⟨_, h1, h2⟩, h⟩ := h
    refine xs_getf rfl fl_12_115 h1 h2 ?_
    refine xs_if_ne (k' := 78) rfl rfl (fun hb => ?_) (fun hb => ?_)
    · have h := h.1 hb
      refine xs_aload_n rfl rfl ?_
      obtain ⟨a3, ⟨_, h1, h2⟩, h⟩ := h
      refine xs_getf rfl fl_12_115 h1 h2 ?_
      refine xs_if_le (k' := 83) rfl rfl (fun hb => ?_) (fun hb => ?_)
      · have h := h.1 hb
        refine xs_aload_n rfl rfl ?_
        refine xs_sipushV (v := 500) rfl rfl ?_
        refine xs_bipushV (v := 19) rfl rfl ?_
        refine xs_bipushV (v := 32) rfl rfl ?_
        exact h
      · have h := h.2 hb
        refine xs_iconstV (v := 0) rfl rfl ?_
        exact xs_iret rfl rfl h.1 h.2.1 h.2.2
    · have h := h.2 hb
      refine xs_aload_n rfl rfl ?_
      obtain ⟨p4, ⟨_, h1, h2⟩, h⟩ := h
      refine xs_getf rfl fl_12_41 h1 h2 ?_
      refine xs_sipushV (v := 500) rfl rfl ?_
      refine xs_iload rfl rfl ?_
      exact h

set_option maxRecDepth 20000 in
theorem b_MO_readCodes_71 {l : Launch} {x : xX} {d mc ms n0 uc us : Nat} {Q : xO → xH → Prop} {cl : Bool} {r0 : Nat} {v1 : Int32} {v2 : Int32} {v3 : Int32} {v4 : Int32} {v5 : Int32} {q0 : Nat} {u1 : Int32} {u2 : Int32} {H : xH}
    (h : xW l x d mc ms mMO_readCodes n0 Q cl 74 [some (.ref r0), some (.int v1), some (.int v2), some (.int v3), some (.int v4), some (.int v5), none] [.int 3, .ref r0, .int (u1 + u2), .ref q0] H uc us) :
    xW l x d mc ms mMO_readCodes n0 Q cl 71 [some (.ref r0), some (.int v1), some (.int v2), some (.int v3), some (.int v4), some (.int v5), none] [.int u2, .int u1, .ref q0] H uc us := by
  refine xs_iadd rfl ?_
  refine xs_aload_n rfl rfl ?_
  refine xs_iconstV (v := 3) rfl rfl ?_
  exact h

set_option maxRecDepth 20000 in
theorem b_MO_readCodes_75 {l : Launch} {x : xX} {d mc ms n0 uc us : Nat} {Q : xO → xH → Prop} {cl : Bool} {r0 : Nat} {v1 : Int32} {v2 : Int32} {v3 : Int32} {v4 : Int32} {v5 : Int32} {q0 : Nat} {u1 : Int32} {u2 : Int32} {H : xH}
    (h : ∃ n1 f2, H[(q0 : Nat)]? = some (.inl (0, n1, .inl f2)) ∧ 2 ≤ q0 ∧ vp_in u1 n1 ∧ (∀ H3 : xH, H3 = H.set q0 (.inl (0, n1, .inl (upd f2 (u1.toNatClampNeg) (u2)))) → xW l x d mc ms mMO_readCodes n0 Q false 60 [some (.ref r0), some (.int v1), some (.int v2), some (.int v3), some (.int v4), some (.int (v5 + 1)), none] [] H3 uc us)) :
    xW l x d mc ms mMO_readCodes n0 Q cl 75 [some (.ref r0), some (.int v1), some (.int v2), some (.int v3), some (.int v4), some (.int v5), none] [.int u2, .int u1, .ref q0] H uc us := by
  obtain ⟨n1, f2, h1, h3, h2, h⟩ := h
  refine xs_iast rfl h1 h3 h2 ?_
  have h := h _ rfl
  generalize H.set q0 (.inl (0, n1, .inl (upd f2 (u1.toNatClampNeg) (u2)))) = H3 at h ⊢
  refine xs_iincV rfl (w := 1) rfl rfl (L' := [some (.ref r0), some (.int v1), some (.int v2), some (.int v3), some (.int v4), some (.int (v5 + 1)), none]) rfl rfl ?_
  refine xs_goto (k' := 60) rfl rfl ?_
  exact h

set_option maxRecDepth 20000 in
theorem b_MO_readCodes_88 {l : Launch} {x : xX} {d mc ms n0 uc us : Nat} {Q : xO → xH → Prop} {cl : Bool} {r0 : Nat} {v1 : Int32} {v2 : Int32} {v3 : Int32} {v4 : Int32} {v5 : Int32} {u0 : Int32} {H : xH}
    (h : (u0 = 2 → xW l x d mc ms mMO_readCodes n0 Q cl 101 [some (.ref r0), some (.int v1), some (.int v2), some (.int v3), some (.int v4), some (.int v5), none] [.int (v2 + v3), .ref r0] H uc us) ∧ (¬ u0 = 2 → ∃ a1, gI H r0 12 13 a1 ∧ (xW l x d mc ms mMO_readCodes n0 Q cl 94 [some (.ref r0), some (.int v1), some (.int v2), some (.int v3), some (.int v4), some (.int v5), none] [.int a1, .int 5, .ref r0] H uc us))) :
    xW l x d mc ms mMO_readCodes n0 Q cl 88 [some (.ref r0), some (.int v1), some (.int v2), some (.int v3), some (.int v4), some (.int v5), none] [.int u0] H uc us := by
  refine xs_iconstV (v := 2) rfl rfl ?_
  refine xs_icmp_eq (k' := 97) rfl rfl (fun hb => ?_) (fun hb => ?_)
  · have h := h.1 hb
    refine xs_aload_n rfl rfl ?_
    refine xs_iload_n rfl rfl ?_
    refine xs_iload_n rfl rfl ?_
    refine xs_iadd rfl ?_
    exact h
  · have h := h.2 hb
    refine xs_aload_n rfl rfl ?_
    refine xs_iconstV (v := 5) rfl rfl ?_
    refine xs_aload_n rfl rfl ?_
    obtain ⟨a1, ⟨_, h1, h2⟩, h⟩ := h
    refine xs_getf rfl fl_12_118 h1 h2 ?_
    exact h

set_option maxRecDepth 20000 in
theorem b_MO_readCodes_95 {l : Launch} {x : xX} {d mc ms n0 uc us : Nat} {Q : xO → xH → Prop} {cl : Bool} {r0 : Nat} {v1 : Int32} {v2 : Int32} {v3 : Int32} {v4 : Int32} {v5 : Int32} {H : xH}
    (h : uc = mc ∧ us ≤ ms ∧ Q (.inl (some (.int 0))) H) :
    xW l x d mc ms mMO_readCodes n0 Q cl 95 [some (.ref r0), some (.int v1), some (.int v2), some (.int v3), some (.int v4), some (.int v5), none] [] H uc us := by
  refine xs_iconstV (v := 0) rfl rfl ?_
  exact xs_iret rfl rfl h.1 h.2.1 h.2.2

set_option maxRecDepth 20000 in
theorem b_MO_readCodes_102 {l : Launch} {x : xX} {d mc ms n0 uc us : Nat} {Q : xO → xH → Prop} {cl : Bool} {r0 : Nat} {v1 : Int32} {v2 : Int32} {v3 : Int32} {v4 : Int32} {v5 : Int32} {H : xH}
    (h : ∃ a1, gI H r0 12 5 a1 ∧ ((a1 ≤ 0 → xW l x d mc ms mMO_readCodes n0 Q cl 109 [some (.ref r0), some (.int v1), some (.int v2), some (.int v3), some (.int v4), some (.int 0), none] [] H uc us) ∧ (¬ a1 ≤ 0 → uc = mc ∧ us ≤ ms ∧ Q (.inl (some (.int 0))) H))) :
    xW l x d mc ms mMO_readCodes n0 Q cl 102 [some (.ref r0), some (.int v1), some (.int v2), some (.int v3), some (.int v4), some (.int v5), none] [] H uc us := by
  refine xs_aload_n rfl rfl ?_
  obtain ⟨a1, ⟨_, h1, h2⟩, h⟩ := h
  refine xs_getf rfl fl_12_115 h1 h2 ?_
  refine xs_if_le (k' := 107) rfl rfl (fun hb => ?_) (fun hb => ?_)
  · have h := h.1 hb
    refine xs_iconstV (v := 0) rfl rfl ?_
    refine xs_istore rfl (L' := [some (.ref r0), some (.int v1), some (.int v2), some (.int v3), some (.int v4), some (.int 0), none]) rfl rfl ?_
    exact h
  · have h := h.2 hb
    refine xs_iconstV (v := 0) rfl rfl ?_
    exact xs_iret rfl rfl h.1 h.2.1 h.2.2

set_option maxRecDepth 20000 in
theorem b_MO_readCodes_109 {l : Launch} {x : xX} {d mc ms n0 uc us : Nat} {Q : xO → xH → Prop} {cl : Bool} {r0 : Nat} {v1 : Int32} {v2 : Int32} {v3 : Int32} {v4 : Int32} {v5 : Int32} {H : xH}
    (h : (v2 ≤ v5 → xW l x d mc ms mMO_readCodes n0 Q cl 124 [some (.ref r0), some (.int v1), some (.int v2), some (.int v3), some (.int v4), some (.int 0), none] [] H uc us) ∧ (¬ v2 ≤ v5 → ∃ p1, gR H r0 12 17 p1 ∧ (∃ p2, gR H r0 12 18 p2 ∧ (∃ n3 f4, H[(p2 : Nat)]? = some (.inl (0, n3, .inl f4)) ∧ vp_in v5 n3 ∧ (∃ n5 f6, H[(p1 : Nat)]? = some (.inl (0, n5, .inl f6)) ∧ 2 ≤ p1 ∧ vp_in v5 n5 ∧ (∀ H7 : xH, H7 = H.set p1 (.inl (0, n5, .inl (upd f6 (v5.toNatClampNeg) ((f4 v5.toNatClampNeg))))) → xW l x d mc ms mMO_readCodes n0 Q false 109 [some (.ref r0), some (.int v1), some (.int v2), some (.int v3), some (.int v4), some (.int (v5 + 1)), none] [] H7 uc us)))))) :
    xW l x d mc ms mMO_readCodes n0 Q cl 109 [some (.ref r0), some (.int v1), some (.int v2), some (.int v3), some (.int v4), some (.int v5), none] [] H uc us := by
  refine xs_iload rfl rfl ?_
  refine xs_iload_n rfl rfl ?_
  refine xs_icmp_ge (k' := 122) rfl rfl (fun hb => ?_) (fun hb => ?_)
  · have h := h.1 hb
    refine xs_iconstV (v := 0) rfl rfl ?_
    refine xs_istore rfl (L' := [some (.ref r0), some (.int v1), some (.int v2), some (.int v3), some (.int v4), some (.int 0), none]) rfl rfl ?_
    exact h
  · have h := h.2 hb
    refine xs_aload_n rfl rfl ?_
    obtain ⟨p1, ⟨_, h1, h2⟩, h⟩ := h
    refine xs_getf rfl fl_12_41 h1 h2 ?_
    refine xs_iload rfl rfl ?_
    refine xs_aload_n rfl rfl ?_
    obtain ⟨p2, ⟨_, h1, h2⟩, h⟩ := h
    refine xs_getf rfl fl_12_44 h1 h2 ?_
    refine xs_iload rfl rfl ?_
    obtain ⟨n3, f4, h1, h2, h⟩ := h
    refine xs_iald rfl h1 h2 ?_
    obtain ⟨n5, f6, h1, h3, h2, h⟩ := h
    refine xs_iast rfl h1 h3 h2 ?_
    have h := h _ rfl
    generalize H.set p1 (.inl (0, n5, .inl (upd f6 (v5.toNatClampNeg) ((f4 v5.toNatClampNeg))))) = H7 at h ⊢
    refine xs_iincV rfl (w := 1) rfl rfl (L' := [some (.ref r0), some (.int v1), some (.int v2), some (.int v3), some (.int v4), some (.int (v5 + 1)), none]) rfl rfl ?_
    refine xs_goto (k' := 109) rfl rfl ?_
    exact h

set_option maxRecDepth 20000 in
theorem b_MO_readCodes_124 {l : Launch} {x : xX} {d mc ms n0 uc us : Nat} {Q : xO → xH → Prop} {cl : Bool} {r0 : Nat} {v1 : Int32} {v2 : Int32} {v3 : Int32} {v4 : Int32} {v5 : Int32} {H : xH}
    (h : (v3 ≤ v5 → xW l x d mc ms mMO_readCodes n0 Q cl 145 [some (.ref r0), some (.int v1), some (.int v2), some (.int v3), some (.int v4), some (.int v5), none] [.int 0, .int v2, .int 0, .ref r0] H uc us) ∧ (¬ v3 ≤ v5 → ∃ p1, gR H r0 12 17 p1 ∧ (∃ p2, gR H r0 12 18 p2 ∧ (∃ n3 f4, H[(p2 : Nat)]? = some (.inl (0, n3, .inl f4)) ∧ vp_in (v2 + v5) n3 ∧ (∃ n5 f6, H[(p1 : Nat)]? = some (.inl (0, n5, .inl f6)) ∧ 2 ≤ p1 ∧ vp_in ((400 : Int32) + v5) n5 ∧ (∀ H7 : xH, H7 = H.set p1 (.inl (0, n5, .inl (upd f6 (((400 : Int32) + v5).toNatClampNeg) ((f4 (v2 + v5).toNatClampNeg))))) → xW l x d mc ms mMO_readCodes n0 Q false 124 [some (.ref r0), some (.int v1), some (.int v2), some (.int v3), some (.int v4), some (.int (v5 + 1)), none] [] H7 uc us)))))) :
    xW l x d mc ms mMO_readCodes n0 Q cl 124 [some (.ref r0), some (.int v1), some (.int v2), some (.int v3), some (.int v4), some (.int v5), none] [] H uc us := by
  refine xs_iload rfl rfl ?_
  refine xs_iload_n rfl rfl ?_
  refine xs_icmp_ge (k' := 141) rfl rfl (fun hb => ?_) (fun hb => ?_)
  · have h := h.1 hb
    refine xs_aload_n rfl rfl ?_
    refine xs_iconstV (v := 0) rfl rfl ?_
    refine xs_iload_n rfl rfl ?_
    refine xs_iconstV (v := 0) rfl rfl ?_
    exact h
  · have h := h.2 hb
    refine xs_aload_n rfl rfl ?_
    obtain ⟨p1, ⟨_, h1, h2⟩, h⟩ := h
    refine xs_getf rfl fl_12_41 h1 h2 ?_
    refine xs_sipushV (v := 400) rfl rfl ?_
    refine xs_iload rfl rfl ?_
    refine xs_iadd rfl ?_
    refine xs_aload_n rfl rfl ?_
    obtain ⟨p2, ⟨_, h1, h2⟩, h⟩ := h
    refine xs_getf rfl fl_12_44 h1 h2 ?_
    refine xs_iload_n rfl rfl ?_
    refine xs_iload rfl rfl ?_
    refine xs_iadd rfl ?_
    obtain ⟨n3, f4, h1, h2, h⟩ := h
    refine xs_iald rfl h1 h2 ?_
    obtain ⟨n5, f6, h1, h3, h2, h⟩ := h
    refine xs_iast rfl h1 h3 h2 ?_
    have h := h _ rfl
    generalize H.set p1 (.inl (0, n5, .inl (upd f6 (((400 : Int32) + v5).toNatClampNeg) ((f4 (v2 + v5).toNatClampNeg))))) = H7 at h ⊢
    refine xs_iincV rfl (w := 1) rfl rfl (L' := [some (.ref r0), some (.int v1), some (.int v2), some (.int v3), some (.int v4), some (.int (v5 + 1)), none]) rfl rfl ?_
    refine xs_goto (k' := 124) rfl rfl ?_
    exact h

set_option maxRecDepth 20000 in
theorem b_MO_readCodes_146 {l : Launch} {x : xX} {d mc ms n0 uc us : Nat} {Q : xO → xH → Prop} {cl : Bool} {r0 : Nat} {v1 : Int32} {v2 : Int32} {v3 : Int32} {v4 : Int32} {v5 : Int32} {u0 : Int32} {H : xH}
    (h : xW l x d mc ms mMO_readCodes n0 Q cl 151 [some (.ref r0), some (.int v1), some (.int v2), some (.int v3), some (.int v4), some (.int u0), none] [.int 16, .int v3, .int 400, .ref r0] H uc us) :
    xW l x d mc ms mMO_readCodes n0 Q cl 146 [some (.ref r0), some (.int v1), some (.int v2), some (.int v3), some (.int v4), some (.int v5), none] [.int u0] H uc us := by
  refine xs_istore rfl (L' := [some (.ref r0), some (.int v1), some (.int v2), some (.int v3), some (.int v4), some (.int u0), none]) rfl rfl ?_
  refine xs_aload_n rfl rfl ?_
  refine xs_sipushV (v := 400) rfl rfl ?_
  refine xs_iload_n rfl rfl ?_
  refine xs_bipushV (v := 16) rfl rfl ?_
  exact h

set_option maxRecDepth 20000 in
theorem b_MO_readCodes_152 {l : Launch} {x : xX} {d mc ms n0 uc us : Nat} {Q : xO → xH → Prop} {cl : Bool} {r0 : Nat} {v1 : Int32} {v2 : Int32} {v3 : Int32} {v4 : Int32} {v5 : Int32} {u0 : Int32} {H : xH}
    (h : (¬ v5 = 2 → ∃ a1, gI H r0 12 13 a1 ∧ (xW l x d mc ms mMO_readCodes n0 Q cl 168 [some (.ref r0), some (.int v1), some (.int v2), some (.int v3), some (.int v4), some (.int v5), some (.int u0)] [.int a1, .int 5, .ref r0] H uc us)) ∧ (v5 = 2 → ∃ p2, gR H r0 12 17 p2 ∧ (∃ n3 f4, H[(p2 : Nat)]? = some (.inl (0, n3, .inl f4)) ∧ vp_in 256 n3 ∧ (((f4 (256 : Int32).toNatClampNeg) = 0 → ∃ a5, gI H r0 12 13 a5 ∧ (xW l x d mc ms mMO_readCodes n0 Q cl 168 [some (.ref r0), some (.int v1), some (.int v2), some (.int v3), some (.int v4), some (.int v5), some (.int u0)] [.int a5, .int 5, .ref r0] H uc us)) ∧ (¬ (f4 (256 : Int32).toNatClampNeg) = 0 → (¬ u0 = 3 → xW l x d mc ms mMO_readCodes n0 Q cl 169 [some (.ref r0), some (.int v1), some (.int v2), some (.int v3), some (.int v4), some (.int v5), some (.int u0)] [] H uc us) ∧ (u0 = 3 → ∃ a6, gI H r0 12 13 a6 ∧ (xW l x d mc ms mMO_readCodes n0 Q cl 168 [some (.ref r0), some (.int v1), some (.int v2), some (.int v3), some (.int v4), some (.int v5), some (.int u0)] [.int a6, .int 5, .ref r0] H uc us))))))) :
    xW l x d mc ms mMO_readCodes n0 Q cl 152 [some (.ref r0), some (.int v1), some (.int v2), some (.int v3), some (.int v4), some (.int v5), none] [.int u0] H uc us := by
  refine xs_istore rfl (L' := [some (.ref r0), some (.int v1), some (.int v2), some (.int v3), some (.int v4), some (.int v5), some (.int u0)]) rfl rfl ?_
  refine xs_iload rfl rfl ?_
  refine xs_iconstV (v := 2) rfl rfl ?_
  refine xs_icmp_ne (k' := 164) rfl rfl (fun hb => ?_) (fun hb => ?_)
  · have h := h.1 hb
    refine xs_aload_n rfl rfl ?_
    refine xs_iconstV (v := 5) rfl rfl ?_
    refine xs_aload_n rfl rfl ?_
    obtain ⟨a1, ⟨_, h1, h2⟩, h⟩ := h
    refine xs_getf rfl fl_12_118 h1 h2 ?_
    exact h
  · have h := h.2 hb
    refine xs_aload_n rfl rfl ?_
    obtain ⟨p2, ⟨_, h1, h2⟩, h⟩ := h
    refine xs_getf rfl fl_12_41 h1 h2 ?_
    refine xs_sipushV (v := 256) rfl rfl ?_
    obtain ⟨n3, f4, h1, h2, h⟩ := h
    refine xs_iald rfl h1 h2 ?_
    refine xs_if_eq (k' := 164) rfl rfl (fun hb => ?_) (fun hb => ?_)
    · have h := h.1 hb
      refine xs_aload_n rfl rfl ?_
      refine xs_iconstV (v := 5) rfl rfl ?_
      refine xs_aload_n rfl rfl ?_
      obtain ⟨a5, ⟨_, h1, h2⟩, h⟩ := h
      refine xs_getf rfl fl_12_118 h1 h2 ?_
      exact h
    · have h := h.2 hb
      refine xs_iload rfl rfl ?_
      refine xs_iconstV (v := 3) rfl rfl ?_
      refine xs_icmp_ne (k' := 169) rfl rfl (fun hb => ?_) (fun hb => ?_)
      · have h := h.1 hb
        exact h
      · have h := h.2 hb
        refine xs_aload_n rfl rfl ?_
        refine xs_iconstV (v := 5) rfl rfl ?_
        refine xs_aload_n rfl rfl ?_
        obtain ⟨a6, ⟨_, h1, h2⟩, h⟩ := h
        refine xs_getf rfl fl_12_118 h1 h2 ?_
        exact h

set_option maxRecDepth 20000 in
theorem b_MO_readCodes_169 {l : Launch} {x : xX} {d mc ms n0 uc us : Nat} {Q : xO → xH → Prop} {cl : Bool} {r0 : Nat} {v1 : Int32} {v2 : Int32} {v3 : Int32} {v4 : Int32} {v5 : Int32} {v6 : Int32} {H : xH}
    (h : uc = mc ∧ us ≤ ms ∧ Q (.inl (some (.int v6))) H) :
    xW l x d mc ms mMO_readCodes n0 Q cl 169 [some (.ref r0), some (.int v1), some (.int v2), some (.int v3), some (.int v4), some (.int v5), some (.int v6)] [] H uc us := by
  refine xs_iload rfl rfl ?_
  exact xs_iret rfl rfl h.1 h.2.1 h.2.2

set_option maxRecDepth 20000 in
theorem b_MO_orderOf_0 {l : Launch} {x : xX} {d mc ms n0 uc us : Nat} {Q : xO → xH → Prop} {cl : Bool} {v0 : Int32} {H : xH}
    (h : (3 ≤ v0 → (¬ v0 = 3 → (¬ (v0 - v0 / 2 * 2) = 0 → uc = mc ∧ us ≤ ms ∧ Q (.inl (some (.int ((7 : Int32) - ((v0 - 5) / 2))))) H) ∧ ((v0 - v0 / 2 * 2) = 0 → uc = mc ∧ us ≤ ms ∧ Q (.inl (some (.int ((8 : Int32) + ((v0 - 4) / 2))))) H)) ∧ (v0 = 3 → uc = mc ∧ us ≤ ms ∧ Q (.inl (some (.int 0))) H)) ∧ (¬ 3 ≤ v0 → uc = mc ∧ us ≤ ms ∧ Q (.inl (some (.int ((16 : Int32) + v0)))) H)) :
    xW l x d mc ms mMO_orderOf n0 Q cl 0 [some (.int v0)] [] H uc us := by
  refine xs_iload_n rfl rfl ?_
  refine xs_iconstV (v := 3) rfl rfl ?_
  refine xs_icmp_ge (k' := 7) rfl rfl (fun hb => ?_) (fun hb => ?_)
  · have h := h.1 hb
    refine xs_iload_n rfl rfl ?_
    refine xs_iconstV (v := 3) rfl rfl ?_
    refine xs_icmp_ne (k' := 12) rfl rfl (fun hb => ?_) (fun hb => ?_)
    · have h := h.1 hb
      refine xs_iload_n rfl rfl ?_
      refine xs_iconstV (v := 2) rfl rfl ?_
      refine xs_irem rfl (by decide) ?_
      refine xs_if_ne (k' := 24) rfl rfl (fun hb => ?_) (fun hb => ?_)
      · have h := h.1 hb
        refine xs_bipushV (v := 7) rfl rfl ?_
        refine xs_iload_n rfl rfl ?_
        refine xs_iconstV (v := 5) rfl rfl ?_
        refine xs_isub rfl ?_
        refine xs_iconstV (v := 2) rfl rfl ?_
        refine xs_idiv rfl (by decide) ?_
        refine xs_isub rfl ?_
        exact xs_iret rfl rfl h.1 h.2.1 h.2.2
      · have h := h.2 hb
        refine xs_bipushV (v := 8) rfl rfl ?_
        refine xs_iload_n rfl rfl ?_
        refine xs_iconstV (v := 4) rfl rfl ?_
        refine xs_isub rfl ?_
        refine xs_iconstV (v := 2) rfl rfl ?_
        refine xs_idiv rfl (by decide) ?_
        refine xs_iadd rfl ?_
        refine xs_goto (k' := 31) rfl rfl ?_
        exact xs_iret rfl rfl h.1 h.2.1 h.2.2
    · have h := h.2 hb
      refine xs_iconstV (v := 0) rfl rfl ?_
      refine xs_goto (k' := 31) rfl rfl ?_
      exact xs_iret rfl rfl h.1 h.2.1 h.2.2
  · have h := h.2 hb
    refine xs_bipushV (v := 16) rfl rfl ?_
    refine xs_iload_n rfl rfl ?_
    refine xs_iadd rfl ?_
    refine xs_goto (k' := 31) rfl rfl ?_
    exact xs_iret rfl rfl h.1 h.2.1 h.2.2

set_option maxRecDepth 20000 in
theorem b_MO_readRow_0 {l : Launch} {x : xX} {d mc ms n0 uc us : Nat} {Q : xO → xH → Prop} {cl : Bool} {r0 : Nat} {v1 : Int32} {H : xH}
    (h : xW l x d mc ms mMO_readRow n0 Q cl 2 [some (.ref r0), some (.int v1), some (.int 0), none, none, none, none, none] [] H uc us) :
    xW l x d mc ms mMO_readRow n0 Q cl 0 [some (.ref r0), some (.int v1), none, none, none, none, none, none] [] H uc us := by
  refine xs_iconstV (v := 0) rfl rfl ?_
  refine xs_istore_n rfl (L' := [some (.ref r0), some (.int v1), some (.int 0), none, none, none, none, none]) rfl rfl ?_
  exact h

set_option maxRecDepth 20000 in
theorem b_MO_readRow_2 {l : Launch} {x : xX} {d mc ms n0 uc us : Nat} {Q : xO → xH → Prop} {cl : Bool} {r0 : Nat} {v1 : Int32} {v2 : Int32} {H : xH}
    (h : (v1 ≤ v2 → uc = mc ∧ us ≤ ms ∧ Q (.inl none) H) ∧ (¬ v1 ≤ v2 → ∃ a1, gI H r0 12 5 a1 ∧ ((¬ a1 = 0 → uc = mc ∧ us ≤ ms ∧ Q (.inl none) H) ∧ (a1 = 0 → ∃ a2, gI H r0 12 13 a2 ∧ (xW l x d mc ms mMO_readRow n0 Q cl 14 [some (.ref r0), some (.int v1), some (.int v2), some (.int a2), none, none, none, none] [.int 32, .int 500, .ref r0] H uc us))))) :
    xW l x d mc ms mMO_readRow n0 Q cl 2 [some (.ref r0), some (.int v1), some (.int v2), none, none, none, none, none] [] H uc us := by
  refine xs_iload_n rfl rfl ?_
  refine xs_iload_n rfl rfl ?_
  refine xs_icmp_ge (k' := 99) rfl rfl (fun hb => ?_) (fun hb => ?_)
  · have h := h.1 hb
    exact xs_vret rfl rfl h.1 h.2.1 h.2.2
  · have h := h.2 hb
    refine xs_aload_n rfl rfl ?_
    obtain ⟨a1, ⟨_, h1, h2⟩, h⟩ := h
    refine xs_getf rfl fl_12_115 h1 h2 ?_
    refine xs_if_ne (k' := 99) rfl rfl (fun hb => ?_) (fun hb => ?_)
    · have h := h.1 hb
      exact xs_vret rfl rfl h.1 h.2.1 h.2.2
    · have h := h.2 hb
      refine xs_aload_n rfl rfl ?_
      obtain ⟨a2, ⟨_, h1, h2⟩, h⟩ := h
      refine xs_getf rfl fl_12_118 h1 h2 ?_
      refine xs_istore_n rfl (L' := [some (.ref r0), some (.int v1), some (.int v2), some (.int a2), none, none, none, none]) rfl rfl ?_
      refine xs_aload_n rfl rfl ?_
      refine xs_sipushV (v := 500) rfl rfl ?_
      refine xs_bipushV (v := 32) rfl rfl ?_
      exact h

set_option maxRecDepth 20000 in
theorem b_MO_readRow_15 {l : Launch} {x : xX} {d mc ms n0 uc us : Nat} {Q : xO → xH → Prop} {cl : Bool} {r0 : Nat} {v1 : Int32} {v2 : Int32} {v3 : Int32} {u0 : Int32} {H : xH}
    (h : (¬ u0 = 16 → (u0 ≤ 16 → ∃ a1, gI H r0 12 5 a1 ∧ ((¬ a1 = 0 → xW l x d mc ms mMO_readRow n0 Q cl 82 [some (.ref r0), some (.int v1), some (.int v2), some (.int v3), some (.int u0), some (.int 1), some (.int u0), none] [] H uc us) ∧ (a1 = 0 → ((1 : Int32) ≤ (v1 - v2) → xW l x d mc ms mMO_readRow n0 Q cl 82 [some (.ref r0), some (.int v1), some (.int v2), some (.int v3), some (.int u0), some (.int 1), some (.int u0), none] [] H uc us) ∧ (¬ (1 : Int32) ≤ (v1 - v2) → xW l x d mc ms mMO_readRow n0 Q cl 81 [some (.ref r0), some (.int v1), some (.int v2), some (.int v3), some (.int u0), some (.int 1), some (.int u0), none] [.int v3, .int 7, .ref r0] H uc us)))) ∧ (¬ u0 ≤ 16 → (¬ u0 = 17 → xW l x d mc ms mMO_readRow n0 Q cl 67 [some (.ref r0), some (.int v1), some (.int v2), some (.int v3), some (.int u0), some (.int 1), some (.int 0), none] [.int 7, .ref r0, .int 11] H uc us) ∧ (u0 = 17 → xW l x d mc ms mMO_readRow n0 Q cl 61 [some (.ref r0), some (.int v1), some (.int v2), some (.int v3), some (.int u0), some (.int 1), some (.int 0), none] [.int 3, .ref r0, .int 3] H uc us))) ∧ (u0 = 16 → ∃ a2, gI H r0 12 5 a2 ∧ ((¬ a2 = 0 → xW l x d mc ms mMO_readRow n0 Q cl 32 [some (.ref r0), some (.int v1), some (.int v2), some (.int v3), some (.int u0), some (.int 1), some (.int u0), none] [] H uc us) ∧ (a2 = 0 → (¬ v2 = 0 → xW l x d mc ms mMO_readRow n0 Q cl 32 [some (.ref r0), some (.int v1), some (.int v2), some (.int v3), some (.int u0), some (.int 1), some (.int u0), none] [] H uc us) ∧ (v2 = 0 → xW l x d mc ms mMO_readRow n0 Q cl 31 [some (.ref r0), some (.int v1), some (.int v2), some (.int v3), some (.int u0), some (.int 1), some (.int u0), none] [.int v3, .int 6, .ref r0] H uc us))))) :
    xW l x d mc ms mMO_readRow n0 Q cl 15 [some (.ref r0), some (.int v1), some (.int v2), some (.int v3), none, none, none, none] [.int u0] H uc us := by
  refine xs_istore rfl (L' := [some (.ref r0), some (.int v1), some (.int v2), some (.int v3), some (.int u0), none, none, none]) rfl rfl ?_
  refine xs_iconstV (v := 1) rfl rfl ?_
  refine xs_istore rfl (L' := [some (.ref r0), some (.int v1), some (.int v2), some (.int v3), some (.int u0), some (.int 1), none, none]) rfl rfl ?_
  refine xs_iload rfl rfl ?_
  refine xs_istore rfl (L' := [some (.ref r0), some (.int v1), some (.int v2), some (.int v3), some (.int u0), some (.int 1), some (.int u0), none]) rfl rfl ?_
  refine xs_iload rfl rfl ?_
  refine xs_bipushV (v := 16) rfl rfl ?_
  refine xs_icmp_ne (k' := 50) rfl rfl (fun hb => ?_) (fun hb => ?_)
  · have h := h.1 hb
    refine xs_iload rfl rfl ?_
    refine xs_bipushV (v := 16) rfl rfl ?_
    refine xs_icmp_le (k' := 70) rfl rfl (fun hb => ?_) (fun hb => ?_)
    · have h := h.1 hb
      refine xs_aload_n rfl rfl ?_
      obtain ⟨a1, ⟨_, h1, h2⟩, h⟩ := h
      refine xs_getf rfl fl_12_115 h1 h2 ?_
      refine xs_if_ne (k' := 82) rfl rfl (fun hb => ?_) (fun hb => ?_)
      · have h := h.1 hb
        exact h
      · have h := h.2 hb
        refine xs_iload rfl rfl ?_
        refine xs_iload_n rfl rfl ?_
        refine xs_iload_n rfl rfl ?_
        refine xs_isub rfl ?_
        refine xs_icmp_le (k' := 82) rfl rfl (fun hb => ?_) (fun hb => ?_)
        · have h := h.1 hb
          exact h
        · have h := h.2 hb
          refine xs_aload_n rfl rfl ?_
          refine xs_bipushV (v := 7) rfl rfl ?_
          refine xs_iload_n rfl rfl ?_
          exact h
    · have h := h.2 hb
      refine xs_iconstV (v := 0) rfl rfl ?_
      refine xs_istore rfl (L' := [some (.ref r0), some (.int v1), some (.int v2), some (.int v3), some (.int u0), some (.int 1), some (.int 0), none]) rfl rfl ?_
      refine xs_iload rfl rfl ?_
      refine xs_bipushV (v := 17) rfl rfl ?_
      refine xs_icmp_ne (k' := 64) rfl rfl (fun hb => ?_) (fun hb => ?_)
      · have h := h.1 hb
        refine xs_bipushV (v := 11) rfl rfl ?_
        refine xs_aload_n rfl rfl ?_
        refine xs_bipushV (v := 7) rfl rfl ?_
        exact h
      · have h := h.2 hb
        refine xs_iconstV (v := 3) rfl rfl ?_
        refine xs_aload_n rfl rfl ?_
        refine xs_iconstV (v := 3) rfl rfl ?_
        exact h
  · have h := h.2 hb
    refine xs_aload_n rfl rfl ?_
    obtain ⟨a2, ⟨_, h1, h2⟩, h⟩ := h
    refine xs_getf rfl fl_12_115 h1 h2 ?_
    refine xs_if_ne (k' := 32) rfl rfl (fun hb => ?_) (fun hb => ?_)
    · have h := h.1 hb
      exact h
    · have h := h.2 hb
      refine xs_iload_n rfl rfl ?_
      refine xs_if_ne (k' := 32) rfl rfl (fun hb => ?_) (fun hb => ?_)
      · have h := h.1 hb
        exact h
      · have h := h.2 hb
        refine xs_aload_n rfl rfl ?_
        refine xs_bipushV (v := 6) rfl rfl ?_
        refine xs_iload_n rfl rfl ?_
        exact h

set_option maxRecDepth 20000 in
theorem b_MO_readRow_32 {l : Launch} {x : xX} {d mc ms n0 uc us : Nat} {Q : xO → xH → Prop} {cl : Bool} {r0 : Nat} {v1 : Int32} {v2 : Int32} {v3 : Int32} {v4 : Int32} {v5 : Int32} {v6 : Int32} {H : xH}
    (h : (¬ v2 = 0 → ∃ p1, gR H r0 12 18 p1 ∧ (∃ n2 f3, H[(p1 : Nat)]? = some (.inl (0, n2, .inl f3)) ∧ vp_in (v2 - 1) n2 ∧ (xW l x d mc ms mMO_readRow n0 Q cl 46 [some (.ref r0), some (.int v1), some (.int v2), some (.int v3), some (.int v4), some (.int v5), some (.int (f3 (v2 - 1).toNatClampNeg)), none] [.int 2, .ref r0, .int 3] H uc us))) ∧ (v2 = 0 → xW l x d mc ms mMO_readRow n0 Q cl 46 [some (.ref r0), some (.int v1), some (.int v2), some (.int v3), some (.int v4), some (.int v5), some (.int 0), none] [.int 2, .ref r0, .int 3] H uc us)) :
    xW l x d mc ms mMO_readRow n0 Q cl 32 [some (.ref r0), some (.int v1), some (.int v2), some (.int v3), some (.int v4), some (.int v5), some (.int v6), none] [] H uc us := by
  refine xs_iload_n rfl rfl ?_
  refine xs_if_ne (k' := 36) rfl rfl (fun hb => ?_) (fun hb => ?_)
  · have h := h.1 hb
    refine xs_aload_n rfl rfl ?_
    obtain ⟨p1, ⟨_, h1, h2⟩, h⟩ := h
    refine xs_getf rfl fl_12_44 h1 h2 ?_
    refine xs_iload_n rfl rfl ?_
    refine xs_iconstV (v := 1) rfl rfl ?_
    refine xs_isub rfl ?_
    obtain ⟨n2, f3, h1, h2, h⟩ := h
    refine xs_iald rfl h1 h2 ?_
    refine xs_istore rfl (L' := [some (.ref r0), some (.int v1), some (.int v2), some (.int v3), some (.int v4), some (.int v5), some (.int (f3 (v2 - 1).toNatClampNeg)), none]) rfl rfl ?_
    refine xs_iconstV (v := 3) rfl rfl ?_
    refine xs_aload_n rfl rfl ?_
    refine xs_iconstV (v := 2) rfl rfl ?_
    exact h
  · have h := h.2 hb
    refine xs_iconstV (v := 0) rfl rfl ?_
    refine xs_goto (k' := 42) rfl rfl ?_
    refine xs_istore rfl (L' := [some (.ref r0), some (.int v1), some (.int v2), some (.int v3), some (.int v4), some (.int v5), some (.int 0), none]) rfl rfl ?_
    refine xs_iconstV (v := 3) rfl rfl ?_
    refine xs_aload_n rfl rfl ?_
    refine xs_iconstV (v := 2) rfl rfl ?_
    exact h

set_option maxRecDepth 20000 in
theorem b_MO_readRow_47 {l : Launch} {x : xX} {d mc ms n0 uc us : Nat} {Q : xO → xH → Prop} {cl : Bool} {r0 : Nat} {v1 : Int32} {v2 : Int32} {v3 : Int32} {v4 : Int32} {v5 : Int32} {v6 : Int32} {u0 : Int32} {u1 : Int32} {H : xH}
    (h : ∃ a1, gI H r0 12 5 a1 ∧ ((¬ a1 = 0 → xW l x d mc ms mMO_readRow n0 Q cl 82 [some (.ref r0), some (.int v1), some (.int v2), some (.int v3), some (.int v4), some (.int (u0 + u1)), some (.int v6), none] [] H uc us) ∧ (a1 = 0 → ((u0 + u1) ≤ (v1 - v2) → xW l x d mc ms mMO_readRow n0 Q cl 82 [some (.ref r0), some (.int v1), some (.int v2), some (.int v3), some (.int v4), some (.int (u0 + u1)), some (.int v6), none] [] H uc us) ∧ (¬ (u0 + u1) ≤ (v1 - v2) → xW l x d mc ms mMO_readRow n0 Q cl 81 [some (.ref r0), some (.int v1), some (.int v2), some (.int v3), some (.int v4), some (.int (u0 + u1)), some (.int v6), none] [.int v3, .int 7, .ref r0] H uc us)))) :
    xW l x d mc ms mMO_readRow n0 Q cl 47 [some (.ref r0), some (.int v1), some (.int v2), some (.int v3), some (.int v4), some (.int v5), some (.int v6), none] [.int u1, .int u0] H uc us := by
  refine xs_iadd rfl ?_
  refine xs_istore rfl (L' := [some (.ref r0), some (.int v1), some (.int v2), some (.int v3), some (.int v4), some (.int (u0 + u1)), some (.int v6), none]) rfl rfl ?_
  refine xs_goto (k' := 70) rfl rfl ?_
  refine xs_aload_n rfl rfl ?_
  obtain ⟨a1, ⟨_, h1, h2⟩, h⟩ := h
  refine xs_getf rfl fl_12_115 h1 h2 ?_
  refine xs_if_ne (k' := 82) rfl rfl (fun hb => ?_) (fun hb => ?_)
  · have h := h.1 hb
    exact h
  · have h := h.2 hb
    refine xs_iload rfl rfl ?_
    refine xs_iload_n rfl rfl ?_
    refine xs_iload_n rfl rfl ?_
    refine xs_isub rfl ?_
    refine xs_icmp_le (k' := 82) rfl rfl (fun hb => ?_) (fun hb => ?_)
    · have h := h.1 hb
      exact h
    · have h := h.2 hb
      refine xs_aload_n rfl rfl ?_
      refine xs_bipushV (v := 7) rfl rfl ?_
      refine xs_iload_n rfl rfl ?_
      exact h

set_option maxRecDepth 20000 in
theorem b_MO_readRow_62 {l : Launch} {x : xX} {d mc ms n0 uc us : Nat} {Q : xO → xH → Prop} {cl : Bool} {r0 : Nat} {v1 : Int32} {v2 : Int32} {v3 : Int32} {v4 : Int32} {v5 : Int32} {v6 : Int32} {u0 : Int32} {u1 : Int32} {H : xH}
    (h : ∃ a1, gI H r0 12 5 a1 ∧ ((¬ a1 = 0 → xW l x d mc ms mMO_readRow n0 Q cl 82 [some (.ref r0), some (.int v1), some (.int v2), some (.int v3), some (.int v4), some (.int (u0 + u1)), some (.int v6), none] [] H uc us) ∧ (a1 = 0 → ((u0 + u1) ≤ (v1 - v2) → xW l x d mc ms mMO_readRow n0 Q cl 82 [some (.ref r0), some (.int v1), some (.int v2), some (.int v3), some (.int v4), some (.int (u0 + u1)), some (.int v6), none] [] H uc us) ∧ (¬ (u0 + u1) ≤ (v1 - v2) → xW l x d mc ms mMO_readRow n0 Q cl 81 [some (.ref r0), some (.int v1), some (.int v2), some (.int v3), some (.int v4), some (.int (u0 + u1)), some (.int v6), none] [.int v3, .int 7, .ref r0] H uc us)))) :
    xW l x d mc ms mMO_readRow n0 Q cl 62 [some (.ref r0), some (.int v1), some (.int v2), some (.int v3), some (.int v4), some (.int v5), some (.int v6), none] [.int u1, .int u0] H uc us := by
  refine xs_iadd rfl ?_
  refine xs_goto (k' := 69) rfl rfl ?_
  refine xs_istore rfl (L' := [some (.ref r0), some (.int v1), some (.int v2), some (.int v3), some (.int v4), some (.int (u0 + u1)), some (.int v6), none]) rfl rfl ?_
  refine xs_aload_n rfl rfl ?_
  obtain ⟨a1, ⟨_, h1, h2⟩, h⟩ := h
  refine xs_getf rfl fl_12_115 h1 h2 ?_
  refine xs_if_ne (k' := 82) rfl rfl (fun hb => ?_) (fun hb => ?_)
  · have h := h.1 hb
    exact h
  · have h := h.2 hb
    refine xs_iload rfl rfl ?_
    refine xs_iload_n rfl rfl ?_
    refine xs_iload_n rfl rfl ?_
    refine xs_isub rfl ?_
    refine xs_icmp_le (k' := 82) rfl rfl (fun hb => ?_) (fun hb => ?_)
    · have h := h.1 hb
      exact h
    · have h := h.2 hb
      refine xs_aload_n rfl rfl ?_
      refine xs_bipushV (v := 7) rfl rfl ?_
      refine xs_iload_n rfl rfl ?_
      exact h

set_option maxRecDepth 20000 in
theorem b_MO_readRow_68 {l : Launch} {x : xX} {d mc ms n0 uc us : Nat} {Q : xO → xH → Prop} {cl : Bool} {r0 : Nat} {v1 : Int32} {v2 : Int32} {v3 : Int32} {v4 : Int32} {v5 : Int32} {v6 : Int32} {u0 : Int32} {u1 : Int32} {H : xH}
    (h : ∃ a1, gI H r0 12 5 a1 ∧ ((¬ a1 = 0 → xW l x d mc ms mMO_readRow n0 Q cl 82 [some (.ref r0), some (.int v1), some (.int v2), some (.int v3), some (.int v4), some (.int (u0 + u1)), some (.int v6), none] [] H uc us) ∧ (a1 = 0 → ((u0 + u1) ≤ (v1 - v2) → xW l x d mc ms mMO_readRow n0 Q cl 82 [some (.ref r0), some (.int v1), some (.int v2), some (.int v3), some (.int v4), some (.int (u0 + u1)), some (.int v6), none] [] H uc us) ∧ (¬ (u0 + u1) ≤ (v1 - v2) → xW l x d mc ms mMO_readRow n0 Q cl 81 [some (.ref r0), some (.int v1), some (.int v2), some (.int v3), some (.int v4), some (.int (u0 + u1)), some (.int v6), none] [.int v3, .int 7, .ref r0] H uc us)))) :
    xW l x d mc ms mMO_readRow n0 Q cl 68 [some (.ref r0), some (.int v1), some (.int v2), some (.int v3), some (.int v4), some (.int v5), some (.int v6), none] [.int u1, .int u0] H uc us := by
  refine xs_iadd rfl ?_
  refine xs_istore rfl (L' := [some (.ref r0), some (.int v1), some (.int v2), some (.int v3), some (.int v4), some (.int (u0 + u1)), some (.int v6), none]) rfl rfl ?_
  refine xs_aload_n rfl rfl ?_
  obtain ⟨a1, ⟨_, h1, h2⟩, h⟩ := h
  refine xs_getf rfl fl_12_115 h1 h2 ?_
  refine xs_if_ne (k' := 82) rfl rfl (fun hb => ?_) (fun hb => ?_)
  · have h := h.1 hb
    exact h
  · have h := h.2 hb
    refine xs_iload rfl rfl ?_
    refine xs_iload_n rfl rfl ?_
    refine xs_iload_n rfl rfl ?_
    refine xs_isub rfl ?_
    refine xs_icmp_le (k' := 82) rfl rfl (fun hb => ?_) (fun hb => ?_)
    · have h := h.1 hb
      exact h
    · have h := h.2 hb
      refine xs_aload_n rfl rfl ?_
      refine xs_bipushV (v := 7) rfl rfl ?_
      refine xs_iload_n rfl rfl ?_
      exact h

set_option maxRecDepth 20000 in
theorem b_MO_readRow_82 {l : Launch} {x : xX} {d mc ms n0 uc us : Nat} {Q : xO → xH → Prop} {cl : Bool} {r0 : Nat} {v1 : Int32} {v2 : Int32} {v3 : Int32} {v4 : Int32} {v5 : Int32} {v6 : Int32} {H : xH}
    (h : xW l x d mc ms mMO_readRow n0 Q cl 84 [some (.ref r0), some (.int v1), some (.int v2), some (.int v3), some (.int v4), some (.int v5), some (.int v6), some (.int 0)] [] H uc us) :
    xW l x d mc ms mMO_readRow n0 Q cl 82 [some (.ref r0), some (.int v1), some (.int v2), some (.int v3), some (.int v4), some (.int v5), some (.int v6), none] [] H uc us := by
  refine xs_iconstV (v := 0) rfl rfl ?_
  refine xs_istore rfl (L' := [some (.ref r0), some (.int v1), some (.int v2), some (.int v3), some (.int v4), some (.int v5), some (.int v6), some (.int 0)]) rfl rfl ?_
  exact h

set_option maxRecDepth 20000 in
theorem b_MO_readRow_84 {l : Launch} {x : xX} {d mc ms n0 uc us : Nat} {Q : xO → xH → Prop} {cl : Bool} {r0 : Nat} {v1 : Int32} {v2 : Int32} {v3 : Int32} {v4 : Int32} {v5 : Int32} {v6 : Int32} {v7 : Int32} {H : xH}
    (h : (v5 ≤ v7 → xW l x d mc ms mMO_readRow n0 Q cl 2 [some (.ref r0), some (.int v1), some (.int v2), some (.int v3), some (.int v4), some (.int v5), some (.int v6), some (.int v7)] [] H uc us) ∧ (¬ v5 ≤ v7 → ∃ a1, gI H r0 12 5 a1 ∧ ((¬ a1 = 0 → xW l x d mc ms mMO_readRow n0 Q cl 2 [some (.ref r0), some (.int v1), some (.int v2), some (.int v3), some (.int v4), some (.int v5), some (.int v6), some (.int v7)] [] H uc us) ∧ (a1 = 0 → ∃ p2, gR H r0 12 18 p2 ∧ (∃ n3 f4, H[(p2 : Nat)]? = some (.inl (0, n3, .inl f4)) ∧ 2 ≤ p2 ∧ vp_in v2 n3 ∧ (∀ H5 : xH, H5 = H.set p2 (.inl (0, n3, .inl (upd f4 (v2.toNatClampNeg) (v6)))) → xW l x d mc ms mMO_readRow n0 Q false 84 [some (.ref r0), some (.int v1), some (.int (v2 + 1)), some (.int v3), some (.int v4), some (.int v5), some (.int v6), some (.int (v7 + 1))] [] H5 uc us)))))) :
    xW l x d mc ms mMO_readRow n0 Q cl 84 [some (.ref r0), some (.int v1), some (.int v2), some (.int v3), some (.int v4), some (.int v5), some (.int v6), some (.int v7)] [] H uc us := by
  refine xs_iload rfl rfl ?_
  refine xs_iload rfl rfl ?_
  refine xs_icmp_ge (k' := 98) rfl rfl (fun hb => ?_) (fun hb => ?_)
  · have h := h.1 hb
    refine xs_goto (k' := 2) rfl rfl ?_
    exact h
  · have h := h.2 hb
    refine xs_aload_n rfl rfl ?_
    obtain ⟨a1, ⟨_, h1, h2⟩, h⟩ := h
    refine xs_getf rfl fl_12_115 h1 h2 ?_
    refine xs_if_ne (k' := 98) rfl rfl (fun hb => ?_) (fun hb => ?_)
    · have h := h.1 hb
      refine xs_goto (k' := 2) rfl rfl ?_
      exact h
    · have h := h.2 hb
      refine xs_aload_n rfl rfl ?_
      obtain ⟨p2, ⟨_, h1, h2⟩, h⟩ := h
      refine xs_getf rfl fl_12_44 h1 h2 ?_
      refine xs_iload_n rfl rfl ?_
      refine xs_iload rfl rfl ?_
      obtain ⟨n3, f4, h1, h3, h2, h⟩ := h
      refine xs_iast rfl h1 h3 h2 ?_
      have h := h _ rfl
      generalize H.set p2 (.inl (0, n3, .inl (upd f4 (v2.toNatClampNeg) (v6)))) = H5 at h ⊢
      refine xs_iincV rfl (w := 1) rfl rfl (L' := [some (.ref r0), some (.int v1), some (.int (v2 + 1)), some (.int v3), some (.int v4), some (.int v5), some (.int v6), some (.int v7)]) rfl rfl ?_
      refine xs_iincV rfl (w := 1) rfl rfl (L' := [some (.ref r0), some (.int v1), some (.int (v2 + 1)), some (.int v3), some (.int v4), some (.int v5), some (.int v6), some (.int (v7 + 1))]) rfl rfl ?_
      refine xs_goto (k' := 84) rfl rfl ?_
      exact h

set_option maxRecDepth 20000 in
theorem b_MO_symbol_0 {l : Launch} {x : xX} {d mc ms n0 uc us : Nat} {Q : xO → xH → Prop} {cl : Bool} {r0 : Nat} {v1 : Int32} {v2 : Int32} {H : xH}
    (h : xW l x d mc ms mMO_symbol n0 Q cl 8 [some (.ref r0), some (.int v1), some (.int v2), some (.int 0), some (.int 0), some (.int 0), some (.int 1)] [] H uc us) :
    xW l x d mc ms mMO_symbol n0 Q cl 0 [some (.ref r0), some (.int v1), some (.int v2), none, none, none, none] [] H uc us := by
  refine xs_iconstV (v := 0) rfl rfl ?_
  refine xs_istore_n rfl (L' := [some (.ref r0), some (.int v1), some (.int v2), some (.int 0), none, none, none]) rfl rfl ?_
  refine xs_iconstV (v := 0) rfl rfl ?_
  refine xs_istore rfl (L' := [some (.ref r0), some (.int v1), some (.int v2), some (.int 0), some (.int 0), none, none]) rfl rfl ?_
  refine xs_iconstV (v := 0) rfl rfl ?_
  refine xs_istore rfl (L' := [some (.ref r0), some (.int v1), some (.int v2), some (.int 0), some (.int 0), some (.int 0), none]) rfl rfl ?_
  refine xs_iconstV (v := 1) rfl rfl ?_
  refine xs_istore rfl (L' := [some (.ref r0), some (.int v1), some (.int v2), some (.int 0), some (.int 0), some (.int 0), some (.int 1)]) rfl rfl ?_
  exact h

set_option maxRecDepth 20000 in
theorem b_MO_symbol_8 {l : Launch} {x : xX} {d mc ms n0 uc us : Nat} {Q : xO → xH → Prop} {cl : Bool} {r0 : Nat} {v1 : Int32} {v2 : Int32} {v3 : Int32} {v4 : Int32} {v5 : Int32} {v6 : Int32} {H : xH}
    (h : (16 ≤ v6 → uc = mc ∧ us ≤ ms ∧ Q (.inl (some (.int 0))) H) ∧ (¬ 16 ≤ v6 → ∃ a1, gI H r0 12 5 a1 ∧ ((¬ a1 = 0 → uc = mc ∧ us ≤ ms ∧ Q (.inl (some (.int 0))) H) ∧ (a1 = 0 → xW l x d mc ms mMO_symbol n0 Q cl 18 [some (.ref r0), some (.int v1), some (.int v2), some (.int v3), some (.int v4), some (.int v5), some (.int v6)] [.ref r0, .int ((2 : Int32) * v3)] H uc us)))) :
    xW l x d mc ms mMO_symbol n0 Q cl 8 [some (.ref r0), some (.int v1), some (.int v2), some (.int v3), some (.int v4), some (.int v5), some (.int v6)] [] H uc us := by
  refine xs_iload rfl rfl ?_
  refine xs_bipushV (v := 16) rfl rfl ?_
  refine xs_icmp_ge (k' := 71) rfl rfl (fun hb => ?_) (fun hb => ?_)
  · have h := h.1 hb
    refine xs_iconstV (v := 0) rfl rfl ?_
    exact xs_iret rfl rfl h.1 h.2.1 h.2.2
  · have h := h.2 hb
    refine xs_aload_n rfl rfl ?_
    obtain ⟨a1, ⟨_, h1, h2⟩, h⟩ := h
    refine xs_getf rfl fl_12_115 h1 h2 ?_
    refine xs_if_ne (k' := 71) rfl rfl (fun hb => ?_) (fun hb => ?_)
    · have h := h.1 hb
      refine xs_iconstV (v := 0) rfl rfl ?_
      exact xs_iret rfl rfl h.1 h.2.1 h.2.2
    · have h := h.2 hb
      refine xs_iconstV (v := 2) rfl rfl ?_
      refine xs_iload_n rfl rfl ?_
      refine xs_imul rfl ?_
      refine xs_aload_n rfl rfl ?_
      exact h

set_option maxRecDepth 20000 in
theorem b_MO_symbol_19 {l : Launch} {x : xX} {d mc ms n0 uc us : Nat} {Q : xO → xH → Prop} {cl : Bool} {r0 : Nat} {v1 : Int32} {v2 : Int32} {v3 : Int32} {v4 : Int32} {v5 : Int32} {v6 : Int32} {u0 : Int32} {u1 : Int32} {H : xH}
    (h : ∃ p1, gR H r0 12 15 p1 ∧ (∃ n2 f3, H[(p1 : Nat)]? = some (.inl (0, n2, .inl f3)) ∧ vp_in (v2 + v6) n2 ∧ (((f3 (v2 + v6).toNatClampNeg) ≤ ((u0 + u1) - ((2 : Int32) * v4)) → ∃ p4, gR H r0 12 15 p4 ∧ (∃ n5 f6, H[(p4 : Nat)]? = some (.inl (0, n5, .inl f6)) ∧ vp_in (v2 + v6) n5 ∧ (∃ p7, gR H r0 12 15 p7 ∧ (∃ n8 f9, H[(p7 : Nat)]? = some (.inl (0, n8, .inl f9)) ∧ vp_in (v2 + v6) n8 ∧ (xW l x d mc ms mMO_symbol n0 Q cl 8 [some (.ref r0), some (.int v1), some (.int v2), some (.int (u0 + u1)), some (.int (((2 : Int32) * v4) + (f9 (v2 + v6).toNatClampNeg))), some (.int (v5 + (f6 (v2 + v6).toNatClampNeg))), some (.int (v6 + 1))] [] H uc us))))) ∧ (¬ (f3 (v2 + v6).toNatClampNeg) ≤ ((u0 + u1) - ((2 : Int32) * v4)) → ∃ a10, gI H r0 12 5 a10 ∧ ((a10 ≤ 0 → ∃ p11, gR H r0 12 16 p11 ∧ (∃ n12 f13, H[(p11 : Nat)]? = some (.inl (0, n12, .inl f13)) ∧ vp_in (((v1 + v5) + (u0 + u1)) - ((2 : Int32) * v4)) n12 ∧ (uc = mc ∧ us ≤ ms ∧ Q (.inl (some (.int (f13 (((v1 + v5) + (u0 + u1)) - ((2 : Int32) * v4)).toNatClampNeg)))) H))) ∧ (¬ a10 ≤ 0 → uc = mc ∧ us ≤ ms ∧ Q (.inl (some (.int 0))) H)))))) :
    xW l x d mc ms mMO_symbol n0 Q cl 19 [some (.ref r0), some (.int v1), some (.int v2), some (.int v3), some (.int v4), some (.int v5), some (.int v6)] [.int u1, .int u0] H uc us := by
  refine xs_iadd rfl ?_
  refine xs_istore_n rfl (L' := [some (.ref r0), some (.int v1), some (.int v2), some (.int (u0 + u1)), some (.int v4), some (.int v5), some (.int v6)]) rfl rfl ?_
  refine xs_iconstV (v := 2) rfl rfl ?_
  refine xs_iload rfl rfl ?_
  refine xs_imul rfl ?_
  refine xs_istore rfl (L' := [some (.ref r0), some (.int v1), some (.int v2), some (.int (u0 + u1)), some (.int ((2 : Int32) * v4)), some (.int v5), some (.int v6)]) rfl rfl ?_
  refine xs_iload_n rfl rfl ?_
  refine xs_iload rfl rfl ?_
  refine xs_isub rfl ?_
  refine xs_aload_n rfl rfl ?_
  obtain ⟨p1, ⟨_, h1, h2⟩, h⟩ := h
  refine xs_getf rfl fl_12_35 h1 h2 ?_
  refine xs_iload_n rfl rfl ?_
  refine xs_iload rfl rfl ?_
  refine xs_iadd rfl ?_
  obtain ⟨n2, f3, h1, h2, h⟩ := h
  refine xs_iald rfl h1 h2 ?_
  refine xs_icmp_ge (k' := 51) rfl rfl (fun hb => ?_) (fun hb => ?_)
  · have h := h.1 hb
    refine xs_iload rfl rfl ?_
    refine xs_aload_n rfl rfl ?_
    obtain ⟨p4, ⟨_, h1, h2⟩, h⟩ := h
    refine xs_getf rfl fl_12_35 h1 h2 ?_
    refine xs_iload_n rfl rfl ?_
    refine xs_iload rfl rfl ?_
    refine xs_iadd rfl ?_
    obtain ⟨n5, f6, h1, h2, h⟩ := h
    refine xs_iald rfl h1 h2 ?_
    refine xs_iadd rfl ?_
    refine xs_istore rfl (L' := [some (.ref r0), some (.int v1), some (.int v2), some (.int (u0 + u1)), some (.int ((2 : Int32) * v4)), some (.int (v5 + (f6 (v2 + v6).toNatClampNeg))), some (.int v6)]) rfl rfl ?_
    refine xs_iload rfl rfl ?_
    refine xs_aload_n rfl rfl ?_
    obtain ⟨p7, ⟨_, h1, h2⟩, h⟩ := h
    refine xs_getf rfl fl_12_35 h1 h2 ?_
    refine xs_iload_n rfl rfl ?_
    refine xs_iload rfl rfl ?_
    refine xs_iadd rfl ?_
    obtain ⟨n8, f9, h1, h2, h⟩ := h
    refine xs_iald rfl h1 h2 ?_
    refine xs_iadd rfl ?_
    refine xs_istore rfl (L' := [some (.ref r0), some (.int v1), some (.int v2), some (.int (u0 + u1)), some (.int (((2 : Int32) * v4) + (f9 (v2 + v6).toNatClampNeg))), some (.int (v5 + (f6 (v2 + v6).toNatClampNeg))), some (.int v6)]) rfl rfl ?_
    refine xs_iincV rfl (w := 1) rfl rfl (L' := [some (.ref r0), some (.int v1), some (.int v2), some (.int (u0 + u1)), some (.int (((2 : Int32) * v4) + (f9 (v2 + v6).toNatClampNeg))), some (.int (v5 + (f6 (v2 + v6).toNatClampNeg))), some (.int (v6 + 1))]) rfl rfl ?_
    refine xs_goto (k' := 8) rfl rfl ?_
    exact h
  · have h := h.2 hb
    refine xs_aload_n rfl rfl ?_
    obtain ⟨a10, ⟨_, h1, h2⟩, h⟩ := h
    refine xs_getf rfl fl_12_115 h1 h2 ?_
    refine xs_if_le (k' := 40) rfl rfl (fun hb => ?_) (fun hb => ?_)
    · have h := h.1 hb
      refine xs_aload_n rfl rfl ?_
      obtain ⟨p11, ⟨_, h1, h2⟩, h⟩ := h
      refine xs_getf rfl fl_12_38 h1 h2 ?_
      refine xs_iload_n rfl rfl ?_
      refine xs_iload rfl rfl ?_
      refine xs_iadd rfl ?_
      refine xs_iload_n rfl rfl ?_
      refine xs_iadd rfl ?_
      refine xs_iload rfl rfl ?_
      refine xs_isub rfl ?_
      obtain ⟨n12, f13, h1, h2, h⟩ := h
      refine xs_iald rfl h1 h2 ?_
      exact xs_iret rfl rfl h.1 h.2.1 h.2.2
    · have h := h.2 hb
      refine xs_iconstV (v := 0) rfl rfl ?_
      refine xs_goto (k' := 50) rfl rfl ?_
      exact xs_iret rfl rfl h.1 h.2.1 h.2.2

set_option maxRecDepth 20000 in
theorem b_MO_readSymbols_0 {l : Launch} {x : xX} {d mc ms n0 uc us : Nat} {Q : xO → xH → Prop} {cl : Bool} {r0 : Nat} {v1 : Int32} {H : xH}
    (h : xW l x d mc ms mMO_readSymbols n0 Q cl 2 [some (.ref r0), some (.int v1), some (.int 1), none, none, none, none, none] [] H uc us) :
    xW l x d mc ms mMO_readSymbols n0 Q cl 0 [some (.ref r0), some (.int v1), none, none, none, none, none, none] [] H uc us := by
  refine xs_iconstV (v := 1) rfl rfl ?_
  refine xs_istore_n rfl (L' := [some (.ref r0), some (.int v1), some (.int 1), none, none, none, none, none]) rfl rfl ?_
  exact h

set_option maxRecDepth 20000 in
theorem b_MO_readSymbols_2 {l : Launch} {x : xX} {d mc ms n0 uc us : Nat} {Q : xO → xH → Prop} {cl : Bool} {r0 : Nat} {v1 : Int32} {v2 : Int32} {H : xH}
    (h : (v2 = 0 → uc = mc ∧ us ≤ ms ∧ Q (.inl none) H) ∧ (¬ v2 = 0 → ∃ a1, gI H r0 12 5 a1 ∧ ((¬ a1 = 0 → uc = mc ∧ us ≤ ms ∧ Q (.inl none) H) ∧ (a1 = 0 → ∃ a2, gI H r0 12 13 a2 ∧ (xW l x d mc ms mMO_readSymbols n0 Q cl 13 [some (.ref r0), some (.int v1), some (.int v2), some (.int a2), none, none, none, none] [.int 0, .int 0, .ref r0] H uc us))))) :
    xW l x d mc ms mMO_readSymbols n0 Q cl 2 [some (.ref r0), some (.int v1), some (.int v2), none, none, none, none, none] [] H uc us := by
  refine xs_iload_n rfl rfl ?_
  refine xs_if_eq (k' := 121) rfl rfl (fun hb => ?_) (fun hb => ?_)
  · have h := h.1 hb
    exact xs_vret rfl rfl h.1 h.2.1 h.2.2
  · have h := h.2 hb
    refine xs_aload_n rfl rfl ?_
    obtain ⟨a1, ⟨_, h1, h2⟩, h⟩ := h
    refine xs_getf rfl fl_12_115 h1 h2 ?_
    refine xs_if_ne (k' := 121) rfl rfl (fun hb => ?_) (fun hb => ?_)
    · have h := h.1 hb
      exact xs_vret rfl rfl h.1 h.2.1 h.2.2
    · have h := h.2 hb
      refine xs_aload_n rfl rfl ?_
      obtain ⟨a2, ⟨_, h1, h2⟩, h⟩ := h
      refine xs_getf rfl fl_12_118 h1 h2 ?_
      refine xs_istore_n rfl (L' := [some (.ref r0), some (.int v1), some (.int v2), some (.int a2), none, none, none, none]) rfl rfl ?_
      refine xs_aload_n rfl rfl ?_
      refine xs_iconstV (v := 0) rfl rfl ?_
      refine xs_iconstV (v := 0) rfl rfl ?_
      exact h

set_option maxRecDepth 20000 in
theorem b_MO_readSymbols_14 {l : Launch} {x : xX} {d mc ms n0 uc us : Nat} {Q : xO → xH → Prop} {cl : Bool} {r0 : Nat} {v1 : Int32} {v2 : Int32} {v3 : Int32} {u0 : Int32} {H : xH}
    (h : ∃ a1, gI H r0 12 5 a1 ∧ ((¬ a1 = 0 → xW l x d mc ms mMO_readSymbols n0 Q cl 25 [some (.ref r0), some (.int v1), some (.int v2), some (.int v3), some (.int u0), none, none, none] [] H uc us) ∧ (a1 = 0 → (u0 ≤ 285 → xW l x d mc ms mMO_readSymbols n0 Q cl 25 [some (.ref r0), some (.int v1), some (.int v2), some (.int v3), some (.int u0), none, none, none] [] H uc us) ∧ (¬ u0 ≤ 285 → xW l x d mc ms mMO_readSymbols n0 Q cl 24 [some (.ref r0), some (.int v1), some (.int v2), some (.int v3), some (.int u0), none, none, none] [.int v3, .int 8, .ref r0] H uc us)))) :
    xW l x d mc ms mMO_readSymbols n0 Q cl 14 [some (.ref r0), some (.int v1), some (.int v2), some (.int v3), none, none, none, none] [.int u0] H uc us := by
  refine xs_istore rfl (L' := [some (.ref r0), some (.int v1), some (.int v2), some (.int v3), some (.int u0), none, none, none]) rfl rfl ?_
  refine xs_aload_n rfl rfl ?_
  obtain ⟨a1, ⟨_, h1, h2⟩, h⟩ := h
  refine xs_getf rfl fl_12_115 h1 h2 ?_
  refine xs_if_ne (k' := 25) rfl rfl (fun hb => ?_) (fun hb => ?_)
  · have h := h.1 hb
    exact h
  · have h := h.2 hb
    refine xs_iload rfl rfl ?_
    refine xs_sipushV (v := 285) rfl rfl ?_
    refine xs_icmp_le (k' := 25) rfl rfl (fun hb => ?_) (fun hb => ?_)
    · have h := h.1 hb
      exact h
    · have h := h.2 hb
      refine xs_aload_n rfl rfl ?_
      refine xs_bipushV (v := 8) rfl rfl ?_
      refine xs_iload_n rfl rfl ?_
      exact h

set_option maxRecDepth 20000 in
theorem b_MO_readSymbols_25 {l : Launch} {x : xX} {d mc ms n0 uc us : Nat} {Q : xO → xH → Prop} {cl : Bool} {r0 : Nat} {v1 : Int32} {v2 : Int32} {v3 : Int32} {v4 : Int32} {H : xH}
    (h : (v4 = 256 → ((0 : Int32) = 0 → ((0 : Int32) = 0 → xW l x d mc ms mMO_readSymbols n0 Q cl 2 [some (.ref r0), some (.int v1), some (.int 0), some (.int v3), some (.int v4), none, none, none] [] H uc us) ∧ (¬ (0 : Int32) = 0 → xW l x d mc ms mMO_readSymbols n0 Q cl 58 [some (.ref r0), some (.int v1), some (.int 0), some (.int v3), some (.int v4), none, none, none] [.int (v4 - 257)] H uc us)) ∧ (¬ (0 : Int32) = 0 → (256 ≤ v4 → ((0 : Int32) = 0 → xW l x d mc ms mMO_readSymbols n0 Q cl 2 [some (.ref r0), some (.int v1), some (.int 0), some (.int v3), some (.int v4), none, none, none] [] H uc us) ∧ (¬ (0 : Int32) = 0 → xW l x d mc ms mMO_readSymbols n0 Q cl 58 [some (.ref r0), some (.int v1), some (.int 0), some (.int v3), some (.int v4), none, none, none] [.int (v4 - 257)] H uc us)) ∧ (¬ 256 ≤ v4 → ∃ a1, gI H r0 12 4 a1 ∧ ((¬ a1 = 65536 → xW l x d mc ms mMO_readSymbols n0 Q cl 51 [some (.ref r0), some (.int v1), some (.int 0), some (.int v3), some (.int v4), none, none, none] [.int v4, .ref r0] H uc us) ∧ (a1 = 65536 → xW l x d mc ms mMO_readSymbols n0 Q cl 47 [some (.ref r0), some (.int v1), some (.int 0), some (.int v3), some (.int v4), none, none, none] [.int v3, .int 10, .ref r0] H uc us))))) ∧ (¬ v4 = 256 → ∃ a2, gI H r0 12 5 a2 ∧ ((¬ a2 = 0 → ((0 : Int32) = 0 → ((0 : Int32) = 0 → xW l x d mc ms mMO_readSymbols n0 Q cl 2 [some (.ref r0), some (.int v1), some (.int 0), some (.int v3), some (.int v4), none, none, none] [] H uc us) ∧ (¬ (0 : Int32) = 0 → xW l x d mc ms mMO_readSymbols n0 Q cl 58 [some (.ref r0), some (.int v1), some (.int 0), some (.int v3), some (.int v4), none, none, none] [.int (v4 - 257)] H uc us)) ∧ (¬ (0 : Int32) = 0 → (256 ≤ v4 → ((0 : Int32) = 0 → xW l x d mc ms mMO_readSymbols n0 Q cl 2 [some (.ref r0), some (.int v1), some (.int 0), some (.int v3), some (.int v4), none, none, none] [] H uc us) ∧ (¬ (0 : Int32) = 0 → xW l x d mc ms mMO_readSymbols n0 Q cl 58 [some (.ref r0), some (.int v1), some (.int 0), some (.int v3), some (.int v4), none, none, none] [.int (v4 - 257)] H uc us)) ∧ (¬ 256 ≤ v4 → ∃ a3, gI H r0 12 4 a3 ∧ ((¬ a3 = 65536 → xW l x d mc ms mMO_readSymbols n0 Q cl 51 [some (.ref r0), some (.int v1), some (.int 0), some (.int v3), some (.int v4), none, none, none] [.int v4, .ref r0] H uc us) ∧ (a3 = 65536 → xW l x d mc ms mMO_readSymbols n0 Q cl 47 [some (.ref r0), some (.int v1), some (.int 0), some (.int v3), some (.int v4), none, none, none] [.int v3, .int 10, .ref r0] H uc us))))) ∧ (a2 = 0 → ((1 : Int32) = 0 → ((1 : Int32) = 0 → xW l x d mc ms mMO_readSymbols n0 Q cl 2 [some (.ref r0), some (.int v1), some (.int 1), some (.int v3), some (.int v4), none, none, none] [] H uc us) ∧ (¬ (1 : Int32) = 0 → xW l x d mc ms mMO_readSymbols n0 Q cl 58 [some (.ref r0), some (.int v1), some (.int 1), some (.int v3), some (.int v4), none, none, none] [.int (v4 - 257)] H uc us)) ∧ (¬ (1 : Int32) = 0 → (256 ≤ v4 → ((1 : Int32) = 0 → xW l x d mc ms mMO_readSymbols n0 Q cl 2 [some (.ref r0), some (.int v1), some (.int 1), some (.int v3), some (.int v4), none, none, none] [] H uc us) ∧ (¬ (1 : Int32) = 0 → xW l x d mc ms mMO_readSymbols n0 Q cl 58 [some (.ref r0), some (.int v1), some (.int 1), some (.int v3), some (.int v4), none, none, none] [.int (v4 - 257)] H uc us)) ∧ (¬ 256 ≤ v4 → ∃ a4, gI H r0 12 4 a4 ∧ ((¬ a4 = 65536 → xW l x d mc ms mMO_readSymbols n0 Q cl 51 [some (.ref r0), some (.int v1), some (.int 1), some (.int v3), some (.int v4), none, none, none] [.int v4, .ref r0] H uc us) ∧ (a4 = 65536 → xW l x d mc ms mMO_readSymbols n0 Q cl 47 [some (.ref r0), some (.int v1), some (.int 1), some (.int v3), some (.int v4), none, none, none] [.int v3, .int 10, .ref r0] H uc us)))))))) :
    xW l x d mc ms mMO_readSymbols n0 Q cl 25 [some (.ref r0), some (.int v1), some (.int v2), some (.int v3), some (.int v4), none, none, none] [] H uc us := by
  refine xs_iload rfl rfl ?_
  refine xs_sipushV (v := 256) rfl rfl ?_
  refine xs_icmp_eq (k' := 33) rfl rfl (fun hb => ?_) (fun hb => ?_)
  · have h := h.1 hb
    refine xs_iconstV (v := 0) rfl rfl ?_
    refine xs_istore_n rfl (L' := [some (.ref r0), some (.int v1), some (.int 0), some (.int v3), some (.int v4), none, none, none]) rfl rfl ?_
    refine xs_iload_n rfl rfl ?_
    refine xs_if_eq (k' := 53) rfl rfl (fun hb => ?_) (fun hb => ?_)
    · have h := h.1 hb
      refine xs_iload_n rfl rfl ?_
      refine xs_if_eq (k' := 120) rfl rfl (fun hb => ?_) (fun hb => ?_)
      · have h := h.1 hb
        refine xs_goto (k' := 2) rfl rfl ?_
        exact h
      · have h := h.2 hb
        refine xs_iload rfl rfl ?_
        refine xs_sipushV (v := 257) rfl rfl ?_
        refine xs_isub rfl ?_
        exact h
    · have h := h.2 hb
      refine xs_iload rfl rfl ?_
      refine xs_sipushV (v := 256) rfl rfl ?_
      refine xs_icmp_ge (k' := 53) rfl rfl (fun hb => ?_) (fun hb => ?_)
      · have h := h.1 hb
        refine xs_iload_n rfl rfl ?_
        refine xs_if_eq (k' := 120) rfl rfl (fun hb => ?_) (fun hb => ?_)
        · have h := h.1 hb
          refine xs_goto (k' := 2) rfl rfl ?_
          exact h
        · have h := h.2 hb
          refine xs_iload rfl rfl ?_
          refine xs_sipushV (v := 257) rfl rfl ?_
          refine xs_isub rfl ?_
          exact h
      · have h := h.2 hb
        refine xs_aload_n rfl rfl ?_
        obtain ⟨a1, ⟨_, h1, h2⟩, h⟩ := h
        refine xs_getf rfl fl_12_146 h1 h2 ?_
        refine xs_ldc rfl kc_12_14 ?_
        refine xs_icmp_ne (k' := 49) rfl rfl (fun hb => ?_) (fun hb => ?_)
        · have h := h.1 hb
          refine xs_aload_n rfl rfl ?_
          refine xs_iload rfl rfl ?_
          exact h
        · have h := h.2 hb
          refine xs_aload_n rfl rfl ?_
          refine xs_bipushV (v := 10) rfl rfl ?_
          refine xs_iload_n rfl rfl ?_
          exact h
  · have h := h.2 hb
    refine xs_aload_n rfl rfl ?_
    obtain ⟨a2, ⟨_, h1, h2⟩, h⟩ := h
    refine xs_getf rfl fl_12_115 h1 h2 ?_
    refine xs_if_ne (k' := 33) rfl rfl (fun hb => ?_) (fun hb => ?_)
    · have h := h.1 hb
      refine xs_iconstV (v := 0) rfl rfl ?_
      refine xs_istore_n rfl (L' := [some (.ref r0), some (.int v1), some (.int 0), some (.int v3), some (.int v4), none, none, none]) rfl rfl ?_
      refine xs_iload_n rfl rfl ?_
      refine xs_if_eq (k' := 53) rfl rfl (fun hb => ?_) (fun hb => ?_)
      · have h := h.1 hb
        refine xs_iload_n rfl rfl ?_
        refine xs_if_eq (k' := 120) rfl rfl (fun hb => ?_) (fun hb => ?_)
        · have h := h.1 hb
          refine xs_goto (k' := 2) rfl rfl ?_
          exact h
        · have h := h.2 hb
          refine xs_iload rfl rfl ?_
          refine xs_sipushV (v := 257) rfl rfl ?_
          refine xs_isub rfl ?_
          exact h
      · have h := h.2 hb
        refine xs_iload rfl rfl ?_
        refine xs_sipushV (v := 256) rfl rfl ?_
        refine xs_icmp_ge (k' := 53) rfl rfl (fun hb => ?_) (fun hb => ?_)
        · have h := h.1 hb
          refine xs_iload_n rfl rfl ?_
          refine xs_if_eq (k' := 120) rfl rfl (fun hb => ?_) (fun hb => ?_)
          · have h := h.1 hb
            refine xs_goto (k' := 2) rfl rfl ?_
            exact h
          · have h := h.2 hb
            refine xs_iload rfl rfl ?_
            refine xs_sipushV (v := 257) rfl rfl ?_
            refine xs_isub rfl ?_
            exact h
        · have h := h.2 hb
          refine xs_aload_n rfl rfl ?_
          obtain ⟨a3, ⟨_, h1, h2⟩, h⟩ := h
          refine xs_getf rfl fl_12_146 h1 h2 ?_
          refine xs_ldc rfl kc_12_14 ?_
          refine xs_icmp_ne (k' := 49) rfl rfl (fun hb => ?_) (fun hb => ?_)
          · have h := h.1 hb
            refine xs_aload_n rfl rfl ?_
            refine xs_iload rfl rfl ?_
            exact h
          · have h := h.2 hb
            refine xs_aload_n rfl rfl ?_
            refine xs_bipushV (v := 10) rfl rfl ?_
            refine xs_iload_n rfl rfl ?_
            exact h
    · have h := h.2 hb
      refine xs_iconstV (v := 1) rfl rfl ?_
      refine xs_goto (k' := 34) rfl rfl ?_
      refine xs_istore_n rfl (L' := [some (.ref r0), some (.int v1), some (.int 1), some (.int v3), some (.int v4), none, none, none]) rfl rfl ?_
      refine xs_iload_n rfl rfl ?_
      refine xs_if_eq (k' := 53) rfl rfl (fun hb => ?_) (fun hb => ?_)
      · have h := h.1 hb
        refine xs_iload_n rfl rfl ?_
        refine xs_if_eq (k' := 120) rfl rfl (fun hb => ?_) (fun hb => ?_)
        · have h := h.1 hb
          refine xs_goto (k' := 2) rfl rfl ?_
          exact h
        · have h := h.2 hb
          refine xs_iload rfl rfl ?_
          refine xs_sipushV (v := 257) rfl rfl ?_
          refine xs_isub rfl ?_
          exact h
      · have h := h.2 hb
        refine xs_iload rfl rfl ?_
        refine xs_sipushV (v := 256) rfl rfl ?_
        refine xs_icmp_ge (k' := 53) rfl rfl (fun hb => ?_) (fun hb => ?_)
        · have h := h.1 hb
          refine xs_iload_n rfl rfl ?_
          refine xs_if_eq (k' := 120) rfl rfl (fun hb => ?_) (fun hb => ?_)
          · have h := h.1 hb
            refine xs_goto (k' := 2) rfl rfl ?_
            exact h
          · have h := h.2 hb
            refine xs_iload rfl rfl ?_
            refine xs_sipushV (v := 257) rfl rfl ?_
            refine xs_isub rfl ?_
            exact h
        · have h := h.2 hb
          refine xs_aload_n rfl rfl ?_
          obtain ⟨a4, ⟨_, h1, h2⟩, h⟩ := h
          refine xs_getf rfl fl_12_146 h1 h2 ?_
          refine xs_ldc rfl kc_12_14 ?_
          refine xs_icmp_ne (k' := 49) rfl rfl (fun hb => ?_) (fun hb => ?_)
          · have h := h.1 hb
            refine xs_aload_n rfl rfl ?_
            refine xs_iload rfl rfl ?_
            exact h
          · have h := h.2 hb
            refine xs_aload_n rfl rfl ?_
            refine xs_bipushV (v := 10) rfl rfl ?_
            refine xs_iload_n rfl rfl ?_
            exact h

set_option maxRecDepth 20000 in
theorem b_MO_readSymbols_48 {l : Launch} {x : xX} {d mc ms n0 uc us : Nat} {Q : xO → xH → Prop} {cl : Bool} {r0 : Nat} {v1 : Int32} {v2 : Int32} {v3 : Int32} {v4 : Int32} {H : xH}
    (h : xW l x d mc ms mMO_readSymbols n0 Q cl 2 [some (.ref r0), some (.int v1), some (.int v2), some (.int v3), some (.int v4), none, none, none] [] H uc us) :
    xW l x d mc ms mMO_readSymbols n0 Q cl 48 [some (.ref r0), some (.int v1), some (.int v2), some (.int v3), some (.int v4), none, none, none] [] H uc us := by
  refine xs_goto (k' := 120) rfl rfl ?_
  refine xs_goto (k' := 2) rfl rfl ?_
  exact h

set_option maxRecDepth 20000 in
theorem b_MO_readSymbols_52 {l : Launch} {x : xX} {d mc ms n0 uc us : Nat} {Q : xO → xH → Prop} {cl : Bool} {r0 : Nat} {v1 : Int32} {v2 : Int32} {v3 : Int32} {v4 : Int32} {H : xH}
    (h : xW l x d mc ms mMO_readSymbols n0 Q cl 2 [some (.ref r0), some (.int v1), some (.int v2), some (.int v3), some (.int v4), none, none, none] [] H uc us) :
    xW l x d mc ms mMO_readSymbols n0 Q cl 52 [some (.ref r0), some (.int v1), some (.int v2), some (.int v3), some (.int v4), none, none, none] [] H uc us := by
  refine xs_goto (k' := 120) rfl rfl ?_
  refine xs_goto (k' := 2) rfl rfl ?_
  exact h

set_option maxRecDepth 20000 in
theorem b_MO_readSymbols_59 {l : Launch} {x : xX} {d mc ms n0 uc us : Nat} {Q : xO → xH → Prop} {cl : Bool} {r0 : Nat} {v1 : Int32} {v2 : Int32} {v3 : Int32} {v4 : Int32} {u0 : Int32} {H : xH}
    (h : xW l x d mc ms mMO_readSymbols n0 Q cl 63 [some (.ref r0), some (.int v1), some (.int v2), some (.int v3), some (.int v4), none, none, none] [.int (v4 - 257), .ref r0, .int u0] H uc us) :
    xW l x d mc ms mMO_readSymbols n0 Q cl 59 [some (.ref r0), some (.int v1), some (.int v2), some (.int v3), some (.int v4), none, none, none] [.int u0] H uc us := by
  refine xs_aload_n rfl rfl ?_
  refine xs_iload rfl rfl ?_
  refine xs_sipushV (v := 257) rfl rfl ?_
  refine xs_isub rfl ?_
  exact h

-- b_MO_readSymbols_64: .invokevirtual 133
set_option maxRecDepth 20000 in
theorem b_MO_readSymbols_65 {l : Launch} {x : xX} {d mc ms n0 uc us : Nat} {Q : xO → xH → Prop} {cl : Bool} {r0 : Nat} {v1 : Int32} {v2 : Int32} {v3 : Int32} {v4 : Int32} {u0 : Int32} {u1 : Int32} {H : xH}
    (h : ∃ a1, gI H r0 12 5 a1 ∧ ((a1 ≤ 0 → xW l x d mc ms mMO_readSymbols n0 Q cl 74 [some (.ref r0), some (.int v1), some (.int v2), some (.int v3), some (.int v4), some (.int (u0 + u1)), none, none] [.int v1, .ref r0] H uc us) ∧ (¬ a1 ≤ 0 → xW l x d mc ms mMO_readSymbols n0 Q cl 75 [some (.ref r0), some (.int v1), some (.int v2), some (.int v3), some (.int v4), some (.int (u0 + u1)), none, none] [.int 0] H uc us))) :
    xW l x d mc ms mMO_readSymbols n0 Q cl 65 [some (.ref r0), some (.int v1), some (.int v2), some (.int v3), some (.int v4), none, none, none] [.int u1, .int u0] H uc us := by
  refine xs_iadd rfl ?_
  refine xs_istore rfl (L' := [some (.ref r0), some (.int v1), some (.int v2), some (.int v3), some (.int v4), some (.int (u0 + u1)), none, none]) rfl rfl ?_
  refine xs_aload_n rfl rfl ?_
  obtain ⟨a1, ⟨_, h1, h2⟩, h⟩ := h
  refine xs_getf rfl fl_12_115 h1 h2 ?_
  refine xs_if_le (k' := 72) rfl rfl (fun hb => ?_) (fun hb => ?_)
  · have h := h.1 hb
    refine xs_aload_n rfl rfl ?_
    refine xs_iload_n rfl rfl ?_
    exact h
  · have h := h.2 hb
    refine xs_iconstV (v := 0) rfl rfl ?_
    refine xs_goto (k' := 75) rfl rfl ?_
    exact h

set_option maxRecDepth 20000 in
theorem b_MO_readSymbols_75 {l : Launch} {x : xX} {d mc ms n0 uc us : Nat} {Q : xO → xH → Prop} {cl : Bool} {r0 : Nat} {v1 : Int32} {v2 : Int32} {v3 : Int32} {v4 : Int32} {v5 : Int32} {u0 : Int32} {H : xH}
    (h : ∃ a1, gI H r0 12 5 a1 ∧ ((¬ a1 = 0 → xW l x d mc ms mMO_readSymbols n0 Q cl 89 [some (.ref r0), some (.int v1), some (.int v2), some (.int v3), some (.int v4), some (.int v5), some (.int u0), none] [] H uc us) ∧ (a1 = 0 → ∃ a2, gI H r0 12 4 a2 ∧ ((v5 ≤ ((65536 : Int32) - a2) → xW l x d mc ms mMO_readSymbols n0 Q cl 89 [some (.ref r0), some (.int v1), some (.int v2), some (.int v3), some (.int v4), some (.int v5), some (.int u0), none] [] H uc us) ∧ (¬ v5 ≤ ((65536 : Int32) - a2) → xW l x d mc ms mMO_readSymbols n0 Q cl 88 [some (.ref r0), some (.int v1), some (.int v2), some (.int v3), some (.int v4), some (.int v5), some (.int u0), none] [.int v3, .int 10, .ref r0] H uc us))))) :
    xW l x d mc ms mMO_readSymbols n0 Q cl 75 [some (.ref r0), some (.int v1), some (.int v2), some (.int v3), some (.int v4), some (.int v5), none, none] [.int u0] H uc us := by
  refine xs_istore rfl (L' := [some (.ref r0), some (.int v1), some (.int v2), some (.int v3), some (.int v4), some (.int v5), some (.int u0), none]) rfl rfl ?_
  refine xs_aload_n rfl rfl ?_
  obtain ⟨a1, ⟨_, h1, h2⟩, h⟩ := h
  refine xs_getf rfl fl_12_115 h1 h2 ?_
  refine xs_if_ne (k' := 89) rfl rfl (fun hb => ?_) (fun hb => ?_)
  · have h := h.1 hb
    exact h
  · have h := h.2 hb
    refine xs_iload rfl rfl ?_
    refine xs_ldc rfl kc_12_14 ?_
    refine xs_aload_n rfl rfl ?_
    obtain ⟨a2, ⟨_, h1, h2⟩, h⟩ := h
    refine xs_getf rfl fl_12_146 h1 h2 ?_
    refine xs_isub rfl ?_
    refine xs_icmp_le (k' := 89) rfl rfl (fun hb => ?_) (fun hb => ?_)
    · have h := h.1 hb
      exact h
    · have h := h.2 hb
      refine xs_aload_n rfl rfl ?_
      refine xs_bipushV (v := 10) rfl rfl ?_
      refine xs_iload_n rfl rfl ?_
      exact h

set_option maxRecDepth 20000 in
theorem b_MO_readSymbols_89 {l : Launch} {x : xX} {d mc ms n0 uc us : Nat} {Q : xO → xH → Prop} {cl : Bool} {r0 : Nat} {v1 : Int32} {v2 : Int32} {v3 : Int32} {v4 : Int32} {v5 : Int32} {v6 : Int32} {H : xH}
    (h : xW l x d mc ms mMO_readSymbols n0 Q cl 91 [some (.ref r0), some (.int v1), some (.int v2), some (.int v3), some (.int v4), some (.int v5), some (.int v6), some (.int 0)] [] H uc us) :
    xW l x d mc ms mMO_readSymbols n0 Q cl 89 [some (.ref r0), some (.int v1), some (.int v2), some (.int v3), some (.int v4), some (.int v5), some (.int v6), none] [] H uc us := by
  refine xs_iconstV (v := 0) rfl rfl ?_
  refine xs_istore rfl (L' := [some (.ref r0), some (.int v1), some (.int v2), some (.int v3), some (.int v4), some (.int v5), some (.int v6), some (.int 0)]) rfl rfl ?_
  exact h

set_option maxRecDepth 20000 in
theorem b_MO_readSymbols_91 {l : Launch} {x : xX} {d mc ms n0 uc us : Nat} {Q : xO → xH → Prop} {cl : Bool} {r0 : Nat} {v1 : Int32} {v2 : Int32} {v3 : Int32} {v4 : Int32} {v5 : Int32} {v6 : Int32} {v7 : Int32} {H : xH}
    (h : (v5 ≤ v7 → ∃ a1, gI H r0 12 5 a1 ∧ ((¬ a1 = 0 → ∃ a2, gI H r0 12 8 a2 ∧ (∃ c3, H[(r0 : Nat)]? = some (.inr (12, c3)) ∧ 8 < c3.length ∧ (∀ H4 : xH, H4 = H.set r0 (.inr (12, c3.set 8 (.int a2))) → xW l x d mc ms mMO_readSymbols n0 Q false 2 [some (.ref r0), some (.int v1), some (.int v2), some (.int v3), some (.int v4), some (.int v5), some (.int v6), some (.int v7)] [] H4 uc us))) ∧ (a1 = 0 → ∃ a5, gI H r0 12 8 a5 ∧ (∃ c6, H[(r0 : Nat)]? = some (.inr (12, c6)) ∧ 8 < c6.length ∧ (∀ H7 : xH, H7 = H.set r0 (.inr (12, c6.set 8 (.int (a5 + 1)))) → xW l x d mc ms mMO_readSymbols n0 Q false 2 [some (.ref r0), some (.int v1), some (.int v2), some (.int v3), some (.int v4), some (.int v5), some (.int v6), some (.int v7)] [] H7 uc us))))) ∧ (¬ v5 ≤ v7 → ∃ a8, gI H r0 12 5 a8 ∧ ((¬ a8 = 0 → ∃ a9, gI H r0 12 5 a9 ∧ ((¬ a9 = 0 → ∃ a10, gI H r0 12 8 a10 ∧ (∃ c11, H[(r0 : Nat)]? = some (.inr (12, c11)) ∧ 8 < c11.length ∧ (∀ H12 : xH, H12 = H.set r0 (.inr (12, c11.set 8 (.int a10))) → xW l x d mc ms mMO_readSymbols n0 Q false 2 [some (.ref r0), some (.int v1), some (.int v2), some (.int v3), some (.int v4), some (.int v5), some (.int v6), some (.int v7)] [] H12 uc us))) ∧ (a9 = 0 → ∃ a13, gI H r0 12 8 a13 ∧ (∃ c14, H[(r0 : Nat)]? = some (.inr (12, c14)) ∧ 8 < c14.length ∧ (∀ H15 : xH, H15 = H.set r0 (.inr (12, c14.set 8 (.int (a13 + 1)))) → xW l x d mc ms mMO_readSymbols n0 Q false 2 [some (.ref r0), some (.int v1), some (.int v2), some (.int v3), some (.int v4), some (.int v5), some (.int v6), some (.int v7)] [] H15 uc us))))) ∧ (a8 = 0 → ∃ p16, gR H r0 12 3 p16 ∧ (∃ a17, gI H r0 12 4 a17 ∧ (∃ n18 f19, H[(p16 : Nat)]? = some (.inl (1, n18, .inl f19)) ∧ vp_in (a17 - v6) n18 ∧ (xW l x d mc ms mMO_readSymbols n0 Q cl 105 [some (.ref r0), some (.int v1), some (.int v2), some (.int v3), some (.int v4), some (.int v5), some (.int v6), some (.int v7)] [.int (f19 (a17 - v6).toNatClampNeg), .ref r0] H uc us))))))) :
    xW l x d mc ms mMO_readSymbols n0 Q cl 91 [some (.ref r0), some (.int v1), some (.int v2), some (.int v3), some (.int v4), some (.int v5), some (.int v6), some (.int v7)] [] H uc us := by
  refine xs_iload rfl rfl ?_
  refine xs_iload rfl rfl ?_
  refine xs_icmp_ge (k' := 108) rfl rfl (fun hb => ?_) (fun hb => ?_)
  · have h := h.1 hb
    refine xs_aload_n rfl rfl ?_
    refine xs_aload_n rfl rfl ?_
    obtain ⟨a1, ⟨_, h1, h2⟩, h⟩ := h
    refine xs_getf rfl fl_12_115 h1 h2 ?_
    refine xs_if_ne (k' := 117) rfl rfl (fun hb => ?_) (fun hb => ?_)
    · have h := h.1 hb
      refine xs_aload_n rfl rfl ?_
      obtain ⟨a2, ⟨_, h1, h2⟩, h⟩ := h
      refine xs_getf rfl fl_12_164 h1 h2 ?_
      obtain ⟨c3, h1, h2, h⟩ := h
      refine xs_putf rfl fl_12_164 h1 (fun q hq => by cases hq; rfl) rfl h2 ?_
      have h := h _ rfl
      generalize H.set r0 (.inr (12, c3.set 8 (.int a2))) = H4 at h ⊢
      refine xs_goto (k' := 2) rfl rfl ?_
      exact h
    · have h := h.2 hb
      refine xs_aload_n rfl rfl ?_
      obtain ⟨a5, ⟨_, h1, h2⟩, h⟩ := h
      refine xs_getf rfl fl_12_164 h1 h2 ?_
      refine xs_iconstV (v := 1) rfl rfl ?_
      refine xs_iadd rfl ?_
      refine xs_goto (k' := 119) rfl rfl ?_
      obtain ⟨c6, h1, h2, h⟩ := h
      refine xs_putf rfl fl_12_164 h1 (fun q hq => by cases hq; rfl) rfl h2 ?_
      have h := h _ rfl
      generalize H.set r0 (.inr (12, c6.set 8 (.int (a5 + 1)))) = H7 at h ⊢
      refine xs_goto (k' := 2) rfl rfl ?_
      exact h
  · have h := h.2 hb
    refine xs_aload_n rfl rfl ?_
    obtain ⟨a8, ⟨_, h1, h2⟩, h⟩ := h
    refine xs_getf rfl fl_12_115 h1 h2 ?_
    refine xs_if_ne (k' := 108) rfl rfl (fun hb => ?_) (fun hb => ?_)
    · have h := h.1 hb
      refine xs_aload_n rfl rfl ?_
      refine xs_aload_n rfl rfl ?_
      obtain ⟨a9, ⟨_, h1, h2⟩, h⟩ := h
      refine xs_getf rfl fl_12_115 h1 h2 ?_
      refine xs_if_ne (k' := 117) rfl rfl (fun hb => ?_) (fun hb => ?_)
      · have h := h.1 hb
        refine xs_aload_n rfl rfl ?_
        obtain ⟨a10, ⟨_, h1, h2⟩, h⟩ := h
        refine xs_getf rfl fl_12_164 h1 h2 ?_
        obtain ⟨c11, h1, h2, h⟩ := h
        refine xs_putf rfl fl_12_164 h1 (fun q hq => by cases hq; rfl) rfl h2 ?_
        have h := h _ rfl
        generalize H.set r0 (.inr (12, c11.set 8 (.int a10))) = H12 at h ⊢
        refine xs_goto (k' := 2) rfl rfl ?_
        exact h
      · have h := h.2 hb
        refine xs_aload_n rfl rfl ?_
        obtain ⟨a13, ⟨_, h1, h2⟩, h⟩ := h
        refine xs_getf rfl fl_12_164 h1 h2 ?_
        refine xs_iconstV (v := 1) rfl rfl ?_
        refine xs_iadd rfl ?_
        refine xs_goto (k' := 119) rfl rfl ?_
        obtain ⟨c14, h1, h2, h⟩ := h
        refine xs_putf rfl fl_12_164 h1 (fun q hq => by cases hq; rfl) rfl h2 ?_
        have h := h _ rfl
        generalize H.set r0 (.inr (12, c14.set 8 (.int (a13 + 1)))) = H15 at h ⊢
        refine xs_goto (k' := 2) rfl rfl ?_
        exact h
    · have h := h.2 hb
      refine xs_aload_n rfl rfl ?_
      refine xs_aload_n rfl rfl ?_
      obtain ⟨p16, ⟨_, h1, h2⟩, h⟩ := h
      refine xs_getf rfl fl_12_15 h1 h2 ?_
      refine xs_aload_n rfl rfl ?_
      obtain ⟨a17, ⟨_, h1, h2⟩, h⟩ := h
      refine xs_getf rfl fl_12_146 h1 h2 ?_
      refine xs_iload rfl rfl ?_
      refine xs_isub rfl ?_
      obtain ⟨n18, f19, h1, h2, h⟩ := h
      refine xs_bald rfl h1 h2 ?_
      exact h

set_option maxRecDepth 20000 in
theorem b_MO_readSymbols_106 {l : Launch} {x : xX} {d mc ms n0 uc us : Nat} {Q : xO → xH → Prop} {cl : Bool} {r0 : Nat} {v1 : Int32} {v2 : Int32} {v3 : Int32} {v4 : Int32} {v5 : Int32} {v6 : Int32} {v7 : Int32} {H : xH}
    (h : xW l x d mc ms mMO_readSymbols n0 Q cl 91 [some (.ref r0), some (.int v1), some (.int v2), some (.int v3), some (.int v4), some (.int v5), some (.int v6), some (.int (v7 + 1))] [] H uc us) :
    xW l x d mc ms mMO_readSymbols n0 Q cl 106 [some (.ref r0), some (.int v1), some (.int v2), some (.int v3), some (.int v4), some (.int v5), some (.int v6), some (.int v7)] [] H uc us := by
  refine xs_iincV rfl (w := 1) rfl rfl (L' := [some (.ref r0), some (.int v1), some (.int v2), some (.int v3), some (.int v4), some (.int v5), some (.int v6), some (.int (v7 + 1))]) rfl rfl ?_
  refine xs_goto (k' := 91) rfl rfl ?_
  exact h

set_option maxRecDepth 20000 in
theorem b_MO_leastLength_0 {l : Launch} {x : xX} {d mc ms n0 uc us : Nat} {Q : xO → xH → Prop} {cl : Bool} {v0 : Int32} {H : xH}
    (h : (8 ≤ v0 → (¬ v0 = 28 → uc = mc ∧ us ≤ ms ∧ Q (.inl (some (.int ((((4 : Int32) + (v0 - v0 / 4 * 4)) * ((1 : Int32) <<< ((((v0 / 4) - 1) : Int32) &&& 31))) + 3)))) H) ∧ (v0 = 28 → uc = mc ∧ us ≤ ms ∧ Q (.inl (some (.int 258))) H)) ∧ (¬ 8 ≤ v0 → uc = mc ∧ us ≤ ms ∧ Q (.inl (some (.int ((3 : Int32) + v0)))) H)) :
    xW l x d mc ms mMO_leastLength n0 Q cl 0 [some (.int v0)] [] H uc us := by
  refine xs_iload_n rfl rfl ?_
  refine xs_bipushV (v := 8) rfl rfl ?_
  refine xs_icmp_ge (k' := 7) rfl rfl (fun hb => ?_) (fun hb => ?_)
  · have h := h.1 hb
    refine xs_iload_n rfl rfl ?_
    refine xs_bipushV (v := 28) rfl rfl ?_
    refine xs_icmp_ne (k' := 12) rfl rfl (fun hb => ?_) (fun hb => ?_)
    · have h := h.1 hb
      refine xs_iconstV (v := 4) rfl rfl ?_
      refine xs_iload_n rfl rfl ?_
      refine xs_iconstV (v := 4) rfl rfl ?_
      refine xs_irem rfl (by decide) ?_
      refine xs_iadd rfl ?_
      refine xs_iconstV (v := 1) rfl rfl ?_
      refine xs_iload_n rfl rfl ?_
      refine xs_iconstV (v := 4) rfl rfl ?_
      refine xs_idiv rfl (by decide) ?_
      refine xs_iconstV (v := 1) rfl rfl ?_
      refine xs_isub rfl ?_
      refine xs_ishl rfl ?_
      refine xs_imul rfl ?_
      refine xs_iconstV (v := 3) rfl rfl ?_
      refine xs_iadd rfl ?_
      exact xs_iret rfl rfl h.1 h.2.1 h.2.2
    · have h := h.2 hb
      refine xs_sipushV (v := 258) rfl rfl ?_
      refine xs_goto (k' := 27) rfl rfl ?_
      exact xs_iret rfl rfl h.1 h.2.1 h.2.2
  · have h := h.2 hb
    refine xs_iconstV (v := 3) rfl rfl ?_
    refine xs_iload_n rfl rfl ?_
    refine xs_iadd rfl ?_
    refine xs_goto (k' := 27) rfl rfl ?_
    exact xs_iret rfl rfl h.1 h.2.1 h.2.2

set_option maxRecDepth 20000 in
theorem b_MO_lengthBits_0 {l : Launch} {x : xX} {d mc ms n0 uc us : Nat} {Q : xO → xH → Prop} {cl : Bool} {v0 : Int32} {H : xH}
    (h : (v0 < 8 → uc = mc ∧ us ≤ ms ∧ Q (.inl (some (.int 0))) H) ∧ (¬ v0 < 8 → (¬ v0 = 28 → uc = mc ∧ us ≤ ms ∧ Q (.inl (some (.int ((v0 / 4) - 1)))) H) ∧ (v0 = 28 → uc = mc ∧ us ≤ ms ∧ Q (.inl (some (.int 0))) H))) :
    xW l x d mc ms mMO_lengthBits n0 Q cl 0 [some (.int v0)] [] H uc us := by
  refine xs_iload_n rfl rfl ?_
  refine xs_bipushV (v := 8) rfl rfl ?_
  refine xs_icmp_lt (k' := 6) rfl rfl (fun hb => ?_) (fun hb => ?_)
  · have h := h.1 hb
    refine xs_iconstV (v := 0) rfl rfl ?_
    refine xs_goto (k' := 13) rfl rfl ?_
    exact xs_iret rfl rfl h.1 h.2.1 h.2.2
  · have h := h.2 hb
    refine xs_iload_n rfl rfl ?_
    refine xs_bipushV (v := 28) rfl rfl ?_
    refine xs_icmp_ne (k' := 8) rfl rfl (fun hb => ?_) (fun hb => ?_)
    · have h := h.1 hb
      refine xs_iload_n rfl rfl ?_
      refine xs_iconstV (v := 4) rfl rfl ?_
      refine xs_idiv rfl (by decide) ?_
      refine xs_iconstV (v := 1) rfl rfl ?_
      refine xs_isub rfl ?_
      exact xs_iret rfl rfl h.1 h.2.1 h.2.2
    · have h := h.2 hb
      refine xs_iconstV (v := 0) rfl rfl ?_
      refine xs_goto (k' := 13) rfl rfl ?_
      exact xs_iret rfl rfl h.1 h.2.1 h.2.2

set_option maxRecDepth 20000 in
theorem b_MO_distance_0 {l : Launch} {x : xX} {d mc ms n0 uc us : Nat} {Q : xO → xH → Prop} {cl : Bool} {r0 : Nat} {v1 : Int32} {H : xH}
    (h : ∃ a1, gI H r0 12 13 a1 ∧ ((¬ v1 = 2 → xW l x d mc ms mMO_distance n0 Q cl 15 [some (.ref r0), some (.int v1), some (.int a1), some (.int 0), none] [.ref r0] H uc us) ∧ (v1 = 2 → xW l x d mc ms mMO_distance n0 Q cl 11 [some (.ref r0), some (.int v1), some (.int a1), some (.int 0), none] [.int 16, .int 400, .ref r0] H uc us))) :
    xW l x d mc ms mMO_distance n0 Q cl 0 [some (.ref r0), some (.int v1), none, none, none] [] H uc us := by
  refine xs_aload_n rfl rfl ?_
  obtain ⟨a1, ⟨_, h1, h2⟩, h⟩ := h
  refine xs_getf rfl fl_12_118 h1 h2 ?_
  refine xs_istore_n rfl (L' := [some (.ref r0), some (.int v1), some (.int a1), none, none]) rfl rfl ?_
  refine xs_iconstV (v := 0) rfl rfl ?_
  refine xs_istore_n rfl (L' := [some (.ref r0), some (.int v1), some (.int a1), some (.int 0), none]) rfl rfl ?_
  refine xs_iload_n rfl rfl ?_
  refine xs_iconstV (v := 2) rfl rfl ?_
  refine xs_icmp_ne (k' := 14) rfl rfl (fun hb => ?_) (fun hb => ?_)
  · have h := h.1 hb
    refine xs_aload_n rfl rfl ?_
    exact h
  · have h := h.2 hb
    refine xs_aload_n rfl rfl ?_
    refine xs_sipushV (v := 400) rfl rfl ?_
    refine xs_bipushV (v := 16) rfl rfl ?_
    exact h

set_option maxRecDepth 20000 in
theorem b_MO_distance_12 {l : Launch} {x : xX} {d mc ms n0 uc us : Nat} {Q : xO → xH → Prop} {cl : Bool} {r0 : Nat} {v1 : Int32} {v2 : Int32} {v3 : Int32} {u0 : Int32} {H : xH}
    (h : ∃ a1, gI H r0 12 5 a1 ∧ ((¬ a1 = 0 → xW l x d mc ms mMO_distance n0 Q cl 44 [some (.ref r0), some (.int v1), some (.int v2), some (.int u0), none] [] H uc us) ∧ (a1 = 0 → (u0 ≤ 29 → xW l x d mc ms mMO_distance n0 Q cl 44 [some (.ref r0), some (.int v1), some (.int v2), some (.int u0), none] [] H uc us) ∧ (¬ u0 ≤ 29 → xW l x d mc ms mMO_distance n0 Q cl 43 [some (.ref r0), some (.int v1), some (.int v2), some (.int u0), none] [.int v2, .int 8, .ref r0] H uc us)))) :
    xW l x d mc ms mMO_distance n0 Q cl 12 [some (.ref r0), some (.int v1), some (.int v2), some (.int v3), none] [.int u0] H uc us := by
  refine xs_istore_n rfl (L' := [some (.ref r0), some (.int v1), some (.int v2), some (.int u0), none]) rfl rfl ?_
  refine xs_goto (k' := 34) rfl rfl ?_
  refine xs_aload_n rfl rfl ?_
  obtain ⟨a1, ⟨_, h1, h2⟩, h⟩ := h
  refine xs_getf rfl fl_12_115 h1 h2 ?_
  refine xs_if_ne (k' := 44) rfl rfl (fun hb => ?_) (fun hb => ?_)
  · have h := h.1 hb
    exact h
  · have h := h.2 hb
    refine xs_iload_n rfl rfl ?_
    refine xs_bipushV (v := 29) rfl rfl ?_
    refine xs_icmp_le (k' := 44) rfl rfl (fun hb => ?_) (fun hb => ?_)
    · have h := h.1 hb
      exact h
    · have h := h.2 hb
      refine xs_aload_n rfl rfl ?_
      refine xs_bipushV (v := 8) rfl rfl ?_
      refine xs_iload_n rfl rfl ?_
      exact h

set_option maxRecDepth 20000 in
theorem b_MO_distance_16 {l : Launch} {x : xX} {d mc ms n0 uc us : Nat} {Q : xO → xH → Prop} {cl : Bool} {r0 : Nat} {v1 : Int32} {v2 : Int32} {v3 : Int32} {u0 : Int32} {H : xH}
    (h : ∃ a1, gI H r0 12 5 a1 ∧ ((¬ a1 = 0 → xW l x d mc ms mMO_distance n0 Q cl 29 [some (.ref r0), some (.int v1), some (.int v2), some (.int v3), some (.int u0)] [] H uc us) ∧ (a1 = 0 → (v1 = 0 → xW l x d mc ms mMO_distance n0 Q cl 28 [some (.ref r0), some (.int v1), some (.int v2), some (.int v3), some (.int u0)] [.int v2, .int 8, .ref r0] H uc us) ∧ (¬ v1 = 0 → (¬ u0 = 1 → xW l x d mc ms mMO_distance n0 Q cl 29 [some (.ref r0), some (.int v1), some (.int v2), some (.int v3), some (.int u0)] [] H uc us) ∧ (u0 = 1 → xW l x d mc ms mMO_distance n0 Q cl 28 [some (.ref r0), some (.int v1), some (.int v2), some (.int v3), some (.int u0)] [.int v2, .int 8, .ref r0] H uc us))))) :
    xW l x d mc ms mMO_distance n0 Q cl 16 [some (.ref r0), some (.int v1), some (.int v2), some (.int v3), none] [.int u0] H uc us := by
  refine xs_istore rfl (L' := [some (.ref r0), some (.int v1), some (.int v2), some (.int v3), some (.int u0)]) rfl rfl ?_
  refine xs_aload_n rfl rfl ?_
  obtain ⟨a1, ⟨_, h1, h2⟩, h⟩ := h
  refine xs_getf rfl fl_12_115 h1 h2 ?_
  refine xs_if_ne (k' := 29) rfl rfl (fun hb => ?_) (fun hb => ?_)
  · have h := h.1 hb
    exact h
  · have h := h.2 hb
    refine xs_iload_n rfl rfl ?_
    refine xs_if_eq (k' := 25) rfl rfl (fun hb => ?_) (fun hb => ?_)
    · have h := h.1 hb
      refine xs_aload_n rfl rfl ?_
      refine xs_bipushV (v := 8) rfl rfl ?_
      refine xs_iload_n rfl rfl ?_
      exact h
    · have h := h.2 hb
      refine xs_iload rfl rfl ?_
      refine xs_iconstV (v := 1) rfl rfl ?_
      refine xs_icmp_ne (k' := 29) rfl rfl (fun hb => ?_) (fun hb => ?_)
      · have h := h.1 hb
        exact h
      · have h := h.2 hb
        refine xs_aload_n rfl rfl ?_
        refine xs_bipushV (v := 8) rfl rfl ?_
        refine xs_iload_n rfl rfl ?_
        exact h

set_option maxRecDepth 20000 in
theorem b_MO_distance_29 {l : Launch} {x : xX} {d mc ms n0 uc us : Nat} {Q : xO → xH → Prop} {cl : Bool} {r0 : Nat} {v1 : Int32} {v2 : Int32} {v3 : Int32} {v4 : Int32} {H : xH}
    (h : ∃ p1, gR H r0 12 16 p1 ∧ (∃ n2 f3, H[(p1 : Nat)]? = some (.inl (0, n2, .inl f3)) ∧ vp_in 400 n2 ∧ (∃ a4, gI H r0 12 5 a4 ∧ ((¬ a4 = 0 → xW l x d mc ms mMO_distance n0 Q cl 44 [some (.ref r0), some (.int v1), some (.int v2), some (.int (f3 (400 : Int32).toNatClampNeg)), some (.int v4)] [] H uc us) ∧ (a4 = 0 → ((f3 (400 : Int32).toNatClampNeg) ≤ 29 → xW l x d mc ms mMO_distance n0 Q cl 44 [some (.ref r0), some (.int v1), some (.int v2), some (.int (f3 (400 : Int32).toNatClampNeg)), some (.int v4)] [] H uc us) ∧ (¬ (f3 (400 : Int32).toNatClampNeg) ≤ 29 → xW l x d mc ms mMO_distance n0 Q cl 43 [some (.ref r0), some (.int v1), some (.int v2), some (.int (f3 (400 : Int32).toNatClampNeg)), some (.int v4)] [.int v2, .int 8, .ref r0] H uc us)))))) :
    xW l x d mc ms mMO_distance n0 Q cl 29 [some (.ref r0), some (.int v1), some (.int v2), some (.int v3), some (.int v4)] [] H uc us := by
  refine xs_aload_n rfl rfl ?_
  obtain ⟨p1, ⟨_, h1, h2⟩, h⟩ := h
  refine xs_getf rfl fl_12_38 h1 h2 ?_
  refine xs_sipushV (v := 400) rfl rfl ?_
  obtain ⟨n2, f3, h1, h2, h⟩ := h
  refine xs_iald rfl h1 h2 ?_
  refine xs_istore_n rfl (L' := [some (.ref r0), some (.int v1), some (.int v2), some (.int (f3 (400 : Int32).toNatClampNeg)), some (.int v4)]) rfl rfl ?_
  refine xs_aload_n rfl rfl ?_
  obtain ⟨a4, ⟨_, h1, h2⟩, h⟩ := h
  refine xs_getf rfl fl_12_115 h1 h2 ?_
  refine xs_if_ne (k' := 44) rfl rfl (fun hb => ?_) (fun hb => ?_)
  · have h := h.1 hb
    exact h
  · have h := h.2 hb
    refine xs_iload_n rfl rfl ?_
    refine xs_bipushV (v := 29) rfl rfl ?_
    refine xs_icmp_le (k' := 44) rfl rfl (fun hb => ?_) (fun hb => ?_)
    · have h := h.1 hb
      exact h
    · have h := h.2 hb
      refine xs_aload_n rfl rfl ?_
      refine xs_bipushV (v := 8) rfl rfl ?_
      refine xs_iload_n rfl rfl ?_
      exact h

set_option maxRecDepth 20000 in
theorem b_MO_distance_44 {l : Launch} {x : xX} {d mc ms n0 uc us : Nat} {Q : xO → xH → Prop} {cl : Bool} {r0 : Nat} {v1 : Int32} {v2 : Int32} {v3 : Int32} {H : xH}
    (h : ∃ a1, gI H r0 12 5 a1 ∧ ((a1 ≤ 0 → xW l x d mc ms mMO_distance n0 Q cl 50 [some (.ref r0), some (.int v1), some (.int v2), some (.int v3), none] [.int v3] H uc us) ∧ (¬ a1 ≤ 0 → uc = mc ∧ us ≤ ms ∧ Q (.inl (some (.int 0))) H))) :
    xW l x d mc ms mMO_distance n0 Q cl 44 [some (.ref r0), some (.int v1), some (.int v2), some (.int v3), none] [] H uc us := by
  refine xs_aload_n rfl rfl ?_
  obtain ⟨a1, ⟨_, h1, h2⟩, h⟩ := h
  refine xs_getf rfl fl_12_115 h1 h2 ?_
  refine xs_if_le (k' := 49) rfl rfl (fun hb => ?_) (fun hb => ?_)
  · have h := h.1 hb
    refine xs_iload_n rfl rfl ?_
    exact h
  · have h := h.2 hb
    refine xs_iconstV (v := 0) rfl rfl ?_
    exact xs_iret rfl rfl h.1 h.2.1 h.2.2

set_option maxRecDepth 20000 in
theorem b_MO_distance_51 {l : Launch} {x : xX} {d mc ms n0 uc us : Nat} {Q : xO → xH → Prop} {cl : Bool} {r0 : Nat} {v1 : Int32} {v2 : Int32} {v3 : Int32} {u0 : Int32} {H : xH}
    (h : xW l x d mc ms mMO_distance n0 Q cl 53 [some (.ref r0), some (.int v1), some (.int v2), some (.int v3), none] [.int v3, .ref r0, .int u0] H uc us) :
    xW l x d mc ms mMO_distance n0 Q cl 51 [some (.ref r0), some (.int v1), some (.int v2), some (.int v3), none] [.int u0] H uc us := by
  refine xs_aload_n rfl rfl ?_
  refine xs_iload_n rfl rfl ?_
  exact h

-- b_MO_distance_54: .invokevirtual 133
set_option maxRecDepth 20000 in
theorem b_MO_distance_55 {l : Launch} {x : xX} {d mc ms n0 uc us : Nat} {Q : xO → xH → Prop} {cl : Bool} {r0 : Nat} {v1 : Int32} {v2 : Int32} {v3 : Int32} {u0 : Int32} {u1 : Int32} {H : xH}
    (h : ∃ a1, gI H r0 12 5 a1 ∧ ((¬ a1 = 0 → xW l x d mc ms mMO_distance n0 Q cl 71 [some (.ref r0), some (.int v1), some (.int v2), some (.int v3), some (.int (u0 + u1))] [] H uc us) ∧ (a1 = 0 → ∃ a2, gI H r0 12 4 a2 ∧ (∃ a3, gI H r0 12 14 a3 ∧ (((u0 + u1) ≤ (a2 - a3) → xW l x d mc ms mMO_distance n0 Q cl 71 [some (.ref r0), some (.int v1), some (.int v2), some (.int v3), some (.int (u0 + u1))] [] H uc us) ∧ (¬ (u0 + u1) ≤ (a2 - a3) → xW l x d mc ms mMO_distance n0 Q cl 70 [some (.ref r0), some (.int v1), some (.int v2), some (.int v3), some (.int (u0 + u1))] [.int v2, .int 9, .ref r0] H uc us)))))) :
    xW l x d mc ms mMO_distance n0 Q cl 55 [some (.ref r0), some (.int v1), some (.int v2), some (.int v3), none] [.int u1, .int u0] H uc us := by
  refine xs_iadd rfl ?_
  refine xs_istore rfl (L' := [some (.ref r0), some (.int v1), some (.int v2), some (.int v3), some (.int (u0 + u1))]) rfl rfl ?_
  refine xs_aload_n rfl rfl ?_
  obtain ⟨a1, ⟨_, h1, h2⟩, h⟩ := h
  refine xs_getf rfl fl_12_115 h1 h2 ?_
  refine xs_if_ne (k' := 71) rfl rfl (fun hb => ?_) (fun hb => ?_)
  · have h := h.1 hb
    exact h
  · have h := h.2 hb
    refine xs_iload rfl rfl ?_
    refine xs_aload_n rfl rfl ?_
    obtain ⟨a2, ⟨_, h1, h2⟩, h⟩ := h
    refine xs_getf rfl fl_12_146 h1 h2 ?_
    refine xs_aload_n rfl rfl ?_
    obtain ⟨a3, ⟨_, h1, h2⟩, h⟩ := h
    refine xs_getf rfl fl_12_152 h1 h2 ?_
    refine xs_isub rfl ?_
    refine xs_icmp_le (k' := 71) rfl rfl (fun hb => ?_) (fun hb => ?_)
    · have h := h.1 hb
      exact h
    · have h := h.2 hb
      refine xs_aload_n rfl rfl ?_
      refine xs_bipushV (v := 9) rfl rfl ?_
      refine xs_iload_n rfl rfl ?_
      exact h

set_option maxRecDepth 20000 in
theorem b_MO_distance_71 {l : Launch} {x : xX} {d mc ms n0 uc us : Nat} {Q : xO → xH → Prop} {cl : Bool} {r0 : Nat} {v1 : Int32} {v2 : Int32} {v3 : Int32} {v4 : Int32} {H : xH}
    (h : uc = mc ∧ us ≤ ms ∧ Q (.inl (some (.int v4))) H) :
    xW l x d mc ms mMO_distance n0 Q cl 71 [some (.ref r0), some (.int v1), some (.int v2), some (.int v3), some (.int v4)] [] H uc us := by
  refine xs_iload rfl rfl ?_
  exact xs_iret rfl rfl h.1 h.2.1 h.2.2

set_option maxRecDepth 20000 in
theorem b_MO_leastDistance_0 {l : Launch} {x : xX} {d mc ms n0 uc us : Nat} {Q : xO → xH → Prop} {cl : Bool} {v0 : Int32} {H : xH}
    (h : (4 ≤ v0 → uc = mc ∧ us ≤ ms ∧ Q (.inl (some (.int ((((2 : Int32) + (v0 - v0 / 2 * 2)) * ((1 : Int32) <<< ((((v0 / 2) - 1) : Int32) &&& 31))) + 1)))) H) ∧ (¬ 4 ≤ v0 → uc = mc ∧ us ≤ ms ∧ Q (.inl (some (.int ((1 : Int32) + v0)))) H)) :
    xW l x d mc ms mMO_leastDistance n0 Q cl 0 [some (.int v0)] [] H uc us := by
  refine xs_iload_n rfl rfl ?_
  refine xs_iconstV (v := 4) rfl rfl ?_
  refine xs_icmp_ge (k' := 7) rfl rfl (fun hb => ?_) (fun hb => ?_)
  · have h := h.1 hb
    refine xs_iconstV (v := 2) rfl rfl ?_
    refine xs_iload_n rfl rfl ?_
    refine xs_iconstV (v := 2) rfl rfl ?_
    refine xs_irem rfl (by decide) ?_
    refine xs_iadd rfl ?_
    refine xs_iconstV (v := 1) rfl rfl ?_
    refine xs_iload_n rfl rfl ?_
    refine xs_iconstV (v := 2) rfl rfl ?_
    refine xs_idiv rfl (by decide) ?_
    refine xs_iconstV (v := 1) rfl rfl ?_
    refine xs_isub rfl ?_
    refine xs_ishl rfl ?_
    refine xs_imul rfl ?_
    refine xs_iconstV (v := 1) rfl rfl ?_
    refine xs_iadd rfl ?_
    exact xs_iret rfl rfl h.1 h.2.1 h.2.2
  · have h := h.2 hb
    refine xs_iconstV (v := 1) rfl rfl ?_
    refine xs_iload_n rfl rfl ?_
    refine xs_iadd rfl ?_
    refine xs_goto (k' := 22) rfl rfl ?_
    exact xs_iret rfl rfl h.1 h.2.1 h.2.2

set_option maxRecDepth 20000 in
theorem b_MO_distanceBits_0 {l : Launch} {x : xX} {d mc ms n0 uc us : Nat} {Q : xO → xH → Prop} {cl : Bool} {v0 : Int32} {H : xH}
    (h : (4 ≤ v0 → uc = mc ∧ us ≤ ms ∧ Q (.inl (some (.int ((v0 / 2) - 1)))) H) ∧ (¬ 4 ≤ v0 → uc = mc ∧ us ≤ ms ∧ Q (.inl (some (.int 0))) H)) :
    xW l x d mc ms mMO_distanceBits n0 Q cl 0 [some (.int v0)] [] H uc us := by
  refine xs_iload_n rfl rfl ?_
  refine xs_iconstV (v := 4) rfl rfl ?_
  refine xs_icmp_ge (k' := 5) rfl rfl (fun hb => ?_) (fun hb => ?_)
  · have h := h.1 hb
    refine xs_iload_n rfl rfl ?_
    refine xs_iconstV (v := 2) rfl rfl ?_
    refine xs_idiv rfl (by decide) ?_
    refine xs_iconstV (v := 1) rfl rfl ?_
    refine xs_isub rfl ?_
    exact xs_iret rfl rfl h.1 h.2.1 h.2.2
  · have h := h.2 hb
    refine xs_iconstV (v := 0) rfl rfl ?_
    refine xs_goto (k' := 10) rfl rfl ?_
    exact xs_iret rfl rfl h.1 h.2.1 h.2.2

set_option maxRecDepth 20000 in
theorem b_MO_note_0 {l : Launch} {x : xX} {d mc ms n0 uc us : Nat} {Q : xO → xH → Prop} {cl : Bool} {r0 : Nat} {v1 : Int32} {v2 : Int32} {v3 : Int32} {v4 : Int32} {H : xH}
    (h : ∃ a1, gI H r0 12 7 a1 ∧ ((64 ≤ a1 → ∃ a2, gI H r0 12 7 a2 ∧ (∃ c3, H[(r0 : Nat)]? = some (.inr (12, c3)) ∧ 7 < c3.length ∧ (∀ H4 : xH, H4 = H.set r0 (.inr (12, c3.set 7 (.int (a2 + 1)))) → uc = mc ∧ us ≤ ms ∧ Q (.inl none) H4))) ∧ (¬ 64 ≤ a1 → ∃ p5, gR H r0 12 9 p5 ∧ (∃ a6, gI H r0 12 7 a6 ∧ (∃ n7 f8, H[(p5 : Nat)]? = some (.inl (0, n7, .inl f8)) ∧ 2 ≤ p5 ∧ vp_in a6 n7 ∧ (∀ H9 : xH, H9 = H.set p5 (.inl (0, n7, .inl (upd f8 (a6.toNatClampNeg) (v1)))) → ∃ p10, gR H9 r0 12 10 p10 ∧ (∃ a11, gI H9 r0 12 7 a11 ∧ (∃ n12 f13, H9[(p10 : Nat)]? = some (.inl (0, n12, .inl f13)) ∧ 2 ≤ p10 ∧ vp_in a11 n12 ∧ (∀ H14 : xH, H14 = H9.set p10 (.inl (0, n12, .inl (upd f13 (a11.toNatClampNeg) (v2)))) → ∃ p15, gR H14 r0 12 11 p15 ∧ (∃ a16, gI H14 r0 12 7 a16 ∧ (∃ n17 f18, H14[(p15 : Nat)]? = some (.inl (0, n17, .inl f18)) ∧ 2 ≤ p15 ∧ vp_in a16 n17 ∧ (∀ H19 : xH, H19 = H14.set p15 (.inl (0, n17, .inl (upd f18 (a16.toNatClampNeg) (v3)))) → ∃ p20, gR H19 r0 12 12 p20 ∧ (∃ a21, gI H19 r0 12 7 a21 ∧ (∃ n22 f23, H19[(p20 : Nat)]? = some (.inl (0, n22, .inl f23)) ∧ 2 ≤ p20 ∧ vp_in a21 n22 ∧ (∀ H24 : xH, H24 = H19.set p20 (.inl (0, n22, .inl (upd f23 (a21.toNatClampNeg) (v4)))) → ∃ a25, gI H24 r0 12 7 a25 ∧ (∃ c26, H24[(r0 : Nat)]? = some (.inr (12, c26)) ∧ 7 < c26.length ∧ (∀ H27 : xH, H27 = H24.set r0 (.inr (12, c26.set 7 (.int (a25 + 1)))) → uc = mc ∧ us ≤ ms ∧ Q (.inl none) H27))))))))))))))))) :
    xW l x d mc ms mMO_note n0 Q cl 0 [some (.ref r0), some (.int v1), some (.int v2), some (.int v3), some (.int v4)] [] H uc us := by
  refine xs_aload_n rfl rfl ?_
  obtain ⟨a1, ⟨_, h1, h2⟩, h⟩ := h
  refine xs_getf rfl fl_12_171 h1 h2 ?_
  refine xs_bipushV (v := 64) rfl rfl ?_
  refine xs_icmp_ge (k' := 28) rfl rfl (fun hb => ?_) (fun hb => ?_)
  · have h := h.1 hb
    refine xs_aload_n rfl rfl ?_
    refine xs_dup rfl rfl ?_
    obtain ⟨a2, ⟨_, h1, h2⟩, h⟩ := h
    refine xs_getf rfl fl_12_171 h1 h2 ?_
    refine xs_iconstV (v := 1) rfl rfl ?_
    refine xs_iadd rfl ?_
    obtain ⟨c3, h1, h2, h⟩ := h
    refine xs_putf rfl fl_12_171 h1 (fun q hq => by cases hq; rfl) rfl h2 ?_
    have h := h _ rfl
    generalize H.set r0 (.inr (12, c3.set 7 (.int (a2 + 1)))) = H4 at h ⊢
    exact xs_vret rfl rfl h.1 h.2.1 h.2.2
  · have h := h.2 hb
    refine xs_aload_n rfl rfl ?_
    obtain ⟨p5, ⟨_, h1, h2⟩, h⟩ := h
    refine xs_getf rfl fl_12_22 h1 h2 ?_
    refine xs_aload_n rfl rfl ?_
    obtain ⟨a6, ⟨_, h1, h2⟩, h⟩ := h
    refine xs_getf rfl fl_12_171 h1 h2 ?_
    refine xs_iload_n rfl rfl ?_
    obtain ⟨n7, f8, h1, h3, h2, h⟩ := h
    refine xs_iast rfl h1 h3 h2 ?_
    have h := h _ rfl
    generalize H.set p5 (.inl (0, n7, .inl (upd f8 (a6.toNatClampNeg) (v1)))) = H9 at h ⊢
    refine xs_aload_n rfl rfl ?_
    obtain ⟨p10, ⟨_, h1, h2⟩, h⟩ := h
    refine xs_getf rfl fl_12_26 h1 h2 ?_
    refine xs_aload_n rfl rfl ?_
    obtain ⟨a11, ⟨_, h1, h2⟩, h⟩ := h
    refine xs_getf rfl fl_12_171 h1 h2 ?_
    refine xs_iload_n rfl rfl ?_
    obtain ⟨n12, f13, h1, h3, h2, h⟩ := h
    refine xs_iast rfl h1 h3 h2 ?_
    have h := h _ rfl
    generalize H9.set p10 (.inl (0, n12, .inl (upd f13 (a11.toNatClampNeg) (v2)))) = H14 at h ⊢
    refine xs_aload_n rfl rfl ?_
    obtain ⟨p15, ⟨_, h1, h2⟩, h⟩ := h
    refine xs_getf rfl fl_12_29 h1 h2 ?_
    refine xs_aload_n rfl rfl ?_
    obtain ⟨a16, ⟨_, h1, h2⟩, h⟩ := h
    refine xs_getf rfl fl_12_171 h1 h2 ?_
    refine xs_iload_n rfl rfl ?_
    obtain ⟨n17, f18, h1, h3, h2, h⟩ := h
    refine xs_iast rfl h1 h3 h2 ?_
    have h := h _ rfl
    generalize H14.set p15 (.inl (0, n17, .inl (upd f18 (a16.toNatClampNeg) (v3)))) = H19 at h ⊢
    refine xs_aload_n rfl rfl ?_
    obtain ⟨p20, ⟨_, h1, h2⟩, h⟩ := h
    refine xs_getf rfl fl_12_32 h1 h2 ?_
    refine xs_aload_n rfl rfl ?_
    obtain ⟨a21, ⟨_, h1, h2⟩, h⟩ := h
    refine xs_getf rfl fl_12_171 h1 h2 ?_
    refine xs_iload rfl rfl ?_
    obtain ⟨n22, f23, h1, h3, h2, h⟩ := h
    refine xs_iast rfl h1 h3 h2 ?_
    have h := h _ rfl
    generalize H19.set p20 (.inl (0, n22, .inl (upd f23 (a21.toNatClampNeg) (v4)))) = H24 at h ⊢
    refine xs_aload_n rfl rfl ?_
    refine xs_dup rfl rfl ?_
    obtain ⟨a25, ⟨_, h1, h2⟩, h⟩ := h
    refine xs_getf rfl fl_12_171 h1 h2 ?_
    refine xs_iconstV (v := 1) rfl rfl ?_
    refine xs_iadd rfl ?_
    obtain ⟨c26, h1, h2, h⟩ := h
    refine xs_putf rfl fl_12_171 h1 (fun q hq => by cases hq; rfl) rfl h2 ?_
    have h := h _ rfl
    generalize H24.set r0 (.inr (12, c26.set 7 (.int (a25 + 1)))) = H27 at h ⊢
    exact xs_vret rfl rfl h.1 h.2.1 h.2.2

set_option maxRecDepth 20000 in
theorem b_MO_wantEnd_0 {l : Launch} {x : xX} {d mc ms n0 uc us : Nat} {Q : xO → xH → Prop} {cl : Bool} {r0 : Nat} {H : xH}
    (h : ∃ a1, gI H r0 12 5 a1 ∧ ((¬ a1 = 0 → xW l x d mc ms mMO_wantEnd n0 Q cl 15 [some (.ref r0)] [] H uc us) ∧ (a1 = 0 → ∃ a2, gI H r0 12 13 a2 ∧ (∃ a3, gI H r0 12 2 a3 ∧ ((((8 : Int32) * a3) ≤ a2 → xW l x d mc ms mMO_wantEnd n0 Q cl 15 [some (.ref r0)] [] H uc us) ∧ (¬ ((8 : Int32) * a3) ≤ a2 → ∃ a4, gI H r0 12 13 a4 ∧ (xW l x d mc ms mMO_wantEnd n0 Q cl 14 [some (.ref r0)] [.int a4, .int 11, .ref r0] H uc us))))))) :
    xW l x d mc ms mMO_wantEnd n0 Q cl 0 [some (.ref r0)] [] H uc us := by
  refine xs_aload_n rfl rfl ?_
  obtain ⟨a1, ⟨_, h1, h2⟩, h⟩ := h
  refine xs_getf rfl fl_12_115 h1 h2 ?_
  refine xs_if_ne (k' := 15) rfl rfl (fun hb => ?_) (fun hb => ?_)
  · have h := h.1 hb
    exact h
  · have h := h.2 hb
    refine xs_aload_n rfl rfl ?_
    obtain ⟨a2, ⟨_, h1, h2⟩, h⟩ := h
    refine xs_getf rfl fl_12_118 h1 h2 ?_
    refine xs_bipushV (v := 8) rfl rfl ?_
    refine xs_aload_n rfl rfl ?_
    obtain ⟨a3, ⟨_, h1, h2⟩, h⟩ := h
    refine xs_getf rfl fl_12_82 h1 h2 ?_
    refine xs_imul rfl ?_
    refine xs_icmp_ge (k' := 15) rfl rfl (fun hb => ?_) (fun hb => ?_)
    · have h := h.1 hb
      exact h
    · have h := h.2 hb
      refine xs_aload_n rfl rfl ?_
      refine xs_bipushV (v := 11) rfl rfl ?_
      refine xs_aload_n rfl rfl ?_
      obtain ⟨a4, ⟨_, h1, h2⟩, h⟩ := h
      refine xs_getf rfl fl_12_118 h1 h2 ?_
      exact h

set_option maxRecDepth 20000 in
theorem b_MO_wantEnd_15 {l : Launch} {x : xX} {d mc ms n0 uc us : Nat} {Q : xO → xH → Prop} {cl : Bool} {r0 : Nat} {H : xH}
    (h : uc = mc ∧ us ≤ ms ∧ Q (.inl none) H) :
    xW l x d mc ms mMO_wantEnd n0 Q cl 15 [some (.ref r0)] [] H uc us := by
  exact xs_vret rfl rfl h.1 h.2.1 h.2.2

set_option maxRecDepth 20000 in
theorem b_MO_readShort_0 {l : Launch} {x : xX} {d mc ms n0 uc us : Nat} {Q : xO → xH → Prop} {cl : Bool} {r0 : Nat} {H : xH}
    (h : xW l x d mc ms mMO_readShort n0 Q cl 1 [some (.ref r0), none, none, none, none, none, none] [.ref r0] H uc us) :
    xW l x d mc ms mMO_readShort n0 Q cl 0 [some (.ref r0), none, none, none, none, none, none] [] H uc us := by
  refine xs_aload_n rfl rfl ?_
  exact h

set_option maxRecDepth 20000 in
theorem b_MO_readShort_2 {l : Launch} {x : xX} {d mc ms n0 uc us : Nat} {Q : xO → xH → Prop} {cl : Bool} {r0 : Nat} {u0 : Int32} {H : xH}
    (h : ∃ a1, gI H r0 12 5 a1 ∧ ((¬ a1 = 0 → xW l x d mc ms mMO_readShort n0 Q cl 20 [some (.ref r0), some (.int u0), none, none, none, none, none] [] H uc us) ∧ (a1 = 0 → (¬ (u0 - u0 / 16 * 16) = 8 → xW l x d mc ms mMO_readShort n0 Q cl 19 [some (.ref r0), some (.int u0), none, none, none, none, none] [.int 0, .int 12, .ref r0] H uc us) ∧ ((u0 - u0 / 16 * 16) = 8 → ((u0 / 16) ≤ 7 → xW l x d mc ms mMO_readShort n0 Q cl 20 [some (.ref r0), some (.int u0), none, none, none, none, none] [] H uc us) ∧ (¬ (u0 / 16) ≤ 7 → xW l x d mc ms mMO_readShort n0 Q cl 19 [some (.ref r0), some (.int u0), none, none, none, none, none] [.int 0, .int 12, .ref r0] H uc us))))) :
    xW l x d mc ms mMO_readShort n0 Q cl 2 [some (.ref r0), none, none, none, none, none, none] [.int u0] H uc us := by
  refine xs_istore_n rfl (L' := [some (.ref r0), some (.int u0), none, none, none, none, none]) rfl rfl ?_
  refine xs_aload_n rfl rfl ?_
  obtain ⟨a1, ⟨_, h1, h2⟩, h⟩ := h
  refine xs_getf rfl fl_12_115 h1 h2 ?_
  refine xs_if_ne (k' := 20) rfl rfl (fun hb => ?_) (fun hb => ?_)
  · have h := h.1 hb
    exact h
  · have h := h.2 hb
    refine xs_iload_n rfl rfl ?_
    refine xs_bipushV (v := 16) rfl rfl ?_
    refine xs_irem rfl (by decide) ?_
    refine xs_bipushV (v := 8) rfl rfl ?_
    refine xs_icmp_ne (k' := 16) rfl rfl (fun hb => ?_) (fun hb => ?_)
    · have h := h.1 hb
      refine xs_aload_n rfl rfl ?_
      refine xs_bipushV (v := 12) rfl rfl ?_
      refine xs_iconstV (v := 0) rfl rfl ?_
      exact h
    · have h := h.2 hb
      refine xs_iload_n rfl rfl ?_
      refine xs_bipushV (v := 16) rfl rfl ?_
      refine xs_idiv rfl (by decide) ?_
      refine xs_bipushV (v := 7) rfl rfl ?_
      refine xs_icmp_le (k' := 20) rfl rfl (fun hb => ?_) (fun hb => ?_)
      · have h := h.1 hb
        exact h
      · have h := h.2 hb
        refine xs_aload_n rfl rfl ?_
        refine xs_bipushV (v := 12) rfl rfl ?_
        refine xs_iconstV (v := 0) rfl rfl ?_
        exact h

set_option maxRecDepth 20000 in
theorem b_MO_readShort_20 {l : Launch} {x : xX} {d mc ms n0 uc us : Nat} {Q : xO → xH → Prop} {cl : Bool} {r0 : Nat} {v1 : Int32} {H : xH}
    (h : xW l x d mc ms mMO_readShort n0 Q cl 21 [some (.ref r0), some (.int v1), none, none, none, none, none] [.ref r0] H uc us) :
    xW l x d mc ms mMO_readShort n0 Q cl 20 [some (.ref r0), some (.int v1), none, none, none, none, none] [] H uc us := by
  refine xs_aload_n rfl rfl ?_
  exact h

set_option maxRecDepth 20000 in
theorem b_MO_readShort_22 {l : Launch} {x : xX} {d mc ms n0 uc us : Nat} {Q : xO → xH → Prop} {cl : Bool} {r0 : Nat} {v1 : Int32} {u0 : Int32} {H : xH}
    (h : ∃ a1, gI H r0 12 5 a1 ∧ ((¬ a1 = 0 → xW l x d mc ms mMO_readShort n0 Q cl 45 [some (.ref r0), some (.int v1), some (.int u0), none, none, none, none] [] H uc us) ∧ (a1 = 0 → (((u0 / 32) - (u0 / 32) / 2 * 2) = 1 → xW l x d mc ms mMO_readShort n0 Q cl 44 [some (.ref r0), some (.int v1), some (.int u0), none, none, none, none] [.int 8, .int 12, .ref r0] H uc us) ∧ (¬ ((u0 / 32) - (u0 / 32) / 2 * 2) = 1 → (((((256 : Int32) * v1) + u0) - (((256 : Int32) * v1) + u0) / 31 * 31) = 0 → xW l x d mc ms mMO_readShort n0 Q cl 45 [some (.ref r0), some (.int v1), some (.int u0), none, none, none, none] [] H uc us) ∧ (¬ ((((256 : Int32) * v1) + u0) - (((256 : Int32) * v1) + u0) / 31 * 31) = 0 → xW l x d mc ms mMO_readShort n0 Q cl 44 [some (.ref r0), some (.int v1), some (.int u0), none, none, none, none] [.int 8, .int 12, .ref r0] H uc us))))) :
    xW l x d mc ms mMO_readShort n0 Q cl 22 [some (.ref r0), some (.int v1), none, none, none, none, none] [.int u0] H uc us := by
  refine xs_istore_n rfl (L' := [some (.ref r0), some (.int v1), some (.int u0), none, none, none, none]) rfl rfl ?_
  refine xs_aload_n rfl rfl ?_
  obtain ⟨a1, ⟨_, h1, h2⟩, h⟩ := h
  refine xs_getf rfl fl_12_115 h1 h2 ?_
  refine xs_if_ne (k' := 45) rfl rfl (fun hb => ?_) (fun hb => ?_)
  · have h := h.1 hb
    exact h
  · have h := h.2 hb
    refine xs_iload_n rfl rfl ?_
    refine xs_bipushV (v := 32) rfl rfl ?_
    refine xs_idiv rfl (by decide) ?_
    refine xs_iconstV (v := 2) rfl rfl ?_
    refine xs_irem rfl (by decide) ?_
    refine xs_iconstV (v := 1) rfl rfl ?_
    refine xs_icmp_eq (k' := 41) rfl rfl (fun hb => ?_) (fun hb => ?_)
    · have h := h.1 hb
      refine xs_aload_n rfl rfl ?_
      refine xs_bipushV (v := 12) rfl rfl ?_
      refine xs_bipushV (v := 8) rfl rfl ?_
      exact h
    · have h := h.2 hb
      refine xs_sipushV (v := 256) rfl rfl ?_
      refine xs_iload_n rfl rfl ?_
      refine xs_imul rfl ?_
      refine xs_iload_n rfl rfl ?_
      refine xs_iadd rfl ?_
      refine xs_bipushV (v := 31) rfl rfl ?_
      refine xs_irem rfl (by decide) ?_
      refine xs_if_eq (k' := 45) rfl rfl (fun hb => ?_) (fun hb => ?_)
      · have h := h.1 hb
        exact h
      · have h := h.2 hb
        refine xs_aload_n rfl rfl ?_
        refine xs_bipushV (v := 12) rfl rfl ?_
        refine xs_bipushV (v := 8) rfl rfl ?_
        exact h

set_option maxRecDepth 20000 in
theorem b_MO_readShort_45 {l : Launch} {x : xX} {d mc ms n0 uc us : Nat} {Q : xO → xH → Prop} {cl : Bool} {r0 : Nat} {v1 : Int32} {v2 : Int32} {H : xH}
    (h : xW l x d mc ms mMO_readShort n0 Q cl 46 [some (.ref r0), some (.int v1), some (.int v2), none, none, none, none] [.ref r0] H uc us) :
    xW l x d mc ms mMO_readShort n0 Q cl 45 [some (.ref r0), some (.int v1), some (.int v2), none, none, none, none] [] H uc us := by
  refine xs_aload_n rfl rfl ?_
  exact h

set_option maxRecDepth 20000 in
theorem b_MO_readShort_47 {l : Launch} {x : xX} {d mc ms n0 uc us : Nat} {Q : xO → xH → Prop} {cl : Bool} {r0 : Nat} {v1 : Int32} {v2 : Int32} {H : xH}
    (h : xW l x d mc ms mMO_readShort n0 Q cl 48 [some (.ref r0), some (.int v1), some (.int v2), none, none, none, none] [.ref r0] H uc us) :
    xW l x d mc ms mMO_readShort n0 Q cl 47 [some (.ref r0), some (.int v1), some (.int v2), none, none, none, none] [] H uc us := by
  refine xs_aload_n rfl rfl ?_
  exact h

set_option maxRecDepth 20000 in
theorem b_MO_readShort_49 {l : Launch} {x : xX} {d mc ms n0 uc us : Nat} {Q : xO → xH → Prop} {cl : Bool} {r0 : Nat} {v1 : Int32} {v2 : Int32} {H : xH}
    (h : ∃ a1, gI H r0 12 13 a1 ∧ (xW l x d mc ms mMO_readShort n0 Q cl 56 [some (.ref r0), some (.int v1), some (.int v2), some (.int a1), some (.long 0), none, some (.int 0)] [] H uc us)) :
    xW l x d mc ms mMO_readShort n0 Q cl 49 [some (.ref r0), some (.int v1), some (.int v2), none, none, none, none] [] H uc us := by
  refine xs_aload_n rfl rfl ?_
  obtain ⟨a1, ⟨_, h1, h2⟩, h⟩ := h
  refine xs_getf rfl fl_12_118 h1 h2 ?_
  refine xs_istore_n rfl (L' := [some (.ref r0), some (.int v1), some (.int v2), some (.int a1), none, none, none]) rfl rfl ?_
  refine xs_lconstV (v := 0) rfl rfl ?_
  refine xs_lstore rfl (L' := [some (.ref r0), some (.int v1), some (.int v2), some (.int a1), some (.long 0), none, none]) rfl rfl ?_
  refine xs_iconstV (v := 0) rfl rfl ?_
  refine xs_istore rfl (L' := [some (.ref r0), some (.int v1), some (.int v2), some (.int a1), some (.long 0), none, some (.int 0)]) rfl rfl ?_
  exact h

set_option maxRecDepth 20000 in
theorem b_MO_readShort_56 {l : Launch} {x : xX} {d mc ms n0 uc us : Nat} {Q : xO → xH → Prop} {cl : Bool} {r0 : Nat} {v1 : Int32} {v2 : Int32} {v3 : Int32} {v4 : Int64} {v6 : Int32} {H : xH}
    (h : (4 ≤ v6 → ∃ a1, gI H r0 12 5 a1 ∧ ((¬ a1 = 0 → xW l x d mc ms mMO_readShort n0 Q cl 85 [some (.ref r0), some (.int v1), some (.int v2), some (.int v3), some (.long v4), none, some (.int v6)] [] H uc us) ∧ (a1 = 0 → ∃ p2, gR H r0 12 3 p2 ∧ (∃ a3, gI H r0 12 4 a3 ∧ (xW l x d mc ms mMO_readShort n0 Q cl 78 [some (.ref r0), some (.int v1), some (.int v2), some (.int v3), some (.long v4), none, some (.int v6)] [.int a3, .int 0, .ref p2, .long v4] H uc us))))) ∧ (¬ 4 ≤ v6 → xW l x d mc ms mMO_readShort n0 Q cl 63 [some (.ref r0), some (.int v1), some (.int v2), some (.int v3), some (.long v4), none, some (.int v6)] [.ref r0, .long ((256 : Int64) * v4)] H uc us)) :
    xW l x d mc ms mMO_readShort n0 Q cl 56 [some (.ref r0), some (.int v1), some (.int v2), some (.int v3), some (.long v4), none, some (.int v6)] [] H uc us := by
  refine xs_iload rfl rfl ?_
  refine xs_iconstV (v := 4) rfl rfl ?_
  refine xs_icmp_ge (k' := 69) rfl rfl (fun hb => ?_) (fun hb => ?_)
  · have h := h.1 hb
    refine xs_aload_n rfl rfl ?_
    obtain ⟨a1, ⟨_, h1, h2⟩, h⟩ := h
    refine xs_getf rfl fl_12_115 h1 h2 ?_
    refine xs_if_ne (k' := 85) rfl rfl (fun hb => ?_) (fun hb => ?_)
    · have h := h.1 hb
      exact h
    · have h := h.2 hb
      refine xs_lload rfl rfl ?_
      refine xs_aload_n rfl rfl ?_
      obtain ⟨p2, ⟨_, h1, h2⟩, h⟩ := h
      refine xs_getf rfl fl_12_15 h1 h2 ?_
      refine xs_iconstV (v := 0) rfl rfl ?_
      refine xs_aload_n rfl rfl ?_
      obtain ⟨a3, ⟨_, h1, h2⟩, h⟩ := h
      refine xs_getf rfl fl_12_146 h1 h2 ?_
      exact h
  · have h := h.2 hb
    refine xs_ldc2 rfl kl_12_196 ?_
    refine xs_lload rfl rfl ?_
    refine xs_lmul rfl ?_
    refine xs_aload_n rfl rfl ?_
    exact h

set_option maxRecDepth 20000 in
theorem b_MO_readShort_64 {l : Launch} {x : xX} {d mc ms n0 uc us : Nat} {Q : xO → xH → Prop} {cl : Bool} {r0 : Nat} {v1 : Int32} {v2 : Int32} {v3 : Int32} {v4 : Int64} {v6 : Int32} {u0 : Int64} {u1 : Int32} {H : xH}
    (h : xW l x d mc ms mMO_readShort n0 Q cl 56 [some (.ref r0), some (.int v1), some (.int v2), some (.int v3), some (.long (u0 + u1.toInt64)), none, some (.int (v6 + 1))] [] H uc us) :
    xW l x d mc ms mMO_readShort n0 Q cl 64 [some (.ref r0), some (.int v1), some (.int v2), some (.int v3), some (.long v4), none, some (.int v6)] [.int u1, .long u0] H uc us := by
  refine xs_i2l rfl ?_
  refine xs_ladd rfl ?_
  refine xs_lstore rfl (L' := [some (.ref r0), some (.int v1), some (.int v2), some (.int v3), some (.long (u0 + u1.toInt64)), none, some (.int v6)]) rfl rfl ?_
  refine xs_iincV rfl (w := 1) rfl rfl (L' := [some (.ref r0), some (.int v1), some (.int v2), some (.int v3), some (.long (u0 + u1.toInt64)), none, some (.int (v6 + 1))]) rfl rfl ?_
  refine xs_goto (k' := 56) rfl rfl ?_
  exact h

set_option maxRecDepth 20000 in
theorem b_MO_readShort_79 {l : Launch} {x : xX} {d mc ms n0 uc us : Nat} {Q : xO → xH → Prop} {cl : Bool} {r0 : Nat} {v1 : Int32} {v2 : Int32} {v3 : Int32} {v4 : Int64} {v6 : Int32} {u0 : Int64} {u1 : Int64} {H : xH}
    (h : ((lg_cmp u0 u1) = 0 → xW l x d mc ms mMO_readShort n0 Q cl 85 [some (.ref r0), some (.int v1), some (.int v2), some (.int v3), some (.long v4), none, some (.int v6)] [] H uc us) ∧ (¬ (lg_cmp u0 u1) = 0 → xW l x d mc ms mMO_readShort n0 Q cl 84 [some (.ref r0), some (.int v1), some (.int v2), some (.int v3), some (.long v4), none, some (.int v6)] [.int v3, .int 13, .ref r0] H uc us)) :
    xW l x d mc ms mMO_readShort n0 Q cl 79 [some (.ref r0), some (.int v1), some (.int v2), some (.int v3), some (.long v4), none, some (.int v6)] [.long u1, .long u0] H uc us := by
  refine xs_lcmp rfl ?_
  refine xs_if_eq (k' := 85) rfl rfl (fun hb => ?_) (fun hb => ?_)
  · have h := h.1 hb
    exact h
  · have h := h.2 hb
    refine xs_aload_n rfl rfl ?_
    refine xs_bipushV (v := 13) rfl rfl ?_
    refine xs_iload_n rfl rfl ?_
    exact h

set_option maxRecDepth 20000 in
theorem b_MO_readShort_85 {l : Launch} {x : xX} {d mc ms n0 uc us : Nat} {Q : xO → xH → Prop} {cl : Bool} {r0 : Nat} {v1 : Int32} {v2 : Int32} {v3 : Int32} {v4 : Int64} {v6 : Int32} {H : xH}
    (h : xW l x d mc ms mMO_readShort n0 Q cl 86 [some (.ref r0), some (.int v1), some (.int v2), some (.int v3), some (.long v4), none, some (.int v6)] [.ref r0] H uc us) :
    xW l x d mc ms mMO_readShort n0 Q cl 85 [some (.ref r0), some (.int v1), some (.int v2), some (.int v3), some (.long v4), none, some (.int v6)] [] H uc us := by
  refine xs_aload_n rfl rfl ?_
  exact h

set_option maxRecDepth 20000 in
theorem b_MO_readShort_87 {l : Launch} {x : xX} {d mc ms n0 uc us : Nat} {Q : xO → xH → Prop} {cl : Bool} {r0 : Nat} {v1 : Int32} {v2 : Int32} {v3 : Int32} {v4 : Int64} {v6 : Int32} {H : xH}
    (h : uc = mc ∧ us ≤ ms ∧ Q (.inl none) H) :
    xW l x d mc ms mMO_readShort n0 Q cl 87 [some (.ref r0), some (.int v1), some (.int v2), some (.int v3), some (.long v4), none, some (.int v6)] [] H uc us := by
  exact xs_vret rfl rfl h.1 h.2.1 h.2.2

set_option maxRecDepth 20000 in
theorem b_MO_wrapped_0 {l : Launch} {x : xX} {d mc ms n0 uc us : Nat} {Q : xO → xH → Prop} {cl : Bool} {r0 : Nat} {H : xH}
    (h : xW l x d mc ms mMO_wrapped n0 Q cl 2 [some (.ref r0)] [.int 8, .ref r0] H uc us) :
    xW l x d mc ms mMO_wrapped n0 Q cl 0 [some (.ref r0)] [] H uc us := by
  refine xs_aload_n rfl rfl ?_
  refine xs_bipushV (v := 8) rfl rfl ?_
  exact h

set_option maxRecDepth 20000 in
theorem b_MO_wrapped_3 {l : Launch} {x : xX} {d mc ms n0 uc us : Nat} {Q : xO → xH → Prop} {cl : Bool} {r0 : Nat} {u0 : Int32} {H : xH}
    (h : uc = mc ∧ us ≤ ms ∧ Q (.inl (some (.int u0))) H) :
    xW l x d mc ms mMO_wrapped n0 Q cl 3 [some (.ref r0)] [.int u0] H uc us := by
  exact xs_iret rfl rfl h.1 h.2.1 h.2.2

set_option maxRecDepth 20000 in
theorem b_MO_readLong_0 {l : Launch} {x : xX} {d mc ms n0 uc us : Nat} {Q : xO → xH → Prop} {cl : Bool} {r0 : Nat} {H : xH}
    (h : xW l x d mc ms mMO_readLong n0 Q cl 2 [some (.ref r0), some (.int 1), none, none, none] [] H uc us) :
    xW l x d mc ms mMO_readLong n0 Q cl 0 [some (.ref r0), none, none, none, none] [] H uc us := by
  refine xs_iconstV (v := 1) rfl rfl ?_
  refine xs_istore_n rfl (L' := [some (.ref r0), some (.int 1), none, none, none]) rfl rfl ?_
  exact h

set_option maxRecDepth 20000 in
theorem b_MO_readLong_2 {l : Launch} {x : xX} {d mc ms n0 uc us : Nat} {Q : xO → xH → Prop} {cl : Bool} {r0 : Nat} {v1 : Int32} {H : xH}
    (h : (v1 = 0 → uc = mc ∧ us ≤ ms ∧ Q (.inl none) H) ∧ (¬ v1 = 0 → ∃ a1, gI H r0 12 5 a1 ∧ ((¬ a1 = 0 → uc = mc ∧ us ≤ ms ∧ Q (.inl none) H) ∧ (a1 = 0 → ∃ a2, gI H r0 12 4 a2 ∧ (∃ c3, H[(r0 : Nat)]? = some (.inr (12, c3)) ∧ 14 < c3.length ∧ (∀ H4 : xH, H4 = H.set r0 (.inr (12, c3.set 14 (.int a2))) → xW l x d mc ms mMO_readLong n0 Q false 12 [some (.ref r0), some (.int v1), none, none, none] [.ref r0] H4 uc us)))))) :
    xW l x d mc ms mMO_readLong n0 Q cl 2 [some (.ref r0), some (.int v1), none, none, none] [] H uc us := by
  refine xs_iload_n rfl rfl ?_
  refine xs_if_eq (k' := 77) rfl rfl (fun hb => ?_) (fun hb => ?_)
  · have h := h.1 hb
    exact xs_vret rfl rfl h.1 h.2.1 h.2.2
  · have h := h.2 hb
    refine xs_aload_n rfl rfl ?_
    obtain ⟨a1, ⟨_, h1, h2⟩, h⟩ := h
    refine xs_getf rfl fl_12_115 h1 h2 ?_
    refine xs_if_ne (k' := 77) rfl rfl (fun hb => ?_) (fun hb => ?_)
    · have h := h.1 hb
      exact xs_vret rfl rfl h.1 h.2.1 h.2.2
    · have h := h.2 hb
      refine xs_aload_n rfl rfl ?_
      refine xs_aload_n rfl rfl ?_
      obtain ⟨a2, ⟨_, h1, h2⟩, h⟩ := h
      refine xs_getf rfl fl_12_146 h1 h2 ?_
      obtain ⟨c3, h1, h2, h⟩ := h
      refine xs_putf rfl fl_12_152 h1 (fun q hq => by cases hq; rfl) rfl h2 ?_
      have h := h _ rfl
      generalize H.set r0 (.inr (12, c3.set 14 (.int a2))) = H4 at h ⊢
      refine xs_aload_n rfl rfl ?_
      exact h

set_option maxRecDepth 20000 in
theorem b_MO_readLong_13 {l : Launch} {x : xX} {d mc ms n0 uc us : Nat} {Q : xO → xH → Prop} {cl : Bool} {r0 : Nat} {v1 : Int32} {H : xH}
    (h : ∃ a1, gI H r0 12 5 a1 ∧ ((¬ a1 = 0 → xW l x d mc ms mMO_readLong n0 Q cl 18 [some (.ref r0), some (.int v1), none, none, none] [] H uc us) ∧ (a1 = 0 → xW l x d mc ms mMO_readLong n0 Q cl 17 [some (.ref r0), some (.int v1), none, none, none] [.ref r0] H uc us))) :
    xW l x d mc ms mMO_readLong n0 Q cl 13 [some (.ref r0), some (.int v1), none, none, none] [] H uc us := by
  refine xs_aload_n rfl rfl ?_
  obtain ⟨a1, ⟨_, h1, h2⟩, h⟩ := h
  refine xs_getf rfl fl_12_115 h1 h2 ?_
  refine xs_if_ne (k' := 18) rfl rfl (fun hb => ?_) (fun hb => ?_)
  · have h := h.1 hb
    exact h
  · have h := h.2 hb
    refine xs_aload_n rfl rfl ?_
    exact h

set_option maxRecDepth 20000 in
theorem b_MO_readLong_18 {l : Launch} {x : xX} {d mc ms n0 uc us : Nat} {Q : xO → xH → Prop} {cl : Bool} {r0 : Nat} {v1 : Int32} {H : xH}
    (h : xW l x d mc ms mMO_readLong n0 Q cl 19 [some (.ref r0), some (.int v1), none, none, none] [.ref r0] H uc us) :
    xW l x d mc ms mMO_readLong n0 Q cl 18 [some (.ref r0), some (.int v1), none, none, none] [] H uc us := by
  refine xs_aload_n rfl rfl ?_
  exact h

set_option maxRecDepth 20000 in
theorem b_MO_readLong_20 {l : Launch} {x : xX} {d mc ms n0 uc us : Nat} {Q : xO → xH → Prop} {cl : Bool} {r0 : Nat} {v1 : Int32} {H : xH}
    (h : ∃ a1, gI H r0 12 13 a1 ∧ (xW l x d mc ms mMO_readLong n0 Q cl 24 [some (.ref r0), some (.int v1), some (.int a1), none, none] [.ref r0] H uc us)) :
    xW l x d mc ms mMO_readLong n0 Q cl 20 [some (.ref r0), some (.int v1), none, none, none] [] H uc us := by
  refine xs_aload_n rfl rfl ?_
  obtain ⟨a1, ⟨_, h1, h2⟩, h⟩ := h
  refine xs_getf rfl fl_12_118 h1 h2 ?_
  refine xs_istore_n rfl (L' := [some (.ref r0), some (.int v1), some (.int a1), none, none]) rfl rfl ?_
  refine xs_aload_n rfl rfl ?_
  exact h

set_option maxRecDepth 20000 in
theorem b_MO_readLong_25 {l : Launch} {x : xX} {d mc ms n0 uc us : Nat} {Q : xO → xH → Prop} {cl : Bool} {r0 : Nat} {v1 : Int32} {v2 : Int32} {u0 : Int64} {H : xH}
    (h : ∃ a1, gI H r0 12 5 a1 ∧ ((¬ a1 = 0 → xW l x d mc ms mMO_readLong n0 Q cl 43 [some (.ref r0), some (.int v1), some (.int v2), some (.long u0), none] [] H uc us) ∧ (a1 = 0 → ∃ p2, gR H r0 12 3 p2 ∧ (∃ a3, gI H r0 12 14 a3 ∧ (∃ a4, gI H r0 12 4 a4 ∧ (xW l x d mc ms mMO_readLong n0 Q cl 36 [some (.ref r0), some (.int v1), some (.int v2), some (.long u0), none] [.int a4, .int a3, .ref p2, .long u0] H uc us)))))) :
    xW l x d mc ms mMO_readLong n0 Q cl 25 [some (.ref r0), some (.int v1), some (.int v2), none, none] [.long u0] H uc us := by
  refine xs_lstore_n rfl (L' := [some (.ref r0), some (.int v1), some (.int v2), some (.long u0), none]) rfl rfl ?_
  refine xs_aload_n rfl rfl ?_
  obtain ⟨a1, ⟨_, h1, h2⟩, h⟩ := h
  refine xs_getf rfl fl_12_115 h1 h2 ?_
  refine xs_if_ne (k' := 43) rfl rfl (fun hb => ?_) (fun hb => ?_)
  · have h := h.1 hb
    exact h
  · have h := h.2 hb
    refine xs_lload_n rfl rfl ?_
    refine xs_aload_n rfl rfl ?_
    obtain ⟨p2, ⟨_, h1, h2⟩, h⟩ := h
    refine xs_getf rfl fl_12_15 h1 h2 ?_
    refine xs_aload_n rfl rfl ?_
    obtain ⟨a3, ⟨_, h1, h2⟩, h⟩ := h
    refine xs_getf rfl fl_12_152 h1 h2 ?_
    refine xs_aload_n rfl rfl ?_
    obtain ⟨a4, ⟨_, h1, h2⟩, h⟩ := h
    refine xs_getf rfl fl_12_146 h1 h2 ?_
    exact h

set_option maxRecDepth 20000 in
theorem b_MO_readLong_37 {l : Launch} {x : xX} {d mc ms n0 uc us : Nat} {Q : xO → xH → Prop} {cl : Bool} {r0 : Nat} {v1 : Int32} {v2 : Int32} {v3 : Int64} {u0 : Int64} {u1 : Int64} {H : xH}
    (h : ((lg_cmp u0 u1) = 0 → xW l x d mc ms mMO_readLong n0 Q cl 43 [some (.ref r0), some (.int v1), some (.int v2), some (.long v3), none] [] H uc us) ∧ (¬ (lg_cmp u0 u1) = 0 → xW l x d mc ms mMO_readLong n0 Q cl 42 [some (.ref r0), some (.int v1), some (.int v2), some (.long v3), none] [.int v2, .int 13, .ref r0] H uc us)) :
    xW l x d mc ms mMO_readLong n0 Q cl 37 [some (.ref r0), some (.int v1), some (.int v2), some (.long v3), none] [.long u1, .long u0] H uc us := by
  refine xs_lcmp rfl ?_
  refine xs_if_eq (k' := 43) rfl rfl (fun hb => ?_) (fun hb => ?_)
  · have h := h.1 hb
    exact h
  · have h := h.2 hb
    refine xs_aload_n rfl rfl ?_
    refine xs_bipushV (v := 13) rfl rfl ?_
    refine xs_iload_n rfl rfl ?_
    exact h

set_option maxRecDepth 20000 in
theorem b_MO_readLong_43 {l : Launch} {x : xX} {d mc ms n0 uc us : Nat} {Q : xO → xH → Prop} {cl : Bool} {r0 : Nat} {v1 : Int32} {v2 : Int32} {v3 : Int64} {H : xH}
    (h : ∃ a1, gI H r0 12 13 a1 ∧ (xW l x d mc ms mMO_readLong n0 Q cl 47 [some (.ref r0), some (.int v1), some (.int a1), some (.long v3), none] [.ref r0] H uc us)) :
    xW l x d mc ms mMO_readLong n0 Q cl 43 [some (.ref r0), some (.int v1), some (.int v2), some (.long v3), none] [] H uc us := by
  refine xs_aload_n rfl rfl ?_
  obtain ⟨a1, ⟨_, h1, h2⟩, h⟩ := h
  refine xs_getf rfl fl_12_118 h1 h2 ?_
  refine xs_istore_n rfl (L' := [some (.ref r0), some (.int v1), some (.int a1), some (.long v3), none]) rfl rfl ?_
  refine xs_aload_n rfl rfl ?_
  exact h

set_option maxRecDepth 20000 in
theorem b_MO_readLong_48 {l : Launch} {x : xX} {d mc ms n0 uc us : Nat} {Q : xO → xH → Prop} {cl : Bool} {r0 : Nat} {v1 : Int32} {v2 : Int32} {v3 : Int64} {u0 : Int64} {H : xH}
    (h : ∃ a1, gI H r0 12 5 a1 ∧ ((¬ a1 = 0 → xW l x d mc ms mMO_readLong n0 Q cl 65 [some (.ref r0), some (.int v1), some (.int v2), some (.long u0), none] [] H uc us) ∧ (a1 = 0 → ∃ a2, gI H r0 12 4 a2 ∧ (∃ a3, gI H r0 12 14 a3 ∧ (((lg_cmp u0 (a2 - a3).toInt64) = 0 → xW l x d mc ms mMO_readLong n0 Q cl 65 [some (.ref r0), some (.int v1), some (.int v2), some (.long u0), none] [] H uc us) ∧ (¬ (lg_cmp u0 (a2 - a3).toInt64) = 0 → xW l x d mc ms mMO_readLong n0 Q cl 64 [some (.ref r0), some (.int v1), some (.int v2), some (.long u0), none] [.int v2, .int 14, .ref r0] H uc us)))))) :
    xW l x d mc ms mMO_readLong n0 Q cl 48 [some (.ref r0), some (.int v1), some (.int v2), some (.long v3), none] [.long u0] H uc us := by
  refine xs_lstore_n rfl (L' := [some (.ref r0), some (.int v1), some (.int v2), some (.long u0), none]) rfl rfl ?_
  refine xs_aload_n rfl rfl ?_
  obtain ⟨a1, ⟨_, h1, h2⟩, h⟩ := h
  refine xs_getf rfl fl_12_115 h1 h2 ?_
  refine xs_if_ne (k' := 65) rfl rfl (fun hb => ?_) (fun hb => ?_)
  · have h := h.1 hb
    exact h
  · have h := h.2 hb
    refine xs_lload_n rfl rfl ?_
    refine xs_aload_n rfl rfl ?_
    obtain ⟨a2, ⟨_, h1, h2⟩, h⟩ := h
    refine xs_getf rfl fl_12_146 h1 h2 ?_
    refine xs_aload_n rfl rfl ?_
    obtain ⟨a3, ⟨_, h1, h2⟩, h⟩ := h
    refine xs_getf rfl fl_12_152 h1 h2 ?_
    refine xs_isub rfl ?_
    refine xs_i2l rfl ?_
    refine xs_lcmp rfl ?_
    refine xs_if_eq (k' := 65) rfl rfl (fun hb => ?_) (fun hb => ?_)
    · have h := h.1 hb
      exact h
    · have h := h.2 hb
      refine xs_aload_n rfl rfl ?_
      refine xs_bipushV (v := 14) rfl rfl ?_
      refine xs_iload_n rfl rfl ?_
      exact h

set_option maxRecDepth 20000 in
theorem b_MO_readLong_65 {l : Launch} {x : xX} {d mc ms n0 uc us : Nat} {Q : xO → xH → Prop} {cl : Bool} {r0 : Nat} {v1 : Int32} {v2 : Int32} {v3 : Int64} {H : xH}
    (h : ∃ a1, gI H r0 12 13 a1 ∧ (∃ a2, gI H r0 12 2 a2 ∧ ((((8 : Int32) * a2) ≤ a1 → xW l x d mc ms mMO_readLong n0 Q cl 2 [some (.ref r0), some (.int 0), some (.int v2), some (.long v3), none] [] H uc us) ∧ (¬ ((8 : Int32) * a2) ≤ a1 → xW l x d mc ms mMO_readLong n0 Q cl 2 [some (.ref r0), some (.int 1), some (.int v2), some (.long v3), none] [] H uc us)))) :
    xW l x d mc ms mMO_readLong n0 Q cl 65 [some (.ref r0), some (.int v1), some (.int v2), some (.long v3), none] [] H uc us := by
  refine xs_aload_n rfl rfl ?_
  obtain ⟨a1, ⟨_, h1, h2⟩, h⟩ := h
  refine xs_getf rfl fl_12_118 h1 h2 ?_
  refine xs_bipushV (v := 8) rfl rfl ?_
  refine xs_aload_n rfl rfl ?_
  obtain ⟨a2, ⟨_, h1, h2⟩, h⟩ := h
  refine xs_getf rfl fl_12_82 h1 h2 ?_
  refine xs_imul rfl ?_
  refine xs_icmp_ge (k' := 74) rfl rfl (fun hb => ?_) (fun hb => ?_)
  · have h := h.1 hb
    refine xs_iconstV (v := 0) rfl rfl ?_
    refine xs_istore_n rfl (L' := [some (.ref r0), some (.int 0), some (.int v2), some (.long v3), none]) rfl rfl ?_
    refine xs_goto (k' := 2) rfl rfl ?_
    exact h
  · have h := h.2 hb
    refine xs_iconstV (v := 1) rfl rfl ?_
    refine xs_goto (k' := 75) rfl rfl ?_
    refine xs_istore_n rfl (L' := [some (.ref r0), some (.int 1), some (.int v2), some (.long v3), none]) rfl rfl ?_
    refine xs_goto (k' := 2) rfl rfl ?_
    exact h

set_option maxRecDepth 20000 in
theorem b_MO_readHead_0 {l : Launch} {x : xX} {d mc ms n0 uc us : Nat} {Q : xO → xH → Prop} {cl : Bool} {r0 : Nat} {H : xH}
    (h : ∃ a1, gI H r0 12 13 a1 ∧ (xW l x d mc ms mMO_readHead n0 Q cl 7 [some (.ref r0), some (.int (a1 / 8)), none, none, none] [.int 31, .ref r0] H uc us)) :
    xW l x d mc ms mMO_readHead n0 Q cl 0 [some (.ref r0), none, none, none, none] [] H uc us := by
  refine xs_aload_n rfl rfl ?_
  obtain ⟨a1, ⟨_, h1, h2⟩, h⟩ := h
  refine xs_getf rfl fl_12_118 h1 h2 ?_
  refine xs_bipushV (v := 8) rfl rfl ?_
  refine xs_idiv rfl (by decide) ?_
  refine xs_istore_n rfl (L' := [some (.ref r0), some (.int (a1 / 8)), none, none, none]) rfl rfl ?_
  refine xs_aload_n rfl rfl ?_
  refine xs_bipushV (v := 31) rfl rfl ?_
  exact h

set_option maxRecDepth 20000 in
theorem b_MO_readHead_8 {l : Launch} {x : xX} {d mc ms n0 uc us : Nat} {Q : xO → xH → Prop} {cl : Bool} {r0 : Nat} {v1 : Int32} {H : xH}
    (h : xW l x d mc ms mMO_readHead n0 Q cl 10 [some (.ref r0), some (.int v1), none, none, none] [.int 139, .ref r0] H uc us) :
    xW l x d mc ms mMO_readHead n0 Q cl 8 [some (.ref r0), some (.int v1), none, none, none] [] H uc us := by
  refine xs_aload_n rfl rfl ?_
  refine xs_sipushV (v := 139) rfl rfl ?_
  exact h

set_option maxRecDepth 20000 in
theorem b_MO_readHead_11 {l : Launch} {x : xX} {d mc ms n0 uc us : Nat} {Q : xO → xH → Prop} {cl : Bool} {r0 : Nat} {v1 : Int32} {H : xH}
    (h : xW l x d mc ms mMO_readHead n0 Q cl 13 [some (.ref r0), some (.int v1), none, none, none] [.int 8, .ref r0] H uc us) :
    xW l x d mc ms mMO_readHead n0 Q cl 11 [some (.ref r0), some (.int v1), none, none, none] [] H uc us := by
  refine xs_aload_n rfl rfl ?_
  refine xs_bipushV (v := 8) rfl rfl ?_
  exact h

set_option maxRecDepth 20000 in
theorem b_MO_readHead_14 {l : Launch} {x : xX} {d mc ms n0 uc us : Nat} {Q : xO → xH → Prop} {cl : Bool} {r0 : Nat} {v1 : Int32} {H : xH}
    (h : ∃ a1, gI H r0 12 13 a1 ∧ (xW l x d mc ms mMO_readHead n0 Q cl 18 [some (.ref r0), some (.int v1), some (.int a1), none, none] [.ref r0] H uc us)) :
    xW l x d mc ms mMO_readHead n0 Q cl 14 [some (.ref r0), some (.int v1), none, none, none] [] H uc us := by
  refine xs_aload_n rfl rfl ?_
  obtain ⟨a1, ⟨_, h1, h2⟩, h⟩ := h
  refine xs_getf rfl fl_12_118 h1 h2 ?_
  refine xs_istore_n rfl (L' := [some (.ref r0), some (.int v1), some (.int a1), none, none]) rfl rfl ?_
  refine xs_aload_n rfl rfl ?_
  exact h

set_option maxRecDepth 20000 in
theorem b_MO_readHead_19 {l : Launch} {x : xX} {d mc ms n0 uc us : Nat} {Q : xO → xH → Prop} {cl : Bool} {r0 : Nat} {v1 : Int32} {v2 : Int32} {u0 : Int32} {H : xH}
    (h : ∃ a1, gI H r0 12 5 a1 ∧ ((¬ a1 = 0 → xW l x d mc ms mMO_readHead n0 Q cl 30 [some (.ref r0), some (.int v1), some (.int v2), some (.int u0), none] [] H uc us) ∧ (a1 = 0 → (u0 ≤ 31 → xW l x d mc ms mMO_readHead n0 Q cl 30 [some (.ref r0), some (.int v1), some (.int v2), some (.int u0), none] [] H uc us) ∧ (¬ u0 ≤ 31 → xW l x d mc ms mMO_readHead n0 Q cl 29 [some (.ref r0), some (.int v1), some (.int v2), some (.int u0), none] [.int v2, .int 12, .ref r0] H uc us)))) :
    xW l x d mc ms mMO_readHead n0 Q cl 19 [some (.ref r0), some (.int v1), some (.int v2), none, none] [.int u0] H uc us := by
  refine xs_istore_n rfl (L' := [some (.ref r0), some (.int v1), some (.int v2), some (.int u0), none]) rfl rfl ?_
  refine xs_aload_n rfl rfl ?_
  obtain ⟨a1, ⟨_, h1, h2⟩, h⟩ := h
  refine xs_getf rfl fl_12_115 h1 h2 ?_
  refine xs_if_ne (k' := 30) rfl rfl (fun hb => ?_) (fun hb => ?_)
  · have h := h.1 hb
    exact h
  · have h := h.2 hb
    refine xs_iload_n rfl rfl ?_
    refine xs_bipushV (v := 31) rfl rfl ?_
    refine xs_icmp_le (k' := 30) rfl rfl (fun hb => ?_) (fun hb => ?_)
    · have h := h.1 hb
      exact h
    · have h := h.2 hb
      refine xs_aload_n rfl rfl ?_
      refine xs_bipushV (v := 12) rfl rfl ?_
      refine xs_iload_n rfl rfl ?_
      exact h

set_option maxRecDepth 20000 in
theorem b_MO_readHead_30 {l : Launch} {x : xX} {d mc ms n0 uc us : Nat} {Q : xO → xH → Prop} {cl : Bool} {r0 : Nat} {v1 : Int32} {v2 : Int32} {v3 : Int32} {H : xH}
    (h : xW l x d mc ms mMO_readHead n0 Q cl 32 [some (.ref r0), some (.int v1), some (.int v2), some (.int v3), none] [.int 6, .ref r0] H uc us) :
    xW l x d mc ms mMO_readHead n0 Q cl 30 [some (.ref r0), some (.int v1), some (.int v2), some (.int v3), none] [] H uc us := by
  refine xs_aload_n rfl rfl ?_
  refine xs_bipushV (v := 6) rfl rfl ?_
  exact h

set_option maxRecDepth 20000 in
theorem b_MO_readHead_33 {l : Launch} {x : xX} {d mc ms n0 uc us : Nat} {Q : xO → xH → Prop} {cl : Bool} {r0 : Nat} {v1 : Int32} {v2 : Int32} {v3 : Int32} {H : xH}
    (h : ((v3 &&& 4) = 0 → xW l x d mc ms mMO_readHead n0 Q cl 42 [some (.ref r0), some (.int v1), some (.int v2), some (.int v3), none] [] H uc us) ∧ (¬ (v3 &&& 4) = 0 → xW l x d mc ms mMO_readHead n0 Q cl 40 [some (.ref r0), some (.int v1), some (.int v2), some (.int v3), none] [.int 16, .ref r0, .ref r0] H uc us)) :
    xW l x d mc ms mMO_readHead n0 Q cl 33 [some (.ref r0), some (.int v1), some (.int v2), some (.int v3), none] [] H uc us := by
  refine xs_iload_n rfl rfl ?_
  refine xs_iconstV (v := 4) rfl rfl ?_
  refine xs_iand rfl ?_
  refine xs_if_eq (k' := 42) rfl rfl (fun hb => ?_) (fun hb => ?_)
  · have h := h.1 hb
    exact h
  · have h := h.2 hb
    refine xs_aload_n rfl rfl ?_
    refine xs_aload_n rfl rfl ?_
    refine xs_bipushV (v := 16) rfl rfl ?_
    exact h

-- b_MO_readHead_41: .invokevirtual 204
set_option maxRecDepth 20000 in
theorem b_MO_readHead_42 {l : Launch} {x : xX} {d mc ms n0 uc us : Nat} {Q : xO → xH → Prop} {cl : Bool} {r0 : Nat} {v1 : Int32} {v2 : Int32} {v3 : Int32} {H : xH}
    (h : ((v3 &&& 8) = 0 → xW l x d mc ms mMO_readHead n0 Q cl 48 [some (.ref r0), some (.int v1), some (.int v2), some (.int v3), none] [] H uc us) ∧ (¬ (v3 &&& 8) = 0 → xW l x d mc ms mMO_readHead n0 Q cl 47 [some (.ref r0), some (.int v1), some (.int v2), some (.int v3), none] [.ref r0] H uc us)) :
    xW l x d mc ms mMO_readHead n0 Q cl 42 [some (.ref r0), some (.int v1), some (.int v2), some (.int v3), none] [] H uc us := by
  refine xs_iload_n rfl rfl ?_
  refine xs_bipushV (v := 8) rfl rfl ?_
  refine xs_iand rfl ?_
  refine xs_if_eq (k' := 48) rfl rfl (fun hb => ?_) (fun hb => ?_)
  · have h := h.1 hb
    exact h
  · have h := h.2 hb
    refine xs_aload_n rfl rfl ?_
    exact h

set_option maxRecDepth 20000 in
theorem b_MO_readHead_48 {l : Launch} {x : xX} {d mc ms n0 uc us : Nat} {Q : xO → xH → Prop} {cl : Bool} {r0 : Nat} {v1 : Int32} {v2 : Int32} {v3 : Int32} {H : xH}
    (h : ((v3 &&& 16) = 0 → xW l x d mc ms mMO_readHead n0 Q cl 54 [some (.ref r0), some (.int v1), some (.int v2), some (.int v3), none] [] H uc us) ∧ (¬ (v3 &&& 16) = 0 → xW l x d mc ms mMO_readHead n0 Q cl 53 [some (.ref r0), some (.int v1), some (.int v2), some (.int v3), none] [.ref r0] H uc us)) :
    xW l x d mc ms mMO_readHead n0 Q cl 48 [some (.ref r0), some (.int v1), some (.int v2), some (.int v3), none] [] H uc us := by
  refine xs_iload_n rfl rfl ?_
  refine xs_bipushV (v := 16) rfl rfl ?_
  refine xs_iand rfl ?_
  refine xs_if_eq (k' := 54) rfl rfl (fun hb => ?_) (fun hb => ?_)
  · have h := h.1 hb
    exact h
  · have h := h.2 hb
    refine xs_aload_n rfl rfl ?_
    exact h

set_option maxRecDepth 20000 in
theorem b_MO_readHead_54 {l : Launch} {x : xX} {d mc ms n0 uc us : Nat} {Q : xO → xH → Prop} {cl : Bool} {r0 : Nat} {v1 : Int32} {v2 : Int32} {v3 : Int32} {H : xH}
    (h : ((v3 &&& 2) = 0 → xW l x d mc ms mMO_readHead n0 Q cl 84 [some (.ref r0), some (.int v1), some (.int v2), some (.int v3), none] [] H uc us) ∧ (¬ (v3 &&& 2) = 0 → ∃ a1, gI H r0 12 13 a1 ∧ (xW l x d mc ms mMO_readHead n0 Q cl 63 [some (.ref r0), some (.int v1), some (.int a1), some (.int v3), none] [.int 16, .ref r0] H uc us))) :
    xW l x d mc ms mMO_readHead n0 Q cl 54 [some (.ref r0), some (.int v1), some (.int v2), some (.int v3), none] [] H uc us := by
  refine xs_iload_n rfl rfl ?_
  refine xs_iconstV (v := 2) rfl rfl ?_
  refine xs_iand rfl ?_
  refine xs_if_eq (k' := 84) rfl rfl (fun hb => ?_) (fun hb => ?_)
  · have h := h.1 hb
    exact h
  · have h := h.2 hb
    refine xs_aload_n rfl rfl ?_
    obtain ⟨a1, ⟨_, h1, h2⟩, h⟩ := h
    refine xs_getf rfl fl_12_118 h1 h2 ?_
    refine xs_istore_n rfl (L' := [some (.ref r0), some (.int v1), some (.int a1), some (.int v3), none]) rfl rfl ?_
    refine xs_aload_n rfl rfl ?_
    refine xs_bipushV (v := 16) rfl rfl ?_
    exact h

set_option maxRecDepth 20000 in
theorem b_MO_readHead_64 {l : Launch} {x : xX} {d mc ms n0 uc us : Nat} {Q : xO → xH → Prop} {cl : Bool} {r0 : Nat} {v1 : Int32} {v2 : Int32} {v3 : Int32} {u0 : Int32} {H : xH}
    (h : ∃ a1, gI H r0 12 5 a1 ∧ ((¬ a1 = 0 → xW l x d mc ms mMO_readHead n0 Q cl 84 [some (.ref r0), some (.int v1), some (.int v2), some (.int v3), some (.int u0)] [] H uc us) ∧ (a1 = 0 → ∃ p2, gR H r0 12 1 p2 ∧ (xW l x d mc ms mMO_readHead n0 Q cl 75 [some (.ref r0), some (.int v1), some (.int v2), some (.int v3), some (.int u0)] [.int (v2 / 8), .int v1, .ref p2, .int u0] H uc us)))) :
    xW l x d mc ms mMO_readHead n0 Q cl 64 [some (.ref r0), some (.int v1), some (.int v2), some (.int v3), none] [.int u0] H uc us := by
  refine xs_istore rfl (L' := [some (.ref r0), some (.int v1), some (.int v2), some (.int v3), some (.int u0)]) rfl rfl ?_
  refine xs_aload_n rfl rfl ?_
  obtain ⟨a1, ⟨_, h1, h2⟩, h⟩ := h
  refine xs_getf rfl fl_12_115 h1 h2 ?_
  refine xs_if_ne (k' := 84) rfl rfl (fun hb => ?_) (fun hb => ?_)
  · have h := h.1 hb
    exact h
  · have h := h.2 hb
    refine xs_iload rfl rfl ?_
    refine xs_aload_n rfl rfl ?_
    obtain ⟨p2, ⟨_, h1, h2⟩, h⟩ := h
    refine xs_getf rfl fl_12_8 h1 h2 ?_
    refine xs_iload_n rfl rfl ?_
    refine xs_iload_n rfl rfl ?_
    refine xs_bipushV (v := 8) rfl rfl ?_
    refine xs_idiv rfl (by decide) ?_
    exact h

set_option maxRecDepth 20000 in
theorem b_MO_readHead_76 {l : Launch} {x : xX} {d mc ms n0 uc us : Nat} {Q : xO → xH → Prop} {cl : Bool} {r0 : Nat} {v1 : Int32} {v2 : Int32} {v3 : Int32} {v4 : Int32} {u0 : Int32} {u1 : Int64} {H : xH}
    (h : (u0 = (u1 &&& 65535).toInt32 → xW l x d mc ms mMO_readHead n0 Q cl 84 [some (.ref r0), some (.int v1), some (.int v2), some (.int v3), some (.int v4)] [] H uc us) ∧ (¬ u0 = (u1 &&& 65535).toInt32 → xW l x d mc ms mMO_readHead n0 Q cl 83 [some (.ref r0), some (.int v1), some (.int v2), some (.int v3), some (.int v4)] [.int v2, .int 13, .ref r0] H uc us)) :
    xW l x d mc ms mMO_readHead n0 Q cl 76 [some (.ref r0), some (.int v1), some (.int v2), some (.int v3), some (.int v4)] [.long u1, .int u0] H uc us := by
  refine xs_ldc2 rfl kl_12_210 ?_
  refine xs_land rfl ?_
  refine xs_l2i rfl ?_
  refine xs_icmp_eq (k' := 84) rfl rfl (fun hb => ?_) (fun hb => ?_)
  · have h := h.1 hb
    exact h
  · have h := h.2 hb
    refine xs_aload_n rfl rfl ?_
    refine xs_bipushV (v := 13) rfl rfl ?_
    refine xs_iload_n rfl rfl ?_
    exact h

set_option maxRecDepth 20000 in
theorem b_MO_readHead_84 {l : Launch} {x : xX} {d mc ms n0 uc us : Nat} {Q : xO → xH → Prop} {cl : Bool} {r0 : Nat} {v1 : Int32} {v2 : Int32} {v3 : Int32} {H : xH}
    (h : uc = mc ∧ us ≤ ms ∧ Q (.inl none) H) :
    xW l x d mc ms mMO_readHead n0 Q cl 84 [some (.ref r0), some (.int v1), some (.int v2), some (.int v3), none] [] H uc us := by
  exact xs_vret rfl rfl h.1 h.2.1 h.2.2

set_option maxRecDepth 20000 in
theorem b_MO_want_0 {l : Launch} {x : xX} {d mc ms n0 uc us : Nat} {Q : xO → xH → Prop} {cl : Bool} {r0 : Nat} {v1 : Int32} {H : xH}
    (h : ∃ a1, gI H r0 12 13 a1 ∧ (xW l x d mc ms mMO_want n0 Q cl 4 [some (.ref r0), some (.int v1), some (.int a1), none] [.ref r0] H uc us)) :
    xW l x d mc ms mMO_want n0 Q cl 0 [some (.ref r0), some (.int v1), none, none] [] H uc us := by
  refine xs_aload_n rfl rfl ?_
  obtain ⟨a1, ⟨_, h1, h2⟩, h⟩ := h
  refine xs_getf rfl fl_12_118 h1 h2 ?_
  refine xs_istore_n rfl (L' := [some (.ref r0), some (.int v1), some (.int a1), none]) rfl rfl ?_
  refine xs_aload_n rfl rfl ?_
  exact h

set_option maxRecDepth 20000 in
theorem b_MO_want_5 {l : Launch} {x : xX} {d mc ms n0 uc us : Nat} {Q : xO → xH → Prop} {cl : Bool} {r0 : Nat} {v1 : Int32} {v2 : Int32} {u0 : Int32} {H : xH}
    (h : ∃ a1, gI H r0 12 5 a1 ∧ ((¬ a1 = 0 → xW l x d mc ms mMO_want n0 Q cl 16 [some (.ref r0), some (.int v1), some (.int v2), some (.int u0)] [] H uc us) ∧ (a1 = 0 → (u0 = v1 → xW l x d mc ms mMO_want n0 Q cl 16 [some (.ref r0), some (.int v1), some (.int v2), some (.int u0)] [] H uc us) ∧ (¬ u0 = v1 → xW l x d mc ms mMO_want n0 Q cl 15 [some (.ref r0), some (.int v1), some (.int v2), some (.int u0)] [.int v2, .int 12, .ref r0] H uc us)))) :
    xW l x d mc ms mMO_want n0 Q cl 5 [some (.ref r0), some (.int v1), some (.int v2), none] [.int u0] H uc us := by
  refine xs_istore_n rfl (L' := [some (.ref r0), some (.int v1), some (.int v2), some (.int u0)]) rfl rfl ?_
  refine xs_aload_n rfl rfl ?_
  obtain ⟨a1, ⟨_, h1, h2⟩, h⟩ := h
  refine xs_getf rfl fl_12_115 h1 h2 ?_
  refine xs_if_ne (k' := 16) rfl rfl (fun hb => ?_) (fun hb => ?_)
  · have h := h.1 hb
    exact h
  · have h := h.2 hb
    refine xs_iload_n rfl rfl ?_
    refine xs_iload_n rfl rfl ?_
    refine xs_icmp_eq (k' := 16) rfl rfl (fun hb => ?_) (fun hb => ?_)
    · have h := h.1 hb
      exact h
    · have h := h.2 hb
      refine xs_aload_n rfl rfl ?_
      refine xs_bipushV (v := 12) rfl rfl ?_
      refine xs_iload_n rfl rfl ?_
      exact h

set_option maxRecDepth 20000 in
theorem b_MO_want_16 {l : Launch} {x : xX} {d mc ms n0 uc us : Nat} {Q : xO → xH → Prop} {cl : Bool} {r0 : Nat} {v1 : Int32} {v2 : Int32} {v3 : Int32} {H : xH}
    (h : uc = mc ∧ us ≤ ms ∧ Q (.inl none) H) :
    xW l x d mc ms mMO_want n0 Q cl 16 [some (.ref r0), some (.int v1), some (.int v2), some (.int v3)] [] H uc us := by
  exact xs_vret rfl rfl h.1 h.2.1 h.2.2

