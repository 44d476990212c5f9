set_option maxRecDepth 20000 in
theorem b_LA_feed_0 {l : Launch} {x : xX} {d mc ms n0 uc us : Nat} {Q : xO → xH → Prop} {cl : Bool} {r0 : Nat} {v1 : Int32} {v2 : Int32} {v3 : Int32} {v4 : Int32} {v5 : Int32} {r6 : Nat} {H : xH}
    (h : xW l x d mc ms mLA_feed n0 Q cl 8 [some (.ref r0), some (.int v1), some (.int v2), some (.int v3), some (.int v4), some (.int v5), some (.ref r6), none] [.int v5, .int v4, .int v3, .int v2, .int v1, .ref r0, .int 0, .ref r6] H uc us) :
    xW l x d mc ms mLA_feed n0 Q cl 0 [some (.ref r0), some (.int v1), some (.int v2), some (.int v3), some (.int v4), some (.int v5), some (.ref r6), none] [] H uc us := by
  refine xs_aload rfl rfl ?_
  refine xs_iconstV (v := 0) rfl rfl ?_
  refine xs_aload_n rfl rfl ?_
  refine xs_iload_n rfl rfl ?_
  refine xs_iload_n rfl rfl ?_
  refine xs_iload_n rfl rfl ?_
  refine xs_iload rfl rfl ?_
  refine xs_iload rfl rfl ?_
  exact h

set_option maxRecDepth 20000 in
theorem b_LA_feed_9 {l : Launch} {x : xX} {d mc ms n0 uc us : Nat} {Q : xO → xH → Prop} {cl : Bool} {r0 : Nat} {v1 : Int32} {v2 : Int32} {v3 : Int32} {v4 : Int32} {v5 : Int32} {r6 : Nat} {q0 : Nat} {u1 : Int32} {u2 : Int32} {H : xH}
    (h : ∃ n1 f2, H[(q0 : Nat)]? = some (.inl (2, n1, .inr (.inl f2))) ∧ vp_in u1 n1 ∧ (∀ H3 : xH, H3 = H.set q0 (.inl (2, n1, .inr (.inl (vp_updL f2 (u1.toNatClampNeg) (u2.toInt64))))) → uc = mc ∧ us ≤ ms ∧ Q (.inl (some (.int 0))) H3)) :
    xW l x d mc ms mLA_feed n0 Q cl 9 [some (.ref r0), some (.int v1), some (.int v2), some (.int v3), some (.int v4), some (.int v5), some (.ref r6), none] [.int u2, .int u1, .ref q0] H uc us := by
  refine xs_i2l rfl ?_
  obtain ⟨n1, f2, h1, h2, h⟩ := h
  refine xs_last rfl h1 h2 ?_
  have h := h _ rfl
  generalize H.set q0 (.inl (2, n1, .inr (.inl (vp_updL f2 (u1.toNatClampNeg) (u2.toInt64))))) = H3 at h ⊢
  refine xs_goto (k' := 15) rfl rfl ?_
  refine xs_iconstV (v := 0) rfl rfl ?_
  exact xs_iret rfl rfl h.1 h.2.1 h.2.2

set_option maxRecDepth 20000 in
theorem b_LA_feed_12 {l : Launch} {x : xX} {d mc ms n0 uc us : Nat} {Q : xO → xH → Prop} {cl : Bool} {r0 : Nat} {v1 : Int32} {v2 : Int32} {v3 : Int32} {v4 : Int32} {v5 : Int32} {r6 : Nat} {q0 : Nat} {H : xH}
    (h : uc = mc ∧ us ≤ ms ∧ Q (.inl (some (.int 1))) H) :
    xW l x d mc ms mLA_feed n0 Q cl 12 [some (.ref r0), some (.int v1), some (.int v2), some (.int v3), some (.int v4), some (.int v5), some (.ref r6), none] [.ref q0] H uc us := by
  refine xs_astore rfl (L' := [some (.ref r0), some (.int v1), some (.int v2), some (.int v3), some (.int v4), some (.int v5), some (.ref r6), some (.ref q0)]) rfl rfl ?_
  refine xs_iconstV (v := 1) rfl rfl ?_
  exact xs_iret rfl rfl h.1 h.2.1 h.2.2

set_option maxRecDepth 20000 in
theorem b_LA_end_0 {l : Launch} {x : xX} {d mc ms n0 uc us : Nat} {Q : xO → xH → Prop} {cl : Bool} {r0 : Nat} {v1 : Int32} {H : xH}
    (h : xW l x d mc ms mLA_end n0 Q cl 2 [some (.ref r0), some (.int v1), none] [.int v1, .ref r0] H uc us) :
    xW l x d mc ms mLA_end n0 Q cl 0 [some (.ref r0), some (.int v1), none] [] H uc us := by
  refine xs_aload_n rfl rfl ?_
  refine xs_iload_n rfl rfl ?_
  exact h

set_option maxRecDepth 20000 in
theorem b_LA_end_3 {l : Launch} {x : xX} {d mc ms n0 uc us : Nat} {Q : xO → xH → Prop} {cl : Bool} {r0 : Nat} {v1 : Int32} {H : xH}
    (h : uc = mc ∧ us ≤ ms ∧ Q (.inl (some (.int 0))) H) :
    xW l x d mc ms mLA_end n0 Q cl 3 [some (.ref r0), some (.int v1), none] [] H uc us := by
  refine xs_goto (k' := 7) rfl rfl ?_
  refine xs_iconstV (v := 0) rfl rfl ?_
  exact xs_iret rfl rfl h.1 h.2.1 h.2.2

set_option maxRecDepth 20000 in
theorem b_LA_end_4 {l : Launch} {x : xX} {d mc ms n0 uc us : Nat} {Q : xO → xH → Prop} {cl : Bool} {r0 : Nat} {v1 : Int32} {q0 : Nat} {H : xH}
    (h : uc = mc ∧ us ≤ ms ∧ Q (.inl (some (.int 1))) H) :
    xW l x d mc ms mLA_end n0 Q cl 4 [some (.ref r0), some (.int v1), none] [.ref q0] H uc us := by
  refine xs_astore_n rfl (L' := [some (.ref r0), some (.int v1), some (.ref q0)]) rfl rfl ?_
  refine xs_iconstV (v := 1) rfl rfl ?_
  exact xs_iret rfl rfl h.1 h.2.1 h.2.2

set_option maxRecDepth 20000 in
theorem b_LA_again_0 {l : Launch} {x : xX} {d mc ms n0 uc us : Nat} {Q : xO → xH → Prop} {cl : Bool} {r0 : Nat} {v1 : Int32} {v2 : Int32} {r3 : Nat} {H : xH}
    (h : xW l x d mc ms mLA_again n0 Q cl 5 [some (.ref r0), some (.int v1), some (.int v2), some (.ref r3), none] [.int v2, .int v1, .ref r0, .int 0, .ref r3] H uc us) :
    xW l x d mc ms mLA_again n0 Q cl 0 [some (.ref r0), some (.int v1), some (.int v2), some (.ref r3), none] [] H uc us := by
  refine xs_aload_n rfl rfl ?_
  refine xs_iconstV (v := 0) rfl rfl ?_
  refine xs_aload_n rfl rfl ?_
  refine xs_iload_n rfl rfl ?_
  refine xs_iload_n rfl rfl ?_
  exact h

set_option maxRecDepth 20000 in
theorem b_LA_again_6 {l : Launch} {x : xX} {d mc ms n0 uc us : Nat} {Q : xO → xH → Prop} {cl : Bool} {r0 : Nat} {v1 : Int32} {v2 : Int32} {r3 : Nat} {q0 : Nat} {u1 : Int32} {u2 : Int32} {H : xH}
    (h : ∃ n1 f2, H[(q0 : Nat)]? = some (.inl (2, n1, .inr (.inl f2))) ∧ vp_in u1 n1 ∧ (∀ H3 : xH, H3 = H.set q0 (.inl (2, n1, .inr (.inl (vp_updL f2 (u1.toNatClampNeg) (u2.toInt64))))) → uc = mc ∧ us ≤ ms ∧ Q (.inl (some (.int 0))) H3)) :
    xW l x d mc ms mLA_again n0 Q cl 6 [some (.ref r0), some (.int v1), some (.int v2), some (.ref r3), none] [.int u2, .int u1, .ref q0] H uc us := by
  refine xs_i2l rfl ?_
  obtain ⟨n1, f2, h1, h2, h⟩ := h
  refine xs_last rfl h1 h2 ?_
  have h := h _ rfl
  generalize H.set q0 (.inl (2, n1, .inr (.inl (vp_updL f2 (u1.toNatClampNeg) (u2.toInt64))))) = H3 at h ⊢
  refine xs_goto (k' := 15) rfl rfl ?_
  refine xs_iconstV (v := 0) rfl rfl ?_
  exact xs_iret rfl rfl h.1 h.2.1 h.2.2

set_option maxRecDepth 20000 in
theorem b_LA_again_9 {l : Launch} {x : xX} {d mc ms n0 uc us : Nat} {Q : xO → xH → Prop} {cl : Bool} {r0 : Nat} {v1 : Int32} {v2 : Int32} {r3 : Nat} {q0 : Nat} {H : xH}
    (h : uc = mc ∧ us ≤ ms ∧ Q (.inl (some (.int 1))) H) :
    xW l x d mc ms mLA_again n0 Q cl 9 [some (.ref r0), some (.int v1), some (.int v2), some (.ref r3), none] [.ref q0] H uc us := by
  refine xs_astore rfl (L' := [some (.ref r0), some (.int v1), some (.int v2), some (.ref r3), some (.ref q0)]) rfl rfl ?_
  refine xs_iconstV (v := 1) rfl rfl ?_
  exact xs_iret rfl rfl h.1 h.2.1 h.2.2

set_option maxRecDepth 20000 in
theorem b_LA_again_12 {l : Launch} {x : xX} {d mc ms n0 uc us : Nat} {Q : xO → xH → Prop} {cl : Bool} {r0 : Nat} {v1 : Int32} {v2 : Int32} {r3 : Nat} {q0 : Nat} {H : xH}
    (h : uc = mc ∧ us ≤ ms ∧ Q (.inl (some (.int 2))) H) :
    xW l x d mc ms mLA_again n0 Q cl 12 [some (.ref r0), some (.int v1), some (.int v2), some (.ref r3), none] [.ref q0] H uc us := by
  refine xs_astore rfl (L' := [some (.ref r0), some (.int v1), some (.int v2), some (.ref r3), some (.ref q0)]) rfl rfl ?_
  refine xs_iconstV (v := 2) rfl rfl ?_
  exact xs_iret rfl rfl h.1 h.2.1 h.2.2

set_option maxRecDepth 20000 in
theorem b_LA_change_0 {l : Launch} {x : xX} {d mc ms n0 uc us : Nat} {Q : xO → xH → Prop} {cl : Bool} {r0 : Nat} {v1 : Int32} {v2 : Int32} {r3 : Nat} {H : xH}
    (h : xW l x d mc ms mLA_change n0 Q cl 5 [some (.ref r0), some (.int v1), some (.int v2), some (.ref r3), none] [.int v2, .int v1, .ref r0, .int 0, .ref r3] H uc us) :
    xW l x d mc ms mLA_change n0 Q cl 0 [some (.ref r0), some (.int v1), some (.int v2), some (.ref r3), none] [] H uc us := by
  refine xs_aload_n rfl rfl ?_
  refine xs_iconstV (v := 0) rfl rfl ?_
  refine xs_aload_n rfl rfl ?_
  refine xs_iload_n rfl rfl ?_
  refine xs_iload_n rfl rfl ?_
  exact h

set_option maxRecDepth 20000 in
theorem b_LA_change_6 {l : Launch} {x : xX} {d mc ms n0 uc us : Nat} {Q : xO → xH → Prop} {cl : Bool} {r0 : Nat} {v1 : Int32} {v2 : Int32} {r3 : Nat} {q0 : Nat} {u1 : Int32} {u2 : Int32} {H : xH}
    (h : ∃ n1 f2, H[(q0 : Nat)]? = some (.inl (2, n1, .inr (.inl f2))) ∧ vp_in u1 n1 ∧ (∀ H3 : xH, H3 = H.set q0 (.inl (2, n1, .inr (.inl (vp_updL f2 (u1.toNatClampNeg) (u2.toInt64))))) → uc = mc ∧ us ≤ ms ∧ Q (.inl (some (.int 0))) H3)) :
    xW l x d mc ms mLA_change n0 Q cl 6 [some (.ref r0), some (.int v1), some (.int v2), some (.ref r3), none] [.int u2, .int u1, .ref q0] H uc us := by
  refine xs_i2l rfl ?_
  obtain ⟨n1, f2, h1, h2, h⟩ := h
  refine xs_last rfl h1 h2 ?_
  have h := h _ rfl
  generalize H.set q0 (.inl (2, n1, .inr (.inl (vp_updL f2 (u1.toNatClampNeg) (u2.toInt64))))) = H3 at h ⊢
  refine xs_goto (k' := 15) rfl rfl ?_
  refine xs_iconstV (v := 0) rfl rfl ?_
  exact xs_iret rfl rfl h.1 h.2.1 h.2.2

set_option maxRecDepth 20000 in
theorem b_LA_change_9 {l : Launch} {x : xX} {d mc ms n0 uc us : Nat} {Q : xO → xH → Prop} {cl : Bool} {r0 : Nat} {v1 : Int32} {v2 : Int32} {r3 : Nat} {q0 : Nat} {H : xH}
    (h : uc = mc ∧ us ≤ ms ∧ Q (.inl (some (.int 1))) H) :
    xW l x d mc ms mLA_change n0 Q cl 9 [some (.ref r0), some (.int v1), some (.int v2), some (.ref r3), none] [.ref q0] H uc us := by
  refine xs_astore rfl (L' := [some (.ref r0), some (.int v1), some (.int v2), some (.ref r3), some (.ref q0)]) rfl rfl ?_
  refine xs_iconstV (v := 1) rfl rfl ?_
  exact xs_iret rfl rfl h.1 h.2.1 h.2.2

set_option maxRecDepth 20000 in
theorem b_LA_change_12 {l : Launch} {x : xX} {d mc ms n0 uc us : Nat} {Q : xO → xH → Prop} {cl : Bool} {r0 : Nat} {v1 : Int32} {v2 : Int32} {r3 : Nat} {q0 : Nat} {H : xH}
    (h : uc = mc ∧ us ≤ ms ∧ Q (.inl (some (.int 2))) H) :
    xW l x d mc ms mLA_change n0 Q cl 12 [some (.ref r0), some (.int v1), some (.int v2), some (.ref r3), none] [.ref q0] H uc us := by
  refine xs_astore rfl (L' := [some (.ref r0), some (.int v1), some (.int v2), some (.ref r3), some (.ref q0)]) rfl rfl ?_
  refine xs_iconstV (v := 2) rfl rfl ?_
  exact xs_iret rfl rfl h.1 h.2.1 h.2.2

set_option maxRecDepth 20000 in
theorem b_LA_pack_0 {l : Launch} {x : xX} {d mc ms n0 uc us : Nat} {Q : xO → xH → Prop} {cl : Bool} {r0 : Nat} {v1 : Int32} {r2 : Nat} {H : xH}
    (h : xW l x d mc ms mLA_pack n0 Q cl 4 [some (.ref r0), some (.int v1), some (.ref r2), none] [.int v1, .ref r0, .int 0, .ref r2] H uc us) :
    xW l x d mc ms mLA_pack n0 Q cl 0 [some (.ref r0), some (.int v1), some (.ref r2), none] [] H uc us := by
  refine xs_aload_n rfl rfl ?_
  refine xs_iconstV (v := 0) rfl rfl ?_
  refine xs_aload_n rfl rfl ?_
  refine xs_iload_n rfl rfl ?_
  exact h

set_option maxRecDepth 20000 in
theorem b_LA_pack_5 {l : Launch} {x : xX} {d mc ms n0 uc us : Nat} {Q : xO → xH → Prop} {cl : Bool} {r0 : Nat} {v1 : Int32} {r2 : Nat} {q0 : Nat} {u1 : Int32} {u2 : Int32} {H : xH}
    (h : ∃ n1 f2, H[(q0 : Nat)]? = some (.inl (2, n1, .inr (.inl f2))) ∧ vp_in u1 n1 ∧ (∀ H3 : xH, H3 = H.set q0 (.inl (2, n1, .inr (.inl (vp_updL f2 (u1.toNatClampNeg) (u2.toInt64))))) → uc = mc ∧ us ≤ ms ∧ Q (.inl (some (.int 0))) H3)) :
    xW l x d mc ms mLA_pack n0 Q cl 5 [some (.ref r0), some (.int v1), some (.ref r2), none] [.int u2, .int u1, .ref q0] H uc us := by
  refine xs_i2l rfl ?_
  obtain ⟨n1, f2, h1, h2, h⟩ := h
  refine xs_last rfl h1 h2 ?_
  have h := h _ rfl
  generalize H.set q0 (.inl (2, n1, .inr (.inl (vp_updL f2 (u1.toNatClampNeg) (u2.toInt64))))) = H3 at h ⊢
  refine xs_goto (k' := 11) rfl rfl ?_
  refine xs_iconstV (v := 0) rfl rfl ?_
  exact xs_iret rfl rfl h.1 h.2.1 h.2.2

set_option maxRecDepth 20000 in
theorem b_LA_pack_8 {l : Launch} {x : xX} {d mc ms n0 uc us : Nat} {Q : xO → xH → Prop} {cl : Bool} {r0 : Nat} {v1 : Int32} {r2 : Nat} {q0 : Nat} {H : xH}
    (h : uc = mc ∧ us ≤ ms ∧ Q (.inl (some (.int 1))) H) :
    xW l x d mc ms mLA_pack n0 Q cl 8 [some (.ref r0), some (.int v1), some (.ref r2), none] [.ref q0] H uc us := by
  refine xs_astore_n rfl (L' := [some (.ref r0), some (.int v1), some (.ref r2), some (.ref q0)]) rfl rfl ?_
  refine xs_iconstV (v := 1) rfl rfl ?_
  exact xs_iret rfl rfl h.1 h.2.1 h.2.2

set_option maxRecDepth 20000 in
theorem b_LA_unpack_0 {l : Launch} {x : xX} {d mc ms n0 uc us : Nat} {Q : xO → xH → Prop} {cl : Bool} {r0 : Nat} {v1 : Int32} {r2 : Nat} {H : xH}
    (h : xW l x d mc ms mLA_unpack n0 Q cl 4 [some (.ref r0), some (.int v1), some (.ref r2), none] [.int v1, .ref r0, .int 0, .ref r2] H uc us) :
    xW l x d mc ms mLA_unpack n0 Q cl 0 [some (.ref r0), some (.int v1), some (.ref r2), none] [] H uc us := by
  refine xs_aload_n rfl rfl ?_
  refine xs_iconstV (v := 0) rfl rfl ?_
  refine xs_aload_n rfl rfl ?_
  refine xs_iload_n rfl rfl ?_
  exact h

set_option maxRecDepth 20000 in
theorem b_LA_unpack_5 {l : Launch} {x : xX} {d mc ms n0 uc us : Nat} {Q : xO → xH → Prop} {cl : Bool} {r0 : Nat} {v1 : Int32} {r2 : Nat} {q0 : Nat} {u1 : Int32} {u2 : Int32} {H : xH}
    (h : ∃ n1 f2, H[(q0 : Nat)]? = some (.inl (2, n1, .inr (.inl f2))) ∧ vp_in u1 n1 ∧ (∀ H3 : xH, H3 = H.set q0 (.inl (2, n1, .inr (.inl (vp_updL f2 (u1.toNatClampNeg) (u2.toInt64))))) → uc = mc ∧ us ≤ ms ∧ Q (.inl (some (.int 0))) H3)) :
    xW l x d mc ms mLA_unpack n0 Q cl 5 [some (.ref r0), some (.int v1), some (.ref r2), none] [.int u2, .int u1, .ref q0] H uc us := by
  refine xs_i2l rfl ?_
  obtain ⟨n1, f2, h1, h2, h⟩ := h
  refine xs_last rfl h1 h2 ?_
  have h := h _ rfl
  generalize H.set q0 (.inl (2, n1, .inr (.inl (vp_updL f2 (u1.toNatClampNeg) (u2.toInt64))))) = H3 at h ⊢
  refine xs_goto (k' := 11) rfl rfl ?_
  refine xs_iconstV (v := 0) rfl rfl ?_
  exact xs_iret rfl rfl h.1 h.2.1 h.2.2

set_option maxRecDepth 20000 in
theorem b_LA_unpack_8 {l : Launch} {x : xX} {d mc ms n0 uc us : Nat} {Q : xO → xH → Prop} {cl : Bool} {r0 : Nat} {v1 : Int32} {r2 : Nat} {q0 : Nat} {H : xH}
    (h : uc = mc ∧ us ≤ ms ∧ Q (.inl (some (.int 1))) H) :
    xW l x d mc ms mLA_unpack n0 Q cl 8 [some (.ref r0), some (.int v1), some (.ref r2), none] [.ref q0] H uc us := by
  refine xs_astore_n rfl (L' := [some (.ref r0), some (.int v1), some (.ref r2), some (.ref q0)]) rfl rfl ?_
  refine xs_iconstV (v := 1) rfl rfl ?_
  exact xs_iret rfl rfl h.1 h.2.1 h.2.2

set_option maxRecDepth 20000 in
theorem b_LA_out_0 {l : Launch} {x : xX} {d mc ms n0 uc us : Nat} {Q : xO → xH → Prop} {cl : Bool} {r0 : Nat} {v1 : Int32} {r2 : Nat} {H : xH}
    (h : xW l x d mc ms mLA_out n0 Q cl 4 [some (.ref r0), some (.int v1), some (.ref r2), none] [.int v1, .ref r0, .int 0, .ref r2] H uc us) :
    xW l x d mc ms mLA_out n0 Q cl 0 [some (.ref r0), some (.int v1), some (.ref r2), none] [] H uc us := by
  refine xs_aload_n rfl rfl ?_
  refine xs_iconstV (v := 0) rfl rfl ?_
  refine xs_aload_n rfl rfl ?_
  refine xs_iload_n rfl rfl ?_
  exact h

set_option maxRecDepth 20000 in
theorem b_LA_out_5 {l : Launch} {x : xX} {d mc ms n0 uc us : Nat} {Q : xO → xH → Prop} {cl : Bool} {r0 : Nat} {v1 : Int32} {r2 : Nat} {q0 : Nat} {u1 : Int32} {u2 : Int32} {H : xH}
    (h : ∃ n1 f2, H[(q0 : Nat)]? = some (.inl (2, n1, .inr (.inl f2))) ∧ vp_in u1 n1 ∧ (∀ H3 : xH, H3 = H.set q0 (.inl (2, n1, .inr (.inl (vp_updL f2 (u1.toNatClampNeg) (u2.toInt64))))) → uc = mc ∧ us ≤ ms ∧ Q (.inl (some (.int 0))) H3)) :
    xW l x d mc ms mLA_out n0 Q cl 5 [some (.ref r0), some (.int v1), some (.ref r2), none] [.int u2, .int u1, .ref q0] H uc us := by
  refine xs_i2l rfl ?_
  obtain ⟨n1, f2, h1, h2, h⟩ := h
  refine xs_last rfl h1 h2 ?_
  have h := h _ rfl
  generalize H.set q0 (.inl (2, n1, .inr (.inl (vp_updL f2 (u1.toNatClampNeg) (u2.toInt64))))) = H3 at h ⊢
  refine xs_goto (k' := 11) rfl rfl ?_
  refine xs_iconstV (v := 0) rfl rfl ?_
  exact xs_iret rfl rfl h.1 h.2.1 h.2.2

set_option maxRecDepth 20000 in
theorem b_LA_out_8 {l : Launch} {x : xX} {d mc ms n0 uc us : Nat} {Q : xO → xH → Prop} {cl : Bool} {r0 : Nat} {v1 : Int32} {r2 : Nat} {q0 : Nat} {H : xH}
    (h : uc = mc ∧ us ≤ ms ∧ Q (.inl (some (.int 1))) H) :
    xW l x d mc ms mLA_out n0 Q cl 8 [some (.ref r0), some (.int v1), some (.ref r2), none] [.ref q0] H uc us := by
  refine xs_astore_n rfl (L' := [some (.ref r0), some (.int v1), some (.ref r2), some (.ref q0)]) rfl rfl ?_
  refine xs_iconstV (v := 1) rfl rfl ?_
  exact xs_iret rfl rfl h.1 h.2.1 h.2.2

set_option maxRecDepth 20000 in
theorem b_LA_turn_0 {l : Launch} {x : xX} {d mc ms n0 uc us : Nat} {Q : xO → xH → Prop} {cl : Bool} {r0 : Nat} {r1 : Nat} {H : xH}
    (h : xW l x d mc ms mLA_turn n0 Q cl 3 [some (.ref r0), some (.ref r1), none] [.ref r0, .int 0, .ref r1] H uc us) :
    xW l x d mc ms mLA_turn n0 Q cl 0 [some (.ref r0), some (.ref r1), none] [] H uc us := by
  refine xs_aload_n rfl rfl ?_
  refine xs_iconstV (v := 0) rfl rfl ?_
  refine xs_aload_n rfl rfl ?_
  exact h

set_option maxRecDepth 20000 in
theorem b_LA_turn_4 {l : Launch} {x : xX} {d mc ms n0 uc us : Nat} {Q : xO → xH → Prop} {cl : Bool} {r0 : Nat} {r1 : Nat} {q0 : Nat} {u1 : Int32} {u2 : Int32} {H : xH}
    (h : ∃ n1 f2, H[(q0 : Nat)]? = some (.inl (2, n1, .inr (.inl f2))) ∧ vp_in u1 n1 ∧ (∀ H3 : xH, H3 = H.set q0 (.inl (2, n1, .inr (.inl (vp_updL f2 (u1.toNatClampNeg) (u2.toInt64))))) → uc = mc ∧ us ≤ ms ∧ Q (.inl (some (.int 0))) H3)) :
    xW l x d mc ms mLA_turn n0 Q cl 4 [some (.ref r0), some (.ref r1), none] [.int u2, .int u1, .ref q0] H uc us := by
  refine xs_i2l rfl ?_
  obtain ⟨n1, f2, h1, h2, h⟩ := h
  refine xs_last rfl h1 h2 ?_
  have h := h _ rfl
  generalize H.set q0 (.inl (2, n1, .inr (.inl (vp_updL f2 (u1.toNatClampNeg) (u2.toInt64))))) = H3 at h ⊢
  refine xs_goto (k' := 10) rfl rfl ?_
  refine xs_iconstV (v := 0) rfl rfl ?_
  exact xs_iret rfl rfl h.1 h.2.1 h.2.2

set_option maxRecDepth 20000 in
theorem b_LA_turn_7 {l : Launch} {x : xX} {d mc ms n0 uc us : Nat} {Q : xO → xH → Prop} {cl : Bool} {r0 : Nat} {r1 : Nat} {q0 : Nat} {H : xH}
    (h : uc = mc ∧ us ≤ ms ∧ Q (.inl (some (.int 1))) H) :
    xW l x d mc ms mLA_turn n0 Q cl 7 [some (.ref r0), some (.ref r1), none] [.ref q0] H uc us := by
  refine xs_astore_n rfl (L' := [some (.ref r0), some (.ref r1), some (.ref q0)]) rfl rfl ?_
  refine xs_iconstV (v := 1) rfl rfl ?_
  exact xs_iret rfl rfl h.1 h.2.1 h.2.2

set_option maxRecDepth 20000 in
theorem b_LA_sum_0 {l : Launch} {x : xX} {d mc ms n0 uc us : Nat} {Q : xO → xH → Prop} {cl : Bool} {r0 : Nat} {v1 : Int32} {r2 : Nat} {H : xH}
    (h : xW l x d mc ms mLA_sum n0 Q cl 4 [some (.ref r0), some (.int v1), some (.ref r2), none] [.int v1, .ref r0, .int 0, .ref r2] H uc us) :
    xW l x d mc ms mLA_sum n0 Q cl 0 [some (.ref r0), some (.int v1), some (.ref r2), none] [] H uc us := by
  refine xs_aload_n rfl rfl ?_
  refine xs_iconstV (v := 0) rfl rfl ?_
  refine xs_aload_n rfl rfl ?_
  refine xs_iload_n rfl rfl ?_
  exact h

set_option maxRecDepth 20000 in
theorem b_LA_sum_5 {l : Launch} {x : xX} {d mc ms n0 uc us : Nat} {Q : xO → xH → Prop} {cl : Bool} {r0 : Nat} {v1 : Int32} {r2 : Nat} {q0 : Nat} {u1 : Int32} {u2 : Int64} {H : xH}
    (h : ∃ n1 f2, H[(q0 : Nat)]? = some (.inl (2, n1, .inr (.inl f2))) ∧ vp_in u1 n1 ∧ (∀ H3 : xH, H3 = H.set q0 (.inl (2, n1, .inr (.inl (vp_updL f2 (u1.toNatClampNeg) (u2))))) → uc = mc ∧ us ≤ ms ∧ Q (.inl (some (.int 0))) H3)) :
    xW l x d mc ms mLA_sum n0 Q cl 5 [some (.ref r0), some (.int v1), some (.ref r2), none] [.long u2, .int u1, .ref q0] H uc us := by
  obtain ⟨n1, f2, h1, h2, h⟩ := h
  refine xs_last rfl h1 h2 ?_
  have h := h _ rfl
  generalize H.set q0 (.inl (2, n1, .inr (.inl (vp_updL f2 (u1.toNatClampNeg) (u2))))) = H3 at h ⊢
  refine xs_goto (k' := 10) rfl rfl ?_
  refine xs_iconstV (v := 0) rfl rfl ?_
  exact xs_iret rfl rfl h.1 h.2.1 h.2.2

set_option maxRecDepth 20000 in
theorem b_LA_sum_7 {l : Launch} {x : xX} {d mc ms n0 uc us : Nat} {Q : xO → xH → Prop} {cl : Bool} {r0 : Nat} {v1 : Int32} {r2 : Nat} {q0 : Nat} {H : xH}
    (h : uc = mc ∧ us ≤ ms ∧ Q (.inl (some (.int 1))) H) :
    xW l x d mc ms mLA_sum n0 Q cl 7 [some (.ref r0), some (.int v1), some (.ref r2), none] [.ref q0] H uc us := by
  refine xs_astore_n rfl (L' := [some (.ref r0), some (.int v1), some (.ref r2), some (.ref q0)]) rfl rfl ?_
  refine xs_iconstV (v := 1) rfl rfl ?_
  exact xs_iret rfl rfl h.1 h.2.1 h.2.2

set_option maxRecDepth 20000 in
theorem b_LA_block_0 {l : Launch} {x : xX} {d mc ms n0 uc us : Nat} {Q : xO → xH → Prop} {cl : Bool} {r0 : Nat} {v1 : Int32} {v2 : Int32} {r3 : Nat} {H : xH}
    (h : xW l x d mc ms mLA_block n0 Q cl 5 [some (.ref r0), some (.int v1), some (.int v2), some (.ref r3), none] [.int v2, .int v1, .ref r0, .int 0, .ref r3] H uc us) :
    xW l x d mc ms mLA_block n0 Q cl 0 [some (.ref r0), some (.int v1), some (.int v2), some (.ref r3), none] [] H uc us := by
  refine xs_aload_n rfl rfl ?_
  refine xs_iconstV (v := 0) rfl rfl ?_
  refine xs_aload_n rfl rfl ?_
  refine xs_iload_n rfl rfl ?_
  refine xs_iload_n rfl rfl ?_
  exact h

set_option maxRecDepth 20000 in
theorem b_LA_block_6 {l : Launch} {x : xX} {d mc ms n0 uc us : Nat} {Q : xO → xH → Prop} {cl : Bool} {r0 : Nat} {v1 : Int32} {v2 : Int32} {r3 : Nat} {q0 : Nat} {u1 : Int32} {u2 : Int32} {H : xH}
    (h : ∃ n1 f2, H[(q0 : Nat)]? = some (.inl (2, n1, .inr (.inl f2))) ∧ vp_in u1 n1 ∧ (∀ H3 : xH, H3 = H.set q0 (.inl (2, n1, .inr (.inl (vp_updL f2 (u1.toNatClampNeg) (u2.toInt64))))) → uc = mc ∧ us ≤ ms ∧ Q (.inl (some (.int 0))) H3)) :
    xW l x d mc ms mLA_block n0 Q cl 6 [some (.ref r0), some (.int v1), some (.int v2), some (.ref r3), none] [.int u2, .int u1, .ref q0] H uc us := by
  refine xs_i2l rfl ?_
  obtain ⟨n1, f2, h1, h2, h⟩ := h
  refine xs_last rfl h1 h2 ?_
  have h := h _ rfl
  generalize H.set q0 (.inl (2, n1, .inr (.inl (vp_updL f2 (u1.toNatClampNeg) (u2.toInt64))))) = H3 at h ⊢
  refine xs_goto (k' := 15) rfl rfl ?_
  refine xs_iconstV (v := 0) rfl rfl ?_
  exact xs_iret rfl rfl h.1 h.2.1 h.2.2

set_option maxRecDepth 20000 in
theorem b_LA_block_9 {l : Launch} {x : xX} {d mc ms n0 uc us : Nat} {Q : xO → xH → Prop} {cl : Bool} {r0 : Nat} {v1 : Int32} {v2 : Int32} {r3 : Nat} {q0 : Nat} {H : xH}
    (h : uc = mc ∧ us ≤ ms ∧ Q (.inl (some (.int 1))) H) :
    xW l x d mc ms mLA_block n0 Q cl 9 [some (.ref r0), some (.int v1), some (.int v2), some (.ref r3), none] [.ref q0] H uc us := by
  refine xs_astore rfl (L' := [some (.ref r0), some (.int v1), some (.int v2), some (.ref r3), some (.ref q0)]) rfl rfl ?_
  refine xs_iconstV (v := 1) rfl rfl ?_
  exact xs_iret rfl rfl h.1 h.2.1 h.2.2

set_option maxRecDepth 20000 in
theorem b_LA_block_12 {l : Launch} {x : xX} {d mc ms n0 uc us : Nat} {Q : xO → xH → Prop} {cl : Bool} {r0 : Nat} {v1 : Int32} {v2 : Int32} {r3 : Nat} {q0 : Nat} {H : xH}
    (h : uc = mc ∧ us ≤ ms ∧ Q (.inl (some (.int 2))) H) :
    xW l x d mc ms mLA_block n0 Q cl 12 [some (.ref r0), some (.int v1), some (.int v2), some (.ref r3), none] [.ref q0] H uc us := by
  refine xs_astore rfl (L' := [some (.ref r0), some (.int v1), some (.int v2), some (.ref r3), some (.ref q0)]) rfl rfl ?_
  refine xs_iconstV (v := 2) rfl rfl ?_
  exact xs_iret rfl rfl h.1 h.2.1 h.2.2

